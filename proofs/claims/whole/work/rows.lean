section
-- ===== PART A: goes FIRST, ahead of the names: the tables' words, and 'selects' of the private methods out of them =====
/-- a private method of a class that the tables say can be made, by its rows of tables_1 -/
def lw_okq (q : MethodName × Nat) : Prop := (q.1.cls ≠ "java/lang/invoke/MethodHandle" ∧ q.1.cls ≠ "java/lang/invoke/VarHandle") ∧ Cond.instantiable q.1.cls q.2 ∈ tables_1 ∧ Cond.privateMethod q.1 ∈ tables_1 ∧ Cond.instanceMethod q.1 ∈ tables_1
theorem lw_p0 : lw_okq (⟨"Intergreen$Rounds", "findWaysHome", "()V"⟩, 3) := ⟨⟨by decide +kernel, by decide +kernel⟩, List.mem_of_getElem? (i := 157) (by decide +kernel), List.mem_of_getElem? (i := 203) (by decide +kernel), List.mem_of_getElem? (i := 204) (by decide +kernel)⟩
theorem lw_p1 : lw_okq (⟨"Intergreen$Rounds", "findChanges", "()V"⟩, 3) := ⟨⟨by decide +kernel, by decide +kernel⟩, List.mem_of_getElem? (i := 157) (by decide +kernel), List.mem_of_getElem? (i := 207) (by decide +kernel), List.mem_of_getElem? (i := 208) (by decide +kernel)⟩
theorem lw_p2 : lw_okq (⟨"Intergreen$Rounds", "leastHome", "(II)I"⟩, 3) := ⟨⟨by decide +kernel, by decide +kernel⟩, List.mem_of_getElem? (i := 157) (by decide +kernel), List.mem_of_getElem? (i := 233) (by decide +kernel), List.mem_of_getElem? (i := 234) (by decide +kernel)⟩
theorem lw_p3 : lw_okq (⟨"Intergreen$Rounds", "homeBy", "(III)I"⟩, 3) := ⟨⟨by decide +kernel, by decide +kernel⟩, List.mem_of_getElem? (i := 157) (by decide +kernel), List.mem_of_getElem? (i := 238) (by decide +kernel), List.mem_of_getElem? (i := 239) (by decide +kernel)⟩
theorem lw_p4 : lw_okq (⟨"Intergreen$Rounds", "secondsOfGreens", "()I"⟩, 3) := ⟨⟨by decide +kernel, by decide +kernel⟩, List.mem_of_getElem? (i := 157) (by decide +kernel), List.mem_of_getElem? (i := 245) (by decide +kernel), List.mem_of_getElem? (i := 246) (by decide +kernel)⟩
theorem lw_p5 : lw_okq (⟨"Intergreen$Rounds", "secondsOfWay", "(I)I"⟩, 3) := ⟨⟨by decide +kernel, by decide +kernel⟩, List.mem_of_getElem? (i := 157) (by decide +kernel), List.mem_of_getElem? (i := 261) (by decide +kernel), List.mem_of_getElem? (i := 262) (by decide +kernel)⟩
theorem lw_p6 : lw_okq (⟨"Intergreen$Rounds", "stageLeft", "(II)I"⟩, 3) := ⟨⟨by decide +kernel, by decide +kernel⟩, List.mem_of_getElem? (i := 157) (by decide +kernel), List.mem_of_getElem? (i := 265) (by decide +kernel), List.mem_of_getElem? (i := 266) (by decide +kernel)⟩
theorem lw_p7 : lw_okq (⟨"java/lang/Throwable", "fillInStackTrace", "(I)Ljava/lang/Throwable;"⟩, 6) := ⟨⟨by decide +kernel, by decide +kernel⟩, List.mem_of_getElem? (i := 317) (by decide +kernel), List.mem_of_getElem? (i := 315) (by decide +kernel), List.mem_of_getElem? (i := 316) (by decide +kernel)⟩
theorem lw_p8 : lw_okq (⟨"Intergreen", "needPhase", "(I)V"⟩, 4) := ⟨⟨by decide +kernel, by decide +kernel⟩, List.mem_of_getElem? (i := 16) (by decide +kernel), List.mem_of_getElem? (i := 375) (by decide +kernel), List.mem_of_getElem? (i := 376) (by decide +kernel)⟩
theorem lw_p9 : lw_okq (⟨"Intergreen", "needStage", "(I)V"⟩, 4) := ⟨⟨by decide +kernel, by decide +kernel⟩, List.mem_of_getElem? (i := 16) (by decide +kernel), List.mem_of_getElem? (i := 429) (by decide +kernel), List.mem_of_getElem? (i := 430) (by decide +kernel)⟩
theorem lw_p10 : lw_okq (⟨"Intergreen$Lights", "leaveStage", "()V"⟩, 9) := ⟨⟨by decide +kernel, by decide +kernel⟩, List.mem_of_getElem? (i := 117) (by decide +kernel), List.mem_of_getElem? (i := 529) (by decide +kernel), List.mem_of_getElem? (i := 530) (by decide +kernel)⟩
theorem lw_p11 : lw_okq (⟨"Intergreen$Lights", "stageForTram", "()I"⟩, 9) := ⟨⟨by decide +kernel, by decide +kernel⟩, List.mem_of_getElem? (i := 117) (by decide +kernel), List.mem_of_getElem? (i := 533) (by decide +kernel), List.mem_of_getElem? (i := 534) (by decide +kernel)⟩
theorem lw_p12 : lw_okq (⟨"Intergreen$Lights", "stageOnDemand", "()I"⟩, 9) := ⟨⟨by decide +kernel, by decide +kernel⟩, List.mem_of_getElem? (i := 117) (by decide +kernel), List.mem_of_getElem? (i := 539) (by decide +kernel), List.mem_of_getElem? (i := 540) (by decide +kernel)⟩
theorem lw_p13 : lw_okq (⟨"Intergreen$Lights", "mayEnd", "(IZ)Z"⟩, 9) := ⟨⟨by decide +kernel, by decide +kernel⟩, List.mem_of_getElem? (i := 117) (by decide +kernel), List.mem_of_getElem? (i := 548) (by decide +kernel), List.mem_of_getElem? (i := 549) (by decide +kernel)⟩
theorem lw_p14 : lw_okq (⟨"Intergreen$Lights", "endGreens", "(I)V"⟩, 9) := ⟨⟨by decide +kernel, by decide +kernel⟩, List.mem_of_getElem? (i := 117) (by decide +kernel), List.mem_of_getElem? (i := 556) (by decide +kernel), List.mem_of_getElem? (i := 557) (by decide +kernel)⟩
theorem lw_p15 : lw_okq (⟨"Intergreen$Lights", "enterStage", "()V"⟩, 9) := ⟨⟨by decide +kernel, by decide +kernel⟩, List.mem_of_getElem? (i := 117) (by decide +kernel), List.mem_of_getElem? (i := 564) (by decide +kernel), List.mem_of_getElem? (i := 565) (by decide +kernel)⟩
def lw_privs_1 : List (MethodName × Nat) := [(⟨"Intergreen$Rounds", "findWaysHome", "()V"⟩, 3), (⟨"Intergreen$Rounds", "findChanges", "()V"⟩, 3), (⟨"Intergreen$Rounds", "leastHome", "(II)I"⟩, 3), (⟨"Intergreen$Rounds", "homeBy", "(III)I"⟩, 3), (⟨"Intergreen$Rounds", "secondsOfGreens", "()I"⟩, 3), (⟨"Intergreen$Rounds", "secondsOfWay", "(I)I"⟩, 3), (⟨"Intergreen$Rounds", "stageLeft", "(II)I"⟩, 3), (⟨"java/lang/Throwable", "fillInStackTrace", "(I)Ljava/lang/Throwable;"⟩, 6), (⟨"Intergreen", "needPhase", "(I)V"⟩, 4), (⟨"Intergreen", "needStage", "(I)V"⟩, 4), (⟨"Intergreen$Lights", "leaveStage", "()V"⟩, 9), (⟨"Intergreen$Lights", "stageForTram", "()I"⟩, 9), (⟨"Intergreen$Lights", "stageOnDemand", "()I"⟩, 9), (⟨"Intergreen$Lights", "mayEnd", "(IZ)Z"⟩, 9), (⟨"Intergreen$Lights", "endGreens", "(I)V"⟩, 9), (⟨"Intergreen$Lights", "enterStage", "()V"⟩, 9)]
theorem lw_r1 : ∀ q ∈ lw_privs_1, lw_okq q := List.forall_mem_cons.mpr ⟨lw_p0, List.forall_mem_cons.mpr ⟨lw_p1, List.forall_mem_cons.mpr ⟨lw_p2, List.forall_mem_cons.mpr ⟨lw_p3, List.forall_mem_cons.mpr ⟨lw_p4, List.forall_mem_cons.mpr ⟨lw_p5, List.forall_mem_cons.mpr ⟨lw_p6, List.forall_mem_cons.mpr ⟨lw_p7, List.forall_mem_cons.mpr ⟨lw_p8, List.forall_mem_cons.mpr ⟨lw_p9, List.forall_mem_cons.mpr ⟨lw_p10, List.forall_mem_cons.mpr ⟨lw_p11, List.forall_mem_cons.mpr ⟨lw_p12, List.forall_mem_cons.mpr ⟨lw_p13, List.forall_mem_cons.mpr ⟨lw_p14, List.forall_mem_cons.mpr ⟨lw_p15, fun _ h => absurd h List.not_mem_nil⟩⟩⟩⟩⟩⟩⟩⟩⟩⟩⟩⟩⟩⟩⟩⟩
theorem lw_p16 : lw_okq (⟨"Intergreen$Lights", "mayBegin", "(I)Z"⟩, 9) := ⟨⟨by decide +kernel, by decide +kernel⟩, List.mem_of_getElem? (i := 117) (by decide +kernel), List.mem_of_getElem? (i := 568) (by decide +kernel), List.mem_of_getElem? (i := 569) (by decide +kernel)⟩
theorem lw_p17 : lw_okq (⟨"Intergreen$Lights", "fadeAmbers", "()V"⟩, 9) := ⟨⟨by decide +kernel, by decide +kernel⟩, List.mem_of_getElem? (i := 117) (by decide +kernel), List.mem_of_getElem? (i := 580) (by decide +kernel), List.mem_of_getElem? (i := 581) (by decide +kernel)⟩
theorem lw_p18 : lw_okq (⟨"Intergreen$Lights", "watch", "()V"⟩, 9) := ⟨⟨by decide +kernel, by decide +kernel⟩, List.mem_of_getElem? (i := 117) (by decide +kernel), List.mem_of_getElem? (i := 588) (by decide +kernel), List.mem_of_getElem? (i := 589) (by decide +kernel)⟩
theorem lw_p19 : lw_okq (⟨"Intergreen$Lights", "isAgainstLit", "(I)Z"⟩, 9) := ⟨⟨by decide +kernel, by decide +kernel⟩, List.mem_of_getElem? (i := 117) (by decide +kernel), List.mem_of_getElem? (i := 594) (by decide +kernel), List.mem_of_getElem? (i := 595) (by decide +kernel)⟩
theorem lw_p20 : lw_okq (⟨"Intergreen$Lights", "writeLog", "()V"⟩, 9) := ⟨⟨by decide +kernel, by decide +kernel⟩, List.mem_of_getElem? (i := 117) (by decide +kernel), List.mem_of_getElem? (i := 603) (by decide +kernel), List.mem_of_getElem? (i := 604) (by decide +kernel)⟩
theorem lw_p21 : lw_okq (⟨"Intergreen$Lights", "movePhases", "()V"⟩, 9) := ⟨⟨by decide +kernel, by decide +kernel⟩, List.mem_of_getElem? (i := 117) (by decide +kernel), List.mem_of_getElem? (i := 622) (by decide +kernel), List.mem_of_getElem? (i := 623) (by decide +kernel)⟩
theorem lw_p22 : lw_okq (⟨"Intergreen$Phase", "letOneGo", "()I"⟩, 12) := ⟨⟨by decide +kernel, by decide +kernel⟩, List.mem_of_getElem? (i := 33) (by decide +kernel), List.mem_of_getElem? (i := 630) (by decide +kernel), List.mem_of_getElem? (i := 631) (by decide +kernel)⟩
theorem lw_p23 : lw_okq (⟨"Intergreen$Lights", "addQueues", "()V"⟩, 9) := ⟨⟨by decide +kernel, by decide +kernel⟩, List.mem_of_getElem? (i := 117) (by decide +kernel), List.mem_of_getElem? (i := 636) (by decide +kernel), List.mem_of_getElem? (i := 637) (by decide +kernel)⟩
theorem lw_p24 : lw_okq (⟨"Intergreen$Rounds", "firstOfBest", "(II)I"⟩, 3) := ⟨⟨by decide +kernel, by decide +kernel⟩, List.mem_of_getElem? (i := 157) (by decide +kernel), List.mem_of_getElem? (i := 711) (by decide +kernel), List.mem_of_getElem? (i := 712) (by decide +kernel)⟩
theorem lw_p25 : lw_okq (⟨"IntergreenModel", "goesWell", "(I)Z"⟩, 27) := ⟨⟨by decide +kernel, by decide +kernel⟩, List.mem_of_getElem? (i := 715) (by decide +kernel), List.mem_of_getElem? (i := 815) (by decide +kernel), List.mem_of_getElem? (i := 816) (by decide +kernel)⟩
theorem lw_p26 : lw_okq (⟨"IntergreenModel", "isPhase", "(I)Z"⟩, 27) := ⟨⟨by decide +kernel, by decide +kernel⟩, List.mem_of_getElem? (i := 715) (by decide +kernel), List.mem_of_getElem? (i := 823) (by decide +kernel), List.mem_of_getElem? (i := 824) (by decide +kernel)⟩
theorem lw_p27 : lw_okq (⟨"IntergreenModel", "areInOne", "(II)Z"⟩, 27) := ⟨⟨by decide +kernel, by decide +kernel⟩, List.mem_of_getElem? (i := 715) (by decide +kernel), List.mem_of_getElem? (i := 827) (by decide +kernel), List.mem_of_getElem? (i := 828) (by decide +kernel)⟩
theorem lw_p28 : lw_okq (⟨"IntergreenModel", "meetAny", "(I)Z"⟩, 27) := ⟨⟨by decide +kernel, by decide +kernel⟩, List.mem_of_getElem? (i := 715) (by decide +kernel), List.mem_of_getElem? (i := 838) (by decide +kernel), List.mem_of_getElem? (i := 839) (by decide +kernel)⟩
theorem lw_p29 : lw_okq (⟨"IntergreenModel", "isStage", "(I)Z"⟩, 27) := ⟨⟨by decide +kernel, by decide +kernel⟩, List.mem_of_getElem? (i := 715) (by decide +kernel), List.mem_of_getElem? (i := 846) (by decide +kernel), List.mem_of_getElem? (i := 847) (by decide +kernel)⟩
theorem lw_p30 : lw_okq (⟨"IntergreenModel", "darken", "(I)V"⟩, 27) := ⟨⟨by decide +kernel, by decide +kernel⟩, List.mem_of_getElem? (i := 715) (by decide +kernel), List.mem_of_getElem? (i := 854) (by decide +kernel), List.mem_of_getElem? (i := 855) (by decide +kernel)⟩
theorem lw_p31 : lw_okq (⟨"IntergreenModel", "isDemanded", "(I)Z"⟩, 27) := ⟨⟨by decide +kernel, by decide +kernel⟩, List.mem_of_getElem? (i := 715) (by decide +kernel), List.mem_of_getElem? (i := 862) (by decide +kernel), List.mem_of_getElem? (i := 863) (by decide +kernel)⟩
def lw_privs_2 : List (MethodName × Nat) := [(⟨"Intergreen$Lights", "mayBegin", "(I)Z"⟩, 9), (⟨"Intergreen$Lights", "fadeAmbers", "()V"⟩, 9), (⟨"Intergreen$Lights", "watch", "()V"⟩, 9), (⟨"Intergreen$Lights", "isAgainstLit", "(I)Z"⟩, 9), (⟨"Intergreen$Lights", "writeLog", "()V"⟩, 9), (⟨"Intergreen$Lights", "movePhases", "()V"⟩, 9), (⟨"Intergreen$Phase", "letOneGo", "()I"⟩, 12), (⟨"Intergreen$Lights", "addQueues", "()V"⟩, 9), (⟨"Intergreen$Rounds", "firstOfBest", "(II)I"⟩, 3), (⟨"IntergreenModel", "goesWell", "(I)Z"⟩, 27), (⟨"IntergreenModel", "isPhase", "(I)Z"⟩, 27), (⟨"IntergreenModel", "areInOne", "(II)Z"⟩, 27), (⟨"IntergreenModel", "meetAny", "(I)Z"⟩, 27), (⟨"IntergreenModel", "isStage", "(I)Z"⟩, 27), (⟨"IntergreenModel", "darken", "(I)V"⟩, 27), (⟨"IntergreenModel", "isDemanded", "(I)Z"⟩, 27)]
theorem lw_r2 : ∀ q ∈ lw_privs_2, lw_okq q := List.forall_mem_cons.mpr ⟨lw_p16, List.forall_mem_cons.mpr ⟨lw_p17, List.forall_mem_cons.mpr ⟨lw_p18, List.forall_mem_cons.mpr ⟨lw_p19, List.forall_mem_cons.mpr ⟨lw_p20, List.forall_mem_cons.mpr ⟨lw_p21, List.forall_mem_cons.mpr ⟨lw_p22, List.forall_mem_cons.mpr ⟨lw_p23, List.forall_mem_cons.mpr ⟨lw_p24, List.forall_mem_cons.mpr ⟨lw_p25, List.forall_mem_cons.mpr ⟨lw_p26, List.forall_mem_cons.mpr ⟨lw_p27, List.forall_mem_cons.mpr ⟨lw_p28, List.forall_mem_cons.mpr ⟨lw_p29, List.forall_mem_cons.mpr ⟨lw_p30, List.forall_mem_cons.mpr ⟨lw_p31, fun _ h => absurd h List.not_mem_nil⟩⟩⟩⟩⟩⟩⟩⟩⟩⟩⟩⟩⟩⟩⟩⟩
theorem lw_p32 : lw_okq (⟨"IntergreenModel", "goOne", "()V"⟩, 27) := ⟨⟨by decide +kernel, by decide +kernel⟩, List.mem_of_getElem? (i := 715) (by decide +kernel), List.mem_of_getElem? (i := 886) (by decide +kernel), List.mem_of_getElem? (i := 887) (by decide +kernel)⟩
theorem lw_p33 : lw_okq (⟨"IntergreenModel", "leave", "()V"⟩, 27) := ⟨⟨by decide +kernel, by decide +kernel⟩, List.mem_of_getElem? (i := 715) (by decide +kernel), List.mem_of_getElem? (i := 890) (by decide +kernel), List.mem_of_getElem? (i := 891) (by decide +kernel)⟩
theorem lw_p34 : lw_okq (⟨"IntergreenModel", "askedStage", "()I"⟩, 27) := ⟨⟨by decide +kernel, by decide +kernel⟩, List.mem_of_getElem? (i := 715) (by decide +kernel), List.mem_of_getElem? (i := 894) (by decide +kernel), List.mem_of_getElem? (i := 895) (by decide +kernel)⟩
theorem lw_p35 : lw_okq (⟨"IntergreenModel", "demandedStage", "()I"⟩, 27) := ⟨⟨by decide +kernel, by decide +kernel⟩, List.mem_of_getElem? (i := 715) (by decide +kernel), List.mem_of_getElem? (i := 898) (by decide +kernel), List.mem_of_getElem? (i := 899) (by decide +kernel)⟩
theorem lw_p36 : lw_okq (⟨"IntergreenModel", "isWished", "(I)Z"⟩, 27) := ⟨⟨by decide +kernel, by decide +kernel⟩, List.mem_of_getElem? (i := 715) (by decide +kernel), List.mem_of_getElem? (i := 902) (by decide +kernel), List.mem_of_getElem? (i := 903) (by decide +kernel)⟩
theorem lw_p37 : lw_okq (⟨"IntergreenModel", "begin", "()V"⟩, 27) := ⟨⟨by decide +kernel, by decide +kernel⟩, List.mem_of_getElem? (i := 715) (by decide +kernel), List.mem_of_getElem? (i := 906) (by decide +kernel), List.mem_of_getElem? (i := 907) (by decide +kernel)⟩
theorem lw_p38 : lw_okq (⟨"IntergreenModel", "canBegin", "(I)Z"⟩, 27) := ⟨⟨by decide +kernel, by decide +kernel⟩, List.mem_of_getElem? (i := 715) (by decide +kernel), List.mem_of_getElem? (i := 910) (by decide +kernel), List.mem_of_getElem? (i := 911) (by decide +kernel)⟩
theorem lw_p39 : lw_okq (⟨"IntergreenModel", "isDangerous", "()Z"⟩, 27) := ⟨⟨by decide +kernel, by decide +kernel⟩, List.mem_of_getElem? (i := 715) (by decide +kernel), List.mem_of_getElem? (i := 914) (by decide +kernel), List.mem_of_getElem? (i := 915) (by decide +kernel)⟩
theorem lw_p40 : lw_okq (⟨"IntergreenModel", "write", "()V"⟩, 27) := ⟨⟨by decide +kernel, by decide +kernel⟩, List.mem_of_getElem? (i := 715) (by decide +kernel), List.mem_of_getElem? (i := 918) (by decide +kernel), List.mem_of_getElem? (i := 919) (by decide +kernel)⟩
theorem lw_p41 : lw_okq (⟨"IntergreenModel", "move", "(I)V"⟩, 27) := ⟨⟨by decide +kernel, by decide +kernel⟩, List.mem_of_getElem? (i := 715) (by decide +kernel), List.mem_of_getElem? (i := 922) (by decide +kernel), List.mem_of_getElem? (i := 923) (by decide +kernel)⟩
theorem lw_p42 : lw_okq (⟨"IntergreenModel", "shown", "(II)I"⟩, 27) := ⟨⟨by decide +kernel, by decide +kernel⟩, List.mem_of_getElem? (i := 715) (by decide +kernel), List.mem_of_getElem? (i := 930) (by decide +kernel), List.mem_of_getElem? (i := 931) (by decide +kernel)⟩
theorem lw_p43 : lw_okq (⟨"IntergreenModel", "changeOf", "(II)I"⟩, 27) := ⟨⟨by decide +kernel, by decide +kernel⟩, List.mem_of_getElem? (i := 715) (by decide +kernel), List.mem_of_getElem? (i := 958) (by decide +kernel), List.mem_of_getElem? (i := 959) (by decide +kernel)⟩
theorem lw_p44 : lw_okq (⟨"IntergreenModel", "shortest", "()I"⟩, 27) := ⟨⟨by decide +kernel, by decide +kernel⟩, List.mem_of_getElem? (i := 715) (by decide +kernel), List.mem_of_getElem? (i := 966) (by decide +kernel), List.mem_of_getElem? (i := 967) (by decide +kernel)⟩
theorem lw_p45 : lw_okq (⟨"IntergreenModel", "isNew", "(I)Z"⟩, 27) := ⟨⟨by decide +kernel, by decide +kernel⟩, List.mem_of_getElem? (i := 715) (by decide +kernel), List.mem_of_getElem? (i := 970) (by decide +kernel), List.mem_of_getElem? (i := 971) (by decide +kernel)⟩
theorem lw_p46 : lw_okq (⟨"IntergreenModel", "takes", "()I"⟩, 27) := ⟨⟨by decide +kernel, by decide +kernel⟩, List.mem_of_getElem? (i := 715) (by decide +kernel), List.mem_of_getElem? (i := 974) (by decide +kernel), List.mem_of_getElem? (i := 975) (by decide +kernel)⟩
theorem lw_p47 : lw_okq (⟨"IntergreenModel", "leastOf", "(I)I"⟩, 27) := ⟨⟨by decide +kernel, by decide +kernel⟩, List.mem_of_getElem? (i := 715) (by decide +kernel), List.mem_of_getElem? (i := 978) (by decide +kernel), List.mem_of_getElem? (i := 979) (by decide +kernel)⟩
def lw_privs_3 : List (MethodName × Nat) := [(⟨"IntergreenModel", "goOne", "()V"⟩, 27), (⟨"IntergreenModel", "leave", "()V"⟩, 27), (⟨"IntergreenModel", "askedStage", "()I"⟩, 27), (⟨"IntergreenModel", "demandedStage", "()I"⟩, 27), (⟨"IntergreenModel", "isWished", "(I)Z"⟩, 27), (⟨"IntergreenModel", "begin", "()V"⟩, 27), (⟨"IntergreenModel", "canBegin", "(I)Z"⟩, 27), (⟨"IntergreenModel", "isDangerous", "()Z"⟩, 27), (⟨"IntergreenModel", "write", "()V"⟩, 27), (⟨"IntergreenModel", "move", "(I)V"⟩, 27), (⟨"IntergreenModel", "shown", "(II)I"⟩, 27), (⟨"IntergreenModel", "changeOf", "(II)I"⟩, 27), (⟨"IntergreenModel", "shortest", "()I"⟩, 27), (⟨"IntergreenModel", "isNew", "(I)Z"⟩, 27), (⟨"IntergreenModel", "takes", "()I"⟩, 27), (⟨"IntergreenModel", "leastOf", "(I)I"⟩, 27)]
theorem lw_r3 : ∀ q ∈ lw_privs_3, lw_okq q := List.forall_mem_cons.mpr ⟨lw_p32, List.forall_mem_cons.mpr ⟨lw_p33, List.forall_mem_cons.mpr ⟨lw_p34, List.forall_mem_cons.mpr ⟨lw_p35, List.forall_mem_cons.mpr ⟨lw_p36, List.forall_mem_cons.mpr ⟨lw_p37, List.forall_mem_cons.mpr ⟨lw_p38, List.forall_mem_cons.mpr ⟨lw_p39, List.forall_mem_cons.mpr ⟨lw_p40, List.forall_mem_cons.mpr ⟨lw_p41, List.forall_mem_cons.mpr ⟨lw_p42, List.forall_mem_cons.mpr ⟨lw_p43, List.forall_mem_cons.mpr ⟨lw_p44, List.forall_mem_cons.mpr ⟨lw_p45, List.forall_mem_cons.mpr ⟨lw_p46, List.forall_mem_cons.mpr ⟨lw_p47, fun _ h => absurd h List.not_mem_nil⟩⟩⟩⟩⟩⟩⟩⟩⟩⟩⟩⟩⟩⟩⟩⟩
def lw_privs : List (MethodName × Nat) := lw_privs_1 ++ (lw_privs_2 ++ (lw_privs_3))
def lw_tbl : List Cond := k2_sels lw_privs ++ tables_1
theorem lw_privs_ok : ∀ q ∈ lw_privs, lw_okq q := by
  show ∀ q ∈ lw_privs_1 ++ (lw_privs_2 ++ (lw_privs_3)), lw_okq q
  exact List.forall_mem_append.mpr ⟨lw_r1, List.forall_mem_append.mpr ⟨lw_r2, lw_r3⟩⟩
/-- the streams that the claim lets the run draw from -/
abbrev lw_cs : List Choice := [Jvm.Choice.named "NaN.bits"]
theorem lw_bits : nanBits ∈ lw_cs := by first | decide | exact List.mem_cons_self | simp [lw_cs, nanBits]
end
section
/-- there is an array class over an array class: the word, said of a state (the printed names speak of it and don't have it) -/
def ig_AOA (t : FieldType) (U : State) : Prop := (Cond.arrayOver (.array t)).before #[] U = true
/-! ===== BEGIN words of one list among another's, by their places ===== -/
theorem goodIn_r {big : List Cond} (ws : List Cond) (ps : List Nat) (hp : ws = ps.filterMap (fun i => big[i]?)) (h : ws.all goodWord = true) : GoodIn big ws := by
  intro w hw
  have h1 := List.all_eq_true.mp h w hw
  rw [hp] at hw
  obtain ⟨i, -, hi⟩ := List.mem_filterMap.mp hw
  have hm : w ∈ big := by first | exact List.mem_of_getElem? hi | exact List.getElem?_mem hi
  exact ⟨hm, good_of_word h1⟩
theorem goodIn_app {big a b : List Cond} (ha : GoodIn big a) (hb : GoodIn big b) : GoodIn big (a ++ b) := fun w h => (List.mem_append.mp h).elim (ha w) (hb w)
theorem goodIn_ca {big a b : List Cond} {c : Cond} (ha : GoodIn big (c :: a)) (hb : GoodIn big b) : GoodIn big (c :: (a ++ b)) := fun w h => (List.mem_cons.mp h).elim (fun e => ha w (List.mem_cons.mpr (Or.inl e))) (fun h => (List.mem_append.mp h).elim (fun h => ha w (List.mem_cons.mpr (Or.inr h))) (hb w))
theorem goodIn_sub {big ws : List Cond} (hm : ∀ w ∈ ws, w ∈ big) (h : ws.all goodWord = true) : GoodIn big ws := fun w hw => ⟨hm w hw, good_of_word (List.all_eq_true.mp h w hw)⟩
/-! ===== END ===== -/

/-! ===== BEGIN new T[n][m]: the outer array a place, the inner ones among the pooled ===== -/
/-- f, but v at every address of l -/
def vr_up {α : Type} (f : Nat → α) (l : List Nat) (v : α) : Nat → α := fun a => if a ∈ l then v else f a
theorem vr_up_in {α : Type} {f : Nat → α} {l : List Nat} {v : α} {a : Nat} (h : a ∈ l) : vr_up f l v a = v := if_pos h
theorem vr_up_ne {α : Type} {f : Nat → α} {l : List Nat} {v : α} {a : Nat} (h : a ∉ l) : vr_up f l v a = f a := if_neg h
theorem vr_rows {L l : List Nat} {f : Nat → va_E} {e : va_E} (h : ∀ a, a ∈ l → a ∉ L) : va_pl L f ++ l.map (fun a => (a, e)) = va_pl (L ++ l) (vr_up f l e) := by
  unfold va_pl
  rw [List.map_append]
  congr 1
  · apply List.map_congr_left
    intro a ha
    rw [vr_up_ne (fun q => h a q ha)]
  · apply List.map_congr_left
    intro a ha
    rw [vr_up_in ha]
theorem vr_lay {X rows : va_W} {x : Nat × va_E} {pl : va_W} {D : va_G} {cl : List vw_C} {H : Heap} (hP : va_P D cl (((X ++ pl) ++ [x]) ++ rows) H) : va_P D cl ((X ++ [x]) ++ (pl ++ rows)) H := by
  rw [List.append_assoc (X ++ pl)] at hP
  have h := va_P.swap hP
  rw [← List.append_assoc X] at h
  have h2 := va_P.swap h
  rw [List.append_assoc (X ++ [x])] at h2
  exact h2
theorem vr_layD {X rows : va_W} {x : Nat × va_E} {pl : va_W} {A : Nat → Prop} (hD : va_D A (((X ++ pl) ++ [x]) ++ rows)) : va_D A ((X ++ [x]) ++ (pl ++ rows)) := by
  rw [List.append_assoc (X ++ pl)] at hD
  have h := va_D.swap hD
  rw [← List.append_assoc X] at h
  have h2 := va_D.swap h
  rw [List.append_assoc (X ++ [x])] at h2
  exact h2
theorem vr_outer (c : ClassId) (N h0 : Nat) : ∀ i : Nat, Jvm.Free.Multi.outerC c N h0 i = arrV c N (fun j => va_rf (if j < i then some (h0 + 1 + j) else none))
  | 0 => by
    show ({ cls := c, slots := Array.replicate N .null, vm := .none } : Cell) = _
    rw [arrV_new]
    refine congrArg (arrV c N) (funext fun j => ?_)
    simp [va_rf]
  | i + 1 => by
    show (Jvm.Free.Multi.outerC c N h0 i).setSlot i (.ref (h0 + 1 + i)) = _
    rw [vr_outer c N h0 i, arrV_store]
    refine congrArg (arrV c N) (funext fun j => ?_)
    by_cases e : j = i
    · subst e
      simp [updV, va_rf]
    · by_cases h : j < i
      · simp [updV, e, h, Nat.lt_succ_of_lt h]
      · simp [updV, e, h, show ¬ j < i + 1 by omega]
section VGM
variable {p : Program} {l : Launch} {e : Env} {R : Room} {s : State} {m : MethodId} {args : Array Value} {below : List Frame} {meth : Method} {c : Code} {H : Heap} {locs : List Loc} {cells slots : Nat} {Q : State → Prop}
variable {cc : ByteArray} {pc : Nat} {ls : Array Slot} {rest : List Value} {D : va_G} {cl : List vw_C} {A : Nat → Prop} {a : Nat} {tys : List (ClassId × FieldType)} {ws : va_W} {H0 : Heap}
theorem ig_AOA.use {t : FieldType} {A : Array Value} {U : State} (h : ig_AOA t U) : (Cond.arrayOver (.array t)).before A U = true := h
theorem va_mna {X : va_W} {L : List Nat} {f : Nat → va_E} {cc : ByteArray} (hexec : p.tables.exec = Jvm.exec) (hb : c.code = cc) {own : String} {index : Nat} {ty : FieldType} {cy : ClassId} (hown : s.vm.findClass own = some m.cls) (hclink : (Cond.classLink own index ("[" ++ (FieldType.array ty).toString)).before args s = true) (hover : ig_AOA ty s) (harr : (Cond.arrayClass ty).before args s = true) (hcy : s.vm.findClass (FieldType.array ty).toString = some cy)
    (hK : va_K D cl tys s) (hP : va_P D cl (X ++ va_pl L f) H) (hD : va_D A (X ++ va_pl L f)) (hS : va_S A H0 H locs) (hA : ∀ q, H0.size ≤ q → A q) {n k : Int32} {N' K' : Nat} {z : vp_A} (hn : ¬ n < 0) (hk : ¬ k < 0) (hN : n.toNatClampNeg = N') (hM : k.toNatClampNeg = K')
    (hb1 : N' * 4 ≤ 536870912) (hb2 : K' * componentBytes ty ≤ 536870912) (hb3 : K' ≤ 536870912) (hdf : fits ty (defaultValue ty) = true) (hdd : (defaultValue ty).isDefault = true) (hcells : cells + (1 + N') ≤ R.cells) (hslots : slots + (N' + N' * K') ≤ R.slots) (hz : ∀ c : ClassId, Jvm.Free.Multi.innerC c K' (defaultValue ty) = vp_cell c z) (hdg : decode cc pc = .ok (.multianewarray index 2, 4))
    (kk : ∀ (q : Nat) (r : Nat → Nat) (cA : ClassId) (H1 : Heap), (∀ i j : Nat, i < N' → j < N' → r i = r j → i = j) → (∀ i : Nat, i < N' → r i ∉ L) → va_K D cl (tys ++ [(cA, .array ty)]) s →
      va_P D cl ((X ++ [(q, .inl (cA, N', .inr (.inr (.inr (.inr (fun i => if i < N' then some (r i) else none))))))]) ++ va_pl (L ++ (List.range N').map r) (vr_up f ((List.range N').map r) (.inl (cy, z)))) H1 → va_D A ((X ++ [(q, .inl (cA, N', .inr (.inr (.inr (.inr (fun i => if i < N' then some (r i) else none))))))]) ++ va_pl (L ++ (List.range N').map r) (vr_up f ((List.range N').map r) (.inl (cy, z)))) → va_S A H0 H1 locs →
      W p l e R s m args below meth c H1 locs (cells + 1 + N') (slots + N' + N' * K') Q (F0 m (pc + 4) ls (.ref q :: rest))) : W p l e R s m args below meth c H locs cells slots Q (F0 m pc ls (.int k :: .int n :: rest)) := by
  subst hN
  subst hM
  intro T hT Xs
  obtain ⟨vm₁, cA, comp, -, fA, fC, hO, -, X', step⟩ := Xs.multianewarray2F hexec hown hclink (ig_AOA.use hover) harr (g := F0 m pc ls (.int k :: .int n :: rest)) rfl (by rw [hb]; exact hdg) rfl hn hk hb1 hb2 hb3 hdf hdd hcells hslots
  have ec : some cy = some comp := hcy.symm.trans fC
  cases ec
  generalize hF : Jvm.Free.Multi.fill (T.setVm vm₁) cA cy n.toNatClampNeg k.toNatClampNeg (defaultValue ty) n.toNatClampNeg = F at X' step
  have hTh : (T.setVm vm₁).heap = H := hT
  obtain ⟨f1, f2, -, -⟩ := Jvm.Free.Multi.fill_facts (T.setVm vm₁) cA cy n.toNatClampNeg k.toNatClampNeg (defaultValue ty) n.toNatClampNeg
  rw [hF, hTh] at f1 f2
  have hold : ∀ x : Nat, x < H.size → F.heap[x]? = H[x]? := fun x hx => by
    have := Jvm.Free.Multi.fill_old (T.setVm vm₁) cA cy n.toNatClampNeg k.toNatClampNeg (defaultValue ty) (a := x) (by rw [hTh]; exact hx) n.toNatClampNeg
    rw [hF, hTh] at this
    exact this
  have hrow : ∀ j : Nat, j < n.toNatClampNeg → F.heap[H.size + 1 + j]? = some (vp_cell cy z) := fun j hj => by
    have := Jvm.Free.Multi.fill_inner (T.setVm vm₁) cA cy n.toNatClampNeg k.toNatClampNeg (defaultValue ty) n.toNatClampNeg j hj
    rw [hF, hTh, hz] at this
    exact this
  have hout : Jvm.Free.Multi.outerC cA n.toNatClampNeg H.size n.toNatClampNeg = vp_cell cA (n.toNatClampNeg, .inr (.inr (.inr (.inr (fun i => if i < n.toNatClampNeg then some (H.size + 1 + i) else none))))) := by
    rw [vp_cell_q]
    exact vr_outer cA n.toNatClampNeg H.size n.toNatClampNeg
  rw [hout] at f2
  have hlt : ∀ a, a ∈ L → a < H.size := fun a ha => by
    obtain ⟨k9, hk9⟩ := va_pl_get (X := X) (f := f) ha
    exact (hP k9 _ hk9).lt
  have hnl : ∀ i : Nat, i < n.toNatClampNeg → H.size + 1 + i ∉ L := fun i _ h => by
    have := hlt _ h
    omega
  have hnm : ∀ a, a ∈ (List.range n.toNatClampNeg).map (fun i => H.size + 1 + i) → a ∉ L := fun a ha h => by
    obtain ⟨i, -, rfl⟩ := List.mem_map.mp ha
    have := hlt _ h
    omega
  have hP0 : va_P D cl (X ++ va_pl L f) F.heap := hP.kept (fun k9 x hx => hold x.1 ((hP k9 x hx).lt))
  have hP1 : va_P D cl ((X ++ va_pl L f) ++ [(H.size, .inl (cA, n.toNatClampNeg, .inr (.inr (.inr (.inr (fun i => if i < n.toNatClampNeg then some (H.size + 1 + i) else none))))))]) F.heap := hP0.app (fun k9 x hx => by
    have h0 : k9 < 1 := (List.getElem?_eq_some_iff.mp hx).1
    rw [show k9 = 0 by omega] at hx
    cases hx
    exact f2)
  have hP2 : va_P D cl (((X ++ va_pl L f) ++ [(H.size, .inl (cA, n.toNatClampNeg, .inr (.inr (.inr (.inr (fun i => if i < n.toNatClampNeg then some (H.size + 1 + i) else none))))))]) ++ ((List.range n.toNatClampNeg).map (fun i => H.size + 1 + i)).map (fun a => (a, .inl (cy, z)))) F.heap := hP1.app (fun k9 x hx => by
    obtain ⟨a, ha, rfl⟩ := List.mem_map.mp (List.mem_of_getElem? hx)
    obtain ⟨i, hi, rfl⟩ := List.mem_map.mp ha
    exact hrow i (List.mem_range.mp hi))
  have hD2 : va_D A (((X ++ va_pl L f) ++ [(H.size, .inl (cA, n.toNatClampNeg, .inr (.inr (.inr (.inr (fun i => if i < n.toNatClampNeg then some (H.size + 1 + i) else none))))))]) ++ ((List.range n.toNatClampNeg).map (fun i => H.size + 1 + i)).map (fun a => (a, .inl (cy, z)))) := by
    have hD1 := hD.push (e := .inl (cA, n.toNatClampNeg, .inr (.inr (.inr (.inr (fun i => if i < n.toNatClampNeg then some (H.size + 1 + i) else none)))))) hP rfl (hA _ hS.1)
    generalize hW1 : (X ++ va_pl L f) ++ [(H.size, .inl (cA, n.toNatClampNeg, .inr (.inr (.inr (.inr (fun i => if i < n.toNatClampNeg then some (H.size + 1 + i) else none))))))] = W1 at hD1 hP1 ⊢
    have hle : ∀ (k9 : Nat) (x : Nat × va_E), W1[k9]? = some x → x.1 ≤ H.size := fun k9 x hx => by
      rw [← hW1] at hx
      by_cases hl : k9 < (X ++ va_pl L f).length
      · rw [List.getElem?_append_left hl] at hx
        exact Nat.le_of_lt ((hP k9 x hx).lt)
      · rw [List.getElem?_append_right (by omega)] at hx
        have h0 : k9 - (X ++ va_pl L f).length < 1 := (List.getElem?_eq_some_iff.mp hx).1
        rw [show k9 - (X ++ va_pl L f).length = 0 by omega] at hx
        cases hx
        exact Nat.le_refl _
    have hr : ∀ (k9 : Nat) (x : Nat × va_E), (((List.range n.toNatClampNeg).map (fun i => H.size + 1 + i)).map (fun a => ((a, .inl (cy, z)) : Nat × va_E)))[k9]? = some x → x.1 = H.size + 1 + k9 := fun k9 x hx => by
      rw [List.getElem?_map, List.getElem?_map] at hx
      by_cases h9 : k9 < n.toNatClampNeg
      · rw [List.getElem?_range h9] at hx
        cases hx
        rfl
      · have hn0 : (List.range n.toNatClampNeg)[k9]? = none := List.getElem?_eq_none (by rw [List.length_range]; omega)
        rw [hn0] at hx
        cases hx
    refine ⟨fun i j x y hi hj hxy => ?_, fun k9 x hx => ?_⟩
    · by_cases h1 : i < W1.length <;> by_cases h2 : j < W1.length
      · rw [List.getElem?_append_left h1] at hi
        rw [List.getElem?_append_left h2] at hj
        exact hD1.1 i j x y hi hj hxy
      · rw [List.getElem?_append_left h1] at hi
        rw [List.getElem?_append_right (by omega)] at hj
        have := hle _ _ hi
        have := hr _ _ hj
        omega
      · rw [List.getElem?_append_right (by omega)] at hi
        rw [List.getElem?_append_left h2] at hj
        have := hle _ _ hj
        have := hr _ _ hi
        omega
      · rw [List.getElem?_append_right (by omega)] at hi hj
        have := hr _ _ hi
        have := hr _ _ hj
        omega
    · by_cases h1 : k9 < W1.length
      · rw [List.getElem?_append_left h1] at hx
        exact hD1.2 k9 x hx
      · rw [List.getElem?_append_right (by omega)] at hx
        have := hr _ _ hx
        exact hA _ (by have := hS.1; omega)
  have hAr : ArrOfT s cA (.array ty) := fun N9 z9 => by
    obtain ⟨-, k9, hk9, cm9, hkk9⟩ := (hO 0 0 0).1
    exact ⟨(fun q hq => by cases hq), k9, hk9, cm9, hkk9⟩
  have hK2 : va_K D cl (tys ++ [(cA, .array ty)]) s := ⟨hK.1, fun k9 x hx => by
    by_cases hl : k9 < tys.length
    · rw [List.getElem?_append_left hl] at hx
      exact hK.2 k9 x hx
    · rw [List.getElem?_append_right (by omega)] at hx
      have h0 : k9 - tys.length < 1 := (List.getElem?_eq_some_iff.mp hx).1
      rw [show k9 - tys.length = 0 by omega] at hx
      cases hx
      exact ⟨hAr, fA⟩⟩
  obtain ⟨t, a1, b1⟩ := kk H.size (fun i => H.size + 1 + i) cA F.heap (fun i j _ _ h => by have h9 : H.size + 1 + i = H.size + 1 + j := h; omega) hnl hK2 (by rw [← vr_rows hnm]; exact vr_lay hP2) (by rw [← vr_rows hnm]; exact vr_layD hD2) ⟨by rw [f1]; have := hS.1; omega, fun x h1 h2 => (hold x (Nat.lt_of_lt_of_le h1 hS.1)).trans (hS.2.1 x h1 h2), hS.2.2⟩ F rfl X'
  refine ⟨t, step t ?_, b1⟩
  have e : T.heap.size = H.size := by rw [hT]
  rw [e]
  exact a1
end VGM
/-! ===== END ===== -/

/-! ===== BEGIN exceptions that leave a method, and their catching by the caller (launches without stack traces) ===== -/
section VXA
/-! The laws vx_back, vx_callV, vx_callS, vx_callSW, vx_throw0, vx_throwS follow proofs of the library, with one case more: JvmDerived/Free/Laws.lean (Back.of_free), Shelf42/LK1.lean (callV, callS), Shelf/KitTraced.lean (throwNew0V, throwNewS). -/
/-- where a method has thrown q: the class by its name, the cell, what was written, the world -/
def vx_T (XC : String → State → State → Prop) (st : State) (q : Addr) (t : State) (mc ms : Nat) (free : Addr → Prop) : Prop :=
  ∃ (E : String) (ce : Cell) (L : List Loc), XC E st t ∧ t.heap[q]? = some ce ∧ ce.vm = .none ∧ st.vm.findClass E = some ce.cls ∧ st.WarmedH t.vm ∧ st.sameButNew ({ t with vm := st.vm } : State) L mc ms ∧ ∀ z ∈ L, free z.base
def vx_Q (Qc : Array Value → State → Outcome → State → Prop) (XC : String → State → State → Prop) (mc ms : Nat) (free : Addr → Prop) : Array Value → State → Outcome → State → Prop := fun a st o t =>
  (Qc a st o t ∧ ∃ L, FrameEnd st o t L mc ms ∧ ∀ q ∈ L, free q.base) ∨ ∃ q, o = .threw q ∧ vx_T XC st q t mc ms free
/-- a callee that returns or throws -/
def vx_Met (l : Launch) (y : MethodName) (ws : List Cond) (rm : Room) (Pc : Array Value → State → Prop) (Qc : Array Value → State → Outcome → State → Prop) (XC : String → State → State → Prop) (mc ms : Nat) (free : Addr → Prop) : Prop :=
  MetFree l y (headSpec ws rm) Pc (fun _ _ _ _ _ => True) (vx_Q Qc XC mc ms free)
def vx_Post (XC : String → State → State → Prop) (mc ms : Nat) (free : Addr → Prop) : Pt → Array Value → Addr → Pt → Prop := fun A a q B =>
  ∃ (g : JFrame) (mk : MethodId) (t : State) (L : List Loc) (E : String) (ce : Cell), B.U.heap = t.heap ∧ B.U.vm = t.vm ∧ XC E (A.U.calling g mk a) t ∧ t.heap[q]? = some ce ∧ ce.vm = .none ∧ A.U.vm.findClass E = some ce.cls ∧ B.locs = A.locs ++ L ∧ (∀ z ∈ L, free z.base) ∧ B.cells = A.cells + mc ∧ B.slots = A.slots + ms
def vx_Back (l : Launch) (R : Room) (p : Program) (e : Env) (below : List Frame) (s : State) (sargs : Array Value) (y : MethodName) (len W9 : Nat)
    (Pre : Pt → Array Value → Prop) (Post : Pt → Array Value → Option Value → Pt → Prop) (PostX : Pt → Array Value → Addr → Pt → Prop) : Prop :=
  ∀ (m : MethodId) (meth : Method) (c : Code) (A : Pt) (g : JFrame) (ig : Instr) (mk : MethodId) (a : Array Value),
    Stand p l e R s m sargs below meth c A.U A.locs A.cells A.slots → g.method = m → g.locals.size = c.maxLocals → decode c.code g.pc = .ok (ig, len) →
    2 * g.monitorRoom + (g.stack.map fun v => v.category).sum ≤ W9 → A.U.methodNamed? y = some mk → Pre A a →
    (∃ (v : Option Value) (B : Pt), Stand p l e R s m sargs below meth c B.U B.locs B.cells B.slots ∧ Post A a v B ∧
      Steps p.tables e below (doInvoke e (A.U.setTop g) [] mk a).1 (B.U.setTop { g with pc := g.pc + len, stack := v.toList ++ g.stack })) ∨
    (∃ (q : Addr) (B : Pt), Stand p l e R s m sargs below meth c B.U B.locs B.cells B.slots ∧ PostX A a q B ∧
      Steps p.tables e below (doInvoke e (A.U.setTop g) [] mk a).1 ((B.U.setTop g).pushFrame (.throwing q)))
section Payer
variable {l : Launch} {R : Room} {p : Program} {e : Env} {below : List Frame} {s : State} {sargs : Array Value} {y : MethodName} {len W9 : Nat}
theorem vx_back {ws : List Cond} {rm : Room} {Pc : Array Value → State → Prop} {Qc : Array Value → State → Outcome → State → Prop} {XC : String → State → State → Prop} {mc ms : Nat} {free : Addr → Prop} {bytes : ByteArray} {maxL : Nat} {ret : Option FieldType}
    (hM : vx_Met l y ws rm Pc Qc XC mc ms free) (hblind : FrameBlind Pc) (hrc : rm.cells = mc) (hrs : rm.slots = ms)
    (hframes : rm.frames + 1 ≤ R.frames) (hlocals : W9 + (maxL + 11) + rm.locals ≤ R.locals)
    (hws : ∀ w ∈ ws, ∀ a' U, s.WarmedH U.vm → w.before a' U = true) (hcode : Cond.code y bytes maxL ret ∈ ws) (hinit : ∀ a' U, s.WarmedH U.vm → (Cond.initialized y.cls).before a' U = true) :
    vx_Back l R p e below s sargs y len W9 (PreOf R mc ms Pc) (PostOf Qc mc ms free) (vx_Post XC mc ms free) := by
  intro m meth c A g ig mk a X hg hsize hdg hW hn hp
  have h1 : (headSpec ws rm).pre.before a A.U = true := atoms_intro fun w hw => hws w hw _ _ X.warmed
  have h2 : (Cond.code y bytes maxL ret).before a A.U = true := hws _ hcode _ _ X.warmed
  have h3 : (Cond.initialized y.cls).before a A.U = true := hinit _ _ X.warmed
  have h4 : A.cells + (headSpec ws rm).room.cells ≤ R.cells := by rw [show (headSpec ws rm).room.cells = mc from hrc]; exact hp.1
  have h5 : A.slots + (headSpec ws rm).room.slots ≤ R.slots := by rw [show (headSpec ws rm).room.slots = ms from hrs]; exact hp.2.1
  have hPc : Pc a (A.U.calling g mk a) := hblind _ _ _ _ hp.2.2
  obtain ⟨U, Ls, c0, s0⟩ := A
  dsimp only [Pt.U, Pt.locs, Pt.cells, Pt.slots] at h1 h2 h3 h4 h5 X hn hPc ⊢
  obtain ⟨methY, cY, hmY, hcY, -, hlY, -, -, -, -⟩ := Cond.code_spec hn h2
  obtain ⟨kY, hkY, -⟩ := className_of_methodNamed hn
  have hinitY : kY.init = .initialized := Cond.initialized_spec (findClass_of_methodNamed hn) hkY h3
  have h : At U g.method c below := by rw [hg]; exact X.here
  have hlocals9 : W9 + (maxL + 11) + (headSpec ws rm).room.locals ≤ R.locals := hlocals
  have happ : (headSpec ws rm).appliesLoose y e.platform (U.calling g mk a) = true :=
    Spec.appliesLoose_calling (g := g) h hdg hn hkY hinitY
      (X.room_calling (g := g) (R' := (headSpec ws rm).room) hsize hmY hcY hframes (by rw [hlY]; omega) h4 h5) h1
  obtain ⟨mid, hmid⟩ := h.above
  have hfr : (U.setTop g).frames = (.java g :: mid) ++ below := by rw [State.frames_setTop' g h.top, hmid]; rfl
  obtain ⟨o, s₂, hsteps, -, hend, hq⟩ := Steps.callFree hM p X.admits X.cas X.clock (acts := []) hfr happ hPc trivial
  have hq' : vx_Q Qc XC mc ms free a (U.calling g mk a) o s₂ := hq
  rw [State.frames_setTop' g h.top] at hend
  obtain ⟨g₀, hg0⟩ := Option.isSome_iff_exists.mp h.top
  obtain ⟨r, hr⟩ := State.topJava?_eq_some.mp hg0
  have hr' : (({ U with heap := s₂.heap, slotsUsed := s₂.slotsUsed } : State).setVm s₂.vm).frames = .java g₀ :: r := hr
  rcases hq' with ⟨hqc, L, hfe, hL⟩ | ⟨q, rfl, E, ce, L, hx, hce, hcv, hcl, hW₂, hsm, hL⟩
  · obtain ⟨⟨v, rfl⟩, hW₂, e2, q2, q3, q4, q5, q6⟩ := id hfe
    have e3 : s₂ = ({ (U.calling g mk a).setFrames s₂.frames with heap := s₂.heap, slotsUsed := s₂.slotsUsed } : State).setVm s₂.vm := by
      have : s₂ = ({ s₂ with vm := (U.calling g mk a).vm } : State).setVm s₂.vm := rfl
      rw [e2] at this
      exact this
    obtain ⟨c₂, i₂, len₂, hc₂, hd₂, hf₂⟩ := hend
    have hW' : U.WarmedH s₂.vm := hW₂
    have hcc : c₂ = c := by
      have h1 : s₂.code? g.method = U.code? g.method := by
        rw [State.code?_eq, State.code?_eq, hW'.alike.method?]
      exact Option.some.inj (hc₂.symm.trans (h1.trans h.code))
    subst hcc
    have hlen : len₂ = len := by rw [hdg] at hd₂; cases hd₂; rfl
    subst hlen
    have hs₂ : s₂ = (({ U with heap := s₂.heap, slotsUsed := s₂.slotsUsed } : State).setVm s₂.vm).setTop { g with pc := g.pc + len₂, stack := v.toList ++ g.stack } := by
      refine e3.trans ?_
      rw [hf₂, State.calling_eq h.top, State.setFrames_setFrames, State.setTop_of_frames _ hr', hr]
      rfl
    have hsame : U.sameButNew ({ U with heap := s₂.heap, slotsUsed := s₂.slotsUsed } : State) L mc ms := by
      refine ⟨?_, q2, q3, q4, q5, q6⟩
      obtain ⟨t, ht, -⟩ := State.frames_cons hr
      show ({ U with heap := s₂.heap, slotsUsed := s₂.slotsUsed } : State) = { U.setFrames U.frames with heap := s₂.heap, slotsUsed := s₂.slotsUsed }
      rw [State.setFrames_self ht]
    subst hg
    refine Or.inl ⟨v, ⟨(({ U with heap := s₂.heap, slotsUsed := s₂.slotsUsed } : State).setVm s₂.vm), Ls ++ L, c0 + mc, s0 + ms⟩,
      ⟨X.admits, X.cas, X.clock, X.frames, X.room, X.hears, X.method, X.code, (X.here.setHeapUsed s₂.heap s₂.slotsUsed).setVm hW'.alike, X.tail, State.WarmedH.trans X.warmed hW', X.limits, X.bytes, X.same.trans (hsame.setVm s.vm)⟩,
      ⟨g, mk, s₂, L, rfl, rfl, hqc, rfl, hL, rfl, rfl⟩, ?_⟩
    show Steps p.tables e below _ ((({ U with heap := s₂.heap, slotsUsed := s₂.slotsUsed } : State).setVm s₂.vm).setTop { g with pc := g.pc + len₂, stack := v.toList ++ g.stack })
    rw [← hs₂]
    exact hsteps
  · obtain ⟨e2, q2, q3, q4, q5, q6⟩ := id hsm
    have e3 : s₂ = ({ (U.calling g mk a).setFrames s₂.frames with heap := s₂.heap, slotsUsed := s₂.slotsUsed } : State).setVm s₂.vm := by
      have : s₂ = ({ s₂ with vm := (U.calling g mk a).vm } : State).setVm s₂.vm := rfl
      rw [e2] at this
      exact this
    have hf₂ : s₂.frames = .throwing q :: .java g :: U.frames.tail := hend
    have hW' : U.WarmedH s₂.vm := hW₂
    have hs₂ : s₂ = ((({ U with heap := s₂.heap, slotsUsed := s₂.slotsUsed } : State).setVm s₂.vm).setTop g).pushFrame (.throwing q) := by
      refine e3.trans ?_
      rw [hf₂, State.calling_eq h.top, State.setFrames_setFrames, State.pushFrame, State.frames_setTop _ hr', State.setTop_of_frames _ hr', State.setFrames_setFrames, hr]
      rfl
    have hsame : U.sameButNew ({ U with heap := s₂.heap, slotsUsed := s₂.slotsUsed } : State) L mc ms := by
      refine ⟨?_, q2, q3, q4, q5, q6⟩
      obtain ⟨t, ht, -⟩ := State.frames_cons hr
      show ({ U with heap := s₂.heap, slotsUsed := s₂.slotsUsed } : State) = { U.setFrames U.frames with heap := s₂.heap, slotsUsed := s₂.slotsUsed }
      rw [State.setFrames_self ht]
    subst hg
    refine Or.inr ⟨q, ⟨(({ U with heap := s₂.heap, slotsUsed := s₂.slotsUsed } : State).setVm s₂.vm), Ls ++ L, c0 + mc, s0 + ms⟩,
      ⟨X.admits, X.cas, X.clock, X.frames, X.room, X.hears, X.method, X.code, (X.here.setHeapUsed s₂.heap s₂.slotsUsed).setVm hW'.alike, X.tail, State.WarmedH.trans X.warmed hW', X.limits, X.bytes, X.same.trans (hsame.setVm s.vm)⟩,
      ⟨g, mk, s₂, L, E, ce, rfl, rfl, hx, hce, hcv, hcl, rfl, hL, rfl, rfl⟩, ?_⟩
    show Steps p.tables e below _ (((({ U with heap := s₂.heap, slotsUsed := s₂.slotsUsed } : State).setVm s₂.vm).setTop g).pushFrame (.throwing q))
    rw [← hs₂]
    exact hsteps
end Payer
section Calls
variable {p : Program} {l : Launch} {e : Env} {R : Room} {s : State} {m : MethodId} {args : Array Value} {below : List Frame} {meth : Method} {c : Code} {T : State} {locs : List Loc} {cells slots : Nat}
theorem vx_callV (X : Stand p l e R s m args below meth c T locs cells slots) (hexec : p.tables.exec = Jvm.exec) {own C : String} {index : Nat} {y : MethodName} {bytes : ByteArray} {maxL : Nat} {ret : Option FieldType}
    (hown : s.vm.findClass own = some m.cls) (hlink : (Cond.methodLink own index y).before args s = true) (hinst : (Cond.instanceMethod y).before args s = true) (hsel : (Cond.selects C y y).before args s = true)
    (hcode : (Cond.code y bytes maxL ret).before args s = true) (hy : y.cls ≠ "java/lang/invoke/MethodHandle" ∧ y.cls ≠ "java/lang/invoke/VarHandle")
    {W9 : Nat} {Pre : Pt → Array Value → Prop} {Post : Pt → Array Value → Option Value → Pt → Prop} {PostX : Pt → Array Value → Addr → Pt → Prop} (hK : vx_Back l R p e below s args y 3 W9 Pre Post PostX)
    {b : Addr} {cellB : Cell} (hcell : T.heap[b]? = some cellB) (hobj : cellB.vm.isStatics = false) (hcls : s.vm.findClass C = some cellB.cls)
    {g : JFrame} (hg : g.method = m) (hsize : g.locals.size = c.maxLocals) {argsL rest : List Value} (hlen : ∀ sig, parseMethodDescriptor y.desc = some sig → argsL.length = sig.parameters.length)
    (hstack : g.stack = argsL.reverse ++ .ref b :: rest) (hW : 2 * g.monitorRoom + (rest.map fun v => v.category).sum ≤ W9) (hdg : decode c.code g.pc = .ok (.invokevirtual index, 3))
    (hpre : ∀ vm₁, s.WarmedH vm₁ → Pre ⟨T.setVm vm₁, locs, cells, slots⟩ (Value.ref b :: argsL).toArray) :
    (∃ (v : Option Value) (vm₁ : Vm) (B : Pt), s.WarmedH vm₁ ∧ Stand p l e R s m args below meth c B.U B.locs B.cells B.slots ∧ Post ⟨T.setVm vm₁, locs, cells, slots⟩ (Value.ref b :: argsL).toArray v B ∧
      ∀ target, Steps p.tables e below (B.U.setTop { g with pc := g.pc + 3, stack := v.toList ++ rest }) target → Steps p.tables e below (T.setTop g) target) ∨
    (∃ (q : Addr) (vm₁ : Vm) (B : Pt), s.WarmedH vm₁ ∧ Stand p l e R s m args below meth c B.U B.locs B.cells B.slots ∧ PostX ⟨T.setVm vm₁, locs, cells, slots⟩ (Value.ref b :: argsL).toArray q B ∧
      Steps p.tables e below (T.setTop g) ((B.U.setTop { g with stack := rest }).pushFrame (.throwing q))) := by
  obtain ⟨mk, methM, hnamed, hmethM, hstM, habM⟩ := Cond.instanceMethod_spec hinst
  obtain ⟨methM', cM, hmethM', -, -, -, -, -, -, hsigM⟩ := Cond.code_spec hnamed hcode
  cases hmethM.symm.trans hmethM'
  obtain ⟨c2, r2, m2, q1, q2, q3, q4, kP, hkP, hkPi⟩ := Cond.selects_spec hsel
  cases hcls.symm.trans q1
  cases (State.methodFound?_of_named hnamed hy).symm.trans q2
  cases hnamed.symm.trans q3
  have hselP : selectMethod e.platform s.vm cellB.cls mk = .method mk := by rw [Launch.admits_selectMethod X.admits]; exact q4
  obtain ⟨vm₁, X₁, hstep₁⟩ := X.invokevirtual hexec hown hlink hnamed hmethM hstM hkP hkPi hy (a := b) (cell := cellB) hcell
    (fun z h => by rw [h] at hobj; cases hobj) hselP hmethM habM hkP hkPi (g := g) hg (argsL := argsL) (rest := rest) (hlen _ hsigM) hstack hdg
  rcases hK m meth c ⟨T.setVm vm₁, locs, cells, slots⟩ { g with stack := rest } (.invokevirtual index) mk (Value.ref b :: argsL).toArray X₁ hg hsize hdg hW (X₁.named hnamed) (hpre vm₁ X₁.warmed) with ⟨v, B, X', hpost, hsteps⟩ | ⟨q, B, X', hpost, hsteps⟩
  · exact Or.inl ⟨v, vm₁, B, X₁.warmed, X', hpost, fun target h => hstep₁ _ fun acts => by rw [doInvoke_state]; exact hsteps.trans h⟩
  · exact Or.inr ⟨q, vm₁, B, X₁.warmed, X', hpost, hstep₁ _ fun acts => by rw [doInvoke_state]; exact hsteps⟩
theorem vx_callS (X : Stand p l e R s m args below meth c T locs cells slots) (hexec : p.tables.exec = Jvm.exec) {own : String} {index : Nat} {y : MethodName} {bytes : ByteArray} {maxL : Nat} {ret : Option FieldType}
    (hown : s.vm.findClass own = some m.cls) (hlink : (Cond.methodLink own index y).before args s = true) (hstat : (Cond.static y).before args s = true) (hinit : (Cond.initialized y.cls).before args s = true)
    (hcode : (Cond.code y bytes maxL ret).before args s = true) (hy : y.cls ≠ "java/lang/invoke/MethodHandle" ∧ y.cls ≠ "java/lang/invoke/VarHandle")
    {W9 : Nat} {Pre : Pt → Array Value → Prop} {Post : Pt → Array Value → Option Value → Pt → Prop} {PostX : Pt → Array Value → Addr → Pt → Prop} (hK : vx_Back l R p e below s args y 3 W9 Pre Post PostX)
    {g : JFrame} (hg : g.method = m) (hsize : g.locals.size = c.maxLocals) {argsL rest : List Value} (hlen : ∀ sig, parseMethodDescriptor y.desc = some sig → argsL.length = sig.parameters.length)
    (hstack : g.stack = argsL.reverse ++ rest) (hW : 2 * g.monitorRoom + (rest.map fun v => v.category).sum ≤ W9) (hdg : decode c.code g.pc = .ok (.invokestatic index, 3))
    (hpre : ∀ vm₁, s.WarmedH vm₁ → Pre ⟨T.setVm vm₁, locs, cells, slots⟩ argsL.toArray) :
    (∃ (v : Option Value) (vm₁ : Vm) (B : Pt), s.WarmedH vm₁ ∧ Stand p l e R s m args below meth c B.U B.locs B.cells B.slots ∧ Post ⟨T.setVm vm₁, locs, cells, slots⟩ argsL.toArray v B ∧
      ∀ target, Steps p.tables e below (B.U.setTop { g with pc := g.pc + 3, stack := v.toList ++ rest }) target → Steps p.tables e below (T.setTop g) target) ∨
    (∃ (q : Addr) (vm₁ : Vm) (B : Pt), s.WarmedH vm₁ ∧ Stand p l e R s m args below meth c B.U B.locs B.cells B.slots ∧ PostX ⟨T.setVm vm₁, locs, cells, slots⟩ argsL.toArray q B ∧
      Steps p.tables e below (T.setTop g) ((B.U.setTop { g with stack := rest }).pushFrame (.throwing q))) := by
  obtain ⟨mk, hnamed⟩ := Cond.code_named hcode
  obtain ⟨methM, cM, hmethM, -, -, -, -, -, -, hsigM⟩ := Cond.code_spec hnamed hcode
  have hstatic : methM.isStatic = true := Cond.static_spec hnamed hmethM hstat
  obtain ⟨kP, hkP, -⟩ := className_of_methodNamed hnamed
  have hinitP : kP.init = .initialized := Cond.initialized_spec (findClass_of_methodNamed hnamed) hkP hinit
  obtain ⟨vm₁, X₁, hstep₁⟩ := X.invokestatic hexec hown hlink hnamed hmethM hstatic hkP hinitP hy (g := g) hg (argsL := argsL) (rest := rest) (hlen _ hsigM) hstack hdg
  rcases hK m meth c ⟨T.setVm vm₁, locs, cells, slots⟩ { g with stack := rest } (.invokestatic index) mk argsL.toArray X₁ hg hsize hdg hW (X₁.named hnamed) (hpre vm₁ X₁.warmed) with ⟨v, B, X', hpost, hsteps⟩ | ⟨q, B, X', hpost, hsteps⟩
  · exact Or.inl ⟨v, vm₁, B, X₁.warmed, X', hpost, fun target h => hstep₁ _ fun acts => by rw [doInvoke_state]; exact hsteps.trans h⟩
  · exact Or.inr ⟨q, vm₁, B, X₁.warmed, X', hpost, hstep₁ _ fun acts => by rw [doInvoke_state]; exact hsteps⟩
end Calls
theorem vx_cls {s : State} {T : State} {vm₁ : Vm} {E : String} {k : ClassId} (hW : s.WarmedH vm₁) (h : (T.setVm vm₁).vm.findClass E = some k) : s.vm.findClass E = some k := by
  have h1 : vm₁.findClass E = some k := h
  rw [hW.alike.findClass] at h1
  exact h1
/-- the method's frame g, with q thrown over it -/
def vx_W (p : Program) (l : Launch) (e : Env) (R : Room) (s : State) (m : MethodId) (args : Array Value) (below : List Frame) (meth : Method) (c : Code) (H : Heap) (locs : List Loc) (cells slots : Nat) (Q : State → Prop) (g : JFrame) (q : Addr) : Prop :=
  ∀ T : State, T.heap = H → Stand p l e R s m args below meth c T locs cells slots → ∃ t, Steps p.tables e below ((T.setTop g).pushFrame (.throwing q)) t ∧ Q t
def vx_Run (p : Program) (l : Launch) (e : Env) (R : Room) (s : State) (m : MethodId) (args : Array Value) (below : List Frame) (meth : Method) (c : Code) (H : Heap) (locs : List Loc) (cells slots mc ms : Nat) (g : JFrame) (rest : List Value) (Qa : State → Outcome → State → Prop) (XC : String → State → State → Prop) (free : Addr → Prop) : Prop :=
  ∀ T : State, T.heap = H → Stand p l e R s m args below meth c T locs cells slots →
    (∃ (v : Option Value) (st₀ t T' : State) (L : List Loc), st₀.heap = H ∧ Stand p l e R s m args below meth c T' (locs ++ L) (cells + mc) (slots + ms) ∧ (∀ q ∈ L, free q.base) ∧ T'.heap = t.heap ∧ T'.vm = t.vm ∧ Qa st₀ (.returned v) t ∧
      Goes p e below T g T' { g with pc := g.pc + 3, stack := v.toList ++ rest }) ∨
    (∃ (q : Addr) (st₀ t T' : State) (L : List Loc) (E : String) (ce : Cell), st₀.heap = H ∧ Stand p l e R s m args below meth c T' (locs ++ L) (cells + mc) (slots + ms) ∧ (∀ z ∈ L, free z.base) ∧ T'.heap = t.heap ∧ T'.vm = t.vm ∧ XC E st₀ t ∧ t.heap[q]? = some ce ∧ ce.vm = .none ∧ s.vm.findClass E = some ce.cls ∧
      Steps p.tables e below (T.setTop g) ((T'.setTop { g with stack := rest }).pushFrame (.throwing q)))
def vx_X {S : Type} (px : S → Prop) (B : String → S → State → Prop) (A : Nat → Prop) : String → State → State → Prop := fun E st t => ∃ u : S, px u ∧ B E u t ∧ va_F A st t
section Runs
variable {p : Program} {l : Launch} {e : Env} {R : Room} {s : State} {m : MethodId} {args : Array Value} {below : List Frame} {meth : Method} {c : Code} {H : Heap} {locs : List Loc} {cells slots : Nat}
variable {y : MethodName} {bytes cc : ByteArray} {maxL nL mc ms n index : Nat} {ret : Option FieldType} {ws : List Cond} {rm : Room} {Pc : Array Value → State → Prop} {Qc : Array Value → State → Outcome → State → Prop} {XC : String → State → State → Prop} {free : Addr → Prop} {Ts : List Cond} {own C : String} {b : Addr} {As rest : List Value} {g : JFrame}
theorem vx_callBack (cb : CallB R s args own index y bytes maxL ret ws rm mc ms n) (hM : vx_Met l y ws rm Pc Qc XC mc ms free) (hbl : FrameBlind Pc) : vx_Back l R p e below s args y 3 8 (PreOf R mc ms Pc) (PostOf Qc mc ms free) (vx_Post XC mc ms free) := by
  obtain ⟨hrc, hrs, hfr, hlo, hws, hcw, -, hini, -⟩ := cb
  exact vx_back (bytes := bytes) (maxL := maxL) (ret := ret) hM hbl hrc hrs hfr hlo hws hcw (fun a' U hW => word_at hW (Or.inl (by first | rfl | simp [Cond.onTables, Cond.keeps, Cond.steady])) hini)
theorem vx_runV (S : CallFix p m c cc nL s args Ts own) (hM : vx_Met l y ws rm Pc Qc XC mc ms free) (cw : CallW R s args own C index y bytes maxL ret ws rm mc ms n) (hp : PreV s H C b Pc As)
    (hg : g.method = m) (hn : As.length = n) (hsize : g.locals.size = nL) (hstack : g.stack = As.reverse ++ .ref b :: rest) (hW : 2 * g.monitorRoom + (rest.map fun v => v.category).sum ≤ 8) (hdg : decode cc g.pc = .ok (.invokevirtual index, 3)) (hf : cells + mc ≤ R.cells ∧ slots + ms ≤ R.slots) :
    vx_Run p l e R s m args below meth c H locs cells slots mc ms g rest (Qc (Value.ref b :: As).toArray) XC free := by
  have hK : vx_Back l R p e below s args y 3 8 (PreOf R mc ms Pc) (PostOf Qc mc ms free) (vx_Post XC mc ms free) := vx_callBack cw.1 hM hp.1
  obtain ⟨⟨-, -, -, -, -, -, hcode, -, hy, hlen, hl⟩, hin, hse⟩ := cw
  obtain ⟨hx, hb, hml, ho, -⟩ := S
  obtain ⟨-, ⟨cellB, hcB, hoB, hclB⟩, hPc⟩ := hp
  intro T hT X
  rcases vx_callV X hx (C := C) (bytes := bytes) (maxL := maxL) (ret := ret) ho hl hin hse hcode hy hK (by rw [hT]; exact hcB) hoB hclB hg (hsize.trans hml.symm) (argsL := As) (rest := rest) (fun sig h => hn.trans (hlen sig h)) hstack hW (by rw [hb]; exact hdg)
    (fun vm₁ hW₁ => ⟨hf.1, hf.2, hPc (T.setVm vm₁) hT hW₁⟩) with ⟨v, vm₁, ⟨U', l2, c2, s2⟩, hW₁, X', ⟨g', mk, t, L, e1, e2, hq, h1, hL, h2, h3⟩, st⟩ | ⟨q, vm₁, ⟨U', l2, c2, s2⟩, hW₁, X', ⟨g', mk, t, L, E, ce, e1, e2, hq, hce, hcv, hcl, h1, hL, h2, h3⟩, st⟩
  · dsimp only [Pt.U, Pt.locs, Pt.cells, Pt.slots] at X' e1 e2 h1 h2 h3 st
    subst h1; subst h2; subst h3
    exact Or.inl ⟨v, (T.setVm vm₁).calling g' mk (Value.ref b :: As).toArray, t, U', L, hT, X', hL, e1, e2, hq, st⟩
  · dsimp only [Pt.U, Pt.locs, Pt.cells, Pt.slots] at X' e1 e2 h1 h2 h3 st hcl
    subst h1; subst h2; subst h3
    exact Or.inr ⟨q, (T.setVm vm₁).calling g' mk (Value.ref b :: As).toArray, t, U', L, E, ce, hT, X', hL, e1, e2, hq, hce, hcv, vx_cls hW₁ hcl, st⟩
theorem vx_runS (S : CallFix p m c cc nL s args Ts own) (hM : vx_Met l y ws rm Pc Qc XC mc ms free) (cw : CallB R s args own index y bytes maxL ret ws rm mc ms n ∧ (Cond.static y).before args s = true) (hp : PreS s H Pc As)
    (hg : g.method = m) (hn : As.length = n) (hsize : g.locals.size = nL) (hstack : g.stack = As.reverse ++ rest) (hW : 2 * g.monitorRoom + (rest.map fun v => v.category).sum ≤ 8) (hdg : decode cc g.pc = .ok (.invokestatic index, 3)) (hf : cells + mc ≤ R.cells ∧ slots + ms ≤ R.slots) :
    vx_Run p l e R s m args below meth c H locs cells slots mc ms g rest (Qc As.toArray) XC free := by
  have hK : vx_Back l R p e below s args y 3 8 (PreOf R mc ms Pc) (PostOf Qc mc ms free) (vx_Post XC mc ms free) := vx_callBack cw.1 hM hp.1
  obtain ⟨⟨-, -, -, -, -, -, hcode, hini, hy, hlen, hl⟩, hstt⟩ := cw
  obtain ⟨hx, hb, hml, ho, -⟩ := S
  intro T hT X
  rcases vx_callS X hx (bytes := bytes) (maxL := maxL) (ret := ret) ho hl hstt hini hcode hy hK hg (hsize.trans hml.symm) (argsL := As) (rest := rest) (fun sig h => hn.trans (hlen sig h)) hstack hW (by rw [hb]; exact hdg)
    (fun vm₁ hW₁ => ⟨hf.1, hf.2, hp.2 (T.setVm vm₁) hT hW₁⟩) with ⟨v, vm₁, ⟨U', l2, c2, s2⟩, hW₁, X', ⟨g', mk, t, L, e1, e2, hq, h1, hL, h2, h3⟩, st⟩ | ⟨q, vm₁, ⟨U', l2, c2, s2⟩, hW₁, X', ⟨g', mk, t, L, E, ce, e1, e2, hq, hce, hcv, hcl, h1, hL, h2, h3⟩, st⟩
  · dsimp only [Pt.U, Pt.locs, Pt.cells, Pt.slots] at X' e1 e2 h1 h2 h3 st
    subst h1; subst h2; subst h3
    exact Or.inl ⟨v, (T.setVm vm₁).calling g' mk As.toArray, t, U', L, hT, X', hL, e1, e2, hq, st⟩
  · dsimp only [Pt.U, Pt.locs, Pt.cells, Pt.slots] at X' e1 e2 h1 h2 h3 st hcl
    subst h1; subst h2; subst h3
    exact Or.inr ⟨q, (T.setVm vm₁).calling g' mk As.toArray, t, U', L, E, ce, hT, X', hL, e1, e2, hq, hce, hcv, vx_cls hW₁ hcl, st⟩
end Runs
section Rows
variable {p : Program} {l : Launch} {e : Env} {R : Room} {s : State} {m : MethodId} {args : Array Value} {below : List Frame} {meth : Method} {c : Code} {H : Heap} {locs : List Loc} {cells slots : Nat} {Q : State → Prop}
variable {mc ms : Nat} {free : Addr → Prop} {A0 A1 : Nat → Prop} {H0 : Heap} {a : Array Value} {pc : Nat} {ls : Array Slot} {st0 rest : List Value}
theorem vx_keep {st₀ t T' : State} {L : List Loc} (h0 : st₀.heap = H) (e1 : T'.heap = t.heap) (hS : va_S A0 H0 H locs) (hA : ∀ q, q < H.size → A1 q → A0 q) (hf : ∀ q, free q → A0 q) (hL : ∀ q ∈ L, free q.base) (hF : va_F A1 st₀ t) :
    H.size ≤ T'.heap.size ∧ (∀ q : Nat, q < H.size → ¬ A1 q → T'.heap[q]? = H[q]?) ∧ va_S A0 H0 T'.heap (locs ++ L) := by
  obtain ⟨hz, hk⟩ := hF
  rw [h0] at hz hk
  exact ⟨by rw [e1]; exact hz, fun q h1 h2 => by rw [e1]; exact hk q h1 h2,
    ⟨Nat.le_trans hS.1 (by rw [e1]; exact hz), fun q h1 h2 => by rw [e1, hk q (Nat.lt_of_lt_of_le h1 hS.1) (fun z => h2 (hA q (Nat.lt_of_lt_of_le h1 hS.1) z))]; exact hS.2.1 q h1 h2, fun q hq => by
      rcases List.mem_append.mp hq with h | h
      · exact hS.2.2 q h
      · exact hf _ (hL q h)⟩⟩
theorem vx_calli {S SX : Type} {post : Int32 → S → Prop} {px : SX → Prop} {B : S → State → Prop} {BX : String → SX → State → Prop} {AX : Nat → Prop} (hr : vx_Run p l e R s m args below meth c H locs cells slots mc ms (F0 m pc ls st0) rest (va_Qi post B A1 a) (vx_X px BX AX) free) (hS : va_S A0 H0 H locs) (hA : ∀ q, q < H.size → A1 q → A0 q) (hf : ∀ q, free q → A0 q) (hAX : ∀ q, q < H.size → AX q → A0 q)
    (kx : ∀ (E : String) (ce : Cell) (q9 : Addr) (u : SX) (t : State) (H1 : Heap) (locs1 : List Loc), t.heap = H1 → s.vm.Alike t.vm → px u → BX E u t → H.size ≤ H1.size → (∀ q : Nat, q < H.size → ¬ AX q → H1[q]? = H[q]?) → va_S A0 H0 H1 locs1 → H1[q9]? = some ce → ce.vm = .none → s.vm.findClass E = some ce.cls → vx_W p l e R s m args below meth c H1 locs1 (cells + mc) (slots + ms) Q (F0 m pc ls rest) q9)
    (kk : ∀ (r : Int32) (u : S) (t : State) (H1 : Heap) (locs1 : List Loc), t.heap = H1 → s.vm.Alike t.vm → post r u → B u t → H.size ≤ H1.size → (∀ q : Nat, q < H.size → ¬ A1 q → H1[q]? = H[q]?) → va_S A0 H0 H1 locs1 → W p l e R s m args below meth c H1 locs1 (cells + mc) (slots + ms) Q (F0 m (pc + 3) ls (.int r :: rest))) : W p l e R s m args below meth c H locs cells slots Q (F0 m pc ls st0) := by
  intro T hT X
  rcases hr T hT X with ⟨v, st₀, t, T', L, h0, X', hL, e1, e2, ⟨⟨r, u, hv, hp, hb⟩, hF⟩, st⟩ | ⟨q, st₀, t, T', L, E, ce, h0, X', hL, e1, e2, ⟨u, hp, hb, hF⟩, hce, hcv, hcl, st⟩
  · cases hv
    obtain ⟨k1, k2, k3⟩ := vx_keep h0 e1 hS hA hf hL hF
    obtain ⟨t2, a1, b1⟩ := kk r u t T'.heap (locs ++ L) e1.symm (by rw [← e2]; exact X'.warmed.alike) hp hb k1 k2 k3 T' rfl X'
    exact ⟨t2, st t2 a1, b1⟩
  · obtain ⟨k1, k2, k3⟩ := vx_keep h0 e1 hS hAX hf hL hF
    obtain ⟨t2, a1, b1⟩ := kx E ce q u t T'.heap (locs ++ L) e1.symm (by rw [← e2]; exact X'.warmed.alike) hp hb k1 k2 k3 (by rw [e1]; exact hce) hcv hcl T' rfl X'
    exact ⟨t2, st.trans a1, b1⟩
theorem vx_calll {S SX : Type} {post : Int64 → S → Prop} {px : SX → Prop} {B : S → State → Prop} {BX : String → SX → State → Prop} {AX : Nat → Prop} (hr : vx_Run p l e R s m args below meth c H locs cells slots mc ms (F0 m pc ls st0) rest (va_Ql post B A1 a) (vx_X px BX AX) free) (hS : va_S A0 H0 H locs) (hA : ∀ q, q < H.size → A1 q → A0 q) (hf : ∀ q, free q → A0 q) (hAX : ∀ q, q < H.size → AX q → A0 q)
    (kx : ∀ (E : String) (ce : Cell) (q9 : Addr) (u : SX) (t : State) (H1 : Heap) (locs1 : List Loc), t.heap = H1 → s.vm.Alike t.vm → px u → BX E u t → H.size ≤ H1.size → (∀ q : Nat, q < H.size → ¬ AX q → H1[q]? = H[q]?) → va_S A0 H0 H1 locs1 → H1[q9]? = some ce → ce.vm = .none → s.vm.findClass E = some ce.cls → vx_W p l e R s m args below meth c H1 locs1 (cells + mc) (slots + ms) Q (F0 m pc ls rest) q9)
    (kk : ∀ (r : Int64) (u : S) (t : State) (H1 : Heap) (locs1 : List Loc), t.heap = H1 → s.vm.Alike t.vm → post r u → B u t → H.size ≤ H1.size → (∀ q : Nat, q < H.size → ¬ A1 q → H1[q]? = H[q]?) → va_S A0 H0 H1 locs1 → W p l e R s m args below meth c H1 locs1 (cells + mc) (slots + ms) Q (F0 m (pc + 3) ls (.long r :: rest))) : W p l e R s m args below meth c H locs cells slots Q (F0 m pc ls st0) := by
  intro T hT X
  rcases hr T hT X with ⟨v, st₀, t, T', L, h0, X', hL, e1, e2, ⟨⟨r, u, hv, hp, hb⟩, hF⟩, st⟩ | ⟨q, st₀, t, T', L, E, ce, h0, X', hL, e1, e2, ⟨u, hp, hb, hF⟩, hce, hcv, hcl, st⟩
  · cases hv
    obtain ⟨k1, k2, k3⟩ := vx_keep h0 e1 hS hA hf hL hF
    obtain ⟨t2, a1, b1⟩ := kk r u t T'.heap (locs ++ L) e1.symm (by rw [← e2]; exact X'.warmed.alike) hp hb k1 k2 k3 T' rfl X'
    exact ⟨t2, st t2 a1, b1⟩
  · obtain ⟨k1, k2, k3⟩ := vx_keep h0 e1 hS hAX hf hL hF
    obtain ⟨t2, a1, b1⟩ := kx E ce q u t T'.heap (locs ++ L) e1.symm (by rw [← e2]; exact X'.warmed.alike) hp hb k1 k2 k3 (by rw [e1]; exact hce) hcv hcl T' rfl X'
    exact ⟨t2, st.trans a1, b1⟩
theorem vx_callf {S SX : Type} {post : UInt32 → S → Prop} {px : SX → Prop} {B : S → State → Prop} {BX : String → SX → State → Prop} {AX : Nat → Prop} (hr : vx_Run p l e R s m args below meth c H locs cells slots mc ms (F0 m pc ls st0) rest (va_Qf post B A1 a) (vx_X px BX AX) free) (hS : va_S A0 H0 H locs) (hA : ∀ q, q < H.size → A1 q → A0 q) (hf : ∀ q, free q → A0 q) (hAX : ∀ q, q < H.size → AX q → A0 q)
    (kx : ∀ (E : String) (ce : Cell) (q9 : Addr) (u : SX) (t : State) (H1 : Heap) (locs1 : List Loc), t.heap = H1 → s.vm.Alike t.vm → px u → BX E u t → H.size ≤ H1.size → (∀ q : Nat, q < H.size → ¬ AX q → H1[q]? = H[q]?) → va_S A0 H0 H1 locs1 → H1[q9]? = some ce → ce.vm = .none → s.vm.findClass E = some ce.cls → vx_W p l e R s m args below meth c H1 locs1 (cells + mc) (slots + ms) Q (F0 m pc ls rest) q9)
    (kk : ∀ (r : UInt32) (u : S) (t : State) (H1 : Heap) (locs1 : List Loc), t.heap = H1 → s.vm.Alike t.vm → post r u → B u t → H.size ≤ H1.size → (∀ q : Nat, q < H.size → ¬ A1 q → H1[q]? = H[q]?) → va_S A0 H0 H1 locs1 → W p l e R s m args below meth c H1 locs1 (cells + mc) (slots + ms) Q (F0 m (pc + 3) ls (.float r :: rest))) : W p l e R s m args below meth c H locs cells slots Q (F0 m pc ls st0) := by
  intro T hT X
  rcases hr T hT X with ⟨v, st₀, t, T', L, h0, X', hL, e1, e2, ⟨⟨r, u, hv, hp, hb⟩, hF⟩, st⟩ | ⟨q, st₀, t, T', L, E, ce, h0, X', hL, e1, e2, ⟨u, hp, hb, hF⟩, hce, hcv, hcl, st⟩
  · cases hv
    obtain ⟨k1, k2, k3⟩ := vx_keep h0 e1 hS hA hf hL hF
    obtain ⟨t2, a1, b1⟩ := kk r u t T'.heap (locs ++ L) e1.symm (by rw [← e2]; exact X'.warmed.alike) hp hb k1 k2 k3 T' rfl X'
    exact ⟨t2, st t2 a1, b1⟩
  · obtain ⟨k1, k2, k3⟩ := vx_keep h0 e1 hS hAX hf hL hF
    obtain ⟨t2, a1, b1⟩ := kx E ce q u t T'.heap (locs ++ L) e1.symm (by rw [← e2]; exact X'.warmed.alike) hp hb k1 k2 k3 (by rw [e1]; exact hce) hcv hcl T' rfl X'
    exact ⟨t2, st.trans a1, b1⟩
theorem vx_calld {S SX : Type} {post : UInt64 → S → Prop} {px : SX → Prop} {B : S → State → Prop} {BX : String → SX → State → Prop} {AX : Nat → Prop} (hr : vx_Run p l e R s m args below meth c H locs cells slots mc ms (F0 m pc ls st0) rest (va_Qd post B A1 a) (vx_X px BX AX) free) (hS : va_S A0 H0 H locs) (hA : ∀ q, q < H.size → A1 q → A0 q) (hf : ∀ q, free q → A0 q) (hAX : ∀ q, q < H.size → AX q → A0 q)
    (kx : ∀ (E : String) (ce : Cell) (q9 : Addr) (u : SX) (t : State) (H1 : Heap) (locs1 : List Loc), t.heap = H1 → s.vm.Alike t.vm → px u → BX E u t → H.size ≤ H1.size → (∀ q : Nat, q < H.size → ¬ AX q → H1[q]? = H[q]?) → va_S A0 H0 H1 locs1 → H1[q9]? = some ce → ce.vm = .none → s.vm.findClass E = some ce.cls → vx_W p l e R s m args below meth c H1 locs1 (cells + mc) (slots + ms) Q (F0 m pc ls rest) q9)
    (kk : ∀ (r : UInt64) (u : S) (t : State) (H1 : Heap) (locs1 : List Loc), t.heap = H1 → s.vm.Alike t.vm → post r u → B u t → H.size ≤ H1.size → (∀ q : Nat, q < H.size → ¬ A1 q → H1[q]? = H[q]?) → va_S A0 H0 H1 locs1 → W p l e R s m args below meth c H1 locs1 (cells + mc) (slots + ms) Q (F0 m (pc + 3) ls (.double r :: rest))) : W p l e R s m args below meth c H locs cells slots Q (F0 m pc ls st0) := by
  intro T hT X
  rcases hr T hT X with ⟨v, st₀, t, T', L, h0, X', hL, e1, e2, ⟨⟨r, u, hv, hp, hb⟩, hF⟩, st⟩ | ⟨q, st₀, t, T', L, E, ce, h0, X', hL, e1, e2, ⟨u, hp, hb, hF⟩, hce, hcv, hcl, st⟩
  · cases hv
    obtain ⟨k1, k2, k3⟩ := vx_keep h0 e1 hS hA hf hL hF
    obtain ⟨t2, a1, b1⟩ := kk r u t T'.heap (locs ++ L) e1.symm (by rw [← e2]; exact X'.warmed.alike) hp hb k1 k2 k3 T' rfl X'
    exact ⟨t2, st t2 a1, b1⟩
  · obtain ⟨k1, k2, k3⟩ := vx_keep h0 e1 hS hAX hf hL hF
    obtain ⟨t2, a1, b1⟩ := kx E ce q u t T'.heap (locs ++ L) e1.symm (by rw [← e2]; exact X'.warmed.alike) hp hb k1 k2 k3 (by rw [e1]; exact hce) hcv hcl T' rfl X'
    exact ⟨t2, st.trans a1, b1⟩
theorem vx_callv {S SX : Type} {post : S → Prop} {px : SX → Prop} {B : S → State → Prop} {BX : String → SX → State → Prop} {AX : Nat → Prop} (hr : vx_Run p l e R s m args below meth c H locs cells slots mc ms (F0 m pc ls st0) rest (va_Qv post B A1 a) (vx_X px BX AX) free) (hS : va_S A0 H0 H locs) (hA : ∀ q, q < H.size → A1 q → A0 q) (hf : ∀ q, free q → A0 q) (hAX : ∀ q, q < H.size → AX q → A0 q)
    (kx : ∀ (E : String) (ce : Cell) (q9 : Addr) (u : SX) (t : State) (H1 : Heap) (locs1 : List Loc), t.heap = H1 → s.vm.Alike t.vm → px u → BX E u t → H.size ≤ H1.size → (∀ q : Nat, q < H.size → ¬ AX q → H1[q]? = H[q]?) → va_S A0 H0 H1 locs1 → H1[q9]? = some ce → ce.vm = .none → s.vm.findClass E = some ce.cls → vx_W p l e R s m args below meth c H1 locs1 (cells + mc) (slots + ms) Q (F0 m pc ls rest) q9)
    (kk : ∀ (u : S) (t : State) (H1 : Heap) (locs1 : List Loc), t.heap = H1 → s.vm.Alike t.vm → post u → B u t → H.size ≤ H1.size → (∀ q : Nat, q < H.size → ¬ A1 q → H1[q]? = H[q]?) → va_S A0 H0 H1 locs1 → W p l e R s m args below meth c H1 locs1 (cells + mc) (slots + ms) Q (F0 m (pc + 3) ls (rest))) : W p l e R s m args below meth c H locs cells slots Q (F0 m pc ls st0) := by
  intro T hT X
  rcases hr T hT X with ⟨v, st₀, t, T', L, h0, X', hL, e1, e2, ⟨⟨u, hv, hp, hb⟩, hF⟩, st⟩ | ⟨q, st₀, t, T', L, E, ce, h0, X', hL, e1, e2, ⟨u, hp, hb, hF⟩, hce, hcv, hcl, st⟩
  · cases hv
    obtain ⟨k1, k2, k3⟩ := vx_keep h0 e1 hS hA hf hL hF
    obtain ⟨t2, a1, b1⟩ := kk u t T'.heap (locs ++ L) e1.symm (by rw [← e2]; exact X'.warmed.alike) hp hb k1 k2 k3 T' rfl X'
    exact ⟨t2, st t2 a1, b1⟩
  · obtain ⟨k1, k2, k3⟩ := vx_keep h0 e1 hS hAX hf hL hF
    obtain ⟨t2, a1, b1⟩ := kx E ce q u t T'.heap (locs ++ L) e1.symm (by rw [← e2]; exact X'.warmed.alike) hp hb k1 k2 k3 (by rw [e1]; exact hce) hcv hcl T' rfl X'
    exact ⟨t2, st.trans a1, b1⟩
/-- caught by the row x of this method's table; the rows ahead don't take it -/
theorem vx_catch {own name : String} {E : String} {ce : Cell} {q : Addr} (hown : s.vm.findClass own = some m.cls) (pre : List ExceptionTableEntry) (x : ExceptionTableEntry) (suf : List ExceptionTableEntry) (hsplit : c.exceptionTable.toList = pre ++ x :: suf)
    (hpass : ∀ z ∈ pre, covers z pc = false ∨ (z.catchType ≠ 0 ∧ ∃ nm : String, (Cond.classLink own z.catchType nm).before args s = true ∧ va_Nc E nm s)) (hx : covers x pc = true) (h0 : x.catchType ≠ 0)
    (hlink : (Cond.classLink own x.catchType name).before args s = true) (hcast : (Cond.castable E name).before args s = true) (hcell : H[q]? = some ce) (hv : ce.vm = .none) (hcl : s.vm.findClass E = some ce.cls)
    (kk : W p l e R s m args below meth c H locs cells slots Q (F0 m x.handlerPc ls [.ref q])) : vx_W p l e R s m args below meth c H locs cells slots Q (F0 m pc ls rest) q := by
  intro T hT X
  have hpl : e.platform.magicAccessors = ({} : Platform).magicAccessors := by rw [X.admits.platform]
  obtain ⟨c3, c4, hc3, hc4, hasg⟩ := Cond.castable_spec hcast
  cases Option.some.inj (hc3.symm.trans hcl)
  obtain ⟨c5, hc5, hcl5⟩ := Cond.classLink_spec hown hlink e.platform hpl
  cases Option.some.inj (hc4.symm.trans hc5)
  obtain ⟨vm', X', st⟩ := X.thenCaughtThrough q (g := F0 m pc ls rest) rfl (Steps.refl _) (by rw [hT]; exact hcell) (by rw [hv]; rfl) (by obtain ⟨k9, h9, -⟩ := Vm.findClass_spec hcl; exact ⟨k9, h9⟩) pre x suf hsplit
    (fun z hz => by
      rcases hpass z hz with h | ⟨hz0, nm, hl1, hn1⟩
      · exact Or.inl h
      · obtain ⟨c6, hc6, hcl6⟩ := Cond.classLink_spec hown hl1 e.platform hpl
        obtain ⟨a8, b8, h1, h2, h3⟩ := hn1
        cases Option.some.inj (h1.symm.trans hcl)
        cases Option.some.inj (h2.symm.trans hc6)
        exact Or.inr ⟨hz0, _, hcl6, h3⟩) hx (Or.inr ⟨h0, c4, hcl5, hasg⟩)
  obtain ⟨t, a1, b1⟩ := kk (T.setVm vm') hT X'
  exact ⟨t, st.trans a1, b1⟩
end Rows
section Ends
variable {p : Program} {l : Launch} {e : Env} {R : Room} {s : State} {m : MethodId} {args : Array Value} {below : List Frame} {meth : Method} {c : Code} {H : Heap} {locs : List Loc} {cells slots : Nat} {Q : State → Prop}
variable {mc ms : Nat} {free : Addr → Prop} {A0 A1 : Nat → Prop} {H0 : Heap} {a : Array Value} {ls : Array Slot} {st0 rest : List Value}
variable {Qc : Array Value → State → Outcome → State → Prop} {XC : String → State → State → Prop}
/-- what a body that may throw owes at its end -/
def vx_MQ (below : List Frame) (Qc : Array Value → State → Outcome → State → Prop) (XC : String → State → State → Prop) (a : Array Value) (s : State) (mc ms : Nat) (free : Addr → Prop) : State → Prop := fun t =>
  ∃ o, t.status = .running ∧ Ended t below o ∧ vx_Q Qc XC mc ms free a s o t
theorem vx_ret {g : JFrame} {mc ms : Nat} (k : W p l e R s m args below meth c H locs cells slots (MQ below Qc args s mc ms free) g) : W p l e R s m args below meth c H locs cells slots (vx_MQ below Qc XC args s mc ms free) g := by
  intro T hT X
  obtain ⟨t, a1, o, b1, b2, b3, b4⟩ := k T hT X
  exact ⟨t, a1, o, b1, b2, Or.inl ⟨b3, b4⟩⟩
/-- not caught here: it goes on to the caller -/
theorem vx_widen {g : JFrame} {q : Addr} {k n : Nat} (h1 : cells ≤ k) (h2 : slots ≤ n) (kk : vx_W p l e R s m args below meth c H locs k n Q g q) : vx_W p l e R s m args below meth c H locs cells slots Q g q := fun T hT X => kk T hT (stand_widen X h1 h2)
theorem vx_out {pc : Nat} {E : String} {ce : Cell} {q : Addr} {mc ms : Nat} (hout : ∀ x ∈ c.exceptionTable.toList, covers x pc = false) (hlocks : meth.locks = false) (hcell : H[q]? = some ce) (hv : ce.vm = .none) (hcl : s.vm.findClass E = some ce.cls)
    (hx : ∀ t : State, t.heap = H → s.vm.Alike t.vm → XC E s t) (hf : ∀ z ∈ locs, free z.base) (hc : cells ≤ mc) (hs : slots ≤ ms) :
    vx_W p l e R s m args below meth c H locs cells slots (vx_MQ below Qc XC args s mc ms free) (F0 m pc ls rest) q := by
  intro T hT X
  obtain ⟨st1, hrun, hend, hW, hsm⟩ := X.leaveThrown q (g := F0 m pc ls rest) rfl rfl rfl hout hlocks
  have hcell9 : (T.setFrames (.throwing q :: below)).heap[q]? = some ce := by
    show T.heap[q]? = some ce
    rw [hT]; exact hcell
  exact ⟨_, st1, .threw q, hrun, hend, Or.inr ⟨q, rfl, E, ce, locs, hx _ hT hW.alike, hcell9, hv, hcl, hW, hsm.mono hc hs, hf⟩⟩
theorem vx_frame {U : State} {k n : Nat} (h : s.sameButNew ({ U with vm := s.vm } : State) locs k n) : s.heap.size ≤ U.heap.size ∧ ∀ q : Nat, q < s.heap.size → (∀ z ∈ locs, z.base ≠ q) → U.heap[q]? = s.heap[q]? := by
  obtain ⟨-, h2, -, -, -, h6⟩ := h
  refine ⟨h2, fun q hq hz => ?_⟩
  obtain ⟨c9, e1, e2, e3, e4⟩ := h6 q _ (Array.getElem?_eq_getElem hq)
  have hs : c9.slots = (s.heap[q]).slots := Array.ext_getElem? fun i => e4 i fun hm => hz _ hm rfl
  have h9 : c9 = s.heap[q] := by
    rw [hs] at e2
    exact e2
  have e5 : U.heap[q]? = some c9 := e1
  rw [e5, h9, Array.getElem?_eq_getElem hq]
/-- the words of a throw but the four that speak of the heap -/
def vx_no (w : Cond) : Bool := decide (w ≠ .isRef (.static Bundle.tN "UNASSIGNED_STACK" Bundle.steD)) && decide (w ≠ .isRef (.static Bundle.tN "SUPPRESSED_SENTINEL" Bundle.listD)) && decide (w ≠ .laysStatic Bundle.tN "UNASSIGNED_STACK" Bundle.steD) && decide (w ≠ .laysStatic Bundle.tN "SUPPRESSED_SENTINEL" Bundle.listD)
def vx_at0 (own : String) (ic : Nat) (X : String) (names : List String) : List Cond := (Bundle.ownAtoms0 own ic X names).filter vx_no
def vx_atS (own : String) (ic : Nat) (X : String) (names : List String) : List Cond := (Bundle.ownAtoms own ic X names).filter vx_no
/-- a word that the tables alone decide, or a good one -/
def vx_ot (w : Cond) : Bool := w.onTables || goodWord w
theorem vx_ot_at {args a' : Array Value} {s U : State} {w : Cond} (hW : s.WarmedH U.vm) (hvm : s.vm = U.vm) (hg : vx_ot w = true) (h : w.before args s = true) : w.before a' U = true := by
  simp only [vx_ot, Bool.or_eq_true] at hg
  rcases hg with hg | hg
  · exact va_tabs hg hvm h
  · exact word_at hW (good_of_word hg) h
/-- a list's words: the good ones out of the method's own list, the others by premises of their own -/
theorem vx_hat {args : Array Value} {s : State} {L B : List Cond} (h1 : ∀ w ∈ L.filter goodWord, w.before args s = true) (h2 : ∀ w ∈ L.filter (fun w => !goodWord w), w ∈ B) (h3 : ∀ w ∈ B, w.before args s = true) : ∀ w ∈ L, w.before args s = true := by
  intro w hw
  by_cases g : goodWord w = true
  · exact h1 w (List.mem_filter.mpr ⟨hw, g⟩)
  · refine h3 w (h2 w (List.mem_filter.mpr ⟨hw, ?_⟩))
    show (!goodWord w) = true
    cases hgw : goodWord w
    · rfl
    · exact absurd hgw g
theorem vx_c {args : Array Value} {s : State} {w : Cond} {B : List Cond} (h : w.before args s = true) (t : ∀ w ∈ B, w.before args s = true) : ∀ w' ∈ w :: B, w'.before args s = true := fun w' h' => (List.mem_cons.mp h').elim (fun e => by rw [e]; exact h) (t w')
theorem vx_n {args : Array Value} {s : State} : ∀ w ∈ ([] : List Cond), w.before args s = true := fun _ h => nomatch h
theorem vx_own {args : Array Value} {s : State} {L : List Cond} (h1 : ∀ w ∈ L.filter vx_no, w.before args s = true)
    (hU : (Cond.isRef (.static Bundle.tN "UNASSIGNED_STACK" Bundle.steD)).before args s = true) (hN : (Cond.isRef (.static Bundle.tN "SUPPRESSED_SENTINEL" Bundle.listD)).before args s = true)
    (lU : (Cond.laysStatic Bundle.tN "UNASSIGNED_STACK" Bundle.steD).before args s = true) (lN : (Cond.laysStatic Bundle.tN "SUPPRESSED_SENTINEL" Bundle.listD).before args s = true) : ∀ w ∈ L, w.before args s = true := by
  intro w hw
  by_cases e1 : w = .isRef (.static Bundle.tN "UNASSIGNED_STACK" Bundle.steD)
  · rw [e1]; exact hU
  · by_cases e2 : w = .isRef (.static Bundle.tN "SUPPRESSED_SENTINEL" Bundle.listD)
    · rw [e2]; exact hN
    · by_cases e3 : w = .laysStatic Bundle.tN "UNASSIGNED_STACK" Bundle.steD
      · rw [e3]; exact lU
      · by_cases e4 : w = .laysStatic Bundle.tN "SUPPRESSED_SENTINEL" Bundle.listD
        · rw [e4]; exact lN
        · exact h1 w (List.mem_filter.mpr ⟨hw, by unfold vx_no; rw [decide_eq_true e1, decide_eq_true e2, decide_eq_true e3, decide_eq_true e4]; rfl⟩)
/-- where a static field lies, its class's statics cell in H -/
def vx_L (C n d : String) (A : Nat → Prop) (U : State) (H : Heap) : Prop := ∃ (c : ClassId) (k : Class) (i : Nat) (f : Field) (a : Nat) (cell : Cell), U.vm.findClass C = some c ∧ U.fieldFound? C n d = some (c, k, i, f) ∧ f.isStatic = true ∧ k.statics = some a ∧ H[a]? = some cell ∧ cell.vm.isStatics = true ∧ cell.cls = c ∧ f.slot < cell.slots.size ∧ k.staticTypes[f.slot]? = some f.type ∧ ¬ A a
theorem vx_L.moved {C n d : String} {A : Nat → Prop} {u U : State} {H : Heap} (hvm : u.vm.Alike U.vm) (h : vx_L C n d A u H) : vx_L C n d A U H := by
  obtain ⟨c, k, i, f, a, cell, h1, h2, h3, h4, h5, h6, h7, h8, h9, h10⟩ := h
  obtain ⟨k', hi', he⟩ := State.fieldFound?_setVm hvm h2
  exact ⟨c, k', i, f, a, cell, by rw [hvm.findClass]; exact h1, hi', h3, by rw [he]; exact h4, h5, h6, h7, h8, by rw [he]; exact h9, h10⟩
theorem vx_L.kept {C n d : String} {A : Nat → Prop} {U : State} {H H1 : Heap} (h : vx_L C n d A U H) (hq : ∀ a : Nat, a < H.size → ¬ A a → H1[a]? = H[a]?) : vx_L C n d A U H1 := by
  obtain ⟨c, k, i, f, a, cell, h1, h2, h3, h4, h5, h6, h7, h8, h9, h10⟩ := h
  exact ⟨c, k, i, f, a, cell, h1, h2, h3, h4, by rw [hq a (Array.getElem?_eq_some_iff.mp h5).1 h10]; exact h5, h6, h7, h8, h9, h10⟩
theorem vx_L.narrow {C n d : String} {A B : Nat → Prop} {U : State} {H : Heap} (h : vx_L C n d A U H) (hAB : ∀ q, B q → A q) : vx_L C n d B U H := by
  obtain ⟨c, k, i, f, a, cell, h1, h2, h3, h4, h5, h6, h7, h8, h9, h10⟩ := h
  exact ⟨c, k, i, f, a, cell, h1, h2, h3, h4, h5, h6, h7, h8, h9, fun z => h10 (hAB _ z)⟩
theorem vx_L.word {C n d : String} {A : Nat → Prop} {s : State} {args : Array Value} (h : vx_L C n d A s s.heap) : (Cond.laysStatic C n d).before args s = true := by
  obtain ⟨c, k, i, f, a, cell, h1, h2, h3, h4, h5, h6, h7, h8, h9, -⟩ := h
  show (Cond.laysStatic C n d).holds args s none s [] = true
  exact Cond.laysStatic_of h1 h2 h3 h4 h5 h6 h7 h8 h9
/-- .. and what it holds: null or some reference -/
def vx_Zq (C n d : String) (A : Nat → Prop) (U : State) (H : Heap) : Prop := va_Zq C n d A U H ∧ vx_L C n d A U H
theorem vx_Zq.moved {C n d : String} {A : Nat → Prop} {u U : State} {H : Heap} (hvm : u.vm.Alike U.vm) (h : vx_Zq C n d A u H) : vx_Zq C n d A U H := ⟨va_Zq.moved hvm h.1, vx_L.moved hvm h.2⟩
theorem vx_Zq.kept {C n d : String} {A : Nat → Prop} {U : State} {H H1 : Heap} (h : vx_Zq C n d A U H) (hq : ∀ a : Nat, a < H.size → ¬ A a → H1[a]? = H[a]?) : vx_Zq C n d A U H1 := ⟨va_Zq.kept h.1 hq, vx_L.kept h.2 hq⟩
theorem vx_Zq.narrow {C n d : String} {A B : Nat → Prop} {U : State} {H : Heap} (h : vx_Zq C n d A U H) (hAB : ∀ q, B q → A q) : vx_Zq C n d B U H := ⟨va_Zq.narrow h.1 hAB, vx_L.narrow h.2 hAB⟩
theorem vx_Zqof {args : Array Value} {s : State} {C n d : String} {A : Nat → Prop} (hl : (Cond.laysStatic C n d).before args s = true) (hini : (Cond.initialized C).before args s = true) (h : (Cond.isRef (.static C n d)).before args s = true) (hA : ∀ a : Nat, a < s.heap.size → ¬ A a) : vx_Zq C n d A s s.heap := by
  refine ⟨va_Zqof hl hini h hA, ?_⟩
  obtain ⟨c, k, i, f, a, cell, h1, h2, h3, h4, h5, h6, h7, h8, h9⟩ := Cond.laysStatic_spec hl
  exact ⟨c, k, i, f, a, cell, h1, h2, h3, h4, h5, h6, h7, h8, h9, hA a (Array.getElem?_eq_some_iff.mp h5).1⟩
theorem vx_isRef {C n d : String} {v : Value} {A : Nat → Prop} {s : State} {args : Array Value} (h : va_Z C n d v A s s.heap) (hv : v.isRef = true) : (Cond.isRef (.static C n d)).before args s = true := by
  obtain ⟨cf, kf, fi, f, a, cell, h1, h2, h3, h4, h5, h6, h7, -⟩ := h
  have he : (Term.static C n d).eval args s none [] s = some v := by
    simp [Term.eval, State.fieldNamed?, h1, h2, h4, h5, h6, h7]
  simp only [Cond.before, Cond.holds, Cond.value, he]
  cases v <;> simp_all [Value.isRef]
theorem vx_isRefq {C n d : String} {A : Nat → Prop} {s : State} {args : Array Value} (h : va_Zq C n d A s s.heap) : (Cond.isRef (.static C n d)).before args s = true := by
  rcases h with h | ⟨t, h⟩
  · exact vx_isRef h rfl
  · exact vx_isRef h rfl
/-- the same frame, seen from here: as if the method were called anew in this heap -/
theorem vx_rebase {T : State} (X : Stand p l e R s m args below meth c T locs cells slots) {R' : Room} (hf : R'.frames ≤ R.frames) (hl : R'.locals ≤ R.locals) (hc : cells + R'.cells ≤ R.cells) (hs : slots + R'.slots ≤ R.slots) :
    Stand p l e R' ((T.setVm s.vm).setFrames (.invoking m args :: below)) m args below meth c T [] 0 0 := by
  have htop : (T.setVm s.vm).topJava?.isSome := X.here.top
  have hF : ((T.setVm s.vm).setFrames (.invoking m args :: below)).frames = .invoking m args :: below := State.frames_setFrames _ (State.cur_lt_of_top htop)
  obtain ⟨g₀, hg0⟩ := Option.isSome_iff_exists.mp htop
  obtain ⟨r, hr⟩ := State.topJava?_eq_some.mp hg0
  have hl9 : e.platform.stackLimits (T.setVm s.vm).me = e.platform.stackLimits s.me := X.limits
  have hb9 : (T.setVm s.vm).me.stackBytes = s.me.stackBytes := X.bytes
  refine ⟨X.admits, X.cas, X.clock, hF, ?_, X.hears, X.method, X.code, X.here, X.tail, X.warmed, ?_, ?_, ?_⟩
  · have h := X.room
    have hU : ((T.setVm s.vm).setFrames (.invoking m args :: below)).localsInUse = s.localsInUse := by
      rw [State.localsInUse_invoking hF (meth := meth) (c := c) X.method X.code, State.localsInUse_invoking X.frames X.method X.code]
    simp only [State.hasRoom, Bool.and_eq_true, decide_eq_true_eq] at h ⊢
    obtain ⟨⟨⟨⟨h1, h2, h3, h4, h5, h6⟩, h7⟩, h8⟩, h9⟩ := h
    rw [X.frames, List.length_cons] at h2 h3
    have q1 := X.heapSize
    have q2 := X.used
    simp only [hF, hU, List.length_cons, State.stackLimits_setFrames, State.stackBytes_setFrames, hl9, hb9]
    refine ⟨⟨⟨⟨by omega, by omega, by omega, by omega, by omega, h6⟩, ?_⟩, ?_⟩, X.book⟩
    · show T.heap.size + R'.cells ≤ e.platform.maxCells
      omega
    · show T.slotsUsed + R'.slots ≤ e.platform.maxSlots
      omega
  · rw [State.stackLimits_setFrames]; rfl
  · rw [State.stackBytes_setFrames]; rfl
  · refine ⟨?_, Nat.le_refl _, Nat.le_refl _, ?_, ?_, fun a c9 h9 => ⟨c9, h9, rfl, rfl, fun _ _ => rfl⟩⟩
    · obtain ⟨t, ht, -⟩ := State.frames_cons hr
      show T.setVm s.vm = { ((T.setVm s.vm).setFrames (.invoking m args :: below)).setFrames (T.setVm s.vm).frames with heap := T.heap, slotsUsed := T.slotsUsed }
      rw [State.setFrames_setFrames, State.setFrames_self ht]
      rfl
    · show T.slotsUsed = T.slotsUsed + ((T.heap.toList.drop T.heap.size).map (·.slots.size)).sum
      rw [List.drop_eq_nil_of_le (Nat.le_of_eq Array.length_toList)]
      rfl
    · show ((T.heap.toList.drop T.heap.size).map (·.slots.size)).sum ≤ 0
      rw [List.drop_eq_nil_of_le (Nat.le_of_eq Array.length_toList)]
      exact Nat.le_refl _
/-- 'throw new E()': new; dup; invokespecial; athrow -/
theorem vx_throw0 {cc : ByteArray} {pc : Nat} (hexec : p.tables.exec = Jvm.exec) (hb : c.code = cc) (hl : l.stackTraces = false) {own cls : String} {names : List String} {ik ic mc ms : Nat} {A : Nat → Prop}
    (hown : s.vm.findClass own = some m.cls) (hcls : Bundle.fit cls = true) (hnames : ∀ n ∈ names, Bundle.fit n = true)
    (hk : (Cond.classLink own ik cls).before args s = true) (hini : (Cond.initialized cls).before args s = true) (hat : ∀ w ∈ vx_at0 own ic cls names, w.before args s = true)
    (hgood : ∀ w ∈ Cond.classLink own ik cls :: Cond.initialized cls :: vx_at0 own ic cls names, vx_ot w = true)
    (hU : vx_Zq Bundle.tN "UNASSIGNED_STACK" Bundle.steD A s s.heap) (hN : vx_Zq Bundle.tN "SUPPRESSED_SENTINEL" Bundle.listD A s s.heap) (hS : va_S A s.heap H locs) (hsize : ls.size = c.maxLocals)
    (d0 : decode cc pc = .ok (.new ik, 3)) (d3 : decode cc (pc + 3) = .ok (.dup, 1)) (d4 : decode cc (pc + 4) = .ok (.invokespecial ic, 3)) (d7 : decode cc (pc + 7) = .ok (.athrow, 1))
    (hout : ∀ x ∈ c.exceptionTable.toList, covers x (pc + 7) = false)
    (hRframes : names.length + 3 < R.frames) (hRlocals : (rest.map fun v => v.category).sum + (13 * (names.length + 1) + 42) ≤ R.locals) (hRcells : cells + 1 ≤ R.cells) (hRslots : slots + 6 ≤ R.slots) (hlocks : meth.locks = false)
    (hx : ∀ t : State, s.vm.Alike t.vm → H.size ≤ t.heap.size → (∀ q : Nat, q < H.size → t.heap[q]? = H[q]?) → XC cls s t)
    (hf : ∀ z ∈ locs, free z.base) (hc : cells + 1 ≤ mc) (hs : slots + 6 ≤ ms) :
    W p l e R s m args below meth c H locs cells slots (vx_MQ below Qc XC args s mc ms free) (F0 m pc ls rest) := by
  intro T hT X
  have htr : e.platform.stackTraces = false := (show e.platform.stackTraces = l.stackTraces by rw [X.admits.platform]).trans hl
  have Y := vx_rebase X (R' := { frames := R.frames, locals := R.locals, cells := 1, slots := 6 }) (Nat.le_refl _) (Nat.le_refl _) hRcells hRslots
  obtain ⟨s', hA⟩ : ∃ z, z = (T.setVm s.vm).setFrames (.invoking m args :: below) := ⟨_, rfl⟩
  rw [← hA] at Y
  have hvm : s'.vm = s.vm := by rw [hA]; rfl
  have hhp : s'.heap = H := by rw [hA]; exact hT
  have hW0 : s.WarmedH s'.vm := by rw [hvm]; exact State.WarmedH.refl s
  have hat' : ∀ w ∈ vx_at0 own ic cls names, w.before args s' = true := fun w hw => vx_ot_at hW0 hvm.symm (hgood w (List.mem_cons_of_mem _ (List.mem_cons_of_mem _ hw))) (hat w hw)
  have hk' : (Cond.classLink own ik cls).before args s' = true := vx_ot_at hW0 hvm.symm (hgood _ List.mem_cons_self) hk
  have hini' : (Cond.initialized cls).before args s' = true := vx_ot_at hW0 hvm.symm (hgood _ (List.mem_cons_of_mem _ List.mem_cons_self)) hini
  have hU' : vx_Zq Bundle.tN "UNASSIGNED_STACK" Bundle.steD A s' s'.heap := by rw [hhp]; exact vx_Zq.moved hW0.alike (hU.kept hS.2.1)
  have hN' : vx_Zq Bundle.tN "SUPPRESSED_SENTINEL" Bundle.listD A s' s'.heap := by rw [hhp]; exact vx_Zq.moved hW0.alike (hN.kept hS.2.1)
  have h : ∀ w ∈ Bundle.ownAtoms0 own ic cls names, w.before args s' = true := vx_own hat' (vx_isRefq hU'.1) (vx_isRefq hN'.1) hU'.2.word hN'.2.word
  have hown' : s'.vm.findClass own = some m.cls := by rw [hvm]; exact hown
  have hins : (Cond.instantiable cls 6).before args s' = true := h _ (by simp [Bundle.ownAtoms0])
  obtain ⟨vm₁, cX, kX, hfX, hkX, -, -, X₁, st1⟩ := Y.newCold hexec (own := own) (C := cls) (index := ik) (n := 6) hown' hk' hins hini'
    (g := F0 m pc ls rest) rfl (by rw [hb]; exact d0) (Nat.le_refl _) (Nat.le_refl _)
  generalize hT1 : (T.setVm vm₁).pushCell { cls := cX, slots := kX.instanceTypes.map defaultValue, vm := .none } = T1 at X₁ st1
  have hcat : (Value.ref T.heap.size).category = 1 := rfl
  have hcellA : T1.heap[T.heap.size]? = some (freshCell cX kX) := by rw [← hT1]; exact State.heap_pushCell_size _ _
  have d3' : decode c.code (pc + 3) = .ok (.dup, 1) := by rw [hb]; exact d3
  obtain ⟨U, hsteps, hrun, hend, hW, hsame, ce, hce, hO⟩ := X₁.ctorThrow0 hexec htr (own := own) (cls := cls) (names := names) (ic := ic) hown' hcls hnames h (fun x hx => nomatch hx) hfX hkX hcellA (by rw [hhp, hT]; exact Nat.le_refl _)
    (g := { method := m, pc := pc + 4, locals := ls, stack := .ref T.heap.size :: .ref T.heap.size :: rest, locked := none }) rfl hsize rfl rfl (rest := rest) rfl
    (by rw [hb]; exact d4) (by rw [hb]; exact d7) hout hRframes (by simp only [List.map_cons, List.sum_cons, hcat]; omega) hlocks
  obtain ⟨f1, f2⟩ := vx_frame hsame
  rw [hhp] at f1 f2
  have hWs : s.WarmedH U.vm := State.WarmedH.trans hW0 hW
  have hcl : s.vm.findClass cls = some ce.cls := by
    have h9 := hO.cls
    rw [hvm] at h9
    exact h9
  have hall : s.sameButNew ({ U with vm := s.vm } : State) locs mc ms := by
    subst hA
    obtain ⟨e1, e2⟩ := hsame
    rw [State.setFrames_setFrames] at e1
    have h2 : (T.setVm s.vm).sameButNew ({ U with vm := s.vm } : State) [] (0 + 1) (0 + 6) := ⟨e1, e2⟩
    have h3 := X.same.trans h2
    rw [List.append_nil] at h3
    exact h3.mono hc hs
  refine ⟨U, ?_, .threw T.heap.size, hrun, hend, Or.inr ⟨T.heap.size, rfl, cls, ce, locs, hx U hWs.alike f1 (fun q hq => f2 q hq (fun z hz => nomatch hz)), hce, hO.vm, hcl, hWs, hall, hf⟩⟩
  refine st1 _ ?_
  show Steps p.tables e below (T1.setTop { method := m, pc := pc + 3, locals := ls, stack := .ref T.heap.size :: rest, locked := none }) _
  jvm_step X₁.here [X₁.here.top, hexec, d3', Value.category]
  exact hsteps
/-- 'throw new E("text")': new; dup; ldc; invokespecial; athrow -/
theorem vx_throwS {cc : ByteArray} {pc : Nat} (hexec : p.tables.exec = Jvm.exec) (hb : c.code = cc) (hl : l.stackTraces = false) {own cls text : String} {names : List String} {ik is ic mc ms sa : Nat} {A : Nat → Prop}
    (hown : s.vm.findClass own = some m.cls) (hcls : Bundle.fit cls = true) (hnames : ∀ n ∈ names, Bundle.fit n = true)
    (hk : (Cond.classLink own ik cls).before args s = true) (hini : (Cond.initialized cls).before args s = true) (hstr : vk_R own is text sa s) (hat : ∀ w ∈ vx_atS own ic cls names, w.before args s = true)
    (hgood : ∀ w ∈ Cond.classLink own ik cls :: Cond.initialized cls :: vx_atS own ic cls names, vx_ot w = true)
    (hU : vx_Zq Bundle.tN "UNASSIGNED_STACK" Bundle.steD A s s.heap) (hN : vx_Zq Bundle.tN "SUPPRESSED_SENTINEL" Bundle.listD A s s.heap) (hS : va_S A s.heap H locs) (hsize : ls.size = c.maxLocals)
    (d0 : decode cc pc = .ok (.new ik, 3)) (d3 : decode cc (pc + 3) = .ok (.dup, 1)) (d4 : decode cc (pc + 4) = .ok (.ldc is, 2)) (d6 : decode cc (pc + 6) = .ok (.invokespecial ic, 3)) (d9 : decode cc (pc + 9) = .ok (.athrow, 1))
    (hout : ∀ x ∈ c.exceptionTable.toList, covers x (pc + 9) = false)
    (hRframes : names.length + 3 < R.frames) (hRlocals : (rest.map fun v => v.category).sum + (13 * (names.length + 1) + 43) ≤ R.locals) (hRcells : cells + 1 ≤ R.cells) (hRslots : slots + 6 ≤ R.slots) (hlocks : meth.locks = false)
    (hx : ∀ t : State, s.vm.Alike t.vm → H.size ≤ t.heap.size → (∀ q : Nat, q < H.size → t.heap[q]? = H[q]?) → XC cls s t)
    (hf : ∀ z ∈ locs, free z.base) (hc : cells + 1 ≤ mc) (hs : slots + 6 ≤ ms) :
    W p l e R s m args below meth c H locs cells slots (vx_MQ below Qc XC args s mc ms free) (F0 m pc ls rest) := by
  intro T hT X
  have htr : e.platform.stackTraces = false := (show e.platform.stackTraces = l.stackTraces by rw [X.admits.platform]).trans hl
  have Y := vx_rebase X (R' := { frames := R.frames, locals := R.locals, cells := 1, slots := 6 }) (Nat.le_refl _) (Nat.le_refl _) hRcells hRslots
  obtain ⟨s', hA⟩ : ∃ z, z = (T.setVm s.vm).setFrames (.invoking m args :: below) := ⟨_, rfl⟩
  rw [← hA] at Y
  have hvm : s'.vm = s.vm := by rw [hA]; rfl
  have hhp : s'.heap = H := by rw [hA]; exact hT
  have hW0 : s.WarmedH s'.vm := by rw [hvm]; exact State.WarmedH.refl s
  have hat' : ∀ w ∈ vx_atS own ic cls names, w.before args s' = true := fun w hw => vx_ot_at hW0 hvm.symm (hgood w (List.mem_cons_of_mem _ (List.mem_cons_of_mem _ hw))) (hat w hw)
  have hk' : (Cond.classLink own ik cls).before args s' = true := vx_ot_at hW0 hvm.symm (hgood _ List.mem_cons_self) hk
  have hini' : (Cond.initialized cls).before args s' = true := vx_ot_at hW0 hvm.symm (hgood _ (List.mem_cons_of_mem _ List.mem_cons_self)) hini
  have hU' : vx_Zq Bundle.tN "UNASSIGNED_STACK" Bundle.steD A s' s'.heap := by rw [hhp]; exact vx_Zq.moved hW0.alike (hU.kept hS.2.1)
  have hN' : vx_Zq Bundle.tN "SUPPRESSED_SENTINEL" Bundle.listD A s' s'.heap := by rw [hhp]; exact vx_Zq.moved hW0.alike (hN.kept hS.2.1)
  have h : ∀ w ∈ Bundle.ownAtoms own ic cls names, w.before args s' = true := vx_own hat' (vx_isRefq hU'.1) (vx_isRefq hN'.1) hU'.2.word hN'.2.word
  have hown' : s'.vm.findClass own = some m.cls := by rw [hvm]; exact hown
  have hins : (Cond.instantiable cls 6).before args s' = true := h _ (by simp [Bundle.ownAtoms])
  obtain ⟨vm₁, cX, kX, hfX, hkX, -, -, X₁, st1⟩ := Y.newCold hexec (own := own) (C := cls) (index := ik) (n := 6) hown' hk' hins hini'
    (g := F0 m pc ls rest) rfl (by rw [hb]; exact d0) (Nat.le_refl _) (Nat.le_refl _)
  generalize hT1 : (T.setVm vm₁).pushCell { cls := cX, slots := kX.instanceTypes.map defaultValue, vm := .none } = T1 at X₁ st1
  have hcat : (Value.ref T.heap.size).category = 1 := rfl
  have hcellA : T1.heap[T.heap.size]? = some (freshCell cX kX) := by rw [← hT1]; exact State.heap_pushCell_size _ _
  have d3' : decode c.code (pc + 3) = .ok (.dup, 1) := by rw [hb]; exact d3
  have d4' : decode c.code (pc + 4) = .ok (.ldc is, 2) := by rw [hb]; exact d4
  have hstr' : vk_R own is text sa s' := vk_R.warm hW0 hstr
  obtain ⟨U, hsteps, hrun, hend, hW, hsame, ce, hce, hO⟩ := X₁.ctorThrowS hexec htr (own := own) (cls := cls) (names := names) (ic := ic) hown' hcls hnames h (fun x hx => nomatch hx) hfX hkX hcellA (by rw [hhp, hT]; exact Nat.le_refl _) (msg := .ref sa) rfl
    (g := { method := m, pc := pc + 6, locals := ls, stack := .ref sa :: .ref T.heap.size :: .ref T.heap.size :: rest, locked := none }) rfl hsize rfl rfl (rest := rest) rfl
    (by rw [hb]; exact d6) (by rw [hb]; exact d9) hout hRframes (by simp only [List.map_cons, List.sum_cons, hcat]; omega) hlocks
  obtain ⟨f1, f2⟩ := vx_frame hsame
  rw [hhp] at f1 f2
  have hWs : s.WarmedH U.vm := State.WarmedH.trans hW0 hW
  have hcl : s.vm.findClass cls = some ce.cls := by
    have h9 := hO.cls
    rw [hvm] at h9
    exact h9
  have hall : s.sameButNew ({ U with vm := s.vm } : State) locs mc ms := by
    subst hA
    obtain ⟨e1, e2⟩ := hsame
    rw [State.setFrames_setFrames] at e1
    have h2 : (T.setVm s.vm).sameButNew ({ U with vm := s.vm } : State) [] (0 + 1) (0 + 6) := ⟨e1, e2⟩
    have h3 := X.same.trans h2
    rw [List.append_nil] at h3
    exact h3.mono hc hs
  refine ⟨U, ?_, .threw T.heap.size, hrun, hend, Or.inr ⟨T.heap.size, rfl, cls, ce, locs, hx U hWs.alike f1 (fun q hq => f2 q hq (fun z hz => nomatch hz)), hce, hO.vm, hcl, hWs, hall, hf⟩⟩
  refine st1 _ ?_
  show Steps p.tables e below (T1.setTop { method := m, pc := pc + 3, locals := ls, stack := .ref T.heap.size :: rest, locked := none }) _
  jvm_step X₁.here [X₁.here.top, hexec, d3', Value.category]
  exact X₁.ldcString hexec (own := own) (text := text) (index := is) (a := sa) hown' hstr'.1 hstr'.2
    (g := { method := m, pc := pc + 4, locals := ls, stack := .ref T.heap.size :: .ref T.heap.size :: rest, locked := none }) rfl d4' _ hsteps
/-- 'throw new E("text")', the text by a wide index -/
theorem vx_throwSW {cc : ByteArray} {pc : Nat} (hexec : p.tables.exec = Jvm.exec) (hb : c.code = cc) (hl : l.stackTraces = false) {own cls text : String} {names : List String} {ik is ic mc ms sa : Nat} {A : Nat → Prop}
    (hown : s.vm.findClass own = some m.cls) (hcls : Bundle.fit cls = true) (hnames : ∀ n ∈ names, Bundle.fit n = true)
    (hk : (Cond.classLink own ik cls).before args s = true) (hini : (Cond.initialized cls).before args s = true) (hstr : vk_R own is text sa s) (hat : ∀ w ∈ vx_atS own ic cls names, w.before args s = true)
    (hgood : ∀ w ∈ Cond.classLink own ik cls :: Cond.initialized cls :: vx_atS own ic cls names, vx_ot w = true)
    (hU : vx_Zq Bundle.tN "UNASSIGNED_STACK" Bundle.steD A s s.heap) (hN : vx_Zq Bundle.tN "SUPPRESSED_SENTINEL" Bundle.listD A s s.heap) (hS : va_S A s.heap H locs) (hsize : ls.size = c.maxLocals)
    (d0 : decode cc pc = .ok (.new ik, 3)) (d3 : decode cc (pc + 3) = .ok (.dup, 1)) (d4 : decode cc (pc + 4) = .ok (.ldc_w is, 3)) (d7 : decode cc (pc + 7) = .ok (.invokespecial ic, 3)) (d10 : decode cc (pc + 10) = .ok (.athrow, 1))
    (hout : ∀ x ∈ c.exceptionTable.toList, covers x (pc + 10) = false)
    (hRframes : names.length + 3 < R.frames) (hRlocals : (rest.map fun v => v.category).sum + (13 * (names.length + 1) + 43) ≤ R.locals) (hRcells : cells + 1 ≤ R.cells) (hRslots : slots + 6 ≤ R.slots) (hlocks : meth.locks = false)
    (hx : ∀ t : State, s.vm.Alike t.vm → H.size ≤ t.heap.size → (∀ q : Nat, q < H.size → t.heap[q]? = H[q]?) → XC cls s t)
    (hf : ∀ z ∈ locs, free z.base) (hc : cells + 1 ≤ mc) (hs : slots + 6 ≤ ms) :
    W p l e R s m args below meth c H locs cells slots (vx_MQ below Qc XC args s mc ms free) (F0 m pc ls rest) := by
  intro T hT X
  have htr : e.platform.stackTraces = false := (show e.platform.stackTraces = l.stackTraces by rw [X.admits.platform]).trans hl
  have Y := vx_rebase X (R' := { frames := R.frames, locals := R.locals, cells := 1, slots := 6 }) (Nat.le_refl _) (Nat.le_refl _) hRcells hRslots
  obtain ⟨s', hA⟩ : ∃ z, z = (T.setVm s.vm).setFrames (.invoking m args :: below) := ⟨_, rfl⟩
  rw [← hA] at Y
  have hvm : s'.vm = s.vm := by rw [hA]; rfl
  have hhp : s'.heap = H := by rw [hA]; exact hT
  have hW0 : s.WarmedH s'.vm := by rw [hvm]; exact State.WarmedH.refl s
  have hat' : ∀ w ∈ vx_atS own ic cls names, w.before args s' = true := fun w hw => vx_ot_at hW0 hvm.symm (hgood w (List.mem_cons_of_mem _ (List.mem_cons_of_mem _ hw))) (hat w hw)
  have hk' : (Cond.classLink own ik cls).before args s' = true := vx_ot_at hW0 hvm.symm (hgood _ List.mem_cons_self) hk
  have hini' : (Cond.initialized cls).before args s' = true := vx_ot_at hW0 hvm.symm (hgood _ (List.mem_cons_of_mem _ List.mem_cons_self)) hini
  have hU' : vx_Zq Bundle.tN "UNASSIGNED_STACK" Bundle.steD A s' s'.heap := by rw [hhp]; exact vx_Zq.moved hW0.alike (hU.kept hS.2.1)
  have hN' : vx_Zq Bundle.tN "SUPPRESSED_SENTINEL" Bundle.listD A s' s'.heap := by rw [hhp]; exact vx_Zq.moved hW0.alike (hN.kept hS.2.1)
  have h : ∀ w ∈ Bundle.ownAtoms own ic cls names, w.before args s' = true := vx_own hat' (vx_isRefq hU'.1) (vx_isRefq hN'.1) hU'.2.word hN'.2.word
  have hown' : s'.vm.findClass own = some m.cls := by rw [hvm]; exact hown
  have hins : (Cond.instantiable cls 6).before args s' = true := h _ (by simp [Bundle.ownAtoms])
  obtain ⟨vm₁, cX, kX, hfX, hkX, -, -, X₁, st1⟩ := Y.newCold hexec (own := own) (C := cls) (index := ik) (n := 6) hown' hk' hins hini'
    (g := F0 m pc ls rest) rfl (by rw [hb]; exact d0) (Nat.le_refl _) (Nat.le_refl _)
  generalize hT1 : (T.setVm vm₁).pushCell { cls := cX, slots := kX.instanceTypes.map defaultValue, vm := .none } = T1 at X₁ st1
  have hcat : (Value.ref T.heap.size).category = 1 := rfl
  have hcellA : T1.heap[T.heap.size]? = some (freshCell cX kX) := by rw [← hT1]; exact State.heap_pushCell_size _ _
  have d3' : decode c.code (pc + 3) = .ok (.dup, 1) := by rw [hb]; exact d3
  have d4' : decode c.code (pc + 4) = .ok (.ldc_w is, 3) := by rw [hb]; exact d4
  have hstr' : vk_R own is text sa s' := vk_R.warm hW0 hstr
  obtain ⟨U, hsteps, hrun, hend, hW, hsame, ce, hce, hO⟩ := X₁.ctorThrowS hexec htr (own := own) (cls := cls) (names := names) (ic := ic) hown' hcls hnames h (fun x hx => nomatch hx) hfX hkX hcellA (by rw [hhp, hT]; exact Nat.le_refl _) (msg := .ref sa) rfl
    (g := { method := m, pc := pc + 7, locals := ls, stack := .ref sa :: .ref T.heap.size :: .ref T.heap.size :: rest, locked := none }) rfl hsize rfl rfl (rest := rest) rfl
    (by rw [hb]; exact d7) (by rw [hb]; exact d10) hout hRframes (by simp only [List.map_cons, List.sum_cons, hcat]; omega) hlocks
  obtain ⟨f1, f2⟩ := vx_frame hsame
  rw [hhp] at f1 f2
  have hWs : s.WarmedH U.vm := State.WarmedH.trans hW0 hW
  have hcl : s.vm.findClass cls = some ce.cls := by
    have h9 := hO.cls
    rw [hvm] at h9
    exact h9
  have hall : s.sameButNew ({ U with vm := s.vm } : State) locs mc ms := by
    subst hA
    obtain ⟨e1, e2⟩ := hsame
    rw [State.setFrames_setFrames] at e1
    have h2 : (T.setVm s.vm).sameButNew ({ U with vm := s.vm } : State) [] (0 + 1) (0 + 6) := ⟨e1, e2⟩
    have h3 := X.same.trans h2
    rw [List.append_nil] at h3
    exact h3.mono hc hs
  refine ⟨U, ?_, .threw T.heap.size, hrun, hend, Or.inr ⟨T.heap.size, rfl, cls, ce, locs, hx U hWs.alike f1 (fun q hq => f2 q hq (fun z hz => nomatch hz)), hce, hO.vm, hcl, hWs, hall, hf⟩⟩
  refine st1 _ ?_
  show Steps p.tables e below (T1.setTop { method := m, pc := pc + 3, locals := ls, stack := .ref T.heap.size :: rest, locked := none }) _
  jvm_step X₁.here [X₁.here.top, hexec, d3', Value.category]
  exact X₁.ldcStringW hexec (own := own) (text := text) (index := is) (a := sa) hown' hstr'.1 hstr'.2
    (g := { method := m, pc := pc + 4, locals := ls, stack := .ref T.heap.size :: .ref T.heap.size :: rest, locked := none }) rfl d4' _ hsteps
end Ends
section Bodies
variable {l : Launch}
theorem vx_ofW {y : MethodName} {ws ws' : List Cond} {rm : Room} {Pc : Array Value → State → Prop} {Qc : Array Value → State → Outcome → State → Prop} {XC : String → State → State → Prop} {mc ms : Nat} {free : Addr → Prop} {cc : ByteArray} {maxL : Nat} {ret : Option FieldType}
    (hy : plainName y.cls = true) (hw : ws = Cond.code y cc maxL ret :: ws')
    (body : ∀ p e s m args below meth c s₁, BodyLoose p l y (headSpec ws rm) cc maxL ret e s m args below meth c s₁ → c.maxLocals = maxL → (∀ x ∈ c.exceptionTable.toList, False) → Pc args s →
      W p l e (headSpec ws rm).room s m args below meth c s.heap [] 0 0 (vx_MQ below Qc XC args s mc ms free) (entryFrame m args maxL)) : vx_Met l y ws rm Pc Qc XC mc ms free := by
  refine MetFree.of_bodyS (code := cc) (maxLocals := maxL) (ret := ret) hy ?_ ?_
  · intro args s m h hn
    obtain ⟨meth, c, h1, h2, h3, h4, h5, h6, -, -⟩ := Cond.code_spec hn (atoms_spec (ws := ws) h _ (by rw [hw]; exact List.mem_cons_self))
    exact ⟨meth, c, h1, h2, h3, h4, h5, h6⟩
  · intro p e s m args below meth c s₁ B hml hP _
    have hh0 : s₁.heap = s.heap := by rw [B.state]; rfl
    have ht : ∀ x ∈ c.exceptionTable.toList, False := by
      obtain ⟨meth9, c9, h1, h2, -, -, -, -, h7, -⟩ := Cond.code_spec B.named (atoms_spec (ws := ws) B.pre _ (by rw [hw]; exact List.mem_cons_self))
      cases Option.some.inj (h1.symm.trans B.method)
      cases Option.some.inj (h2.symm.trans (Stand.of_body B).code)
      intro x hx
      rw [Array.isEmpty_iff.mp h7] at hx
      cases hx
    obtain ⟨t, a1, o, b1, b2, b3⟩ := body p e s m args below meth c s₁ B hml ht hP s₁ hh0 (Stand.of_body B)
    exact ⟨t, o, a1, b1, b2, b3⟩
/-- the table of a body with handlers -/
theorem vx_table {p : Program} {x y : MethodName} {S : Spec} {cc bytes : ByteArray} {maxL maxL' : Nat} {ret ret' : Option FieldType} {e : Env} {s s₁ : State} {m : MethodId} {args : Array Value} {below : List Frame} {meth : Method} {c : Code} {hh : List (Nat × Nat × Nat × Nat)}
    (B : BodyLoose p l y S cc maxL ret e s m args below meth c s₁) (h : (Cond.codeWith y bytes maxL' ret' hh).before args s = true) : c.exceptionTable.toList = tableOf hh := by
  obtain ⟨m9, meth9, c9, hn9, h1, h2, -, -, h6, -⟩ := Cond.codeWith_spec h
  cases Option.some.inj (hn9.symm.trans B.named)
  cases Option.some.inj (h1.symm.trans B.method)
  cases Option.some.inj (h2.symm.trans (Stand.of_body B).code)
  rw [← h6, table_eq]
end Bodies
end VXA
/-! ===== END ===== -/
/-! ===== BEGIN a static call of a method with an exception table ===== -/
section VXS
variable {p : Program} {l : Launch} {e : Env} {R : Room} {s : State} {m : MethodId} {args : Array Value} {below : List Frame} {meth : Method} {c : Code} {T : State} {H : Heap} {locs : List Loc} {cells slots : Nat}
abbrev vx_CSW (R : Room) (s : State) (args : Array Value) (own : String) (index : Nat) (y : MethodName) (bytes : ByteArray) (maxL : Nat) (ret : Option FieldType) (hh : List (Nat × Nat × Nat × Nat)) (ws : List Cond) (rm : Room) (mc ms n : Nat) : Prop :=
  (rm.cells = mc ∧ rm.slots = ms ∧ rm.frames + 1 ≤ R.frames ∧ 8 + (maxL + 11) + rm.locals ≤ R.locals ∧ (∀ w ∈ ws, ∀ (a' : Array Value) (U : State), s.WarmedH U.vm → w.before a' U = true) ∧ Cond.codeWith y bytes maxL ret hh ∈ ws) ∧
  (Cond.codeWith y bytes maxL ret hh).before args s = true ∧ (Cond.initialized y.cls).before args s = true ∧ (y.cls ≠ "java/lang/invoke/MethodHandle" ∧ y.cls ≠ "java/lang/invoke/VarHandle") ∧
  (∀ sig, parseMethodDescriptor y.desc = some sig → n = sig.parameters.length) ∧ (Cond.methodLink own index y).before args s = true ∧ (Cond.static y).before args s = true
theorem vx_cwSW {own : String} {index maxL mc ms : Nat} {y : MethodName} {bytes : ByteArray} {ret : Option FieldType} {hh : List (Nat × Nat × Nat × Nat)} {Ts ws ws' : List Cond} {rm : Room} (n : Nat) (ht : ∀ w ∈ Ts, w.before args s = true) (hT : GoodIn Ts (va_wsS own index y ws)) (hw : ws = Cond.codeWith y bytes maxL ret hh :: ws') (hrc : rm.cells = mc) (hrs : rm.slots = ms)
    (hd : y.cls ≠ "java/lang/invoke/MethodHandle" ∧ y.cls ≠ "java/lang/invoke/VarHandle" ∧ (parseMethodDescriptor y.desc).map (fun d => d.parameters.length) = some n) (hR : rm.frames + 1 ≤ R.frames ∧ 8 + (maxL + 11) + rm.locals ≤ R.locals) :
    vx_CSW R s args own index y bytes maxL ret hh ws rm mc ms n := by
  have ok : ∀ w ∈ va_wsS own index y ws, w.before args s = true := fun w h => ht w (hT w h).1
  have hG : GoodIn Ts ws := fun w h => hT w (by unfold va_wsS; exact List.mem_append_right _ h)
  have hc : Cond.codeWith y bytes maxL ret hh ∈ ws := by rw [hw]; exact List.mem_cons_self
  refine ⟨⟨hrc, hrs, hR.1, hR.2, pay_in ht hG, hc⟩, ht _ (hG _ hc).1, ok _ (by simp [va_wsS]), ⟨hd.1, hd.2.1⟩, fun sig h => ?_, ok _ (by simp [va_wsS]), ok _ (by simp [va_wsS])⟩
  have h2 := hd.2.2
  rw [h] at h2
  exact (Option.some.inj h2).symm
theorem vx_callSW (X : Stand p l e R s m args below meth c T locs cells slots) (hexec : p.tables.exec = Jvm.exec) {own : String} {index : Nat} {y : MethodName} {bytes : ByteArray} {maxL : Nat} {ret : Option FieldType} {hh : List (Nat × Nat × Nat × Nat)}
    (hown : s.vm.findClass own = some m.cls) (hlink : (Cond.methodLink own index y).before args s = true) (hstat : (Cond.static y).before args s = true) (hinit : (Cond.initialized y.cls).before args s = true)
    (hcode : (Cond.codeWith y bytes maxL ret hh).before args s = true) (hy : y.cls ≠ "java/lang/invoke/MethodHandle" ∧ y.cls ≠ "java/lang/invoke/VarHandle")
    {W9 : Nat} {Pre : Pt → Array Value → Prop} {Post : Pt → Array Value → Option Value → Pt → Prop} (hK : Back l R p e below s args y 3 W9 Pre Post)
    {g : JFrame} (hg : g.method = m) (hsize : g.locals.size = c.maxLocals) {argsL rest : List Value} (hlen : ∀ sig, parseMethodDescriptor y.desc = some sig → argsL.length = sig.parameters.length)
    (hstack : g.stack = argsL.reverse ++ rest) (hW : 2 * g.monitorRoom + (rest.map fun v => v.category).sum ≤ W9) (hdg : decode c.code g.pc = .ok (.invokestatic index, 3))
    (hpre : ∀ vm₁, s.WarmedH vm₁ → Pre ⟨T.setVm vm₁, locs, cells, slots⟩ argsL.toArray) :
    ∃ (v : Option Value) (vm₁ : Vm) (B : Pt), s.WarmedH vm₁ ∧ Stand p l e R s m args below meth c B.U B.locs B.cells B.slots ∧ Post ⟨T.setVm vm₁, locs, cells, slots⟩ argsL.toArray v B ∧
      ∀ target, Steps p.tables e below (B.U.setTop { g with pc := g.pc + 3, stack := v.toList ++ rest }) target → Steps p.tables e below (T.setTop g) target := by
  obtain ⟨mk, methM, cM, hnamed, hmethM, -, -, -, -, -, -, hsigM⟩ := Cond.codeWith_spec hcode
  have hstatic : methM.isStatic = true := Cond.static_spec hnamed hmethM hstat
  obtain ⟨kP, hkP, -⟩ := className_of_methodNamed hnamed
  have hinitP : kP.init = .initialized := Cond.initialized_spec (findClass_of_methodNamed hnamed) hkP hinit
  obtain ⟨vm₁, X₁, hstep₁⟩ := X.invokestatic hexec hown hlink hnamed hmethM hstatic hkP hinitP hy (g := g) hg (argsL := argsL) (rest := rest) (hlen _ hsigM) hstack hdg
  obtain ⟨v, B, X', hpost, hsteps⟩ := hK m meth c ⟨T.setVm vm₁, locs, cells, slots⟩ { g with stack := rest } (.invokestatic index) mk argsL.toArray X₁ hg hsize hdg hW (X₁.named hnamed) (hpre vm₁ X₁.warmed)
  exact ⟨v, vm₁, B, X₁.warmed, X', hpost, fun target h => hstep₁ _ fun acts => by rw [doInvoke_state]; exact hsteps.trans h⟩
theorem vx_runSW {y : MethodName} {bytes cc : ByteArray} {maxL nL mc ms n index : Nat} {ret : Option FieldType} {hh : List (Nat × Nat × Nat × Nat)} {ws : List Cond} {rm : Room} {Pc : Array Value → State → Prop} {Qc : Array Value → State → Outcome → State → Prop} {free : Addr → Prop} {Ts : List Cond} {own : String} {As rest : List Value} {g : JFrame}
    (S : CallFix p m c cc nL s args Ts own) (hM : Met l y ws rm Pc Qc mc ms free) (cw : vx_CSW R s args own index y bytes maxL ret hh ws rm mc ms n) (hp : PreS s H Pc As)
    (hg : g.method = m) (hn : As.length = n) (hsize : g.locals.size = nL) (hstack : g.stack = As.reverse ++ rest) (hW : 2 * g.monitorRoom + (rest.map fun v => v.category).sum ≤ 8) (hdg : decode cc g.pc = .ok (.invokestatic index, 3)) (hf : cells + mc ≤ R.cells ∧ slots + ms ≤ R.slots) :
    va_Run p l e R s m args below meth c H locs cells slots mc ms g rest (Qc As.toArray) (free) := by
  obtain ⟨⟨hrc, hrs, hfr, hlo, hws, hcw⟩, hcode, hini, hy, hlen, hl, hstt⟩ := cw
  have hK : Back l R p e below s args y 3 8 (PreOf R mc ms Pc) (PostOf Qc mc ms free) := va_backW (hh := hh) (bytes := bytes) (maxL := maxL) (ret := ret) hM hp.1 hrc hrs hfr hlo hws hcw (fun a' U hW => word_at hW (Or.inl (by first | rfl | simp [Cond.onTables, Cond.keeps, Cond.steady])) hini)
  obtain ⟨hx, hb, hml, ho, -⟩ := S
  intro T hT X
  obtain ⟨v, vm₁, ⟨U', l2, c2, s2⟩, hW₁, X', ⟨g', mk, t, L, e1, e2, hq, h1, hL, h2, h3⟩, st⟩ := vx_callSW X hx (hh := hh) (bytes := bytes) (maxL := maxL) (ret := ret) ho hl hstt hini hcode hy hK hg (hsize.trans hml.symm) (argsL := As) (rest := rest) (fun sig h => hn.trans (hlen sig h)) hstack hW (by rw [hb]; exact hdg)
    (fun vm₁ hW₁ => ⟨hf.1, hf.2, hp.2 (T.setVm vm₁) hT hW₁⟩)
  dsimp only [Pt.U, Pt.locs, Pt.cells, Pt.slots] at X' e1 e2 h1 h2 h3 st
  subst h1; subst h2; subst h3
  exact ⟨v, (T.setVm vm₁).calling g' mk As.toArray, t, U', L, hT, X', hL, e1, e2, hq, st⟩
/-- not caught here, past rows that name other classes: it goes on to the caller -/
theorem vx_outP {p : Program} {l : Launch} {e : Env} {R : Room} {s : State} {m : MethodId} {args : Array Value} {below : List Frame} {meth : Method} {c : Code} {H : Heap} {locs : List Loc} {cells slots : Nat} {free : Addr → Prop} {ls : Array Slot} {rest : List Value} {Qc : Array Value → State → Outcome → State → Prop} {XC : String → State → State → Prop}
    {pc : Nat} {own E : String} {ce : Cell} {q : Addr} {mc ms : Nat} (hown : s.vm.findClass own = some m.cls) (hlocks : meth.locks = false)
    (hpass : ∀ z ∈ c.exceptionTable.toList, covers z pc = false ∨ (z.catchType ≠ 0 ∧ ∃ nm : String, (Cond.classLink own z.catchType nm).before args s = true ∧ va_Nc E nm s)) (hcell : H[q]? = some ce) (hv : ce.vm = .none) (hcl : s.vm.findClass E = some ce.cls)
    (hx : ∀ t : State, t.heap = H → s.vm.Alike t.vm → XC E s t) (hf : ∀ z ∈ locs, free z.base) (hc : cells ≤ mc) (hs : slots ≤ ms) :
    vx_W p l e R s m args below meth c H locs cells slots (vx_MQ below Qc XC args s mc ms free) (F0 m pc ls rest) q := by
  intro T hT X
  have hpl : e.platform.magicAccessors = ({} : Platform).magicAccessors := by rw [X.admits.platform]
  obtain ⟨vm', hW', X', st⟩ := X.outThrough hlocks q (g := F0 m pc ls rest) rfl rfl rfl (cell := ce) (by rw [hT]; exact hcell) (by rw [hv]; rfl)
    (by obtain ⟨k9, h9, -⟩ := Vm.findClass_spec hcl; exact ⟨k9, h9⟩) (fun z hz => by
      rcases hpass z hz with h | ⟨hz0, nm, hl1, hn1⟩
      · exact Or.inl h
      · obtain ⟨c6, hc6, hcl6⟩ := Cond.classLink_spec hown hl1 e.platform hpl
        obtain ⟨a8, b8, h1, h2, h3⟩ := hn1
        cases Option.some.inj (h1.symm.trans hcl)
        cases Option.some.inj (h2.symm.trans hc6)
        exact Or.inr ⟨hz0, _, hcl6, h3⟩)
  obtain ⟨g₀, hfr⟩ := X'.frames_eq
  have hcell9 : ((T.setVm vm').setFrames (.throwing q :: below)).heap[q]? = some ce := by
    show T.heap[q]? = some ce
    rw [hT]; exact hcell
  have hend : Ended ((T.setVm vm').setFrames (.throwing q :: below)) below (.threw q) := State.frames_setFrames _ (State.cur_lt_of_frames hfr)
  refine ⟨(T.setVm vm').setFrames (.throwing q :: below), ?_, .threw q, X'.here.running, hend, Or.inr ⟨q, rfl, E, ce, locs, hx _ hT (X'.ends _).1.alike, hcell9, hv, hcl, (X'.ends _).1, (X'.ends _).2.mono hc hs, hf⟩⟩
  rw [X.pushThrowing_eq]
  exact st
/-- a thing of a world lies in the heap -/
theorem vx_lt {D : va_G} {cl : List vw_C} {ws : va_W} {H1 : Heap} (h : va_P D cl ws H1) {k : Nat} {q : Nat × va_E} (hk : ws[k]? = some q) : q.1 < H1.size := (h k q hk).lt
end VXS
/-! ===== END ===== -/
/-! ===== BEGIN methods with a table of their own: called by a name, returning or throwing ===== -/
section VXH
/-! vx_backW, vx_callVX, vx_callSX, vx_callVW, vx_runVW, vx_runVX, vx_runSX, vx_ofWH follow the same proofs as their sisters above (Free/Laws.lean, Shelf42/LK1.lean); vx_outP calls Shelf42/NT130.lean (outThrough). -/
section
variable {l : Launch} {R : Room} {p : Program} {e : Env} {below : List Frame} {s : State} {sargs : Array Value} {y : MethodName} {len W9 : Nat}
theorem vx_backW {ws : List Cond} {rm : Room} {Pc : Array Value → State → Prop} {Qc : Array Value → State → Outcome → State → Prop} {XC : String → State → State → Prop} {mc ms : Nat} {free : Addr → Prop} {bytes : ByteArray} {maxL : Nat} {ret : Option FieldType} {hh : List (Nat × Nat × Nat × Nat)}
    (hM : vx_Met l y ws rm Pc Qc XC mc ms free) (hblind : FrameBlind Pc) (hrc : rm.cells = mc) (hrs : rm.slots = ms)
    (hframes : rm.frames + 1 ≤ R.frames) (hlocals : W9 + (maxL + 11) + rm.locals ≤ R.locals)
    (hws : ∀ w ∈ ws, ∀ a' U, s.WarmedH U.vm → w.before a' U = true) (hcode : Cond.codeWith y bytes maxL ret hh ∈ ws) (hinit : ∀ a' U, s.WarmedH U.vm → (Cond.initialized y.cls).before a' U = true) :
    vx_Back l R p e below s sargs y len W9 (PreOf R mc ms Pc) (PostOf Qc mc ms free) (vx_Post XC mc ms free) := by
  intro m meth c A g ig mk a X hg hsize hdg hW hn hp
  have h1 : (headSpec ws rm).pre.before a A.U = true := atoms_intro fun w hw => hws w hw _ _ X.warmed
  have h2 : (Cond.codeWith y bytes maxL ret hh).before a A.U = true := hws _ hcode _ _ X.warmed
  have h3 : (Cond.initialized y.cls).before a A.U = true := hinit _ _ X.warmed
  have h4 : A.cells + (headSpec ws rm).room.cells ≤ R.cells := by rw [show (headSpec ws rm).room.cells = mc from hrc]; exact hp.1
  have h5 : A.slots + (headSpec ws rm).room.slots ≤ R.slots := by rw [show (headSpec ws rm).room.slots = ms from hrs]; exact hp.2.1
  have hPc : Pc a (A.U.calling g mk a) := hblind _ _ _ _ hp.2.2
  obtain ⟨U, Ls, c0, s0⟩ := A
  dsimp only [Pt.U, Pt.locs, Pt.cells, Pt.slots] at h1 h2 h3 h4 h5 X hn hPc ⊢
  obtain ⟨m9, methY, cY, hn9, hmY, hcY, -, hlY, -⟩ := Cond.codeWith_spec h2
  cases Option.some.inj (hn9.symm.trans hn)
  obtain ⟨kY, hkY, -⟩ := className_of_methodNamed hn
  have hinitY : kY.init = .initialized := Cond.initialized_spec (findClass_of_methodNamed hn) hkY h3
  have h : At U g.method c below := by rw [hg]; exact X.here
  have hlocals9 : W9 + (maxL + 11) + (headSpec ws rm).room.locals ≤ R.locals := hlocals
  have happ : (headSpec ws rm).appliesLoose y e.platform (U.calling g mk a) = true :=
    Spec.appliesLoose_calling (g := g) h hdg hn hkY hinitY
      (X.room_calling (g := g) (R' := (headSpec ws rm).room) hsize hmY hcY hframes (by rw [hlY]; omega) h4 h5) h1
  obtain ⟨mid, hmid⟩ := h.above
  have hfr : (U.setTop g).frames = (.java g :: mid) ++ below := by rw [State.frames_setTop' g h.top, hmid]; rfl
  obtain ⟨o, s₂, hsteps, -, hend, hq⟩ := Steps.callFree hM p X.admits X.cas X.clock (acts := []) hfr happ hPc trivial
  have hq' : vx_Q Qc XC mc ms free a (U.calling g mk a) o s₂ := hq
  rw [State.frames_setTop' g h.top] at hend
  obtain ⟨g₀, hg0⟩ := Option.isSome_iff_exists.mp h.top
  obtain ⟨r, hr⟩ := State.topJava?_eq_some.mp hg0
  have hr' : (({ U with heap := s₂.heap, slotsUsed := s₂.slotsUsed } : State).setVm s₂.vm).frames = .java g₀ :: r := hr
  rcases hq' with ⟨hqc, L, hfe, hL⟩ | ⟨q, rfl, E, ce, L, hx, hce, hcv, hcl, hW₂, hsm, hL⟩
  · obtain ⟨⟨v, rfl⟩, hW₂, e2, q2, q3, q4, q5, q6⟩ := id hfe
    have e3 : s₂ = ({ (U.calling g mk a).setFrames s₂.frames with heap := s₂.heap, slotsUsed := s₂.slotsUsed } : State).setVm s₂.vm := by
      have : s₂ = ({ s₂ with vm := (U.calling g mk a).vm } : State).setVm s₂.vm := rfl
      rw [e2] at this
      exact this
    obtain ⟨c₂, i₂, len₂, hc₂, hd₂, hf₂⟩ := hend
    have hW' : U.WarmedH s₂.vm := hW₂
    have hcc : c₂ = c := by
      have h1 : s₂.code? g.method = U.code? g.method := by
        rw [State.code?_eq, State.code?_eq, hW'.alike.method?]
      exact Option.some.inj (hc₂.symm.trans (h1.trans h.code))
    subst hcc
    have hlen : len₂ = len := by rw [hdg] at hd₂; cases hd₂; rfl
    subst hlen
    have hs₂ : s₂ = (({ U with heap := s₂.heap, slotsUsed := s₂.slotsUsed } : State).setVm s₂.vm).setTop { g with pc := g.pc + len₂, stack := v.toList ++ g.stack } := by
      refine e3.trans ?_
      rw [hf₂, State.calling_eq h.top, State.setFrames_setFrames, State.setTop_of_frames _ hr', hr]
      rfl
    have hsame : U.sameButNew ({ U with heap := s₂.heap, slotsUsed := s₂.slotsUsed } : State) L mc ms := by
      refine ⟨?_, q2, q3, q4, q5, q6⟩
      obtain ⟨t, ht, -⟩ := State.frames_cons hr
      show ({ U with heap := s₂.heap, slotsUsed := s₂.slotsUsed } : State) = { U.setFrames U.frames with heap := s₂.heap, slotsUsed := s₂.slotsUsed }
      rw [State.setFrames_self ht]
    subst hg
    refine Or.inl ⟨v, ⟨(({ U with heap := s₂.heap, slotsUsed := s₂.slotsUsed } : State).setVm s₂.vm), Ls ++ L, c0 + mc, s0 + ms⟩,
      ⟨X.admits, X.cas, X.clock, X.frames, X.room, X.hears, X.method, X.code, (X.here.setHeapUsed s₂.heap s₂.slotsUsed).setVm hW'.alike, X.tail, State.WarmedH.trans X.warmed hW', X.limits, X.bytes, X.same.trans (hsame.setVm s.vm)⟩,
      ⟨g, mk, s₂, L, rfl, rfl, hqc, rfl, hL, rfl, rfl⟩, ?_⟩
    show Steps p.tables e below _ ((({ U with heap := s₂.heap, slotsUsed := s₂.slotsUsed } : State).setVm s₂.vm).setTop { g with pc := g.pc + len₂, stack := v.toList ++ g.stack })
    rw [← hs₂]
    exact hsteps
  · obtain ⟨e2, q2, q3, q4, q5, q6⟩ := id hsm
    have e3 : s₂ = ({ (U.calling g mk a).setFrames s₂.frames with heap := s₂.heap, slotsUsed := s₂.slotsUsed } : State).setVm s₂.vm := by
      have : s₂ = ({ s₂ with vm := (U.calling g mk a).vm } : State).setVm s₂.vm := rfl
      rw [e2] at this
      exact this
    have hf₂ : s₂.frames = .throwing q :: .java g :: U.frames.tail := hend
    have hW' : U.WarmedH s₂.vm := hW₂
    have hs₂ : s₂ = ((({ U with heap := s₂.heap, slotsUsed := s₂.slotsUsed } : State).setVm s₂.vm).setTop g).pushFrame (.throwing q) := by
      refine e3.trans ?_
      rw [hf₂, State.calling_eq h.top, State.setFrames_setFrames, State.pushFrame, State.frames_setTop _ hr', State.setTop_of_frames _ hr', State.setFrames_setFrames, hr]
      rfl
    have hsame : U.sameButNew ({ U with heap := s₂.heap, slotsUsed := s₂.slotsUsed } : State) L mc ms := by
      refine ⟨?_, q2, q3, q4, q5, q6⟩
      obtain ⟨t, ht, -⟩ := State.frames_cons hr
      show ({ U with heap := s₂.heap, slotsUsed := s₂.slotsUsed } : State) = { U.setFrames U.frames with heap := s₂.heap, slotsUsed := s₂.slotsUsed }
      rw [State.setFrames_self ht]
    subst hg
    refine Or.inr ⟨q, ⟨(({ U with heap := s₂.heap, slotsUsed := s₂.slotsUsed } : State).setVm s₂.vm), Ls ++ L, c0 + mc, s0 + ms⟩,
      ⟨X.admits, X.cas, X.clock, X.frames, X.room, X.hears, X.method, X.code, (X.here.setHeapUsed s₂.heap s₂.slotsUsed).setVm hW'.alike, X.tail, State.WarmedH.trans X.warmed hW', X.limits, X.bytes, X.same.trans (hsame.setVm s.vm)⟩,
      ⟨g, mk, s₂, L, E, ce, rfl, rfl, hx, hce, hcv, hcl, rfl, hL, rfl, rfl⟩, ?_⟩
    show Steps p.tables e below _ (((({ U with heap := s₂.heap, slotsUsed := s₂.slotsUsed } : State).setVm s₂.vm).setTop g).pushFrame (.throwing q))
    rw [← hs₂]
    exact hsteps
end
variable {p : Program} {l : Launch} {e : Env} {R : Room} {s : State} {m : MethodId} {args : Array Value} {below : List Frame} {meth : Method} {c : Code} {T : State} {H : Heap} {locs : List Loc} {cells slots : Nat}
theorem vx_callVX (X : Stand p l e R s m args below meth c T locs cells slots) (hexec : p.tables.exec = Jvm.exec) {own C : String} {index : Nat} {y : MethodName} {bytes : ByteArray} {maxL : Nat} {ret : Option FieldType} {hh : List (Nat × Nat × Nat × Nat)}
    (hown : s.vm.findClass own = some m.cls) (hlink : (Cond.methodLink own index y).before args s = true) (hinst : (Cond.instanceMethod y).before args s = true) (hsel : (Cond.selects C y y).before args s = true)
    (hcode : (Cond.codeWith y bytes maxL ret hh).before args s = true) (hy : y.cls ≠ "java/lang/invoke/MethodHandle" ∧ y.cls ≠ "java/lang/invoke/VarHandle")
    {W9 : Nat} {Pre : Pt → Array Value → Prop} {Post : Pt → Array Value → Option Value → Pt → Prop} {PostX : Pt → Array Value → Addr → Pt → Prop} (hK : vx_Back l R p e below s args y 3 W9 Pre Post PostX)
    {b : Addr} {cellB : Cell} (hcell : T.heap[b]? = some cellB) (hobj : cellB.vm.isStatics = false) (hcls : s.vm.findClass C = some cellB.cls)
    {g : JFrame} (hg : g.method = m) (hsize : g.locals.size = c.maxLocals) {argsL rest : List Value} (hlen : ∀ sig, parseMethodDescriptor y.desc = some sig → argsL.length = sig.parameters.length)
    (hstack : g.stack = argsL.reverse ++ .ref b :: rest) (hW : 2 * g.monitorRoom + (rest.map fun v => v.category).sum ≤ W9) (hdg : decode c.code g.pc = .ok (.invokevirtual index, 3))
    (hpre : ∀ vm₁, s.WarmedH vm₁ → Pre ⟨T.setVm vm₁, locs, cells, slots⟩ (Value.ref b :: argsL).toArray) :
    (∃ (v : Option Value) (vm₁ : Vm) (B : Pt), s.WarmedH vm₁ ∧ Stand p l e R s m args below meth c B.U B.locs B.cells B.slots ∧ Post ⟨T.setVm vm₁, locs, cells, slots⟩ (Value.ref b :: argsL).toArray v B ∧
      ∀ target, Steps p.tables e below (B.U.setTop { g with pc := g.pc + 3, stack := v.toList ++ rest }) target → Steps p.tables e below (T.setTop g) target) ∨
    (∃ (q : Addr) (vm₁ : Vm) (B : Pt), s.WarmedH vm₁ ∧ Stand p l e R s m args below meth c B.U B.locs B.cells B.slots ∧ PostX ⟨T.setVm vm₁, locs, cells, slots⟩ (Value.ref b :: argsL).toArray q B ∧
      Steps p.tables e below (T.setTop g) ((B.U.setTop { g with stack := rest }).pushFrame (.throwing q))) := by
  obtain ⟨mk, methM, hnamed, hmethM, hstM, habM⟩ := Cond.instanceMethod_spec hinst
  obtain ⟨m8, methM', cM, hn8, hmethM', -, -, -, -, -, -, hsigM⟩ := Cond.codeWith_spec hcode
  cases Option.some.inj (hn8.symm.trans hnamed)
  cases hmethM.symm.trans hmethM'
  obtain ⟨c2, r2, m2, q1, q2, q3, q4, kP, hkP, hkPi⟩ := Cond.selects_spec hsel
  cases hcls.symm.trans q1
  cases (State.methodFound?_of_named hnamed hy).symm.trans q2
  cases hnamed.symm.trans q3
  have hselP : selectMethod e.platform s.vm cellB.cls mk = .method mk := by rw [Launch.admits_selectMethod X.admits]; exact q4
  obtain ⟨vm₁, X₁, hstep₁⟩ := X.invokevirtual hexec hown hlink hnamed hmethM hstM hkP hkPi hy (a := b) (cell := cellB) hcell
    (fun z h => by rw [h] at hobj; cases hobj) hselP hmethM habM hkP hkPi (g := g) hg (argsL := argsL) (rest := rest) (hlen _ hsigM) hstack hdg
  rcases hK m meth c ⟨T.setVm vm₁, locs, cells, slots⟩ { g with stack := rest } (.invokevirtual index) mk (Value.ref b :: argsL).toArray X₁ hg hsize hdg hW (X₁.named hnamed) (hpre vm₁ X₁.warmed) with ⟨v, B, X', hpost, hsteps⟩ | ⟨q, B, X', hpost, hsteps⟩
  · exact Or.inl ⟨v, vm₁, B, X₁.warmed, X', hpost, fun target h => hstep₁ _ fun acts => by rw [doInvoke_state]; exact hsteps.trans h⟩
  · exact Or.inr ⟨q, vm₁, B, X₁.warmed, X', hpost, hstep₁ _ fun acts => by rw [doInvoke_state]; exact hsteps⟩
theorem vx_callSX (X : Stand p l e R s m args below meth c T locs cells slots) (hexec : p.tables.exec = Jvm.exec) {own : String} {index : Nat} {y : MethodName} {bytes : ByteArray} {maxL : Nat} {ret : Option FieldType} {hh : List (Nat × Nat × Nat × Nat)}
    (hown : s.vm.findClass own = some m.cls) (hlink : (Cond.methodLink own index y).before args s = true) (hstat : (Cond.static y).before args s = true) (hinit : (Cond.initialized y.cls).before args s = true)
    (hcode : (Cond.codeWith y bytes maxL ret hh).before args s = true) (hy : y.cls ≠ "java/lang/invoke/MethodHandle" ∧ y.cls ≠ "java/lang/invoke/VarHandle")
    {W9 : Nat} {Pre : Pt → Array Value → Prop} {Post : Pt → Array Value → Option Value → Pt → Prop} {PostX : Pt → Array Value → Addr → Pt → Prop} (hK : vx_Back l R p e below s args y 3 W9 Pre Post PostX)
    {g : JFrame} (hg : g.method = m) (hsize : g.locals.size = c.maxLocals) {argsL rest : List Value} (hlen : ∀ sig, parseMethodDescriptor y.desc = some sig → argsL.length = sig.parameters.length)
    (hstack : g.stack = argsL.reverse ++ rest) (hW : 2 * g.monitorRoom + (rest.map fun v => v.category).sum ≤ W9) (hdg : decode c.code g.pc = .ok (.invokestatic index, 3))
    (hpre : ∀ vm₁, s.WarmedH vm₁ → Pre ⟨T.setVm vm₁, locs, cells, slots⟩ argsL.toArray) :
    (∃ (v : Option Value) (vm₁ : Vm) (B : Pt), s.WarmedH vm₁ ∧ Stand p l e R s m args below meth c B.U B.locs B.cells B.slots ∧ Post ⟨T.setVm vm₁, locs, cells, slots⟩ argsL.toArray v B ∧
      ∀ target, Steps p.tables e below (B.U.setTop { g with pc := g.pc + 3, stack := v.toList ++ rest }) target → Steps p.tables e below (T.setTop g) target) ∨
    (∃ (q : Addr) (vm₁ : Vm) (B : Pt), s.WarmedH vm₁ ∧ Stand p l e R s m args below meth c B.U B.locs B.cells B.slots ∧ PostX ⟨T.setVm vm₁, locs, cells, slots⟩ argsL.toArray q B ∧
      Steps p.tables e below (T.setTop g) ((B.U.setTop { g with stack := rest }).pushFrame (.throwing q))) := by
  obtain ⟨mk, methM, cM, hnamed, hmethM, -, -, -, -, -, -, hsigM⟩ := Cond.codeWith_spec hcode
  have hstatic : methM.isStatic = true := Cond.static_spec hnamed hmethM hstat
  obtain ⟨kP, hkP, -⟩ := className_of_methodNamed hnamed
  have hinitP : kP.init = .initialized := Cond.initialized_spec (findClass_of_methodNamed hnamed) hkP hinit
  obtain ⟨vm₁, X₁, hstep₁⟩ := X.invokestatic hexec hown hlink hnamed hmethM hstatic hkP hinitP hy (g := g) hg (argsL := argsL) (rest := rest) (hlen _ hsigM) hstack hdg
  rcases hK m meth c ⟨T.setVm vm₁, locs, cells, slots⟩ { g with stack := rest } (.invokestatic index) mk argsL.toArray X₁ hg hsize hdg hW (X₁.named hnamed) (hpre vm₁ X₁.warmed) with ⟨v, B, X', hpost, hsteps⟩ | ⟨q, B, X', hpost, hsteps⟩
  · exact Or.inl ⟨v, vm₁, B, X₁.warmed, X', hpost, fun target h => hstep₁ _ fun acts => by rw [doInvoke_state]; exact hsteps.trans h⟩
  · exact Or.inr ⟨q, vm₁, B, X₁.warmed, X', hpost, hstep₁ _ fun acts => by rw [doInvoke_state]; exact hsteps⟩
theorem vx_callVW (X : Stand p l e R s m args below meth c T locs cells slots) (hexec : p.tables.exec = Jvm.exec) {own C : String} {index : Nat} {y : MethodName} {bytes : ByteArray} {maxL : Nat} {ret : Option FieldType} {hh : List (Nat × Nat × Nat × Nat)}
    (hown : s.vm.findClass own = some m.cls) (hlink : (Cond.methodLink own index y).before args s = true) (hinst : (Cond.instanceMethod y).before args s = true) (hsel : (Cond.selects C y y).before args s = true)
    (hcode : (Cond.codeWith y bytes maxL ret hh).before args s = true) (hy : y.cls ≠ "java/lang/invoke/MethodHandle" ∧ y.cls ≠ "java/lang/invoke/VarHandle")
    {W9 : Nat} {Pre : Pt → Array Value → Prop} {Post : Pt → Array Value → Option Value → Pt → Prop} (hK : Back l R p e below s args y 3 W9 Pre Post)
    {b : Addr} {cellB : Cell} (hcell : T.heap[b]? = some cellB) (hobj : cellB.vm.isStatics = false) (hcls : s.vm.findClass C = some cellB.cls)
    {g : JFrame} (hg : g.method = m) (hsize : g.locals.size = c.maxLocals) {argsL rest : List Value} (hlen : ∀ sig, parseMethodDescriptor y.desc = some sig → argsL.length = sig.parameters.length)
    (hstack : g.stack = argsL.reverse ++ .ref b :: rest) (hW : 2 * g.monitorRoom + (rest.map fun v => v.category).sum ≤ W9) (hdg : decode c.code g.pc = .ok (.invokevirtual index, 3))
    (hpre : ∀ vm₁, s.WarmedH vm₁ → Pre ⟨T.setVm vm₁, locs, cells, slots⟩ (Value.ref b :: argsL).toArray) :
    ∃ (v : Option Value) (vm₁ : Vm) (B : Pt), s.WarmedH vm₁ ∧ Stand p l e R s m args below meth c B.U B.locs B.cells B.slots ∧ Post ⟨T.setVm vm₁, locs, cells, slots⟩ (Value.ref b :: argsL).toArray v B ∧
      ∀ target, Steps p.tables e below (B.U.setTop { g with pc := g.pc + 3, stack := v.toList ++ rest }) target → Steps p.tables e below (T.setTop g) target := by
  obtain ⟨mk, methM, hnamed, hmethM, hstM, habM⟩ := Cond.instanceMethod_spec hinst
  obtain ⟨m8, methM', cM, hn8, hmethM', -, -, -, -, -, -, hsigM⟩ := Cond.codeWith_spec hcode
  cases Option.some.inj (hn8.symm.trans hnamed)
  cases hmethM.symm.trans hmethM'
  obtain ⟨c2, r2, m2, q1, q2, q3, q4, kP, hkP, hkPi⟩ := Cond.selects_spec hsel
  cases hcls.symm.trans q1
  cases (State.methodFound?_of_named hnamed hy).symm.trans q2
  cases hnamed.symm.trans q3
  have hselP : selectMethod e.platform s.vm cellB.cls mk = .method mk := by rw [Launch.admits_selectMethod X.admits]; exact q4
  obtain ⟨vm₁, X₁, hstep₁⟩ := X.invokevirtual hexec hown hlink hnamed hmethM hstM hkP hkPi hy (a := b) (cell := cellB) hcell
    (fun z h => by rw [h] at hobj; cases hobj) hselP hmethM habM hkP hkPi (g := g) hg (argsL := argsL) (rest := rest) (hlen _ hsigM) hstack hdg
  obtain ⟨v, B, X', hpost, hsteps⟩ := hK m meth c ⟨T.setVm vm₁, locs, cells, slots⟩ { g with stack := rest } (.invokevirtual index) mk (Value.ref b :: argsL).toArray X₁ hg hsize hdg hW (X₁.named hnamed) (hpre vm₁ X₁.warmed)
  exact ⟨v, vm₁, B, X₁.warmed, X', hpost, fun target h => hstep₁ _ fun acts => by rw [doInvoke_state]; exact hsteps.trans h⟩
abbrev vx_CVW (R : Room) (s : State) (args : Array Value) (own C : String) (index : Nat) (y : MethodName) (bytes : ByteArray) (maxL : Nat) (ret : Option FieldType) (hh : List (Nat × Nat × Nat × Nat)) (ws : List Cond) (rm : Room) (mc ms n : Nat) : Prop :=
  (rm.cells = mc ∧ rm.slots = ms ∧ rm.frames + 1 ≤ R.frames ∧ 8 + (maxL + 11) + rm.locals ≤ R.locals ∧ (∀ w ∈ ws, ∀ (a' : Array Value) (U : State), s.WarmedH U.vm → w.before a' U = true) ∧ Cond.codeWith y bytes maxL ret hh ∈ ws) ∧
  (Cond.codeWith y bytes maxL ret hh).before args s = true ∧ (Cond.initialized y.cls).before args s = true ∧ (y.cls ≠ "java/lang/invoke/MethodHandle" ∧ y.cls ≠ "java/lang/invoke/VarHandle") ∧
  (∀ sig, parseMethodDescriptor y.desc = some sig → n = sig.parameters.length) ∧ (Cond.methodLink own index y).before args s = true ∧ (Cond.instanceMethod y).before args s = true ∧ (Cond.selects C y y).before args s = true
theorem vx_cwVW {own C : String} {index maxL mc ms : Nat} {y : MethodName} {bytes : ByteArray} {ret : Option FieldType} {hh : List (Nat × Nat × Nat × Nat)} {Ts ws ws' : List Cond} {rm : Room} (n : Nat) (ht : ∀ w ∈ Ts, w.before args s = true) (hT : GoodIn Ts (wsV own index C y ws)) (hw : ws = Cond.codeWith y bytes maxL ret hh :: ws') (hrc : rm.cells = mc) (hrs : rm.slots = ms)
    (hd : y.cls = C ∧ y.cls ≠ "java/lang/invoke/MethodHandle" ∧ y.cls ≠ "java/lang/invoke/VarHandle" ∧ (parseMethodDescriptor y.desc).map (fun d => d.parameters.length) = some n) (hR : rm.frames + 1 ≤ R.frames ∧ 8 + (maxL + 11) + rm.locals ≤ R.locals) :
    vx_CVW R s args own C index y bytes maxL ret hh ws rm mc ms n := by
  obtain ⟨hC, hd⟩ := hd
  subst hC
  have ok : ∀ w ∈ wsV own index y.cls y ws, w.before args s = true := fun w h => ht w (hT w h).1
  have hG : GoodIn Ts ws := fun w h => hT w (by unfold wsV; exact List.mem_append_right _ h)
  have hc : Cond.codeWith y bytes maxL ret hh ∈ ws := by rw [hw]; exact List.mem_cons_self
  refine ⟨⟨hrc, hrs, hR.1, hR.2, pay_in ht hG, hc⟩, ht _ (hG _ hc).1, ok _ (by simp [wsV]), ⟨hd.1, hd.2.1⟩, fun sig h => ?_, ok _ (by simp [wsV]), ok _ (by simp [wsV]), ok _ (by simp [wsV])⟩
  have h2 := hd.2.2
  rw [h] at h2
  exact (Option.some.inj h2).symm
theorem vx_runVW {y : MethodName} {bytes cc : ByteArray} {maxL nL mc ms n index : Nat} {ret : Option FieldType} {hh : List (Nat × Nat × Nat × Nat)} {ws : List Cond} {rm : Room} {Pc : Array Value → State → Prop} {Qc : Array Value → State → Outcome → State → Prop} {free : Addr → Prop} {Ts : List Cond} {own C : String} {b : Addr} {As rest : List Value} {g : JFrame}
    (S : CallFix p m c cc nL s args Ts own) (hM : Met l y ws rm Pc Qc mc ms free) (cw : vx_CVW R s args own C index y bytes maxL ret hh ws rm mc ms n) (hp : PreV s H C b Pc As)
    (hg : g.method = m) (hn : As.length = n) (hsize : g.locals.size = nL) (hstack : g.stack = As.reverse ++ .ref b :: rest) (hW : 2 * g.monitorRoom + (rest.map fun v => v.category).sum ≤ 8) (hdg : decode cc g.pc = .ok (.invokevirtual index, 3)) (hf : cells + mc ≤ R.cells ∧ slots + ms ≤ R.slots) :
    va_Run p l e R s m args below meth c H locs cells slots mc ms g rest (Qc (Value.ref b :: As).toArray) free := by
  obtain ⟨⟨hrc, hrs, hfr, hlo, hws, hcw⟩, hcode, hini, hy, hlen, hl, hin, hse⟩ := cw
  have hK : Back l R p e below s args y 3 8 (PreOf R mc ms Pc) (PostOf Qc mc ms free) := va_backW (hh := hh) (bytes := bytes) (maxL := maxL) (ret := ret) hM hp.1 hrc hrs hfr hlo hws hcw (fun a' U hW => word_at hW (Or.inl (by first | rfl | simp [Cond.onTables, Cond.keeps, Cond.steady])) hini)
  obtain ⟨hx, hb, hml, ho, -⟩ := S
  obtain ⟨-, ⟨cellB, hcB, hoB, hclB⟩, hPc⟩ := hp
  intro T hT X
  obtain ⟨v, vm₁, ⟨U', l2, c2, s2⟩, hW₁, X', ⟨g', mk, t, L, e1, e2, hq, h1, hL, h2, h3⟩, st⟩ := vx_callVW X hx (C := C) (hh := hh) (bytes := bytes) (maxL := maxL) (ret := ret) ho hl hin hse hcode hy hK (by rw [hT]; exact hcB) hoB hclB hg (hsize.trans hml.symm) (argsL := As) (rest := rest) (fun sig h => hn.trans (hlen sig h)) hstack hW (by rw [hb]; exact hdg)
    (fun vm₁ hW₁ => ⟨hf.1, hf.2, hPc (T.setVm vm₁) hT hW₁⟩)
  dsimp only [Pt.U, Pt.locs, Pt.cells, Pt.slots] at X' e1 e2 h1 h2 h3 st
  subst h1; subst h2; subst h3
  exact ⟨v, (T.setVm vm₁).calling g' mk (Value.ref b :: As).toArray, t, U', L, hT, X', hL, e1, e2, hq, st⟩
section
variable {y : MethodName} {bytes cc : ByteArray} {maxL nL mc ms n index : Nat} {ret : Option FieldType} {ws : List Cond} {rm : Room} {Pc : Array Value → State → Prop} {Qc : Array Value → State → Outcome → State → Prop} {XC : String → State → State → Prop} {free : Addr → Prop} {Ts : List Cond} {own C : String} {b : Addr} {As rest : List Value} {g : JFrame}
theorem vx_runVX {hh : List (Nat × Nat × Nat × Nat)} (S : CallFix p m c cc nL s args Ts own) (hM : vx_Met l y ws rm Pc Qc XC mc ms free) (cw : vx_CVW R s args own C index y bytes maxL ret hh ws rm mc ms n) (hp : PreV s H C b Pc As)
    (hg : g.method = m) (hn : As.length = n) (hsize : g.locals.size = nL) (hstack : g.stack = As.reverse ++ .ref b :: rest) (hW : 2 * g.monitorRoom + (rest.map fun v => v.category).sum ≤ 8) (hdg : decode cc g.pc = .ok (.invokevirtual index, 3)) (hf : cells + mc ≤ R.cells ∧ slots + ms ≤ R.slots) :
    vx_Run p l e R s m args below meth c H locs cells slots mc ms g rest (Qc (Value.ref b :: As).toArray) XC free := by
  obtain ⟨⟨hrc, hrs, hfr, hlo, hws, hcw⟩, hcode, hini, hy, hlen, hl, hin, hse⟩ := cw
  have hK : vx_Back l R p e below s args y 3 8 (PreOf R mc ms Pc) (PostOf Qc mc ms free) (vx_Post XC mc ms free) := vx_backW (hh := hh) (bytes := bytes) (maxL := maxL) (ret := ret) hM hp.1 hrc hrs hfr hlo hws hcw (fun a' U hW => word_at hW (Or.inl (by first | rfl | simp [Cond.onTables, Cond.keeps, Cond.steady])) hini)
  obtain ⟨hx, hb, hml, ho, -⟩ := S
  obtain ⟨-, ⟨cellB, hcB, hoB, hclB⟩, hPc⟩ := hp
  intro T hT X
  rcases vx_callVX X hx (C := C) (hh := hh) (bytes := bytes) (maxL := maxL) (ret := ret) ho hl hin hse hcode hy hK (by rw [hT]; exact hcB) hoB hclB hg (hsize.trans hml.symm) (argsL := As) (rest := rest) (fun sig h => hn.trans (hlen sig h)) hstack hW (by rw [hb]; exact hdg)
    (fun vm₁ hW₁ => ⟨hf.1, hf.2, hPc (T.setVm vm₁) hT hW₁⟩) with ⟨v, vm₁, ⟨U', l2, c2, s2⟩, hW₁, X', ⟨g', mk, t, L, e1, e2, hq, h1, hL, h2, h3⟩, st⟩ | ⟨q, vm₁, ⟨U', l2, c2, s2⟩, hW₁, X', ⟨g', mk, t, L, E, ce, e1, e2, hq, hce, hcv, hcl, h1, hL, h2, h3⟩, st⟩
  · dsimp only [Pt.U, Pt.locs, Pt.cells, Pt.slots] at X' e1 e2 h1 h2 h3 st
    subst h1; subst h2; subst h3
    exact Or.inl ⟨v, (T.setVm vm₁).calling g' mk (Value.ref b :: As).toArray, t, U', L, hT, X', hL, e1, e2, hq, st⟩
  · dsimp only [Pt.U, Pt.locs, Pt.cells, Pt.slots] at X' e1 e2 h1 h2 h3 st hcl
    subst h1; subst h2; subst h3
    exact Or.inr ⟨q, (T.setVm vm₁).calling g' mk (Value.ref b :: As).toArray, t, U', L, E, ce, hT, X', hL, e1, e2, hq, hce, hcv, vx_cls hW₁ hcl, st⟩
theorem vx_runSX {hh : List (Nat × Nat × Nat × Nat)} (S : CallFix p m c cc nL s args Ts own) (hM : vx_Met l y ws rm Pc Qc XC mc ms free) (cw : vx_CSW R s args own index y bytes maxL ret hh ws rm mc ms n) (hp : PreS s H Pc As)
    (hg : g.method = m) (hn : As.length = n) (hsize : g.locals.size = nL) (hstack : g.stack = As.reverse ++ rest) (hW : 2 * g.monitorRoom + (rest.map fun v => v.category).sum ≤ 8) (hdg : decode cc g.pc = .ok (.invokestatic index, 3)) (hf : cells + mc ≤ R.cells ∧ slots + ms ≤ R.slots) :
    vx_Run p l e R s m args below meth c H locs cells slots mc ms g rest (Qc As.toArray) XC free := by
  obtain ⟨⟨hrc, hrs, hfr, hlo, hws, hcw⟩, hcode, hini, hy, hlen, hl, hstt⟩ := cw
  have hK : vx_Back l R p e below s args y 3 8 (PreOf R mc ms Pc) (PostOf Qc mc ms free) (vx_Post XC mc ms free) := vx_backW (hh := hh) (bytes := bytes) (maxL := maxL) (ret := ret) hM hp.1 hrc hrs hfr hlo hws hcw (fun a' U hW => word_at hW (Or.inl (by first | rfl | simp [Cond.onTables, Cond.keeps, Cond.steady])) hini)
  obtain ⟨hx, hb, hml, ho, -⟩ := S
  intro T hT X
  rcases vx_callSX X hx (hh := hh) (bytes := bytes) (maxL := maxL) (ret := ret) ho hl hstt hini hcode hy hK hg (hsize.trans hml.symm) (argsL := As) (rest := rest) (fun sig h => hn.trans (hlen sig h)) hstack hW (by rw [hb]; exact hdg)
    (fun vm₁ hW₁ => ⟨hf.1, hf.2, hp.2 (T.setVm vm₁) hT hW₁⟩) with ⟨v, vm₁, ⟨U', l2, c2, s2⟩, hW₁, X', ⟨g', mk, t, L, e1, e2, hq, h1, hL, h2, h3⟩, st⟩ | ⟨q, vm₁, ⟨U', l2, c2, s2⟩, hW₁, X', ⟨g', mk, t, L, E, ce, e1, e2, hq, hce, hcv, hcl, h1, hL, h2, h3⟩, st⟩
  · dsimp only [Pt.U, Pt.locs, Pt.cells, Pt.slots] at X' e1 e2 h1 h2 h3 st
    subst h1; subst h2; subst h3
    exact Or.inl ⟨v, (T.setVm vm₁).calling g' mk As.toArray, t, U', L, hT, X', hL, e1, e2, hq, st⟩
  · dsimp only [Pt.U, Pt.locs, Pt.cells, Pt.slots] at X' e1 e2 h1 h2 h3 st hcl
    subst h1; subst h2; subst h3
    exact Or.inr ⟨q, (T.setVm vm₁).calling g' mk As.toArray, t, U', L, E, ce, hT, X', hL, e1, e2, hq, hce, hcv, vx_cls hW₁ hcl, st⟩
end
end VXH
theorem vx_ofWH {l : Launch} {y : MethodName} {ws ws' : List Cond} {rm : Room} {Pc : Array Value → State → Prop} {Qc : Array Value → State → Outcome → State → Prop} {XC : String → State → State → Prop} {mc ms : Nat} {free : Addr → Prop} {cc : ByteArray} {maxL : Nat} {ret : Option FieldType} {hh : List (Nat × Nat × Nat × Nat)}
    (hy : plainName y.cls = true) (hw : ws = Cond.codeWith y cc maxL ret hh :: ws')
    (body : ∀ p e s m args below meth c s₁, BodyLoose p l y (headSpec ws rm) cc maxL ret e s m args below meth c s₁ → c.maxLocals = maxL → Pc args s →
      W p l e (headSpec ws rm).room s m args below meth c s.heap [] 0 0 (vx_MQ below Qc XC args s mc ms free) (entryFrame m args maxL)) : vx_Met l y ws rm Pc Qc XC mc ms free := by
  refine MetFree.of_bodyS (code := cc) (maxLocals := maxL) (ret := ret) hy ?_ ?_
  · intro args s m h hn
    obtain ⟨m9, meth, c, hn9, h1, h2, h3, h4, -, h5, h6, -⟩ := Cond.codeWith_spec (atoms_spec (ws := ws) h _ (by rw [hw]; exact List.mem_cons_self))
    cases hn.symm.trans hn9
    exact ⟨meth, c, h1, h2, h3, h4, h5, h6⟩
  · intro p e s m args below meth c s₁ B hml hP _
    have hh0 : s₁.heap = s.heap := by rw [B.state]; rfl
    obtain ⟨t, a1, o, b1, b2, b3⟩ := body p e s m args below meth c s₁ B hml hP s₁ hh0 (Stand.of_body B)
    exact ⟨t, o, a1, b1, b2, b3⟩
/-! ===== END ===== -/
end
section
/-! ===== BEGIN printed: names, fields, word lists, decode rows ===== -/
def RX0 : String := "Intergreen$Lights"
def TX0 : u_T := fun k => match k with
  | 0 => ("Intergreen$Lights", "plan", "LIntergreen$Plan;", true)
  | 1 => ("Intergreen$Lights", "log", "LIntergreen$Log;", true)
  | 2 => ("Intergreen$Lights", "mode", "I", false)
  | 3 => ("Intergreen$Lights", "stage", "I", false)
  | 4 => ("Intergreen$Lights", "wereStarted", "Z", false)
  | 5 => ("Intergreen$Lights", "asked", "I", false)
  | 6 => ("Intergreen$Lights", "now", "I", false)
  | 7 => ("Intergreen$Lights", "gone", "I", false)
  | _ => ("Intergreen$Lights", "waited", "J", false)
def tyX0 : Nat → FieldType := fun k => match k with
  | 0 => .object "Intergreen$Plan"
  | 1 => .object "Intergreen$Log"
  | 2 => .int
  | 3 => .int
  | 4 => .boolean
  | 5 => .int
  | 6 => .int
  | 7 => .int
  | _ => .long
theorem nmX0 : ∀ a, a < 9 → ∀ b, b < 9 → a ≠ b → (TX0 a).2.1 ≠ (TX0 b).2.1 := by decide +kernel
theorem tyX0_ok : ∀ k, k < 9 → parseFieldDescriptor (TX0 k).2.2.1 = some (tyX0 k) := by decide +kernel
abbrev cX0_init : ByteArray := prog_2_method_1_code
def yX0_init : MethodName := ⟨RX0, "<init>", "(LIntergreen$Plan;LIntergreen$Log;)V"⟩
abbrev cX0_areWorking : ByteArray := prog_2_method_2_code
def yX0_areWorking : MethodName := ⟨RX0, "areWorking", "()Z"⟩
abbrev cX0_begin : ByteArray := prog_2_method_3_code
def yX0_begin : MethodName := ⟨RX0, "begin", "(I)V"⟩
abbrev cX0_fallBack : ByteArray := prog_2_method_4_code
def yX0_fallBack : MethodName := ⟨RX0, "fallBack", "(I)V"⟩
abbrev cX0_passSecond : ByteArray := prog_2_method_5_code
def yX0_passSecond : MethodName := ⟨RX0, "passSecond", "()V"⟩
abbrev cX0_leaveStage : ByteArray := prog_2_method_6_code
def yX0_leaveStage : MethodName := ⟨RX0, "leaveStage", "()V"⟩
abbrev cX0_stageForTram : ByteArray := prog_2_method_7_code
def yX0_stageForTram : MethodName := ⟨RX0, "stageForTram", "()I"⟩
abbrev cX0_stageOnDemand : ByteArray := prog_2_method_8_code
def yX0_stageOnDemand : MethodName := ⟨RX0, "stageOnDemand", "()I"⟩
abbrev cX0_mayEnd : ByteArray := prog_2_method_9_code
def yX0_mayEnd : MethodName := ⟨RX0, "mayEnd", "(IZ)Z"⟩
abbrev cX0_endGreens : ByteArray := prog_2_method_10_code
def yX0_endGreens : MethodName := ⟨RX0, "endGreens", "(I)V"⟩
abbrev cX0_enterStage : ByteArray := prog_2_method_11_code
def yX0_enterStage : MethodName := ⟨RX0, "enterStage", "()V"⟩
abbrev cX0_mayBegin : ByteArray := prog_2_method_12_code
def yX0_mayBegin : MethodName := ⟨RX0, "mayBegin", "(I)Z"⟩
abbrev cX0_fadeAmbers : ByteArray := prog_2_method_13_code
def yX0_fadeAmbers : MethodName := ⟨RX0, "fadeAmbers", "()V"⟩
abbrev cX0_watch : ByteArray := prog_2_method_14_code
def yX0_watch : MethodName := ⟨RX0, "watch", "()V"⟩
abbrev cX0_isAgainstLit : ByteArray := prog_2_method_15_code
def yX0_isAgainstLit : MethodName := ⟨RX0, "isAgainstLit", "(I)Z"⟩
abbrev cX0_writeLog : ByteArray := prog_2_method_16_code
def yX0_writeLog : MethodName := ⟨RX0, "writeLog", "()V"⟩
abbrev cX0_movePhases : ByteArray := prog_2_method_17_code
def yX0_movePhases : MethodName := ⟨RX0, "movePhases", "()V"⟩
abbrev cX0_addQueues : ByteArray := prog_2_method_18_code
def yX0_addQueues : MethodName := ⟨RX0, "addQueues", "()V"⟩
abbrev cX0_tell : ByteArray := prog_2_method_19_code
def yX0_tell : MethodName := ⟨RX0, "tell", "(I)I"⟩
def RX1 : String := "Intergreen$Log"
def TX1 : u_T := fun k => match k with
  | _ => ("Intergreen$Log", "rows", "[I", true)
def tyX1 : Nat → FieldType := fun k => match k with
  | _ => .array .int
theorem nmX1 : ∀ a, a < 1 → ∀ b, b < 1 → a ≠ b → (TX1 a).2.1 ≠ (TX1 b).2.1 := by decide +kernel
theorem tyX1_ok : ∀ k, k < 1 → parseFieldDescriptor (TX1 k).2.2.1 = some (tyX1 k) := by decide +kernel
abbrev cX1_init : ByteArray := prog_3_method_1_code
def yX1_init : MethodName := ⟨RX1, "<init>", "()V"⟩
abbrev cX1_darken : ByteArray := prog_3_method_2_code
def yX1_darken : MethodName := ⟨RX1, "darken", "(I)V"⟩
abbrev cX1_show : ByteArray := prog_3_method_3_code
def yX1_show : MethodName := ⟨RX1, "show", "(III)V"⟩
abbrev cX1_shown : ByteArray := prog_3_method_4_code
def yX1_shown : MethodName := ⟨RX1, "shown", "(II)I"⟩
abbrev cX1_colourIn : ByteArray := prog_3_method_5_code
def yX1_colourIn : MethodName := ⟨RX1, "colourIn", "(II)I"⟩
abbrev cX1_leastBetween : ByteArray := prog_3_method_6_code
def yX1_leastBetween : MethodName := ⟨RX1, "leastBetween", "(III)I"⟩
def RX2 : String := "Intergreen$Phase"
def TX2 : u_T := fun k => match k with
  | 0 => ("Intergreen$Phase", "least", "I", false)
  | 1 => ("Intergreen$Phase", "most", "I", false)
  | 2 => ("Intergreen$Phase", "gap", "I", false)
  | 3 => ("Intergreen$Phase", "colour", "I", false)
  | 4 => ("Intergreen$Phase", "green", "I", false)
  | 5 => ("Intergreen$Phase", "rest", "I", false)
  | 6 => ("Intergreen$Phase", "queue", "I", false)
  | 7 => ("Intergreen$Phase", "wait", "I", false)
  | 8 => ("Intergreen$Phase", "longestWait", "I", false)
  | 9 => ("Intergreen$Phase", "ended", "I", false)
  | 10 => ("Intergreen$Phase", "isPressed", "Z", false)
  | _ => ("Intergreen$Phase", "brokenLamps", "I", false)
def tyX2 : Nat → FieldType := fun k => match k with
  | 0 => .int
  | 1 => .int
  | 2 => .int
  | 3 => .int
  | 4 => .int
  | 5 => .int
  | 6 => .int
  | 7 => .int
  | 8 => .int
  | 9 => .int
  | 10 => .boolean
  | _ => .int
theorem nmX2 : ∀ a, a < 12 → ∀ b, b < 12 → a ≠ b → (TX2 a).2.1 ≠ (TX2 b).2.1 := by decide +kernel
theorem tyX2_ok : ∀ k, k < 12 → parseFieldDescriptor (TX2 k).2.2.1 = some (tyX2 k) := by decide +kernel
abbrev cX2_init : ByteArray := prog_4_method_1_code
def yX2_init : MethodName := ⟨RX2, "<init>", "()V"⟩
abbrev cX2_isDemanded : ByteArray := prog_4_method_2_code
def yX2_isDemanded : MethodName := ⟨RX2, "isDemanded", "()Z"⟩
abbrev cX2_isBroken : ByteArray := prog_4_method_3_code
def yX2_isBroken : MethodName := ⟨RX2, "isBroken", "(I)Z"⟩
abbrev cX2_setBroken : ByteArray := prog_4_method_4_code
def yX2_setBroken : MethodName := ⟨RX2, "setBroken", "(IZ)V"⟩
abbrev cX2_pushButton : ByteArray := prog_4_method_5_code
def yX2_pushButton : MethodName := ⟨RX2, "pushButton", "()V"⟩
abbrev cX2_mayEnd : ByteArray := prog_4_method_6_code
def yX2_mayEnd : MethodName := ⟨RX2, "mayEnd", "(Z)Z"⟩
abbrev cX2_turnGreen : ByteArray := prog_4_method_7_code
def yX2_turnGreen : MethodName := ⟨RX2, "turnGreen", "()V"⟩
abbrev cX2_turnAmber : ByteArray := prog_4_method_8_code
def yX2_turnAmber : MethodName := ⟨RX2, "turnAmber", "(I)V"⟩
abbrev cX2_turnRed : ByteArray := prog_4_method_9_code
def yX2_turnRed : MethodName := ⟨RX2, "turnRed", "(I)V"⟩
abbrev cX2_fade : ByteArray := prog_4_method_10_code
def yX2_fade : MethodName := ⟨RX2, "fade", "(I)V"⟩
abbrev cX2_lets : ByteArray := prog_4_method_11_code
def yX2_lets : MethodName := ⟨RX2, "lets", "(II)Z"⟩
abbrev cX2_shown : ByteArray := prog_4_method_12_code
def yX2_shown : MethodName := ⟨RX2, "shown", "()I"⟩
abbrev cX2_passSecond : ByteArray := prog_4_method_13_code
def yX2_passSecond : MethodName := ⟨RX2, "passSecond", "()I"⟩
abbrev cX2_letOneGo : ByteArray := prog_4_method_14_code
def yX2_letOneGo : MethodName := ⟨RX2, "letOneGo", "()I"⟩
abbrev cX2_tell : ByteArray := prog_4_method_15_code
def yX2_tell : MethodName := ⟨RX2, "tell", "(I)I"⟩
def RX3 : String := "Intergreen$Plan"
def TX3 : u_T := fun k => match k with
  | 0 => ("Intergreen$Plan", "phases", "[LIntergreen$Phase;", true)
  | 1 => ("Intergreen$Plan", "phaseCount", "I", false)
  | 2 => ("Intergreen$Plan", "between", "[[I", true)
  | 3 => ("Intergreen$Plan", "stages", "[I", true)
  | _ => ("Intergreen$Plan", "stageCount", "I", false)
def tyX3 : Nat → FieldType := fun k => match k with
  | 0 => .array (.object "Intergreen$Phase")
  | 1 => .int
  | 2 => .array (.array .int)
  | 3 => .array .int
  | _ => .int
theorem nmX3 : ∀ a, a < 5 → ∀ b, b < 5 → a ≠ b → (TX3 a).2.1 ≠ (TX3 b).2.1 := by decide +kernel
theorem tyX3_ok : ∀ k, k < 5 → parseFieldDescriptor (TX3 k).2.2.1 = some (tyX3 k) := by decide +kernel
abbrev cX3_init : ByteArray := prog_5_method_1_code
def yX3_init : MethodName := ⟨RX3, "<init>", "()V"⟩
abbrev cX3_addPhase : ByteArray := prog_5_method_2_code
def yX3_addPhase : MethodName := ⟨RX3, "addPhase", "(III)I"⟩
abbrev cX3_setBetween : ByteArray := prog_5_method_3_code
def yX3_setBetween : MethodName := ⟨RX3, "setBetween", "(III)V"⟩
abbrev cX3_areMeeting : ByteArray := prog_5_method_4_code
def yX3_areMeeting : MethodName := ⟨RX3, "areMeeting", "(II)Z"⟩
abbrev cX3_setOf : ByteArray := prog_5_method_5_code
def yX3_setOf : MethodName := ⟨RX3, "setOf", "(I)I"⟩
abbrev cX3_addStage : ByteArray := prog_5_method_6_code
def yX3_addStage : MethodName := ⟨RX3, "addStage", "(I)I"⟩
abbrev cX3_hasStageWithBoth : ByteArray := prog_5_method_7_code
def yX3_hasStageWithBoth : MethodName := ⟨RX3, "hasStageWithBoth", "(II)Z"⟩
abbrev cX3_hasTwoThatMeet : ByteArray := prog_5_method_8_code
def yX3_hasTwoThatMeet : MethodName := ⟨RX3, "hasTwoThatMeet", "(I)Z"⟩
abbrev cX3_mostBetween : ByteArray := prog_5_method_9_code
def yX3_mostBetween : MethodName := ⟨RX3, "mostBetween", "(II)I"⟩
abbrev cX3_secondsToChange : ByteArray := prog_5_method_10_code
def yX3_secondsToChange : MethodName := ⟨RX3, "secondsToChange", "(II)I"⟩
abbrev cX3_greatestLeast : ByteArray := prog_5_method_11_code
def yX3_greatestLeast : MethodName := ⟨RX3, "greatestLeast", "(I)I"⟩
abbrev cX3_demandedSet : ByteArray := prog_5_method_12_code
def yX3_demandedSet : MethodName := ⟨RX3, "demandedSet", "()I"⟩
def RX4 : String := "Intergreen$Rounds"
def TX4 : u_T := fun k => match k with
  | 0 => ("Intergreen$Rounds", "plan", "LIntergreen$Plan;", true)
  | 1 => ("Intergreen$Rounds", "changes", "[[I", true)
  | _ => ("Intergreen$Rounds", "home", "[[I", true)
def tyX4 : Nat → FieldType := fun k => match k with
  | 0 => .object "Intergreen$Plan"
  | 1 => .array (.array .int)
  | _ => .array (.array .int)
theorem nmX4 : ∀ a, a < 3 → ∀ b, b < 3 → a ≠ b → (TX4 a).2.1 ≠ (TX4 b).2.1 := by decide +kernel
theorem tyX4_ok : ∀ k, k < 3 → parseFieldDescriptor (TX4 k).2.2.1 = some (tyX4 k) := by decide +kernel
abbrev cX4_init : ByteArray := prog_6_method_1_code
def yX4_init : MethodName := ⟨RX4, "<init>", "(LIntergreen$Plan;)V"⟩
abbrev cX4_shortest : ByteArray := prog_6_method_2_code
def yX4_shortest : MethodName := ⟨RX4, "shortest", "()I"⟩
abbrev cX4_stageAt : ByteArray := prog_6_method_3_code
def yX4_stageAt : MethodName := ⟨RX4, "stageAt", "(I)I"⟩
abbrev cX4_shortestOfAll : ByteArray := prog_6_method_4_code
def yX4_shortestOfAll : MethodName := ⟨RX4, "shortestOfAll", "()I"⟩
abbrev cX4_secondsOfGreens : ByteArray := prog_6_method_5_code
def yX4_secondsOfGreens : MethodName := ⟨RX4, "secondsOfGreens", "()I"⟩
abbrev cX4_findChanges : ByteArray := prog_6_method_6_code
def yX4_findChanges : MethodName := ⟨RX4, "findChanges", "()V"⟩
abbrev cX4_findWaysHome : ByteArray := prog_6_method_7_code
def yX4_findWaysHome : MethodName := ⟨RX4, "findWaysHome", "()V"⟩
abbrev cX4_leastHome : ByteArray := prog_6_method_8_code
def yX4_leastHome : MethodName := ⟨RX4, "leastHome", "(II)I"⟩
abbrev cX4_homeBy : ByteArray := prog_6_method_9_code
def yX4_homeBy : MethodName := ⟨RX4, "homeBy", "(III)I"⟩
abbrev cX4_firstOfBest : ByteArray := prog_6_method_10_code
def yX4_firstOfBest : MethodName := ⟨RX4, "firstOfBest", "(II)I"⟩
abbrev cX4_secondsOfWay : ByteArray := prog_6_method_11_code
def yX4_secondsOfWay : MethodName := ⟨RX4, "secondsOfWay", "(I)I"⟩
abbrev cX4_stageLeft : ByteArray := prog_6_method_12_code
def yX4_stageLeft : MethodName := ⟨RX4, "stageLeft", "(II)I"⟩
def RX5 : String := "Intergreen"
def TX5 : u_T := fun k => match k with
  | 0 => ("Intergreen", "plan", "LIntergreen$Plan;", true)
  | 1 => ("Intergreen", "log", "LIntergreen$Log;", true)
  | 2 => ("Intergreen", "lights", "LIntergreen$Lights;", true)
  | _ => ("Intergreen", "rounds", "LIntergreen$Rounds;", true)
def tyX5 : Nat → FieldType := fun k => match k with
  | 0 => .object "Intergreen$Plan"
  | 1 => .object "Intergreen$Log"
  | 2 => .object "Intergreen$Lights"
  | _ => .object "Intergreen$Rounds"
theorem nmX5 : ∀ a, a < 4 → ∀ b, b < 4 → a ≠ b → (TX5 a).2.1 ≠ (TX5 b).2.1 := by decide +kernel
theorem tyX5_ok : ∀ k, k < 4 → parseFieldDescriptor (TX5 k).2.2.1 = some (tyX5 k) := by decide +kernel
abbrev cX5_init : ByteArray := prog_1_method_1_code
def yX5_init : MethodName := ⟨RX5, "<init>", "()V"⟩
abbrev cX5_phase : ByteArray := prog_1_method_2_code
def yX5_phase : MethodName := ⟨RX5, "phase", "(III)I"⟩
abbrev cX5_meet : ByteArray := prog_1_method_3_code
def yX5_meet : MethodName := ⟨RX5, "meet", "(IIII)V"⟩
abbrev cX5_stage : ByteArray := prog_1_method_4_code
def yX5_stage : MethodName := ⟨RX5, "stage", "(I)I"⟩
abbrev cX5_start : ByteArray := prog_1_method_5_code
def yX5_start : MethodName := ⟨RX5, "start", "(I)V"⟩
abbrev cX5_stop : ByteArray := prog_1_method_6_code
def yX5_stop : MethodName := ⟨RX5, "stop", "()V"⟩
abbrev cX5_press : ByteArray := prog_1_method_7_code
def yX5_press : MethodName := ⟨RX5, "press", "(I)Z"⟩
abbrev cX5_arrive : ByteArray := prog_1_method_8_code
def yX5_arrive : MethodName := ⟨RX5, "arrive", "(II)I"⟩
abbrev cX5_ask : ByteArray := prog_1_method_9_code
def yX5_ask : MethodName := ⟨RX5, "ask", "(I)V"⟩
abbrev cX5_cancel : ByteArray := prog_1_method_10_code
def yX5_cancel : MethodName := ⟨RX5, "cancel", "()I"⟩
abbrev cX5_breaks : ByteArray := prog_1_method_11_code
def yX5_breaks : MethodName := ⟨RX5, "breaks", "(IIZ)Z"⟩
abbrev cX5_go : ByteArray := prog_1_method_12_code
def yX5_go : MethodName := ⟨RX5, "go", "(I)I"⟩
abbrev cX5_lamp : ByteArray := prog_1_method_13_code
def yX5_lamp : MethodName := ⟨RX5, "lamp", "(II)I"⟩
abbrev cX5_ofPhase : ByteArray := prog_1_method_14_code
def yX5_ofPhase : MethodName := ⟨RX5, "ofPhase", "(II)I"⟩
abbrev cX5_of : ByteArray := prog_1_method_15_code
def yX5_of : MethodName := ⟨RX5, "of", "(I)I"⟩
abbrev cX5_delay : ByteArray := prog_1_method_16_code
def yX5_delay : MethodName := ⟨RX5, "delay", "()J"⟩
abbrev cX5_delayEach : ByteArray := prog_1_method_17_code
def yX5_delayEach : MethodName := ⟨RX5, "delayEach", "()F"⟩
abbrev cX5_seen : ByteArray := prog_1_method_18_code
def yX5_seen : MethodName := ⟨RX5, "seen", "(II)I"⟩
abbrev cX5_change : ByteArray := prog_1_method_19_code
def yX5_change : MethodName := ⟨RX5, "change", "(II)I"⟩
abbrev cX5_round : ByteArray := prog_1_method_20_code
def yX5_round : MethodName := ⟨RX5, "round", "()I"⟩
abbrev cX5_roundAnew : ByteArray := prog_1_method_21_code
def yX5_roundAnew : MethodName := ⟨RX5, "roundAnew", "()I"⟩
abbrev cX5_inRound : ByteArray := prog_1_method_22_code
def yX5_inRound : MethodName := ⟨RX5, "inRound", "(I)I"⟩
abbrev cX5_isWithin : ByteArray := prog_1_method_23_code
def yX5_isWithin : MethodName := ⟨RX5, "isWithin", "(III)Z"⟩
abbrev cX5_has : ByteArray := prog_1_method_24_code
def yX5_has : MethodName := ⟨RX5, "has", "(II)Z"⟩
abbrev cX5_needPhase : ByteArray := prog_1_method_25_code
def yX5_needPhase : MethodName := ⟨RX5, "needPhase", "(I)V"⟩
abbrev cX5_needStage : ByteArray := prog_1_method_26_code
def yX5_needStage : MethodName := ⟨RX5, "needStage", "(I)V"⟩
def RX6 : String := "IntergreenModel"
def TX6 : u_T := fun k => match k with
  | 0 => ("IntergreenModel", "thrown", "I", false)
  | 1 => ("IntergreenModel", "wasStarted", "Z", false)
  | 2 => ("IntergreenModel", "phases", "I", false)
  | 3 => ("IntergreenModel", "least", "[I", true)
  | 4 => ("IntergreenModel", "most", "[I", true)
  | 5 => ("IntergreenModel", "gap", "[I", true)
  | 6 => ("IntergreenModel", "between", "[I", true)
  | 7 => ("IntergreenModel", "stages", "I", false)
  | 8 => ("IntergreenModel", "stage", "[I", true)
  | 9 => ("IntergreenModel", "state", "I", false)
  | 10 => ("IntergreenModel", "on", "I", false)
  | 11 => ("IntergreenModel", "second", "I", false)
  | 12 => ("IntergreenModel", "colour", "[I", true)
  | 13 => ("IntergreenModel", "ended", "[I", true)
  | 14 => ("IntergreenModel", "green", "[I", true)
  | 15 => ("IntergreenModel", "rest", "[I", true)
  | 16 => ("IntergreenModel", "queue", "[I", true)
  | 17 => ("IntergreenModel", "wait", "[I", true)
  | 18 => ("IntergreenModel", "longest", "[I", true)
  | 19 => ("IntergreenModel", "isPressed", "[Z", true)
  | 20 => ("IntergreenModel", "isBroken", "[Z", true)
  | 21 => ("IntergreenModel", "asked", "I", false)
  | 22 => ("IntergreenModel", "gone", "I", false)
  | 23 => ("IntergreenModel", "delay", "J", false)
  | 24 => ("IntergreenModel", "logs", "[I", true)
  | 25 => ("IntergreenModel", "row", "[I", true)
  | _ => ("IntergreenModel", "best", "[I", true)
def tyX6 : Nat → FieldType := fun k => match k with
  | 0 => .int
  | 1 => .boolean
  | 2 => .int
  | 3 => .array .int
  | 4 => .array .int
  | 5 => .array .int
  | 6 => .array .int
  | 7 => .int
  | 8 => .array .int
  | 9 => .int
  | 10 => .int
  | 11 => .int
  | 12 => .array .int
  | 13 => .array .int
  | 14 => .array .int
  | 15 => .array .int
  | 16 => .array .int
  | 17 => .array .int
  | 18 => .array .int
  | 19 => .array .boolean
  | 20 => .array .boolean
  | 21 => .int
  | 22 => .int
  | 23 => .long
  | 24 => .array .int
  | 25 => .array .int
  | _ => .array .int
theorem nmX6 : ∀ a, a < 27 → ∀ b, b < 27 → a ≠ b → (TX6 a).2.1 ≠ (TX6 b).2.1 := by decide +kernel
theorem tyX6_ok : ∀ k, k < 27 → parseFieldDescriptor (TX6 k).2.2.1 = some (tyX6 k) := by decide +kernel
abbrev cX6_init : ByteArray := prog_8_method_1_code
def yX6_init : MethodName := ⟨RX6, "<init>", "()V"⟩
abbrev cX6_thrown : ByteArray := prog_8_method_2_code
def yX6_thrown : MethodName := ⟨RX6, "thrown", "()I"⟩
abbrev cX6_goesWell : ByteArray := prog_8_method_3_code
def yX6_goesWell : MethodName := ⟨RX6, "goesWell", "(I)Z"⟩
abbrev cX6_in : ByteArray := prog_8_method_4_code
def yX6_in : MethodName := ⟨RX6, "in", "(III)Z"⟩
abbrev cX6_isPhase : ByteArray := prog_8_method_5_code
def yX6_isPhase : MethodName := ⟨RX6, "isPhase", "(I)Z"⟩
abbrev cX6_isStage : ByteArray := prog_8_method_6_code
def yX6_isStage : MethodName := ⟨RX6, "isStage", "(I)Z"⟩
abbrev cX6_has : ByteArray := prog_8_method_7_code
def yX6_has : MethodName := ⟨RX6, "has", "(II)Z"⟩
abbrev cX6_phase : ByteArray := prog_8_method_8_code
def yX6_phase : MethodName := ⟨RX6, "phase", "(III)I"⟩
abbrev cX6_areInOne : ByteArray := prog_8_method_9_code
def yX6_areInOne : MethodName := ⟨RX6, "areInOne", "(II)Z"⟩
abbrev cX6_meet : ByteArray := prog_8_method_10_code
def yX6_meet : MethodName := ⟨RX6, "meet", "(IIII)V"⟩
abbrev cX6_meetAny : ByteArray := prog_8_method_11_code
def yX6_meetAny : MethodName := ⟨RX6, "meetAny", "(I)Z"⟩
abbrev cX6_stage : ByteArray := prog_8_method_12_code
def yX6_stage : MethodName := ⟨RX6, "stage", "(I)I"⟩
abbrev cX6_start : ByteArray := prog_8_method_13_code
def yX6_start : MethodName := ⟨RX6, "start", "(I)V"⟩
abbrev cX6_darken : ByteArray := prog_8_method_14_code
def yX6_darken : MethodName := ⟨RX6, "darken", "(I)V"⟩
abbrev cX6_stop : ByteArray := prog_8_method_15_code
def yX6_stop : MethodName := ⟨RX6, "stop", "()V"⟩
abbrev cX6_isDemanded : ByteArray := prog_8_method_16_code
def yX6_isDemanded : MethodName := ⟨RX6, "isDemanded", "(I)Z"⟩
abbrev cX6_press : ByteArray := prog_8_method_17_code
def yX6_press : MethodName := ⟨RX6, "press", "(I)Z"⟩
abbrev cX6_arrive : ByteArray := prog_8_method_18_code
def yX6_arrive : MethodName := ⟨RX6, "arrive", "(II)I"⟩
abbrev cX6_ask : ByteArray := prog_8_method_19_code
def yX6_ask : MethodName := ⟨RX6, "ask", "(I)V"⟩
abbrev cX6_cancel : ByteArray := prog_8_method_20_code
def yX6_cancel : MethodName := ⟨RX6, "cancel", "()I"⟩
abbrev cX6_breaks : ByteArray := prog_8_method_21_code
def yX6_breaks : MethodName := ⟨RX6, "breaks", "(IIZ)Z"⟩
abbrev cX6_askedStage : ByteArray := prog_8_method_22_code
def yX6_askedStage : MethodName := ⟨RX6, "askedStage", "()I"⟩
abbrev cX6_isWished : ByteArray := prog_8_method_23_code
def yX6_isWished : MethodName := ⟨RX6, "isWished", "(I)Z"⟩
abbrev cX6_demandedStage : ByteArray := prog_8_method_24_code
def yX6_demandedStage : MethodName := ⟨RX6, "demandedStage", "()I"⟩
abbrev cX6_leave : ByteArray := prog_8_method_25_code
def yX6_leave : MethodName := ⟨RX6, "leave", "()V"⟩
abbrev cX6_canBegin : ByteArray := prog_8_method_26_code
def yX6_canBegin : MethodName := ⟨RX6, "canBegin", "(I)Z"⟩
abbrev cX6_begin : ByteArray := prog_8_method_27_code
def yX6_begin : MethodName := ⟨RX6, "begin", "()V"⟩
abbrev cX6_isDangerous : ByteArray := prog_8_method_28_code
def yX6_isDangerous : MethodName := ⟨RX6, "isDangerous", "()Z"⟩
abbrev cX6_write : ByteArray := prog_8_method_29_code
def yX6_write : MethodName := ⟨RX6, "write", "()V"⟩
abbrev cX6_move : ByteArray := prog_8_method_30_code
def yX6_move : MethodName := ⟨RX6, "move", "(I)V"⟩
abbrev cX6_goOne : ByteArray := prog_8_method_31_code
def yX6_goOne : MethodName := ⟨RX6, "goOne", "()V"⟩
abbrev cX6_go : ByteArray := prog_8_method_32_code
def yX6_go : MethodName := ⟨RX6, "go", "(I)I"⟩
abbrev cX6_shown : ByteArray := prog_8_method_33_code
def yX6_shown : MethodName := ⟨RX6, "shown", "(II)I"⟩
abbrev cX6_lamp : ByteArray := prog_8_method_34_code
def yX6_lamp : MethodName := ⟨RX6, "lamp", "(II)I"⟩
abbrev cX6_ofPhase : ByteArray := prog_8_method_35_code
def yX6_ofPhase : MethodName := ⟨RX6, "ofPhase", "(II)I"⟩
abbrev cX6_of : ByteArray := prog_8_method_36_code
def yX6_of : MethodName := ⟨RX6, "of", "(I)I"⟩
abbrev cX6_delay : ByteArray := prog_8_method_37_code
def yX6_delay : MethodName := ⟨RX6, "delay", "()J"⟩
abbrev cX6_delayEach : ByteArray := prog_8_method_38_code
def yX6_delayEach : MethodName := ⟨RX6, "delayEach", "()F"⟩
abbrev cX6_seen : ByteArray := prog_8_method_39_code
def yX6_seen : MethodName := ⟨RX6, "seen", "(II)I"⟩
abbrev cX6_changeOf : ByteArray := prog_8_method_40_code
def yX6_changeOf : MethodName := ⟨RX6, "changeOf", "(II)I"⟩
abbrev cX6_change : ByteArray := prog_8_method_41_code
def yX6_change : MethodName := ⟨RX6, "change", "(II)I"⟩
abbrev cX6_leastOf : ByteArray := prog_8_method_42_code
def yX6_leastOf : MethodName := ⟨RX6, "leastOf", "(I)I"⟩
abbrev cX6_isNew : ByteArray := prog_8_method_43_code
def yX6_isNew : MethodName := ⟨RX6, "isNew", "(I)Z"⟩
abbrev cX6_takes : ByteArray := prog_8_method_44_code
def yX6_takes : MethodName := ⟨RX6, "takes", "()I"⟩
abbrev cX6_shortest : ByteArray := prog_8_method_45_code
def yX6_shortest : MethodName := ⟨RX6, "shortest", "()I"⟩
abbrev cX6_round : ByteArray := prog_8_method_46_code
def yX6_round : MethodName := ⟨RX6, "round", "()I"⟩
abbrev cX6_roundAnew : ByteArray := prog_8_method_47_code
def yX6_roundAnew : MethodName := ⟨RX6, "roundAnew", "()I"⟩
abbrev cX6_inRound : ByteArray := prog_8_method_48_code
def yX6_inRound : MethodName := ⟨RX6, "inRound", "(I)I"⟩
def RJ9 : String := "java/lang/Math"
def TJ9 : u_T := fun k => match k with
  | _ => ("", "", "", false)
def tyJ9 : Nat → FieldType := fun k => match k with
  | _ => .int
theorem nmJ9 : ∀ a, a < 0 → ∀ b, b < 0 → a ≠ b → (TJ9 a).2.1 ≠ (TJ9 b).2.1 := by decide +kernel
theorem tyJ9_ok : ∀ k, k < 0 → parseFieldDescriptor (TJ9 k).2.2.1 = some (tyJ9 k) := by decide +kernel
abbrev cJ9_max_7cf53 : ByteArray := prog_13_method_65_code
def yJ9_max_7cf53 : MethodName := ⟨RJ9, "max", "(II)I"⟩
abbrev cJ9_min_7cf53 : ByteArray := prog_13_method_69_code
def yJ9_min_7cf53 : MethodName := ⟨RJ9, "min", "(II)I"⟩
def RJ0 : String := "java/lang/String"
def TJ0 : u_T := fun k => match k with
  | _ => ("", "", "", false)
def tyJ0 : Nat → FieldType := fun k => match k with
  | _ => .int
theorem nmJ0 : ∀ a, a < 0 → ∀ b, b < 0 → a ≠ b → (TJ0 a).2.1 ≠ (TJ0 b).2.1 := by decide +kernel
theorem tyJ0_ok : ∀ k, k < 0 → parseFieldDescriptor (TJ0 k).2.2.1 = some (tyJ0 k) := by decide +kernel
def RL : String := "IntergreenLaw"
abbrev cL_phase : ByteArray := method_3_code
def yL_phase : MethodName := ⟨RL, "phase", "(LIntergreen;III[J)I"⟩
abbrev cL_meet : ByteArray := method_4_code
def yL_meet : MethodName := ⟨RL, "meet", "(LIntergreen;IIII)I"⟩
abbrev cL_stage : ByteArray := method_5_code
def yL_stage : MethodName := ⟨RL, "stage", "(LIntergreen;I[J)I"⟩
abbrev cL_start : ByteArray := method_6_code
def yL_start : MethodName := ⟨RL, "start", "(LIntergreen;I)I"⟩
abbrev cL_stop : ByteArray := method_7_code
def yL_stop : MethodName := ⟨RL, "stop", "(LIntergreen;)I"⟩
abbrev cL_press : ByteArray := method_8_code
def yL_press : MethodName := ⟨RL, "press", "(LIntergreen;I[J)I"⟩
abbrev cL_arrive : ByteArray := method_9_code
def yL_arrive : MethodName := ⟨RL, "arrive", "(LIntergreen;II[J)I"⟩
abbrev cL_ask : ByteArray := method_10_code
def yL_ask : MethodName := ⟨RL, "ask", "(LIntergreen;I)I"⟩
abbrev cL_cancel : ByteArray := method_11_code
def yL_cancel : MethodName := ⟨RL, "cancel", "(LIntergreen;[J)I"⟩
abbrev cL_breaks : ByteArray := method_12_code
def yL_breaks : MethodName := ⟨RL, "breaks", "(LIntergreen;IIZ[J)I"⟩
abbrev cL_go : ByteArray := method_13_code
def yL_go : MethodName := ⟨RL, "go", "(LIntergreen;I[J)I"⟩
abbrev cL_lamp : ByteArray := method_14_code
def yL_lamp : MethodName := ⟨RL, "lamp", "(LIntergreen;II[J)I"⟩
abbrev cL_ofPhase : ByteArray := method_15_code
def yL_ofPhase : MethodName := ⟨RL, "ofPhase", "(LIntergreen;II[J)I"⟩
abbrev cL_of : ByteArray := method_16_code
def yL_of : MethodName := ⟨RL, "of", "(LIntergreen;I[J)I"⟩
abbrev cL_seen : ByteArray := method_17_code
def yL_seen : MethodName := ⟨RL, "seen", "(LIntergreen;II[J)I"⟩
abbrev cL_change : ByteArray := method_18_code
def yL_change : MethodName := ⟨RL, "change", "(LIntergreen;II[J)I"⟩
abbrev cL_inRound : ByteArray := method_19_code
def yL_inRound : MethodName := ⟨RL, "inRound", "(LIntergreen;I[J)I"⟩
abbrev cL_law : ByteArray := code
def yL_law : MethodName := ⟨RL, "law", "([I)Z"⟩
abbrev vwCl : List vw_C := [(RX0, TX0, 9), (RX1, TX1, 1), (RX2, TX2, 12), (RX3, TX3, 5), (RX4, TX4, 3), (RX5, TX5, 4), (RX6, TX6, 27)]
end
section
theorem dX0_init_0 : decode cX0_init 0 = .ok (.aload_n 0, 1) := by decide +kernel
theorem dX0_init_1 : decode cX0_init 1 = .ok (.invokespecial 3, 3) := by decide +kernel
theorem dX0_init_4 : decode cX0_init 4 = .ok (.aload_n 0, 1) := by decide +kernel
theorem dX0_init_5 : decode cX0_init 5 = .ok (.iconst 0, 1) := by decide +kernel
theorem dX0_init_6 : decode cX0_init 6 = .ok (.putfield 9, 3) := by decide +kernel
theorem dX0_init_9 : decode cX0_init 9 = .ok (.aload_n 0, 1) := by decide +kernel
theorem dX0_init_10 : decode cX0_init 10 = .ok (.iconst (-1), 1) := by decide +kernel
theorem dX0_init_11 : decode cX0_init 11 = .ok (.putfield 15, 3) := by decide +kernel
theorem dX0_init_14 : decode cX0_init 14 = .ok (.aload_n 0, 1) := by decide +kernel
theorem dX0_init_15 : decode cX0_init 15 = .ok (.iconst (-1), 1) := by decide +kernel
theorem dX0_init_16 : decode cX0_init 16 = .ok (.putfield 18, 3) := by decide +kernel
theorem dX0_init_19 : decode cX0_init 19 = .ok (.aload_n 0, 1) := by decide +kernel
theorem dX0_init_20 : decode cX0_init 20 = .ok (.aload_n 1, 1) := by decide +kernel
theorem dX0_init_21 : decode cX0_init 21 = .ok (.putfield 21, 3) := by decide +kernel
theorem dX0_init_24 : decode cX0_init 24 = .ok (.aload_n 0, 1) := by decide +kernel
theorem dX0_init_25 : decode cX0_init 25 = .ok (.aload_n 2, 1) := by decide +kernel
theorem dX0_init_26 : decode cX0_init 26 = .ok (.putfield 25, 3) := by decide +kernel
theorem dX0_init_29 : decode cX0_init 29 = .ok (.return_, 1) := by decide +kernel
theorem dX0_areWorking_0 : decode cX0_areWorking 0 = .ok (.aload_n 0, 1) := by decide +kernel
theorem dX0_areWorking_1 : decode cX0_areWorking 1 = .ok (.getfield 9, 3) := by decide +kernel
theorem dX0_areWorking_4 : decode cX0_areWorking 4 = .ok (.iconst 1, 1) := by decide +kernel
theorem dX0_areWorking_5 : decode cX0_areWorking 5 = .ok (.if_icmp .eq 11, 3) := by decide +kernel
theorem dX0_areWorking_8 : decode cX0_areWorking 8 = .ok (.aload_n 0, 1) := by decide +kernel
theorem dX0_areWorking_9 : decode cX0_areWorking 9 = .ok (.getfield 9, 3) := by decide +kernel
theorem dX0_areWorking_12 : decode cX0_areWorking 12 = .ok (.iconst 2, 1) := by decide +kernel
theorem dX0_areWorking_13 : decode cX0_areWorking 13 = .ok (.if_icmp .ne 7, 3) := by decide +kernel
theorem dX0_areWorking_16 : decode cX0_areWorking 16 = .ok (.iconst 1, 1) := by decide +kernel
theorem dX0_areWorking_17 : decode cX0_areWorking 17 = .ok (.goto 4, 3) := by decide +kernel
theorem dX0_areWorking_20 : decode cX0_areWorking 20 = .ok (.iconst 0, 1) := by decide +kernel
theorem dX0_areWorking_21 : decode cX0_areWorking 21 = .ok (.ireturn, 1) := by decide +kernel
theorem dX0_begin_0 : decode cX0_begin 0 = .ok (.aload_n 0, 1) := by decide +kernel
theorem dX0_begin_1 : decode cX0_begin 1 = .ok (.iconst 1, 1) := by decide +kernel
theorem dX0_begin_2 : decode cX0_begin 2 = .ok (.putfield 9, 3) := by decide +kernel
theorem dX0_begin_5 : decode cX0_begin 5 = .ok (.aload_n 0, 1) := by decide +kernel
theorem dX0_begin_6 : decode cX0_begin 6 = .ok (.iload_n 1, 1) := by decide +kernel
theorem dX0_begin_7 : decode cX0_begin 7 = .ok (.putfield 15, 3) := by decide +kernel
theorem dX0_begin_10 : decode cX0_begin 10 = .ok (.aload_n 0, 1) := by decide +kernel
theorem dX0_begin_11 : decode cX0_begin 11 = .ok (.iconst 1, 1) := by decide +kernel
theorem dX0_begin_12 : decode cX0_begin 12 = .ok (.putfield 29, 3) := by decide +kernel
theorem dX0_begin_15 : decode cX0_begin 15 = .ok (.return_, 1) := by decide +kernel
theorem dX0_fallBack_0 : decode cX0_fallBack 0 = .ok (.aload_n 0, 1) := by decide +kernel
theorem dX0_fallBack_1 : decode cX0_fallBack 1 = .ok (.iload_n 1, 1) := by decide +kernel
theorem dX0_fallBack_2 : decode cX0_fallBack 2 = .ok (.putfield 9, 3) := by decide +kernel
theorem dX0_fallBack_5 : decode cX0_fallBack 5 = .ok (.aload_n 0, 1) := by decide +kernel
theorem dX0_fallBack_6 : decode cX0_fallBack 6 = .ok (.iconst (-1), 1) := by decide +kernel
theorem dX0_fallBack_7 : decode cX0_fallBack 7 = .ok (.putfield 15, 3) := by decide +kernel
theorem dX0_fallBack_10 : decode cX0_fallBack 10 = .ok (.iconst 0, 1) := by decide +kernel
theorem dX0_fallBack_11 : decode cX0_fallBack 11 = .ok (.istore_n 2, 1) := by decide +kernel
theorem dX0_fallBack_12 : decode cX0_fallBack 12 = .ok (.iload_n 2, 1) := by decide +kernel
theorem dX0_fallBack_13 : decode cX0_fallBack 13 = .ok (.aload_n 0, 1) := by decide +kernel
theorem dX0_fallBack_14 : decode cX0_fallBack 14 = .ok (.getfield 21, 3) := by decide +kernel
theorem dX0_fallBack_17 : decode cX0_fallBack 17 = .ok (.getfield 33, 3) := by decide +kernel
theorem dX0_fallBack_20 : decode cX0_fallBack 20 = .ok (.if_icmp .ge 25, 3) := by decide +kernel
theorem dX0_fallBack_23 : decode cX0_fallBack 23 = .ok (.aload_n 0, 1) := by decide +kernel
theorem dX0_fallBack_24 : decode cX0_fallBack 24 = .ok (.getfield 21, 3) := by decide +kernel
theorem dX0_fallBack_27 : decode cX0_fallBack 27 = .ok (.getfield 38, 3) := by decide +kernel
theorem dX0_fallBack_30 : decode cX0_fallBack 30 = .ok (.iload_n 2, 1) := by decide +kernel
theorem dX0_fallBack_31 : decode cX0_fallBack 31 = .ok (.aaload, 1) := by decide +kernel
theorem dX0_fallBack_32 : decode cX0_fallBack 32 = .ok (.aload_n 0, 1) := by decide +kernel
theorem dX0_fallBack_33 : decode cX0_fallBack 33 = .ok (.getfield 42, 3) := by decide +kernel
theorem dX0_fallBack_36 : decode cX0_fallBack 36 = .ok (.invokevirtual 45, 3) := by decide +kernel
theorem dX0_fallBack_39 : decode cX0_fallBack 39 = .ok (.iinc 2 1, 3) := by decide +kernel
theorem dX0_fallBack_42 : decode cX0_fallBack 42 = .ok (.goto (-30), 3) := by decide +kernel
theorem dX0_fallBack_45 : decode cX0_fallBack 45 = .ok (.return_, 1) := by decide +kernel
theorem dX0_passSecond_0 : decode cX0_passSecond 0 = .ok (.aload_n 0, 1) := by decide +kernel
theorem dX0_passSecond_1 : decode cX0_passSecond 1 = .ok (.invokevirtual 51, 3) := by decide +kernel
theorem dX0_passSecond_4 : decode cX0_passSecond 4 = .ok (.aload_n 0, 1) := by decide +kernel
theorem dX0_passSecond_5 : decode cX0_passSecond 5 = .ok (.invokevirtual 54, 3) := by decide +kernel
theorem dX0_passSecond_8 : decode cX0_passSecond 8 = .ok (.aload_n 0, 1) := by decide +kernel
theorem dX0_passSecond_9 : decode cX0_passSecond 9 = .ok (.invokevirtual 57, 3) := by decide +kernel
theorem dX0_passSecond_12 : decode cX0_passSecond 12 = .ok (.aload_n 0, 1) := by decide +kernel
theorem dX0_passSecond_13 : decode cX0_passSecond 13 = .ok (.invokevirtual 60, 3) := by decide +kernel
theorem dX0_passSecond_16 : decode cX0_passSecond 16 = .ok (.aload_n 0, 1) := by decide +kernel
theorem dX0_passSecond_17 : decode cX0_passSecond 17 = .ok (.invokevirtual 63, 3) := by decide +kernel
theorem dX0_passSecond_20 : decode cX0_passSecond 20 = .ok (.aload_n 0, 1) := by decide +kernel
theorem dX0_passSecond_21 : decode cX0_passSecond 21 = .ok (.invokevirtual 66, 3) := by decide +kernel
theorem dX0_passSecond_24 : decode cX0_passSecond 24 = .ok (.aload_n 0, 1) := by decide +kernel
theorem dX0_passSecond_25 : decode cX0_passSecond 25 = .ok (.invokevirtual 69, 3) := by decide +kernel
theorem dX0_passSecond_28 : decode cX0_passSecond 28 = .ok (.aload_n 0, 1) := by decide +kernel
theorem dX0_passSecond_29 : decode cX0_passSecond 29 = .ok (.dup, 1) := by decide +kernel
theorem dX0_passSecond_30 : decode cX0_passSecond 30 = .ok (.getfield 42, 3) := by decide +kernel
theorem dX0_passSecond_33 : decode cX0_passSecond 33 = .ok (.iconst 1, 1) := by decide +kernel
theorem dX0_passSecond_34 : decode cX0_passSecond 34 = .ok (.iadd, 1) := by decide +kernel
theorem dX0_passSecond_35 : decode cX0_passSecond 35 = .ok (.putfield 42, 3) := by decide +kernel
theorem dX0_passSecond_38 : decode cX0_passSecond 38 = .ok (.return_, 1) := by decide +kernel
theorem dX0_leaveStage_0 : decode cX0_leaveStage 0 = .ok (.aload_n 0, 1) := by decide +kernel
theorem dX0_leaveStage_1 : decode cX0_leaveStage 1 = .ok (.getfield 9, 3) := by decide +kernel
theorem dX0_leaveStage_4 : decode cX0_leaveStage 4 = .ok (.iconst 2, 1) := by decide +kernel
theorem dX0_leaveStage_5 : decode cX0_leaveStage 5 = .ok (.if_icmp .eq 4, 3) := by decide +kernel
theorem dX0_leaveStage_8 : decode cX0_leaveStage 8 = .ok (.return_, 1) := by decide +kernel
theorem dX0_leaveStage_9 : decode cX0_leaveStage 9 = .ok (.aload_n 0, 1) := by decide +kernel
theorem dX0_leaveStage_10 : decode cX0_leaveStage 10 = .ok (.invokevirtual 72, 3) := by decide +kernel
theorem dX0_leaveStage_13 : decode cX0_leaveStage 13 = .ok (.istore_n 1, 1) := by decide +kernel
theorem dX0_leaveStage_14 : decode cX0_leaveStage 14 = .ok (.iload_n 1, 1) := by decide +kernel
theorem dX0_leaveStage_15 : decode cX0_leaveStage 15 = .ok (.iconst (-1), 1) := by decide +kernel
theorem dX0_leaveStage_16 : decode cX0_leaveStage 16 = .ok (.if_icmp .eq 7, 3) := by decide +kernel
theorem dX0_leaveStage_19 : decode cX0_leaveStage 19 = .ok (.iload_n 1, 1) := by decide +kernel
theorem dX0_leaveStage_20 : decode cX0_leaveStage 20 = .ok (.goto 7, 3) := by decide +kernel
theorem dX0_leaveStage_23 : decode cX0_leaveStage 23 = .ok (.aload_n 0, 1) := by decide +kernel
theorem dX0_leaveStage_24 : decode cX0_leaveStage 24 = .ok (.invokevirtual 76, 3) := by decide +kernel
theorem dX0_leaveStage_27 : decode cX0_leaveStage 27 = .ok (.istore_n 2, 1) := by decide +kernel
theorem dX0_leaveStage_28 : decode cX0_leaveStage 28 = .ok (.iload_n 2, 1) := by decide +kernel
theorem dX0_leaveStage_29 : decode cX0_leaveStage 29 = .ok (.iconst (-1), 1) := by decide +kernel
theorem dX0_leaveStage_30 : decode cX0_leaveStage 30 = .ok (.if_icmp .eq 11, 3) := by decide +kernel
theorem dX0_leaveStage_33 : decode cX0_leaveStage 33 = .ok (.iload_n 2, 1) := by decide +kernel
theorem dX0_leaveStage_34 : decode cX0_leaveStage 34 = .ok (.aload_n 0, 1) := by decide +kernel
theorem dX0_leaveStage_35 : decode cX0_leaveStage 35 = .ok (.getfield 15, 3) := by decide +kernel
theorem dX0_leaveStage_38 : decode cX0_leaveStage 38 = .ok (.if_icmp .ne 4, 3) := by decide +kernel
theorem dX0_leaveStage_41 : decode cX0_leaveStage 41 = .ok (.return_, 1) := by decide +kernel
theorem dX0_leaveStage_42 : decode cX0_leaveStage 42 = .ok (.aload_n 0, 1) := by decide +kernel
theorem dX0_leaveStage_43 : decode cX0_leaveStage 43 = .ok (.getfield 21, 3) := by decide +kernel
theorem dX0_leaveStage_46 : decode cX0_leaveStage 46 = .ok (.aload_n 0, 1) := by decide +kernel
theorem dX0_leaveStage_47 : decode cX0_leaveStage 47 = .ok (.getfield 15, 3) := by decide +kernel
theorem dX0_leaveStage_50 : decode cX0_leaveStage 50 = .ok (.invokevirtual 79, 3) := by decide +kernel
theorem dX0_leaveStage_53 : decode cX0_leaveStage 53 = .ok (.aload_n 0, 1) := by decide +kernel
theorem dX0_leaveStage_54 : decode cX0_leaveStage 54 = .ok (.getfield 21, 3) := by decide +kernel
theorem dX0_leaveStage_57 : decode cX0_leaveStage 57 = .ok (.iload_n 2, 1) := by decide +kernel
theorem dX0_leaveStage_58 : decode cX0_leaveStage 58 = .ok (.invokevirtual 79, 3) := by decide +kernel
theorem dX0_leaveStage_61 : decode cX0_leaveStage 61 = .ok (.iconst (-1), 1) := by decide +kernel
theorem dX0_leaveStage_62 : decode cX0_leaveStage 62 = .ok (.ixor, 1) := by decide +kernel
theorem dX0_leaveStage_63 : decode cX0_leaveStage 63 = .ok (.iand, 1) := by decide +kernel
theorem dX0_leaveStage_64 : decode cX0_leaveStage 64 = .ok (.istore_n 3, 1) := by decide +kernel
theorem dX0_leaveStage_65 : decode cX0_leaveStage 65 = .ok (.aload_n 0, 1) := by decide +kernel
theorem dX0_leaveStage_66 : decode cX0_leaveStage 66 = .ok (.iload_n 3, 1) := by decide +kernel
theorem dX0_leaveStage_67 : decode cX0_leaveStage 67 = .ok (.iload_n 1, 1) := by decide +kernel
theorem dX0_leaveStage_68 : decode cX0_leaveStage 68 = .ok (.iconst (-1), 1) := by decide +kernel
theorem dX0_leaveStage_69 : decode cX0_leaveStage 69 = .ok (.if_icmp .eq 7, 3) := by decide +kernel
theorem dX0_leaveStage_72 : decode cX0_leaveStage 72 = .ok (.iconst 1, 1) := by decide +kernel
theorem dX0_leaveStage_73 : decode cX0_leaveStage 73 = .ok (.goto 4, 3) := by decide +kernel
theorem dX0_leaveStage_76 : decode cX0_leaveStage 76 = .ok (.iconst 0, 1) := by decide +kernel
theorem dX0_leaveStage_77 : decode cX0_leaveStage 77 = .ok (.invokevirtual 83, 3) := by decide +kernel
theorem dX0_leaveStage_80 : decode cX0_leaveStage 80 = .ok (.ifCond .eq 18, 3) := by decide +kernel
theorem dX0_leaveStage_83 : decode cX0_leaveStage 83 = .ok (.aload_n 0, 1) := by decide +kernel
theorem dX0_leaveStage_84 : decode cX0_leaveStage 84 = .ok (.iload_n 3, 1) := by decide +kernel
theorem dX0_leaveStage_85 : decode cX0_leaveStage 85 = .ok (.invokevirtual 87, 3) := by decide +kernel
theorem dX0_leaveStage_88 : decode cX0_leaveStage 88 = .ok (.aload_n 0, 1) := by decide +kernel
theorem dX0_leaveStage_89 : decode cX0_leaveStage 89 = .ok (.iconst 1, 1) := by decide +kernel
theorem dX0_leaveStage_90 : decode cX0_leaveStage 90 = .ok (.putfield 9, 3) := by decide +kernel
theorem dX0_leaveStage_93 : decode cX0_leaveStage 93 = .ok (.aload_n 0, 1) := by decide +kernel
theorem dX0_leaveStage_94 : decode cX0_leaveStage 94 = .ok (.iload_n 2, 1) := by decide +kernel
theorem dX0_leaveStage_95 : decode cX0_leaveStage 95 = .ok (.putfield 15, 3) := by decide +kernel
theorem dX0_leaveStage_98 : decode cX0_leaveStage 98 = .ok (.return_, 1) := by decide +kernel
theorem dX0_stageForTram_0 : decode cX0_stageForTram 0 = .ok (.aload_n 0, 1) := by decide +kernel
theorem dX0_stageForTram_1 : decode cX0_stageForTram 1 = .ok (.getfield 18, 3) := by decide +kernel
theorem dX0_stageForTram_4 : decode cX0_stageForTram 4 = .ok (.iconst (-1), 1) := by decide +kernel
theorem dX0_stageForTram_5 : decode cX0_stageForTram 5 = .ok (.if_icmp .ne 5, 3) := by decide +kernel
theorem dX0_stageForTram_8 : decode cX0_stageForTram 8 = .ok (.iconst (-1), 1) := by decide +kernel
theorem dX0_stageForTram_9 : decode cX0_stageForTram 9 = .ok (.ireturn, 1) := by decide +kernel
theorem dX0_stageForTram_10 : decode cX0_stageForTram 10 = .ok (.aload_n 0, 1) := by decide +kernel
theorem dX0_stageForTram_11 : decode cX0_stageForTram 11 = .ok (.getfield 21, 3) := by decide +kernel
theorem dX0_stageForTram_14 : decode cX0_stageForTram 14 = .ok (.aload_n 0, 1) := by decide +kernel
theorem dX0_stageForTram_15 : decode cX0_stageForTram 15 = .ok (.getfield 15, 3) := by decide +kernel
theorem dX0_stageForTram_18 : decode cX0_stageForTram 18 = .ok (.invokevirtual 79, 3) := by decide +kernel
theorem dX0_stageForTram_21 : decode cX0_stageForTram 21 = .ok (.aload_n 0, 1) := by decide +kernel
theorem dX0_stageForTram_22 : decode cX0_stageForTram 22 = .ok (.getfield 18, 3) := by decide +kernel
theorem dX0_stageForTram_25 : decode cX0_stageForTram 25 = .ok (.invokestatic 90, 3) := by decide +kernel
theorem dX0_stageForTram_28 : decode cX0_stageForTram 28 = .ok (.ifCond .eq 8, 3) := by decide +kernel
theorem dX0_stageForTram_31 : decode cX0_stageForTram 31 = .ok (.aload_n 0, 1) := by decide +kernel
theorem dX0_stageForTram_32 : decode cX0_stageForTram 32 = .ok (.getfield 15, 3) := by decide +kernel
theorem dX0_stageForTram_35 : decode cX0_stageForTram 35 = .ok (.ireturn, 1) := by decide +kernel
theorem dX0_stageForTram_36 : decode cX0_stageForTram 36 = .ok (.iconst 0, 1) := by decide +kernel
theorem dX0_stageForTram_37 : decode cX0_stageForTram 37 = .ok (.istore_n 1, 1) := by decide +kernel
theorem dX0_stageForTram_38 : decode cX0_stageForTram 38 = .ok (.iload_n 1, 1) := by decide +kernel
theorem dX0_stageForTram_39 : decode cX0_stageForTram 39 = .ok (.aload_n 0, 1) := by decide +kernel
theorem dX0_stageForTram_40 : decode cX0_stageForTram 40 = .ok (.getfield 21, 3) := by decide +kernel
theorem dX0_stageForTram_43 : decode cX0_stageForTram 43 = .ok (.getfield 94, 3) := by decide +kernel
theorem dX0_stageForTram_46 : decode cX0_stageForTram 46 = .ok (.if_icmp .ge 29, 3) := by decide +kernel
theorem dX0_stageForTram_49 : decode cX0_stageForTram 49 = .ok (.aload_n 0, 1) := by decide +kernel
theorem dX0_stageForTram_50 : decode cX0_stageForTram 50 = .ok (.getfield 21, 3) := by decide +kernel
theorem dX0_stageForTram_53 : decode cX0_stageForTram 53 = .ok (.iload_n 1, 1) := by decide +kernel
theorem dX0_stageForTram_54 : decode cX0_stageForTram 54 = .ok (.invokevirtual 79, 3) := by decide +kernel
theorem dX0_stageForTram_57 : decode cX0_stageForTram 57 = .ok (.aload_n 0, 1) := by decide +kernel
theorem dX0_stageForTram_58 : decode cX0_stageForTram 58 = .ok (.getfield 18, 3) := by decide +kernel
theorem dX0_stageForTram_61 : decode cX0_stageForTram 61 = .ok (.invokestatic 90, 3) := by decide +kernel
theorem dX0_stageForTram_64 : decode cX0_stageForTram 64 = .ok (.ifCond .eq 5, 3) := by decide +kernel
theorem dX0_stageForTram_67 : decode cX0_stageForTram 67 = .ok (.iload_n 1, 1) := by decide +kernel
theorem dX0_stageForTram_68 : decode cX0_stageForTram 68 = .ok (.ireturn, 1) := by decide +kernel
theorem dX0_stageForTram_69 : decode cX0_stageForTram 69 = .ok (.iinc 1 1, 3) := by decide +kernel
theorem dX0_stageForTram_72 : decode cX0_stageForTram 72 = .ok (.goto (-34), 3) := by decide +kernel
theorem dX0_stageForTram_75 : decode cX0_stageForTram 75 = .ok (.iconst (-1), 1) := by decide +kernel
theorem dX0_stageForTram_76 : decode cX0_stageForTram 76 = .ok (.ireturn, 1) := by decide +kernel
theorem dX0_stageOnDemand_0 : decode cX0_stageOnDemand 0 = .ok (.aload_n 0, 1) := by decide +kernel
theorem dX0_stageOnDemand_1 : decode cX0_stageOnDemand 1 = .ok (.getfield 21, 3) := by decide +kernel
theorem dX0_stageOnDemand_4 : decode cX0_stageOnDemand 4 = .ok (.invokevirtual 97, 3) := by decide +kernel
theorem dX0_stageOnDemand_7 : decode cX0_stageOnDemand 7 = .ok (.aload_n 0, 1) := by decide +kernel
theorem dX0_stageOnDemand_8 : decode cX0_stageOnDemand 8 = .ok (.getfield 21, 3) := by decide +kernel
theorem dX0_stageOnDemand_11 : decode cX0_stageOnDemand 11 = .ok (.aload_n 0, 1) := by decide +kernel
theorem dX0_stageOnDemand_12 : decode cX0_stageOnDemand 12 = .ok (.getfield 15, 3) := by decide +kernel
theorem dX0_stageOnDemand_15 : decode cX0_stageOnDemand 15 = .ok (.invokevirtual 79, 3) := by decide +kernel
theorem dX0_stageOnDemand_18 : decode cX0_stageOnDemand 18 = .ok (.iconst (-1), 1) := by decide +kernel
theorem dX0_stageOnDemand_19 : decode cX0_stageOnDemand 19 = .ok (.ixor, 1) := by decide +kernel
theorem dX0_stageOnDemand_20 : decode cX0_stageOnDemand 20 = .ok (.iand, 1) := by decide +kernel
theorem dX0_stageOnDemand_21 : decode cX0_stageOnDemand 21 = .ok (.istore_n 1, 1) := by decide +kernel
theorem dX0_stageOnDemand_22 : decode cX0_stageOnDemand 22 = .ok (.aload_n 0, 1) := by decide +kernel
theorem dX0_stageOnDemand_23 : decode cX0_stageOnDemand 23 = .ok (.getfield 15, 3) := by decide +kernel
theorem dX0_stageOnDemand_26 : decode cX0_stageOnDemand 26 = .ok (.iconst 1, 1) := by decide +kernel
theorem dX0_stageOnDemand_27 : decode cX0_stageOnDemand 27 = .ok (.iadd, 1) := by decide +kernel
theorem dX0_stageOnDemand_28 : decode cX0_stageOnDemand 28 = .ok (.istore_n 2, 1) := by decide +kernel
theorem dX0_stageOnDemand_29 : decode cX0_stageOnDemand 29 = .ok (.iload_n 2, 1) := by decide +kernel
theorem dX0_stageOnDemand_30 : decode cX0_stageOnDemand 30 = .ok (.aload_n 0, 1) := by decide +kernel
theorem dX0_stageOnDemand_31 : decode cX0_stageOnDemand 31 = .ok (.getfield 21, 3) := by decide +kernel
theorem dX0_stageOnDemand_34 : decode cX0_stageOnDemand 34 = .ok (.getfield 94, 3) := by decide +kernel
theorem dX0_stageOnDemand_37 : decode cX0_stageOnDemand 37 = .ok (.if_icmp .ge 24, 3) := by decide +kernel
theorem dX0_stageOnDemand_40 : decode cX0_stageOnDemand 40 = .ok (.aload_n 0, 1) := by decide +kernel
theorem dX0_stageOnDemand_41 : decode cX0_stageOnDemand 41 = .ok (.getfield 21, 3) := by decide +kernel
theorem dX0_stageOnDemand_44 : decode cX0_stageOnDemand 44 = .ok (.iload_n 2, 1) := by decide +kernel
theorem dX0_stageOnDemand_45 : decode cX0_stageOnDemand 45 = .ok (.invokevirtual 79, 3) := by decide +kernel
theorem dX0_stageOnDemand_48 : decode cX0_stageOnDemand 48 = .ok (.iload_n 1, 1) := by decide +kernel
theorem dX0_stageOnDemand_49 : decode cX0_stageOnDemand 49 = .ok (.iand, 1) := by decide +kernel
theorem dX0_stageOnDemand_50 : decode cX0_stageOnDemand 50 = .ok (.ifCond .eq 5, 3) := by decide +kernel
theorem dX0_stageOnDemand_53 : decode cX0_stageOnDemand 53 = .ok (.iload_n 2, 1) := by decide +kernel
theorem dX0_stageOnDemand_54 : decode cX0_stageOnDemand 54 = .ok (.ireturn, 1) := by decide +kernel
theorem dX0_stageOnDemand_55 : decode cX0_stageOnDemand 55 = .ok (.iinc 2 1, 3) := by decide +kernel
theorem dX0_stageOnDemand_58 : decode cX0_stageOnDemand 58 = .ok (.goto (-29), 3) := by decide +kernel
theorem dX0_stageOnDemand_61 : decode cX0_stageOnDemand 61 = .ok (.iconst 0, 1) := by decide +kernel
theorem dX0_stageOnDemand_62 : decode cX0_stageOnDemand 62 = .ok (.istore_n 2, 1) := by decide +kernel
theorem dX0_stageOnDemand_63 : decode cX0_stageOnDemand 63 = .ok (.iload_n 2, 1) := by decide +kernel
theorem dX0_stageOnDemand_64 : decode cX0_stageOnDemand 64 = .ok (.aload_n 0, 1) := by decide +kernel
theorem dX0_stageOnDemand_65 : decode cX0_stageOnDemand 65 = .ok (.getfield 15, 3) := by decide +kernel
theorem dX0_stageOnDemand_68 : decode cX0_stageOnDemand 68 = .ok (.if_icmp .ge 24, 3) := by decide +kernel
theorem dX0_stageOnDemand_71 : decode cX0_stageOnDemand 71 = .ok (.aload_n 0, 1) := by decide +kernel
theorem dX0_stageOnDemand_72 : decode cX0_stageOnDemand 72 = .ok (.getfield 21, 3) := by decide +kernel
theorem dX0_stageOnDemand_75 : decode cX0_stageOnDemand 75 = .ok (.iload_n 2, 1) := by decide +kernel
theorem dX0_stageOnDemand_76 : decode cX0_stageOnDemand 76 = .ok (.invokevirtual 79, 3) := by decide +kernel
theorem dX0_stageOnDemand_79 : decode cX0_stageOnDemand 79 = .ok (.iload_n 1, 1) := by decide +kernel
theorem dX0_stageOnDemand_80 : decode cX0_stageOnDemand 80 = .ok (.iand, 1) := by decide +kernel
theorem dX0_stageOnDemand_81 : decode cX0_stageOnDemand 81 = .ok (.ifCond .eq 5, 3) := by decide +kernel
theorem dX0_stageOnDemand_84 : decode cX0_stageOnDemand 84 = .ok (.iload_n 2, 1) := by decide +kernel
theorem dX0_stageOnDemand_85 : decode cX0_stageOnDemand 85 = .ok (.ireturn, 1) := by decide +kernel
theorem dX0_stageOnDemand_86 : decode cX0_stageOnDemand 86 = .ok (.iinc 2 1, 3) := by decide +kernel
theorem dX0_stageOnDemand_89 : decode cX0_stageOnDemand 89 = .ok (.goto (-26), 3) := by decide +kernel
theorem dX0_stageOnDemand_92 : decode cX0_stageOnDemand 92 = .ok (.iconst (-1), 1) := by decide +kernel
theorem dX0_stageOnDemand_93 : decode cX0_stageOnDemand 93 = .ok (.ireturn, 1) := by decide +kernel
theorem dX0_mayEnd_0 : decode cX0_mayEnd 0 = .ok (.iconst 0, 1) := by decide +kernel
theorem dX0_mayEnd_1 : decode cX0_mayEnd 1 = .ok (.istore_n 3, 1) := by decide +kernel
theorem dX0_mayEnd_2 : decode cX0_mayEnd 2 = .ok (.iload_n 3, 1) := by decide +kernel
theorem dX0_mayEnd_3 : decode cX0_mayEnd 3 = .ok (.aload_n 0, 1) := by decide +kernel
theorem dX0_mayEnd_4 : decode cX0_mayEnd 4 = .ok (.getfield 21, 3) := by decide +kernel
theorem dX0_mayEnd_7 : decode cX0_mayEnd 7 = .ok (.getfield 33, 3) := by decide +kernel
theorem dX0_mayEnd_10 : decode cX0_mayEnd 10 = .ok (.if_icmp .ge 35, 3) := by decide +kernel
theorem dX0_mayEnd_13 : decode cX0_mayEnd 13 = .ok (.iload_n 1, 1) := by decide +kernel
theorem dX0_mayEnd_14 : decode cX0_mayEnd 14 = .ok (.iload_n 3, 1) := by decide +kernel
theorem dX0_mayEnd_15 : decode cX0_mayEnd 15 = .ok (.invokestatic 90, 3) := by decide +kernel
theorem dX0_mayEnd_18 : decode cX0_mayEnd 18 = .ok (.ifCond .eq 21, 3) := by decide +kernel
theorem dX0_mayEnd_21 : decode cX0_mayEnd 21 = .ok (.aload_n 0, 1) := by decide +kernel
theorem dX0_mayEnd_22 : decode cX0_mayEnd 22 = .ok (.getfield 21, 3) := by decide +kernel
theorem dX0_mayEnd_25 : decode cX0_mayEnd 25 = .ok (.getfield 38, 3) := by decide +kernel
theorem dX0_mayEnd_28 : decode cX0_mayEnd 28 = .ok (.iload_n 3, 1) := by decide +kernel
theorem dX0_mayEnd_29 : decode cX0_mayEnd 29 = .ok (.aaload, 1) := by decide +kernel
theorem dX0_mayEnd_30 : decode cX0_mayEnd 30 = .ok (.iload_n 2, 1) := by decide +kernel
theorem dX0_mayEnd_31 : decode cX0_mayEnd 31 = .ok (.invokevirtual 100, 3) := by decide +kernel
theorem dX0_mayEnd_34 : decode cX0_mayEnd 34 = .ok (.ifCond .ne 5, 3) := by decide +kernel
theorem dX0_mayEnd_37 : decode cX0_mayEnd 37 = .ok (.iconst 0, 1) := by decide +kernel
theorem dX0_mayEnd_38 : decode cX0_mayEnd 38 = .ok (.ireturn, 1) := by decide +kernel
theorem dX0_mayEnd_39 : decode cX0_mayEnd 39 = .ok (.iinc 3 1, 3) := by decide +kernel
theorem dX0_mayEnd_42 : decode cX0_mayEnd 42 = .ok (.goto (-40), 3) := by decide +kernel
theorem dX0_mayEnd_45 : decode cX0_mayEnd 45 = .ok (.iconst 1, 1) := by decide +kernel
theorem dX0_mayEnd_46 : decode cX0_mayEnd 46 = .ok (.ireturn, 1) := by decide +kernel
theorem dX0_endGreens_0 : decode cX0_endGreens 0 = .ok (.iconst 0, 1) := by decide +kernel
theorem dX0_endGreens_1 : decode cX0_endGreens 1 = .ok (.istore_n 2, 1) := by decide +kernel
theorem dX0_endGreens_2 : decode cX0_endGreens 2 = .ok (.iload_n 2, 1) := by decide +kernel
theorem dX0_endGreens_3 : decode cX0_endGreens 3 = .ok (.aload_n 0, 1) := by decide +kernel
theorem dX0_endGreens_4 : decode cX0_endGreens 4 = .ok (.getfield 21, 3) := by decide +kernel
theorem dX0_endGreens_7 : decode cX0_endGreens 7 = .ok (.getfield 33, 3) := by decide +kernel
theorem dX0_endGreens_10 : decode cX0_endGreens 10 = .ok (.if_icmp .ge 33, 3) := by decide +kernel
theorem dX0_endGreens_13 : decode cX0_endGreens 13 = .ok (.iload_n 1, 1) := by decide +kernel
theorem dX0_endGreens_14 : decode cX0_endGreens 14 = .ok (.iload_n 2, 1) := by decide +kernel
theorem dX0_endGreens_15 : decode cX0_endGreens 15 = .ok (.invokestatic 90, 3) := by decide +kernel
theorem dX0_endGreens_18 : decode cX0_endGreens 18 = .ok (.ifCond .eq 19, 3) := by decide +kernel
theorem dX0_endGreens_21 : decode cX0_endGreens 21 = .ok (.aload_n 0, 1) := by decide +kernel
theorem dX0_endGreens_22 : decode cX0_endGreens 22 = .ok (.getfield 21, 3) := by decide +kernel
theorem dX0_endGreens_25 : decode cX0_endGreens 25 = .ok (.getfield 38, 3) := by decide +kernel
theorem dX0_endGreens_28 : decode cX0_endGreens 28 = .ok (.iload_n 2, 1) := by decide +kernel
theorem dX0_endGreens_29 : decode cX0_endGreens 29 = .ok (.aaload, 1) := by decide +kernel
theorem dX0_endGreens_30 : decode cX0_endGreens 30 = .ok (.aload_n 0, 1) := by decide +kernel
theorem dX0_endGreens_31 : decode cX0_endGreens 31 = .ok (.getfield 42, 3) := by decide +kernel
theorem dX0_endGreens_34 : decode cX0_endGreens 34 = .ok (.invokevirtual 103, 3) := by decide +kernel
theorem dX0_endGreens_37 : decode cX0_endGreens 37 = .ok (.iinc 2 1, 3) := by decide +kernel
theorem dX0_endGreens_40 : decode cX0_endGreens 40 = .ok (.goto (-38), 3) := by decide +kernel
theorem dX0_endGreens_43 : decode cX0_endGreens 43 = .ok (.return_, 1) := by decide +kernel
theorem dX0_enterStage_0 : decode cX0_enterStage 0 = .ok (.aload_n 0, 1) := by decide +kernel
theorem dX0_enterStage_1 : decode cX0_enterStage 1 = .ok (.getfield 9, 3) := by decide +kernel
theorem dX0_enterStage_4 : decode cX0_enterStage 4 = .ok (.iconst 1, 1) := by decide +kernel
theorem dX0_enterStage_5 : decode cX0_enterStage 5 = .ok (.if_icmp .eq 4, 3) := by decide +kernel
theorem dX0_enterStage_8 : decode cX0_enterStage 8 = .ok (.return_, 1) := by decide +kernel
theorem dX0_enterStage_9 : decode cX0_enterStage 9 = .ok (.aload_n 0, 1) := by decide +kernel
theorem dX0_enterStage_10 : decode cX0_enterStage 10 = .ok (.getfield 21, 3) := by decide +kernel
theorem dX0_enterStage_13 : decode cX0_enterStage 13 = .ok (.aload_n 0, 1) := by decide +kernel
theorem dX0_enterStage_14 : decode cX0_enterStage 14 = .ok (.getfield 15, 3) := by decide +kernel
theorem dX0_enterStage_17 : decode cX0_enterStage 17 = .ok (.invokevirtual 79, 3) := by decide +kernel
theorem dX0_enterStage_20 : decode cX0_enterStage 20 = .ok (.istore_n 1, 1) := by decide +kernel
theorem dX0_enterStage_21 : decode cX0_enterStage 21 = .ok (.iconst 1, 1) := by decide +kernel
theorem dX0_enterStage_22 : decode cX0_enterStage 22 = .ok (.istore_n 2, 1) := by decide +kernel
theorem dX0_enterStage_23 : decode cX0_enterStage 23 = .ok (.iconst 0, 1) := by decide +kernel
theorem dX0_enterStage_24 : decode cX0_enterStage 24 = .ok (.istore_n 3, 1) := by decide +kernel
theorem dX0_enterStage_25 : decode cX0_enterStage 25 = .ok (.iload_n 3, 1) := by decide +kernel
theorem dX0_enterStage_26 : decode cX0_enterStage 26 = .ok (.aload_n 0, 1) := by decide +kernel
theorem dX0_enterStage_27 : decode cX0_enterStage 27 = .ok (.getfield 21, 3) := by decide +kernel
theorem dX0_enterStage_30 : decode cX0_enterStage 30 = .ok (.getfield 33, 3) := by decide +kernel
theorem dX0_enterStage_33 : decode cX0_enterStage 33 = .ok (.if_icmp .ge 58, 3) := by decide +kernel
theorem dX0_enterStage_36 : decode cX0_enterStage 36 = .ok (.aload_n 0, 1) := by decide +kernel
theorem dX0_enterStage_37 : decode cX0_enterStage 37 = .ok (.getfield 21, 3) := by decide +kernel
theorem dX0_enterStage_40 : decode cX0_enterStage 40 = .ok (.getfield 38, 3) := by decide +kernel
theorem dX0_enterStage_43 : decode cX0_enterStage 43 = .ok (.iload_n 3, 1) := by decide +kernel
theorem dX0_enterStage_44 : decode cX0_enterStage 44 = .ok (.aaload, 1) := by decide +kernel
theorem dX0_enterStage_45 : decode cX0_enterStage 45 = .ok (.astore 4, 2) := by decide +kernel
theorem dX0_enterStage_47 : decode cX0_enterStage 47 = .ok (.iload_n 1, 1) := by decide +kernel
theorem dX0_enterStage_48 : decode cX0_enterStage 48 = .ok (.iload_n 3, 1) := by decide +kernel
theorem dX0_enterStage_49 : decode cX0_enterStage 49 = .ok (.invokestatic 90, 3) := by decide +kernel
theorem dX0_enterStage_52 : decode cX0_enterStage 52 = .ok (.ifCond .eq 33, 3) := by decide +kernel
theorem dX0_enterStage_55 : decode cX0_enterStage 55 = .ok (.aload 4, 2) := by decide +kernel
theorem dX0_enterStage_57 : decode cX0_enterStage 57 = .ok (.getfield 106, 3) := by decide +kernel
theorem dX0_enterStage_60 : decode cX0_enterStage 60 = .ok (.iconst 1, 1) := by decide +kernel
theorem dX0_enterStage_61 : decode cX0_enterStage 61 = .ok (.if_icmp .ne 6, 3) := by decide +kernel
theorem dX0_enterStage_64 : decode cX0_enterStage 64 = .ok (.goto 21, 3) := by decide +kernel
theorem dX0_enterStage_67 : decode cX0_enterStage 67 = .ok (.aload_n 0, 1) := by decide +kernel
theorem dX0_enterStage_68 : decode cX0_enterStage 68 = .ok (.iload_n 3, 1) := by decide +kernel
theorem dX0_enterStage_69 : decode cX0_enterStage 69 = .ok (.invokevirtual 109, 3) := by decide +kernel
theorem dX0_enterStage_72 : decode cX0_enterStage 72 = .ok (.ifCond .eq 11, 3) := by decide +kernel
theorem dX0_enterStage_75 : decode cX0_enterStage 75 = .ok (.aload 4, 2) := by decide +kernel
theorem dX0_enterStage_77 : decode cX0_enterStage 77 = .ok (.invokevirtual 113, 3) := by decide +kernel
theorem dX0_enterStage_80 : decode cX0_enterStage 80 = .ok (.goto 5, 3) := by decide +kernel
theorem dX0_enterStage_83 : decode cX0_enterStage 83 = .ok (.iconst 0, 1) := by decide +kernel
theorem dX0_enterStage_84 : decode cX0_enterStage 84 = .ok (.istore_n 2, 1) := by decide +kernel
theorem dX0_enterStage_85 : decode cX0_enterStage 85 = .ok (.iinc 3 1, 3) := by decide +kernel
theorem dX0_enterStage_88 : decode cX0_enterStage 88 = .ok (.goto (-63), 3) := by decide +kernel
theorem dX0_enterStage_91 : decode cX0_enterStage 91 = .ok (.iload_n 2, 1) := by decide +kernel
theorem dX0_enterStage_92 : decode cX0_enterStage 92 = .ok (.ifCond .eq 8, 3) := by decide +kernel
theorem dX0_enterStage_95 : decode cX0_enterStage 95 = .ok (.aload_n 0, 1) := by decide +kernel
theorem dX0_enterStage_96 : decode cX0_enterStage 96 = .ok (.iconst 2, 1) := by decide +kernel
theorem dX0_enterStage_97 : decode cX0_enterStage 97 = .ok (.putfield 9, 3) := by decide +kernel
theorem dX0_enterStage_100 : decode cX0_enterStage 100 = .ok (.return_, 1) := by decide +kernel
theorem dX0_mayBegin_0 : decode cX0_mayBegin 0 = .ok (.iconst 0, 1) := by decide +kernel
theorem dX0_mayBegin_1 : decode cX0_mayBegin 1 = .ok (.istore_n 2, 1) := by decide +kernel
theorem dX0_mayBegin_2 : decode cX0_mayBegin 2 = .ok (.iload_n 2, 1) := by decide +kernel
theorem dX0_mayBegin_3 : decode cX0_mayBegin 3 = .ok (.aload_n 0, 1) := by decide +kernel
theorem dX0_mayBegin_4 : decode cX0_mayBegin 4 = .ok (.getfield 21, 3) := by decide +kernel
theorem dX0_mayBegin_7 : decode cX0_mayBegin 7 = .ok (.getfield 33, 3) := by decide +kernel
theorem dX0_mayBegin_10 : decode cX0_mayBegin 10 = .ok (.if_icmp .ge 47, 3) := by decide +kernel
theorem dX0_mayBegin_13 : decode cX0_mayBegin 13 = .ok (.aload_n 0, 1) := by decide +kernel
theorem dX0_mayBegin_14 : decode cX0_mayBegin 14 = .ok (.getfield 21, 3) := by decide +kernel
theorem dX0_mayBegin_17 : decode cX0_mayBegin 17 = .ok (.getfield 116, 3) := by decide +kernel
theorem dX0_mayBegin_20 : decode cX0_mayBegin 20 = .ok (.iload_n 2, 1) := by decide +kernel
theorem dX0_mayBegin_21 : decode cX0_mayBegin 21 = .ok (.aaload, 1) := by decide +kernel
theorem dX0_mayBegin_22 : decode cX0_mayBegin 22 = .ok (.iload_n 1, 1) := by decide +kernel
theorem dX0_mayBegin_23 : decode cX0_mayBegin 23 = .ok (.iaload, 1) := by decide +kernel
theorem dX0_mayBegin_24 : decode cX0_mayBegin 24 = .ok (.istore_n 3, 1) := by decide +kernel
theorem dX0_mayBegin_25 : decode cX0_mayBegin 25 = .ok (.iload_n 3, 1) := by decide +kernel
theorem dX0_mayBegin_26 : decode cX0_mayBegin 26 = .ok (.ifCond .le 25, 3) := by decide +kernel
theorem dX0_mayBegin_29 : decode cX0_mayBegin 29 = .ok (.aload_n 0, 1) := by decide +kernel
theorem dX0_mayBegin_30 : decode cX0_mayBegin 30 = .ok (.getfield 21, 3) := by decide +kernel
theorem dX0_mayBegin_33 : decode cX0_mayBegin 33 = .ok (.getfield 38, 3) := by decide +kernel
theorem dX0_mayBegin_36 : decode cX0_mayBegin 36 = .ok (.iload_n 2, 1) := by decide +kernel
theorem dX0_mayBegin_37 : decode cX0_mayBegin 37 = .ok (.aaload, 1) := by decide +kernel
theorem dX0_mayBegin_38 : decode cX0_mayBegin 38 = .ok (.aload_n 0, 1) := by decide +kernel
theorem dX0_mayBegin_39 : decode cX0_mayBegin 39 = .ok (.getfield 42, 3) := by decide +kernel
theorem dX0_mayBegin_42 : decode cX0_mayBegin 42 = .ok (.iload_n 3, 1) := by decide +kernel
theorem dX0_mayBegin_43 : decode cX0_mayBegin 43 = .ok (.invokevirtual 120, 3) := by decide +kernel
theorem dX0_mayBegin_46 : decode cX0_mayBegin 46 = .ok (.ifCond .ne 5, 3) := by decide +kernel
theorem dX0_mayBegin_49 : decode cX0_mayBegin 49 = .ok (.iconst 0, 1) := by decide +kernel
theorem dX0_mayBegin_50 : decode cX0_mayBegin 50 = .ok (.ireturn, 1) := by decide +kernel
theorem dX0_mayBegin_51 : decode cX0_mayBegin 51 = .ok (.iinc 2 1, 3) := by decide +kernel
theorem dX0_mayBegin_54 : decode cX0_mayBegin 54 = .ok (.goto (-52), 3) := by decide +kernel
theorem dX0_mayBegin_57 : decode cX0_mayBegin 57 = .ok (.iconst 1, 1) := by decide +kernel
theorem dX0_mayBegin_58 : decode cX0_mayBegin 58 = .ok (.ireturn, 1) := by decide +kernel
theorem dX0_fadeAmbers_0 : decode cX0_fadeAmbers 0 = .ok (.iconst 0, 1) := by decide +kernel
theorem dX0_fadeAmbers_1 : decode cX0_fadeAmbers 1 = .ok (.istore_n 1, 1) := by decide +kernel
theorem dX0_fadeAmbers_2 : decode cX0_fadeAmbers 2 = .ok (.iload_n 1, 1) := by decide +kernel
theorem dX0_fadeAmbers_3 : decode cX0_fadeAmbers 3 = .ok (.aload_n 0, 1) := by decide +kernel
theorem dX0_fadeAmbers_4 : decode cX0_fadeAmbers 4 = .ok (.getfield 21, 3) := by decide +kernel
theorem dX0_fadeAmbers_7 : decode cX0_fadeAmbers 7 = .ok (.getfield 33, 3) := by decide +kernel
theorem dX0_fadeAmbers_10 : decode cX0_fadeAmbers 10 = .ok (.if_icmp .ge 25, 3) := by decide +kernel
theorem dX0_fadeAmbers_13 : decode cX0_fadeAmbers 13 = .ok (.aload_n 0, 1) := by decide +kernel
theorem dX0_fadeAmbers_14 : decode cX0_fadeAmbers 14 = .ok (.getfield 21, 3) := by decide +kernel
theorem dX0_fadeAmbers_17 : decode cX0_fadeAmbers 17 = .ok (.getfield 38, 3) := by decide +kernel
theorem dX0_fadeAmbers_20 : decode cX0_fadeAmbers 20 = .ok (.iload_n 1, 1) := by decide +kernel
theorem dX0_fadeAmbers_21 : decode cX0_fadeAmbers 21 = .ok (.aaload, 1) := by decide +kernel
theorem dX0_fadeAmbers_22 : decode cX0_fadeAmbers 22 = .ok (.aload_n 0, 1) := by decide +kernel
theorem dX0_fadeAmbers_23 : decode cX0_fadeAmbers 23 = .ok (.getfield 42, 3) := by decide +kernel
theorem dX0_fadeAmbers_26 : decode cX0_fadeAmbers 26 = .ok (.invokevirtual 123, 3) := by decide +kernel
theorem dX0_fadeAmbers_29 : decode cX0_fadeAmbers 29 = .ok (.iinc 1 1, 3) := by decide +kernel
theorem dX0_fadeAmbers_32 : decode cX0_fadeAmbers 32 = .ok (.goto (-30), 3) := by decide +kernel
theorem dX0_fadeAmbers_35 : decode cX0_fadeAmbers 35 = .ok (.return_, 1) := by decide +kernel
theorem dX0_watch_0 : decode cX0_watch 0 = .ok (.aload_n 0, 1) := by decide +kernel
theorem dX0_watch_1 : decode cX0_watch 1 = .ok (.invokevirtual 126, 3) := by decide +kernel
theorem dX0_watch_4 : decode cX0_watch 4 = .ok (.ifCond .ne 4, 3) := by decide +kernel
theorem dX0_watch_7 : decode cX0_watch 7 = .ok (.return_, 1) := by decide +kernel
theorem dX0_watch_8 : decode cX0_watch 8 = .ok (.iconst 0, 1) := by decide +kernel
theorem dX0_watch_9 : decode cX0_watch 9 = .ok (.istore_n 1, 1) := by decide +kernel
theorem dX0_watch_10 : decode cX0_watch 10 = .ok (.iload_n 1, 1) := by decide +kernel
theorem dX0_watch_11 : decode cX0_watch 11 = .ok (.aload_n 0, 1) := by decide +kernel
theorem dX0_watch_12 : decode cX0_watch 12 = .ok (.getfield 21, 3) := by decide +kernel
theorem dX0_watch_15 : decode cX0_watch 15 = .ok (.getfield 33, 3) := by decide +kernel
theorem dX0_watch_18 : decode cX0_watch 18 = .ok (.if_icmp .ge 48, 3) := by decide +kernel
theorem dX0_watch_21 : decode cX0_watch 21 = .ok (.aload_n 0, 1) := by decide +kernel
theorem dX0_watch_22 : decode cX0_watch 22 = .ok (.getfield 21, 3) := by decide +kernel
theorem dX0_watch_25 : decode cX0_watch 25 = .ok (.getfield 38, 3) := by decide +kernel
theorem dX0_watch_28 : decode cX0_watch 28 = .ok (.iload_n 1, 1) := by decide +kernel
theorem dX0_watch_29 : decode cX0_watch 29 = .ok (.aaload, 1) := by decide +kernel
theorem dX0_watch_30 : decode cX0_watch 30 = .ok (.astore_n 2, 1) := by decide +kernel
theorem dX0_watch_31 : decode cX0_watch 31 = .ok (.aload_n 2, 1) := by decide +kernel
theorem dX0_watch_32 : decode cX0_watch 32 = .ok (.getfield 106, 3) := by decide +kernel
theorem dX0_watch_35 : decode cX0_watch 35 = .ok (.ifCond .ne 25, 3) := by decide +kernel
theorem dX0_watch_38 : decode cX0_watch 38 = .ok (.aload_n 2, 1) := by decide +kernel
theorem dX0_watch_39 : decode cX0_watch 39 = .ok (.iconst 0, 1) := by decide +kernel
theorem dX0_watch_40 : decode cX0_watch 40 = .ok (.invokevirtual 130, 3) := by decide +kernel
theorem dX0_watch_43 : decode cX0_watch 43 = .ok (.ifCond .eq 17, 3) := by decide +kernel
theorem dX0_watch_46 : decode cX0_watch 46 = .ok (.aload_n 0, 1) := by decide +kernel
theorem dX0_watch_47 : decode cX0_watch 47 = .ok (.iload_n 1, 1) := by decide +kernel
theorem dX0_watch_48 : decode cX0_watch 48 = .ok (.invokevirtual 133, 3) := by decide +kernel
theorem dX0_watch_51 : decode cX0_watch 51 = .ok (.ifCond .eq 9, 3) := by decide +kernel
theorem dX0_watch_54 : decode cX0_watch 54 = .ok (.aload_n 0, 1) := by decide +kernel
theorem dX0_watch_55 : decode cX0_watch 55 = .ok (.iconst 3, 1) := by decide +kernel
theorem dX0_watch_56 : decode cX0_watch 56 = .ok (.invokevirtual 136, 3) := by decide +kernel
theorem dX0_watch_59 : decode cX0_watch 59 = .ok (.return_, 1) := by decide +kernel
theorem dX0_watch_60 : decode cX0_watch 60 = .ok (.iinc 1 1, 3) := by decide +kernel
theorem dX0_watch_63 : decode cX0_watch 63 = .ok (.goto (-53), 3) := by decide +kernel
theorem dX0_watch_66 : decode cX0_watch 66 = .ok (.return_, 1) := by decide +kernel
theorem dX0_isAgainstLit_0 : decode cX0_isAgainstLit 0 = .ok (.iconst 0, 1) := by decide +kernel
theorem dX0_isAgainstLit_1 : decode cX0_isAgainstLit 1 = .ok (.istore_n 2, 1) := by decide +kernel
theorem dX0_isAgainstLit_2 : decode cX0_isAgainstLit 2 = .ok (.iload_n 2, 1) := by decide +kernel
theorem dX0_isAgainstLit_3 : decode cX0_isAgainstLit 3 = .ok (.aload_n 0, 1) := by decide +kernel
theorem dX0_isAgainstLit_4 : decode cX0_isAgainstLit 4 = .ok (.getfield 21, 3) := by decide +kernel
theorem dX0_isAgainstLit_7 : decode cX0_isAgainstLit 7 = .ok (.getfield 33, 3) := by decide +kernel
theorem dX0_isAgainstLit_10 : decode cX0_isAgainstLit 10 = .ok (.if_icmp .ge 38, 3) := by decide +kernel
theorem dX0_isAgainstLit_13 : decode cX0_isAgainstLit 13 = .ok (.aload_n 0, 1) := by decide +kernel
theorem dX0_isAgainstLit_14 : decode cX0_isAgainstLit 14 = .ok (.getfield 21, 3) := by decide +kernel
theorem dX0_isAgainstLit_17 : decode cX0_isAgainstLit 17 = .ok (.iload_n 1, 1) := by decide +kernel
theorem dX0_isAgainstLit_18 : decode cX0_isAgainstLit 18 = .ok (.iload_n 2, 1) := by decide +kernel
theorem dX0_isAgainstLit_19 : decode cX0_isAgainstLit 19 = .ok (.invokevirtual 139, 3) := by decide +kernel
theorem dX0_isAgainstLit_22 : decode cX0_isAgainstLit 22 = .ok (.ifCond .eq 20, 3) := by decide +kernel
theorem dX0_isAgainstLit_25 : decode cX0_isAgainstLit 25 = .ok (.aload_n 0, 1) := by decide +kernel
theorem dX0_isAgainstLit_26 : decode cX0_isAgainstLit 26 = .ok (.getfield 21, 3) := by decide +kernel
theorem dX0_isAgainstLit_29 : decode cX0_isAgainstLit 29 = .ok (.getfield 38, 3) := by decide +kernel
theorem dX0_isAgainstLit_32 : decode cX0_isAgainstLit 32 = .ok (.iload_n 2, 1) := by decide +kernel
theorem dX0_isAgainstLit_33 : decode cX0_isAgainstLit 33 = .ok (.aaload, 1) := by decide +kernel
theorem dX0_isAgainstLit_34 : decode cX0_isAgainstLit 34 = .ok (.getfield 106, 3) := by decide +kernel
theorem dX0_isAgainstLit_37 : decode cX0_isAgainstLit 37 = .ok (.ifCond .eq 5, 3) := by decide +kernel
theorem dX0_isAgainstLit_40 : decode cX0_isAgainstLit 40 = .ok (.iconst 1, 1) := by decide +kernel
theorem dX0_isAgainstLit_41 : decode cX0_isAgainstLit 41 = .ok (.ireturn, 1) := by decide +kernel
theorem dX0_isAgainstLit_42 : decode cX0_isAgainstLit 42 = .ok (.iinc 2 1, 3) := by decide +kernel
theorem dX0_isAgainstLit_45 : decode cX0_isAgainstLit 45 = .ok (.goto (-43), 3) := by decide +kernel
theorem dX0_isAgainstLit_48 : decode cX0_isAgainstLit 48 = .ok (.iconst 0, 1) := by decide +kernel
theorem dX0_isAgainstLit_49 : decode cX0_isAgainstLit 49 = .ok (.ireturn, 1) := by decide +kernel
theorem dX0_writeLog_0 : decode cX0_writeLog 0 = .ok (.aload_n 0, 1) := by decide +kernel
theorem dX0_writeLog_1 : decode cX0_writeLog 1 = .ok (.getfield 25, 3) := by decide +kernel
theorem dX0_writeLog_4 : decode cX0_writeLog 4 = .ok (.aload_n 0, 1) := by decide +kernel
theorem dX0_writeLog_5 : decode cX0_writeLog 5 = .ok (.getfield 42, 3) := by decide +kernel
theorem dX0_writeLog_8 : decode cX0_writeLog 8 = .ok (.invokevirtual 142, 3) := by decide +kernel
theorem dX0_writeLog_11 : decode cX0_writeLog 11 = .ok (.aload_n 0, 1) := by decide +kernel
theorem dX0_writeLog_12 : decode cX0_writeLog 12 = .ok (.invokevirtual 126, 3) := by decide +kernel
theorem dX0_writeLog_15 : decode cX0_writeLog 15 = .ok (.ifCond .ne 4, 3) := by decide +kernel
theorem dX0_writeLog_18 : decode cX0_writeLog 18 = .ok (.return_, 1) := by decide +kernel
theorem dX0_writeLog_19 : decode cX0_writeLog 19 = .ok (.iconst 0, 1) := by decide +kernel
theorem dX0_writeLog_20 : decode cX0_writeLog 20 = .ok (.istore_n 1, 1) := by decide +kernel
theorem dX0_writeLog_21 : decode cX0_writeLog 21 = .ok (.iload_n 1, 1) := by decide +kernel
theorem dX0_writeLog_22 : decode cX0_writeLog 22 = .ok (.aload_n 0, 1) := by decide +kernel
theorem dX0_writeLog_23 : decode cX0_writeLog 23 = .ok (.getfield 21, 3) := by decide +kernel
theorem dX0_writeLog_26 : decode cX0_writeLog 26 = .ok (.getfield 33, 3) := by decide +kernel
theorem dX0_writeLog_29 : decode cX0_writeLog 29 = .ok (.if_icmp .ge 33, 3) := by decide +kernel
theorem dX0_writeLog_32 : decode cX0_writeLog 32 = .ok (.aload_n 0, 1) := by decide +kernel
theorem dX0_writeLog_33 : decode cX0_writeLog 33 = .ok (.getfield 25, 3) := by decide +kernel
theorem dX0_writeLog_36 : decode cX0_writeLog 36 = .ok (.iload_n 1, 1) := by decide +kernel
theorem dX0_writeLog_37 : decode cX0_writeLog 37 = .ok (.aload_n 0, 1) := by decide +kernel
theorem dX0_writeLog_38 : decode cX0_writeLog 38 = .ok (.getfield 42, 3) := by decide +kernel
theorem dX0_writeLog_41 : decode cX0_writeLog 41 = .ok (.aload_n 0, 1) := by decide +kernel
theorem dX0_writeLog_42 : decode cX0_writeLog 42 = .ok (.getfield 21, 3) := by decide +kernel
theorem dX0_writeLog_45 : decode cX0_writeLog 45 = .ok (.getfield 38, 3) := by decide +kernel
theorem dX0_writeLog_48 : decode cX0_writeLog 48 = .ok (.iload_n 1, 1) := by decide +kernel
theorem dX0_writeLog_49 : decode cX0_writeLog 49 = .ok (.aaload, 1) := by decide +kernel
theorem dX0_writeLog_50 : decode cX0_writeLog 50 = .ok (.invokevirtual 147, 3) := by decide +kernel
theorem dX0_writeLog_53 : decode cX0_writeLog 53 = .ok (.invokevirtual 150, 3) := by decide +kernel
theorem dX0_writeLog_56 : decode cX0_writeLog 56 = .ok (.iinc 1 1, 3) := by decide +kernel
theorem dX0_writeLog_59 : decode cX0_writeLog 59 = .ok (.goto (-38), 3) := by decide +kernel
theorem dX0_writeLog_62 : decode cX0_writeLog 62 = .ok (.return_, 1) := by decide +kernel
theorem dX0_movePhases_0 : decode cX0_movePhases 0 = .ok (.iconst 0, 1) := by decide +kernel
theorem dX0_movePhases_1 : decode cX0_movePhases 1 = .ok (.istore_n 1, 1) := by decide +kernel
theorem dX0_movePhases_2 : decode cX0_movePhases 2 = .ok (.iload_n 1, 1) := by decide +kernel
theorem dX0_movePhases_3 : decode cX0_movePhases 3 = .ok (.aload_n 0, 1) := by decide +kernel
theorem dX0_movePhases_4 : decode cX0_movePhases 4 = .ok (.getfield 21, 3) := by decide +kernel
theorem dX0_movePhases_7 : decode cX0_movePhases 7 = .ok (.getfield 33, 3) := by decide +kernel
theorem dX0_movePhases_10 : decode cX0_movePhases 10 = .ok (.if_icmp .ge 30, 3) := by decide +kernel
theorem dX0_movePhases_13 : decode cX0_movePhases 13 = .ok (.aload_n 0, 1) := by decide +kernel
theorem dX0_movePhases_14 : decode cX0_movePhases 14 = .ok (.dup, 1) := by decide +kernel
theorem dX0_movePhases_15 : decode cX0_movePhases 15 = .ok (.getfield 154, 3) := by decide +kernel
theorem dX0_movePhases_18 : decode cX0_movePhases 18 = .ok (.aload_n 0, 1) := by decide +kernel
theorem dX0_movePhases_19 : decode cX0_movePhases 19 = .ok (.getfield 21, 3) := by decide +kernel
theorem dX0_movePhases_22 : decode cX0_movePhases 22 = .ok (.getfield 38, 3) := by decide +kernel
theorem dX0_movePhases_25 : decode cX0_movePhases 25 = .ok (.iload_n 1, 1) := by decide +kernel
theorem dX0_movePhases_26 : decode cX0_movePhases 26 = .ok (.aaload, 1) := by decide +kernel
theorem dX0_movePhases_27 : decode cX0_movePhases 27 = .ok (.invokevirtual 157, 3) := by decide +kernel
theorem dX0_movePhases_30 : decode cX0_movePhases 30 = .ok (.iadd, 1) := by decide +kernel
theorem dX0_movePhases_31 : decode cX0_movePhases 31 = .ok (.putfield 154, 3) := by decide +kernel
theorem dX0_movePhases_34 : decode cX0_movePhases 34 = .ok (.iinc 1 1, 3) := by decide +kernel
theorem dX0_movePhases_37 : decode cX0_movePhases 37 = .ok (.goto (-35), 3) := by decide +kernel
theorem dX0_movePhases_40 : decode cX0_movePhases 40 = .ok (.return_, 1) := by decide +kernel
theorem dX0_addQueues_0 : decode cX0_addQueues 0 = .ok (.iconst 0, 1) := by decide +kernel
theorem dX0_addQueues_1 : decode cX0_addQueues 1 = .ok (.istore_n 1, 1) := by decide +kernel
theorem dX0_addQueues_2 : decode cX0_addQueues 2 = .ok (.iload_n 1, 1) := by decide +kernel
theorem dX0_addQueues_3 : decode cX0_addQueues 3 = .ok (.aload_n 0, 1) := by decide +kernel
theorem dX0_addQueues_4 : decode cX0_addQueues 4 = .ok (.getfield 21, 3) := by decide +kernel
theorem dX0_addQueues_7 : decode cX0_addQueues 7 = .ok (.getfield 33, 3) := by decide +kernel
theorem dX0_addQueues_10 : decode cX0_addQueues 10 = .ok (.if_icmp .ge 31, 3) := by decide +kernel
theorem dX0_addQueues_13 : decode cX0_addQueues 13 = .ok (.aload_n 0, 1) := by decide +kernel
theorem dX0_addQueues_14 : decode cX0_addQueues 14 = .ok (.dup, 1) := by decide +kernel
theorem dX0_addQueues_15 : decode cX0_addQueues 15 = .ok (.getfield 160, 3) := by decide +kernel
theorem dX0_addQueues_18 : decode cX0_addQueues 18 = .ok (.aload_n 0, 1) := by decide +kernel
theorem dX0_addQueues_19 : decode cX0_addQueues 19 = .ok (.getfield 21, 3) := by decide +kernel
theorem dX0_addQueues_22 : decode cX0_addQueues 22 = .ok (.getfield 38, 3) := by decide +kernel
theorem dX0_addQueues_25 : decode cX0_addQueues 25 = .ok (.iload_n 1, 1) := by decide +kernel
theorem dX0_addQueues_26 : decode cX0_addQueues 26 = .ok (.aaload, 1) := by decide +kernel
theorem dX0_addQueues_27 : decode cX0_addQueues 27 = .ok (.getfield 164, 3) := by decide +kernel
theorem dX0_addQueues_30 : decode cX0_addQueues 30 = .ok (.i2l, 1) := by decide +kernel
theorem dX0_addQueues_31 : decode cX0_addQueues 31 = .ok (.ladd, 1) := by decide +kernel
theorem dX0_addQueues_32 : decode cX0_addQueues 32 = .ok (.putfield 160, 3) := by decide +kernel
theorem dX0_addQueues_35 : decode cX0_addQueues 35 = .ok (.iinc 1 1, 3) := by decide +kernel
theorem dX0_addQueues_38 : decode cX0_addQueues 38 = .ok (.goto (-36), 3) := by decide +kernel
theorem dX0_addQueues_41 : decode cX0_addQueues 41 = .ok (.return_, 1) := by decide +kernel
theorem dX0_tell_0 : decode cX0_tell 0 = .ok (.iload_n 1, 1) := by decide +kernel
theorem dX0_tell_1 : decode cX0_tell 1 = .ok (.tableswitch 51 0 3 #[31, 36, 41, 46], 31) := by decide +kernel
theorem dX0_tell_32 : decode cX0_tell 32 = .ok (.aload_n 0, 1) := by decide +kernel
theorem dX0_tell_33 : decode cX0_tell 33 = .ok (.getfield 9, 3) := by decide +kernel
theorem dX0_tell_36 : decode cX0_tell 36 = .ok (.ireturn, 1) := by decide +kernel
theorem dX0_tell_37 : decode cX0_tell 37 = .ok (.aload_n 0, 1) := by decide +kernel
theorem dX0_tell_38 : decode cX0_tell 38 = .ok (.getfield 15, 3) := by decide +kernel
theorem dX0_tell_41 : decode cX0_tell 41 = .ok (.ireturn, 1) := by decide +kernel
theorem dX0_tell_42 : decode cX0_tell 42 = .ok (.aload_n 0, 1) := by decide +kernel
theorem dX0_tell_43 : decode cX0_tell 43 = .ok (.getfield 42, 3) := by decide +kernel
theorem dX0_tell_46 : decode cX0_tell 46 = .ok (.ireturn, 1) := by decide +kernel
theorem dX0_tell_47 : decode cX0_tell 47 = .ok (.aload_n 0, 1) := by decide +kernel
theorem dX0_tell_48 : decode cX0_tell 48 = .ok (.getfield 18, 3) := by decide +kernel
theorem dX0_tell_51 : decode cX0_tell 51 = .ok (.ireturn, 1) := by decide +kernel
theorem dX0_tell_52 : decode cX0_tell 52 = .ok (.aload_n 0, 1) := by decide +kernel
theorem dX0_tell_53 : decode cX0_tell 53 = .ok (.getfield 154, 3) := by decide +kernel
theorem dX0_tell_56 : decode cX0_tell 56 = .ok (.ireturn, 1) := by decide +kernel
theorem dX1_init_0 : decode cX1_init 0 = .ok (.aload_n 0, 1) := by decide +kernel
theorem dX1_init_1 : decode cX1_init 1 = .ok (.invokespecial 5, 3) := by decide +kernel
theorem dX1_init_4 : decode cX1_init 4 = .ok (.aload_n 0, 1) := by decide +kernel
theorem dX1_init_5 : decode cX1_init 5 = .ok (.sipush 5000, 3) := by decide +kernel
theorem dX1_init_8 : decode cX1_init 8 = .ok (.newarray .int, 2) := by decide +kernel
theorem dX1_init_10 : decode cX1_init 10 = .ok (.putfield 11, 3) := by decide +kernel
theorem dX1_init_13 : decode cX1_init 13 = .ok (.return_, 1) := by decide +kernel
theorem dX1_darken_0 : decode cX1_darken 0 = .ok (.iload_n 1, 1) := by decide +kernel
theorem dX1_darken_1 : decode cX1_darken 1 = .ok (.iconst 0, 1) := by decide +kernel
theorem dX1_darken_2 : decode cX1_darken 2 = .ok (.aload_n 0, 1) := by decide +kernel
theorem dX1_darken_3 : decode cX1_darken 3 = .ok (.getfield 11, 3) := by decide +kernel
theorem dX1_darken_6 : decode cX1_darken 6 = .ok (.arraylength, 1) := by decide +kernel
theorem dX1_darken_7 : decode cX1_darken 7 = .ok (.iconst 1, 1) := by decide +kernel
theorem dX1_darken_8 : decode cX1_darken 8 = .ok (.isub, 1) := by decide +kernel
theorem dX1_darken_9 : decode cX1_darken 9 = .ok (.invokestatic 15, 3) := by decide +kernel
theorem dX1_darken_12 : decode cX1_darken 12 = .ok (.ifCond .eq 11, 3) := by decide +kernel
theorem dX1_darken_15 : decode cX1_darken 15 = .ok (.aload_n 0, 1) := by decide +kernel
theorem dX1_darken_16 : decode cX1_darken 16 = .ok (.getfield 11, 3) := by decide +kernel
theorem dX1_darken_19 : decode cX1_darken 19 = .ok (.iload_n 1, 1) := by decide +kernel
theorem dX1_darken_20 : decode cX1_darken 20 = .ok (.ldc 19, 2) := by decide +kernel
theorem dX1_darken_22 : decode cX1_darken 22 = .ok (.iastore, 1) := by decide +kernel
theorem dX1_darken_23 : decode cX1_darken 23 = .ok (.return_, 1) := by decide +kernel
theorem dX1_show_0 : decode cX1_show 0 = .ok (.iload_n 2, 1) := by decide +kernel
theorem dX1_show_1 : decode cX1_show 1 = .ok (.iconst 0, 1) := by decide +kernel
theorem dX1_show_2 : decode cX1_show 2 = .ok (.aload_n 0, 1) := by decide +kernel
theorem dX1_show_3 : decode cX1_show 3 = .ok (.getfield 11, 3) := by decide +kernel
theorem dX1_show_6 : decode cX1_show 6 = .ok (.arraylength, 1) := by decide +kernel
theorem dX1_show_7 : decode cX1_show 7 = .ok (.iconst 1, 1) := by decide +kernel
theorem dX1_show_8 : decode cX1_show 8 = .ok (.isub, 1) := by decide +kernel
theorem dX1_show_9 : decode cX1_show 9 = .ok (.invokestatic 15, 3) := by decide +kernel
theorem dX1_show_12 : decode cX1_show 12 = .ok (.ifCond .eq 32, 3) := by decide +kernel
theorem dX1_show_15 : decode cX1_show 15 = .ok (.iconst 2, 1) := by decide +kernel
theorem dX1_show_16 : decode cX1_show 16 = .ok (.iload_n 1, 1) := by decide +kernel
theorem dX1_show_17 : decode cX1_show 17 = .ok (.imul, 1) := by decide +kernel
theorem dX1_show_18 : decode cX1_show 18 = .ok (.istore 4, 2) := by decide +kernel
theorem dX1_show_20 : decode cX1_show 20 = .ok (.aload_n 0, 1) := by decide +kernel
theorem dX1_show_21 : decode cX1_show 21 = .ok (.getfield 11, 3) := by decide +kernel
theorem dX1_show_24 : decode cX1_show 24 = .ok (.iload_n 2, 1) := by decide +kernel
theorem dX1_show_25 : decode cX1_show 25 = .ok (.aload_n 0, 1) := by decide +kernel
theorem dX1_show_26 : decode cX1_show 26 = .ok (.getfield 11, 3) := by decide +kernel
theorem dX1_show_29 : decode cX1_show 29 = .ok (.iload_n 2, 1) := by decide +kernel
theorem dX1_show_30 : decode cX1_show 30 = .ok (.iaload, 1) := by decide +kernel
theorem dX1_show_31 : decode cX1_show 31 = .ok (.iconst 3, 1) := by decide +kernel
theorem dX1_show_32 : decode cX1_show 32 = .ok (.iload 4, 2) := by decide +kernel
theorem dX1_show_34 : decode cX1_show 34 = .ok (.ishl, 1) := by decide +kernel
theorem dX1_show_35 : decode cX1_show 35 = .ok (.iconst (-1), 1) := by decide +kernel
theorem dX1_show_36 : decode cX1_show 36 = .ok (.ixor, 1) := by decide +kernel
theorem dX1_show_37 : decode cX1_show 37 = .ok (.iand, 1) := by decide +kernel
theorem dX1_show_38 : decode cX1_show 38 = .ok (.iload_n 3, 1) := by decide +kernel
theorem dX1_show_39 : decode cX1_show 39 = .ok (.iload 4, 2) := by decide +kernel
theorem dX1_show_41 : decode cX1_show 41 = .ok (.ishl, 1) := by decide +kernel
theorem dX1_show_42 : decode cX1_show 42 = .ok (.ior, 1) := by decide +kernel
theorem dX1_show_43 : decode cX1_show 43 = .ok (.iastore, 1) := by decide +kernel
theorem dX1_show_44 : decode cX1_show 44 = .ok (.return_, 1) := by decide +kernel
theorem dX1_shown_0 : decode cX1_shown 0 = .ok (.iload_n 2, 1) := by decide +kernel
theorem dX1_shown_1 : decode cX1_shown 1 = .ok (.iconst 0, 1) := by decide +kernel
theorem dX1_shown_2 : decode cX1_shown 2 = .ok (.aload_n 0, 1) := by decide +kernel
theorem dX1_shown_3 : decode cX1_shown 3 = .ok (.getfield 11, 3) := by decide +kernel
theorem dX1_shown_6 : decode cX1_shown 6 = .ok (.arraylength, 1) := by decide +kernel
theorem dX1_shown_7 : decode cX1_shown 7 = .ok (.iconst 1, 1) := by decide +kernel
theorem dX1_shown_8 : decode cX1_shown 8 = .ok (.isub, 1) := by decide +kernel
theorem dX1_shown_9 : decode cX1_shown 9 = .ok (.invokestatic 15, 3) := by decide +kernel
theorem dX1_shown_12 : decode cX1_shown 12 = .ok (.ifCond .eq 16, 3) := by decide +kernel
theorem dX1_shown_15 : decode cX1_shown 15 = .ok (.aload_n 0, 1) := by decide +kernel
theorem dX1_shown_16 : decode cX1_shown 16 = .ok (.getfield 11, 3) := by decide +kernel
theorem dX1_shown_19 : decode cX1_shown 19 = .ok (.iload_n 2, 1) := by decide +kernel
theorem dX1_shown_20 : decode cX1_shown 20 = .ok (.iaload, 1) := by decide +kernel
theorem dX1_shown_21 : decode cX1_shown 21 = .ok (.iload_n 1, 1) := by decide +kernel
theorem dX1_shown_22 : decode cX1_shown 22 = .ok (.invokestatic 20, 3) := by decide +kernel
theorem dX1_shown_25 : decode cX1_shown 25 = .ok (.goto 4, 3) := by decide +kernel
theorem dX1_shown_28 : decode cX1_shown 28 = .ok (.iconst 3, 1) := by decide +kernel
theorem dX1_shown_29 : decode cX1_shown 29 = .ok (.ireturn, 1) := by decide +kernel
theorem dX1_colourIn_0 : decode cX1_colourIn 0 = .ok (.iload_n 0, 1) := by decide +kernel
theorem dX1_colourIn_1 : decode cX1_colourIn 1 = .ok (.iconst 2, 1) := by decide +kernel
theorem dX1_colourIn_2 : decode cX1_colourIn 2 = .ok (.iload_n 1, 1) := by decide +kernel
theorem dX1_colourIn_3 : decode cX1_colourIn 3 = .ok (.imul, 1) := by decide +kernel
theorem dX1_colourIn_4 : decode cX1_colourIn 4 = .ok (.ishr, 1) := by decide +kernel
theorem dX1_colourIn_5 : decode cX1_colourIn 5 = .ok (.iconst 3, 1) := by decide +kernel
theorem dX1_colourIn_6 : decode cX1_colourIn 6 = .ok (.iand, 1) := by decide +kernel
theorem dX1_colourIn_7 : decode cX1_colourIn 7 = .ok (.ireturn, 1) := by decide +kernel
theorem dX1_leastBetween_0 : decode cX1_leastBetween 0 = .ok (.iconst (-1), 1) := by decide +kernel
theorem dX1_leastBetween_1 : decode cX1_leastBetween 1 = .ok (.istore 4, 2) := by decide +kernel
theorem dX1_leastBetween_3 : decode cX1_leastBetween 3 = .ok (.iconst (-1), 1) := by decide +kernel
theorem dX1_leastBetween_4 : decode cX1_leastBetween 4 = .ok (.istore 5, 2) := by decide +kernel
theorem dX1_leastBetween_6 : decode cX1_leastBetween 6 = .ok (.iconst 0, 1) := by decide +kernel
theorem dX1_leastBetween_7 : decode cX1_leastBetween 7 = .ok (.istore 6, 2) := by decide +kernel
theorem dX1_leastBetween_9 : decode cX1_leastBetween 9 = .ok (.iconst 0, 1) := by decide +kernel
theorem dX1_leastBetween_10 : decode cX1_leastBetween 10 = .ok (.istore 7, 2) := by decide +kernel
theorem dX1_leastBetween_12 : decode cX1_leastBetween 12 = .ok (.iload 7, 2) := by decide +kernel
theorem dX1_leastBetween_14 : decode cX1_leastBetween 14 = .ok (.iload_n 3, 1) := by decide +kernel
theorem dX1_leastBetween_15 : decode cX1_leastBetween 15 = .ok (.if_icmp .ge 108, 3) := by decide +kernel
theorem dX1_leastBetween_18 : decode cX1_leastBetween 18 = .ok (.iload 7, 2) := by decide +kernel
theorem dX1_leastBetween_20 : decode cX1_leastBetween 20 = .ok (.aload_n 0, 1) := by decide +kernel
theorem dX1_leastBetween_21 : decode cX1_leastBetween 21 = .ok (.getfield 11, 3) := by decide +kernel
theorem dX1_leastBetween_24 : decode cX1_leastBetween 24 = .ok (.arraylength, 1) := by decide +kernel
theorem dX1_leastBetween_25 : decode cX1_leastBetween 25 = .ok (.if_icmp .ge 98, 3) := by decide +kernel
theorem dX1_leastBetween_28 : decode cX1_leastBetween 28 = .ok (.aload_n 0, 1) := by decide +kernel
theorem dX1_leastBetween_29 : decode cX1_leastBetween 29 = .ok (.getfield 11, 3) := by decide +kernel
theorem dX1_leastBetween_32 : decode cX1_leastBetween 32 = .ok (.iload 7, 2) := by decide +kernel
theorem dX1_leastBetween_34 : decode cX1_leastBetween 34 = .ok (.iaload, 1) := by decide +kernel
theorem dX1_leastBetween_35 : decode cX1_leastBetween 35 = .ok (.istore 8, 2) := by decide +kernel
theorem dX1_leastBetween_37 : decode cX1_leastBetween 37 = .ok (.iload 8, 2) := by decide +kernel
theorem dX1_leastBetween_39 : decode cX1_leastBetween 39 = .ok (.iload_n 2, 1) := by decide +kernel
theorem dX1_leastBetween_40 : decode cX1_leastBetween 40 = .ok (.invokestatic 20, 3) := by decide +kernel
theorem dX1_leastBetween_43 : decode cX1_leastBetween 43 = .ok (.iconst 1, 1) := by decide +kernel
theorem dX1_leastBetween_44 : decode cX1_leastBetween 44 = .ok (.if_icmp .ne 7, 3) := by decide +kernel
theorem dX1_leastBetween_47 : decode cX1_leastBetween 47 = .ok (.iconst 1, 1) := by decide +kernel
theorem dX1_leastBetween_48 : decode cX1_leastBetween 48 = .ok (.goto 4, 3) := by decide +kernel
theorem dX1_leastBetween_51 : decode cX1_leastBetween 51 = .ok (.iconst 0, 1) := by decide +kernel
theorem dX1_leastBetween_52 : decode cX1_leastBetween 52 = .ok (.istore 9, 2) := by decide +kernel
theorem dX1_leastBetween_54 : decode cX1_leastBetween 54 = .ok (.iload 9, 2) := by decide +kernel
theorem dX1_leastBetween_56 : decode cX1_leastBetween 56 = .ok (.ifCond .eq 43, 3) := by decide +kernel
theorem dX1_leastBetween_59 : decode cX1_leastBetween 59 = .ok (.iload 6, 2) := by decide +kernel
theorem dX1_leastBetween_61 : decode cX1_leastBetween 61 = .ok (.ifCond .ne 38, 3) := by decide +kernel
theorem dX1_leastBetween_64 : decode cX1_leastBetween 64 = .ok (.iload 5, 2) := by decide +kernel
theorem dX1_leastBetween_66 : decode cX1_leastBetween 66 = .ok (.iconst (-1), 1) := by decide +kernel
theorem dX1_leastBetween_67 : decode cX1_leastBetween 67 = .ok (.if_icmp .eq 32, 3) := by decide +kernel
theorem dX1_leastBetween_70 : decode cX1_leastBetween 70 = .ok (.iload 7, 2) := by decide +kernel
theorem dX1_leastBetween_72 : decode cX1_leastBetween 72 = .ok (.iload 5, 2) := by decide +kernel
theorem dX1_leastBetween_74 : decode cX1_leastBetween 74 = .ok (.isub, 1) := by decide +kernel
theorem dX1_leastBetween_75 : decode cX1_leastBetween 75 = .ok (.iconst 1, 1) := by decide +kernel
theorem dX1_leastBetween_76 : decode cX1_leastBetween 76 = .ok (.isub, 1) := by decide +kernel
theorem dX1_leastBetween_77 : decode cX1_leastBetween 77 = .ok (.istore 10, 2) := by decide +kernel
theorem dX1_leastBetween_79 : decode cX1_leastBetween 79 = .ok (.iload 4, 2) := by decide +kernel
theorem dX1_leastBetween_81 : decode cX1_leastBetween 81 = .ok (.iconst (-1), 1) := by decide +kernel
theorem dX1_leastBetween_82 : decode cX1_leastBetween 82 = .ok (.if_icmp .ne 8, 3) := by decide +kernel
theorem dX1_leastBetween_85 : decode cX1_leastBetween 85 = .ok (.iload 10, 2) := by decide +kernel
theorem dX1_leastBetween_87 : decode cX1_leastBetween 87 = .ok (.goto 10, 3) := by decide +kernel
theorem dX1_leastBetween_90 : decode cX1_leastBetween 90 = .ok (.iload 4, 2) := by decide +kernel
theorem dX1_leastBetween_92 : decode cX1_leastBetween 92 = .ok (.iload 10, 2) := by decide +kernel
theorem dX1_leastBetween_94 : decode cX1_leastBetween 94 = .ok (.invokestatic 24, 3) := by decide +kernel
theorem dX1_leastBetween_97 : decode cX1_leastBetween 97 = .ok (.istore 4, 2) := by decide +kernel
theorem dX1_leastBetween_99 : decode cX1_leastBetween 99 = .ok (.iload 8, 2) := by decide +kernel
theorem dX1_leastBetween_101 : decode cX1_leastBetween 101 = .ok (.iload_n 1, 1) := by decide +kernel
theorem dX1_leastBetween_102 : decode cX1_leastBetween 102 = .ok (.invokestatic 20, 3) := by decide +kernel
theorem dX1_leastBetween_105 : decode cX1_leastBetween 105 = .ok (.iconst 1, 1) := by decide +kernel
theorem dX1_leastBetween_106 : decode cX1_leastBetween 106 = .ok (.if_icmp .ne 7, 3) := by decide +kernel
theorem dX1_leastBetween_109 : decode cX1_leastBetween 109 = .ok (.iload 7, 2) := by decide +kernel
theorem dX1_leastBetween_111 : decode cX1_leastBetween 111 = .ok (.istore 5, 2) := by decide +kernel
theorem dX1_leastBetween_113 : decode cX1_leastBetween 113 = .ok (.iload 9, 2) := by decide +kernel
theorem dX1_leastBetween_115 : decode cX1_leastBetween 115 = .ok (.istore 6, 2) := by decide +kernel
theorem dX1_leastBetween_117 : decode cX1_leastBetween 117 = .ok (.iinc 7 1, 3) := by decide +kernel
theorem dX1_leastBetween_120 : decode cX1_leastBetween 120 = .ok (.goto (-108), 3) := by decide +kernel
theorem dX1_leastBetween_123 : decode cX1_leastBetween 123 = .ok (.iload 4, 2) := by decide +kernel
theorem dX1_leastBetween_125 : decode cX1_leastBetween 125 = .ok (.ireturn, 1) := by decide +kernel
theorem dX2_init_0 : decode cX2_init 0 = .ok (.aload_n 0, 1) := by decide +kernel
theorem dX2_init_1 : decode cX2_init 1 = .ok (.invokespecial 3, 3) := by decide +kernel
theorem dX2_init_4 : decode cX2_init 4 = .ok (.aload_n 0, 1) := by decide +kernel
theorem dX2_init_5 : decode cX2_init 5 = .ok (.iconst 0, 1) := by decide +kernel
theorem dX2_init_6 : decode cX2_init 6 = .ok (.putfield 9, 3) := by decide +kernel
theorem dX2_init_9 : decode cX2_init 9 = .ok (.aload_n 0, 1) := by decide +kernel
theorem dX2_init_10 : decode cX2_init 10 = .ok (.iconst (-1), 1) := by decide +kernel
theorem dX2_init_11 : decode cX2_init 11 = .ok (.putfield 15, 3) := by decide +kernel
theorem dX2_init_14 : decode cX2_init 14 = .ok (.return_, 1) := by decide +kernel
theorem dX2_isDemanded_0 : decode cX2_isDemanded 0 = .ok (.aload_n 0, 1) := by decide +kernel
theorem dX2_isDemanded_1 : decode cX2_isDemanded 1 = .ok (.getfield 9, 3) := by decide +kernel
theorem dX2_isDemanded_4 : decode cX2_isDemanded 4 = .ok (.iconst 1, 1) := by decide +kernel
theorem dX2_isDemanded_5 : decode cX2_isDemanded 5 = .ok (.if_icmp .eq 21, 3) := by decide +kernel
theorem dX2_isDemanded_8 : decode cX2_isDemanded 8 = .ok (.aload_n 0, 1) := by decide +kernel
theorem dX2_isDemanded_9 : decode cX2_isDemanded 9 = .ok (.getfield 18, 3) := by decide +kernel
theorem dX2_isDemanded_12 : decode cX2_isDemanded 12 = .ok (.ifCond .ne 10, 3) := by decide +kernel
theorem dX2_isDemanded_15 : decode cX2_isDemanded 15 = .ok (.aload_n 0, 1) := by decide +kernel
theorem dX2_isDemanded_16 : decode cX2_isDemanded 16 = .ok (.getfield 22, 3) := by decide +kernel
theorem dX2_isDemanded_19 : decode cX2_isDemanded 19 = .ok (.ifCond .le 7, 3) := by decide +kernel
theorem dX2_isDemanded_22 : decode cX2_isDemanded 22 = .ok (.iconst 1, 1) := by decide +kernel
theorem dX2_isDemanded_23 : decode cX2_isDemanded 23 = .ok (.goto 4, 3) := by decide +kernel
theorem dX2_isDemanded_26 : decode cX2_isDemanded 26 = .ok (.iconst 0, 1) := by decide +kernel
theorem dX2_isDemanded_27 : decode cX2_isDemanded 27 = .ok (.ireturn, 1) := by decide +kernel
theorem dX2_isBroken_0 : decode cX2_isBroken 0 = .ok (.aload_n 0, 1) := by decide +kernel
theorem dX2_isBroken_1 : decode cX2_isBroken 1 = .ok (.getfield 25, 3) := by decide +kernel
theorem dX2_isBroken_4 : decode cX2_isBroken 4 = .ok (.iload_n 1, 1) := by decide +kernel
theorem dX2_isBroken_5 : decode cX2_isBroken 5 = .ok (.invokestatic 28, 3) := by decide +kernel
theorem dX2_isBroken_8 : decode cX2_isBroken 8 = .ok (.ireturn, 1) := by decide +kernel
theorem dX2_setBroken_0 : decode cX2_setBroken 0 = .ok (.iconst 1, 1) := by decide +kernel
theorem dX2_setBroken_1 : decode cX2_setBroken 1 = .ok (.iload_n 1, 1) := by decide +kernel
theorem dX2_setBroken_2 : decode cX2_setBroken 2 = .ok (.ishl, 1) := by decide +kernel
theorem dX2_setBroken_3 : decode cX2_setBroken 3 = .ok (.istore_n 3, 1) := by decide +kernel
theorem dX2_setBroken_4 : decode cX2_setBroken 4 = .ok (.aload_n 0, 1) := by decide +kernel
theorem dX2_setBroken_5 : decode cX2_setBroken 5 = .ok (.iload_n 2, 1) := by decide +kernel
theorem dX2_setBroken_6 : decode cX2_setBroken 6 = .ok (.ifCond .eq 12, 3) := by decide +kernel
theorem dX2_setBroken_9 : decode cX2_setBroken 9 = .ok (.aload_n 0, 1) := by decide +kernel
theorem dX2_setBroken_10 : decode cX2_setBroken 10 = .ok (.getfield 25, 3) := by decide +kernel
theorem dX2_setBroken_13 : decode cX2_setBroken 13 = .ok (.iload_n 3, 1) := by decide +kernel
theorem dX2_setBroken_14 : decode cX2_setBroken 14 = .ok (.ior, 1) := by decide +kernel
theorem dX2_setBroken_15 : decode cX2_setBroken 15 = .ok (.goto 11, 3) := by decide +kernel
theorem dX2_setBroken_18 : decode cX2_setBroken 18 = .ok (.aload_n 0, 1) := by decide +kernel
theorem dX2_setBroken_19 : decode cX2_setBroken 19 = .ok (.getfield 25, 3) := by decide +kernel
theorem dX2_setBroken_22 : decode cX2_setBroken 22 = .ok (.iload_n 3, 1) := by decide +kernel
theorem dX2_setBroken_23 : decode cX2_setBroken 23 = .ok (.iconst (-1), 1) := by decide +kernel
theorem dX2_setBroken_24 : decode cX2_setBroken 24 = .ok (.ixor, 1) := by decide +kernel
theorem dX2_setBroken_25 : decode cX2_setBroken 25 = .ok (.iand, 1) := by decide +kernel
theorem dX2_setBroken_26 : decode cX2_setBroken 26 = .ok (.putfield 25, 3) := by decide +kernel
theorem dX2_setBroken_29 : decode cX2_setBroken 29 = .ok (.return_, 1) := by decide +kernel
theorem dX2_pushButton_0 : decode cX2_pushButton 0 = .ok (.aload_n 0, 1) := by decide +kernel
theorem dX2_pushButton_1 : decode cX2_pushButton 1 = .ok (.getfield 9, 3) := by decide +kernel
theorem dX2_pushButton_4 : decode cX2_pushButton 4 = .ok (.iconst 1, 1) := by decide +kernel
theorem dX2_pushButton_5 : decode cX2_pushButton 5 = .ok (.if_icmp .eq 8, 3) := by decide +kernel
theorem dX2_pushButton_8 : decode cX2_pushButton 8 = .ok (.aload_n 0, 1) := by decide +kernel
theorem dX2_pushButton_9 : decode cX2_pushButton 9 = .ok (.iconst 1, 1) := by decide +kernel
theorem dX2_pushButton_10 : decode cX2_pushButton 10 = .ok (.putfield 18, 3) := by decide +kernel
theorem dX2_pushButton_13 : decode cX2_pushButton 13 = .ok (.return_, 1) := by decide +kernel
theorem dX2_mayEnd_0 : decode cX2_mayEnd 0 = .ok (.aload_n 0, 1) := by decide +kernel
theorem dX2_mayEnd_1 : decode cX2_mayEnd 1 = .ok (.getfield 32, 3) := by decide +kernel
theorem dX2_mayEnd_4 : decode cX2_mayEnd 4 = .ok (.aload_n 0, 1) := by decide +kernel
theorem dX2_mayEnd_5 : decode cX2_mayEnd 5 = .ok (.getfield 35, 3) := by decide +kernel
theorem dX2_mayEnd_8 : decode cX2_mayEnd 8 = .ok (.if_icmp .lt 29, 3) := by decide +kernel
theorem dX2_mayEnd_11 : decode cX2_mayEnd 11 = .ok (.iload_n 1, 1) := by decide +kernel
theorem dX2_mayEnd_12 : decode cX2_mayEnd 12 = .ok (.ifCond .ne 21, 3) := by decide +kernel
theorem dX2_mayEnd_15 : decode cX2_mayEnd 15 = .ok (.aload_n 0, 1) := by decide +kernel
theorem dX2_mayEnd_16 : decode cX2_mayEnd 16 = .ok (.getfield 38, 3) := by decide +kernel
theorem dX2_mayEnd_19 : decode cX2_mayEnd 19 = .ok (.ifCond .eq 14, 3) := by decide +kernel
theorem dX2_mayEnd_22 : decode cX2_mayEnd 22 = .ok (.aload_n 0, 1) := by decide +kernel
theorem dX2_mayEnd_23 : decode cX2_mayEnd 23 = .ok (.getfield 32, 3) := by decide +kernel
theorem dX2_mayEnd_26 : decode cX2_mayEnd 26 = .ok (.aload_n 0, 1) := by decide +kernel
theorem dX2_mayEnd_27 : decode cX2_mayEnd 27 = .ok (.getfield 41, 3) := by decide +kernel
theorem dX2_mayEnd_30 : decode cX2_mayEnd 30 = .ok (.if_icmp .lt 7, 3) := by decide +kernel
theorem dX2_mayEnd_33 : decode cX2_mayEnd 33 = .ok (.iconst 1, 1) := by decide +kernel
theorem dX2_mayEnd_34 : decode cX2_mayEnd 34 = .ok (.goto 4, 3) := by decide +kernel
theorem dX2_mayEnd_37 : decode cX2_mayEnd 37 = .ok (.iconst 0, 1) := by decide +kernel
theorem dX2_mayEnd_38 : decode cX2_mayEnd 38 = .ok (.ireturn, 1) := by decide +kernel
theorem dX2_turnGreen_0 : decode cX2_turnGreen 0 = .ok (.aload_n 0, 1) := by decide +kernel
theorem dX2_turnGreen_1 : decode cX2_turnGreen 1 = .ok (.iconst 1, 1) := by decide +kernel
theorem dX2_turnGreen_2 : decode cX2_turnGreen 2 = .ok (.putfield 9, 3) := by decide +kernel
theorem dX2_turnGreen_5 : decode cX2_turnGreen 5 = .ok (.aload_n 0, 1) := by decide +kernel
theorem dX2_turnGreen_6 : decode cX2_turnGreen 6 = .ok (.iconst 0, 1) := by decide +kernel
theorem dX2_turnGreen_7 : decode cX2_turnGreen 7 = .ok (.putfield 32, 3) := by decide +kernel
theorem dX2_turnGreen_10 : decode cX2_turnGreen 10 = .ok (.aload_n 0, 1) := by decide +kernel
theorem dX2_turnGreen_11 : decode cX2_turnGreen 11 = .ok (.aload_n 0, 1) := by decide +kernel
theorem dX2_turnGreen_12 : decode cX2_turnGreen 12 = .ok (.getfield 44, 3) := by decide +kernel
theorem dX2_turnGreen_15 : decode cX2_turnGreen 15 = .ok (.putfield 38, 3) := by decide +kernel
theorem dX2_turnGreen_18 : decode cX2_turnGreen 18 = .ok (.aload_n 0, 1) := by decide +kernel
theorem dX2_turnGreen_19 : decode cX2_turnGreen 19 = .ok (.iconst 0, 1) := by decide +kernel
theorem dX2_turnGreen_20 : decode cX2_turnGreen 20 = .ok (.putfield 47, 3) := by decide +kernel
theorem dX2_turnGreen_23 : decode cX2_turnGreen 23 = .ok (.aload_n 0, 1) := by decide +kernel
theorem dX2_turnGreen_24 : decode cX2_turnGreen 24 = .ok (.iconst 0, 1) := by decide +kernel
theorem dX2_turnGreen_25 : decode cX2_turnGreen 25 = .ok (.putfield 18, 3) := by decide +kernel
theorem dX2_turnGreen_28 : decode cX2_turnGreen 28 = .ok (.return_, 1) := by decide +kernel
theorem dX2_turnAmber_0 : decode cX2_turnAmber 0 = .ok (.aload_n 0, 1) := by decide +kernel
theorem dX2_turnAmber_1 : decode cX2_turnAmber 1 = .ok (.iconst 2, 1) := by decide +kernel
theorem dX2_turnAmber_2 : decode cX2_turnAmber 2 = .ok (.putfield 9, 3) := by decide +kernel
theorem dX2_turnAmber_5 : decode cX2_turnAmber 5 = .ok (.aload_n 0, 1) := by decide +kernel
theorem dX2_turnAmber_6 : decode cX2_turnAmber 6 = .ok (.iload_n 1, 1) := by decide +kernel
theorem dX2_turnAmber_7 : decode cX2_turnAmber 7 = .ok (.putfield 15, 3) := by decide +kernel
theorem dX2_turnAmber_10 : decode cX2_turnAmber 10 = .ok (.return_, 1) := by decide +kernel
theorem dX2_turnRed_0 : decode cX2_turnRed 0 = .ok (.aload_n 0, 1) := by decide +kernel
theorem dX2_turnRed_1 : decode cX2_turnRed 1 = .ok (.getfield 9, 3) := by decide +kernel
theorem dX2_turnRed_4 : decode cX2_turnRed 4 = .ok (.iconst 1, 1) := by decide +kernel
theorem dX2_turnRed_5 : decode cX2_turnRed 5 = .ok (.if_icmp .ne 8, 3) := by decide +kernel
theorem dX2_turnRed_8 : decode cX2_turnRed 8 = .ok (.aload_n 0, 1) := by decide +kernel
theorem dX2_turnRed_9 : decode cX2_turnRed 9 = .ok (.iload_n 1, 1) := by decide +kernel
theorem dX2_turnRed_10 : decode cX2_turnRed 10 = .ok (.putfield 15, 3) := by decide +kernel
theorem dX2_turnRed_13 : decode cX2_turnRed 13 = .ok (.aload_n 0, 1) := by decide +kernel
theorem dX2_turnRed_14 : decode cX2_turnRed 14 = .ok (.iconst 0, 1) := by decide +kernel
theorem dX2_turnRed_15 : decode cX2_turnRed 15 = .ok (.putfield 9, 3) := by decide +kernel
theorem dX2_turnRed_18 : decode cX2_turnRed 18 = .ok (.return_, 1) := by decide +kernel
theorem dX2_fade_0 : decode cX2_fade 0 = .ok (.aload_n 0, 1) := by decide +kernel
theorem dX2_fade_1 : decode cX2_fade 1 = .ok (.getfield 9, 3) := by decide +kernel
theorem dX2_fade_4 : decode cX2_fade 4 = .ok (.iconst 2, 1) := by decide +kernel
theorem dX2_fade_5 : decode cX2_fade 5 = .ok (.if_icmp .ne 18, 3) := by decide +kernel
theorem dX2_fade_8 : decode cX2_fade 8 = .ok (.iload_n 1, 1) := by decide +kernel
theorem dX2_fade_9 : decode cX2_fade 9 = .ok (.aload_n 0, 1) := by decide +kernel
theorem dX2_fade_10 : decode cX2_fade 10 = .ok (.getfield 15, 3) := by decide +kernel
theorem dX2_fade_13 : decode cX2_fade 13 = .ok (.isub, 1) := by decide +kernel
theorem dX2_fade_14 : decode cX2_fade 14 = .ok (.iconst 3, 1) := by decide +kernel
theorem dX2_fade_15 : decode cX2_fade 15 = .ok (.if_icmp .lt 8, 3) := by decide +kernel
theorem dX2_fade_18 : decode cX2_fade 18 = .ok (.aload_n 0, 1) := by decide +kernel
theorem dX2_fade_19 : decode cX2_fade 19 = .ok (.iconst 0, 1) := by decide +kernel
theorem dX2_fade_20 : decode cX2_fade 20 = .ok (.putfield 9, 3) := by decide +kernel
theorem dX2_fade_23 : decode cX2_fade 23 = .ok (.return_, 1) := by decide +kernel
theorem dX2_lets_0 : decode cX2_lets 0 = .ok (.aload_n 0, 1) := by decide +kernel
theorem dX2_lets_1 : decode cX2_lets 1 = .ok (.getfield 9, 3) := by decide +kernel
theorem dX2_lets_4 : decode cX2_lets 4 = .ok (.iconst 1, 1) := by decide +kernel
theorem dX2_lets_5 : decode cX2_lets 5 = .ok (.if_icmp .eq 25, 3) := by decide +kernel
theorem dX2_lets_8 : decode cX2_lets 8 = .ok (.aload_n 0, 1) := by decide +kernel
theorem dX2_lets_9 : decode cX2_lets 9 = .ok (.getfield 15, 3) := by decide +kernel
theorem dX2_lets_12 : decode cX2_lets 12 = .ok (.iconst (-1), 1) := by decide +kernel
theorem dX2_lets_13 : decode cX2_lets 13 = .ok (.if_icmp .eq 13, 3) := by decide +kernel
theorem dX2_lets_16 : decode cX2_lets 16 = .ok (.iload_n 1, 1) := by decide +kernel
theorem dX2_lets_17 : decode cX2_lets 17 = .ok (.aload_n 0, 1) := by decide +kernel
theorem dX2_lets_18 : decode cX2_lets 18 = .ok (.getfield 15, 3) := by decide +kernel
theorem dX2_lets_21 : decode cX2_lets 21 = .ok (.isub, 1) := by decide +kernel
theorem dX2_lets_22 : decode cX2_lets 22 = .ok (.iload_n 2, 1) := by decide +kernel
theorem dX2_lets_23 : decode cX2_lets 23 = .ok (.if_icmp .lt 7, 3) := by decide +kernel
theorem dX2_lets_26 : decode cX2_lets 26 = .ok (.iconst 1, 1) := by decide +kernel
theorem dX2_lets_27 : decode cX2_lets 27 = .ok (.goto 4, 3) := by decide +kernel
theorem dX2_lets_30 : decode cX2_lets 30 = .ok (.iconst 0, 1) := by decide +kernel
theorem dX2_lets_31 : decode cX2_lets 31 = .ok (.ireturn, 1) := by decide +kernel
theorem dX2_shown_0 : decode cX2_shown 0 = .ok (.aload_n 0, 1) := by decide +kernel
theorem dX2_shown_1 : decode cX2_shown 1 = .ok (.aload_n 0, 1) := by decide +kernel
theorem dX2_shown_2 : decode cX2_shown 2 = .ok (.getfield 9, 3) := by decide +kernel
theorem dX2_shown_5 : decode cX2_shown 5 = .ok (.invokevirtual 50, 3) := by decide +kernel
theorem dX2_shown_8 : decode cX2_shown 8 = .ok (.ifCond .eq 7, 3) := by decide +kernel
theorem dX2_shown_11 : decode cX2_shown 11 = .ok (.iconst 3, 1) := by decide +kernel
theorem dX2_shown_12 : decode cX2_shown 12 = .ok (.goto 7, 3) := by decide +kernel
theorem dX2_shown_15 : decode cX2_shown 15 = .ok (.aload_n 0, 1) := by decide +kernel
theorem dX2_shown_16 : decode cX2_shown 16 = .ok (.getfield 9, 3) := by decide +kernel
theorem dX2_shown_19 : decode cX2_shown 19 = .ok (.ireturn, 1) := by decide +kernel
theorem dX2_passSecond_0 : decode cX2_passSecond 0 = .ok (.aload_n 0, 1) := by decide +kernel
theorem dX2_passSecond_1 : decode cX2_passSecond 1 = .ok (.getfield 9, 3) := by decide +kernel
theorem dX2_passSecond_4 : decode cX2_passSecond 4 = .ok (.iconst 1, 1) := by decide +kernel
theorem dX2_passSecond_5 : decode cX2_passSecond 5 = .ok (.if_icmp .ne 35, 3) := by decide +kernel
theorem dX2_passSecond_8 : decode cX2_passSecond 8 = .ok (.aload_n 0, 1) := by decide +kernel
theorem dX2_passSecond_9 : decode cX2_passSecond 9 = .ok (.dup, 1) := by decide +kernel
theorem dX2_passSecond_10 : decode cX2_passSecond 10 = .ok (.getfield 32, 3) := by decide +kernel
theorem dX2_passSecond_13 : decode cX2_passSecond 13 = .ok (.iconst 1, 1) := by decide +kernel
theorem dX2_passSecond_14 : decode cX2_passSecond 14 = .ok (.iadd, 1) := by decide +kernel
theorem dX2_passSecond_15 : decode cX2_passSecond 15 = .ok (.putfield 32, 3) := by decide +kernel
theorem dX2_passSecond_18 : decode cX2_passSecond 18 = .ok (.aload_n 0, 1) := by decide +kernel
theorem dX2_passSecond_19 : decode cX2_passSecond 19 = .ok (.getfield 38, 3) := by decide +kernel
theorem dX2_passSecond_22 : decode cX2_passSecond 22 = .ok (.ifCond .le 13, 3) := by decide +kernel
theorem dX2_passSecond_25 : decode cX2_passSecond 25 = .ok (.aload_n 0, 1) := by decide +kernel
theorem dX2_passSecond_26 : decode cX2_passSecond 26 = .ok (.dup, 1) := by decide +kernel
theorem dX2_passSecond_27 : decode cX2_passSecond 27 = .ok (.getfield 38, 3) := by decide +kernel
theorem dX2_passSecond_30 : decode cX2_passSecond 30 = .ok (.iconst 1, 1) := by decide +kernel
theorem dX2_passSecond_31 : decode cX2_passSecond 31 = .ok (.isub, 1) := by decide +kernel
theorem dX2_passSecond_32 : decode cX2_passSecond 32 = .ok (.putfield 38, 3) := by decide +kernel
theorem dX2_passSecond_35 : decode cX2_passSecond 35 = .ok (.aload_n 0, 1) := by decide +kernel
theorem dX2_passSecond_36 : decode cX2_passSecond 36 = .ok (.invokevirtual 54, 3) := by decide +kernel
theorem dX2_passSecond_39 : decode cX2_passSecond 39 = .ok (.ireturn, 1) := by decide +kernel
theorem dX2_passSecond_40 : decode cX2_passSecond 40 = .ok (.aload_n 0, 1) := by decide +kernel
theorem dX2_passSecond_41 : decode cX2_passSecond 41 = .ok (.invokevirtual 58, 3) := by decide +kernel
theorem dX2_passSecond_44 : decode cX2_passSecond 44 = .ok (.ifCond .eq 28, 3) := by decide +kernel
theorem dX2_passSecond_47 : decode cX2_passSecond 47 = .ok (.aload_n 0, 1) := by decide +kernel
theorem dX2_passSecond_48 : decode cX2_passSecond 48 = .ok (.dup, 1) := by decide +kernel
theorem dX2_passSecond_49 : decode cX2_passSecond 49 = .ok (.getfield 47, 3) := by decide +kernel
theorem dX2_passSecond_52 : decode cX2_passSecond 52 = .ok (.iconst 1, 1) := by decide +kernel
theorem dX2_passSecond_53 : decode cX2_passSecond 53 = .ok (.iadd, 1) := by decide +kernel
theorem dX2_passSecond_54 : decode cX2_passSecond 54 = .ok (.putfield 47, 3) := by decide +kernel
theorem dX2_passSecond_57 : decode cX2_passSecond 57 = .ok (.aload_n 0, 1) := by decide +kernel
theorem dX2_passSecond_58 : decode cX2_passSecond 58 = .ok (.aload_n 0, 1) := by decide +kernel
theorem dX2_passSecond_59 : decode cX2_passSecond 59 = .ok (.getfield 62, 3) := by decide +kernel
theorem dX2_passSecond_62 : decode cX2_passSecond 62 = .ok (.aload_n 0, 1) := by decide +kernel
theorem dX2_passSecond_63 : decode cX2_passSecond 63 = .ok (.getfield 47, 3) := by decide +kernel
theorem dX2_passSecond_66 : decode cX2_passSecond 66 = .ok (.invokestatic 65, 3) := by decide +kernel
theorem dX2_passSecond_69 : decode cX2_passSecond 69 = .ok (.putfield 62, 3) := by decide +kernel
theorem dX2_passSecond_72 : decode cX2_passSecond 72 = .ok (.iconst 0, 1) := by decide +kernel
theorem dX2_passSecond_73 : decode cX2_passSecond 73 = .ok (.ireturn, 1) := by decide +kernel
theorem dX2_letOneGo_0 : decode cX2_letOneGo 0 = .ok (.aload_n 0, 1) := by decide +kernel
theorem dX2_letOneGo_1 : decode cX2_letOneGo 1 = .ok (.getfield 22, 3) := by decide +kernel
theorem dX2_letOneGo_4 : decode cX2_letOneGo 4 = .ok (.ifCond .ne 5, 3) := by decide +kernel
theorem dX2_letOneGo_7 : decode cX2_letOneGo 7 = .ok (.iconst 0, 1) := by decide +kernel
theorem dX2_letOneGo_8 : decode cX2_letOneGo 8 = .ok (.ireturn, 1) := by decide +kernel
theorem dX2_letOneGo_9 : decode cX2_letOneGo 9 = .ok (.aload_n 0, 1) := by decide +kernel
theorem dX2_letOneGo_10 : decode cX2_letOneGo 10 = .ok (.dup, 1) := by decide +kernel
theorem dX2_letOneGo_11 : decode cX2_letOneGo 11 = .ok (.getfield 22, 3) := by decide +kernel
theorem dX2_letOneGo_14 : decode cX2_letOneGo 14 = .ok (.iconst 1, 1) := by decide +kernel
theorem dX2_letOneGo_15 : decode cX2_letOneGo 15 = .ok (.isub, 1) := by decide +kernel
theorem dX2_letOneGo_16 : decode cX2_letOneGo 16 = .ok (.putfield 22, 3) := by decide +kernel
theorem dX2_letOneGo_19 : decode cX2_letOneGo 19 = .ok (.aload_n 0, 1) := by decide +kernel
theorem dX2_letOneGo_20 : decode cX2_letOneGo 20 = .ok (.aload_n 0, 1) := by decide +kernel
theorem dX2_letOneGo_21 : decode cX2_letOneGo 21 = .ok (.getfield 44, 3) := by decide +kernel
theorem dX2_letOneGo_24 : decode cX2_letOneGo 24 = .ok (.putfield 38, 3) := by decide +kernel
theorem dX2_letOneGo_27 : decode cX2_letOneGo 27 = .ok (.iconst 1, 1) := by decide +kernel
theorem dX2_letOneGo_28 : decode cX2_letOneGo 28 = .ok (.ireturn, 1) := by decide +kernel
theorem dX2_tell_0 : decode cX2_tell 0 = .ok (.iload_n 1, 1) := by decide +kernel
theorem dX2_tell_1 : decode cX2_tell 1 = .ok (.tableswitch 93 0 5 #[39, 44, 61, 78, 83, 88], 39) := by decide +kernel
theorem dX2_tell_40 : decode cX2_tell 40 = .ok (.aload_n 0, 1) := by decide +kernel
theorem dX2_tell_41 : decode cX2_tell 41 = .ok (.getfield 9, 3) := by decide +kernel
theorem dX2_tell_44 : decode cX2_tell 44 = .ok (.ireturn, 1) := by decide +kernel
theorem dX2_tell_45 : decode cX2_tell 45 = .ok (.aload_n 0, 1) := by decide +kernel
theorem dX2_tell_46 : decode cX2_tell 46 = .ok (.getfield 9, 3) := by decide +kernel
theorem dX2_tell_49 : decode cX2_tell 49 = .ok (.iconst 1, 1) := by decide +kernel
theorem dX2_tell_50 : decode cX2_tell 50 = .ok (.if_icmp .ne 10, 3) := by decide +kernel
theorem dX2_tell_53 : decode cX2_tell 53 = .ok (.aload_n 0, 1) := by decide +kernel
theorem dX2_tell_54 : decode cX2_tell 54 = .ok (.getfield 32, 3) := by decide +kernel
theorem dX2_tell_57 : decode cX2_tell 57 = .ok (.goto 4, 3) := by decide +kernel
theorem dX2_tell_60 : decode cX2_tell 60 = .ok (.iconst 0, 1) := by decide +kernel
theorem dX2_tell_61 : decode cX2_tell 61 = .ok (.ireturn, 1) := by decide +kernel
theorem dX2_tell_62 : decode cX2_tell 62 = .ok (.aload_n 0, 1) := by decide +kernel
theorem dX2_tell_63 : decode cX2_tell 63 = .ok (.getfield 9, 3) := by decide +kernel
theorem dX2_tell_66 : decode cX2_tell 66 = .ok (.iconst 1, 1) := by decide +kernel
theorem dX2_tell_67 : decode cX2_tell 67 = .ok (.if_icmp .ne 10, 3) := by decide +kernel
theorem dX2_tell_70 : decode cX2_tell 70 = .ok (.aload_n 0, 1) := by decide +kernel
theorem dX2_tell_71 : decode cX2_tell 71 = .ok (.getfield 38, 3) := by decide +kernel
theorem dX2_tell_74 : decode cX2_tell 74 = .ok (.goto 4, 3) := by decide +kernel
theorem dX2_tell_77 : decode cX2_tell 77 = .ok (.iconst 0, 1) := by decide +kernel
theorem dX2_tell_78 : decode cX2_tell 78 = .ok (.ireturn, 1) := by decide +kernel
theorem dX2_tell_79 : decode cX2_tell 79 = .ok (.aload_n 0, 1) := by decide +kernel
theorem dX2_tell_80 : decode cX2_tell 80 = .ok (.getfield 22, 3) := by decide +kernel
theorem dX2_tell_83 : decode cX2_tell 83 = .ok (.ireturn, 1) := by decide +kernel
theorem dX2_tell_84 : decode cX2_tell 84 = .ok (.aload_n 0, 1) := by decide +kernel
theorem dX2_tell_85 : decode cX2_tell 85 = .ok (.getfield 47, 3) := by decide +kernel
theorem dX2_tell_88 : decode cX2_tell 88 = .ok (.ireturn, 1) := by decide +kernel
theorem dX2_tell_89 : decode cX2_tell 89 = .ok (.aload_n 0, 1) := by decide +kernel
theorem dX2_tell_90 : decode cX2_tell 90 = .ok (.getfield 62, 3) := by decide +kernel
theorem dX2_tell_93 : decode cX2_tell 93 = .ok (.ireturn, 1) := by decide +kernel
theorem dX2_tell_94 : decode cX2_tell 94 = .ok (.aload_n 0, 1) := by decide +kernel
theorem dX2_tell_95 : decode cX2_tell 95 = .ok (.invokevirtual 58, 3) := by decide +kernel
theorem dX2_tell_98 : decode cX2_tell 98 = .ok (.ifCond .eq 7, 3) := by decide +kernel
theorem dX2_tell_101 : decode cX2_tell 101 = .ok (.iconst 1, 1) := by decide +kernel
theorem dX2_tell_102 : decode cX2_tell 102 = .ok (.goto 4, 3) := by decide +kernel
theorem dX2_tell_105 : decode cX2_tell 105 = .ok (.iconst 0, 1) := by decide +kernel
theorem dX2_tell_106 : decode cX2_tell 106 = .ok (.ireturn, 1) := by decide +kernel
theorem dX3_init_0 : decode cX3_init 0 = .ok (.aload_n 0, 1) := by decide +kernel
theorem dX3_init_1 : decode cX3_init 1 = .ok (.invokespecial 3, 3) := by decide +kernel
theorem dX3_init_4 : decode cX3_init 4 = .ok (.aload_n 0, 1) := by decide +kernel
theorem dX3_init_5 : decode cX3_init 5 = .ok (.bipush 8, 2) := by decide +kernel
theorem dX3_init_7 : decode cX3_init 7 = .ok (.anewarray 9, 3) := by decide +kernel
theorem dX3_init_10 : decode cX3_init 10 = .ok (.putfield 11, 3) := by decide +kernel
theorem dX3_init_13 : decode cX3_init 13 = .ok (.aload_n 0, 1) := by decide +kernel
theorem dX3_init_14 : decode cX3_init 14 = .ok (.bipush 8, 2) := by decide +kernel
theorem dX3_init_16 : decode cX3_init 16 = .ok (.bipush 8, 2) := by decide +kernel
theorem dX3_init_18 : decode cX3_init 18 = .ok (.multianewarray 17 2, 4) := by decide +kernel
theorem dX3_init_22 : decode cX3_init 22 = .ok (.putfield 19, 3) := by decide +kernel
theorem dX3_init_25 : decode cX3_init 25 = .ok (.aload_n 0, 1) := by decide +kernel
theorem dX3_init_26 : decode cX3_init 26 = .ok (.bipush 6, 2) := by decide +kernel
theorem dX3_init_28 : decode cX3_init 28 = .ok (.newarray .int, 2) := by decide +kernel
theorem dX3_init_30 : decode cX3_init 30 = .ok (.putfield 22, 3) := by decide +kernel
theorem dX3_init_33 : decode cX3_init 33 = .ok (.iconst 0, 1) := by decide +kernel
theorem dX3_init_34 : decode cX3_init 34 = .ok (.istore_n 1, 1) := by decide +kernel
theorem dX3_init_35 : decode cX3_init 35 = .ok (.iload_n 1, 1) := by decide +kernel
theorem dX3_init_36 : decode cX3_init 36 = .ok (.aload_n 0, 1) := by decide +kernel
theorem dX3_init_37 : decode cX3_init 37 = .ok (.getfield 11, 3) := by decide +kernel
theorem dX3_init_40 : decode cX3_init 40 = .ok (.arraylength, 1) := by decide +kernel
theorem dX3_init_41 : decode cX3_init 41 = .ok (.if_icmp .ge 22, 3) := by decide +kernel
theorem dX3_init_44 : decode cX3_init 44 = .ok (.aload_n 0, 1) := by decide +kernel
theorem dX3_init_45 : decode cX3_init 45 = .ok (.getfield 11, 3) := by decide +kernel
theorem dX3_init_48 : decode cX3_init 48 = .ok (.iload_n 1, 1) := by decide +kernel
theorem dX3_init_49 : decode cX3_init 49 = .ok (.new 9, 3) := by decide +kernel
theorem dX3_init_52 : decode cX3_init 52 = .ok (.dup, 1) := by decide +kernel
theorem dX3_init_53 : decode cX3_init 53 = .ok (.invokespecial 26, 3) := by decide +kernel
theorem dX3_init_56 : decode cX3_init 56 = .ok (.aastore, 1) := by decide +kernel
theorem dX3_init_57 : decode cX3_init 57 = .ok (.iinc 1 1, 3) := by decide +kernel
theorem dX3_init_60 : decode cX3_init 60 = .ok (.goto (-25), 3) := by decide +kernel
theorem dX3_init_63 : decode cX3_init 63 = .ok (.return_, 1) := by decide +kernel
theorem dX3_addPhase_0 : decode cX3_addPhase 0 = .ok (.aload_n 0, 1) := by decide +kernel
theorem dX3_addPhase_1 : decode cX3_addPhase 1 = .ok (.getfield 11, 3) := by decide +kernel
theorem dX3_addPhase_4 : decode cX3_addPhase 4 = .ok (.aload_n 0, 1) := by decide +kernel
theorem dX3_addPhase_5 : decode cX3_addPhase 5 = .ok (.getfield 27, 3) := by decide +kernel
theorem dX3_addPhase_8 : decode cX3_addPhase 8 = .ok (.aaload, 1) := by decide +kernel
theorem dX3_addPhase_9 : decode cX3_addPhase 9 = .ok (.astore 4, 2) := by decide +kernel
theorem dX3_addPhase_11 : decode cX3_addPhase 11 = .ok (.aload 4, 2) := by decide +kernel
theorem dX3_addPhase_13 : decode cX3_addPhase 13 = .ok (.iload_n 1, 1) := by decide +kernel
theorem dX3_addPhase_14 : decode cX3_addPhase 14 = .ok (.putfield 31, 3) := by decide +kernel
theorem dX3_addPhase_17 : decode cX3_addPhase 17 = .ok (.aload 4, 2) := by decide +kernel
theorem dX3_addPhase_19 : decode cX3_addPhase 19 = .ok (.iload_n 2, 1) := by decide +kernel
theorem dX3_addPhase_20 : decode cX3_addPhase 20 = .ok (.putfield 34, 3) := by decide +kernel
theorem dX3_addPhase_23 : decode cX3_addPhase 23 = .ok (.aload 4, 2) := by decide +kernel
theorem dX3_addPhase_25 : decode cX3_addPhase 25 = .ok (.iload_n 3, 1) := by decide +kernel
theorem dX3_addPhase_26 : decode cX3_addPhase 26 = .ok (.putfield 37, 3) := by decide +kernel
theorem dX3_addPhase_29 : decode cX3_addPhase 29 = .ok (.aload_n 0, 1) := by decide +kernel
theorem dX3_addPhase_30 : decode cX3_addPhase 30 = .ok (.dup, 1) := by decide +kernel
theorem dX3_addPhase_31 : decode cX3_addPhase 31 = .ok (.getfield 27, 3) := by decide +kernel
theorem dX3_addPhase_34 : decode cX3_addPhase 34 = .ok (.dup_x1, 1) := by decide +kernel
theorem dX3_addPhase_35 : decode cX3_addPhase 35 = .ok (.iconst 1, 1) := by decide +kernel
theorem dX3_addPhase_36 : decode cX3_addPhase 36 = .ok (.iadd, 1) := by decide +kernel
theorem dX3_addPhase_37 : decode cX3_addPhase 37 = .ok (.putfield 27, 3) := by decide +kernel
theorem dX3_addPhase_40 : decode cX3_addPhase 40 = .ok (.ireturn, 1) := by decide +kernel
theorem dX3_setBetween_0 : decode cX3_setBetween 0 = .ok (.aload_n 0, 1) := by decide +kernel
theorem dX3_setBetween_1 : decode cX3_setBetween 1 = .ok (.getfield 19, 3) := by decide +kernel
theorem dX3_setBetween_4 : decode cX3_setBetween 4 = .ok (.iload_n 1, 1) := by decide +kernel
theorem dX3_setBetween_5 : decode cX3_setBetween 5 = .ok (.aaload, 1) := by decide +kernel
theorem dX3_setBetween_6 : decode cX3_setBetween 6 = .ok (.iload_n 2, 1) := by decide +kernel
theorem dX3_setBetween_7 : decode cX3_setBetween 7 = .ok (.iload_n 3, 1) := by decide +kernel
theorem dX3_setBetween_8 : decode cX3_setBetween 8 = .ok (.iastore, 1) := by decide +kernel
theorem dX3_setBetween_9 : decode cX3_setBetween 9 = .ok (.return_, 1) := by decide +kernel
theorem dX3_areMeeting_0 : decode cX3_areMeeting 0 = .ok (.aload_n 0, 1) := by decide +kernel
theorem dX3_areMeeting_1 : decode cX3_areMeeting 1 = .ok (.getfield 19, 3) := by decide +kernel
theorem dX3_areMeeting_4 : decode cX3_areMeeting 4 = .ok (.iload_n 1, 1) := by decide +kernel
theorem dX3_areMeeting_5 : decode cX3_areMeeting 5 = .ok (.aaload, 1) := by decide +kernel
theorem dX3_areMeeting_6 : decode cX3_areMeeting 6 = .ok (.iload_n 2, 1) := by decide +kernel
theorem dX3_areMeeting_7 : decode cX3_areMeeting 7 = .ok (.iaload, 1) := by decide +kernel
theorem dX3_areMeeting_8 : decode cX3_areMeeting 8 = .ok (.ifCond .le 7, 3) := by decide +kernel
theorem dX3_areMeeting_11 : decode cX3_areMeeting 11 = .ok (.iconst 1, 1) := by decide +kernel
theorem dX3_areMeeting_12 : decode cX3_areMeeting 12 = .ok (.goto 4, 3) := by decide +kernel
theorem dX3_areMeeting_15 : decode cX3_areMeeting 15 = .ok (.iconst 0, 1) := by decide +kernel
theorem dX3_areMeeting_16 : decode cX3_areMeeting 16 = .ok (.ireturn, 1) := by decide +kernel
theorem dX3_setOf_0 : decode cX3_setOf 0 = .ok (.iload_n 1, 1) := by decide +kernel
theorem dX3_setOf_1 : decode cX3_setOf 1 = .ok (.iconst 0, 1) := by decide +kernel
theorem dX3_setOf_2 : decode cX3_setOf 2 = .ok (.aload_n 0, 1) := by decide +kernel
theorem dX3_setOf_3 : decode cX3_setOf 3 = .ok (.getfield 40, 3) := by decide +kernel
theorem dX3_setOf_6 : decode cX3_setOf 6 = .ok (.iconst 1, 1) := by decide +kernel
theorem dX3_setOf_7 : decode cX3_setOf 7 = .ok (.isub, 1) := by decide +kernel
theorem dX3_setOf_8 : decode cX3_setOf 8 = .ok (.invokestatic 43, 3) := by decide +kernel
theorem dX3_setOf_11 : decode cX3_setOf 11 = .ok (.ifCond .eq 12, 3) := by decide +kernel
theorem dX3_setOf_14 : decode cX3_setOf 14 = .ok (.aload_n 0, 1) := by decide +kernel
theorem dX3_setOf_15 : decode cX3_setOf 15 = .ok (.getfield 22, 3) := by decide +kernel
theorem dX3_setOf_18 : decode cX3_setOf 18 = .ok (.iload_n 1, 1) := by decide +kernel
theorem dX3_setOf_19 : decode cX3_setOf 19 = .ok (.iaload, 1) := by decide +kernel
theorem dX3_setOf_20 : decode cX3_setOf 20 = .ok (.goto 4, 3) := by decide +kernel
theorem dX3_setOf_23 : decode cX3_setOf 23 = .ok (.iconst 0, 1) := by decide +kernel
theorem dX3_setOf_24 : decode cX3_setOf 24 = .ok (.ireturn, 1) := by decide +kernel
theorem dX3_addStage_0 : decode cX3_addStage 0 = .ok (.aload_n 0, 1) := by decide +kernel
theorem dX3_addStage_1 : decode cX3_addStage 1 = .ok (.getfield 22, 3) := by decide +kernel
theorem dX3_addStage_4 : decode cX3_addStage 4 = .ok (.aload_n 0, 1) := by decide +kernel
theorem dX3_addStage_5 : decode cX3_addStage 5 = .ok (.getfield 40, 3) := by decide +kernel
theorem dX3_addStage_8 : decode cX3_addStage 8 = .ok (.iload_n 1, 1) := by decide +kernel
theorem dX3_addStage_9 : decode cX3_addStage 9 = .ok (.iastore, 1) := by decide +kernel
theorem dX3_addStage_10 : decode cX3_addStage 10 = .ok (.aload_n 0, 1) := by decide +kernel
theorem dX3_addStage_11 : decode cX3_addStage 11 = .ok (.dup, 1) := by decide +kernel
theorem dX3_addStage_12 : decode cX3_addStage 12 = .ok (.getfield 40, 3) := by decide +kernel
theorem dX3_addStage_15 : decode cX3_addStage 15 = .ok (.dup_x1, 1) := by decide +kernel
theorem dX3_addStage_16 : decode cX3_addStage 16 = .ok (.iconst 1, 1) := by decide +kernel
theorem dX3_addStage_17 : decode cX3_addStage 17 = .ok (.iadd, 1) := by decide +kernel
theorem dX3_addStage_18 : decode cX3_addStage 18 = .ok (.putfield 40, 3) := by decide +kernel
theorem dX3_addStage_21 : decode cX3_addStage 21 = .ok (.ireturn, 1) := by decide +kernel
theorem dX3_hasStageWithBoth_0 : decode cX3_hasStageWithBoth 0 = .ok (.iconst 0, 1) := by decide +kernel
theorem dX3_hasStageWithBoth_1 : decode cX3_hasStageWithBoth 1 = .ok (.istore_n 3, 1) := by decide +kernel
theorem dX3_hasStageWithBoth_2 : decode cX3_hasStageWithBoth 2 = .ok (.iload_n 3, 1) := by decide +kernel
theorem dX3_hasStageWithBoth_3 : decode cX3_hasStageWithBoth 3 = .ok (.aload_n 0, 1) := by decide +kernel
theorem dX3_hasStageWithBoth_4 : decode cX3_hasStageWithBoth 4 = .ok (.getfield 40, 3) := by decide +kernel
theorem dX3_hasStageWithBoth_7 : decode cX3_hasStageWithBoth 7 = .ok (.if_icmp .ge 35, 3) := by decide +kernel
theorem dX3_hasStageWithBoth_10 : decode cX3_hasStageWithBoth 10 = .ok (.aload_n 0, 1) := by decide +kernel
theorem dX3_hasStageWithBoth_11 : decode cX3_hasStageWithBoth 11 = .ok (.iload_n 3, 1) := by decide +kernel
theorem dX3_hasStageWithBoth_12 : decode cX3_hasStageWithBoth 12 = .ok (.invokevirtual 47, 3) := by decide +kernel
theorem dX3_hasStageWithBoth_15 : decode cX3_hasStageWithBoth 15 = .ok (.iload_n 1, 1) := by decide +kernel
theorem dX3_hasStageWithBoth_16 : decode cX3_hasStageWithBoth 16 = .ok (.invokestatic 51, 3) := by decide +kernel
theorem dX3_hasStageWithBoth_19 : decode cX3_hasStageWithBoth 19 = .ok (.ifCond .eq 17, 3) := by decide +kernel
theorem dX3_hasStageWithBoth_22 : decode cX3_hasStageWithBoth 22 = .ok (.aload_n 0, 1) := by decide +kernel
theorem dX3_hasStageWithBoth_23 : decode cX3_hasStageWithBoth 23 = .ok (.iload_n 3, 1) := by decide +kernel
theorem dX3_hasStageWithBoth_24 : decode cX3_hasStageWithBoth 24 = .ok (.invokevirtual 47, 3) := by decide +kernel
theorem dX3_hasStageWithBoth_27 : decode cX3_hasStageWithBoth 27 = .ok (.iload_n 2, 1) := by decide +kernel
theorem dX3_hasStageWithBoth_28 : decode cX3_hasStageWithBoth 28 = .ok (.invokestatic 51, 3) := by decide +kernel
theorem dX3_hasStageWithBoth_31 : decode cX3_hasStageWithBoth 31 = .ok (.ifCond .eq 5, 3) := by decide +kernel
theorem dX3_hasStageWithBoth_34 : decode cX3_hasStageWithBoth 34 = .ok (.iconst 1, 1) := by decide +kernel
theorem dX3_hasStageWithBoth_35 : decode cX3_hasStageWithBoth 35 = .ok (.ireturn, 1) := by decide +kernel
theorem dX3_hasStageWithBoth_36 : decode cX3_hasStageWithBoth 36 = .ok (.iinc 3 1, 3) := by decide +kernel
theorem dX3_hasStageWithBoth_39 : decode cX3_hasStageWithBoth 39 = .ok (.goto (-37), 3) := by decide +kernel
theorem dX3_hasStageWithBoth_42 : decode cX3_hasStageWithBoth 42 = .ok (.iconst 0, 1) := by decide +kernel
theorem dX3_hasStageWithBoth_43 : decode cX3_hasStageWithBoth 43 = .ok (.ireturn, 1) := by decide +kernel
theorem dX3_hasTwoThatMeet_0 : decode cX3_hasTwoThatMeet 0 = .ok (.iconst 0, 1) := by decide +kernel
theorem dX3_hasTwoThatMeet_1 : decode cX3_hasTwoThatMeet 1 = .ok (.istore_n 2, 1) := by decide +kernel
theorem dX3_hasTwoThatMeet_2 : decode cX3_hasTwoThatMeet 2 = .ok (.iload_n 2, 1) := by decide +kernel
theorem dX3_hasTwoThatMeet_3 : decode cX3_hasTwoThatMeet 3 = .ok (.aload_n 0, 1) := by decide +kernel
theorem dX3_hasTwoThatMeet_4 : decode cX3_hasTwoThatMeet 4 = .ok (.getfield 27, 3) := by decide +kernel
theorem dX3_hasTwoThatMeet_7 : decode cX3_hasTwoThatMeet 7 = .ok (.if_icmp .ge 28, 3) := by decide +kernel
theorem dX3_hasTwoThatMeet_10 : decode cX3_hasTwoThatMeet 10 = .ok (.iload_n 1, 1) := by decide +kernel
theorem dX3_hasTwoThatMeet_11 : decode cX3_hasTwoThatMeet 11 = .ok (.iload_n 2, 1) := by decide +kernel
theorem dX3_hasTwoThatMeet_12 : decode cX3_hasTwoThatMeet 12 = .ok (.invokestatic 51, 3) := by decide +kernel
theorem dX3_hasTwoThatMeet_15 : decode cX3_hasTwoThatMeet 15 = .ok (.ifCond .eq 14, 3) := by decide +kernel
theorem dX3_hasTwoThatMeet_18 : decode cX3_hasTwoThatMeet 18 = .ok (.aload_n 0, 1) := by decide +kernel
theorem dX3_hasTwoThatMeet_19 : decode cX3_hasTwoThatMeet 19 = .ok (.iload_n 2, 1) := by decide +kernel
theorem dX3_hasTwoThatMeet_20 : decode cX3_hasTwoThatMeet 20 = .ok (.iload_n 1, 1) := by decide +kernel
theorem dX3_hasTwoThatMeet_21 : decode cX3_hasTwoThatMeet 21 = .ok (.invokevirtual 55, 3) := by decide +kernel
theorem dX3_hasTwoThatMeet_24 : decode cX3_hasTwoThatMeet 24 = .ok (.ifCond .le 5, 3) := by decide +kernel
theorem dX3_hasTwoThatMeet_27 : decode cX3_hasTwoThatMeet 27 = .ok (.iconst 1, 1) := by decide +kernel
theorem dX3_hasTwoThatMeet_28 : decode cX3_hasTwoThatMeet 28 = .ok (.ireturn, 1) := by decide +kernel
theorem dX3_hasTwoThatMeet_29 : decode cX3_hasTwoThatMeet 29 = .ok (.iinc 2 1, 3) := by decide +kernel
theorem dX3_hasTwoThatMeet_32 : decode cX3_hasTwoThatMeet 32 = .ok (.goto (-30), 3) := by decide +kernel
theorem dX3_hasTwoThatMeet_35 : decode cX3_hasTwoThatMeet 35 = .ok (.iconst 0, 1) := by decide +kernel
theorem dX3_hasTwoThatMeet_36 : decode cX3_hasTwoThatMeet 36 = .ok (.ireturn, 1) := by decide +kernel
theorem dX3_mostBetween_0 : decode cX3_mostBetween 0 = .ok (.iconst 0, 1) := by decide +kernel
theorem dX3_mostBetween_1 : decode cX3_mostBetween 1 = .ok (.istore_n 3, 1) := by decide +kernel
theorem dX3_mostBetween_2 : decode cX3_mostBetween 2 = .ok (.iconst 0, 1) := by decide +kernel
theorem dX3_mostBetween_3 : decode cX3_mostBetween 3 = .ok (.istore 4, 2) := by decide +kernel
theorem dX3_mostBetween_5 : decode cX3_mostBetween 5 = .ok (.iload 4, 2) := by decide +kernel
theorem dX3_mostBetween_7 : decode cX3_mostBetween 7 = .ok (.aload_n 0, 1) := by decide +kernel
theorem dX3_mostBetween_8 : decode cX3_mostBetween 8 = .ok (.getfield 27, 3) := by decide +kernel
theorem dX3_mostBetween_11 : decode cX3_mostBetween 11 = .ok (.if_icmp .ge 32, 3) := by decide +kernel
theorem dX3_mostBetween_14 : decode cX3_mostBetween 14 = .ok (.iload_n 2, 1) := by decide +kernel
theorem dX3_mostBetween_15 : decode cX3_mostBetween 15 = .ok (.iload 4, 2) := by decide +kernel
theorem dX3_mostBetween_17 : decode cX3_mostBetween 17 = .ok (.invokestatic 51, 3) := by decide +kernel
theorem dX3_mostBetween_20 : decode cX3_mostBetween 20 = .ok (.ifCond .eq 17, 3) := by decide +kernel
theorem dX3_mostBetween_23 : decode cX3_mostBetween 23 = .ok (.iload_n 3, 1) := by decide +kernel
theorem dX3_mostBetween_24 : decode cX3_mostBetween 24 = .ok (.aload_n 0, 1) := by decide +kernel
theorem dX3_mostBetween_25 : decode cX3_mostBetween 25 = .ok (.getfield 19, 3) := by decide +kernel
theorem dX3_mostBetween_28 : decode cX3_mostBetween 28 = .ok (.iload_n 1, 1) := by decide +kernel
theorem dX3_mostBetween_29 : decode cX3_mostBetween 29 = .ok (.aaload, 1) := by decide +kernel
theorem dX3_mostBetween_30 : decode cX3_mostBetween 30 = .ok (.iload 4, 2) := by decide +kernel
theorem dX3_mostBetween_32 : decode cX3_mostBetween 32 = .ok (.iaload, 1) := by decide +kernel
theorem dX3_mostBetween_33 : decode cX3_mostBetween 33 = .ok (.invokestatic 59, 3) := by decide +kernel
theorem dX3_mostBetween_36 : decode cX3_mostBetween 36 = .ok (.istore_n 3, 1) := by decide +kernel
theorem dX3_mostBetween_37 : decode cX3_mostBetween 37 = .ok (.iinc 4 1, 3) := by decide +kernel
theorem dX3_mostBetween_40 : decode cX3_mostBetween 40 = .ok (.goto (-35), 3) := by decide +kernel
theorem dX3_mostBetween_43 : decode cX3_mostBetween 43 = .ok (.iload_n 3, 1) := by decide +kernel
theorem dX3_mostBetween_44 : decode cX3_mostBetween 44 = .ok (.ireturn, 1) := by decide +kernel
theorem dX3_secondsToChange_0 : decode cX3_secondsToChange 0 = .ok (.aload_n 0, 1) := by decide +kernel
theorem dX3_secondsToChange_1 : decode cX3_secondsToChange 1 = .ok (.iload_n 1, 1) := by decide +kernel
theorem dX3_secondsToChange_2 : decode cX3_secondsToChange 2 = .ok (.invokevirtual 47, 3) := by decide +kernel
theorem dX3_secondsToChange_5 : decode cX3_secondsToChange 5 = .ok (.aload_n 0, 1) := by decide +kernel
theorem dX3_secondsToChange_6 : decode cX3_secondsToChange 6 = .ok (.iload_n 2, 1) := by decide +kernel
theorem dX3_secondsToChange_7 : decode cX3_secondsToChange 7 = .ok (.invokevirtual 47, 3) := by decide +kernel
theorem dX3_secondsToChange_10 : decode cX3_secondsToChange 10 = .ok (.iconst (-1), 1) := by decide +kernel
theorem dX3_secondsToChange_11 : decode cX3_secondsToChange 11 = .ok (.ixor, 1) := by decide +kernel
theorem dX3_secondsToChange_12 : decode cX3_secondsToChange 12 = .ok (.iand, 1) := by decide +kernel
theorem dX3_secondsToChange_13 : decode cX3_secondsToChange 13 = .ok (.istore_n 3, 1) := by decide +kernel
theorem dX3_secondsToChange_14 : decode cX3_secondsToChange 14 = .ok (.aload_n 0, 1) := by decide +kernel
theorem dX3_secondsToChange_15 : decode cX3_secondsToChange 15 = .ok (.iload_n 2, 1) := by decide +kernel
theorem dX3_secondsToChange_16 : decode cX3_secondsToChange 16 = .ok (.invokevirtual 47, 3) := by decide +kernel
theorem dX3_secondsToChange_19 : decode cX3_secondsToChange 19 = .ok (.aload_n 0, 1) := by decide +kernel
theorem dX3_secondsToChange_20 : decode cX3_secondsToChange 20 = .ok (.iload_n 1, 1) := by decide +kernel
theorem dX3_secondsToChange_21 : decode cX3_secondsToChange 21 = .ok (.invokevirtual 47, 3) := by decide +kernel
theorem dX3_secondsToChange_24 : decode cX3_secondsToChange 24 = .ok (.iconst (-1), 1) := by decide +kernel
theorem dX3_secondsToChange_25 : decode cX3_secondsToChange 25 = .ok (.ixor, 1) := by decide +kernel
theorem dX3_secondsToChange_26 : decode cX3_secondsToChange 26 = .ok (.iand, 1) := by decide +kernel
theorem dX3_secondsToChange_27 : decode cX3_secondsToChange 27 = .ok (.istore 4, 2) := by decide +kernel
theorem dX3_secondsToChange_29 : decode cX3_secondsToChange 29 = .ok (.iconst 0, 1) := by decide +kernel
theorem dX3_secondsToChange_30 : decode cX3_secondsToChange 30 = .ok (.istore 5, 2) := by decide +kernel
theorem dX3_secondsToChange_32 : decode cX3_secondsToChange 32 = .ok (.iconst 0, 1) := by decide +kernel
theorem dX3_secondsToChange_33 : decode cX3_secondsToChange 33 = .ok (.istore 6, 2) := by decide +kernel
theorem dX3_secondsToChange_35 : decode cX3_secondsToChange 35 = .ok (.iload 6, 2) := by decide +kernel
theorem dX3_secondsToChange_37 : decode cX3_secondsToChange 37 = .ok (.aload_n 0, 1) := by decide +kernel
theorem dX3_secondsToChange_38 : decode cX3_secondsToChange 38 = .ok (.getfield 27, 3) := by decide +kernel
theorem dX3_secondsToChange_41 : decode cX3_secondsToChange 41 = .ok (.if_icmp .ge 33, 3) := by decide +kernel
theorem dX3_secondsToChange_44 : decode cX3_secondsToChange 44 = .ok (.iload_n 3, 1) := by decide +kernel
theorem dX3_secondsToChange_45 : decode cX3_secondsToChange 45 = .ok (.iload 6, 2) := by decide +kernel
theorem dX3_secondsToChange_47 : decode cX3_secondsToChange 47 = .ok (.invokestatic 51, 3) := by decide +kernel
theorem dX3_secondsToChange_50 : decode cX3_secondsToChange 50 = .ok (.ifCond .eq 18, 3) := by decide +kernel
theorem dX3_secondsToChange_53 : decode cX3_secondsToChange 53 = .ok (.iload 5, 2) := by decide +kernel
theorem dX3_secondsToChange_55 : decode cX3_secondsToChange 55 = .ok (.aload_n 0, 1) := by decide +kernel
theorem dX3_secondsToChange_56 : decode cX3_secondsToChange 56 = .ok (.iload 6, 2) := by decide +kernel
theorem dX3_secondsToChange_58 : decode cX3_secondsToChange 58 = .ok (.iload 4, 2) := by decide +kernel
theorem dX3_secondsToChange_60 : decode cX3_secondsToChange 60 = .ok (.invokevirtual 55, 3) := by decide +kernel
theorem dX3_secondsToChange_63 : decode cX3_secondsToChange 63 = .ok (.invokestatic 59, 3) := by decide +kernel
theorem dX3_secondsToChange_66 : decode cX3_secondsToChange 66 = .ok (.istore 5, 2) := by decide +kernel
theorem dX3_secondsToChange_68 : decode cX3_secondsToChange 68 = .ok (.iinc 6 1, 3) := by decide +kernel
theorem dX3_secondsToChange_71 : decode cX3_secondsToChange 71 = .ok (.goto (-36), 3) := by decide +kernel
theorem dX3_secondsToChange_74 : decode cX3_secondsToChange 74 = .ok (.iload 5, 2) := by decide +kernel
theorem dX3_secondsToChange_76 : decode cX3_secondsToChange 76 = .ok (.ireturn, 1) := by decide +kernel
theorem dX3_greatestLeast_0 : decode cX3_greatestLeast 0 = .ok (.iconst 0, 1) := by decide +kernel
theorem dX3_greatestLeast_1 : decode cX3_greatestLeast 1 = .ok (.istore_n 2, 1) := by decide +kernel
theorem dX3_greatestLeast_2 : decode cX3_greatestLeast 2 = .ok (.iconst 0, 1) := by decide +kernel
theorem dX3_greatestLeast_3 : decode cX3_greatestLeast 3 = .ok (.istore_n 3, 1) := by decide +kernel
theorem dX3_greatestLeast_4 : decode cX3_greatestLeast 4 = .ok (.iload_n 3, 1) := by decide +kernel
theorem dX3_greatestLeast_5 : decode cX3_greatestLeast 5 = .ok (.aload_n 0, 1) := by decide +kernel
theorem dX3_greatestLeast_6 : decode cX3_greatestLeast 6 = .ok (.getfield 27, 3) := by decide +kernel
theorem dX3_greatestLeast_9 : decode cX3_greatestLeast 9 = .ok (.if_icmp .ge 35, 3) := by decide +kernel
theorem dX3_greatestLeast_12 : decode cX3_greatestLeast 12 = .ok (.aload_n 0, 1) := by decide +kernel
theorem dX3_greatestLeast_13 : decode cX3_greatestLeast 13 = .ok (.iload_n 1, 1) := by decide +kernel
theorem dX3_greatestLeast_14 : decode cX3_greatestLeast 14 = .ok (.invokevirtual 47, 3) := by decide +kernel
theorem dX3_greatestLeast_17 : decode cX3_greatestLeast 17 = .ok (.iload_n 3, 1) := by decide +kernel
theorem dX3_greatestLeast_18 : decode cX3_greatestLeast 18 = .ok (.invokestatic 51, 3) := by decide +kernel
theorem dX3_greatestLeast_21 : decode cX3_greatestLeast 21 = .ok (.ifCond .eq 17, 3) := by decide +kernel
theorem dX3_greatestLeast_24 : decode cX3_greatestLeast 24 = .ok (.iload_n 2, 1) := by decide +kernel
theorem dX3_greatestLeast_25 : decode cX3_greatestLeast 25 = .ok (.aload_n 0, 1) := by decide +kernel
theorem dX3_greatestLeast_26 : decode cX3_greatestLeast 26 = .ok (.getfield 11, 3) := by decide +kernel
theorem dX3_greatestLeast_29 : decode cX3_greatestLeast 29 = .ok (.iload_n 3, 1) := by decide +kernel
theorem dX3_greatestLeast_30 : decode cX3_greatestLeast 30 = .ok (.aaload, 1) := by decide +kernel
theorem dX3_greatestLeast_31 : decode cX3_greatestLeast 31 = .ok (.getfield 31, 3) := by decide +kernel
theorem dX3_greatestLeast_34 : decode cX3_greatestLeast 34 = .ok (.invokestatic 59, 3) := by decide +kernel
theorem dX3_greatestLeast_37 : decode cX3_greatestLeast 37 = .ok (.istore_n 2, 1) := by decide +kernel
theorem dX3_greatestLeast_38 : decode cX3_greatestLeast 38 = .ok (.iinc 3 1, 3) := by decide +kernel
theorem dX3_greatestLeast_41 : decode cX3_greatestLeast 41 = .ok (.goto (-37), 3) := by decide +kernel
theorem dX3_greatestLeast_44 : decode cX3_greatestLeast 44 = .ok (.iload_n 2, 1) := by decide +kernel
theorem dX3_greatestLeast_45 : decode cX3_greatestLeast 45 = .ok (.ireturn, 1) := by decide +kernel
theorem dX3_demandedSet_0 : decode cX3_demandedSet 0 = .ok (.iconst 0, 1) := by decide +kernel
theorem dX3_demandedSet_1 : decode cX3_demandedSet 1 = .ok (.istore_n 1, 1) := by decide +kernel
theorem dX3_demandedSet_2 : decode cX3_demandedSet 2 = .ok (.iconst 0, 1) := by decide +kernel
theorem dX3_demandedSet_3 : decode cX3_demandedSet 3 = .ok (.istore_n 2, 1) := by decide +kernel
theorem dX3_demandedSet_4 : decode cX3_demandedSet 4 = .ok (.iload_n 2, 1) := by decide +kernel
theorem dX3_demandedSet_5 : decode cX3_demandedSet 5 = .ok (.aload_n 0, 1) := by decide +kernel
theorem dX3_demandedSet_6 : decode cX3_demandedSet 6 = .ok (.getfield 27, 3) := by decide +kernel
theorem dX3_demandedSet_9 : decode cX3_demandedSet 9 = .ok (.if_icmp .ge 27, 3) := by decide +kernel
theorem dX3_demandedSet_12 : decode cX3_demandedSet 12 = .ok (.aload_n 0, 1) := by decide +kernel
theorem dX3_demandedSet_13 : decode cX3_demandedSet 13 = .ok (.getfield 11, 3) := by decide +kernel
theorem dX3_demandedSet_16 : decode cX3_demandedSet 16 = .ok (.iload_n 2, 1) := by decide +kernel
theorem dX3_demandedSet_17 : decode cX3_demandedSet 17 = .ok (.aaload, 1) := by decide +kernel
theorem dX3_demandedSet_18 : decode cX3_demandedSet 18 = .ok (.invokevirtual 64, 3) := by decide +kernel
theorem dX3_demandedSet_21 : decode cX3_demandedSet 21 = .ok (.ifCond .eq 9, 3) := by decide +kernel
theorem dX3_demandedSet_24 : decode cX3_demandedSet 24 = .ok (.iload_n 1, 1) := by decide +kernel
theorem dX3_demandedSet_25 : decode cX3_demandedSet 25 = .ok (.iconst 1, 1) := by decide +kernel
theorem dX3_demandedSet_26 : decode cX3_demandedSet 26 = .ok (.iload_n 2, 1) := by decide +kernel
theorem dX3_demandedSet_27 : decode cX3_demandedSet 27 = .ok (.ishl, 1) := by decide +kernel
theorem dX3_demandedSet_28 : decode cX3_demandedSet 28 = .ok (.ior, 1) := by decide +kernel
theorem dX3_demandedSet_29 : decode cX3_demandedSet 29 = .ok (.istore_n 1, 1) := by decide +kernel
theorem dX3_demandedSet_30 : decode cX3_demandedSet 30 = .ok (.iinc 2 1, 3) := by decide +kernel
theorem dX3_demandedSet_33 : decode cX3_demandedSet 33 = .ok (.goto (-29), 3) := by decide +kernel
theorem dX3_demandedSet_36 : decode cX3_demandedSet 36 = .ok (.iload_n 1, 1) := by decide +kernel
theorem dX3_demandedSet_37 : decode cX3_demandedSet 37 = .ok (.ireturn, 1) := by decide +kernel
theorem dX4_init_0 : decode cX4_init 0 = .ok (.aload_n 0, 1) := by decide +kernel
theorem dX4_init_1 : decode cX4_init 1 = .ok (.invokespecial 3, 3) := by decide +kernel
theorem dX4_init_4 : decode cX4_init 4 = .ok (.aload_n 0, 1) := by decide +kernel
theorem dX4_init_5 : decode cX4_init 5 = .ok (.bipush 6, 2) := by decide +kernel
theorem dX4_init_7 : decode cX4_init 7 = .ok (.bipush 6, 2) := by decide +kernel
theorem dX4_init_9 : decode cX4_init 9 = .ok (.multianewarray 9 2, 4) := by decide +kernel
theorem dX4_init_13 : decode cX4_init 13 = .ok (.putfield 11, 3) := by decide +kernel
theorem dX4_init_16 : decode cX4_init 16 = .ok (.aload_n 0, 1) := by decide +kernel
theorem dX4_init_17 : decode cX4_init 17 = .ok (.bipush 64, 2) := by decide +kernel
theorem dX4_init_19 : decode cX4_init 19 = .ok (.bipush 6, 2) := by decide +kernel
theorem dX4_init_21 : decode cX4_init 21 = .ok (.multianewarray 9 2, 4) := by decide +kernel
theorem dX4_init_25 : decode cX4_init 25 = .ok (.putfield 16, 3) := by decide +kernel
theorem dX4_init_28 : decode cX4_init 28 = .ok (.aload_n 0, 1) := by decide +kernel
theorem dX4_init_29 : decode cX4_init 29 = .ok (.aload_n 1, 1) := by decide +kernel
theorem dX4_init_30 : decode cX4_init 30 = .ok (.putfield 19, 3) := by decide +kernel
theorem dX4_init_33 : decode cX4_init 33 = .ok (.return_, 1) := by decide +kernel
theorem dX4_shortest_0 : decode cX4_shortest 0 = .ok (.aload_n 0, 1) := by decide +kernel
theorem dX4_shortest_1 : decode cX4_shortest 1 = .ok (.getfield 19, 3) := by decide +kernel
theorem dX4_shortest_4 : decode cX4_shortest 4 = .ok (.getfield 23, 3) := by decide +kernel
theorem dX4_shortest_7 : decode cX4_shortest 7 = .ok (.ifCond .ne 5, 3) := by decide +kernel
theorem dX4_shortest_10 : decode cX4_shortest 10 = .ok (.iconst (-1), 1) := by decide +kernel
theorem dX4_shortest_11 : decode cX4_shortest 11 = .ok (.ireturn, 1) := by decide +kernel
theorem dX4_shortest_12 : decode cX4_shortest 12 = .ok (.aload_n 0, 1) := by decide +kernel
theorem dX4_shortest_13 : decode cX4_shortest 13 = .ok (.invokevirtual 29, 3) := by decide +kernel
theorem dX4_shortest_16 : decode cX4_shortest 16 = .ok (.aload_n 0, 1) := by decide +kernel
theorem dX4_shortest_17 : decode cX4_shortest 17 = .ok (.invokevirtual 32, 3) := by decide +kernel
theorem dX4_shortest_20 : decode cX4_shortest 20 = .ok (.aload_n 0, 1) := by decide +kernel
theorem dX4_shortest_21 : decode cX4_shortest 21 = .ok (.getfield 16, 3) := by decide +kernel
theorem dX4_shortest_24 : decode cX4_shortest 24 = .ok (.iconst 1, 1) := by decide +kernel
theorem dX4_shortest_25 : decode cX4_shortest 25 = .ok (.aaload, 1) := by decide +kernel
theorem dX4_shortest_26 : decode cX4_shortest 26 = .ok (.iconst 0, 1) := by decide +kernel
theorem dX4_shortest_27 : decode cX4_shortest 27 = .ok (.iaload, 1) := by decide +kernel
theorem dX4_shortest_28 : decode cX4_shortest 28 = .ok (.iadd, 1) := by decide +kernel
theorem dX4_shortest_29 : decode cX4_shortest 29 = .ok (.ireturn, 1) := by decide +kernel
theorem dX4_stageAt_0 : decode cX4_stageAt 0 = .ok (.aload_n 0, 1) := by decide +kernel
theorem dX4_stageAt_1 : decode cX4_stageAt 1 = .ok (.invokevirtual 29, 3) := by decide +kernel
theorem dX4_stageAt_4 : decode cX4_stageAt 4 = .ok (.iconst 0, 1) := by decide +kernel
theorem dX4_stageAt_5 : decode cX4_stageAt 5 = .ok (.istore_n 2, 1) := by decide +kernel
theorem dX4_stageAt_6 : decode cX4_stageAt 6 = .ok (.iconst 1, 1) := by decide +kernel
theorem dX4_stageAt_7 : decode cX4_stageAt 7 = .ok (.istore_n 3, 1) := by decide +kernel
theorem dX4_stageAt_8 : decode cX4_stageAt 8 = .ok (.iconst 0, 1) := by decide +kernel
theorem dX4_stageAt_9 : decode cX4_stageAt 9 = .ok (.istore 4, 2) := by decide +kernel
theorem dX4_stageAt_11 : decode cX4_stageAt 11 = .ok (.iload 4, 2) := by decide +kernel
theorem dX4_stageAt_13 : decode cX4_stageAt 13 = .ok (.iload_n 1, 1) := by decide +kernel
theorem dX4_stageAt_14 : decode cX4_stageAt 14 = .ok (.if_icmp .ge 22, 3) := by decide +kernel
theorem dX4_stageAt_17 : decode cX4_stageAt 17 = .ok (.aload_n 0, 1) := by decide +kernel
theorem dX4_stageAt_18 : decode cX4_stageAt 18 = .ok (.iload_n 2, 1) := by decide +kernel
theorem dX4_stageAt_19 : decode cX4_stageAt 19 = .ok (.iload_n 3, 1) := by decide +kernel
theorem dX4_stageAt_20 : decode cX4_stageAt 20 = .ok (.invokevirtual 36, 3) := by decide +kernel
theorem dX4_stageAt_23 : decode cX4_stageAt 23 = .ok (.istore_n 2, 1) := by decide +kernel
theorem dX4_stageAt_24 : decode cX4_stageAt 24 = .ok (.iload_n 3, 1) := by decide +kernel
theorem dX4_stageAt_25 : decode cX4_stageAt 25 = .ok (.iconst 1, 1) := by decide +kernel
theorem dX4_stageAt_26 : decode cX4_stageAt 26 = .ok (.iload_n 2, 1) := by decide +kernel
theorem dX4_stageAt_27 : decode cX4_stageAt 27 = .ok (.ishl, 1) := by decide +kernel
theorem dX4_stageAt_28 : decode cX4_stageAt 28 = .ok (.ior, 1) := by decide +kernel
theorem dX4_stageAt_29 : decode cX4_stageAt 29 = .ok (.istore_n 3, 1) := by decide +kernel
theorem dX4_stageAt_30 : decode cX4_stageAt 30 = .ok (.iinc 4 1, 3) := by decide +kernel
theorem dX4_stageAt_33 : decode cX4_stageAt 33 = .ok (.goto (-22), 3) := by decide +kernel
theorem dX4_stageAt_36 : decode cX4_stageAt 36 = .ok (.iload_n 2, 1) := by decide +kernel
theorem dX4_stageAt_37 : decode cX4_stageAt 37 = .ok (.ireturn, 1) := by decide +kernel
theorem dX4_shortestOfAll_0 : decode cX4_shortestOfAll 0 = .ok (.aload_n 0, 1) := by decide +kernel
theorem dX4_shortestOfAll_1 : decode cX4_shortestOfAll 1 = .ok (.getfield 19, 3) := by decide +kernel
theorem dX4_shortestOfAll_4 : decode cX4_shortestOfAll 4 = .ok (.getfield 23, 3) := by decide +kernel
theorem dX4_shortestOfAll_7 : decode cX4_shortestOfAll 7 = .ok (.ifCond .ne 5, 3) := by decide +kernel
theorem dX4_shortestOfAll_10 : decode cX4_shortestOfAll 10 = .ok (.iconst (-1), 1) := by decide +kernel
theorem dX4_shortestOfAll_11 : decode cX4_shortestOfAll 11 = .ok (.ireturn, 1) := by decide +kernel
theorem dX4_shortestOfAll_12 : decode cX4_shortestOfAll 12 = .ok (.aload_n 0, 1) := by decide +kernel
theorem dX4_shortestOfAll_13 : decode cX4_shortestOfAll 13 = .ok (.invokevirtual 40, 3) := by decide +kernel
theorem dX4_shortestOfAll_16 : decode cX4_shortestOfAll 16 = .ok (.iconst 1, 1) := by decide +kernel
theorem dX4_shortestOfAll_17 : decode cX4_shortestOfAll 17 = .ok (.istore_n 1, 1) := by decide +kernel
theorem dX4_shortestOfAll_18 : decode cX4_shortestOfAll 18 = .ok (.iconst 2, 1) := by decide +kernel
theorem dX4_shortestOfAll_19 : decode cX4_shortestOfAll 19 = .ok (.istore_n 2, 1) := by decide +kernel
theorem dX4_shortestOfAll_20 : decode cX4_shortestOfAll 20 = .ok (.iload_n 2, 1) := by decide +kernel
theorem dX4_shortestOfAll_21 : decode cX4_shortestOfAll 21 = .ok (.aload_n 0, 1) := by decide +kernel
theorem dX4_shortestOfAll_22 : decode cX4_shortestOfAll 22 = .ok (.getfield 19, 3) := by decide +kernel
theorem dX4_shortestOfAll_25 : decode cX4_shortestOfAll 25 = .ok (.getfield 23, 3) := by decide +kernel
theorem dX4_shortestOfAll_28 : decode cX4_shortestOfAll 28 = .ok (.if_icmp .ge 13, 3) := by decide +kernel
theorem dX4_shortestOfAll_31 : decode cX4_shortestOfAll 31 = .ok (.iload_n 1, 1) := by decide +kernel
theorem dX4_shortestOfAll_32 : decode cX4_shortestOfAll 32 = .ok (.iload_n 2, 1) := by decide +kernel
theorem dX4_shortestOfAll_33 : decode cX4_shortestOfAll 33 = .ok (.imul, 1) := by decide +kernel
theorem dX4_shortestOfAll_34 : decode cX4_shortestOfAll 34 = .ok (.istore_n 1, 1) := by decide +kernel
theorem dX4_shortestOfAll_35 : decode cX4_shortestOfAll 35 = .ok (.iinc 2 1, 3) := by decide +kernel
theorem dX4_shortestOfAll_38 : decode cX4_shortestOfAll 38 = .ok (.goto (-18), 3) := by decide +kernel
theorem dX4_shortestOfAll_41 : decode cX4_shortestOfAll 41 = .ok (.ldc 43, 2) := by decide +kernel
theorem dX4_shortestOfAll_43 : decode cX4_shortestOfAll 43 = .ok (.istore_n 2, 1) := by decide +kernel
theorem dX4_shortestOfAll_44 : decode cX4_shortestOfAll 44 = .ok (.iconst 0, 1) := by decide +kernel
theorem dX4_shortestOfAll_45 : decode cX4_shortestOfAll 45 = .ok (.istore_n 3, 1) := by decide +kernel
theorem dX4_shortestOfAll_46 : decode cX4_shortestOfAll 46 = .ok (.iload_n 3, 1) := by decide +kernel
theorem dX4_shortestOfAll_47 : decode cX4_shortestOfAll 47 = .ok (.iload_n 1, 1) := by decide +kernel
theorem dX4_shortestOfAll_48 : decode cX4_shortestOfAll 48 = .ok (.if_icmp .ge 19, 3) := by decide +kernel
theorem dX4_shortestOfAll_51 : decode cX4_shortestOfAll 51 = .ok (.iload_n 2, 1) := by decide +kernel
theorem dX4_shortestOfAll_52 : decode cX4_shortestOfAll 52 = .ok (.aload_n 0, 1) := by decide +kernel
theorem dX4_shortestOfAll_53 : decode cX4_shortestOfAll 53 = .ok (.iload_n 3, 1) := by decide +kernel
theorem dX4_shortestOfAll_54 : decode cX4_shortestOfAll 54 = .ok (.invokevirtual 44, 3) := by decide +kernel
theorem dX4_shortestOfAll_57 : decode cX4_shortestOfAll 57 = .ok (.invokestatic 48, 3) := by decide +kernel
theorem dX4_shortestOfAll_60 : decode cX4_shortestOfAll 60 = .ok (.istore_n 2, 1) := by decide +kernel
theorem dX4_shortestOfAll_61 : decode cX4_shortestOfAll 61 = .ok (.iinc 3 1, 3) := by decide +kernel
theorem dX4_shortestOfAll_64 : decode cX4_shortestOfAll 64 = .ok (.goto (-18), 3) := by decide +kernel
theorem dX4_shortestOfAll_67 : decode cX4_shortestOfAll 67 = .ok (.aload_n 0, 1) := by decide +kernel
theorem dX4_shortestOfAll_68 : decode cX4_shortestOfAll 68 = .ok (.invokevirtual 32, 3) := by decide +kernel
theorem dX4_shortestOfAll_71 : decode cX4_shortestOfAll 71 = .ok (.iload_n 2, 1) := by decide +kernel
theorem dX4_shortestOfAll_72 : decode cX4_shortestOfAll 72 = .ok (.iadd, 1) := by decide +kernel
theorem dX4_shortestOfAll_73 : decode cX4_shortestOfAll 73 = .ok (.ireturn, 1) := by decide +kernel
theorem dX4_secondsOfGreens_0 : decode cX4_secondsOfGreens 0 = .ok (.iconst 0, 1) := by decide +kernel
theorem dX4_secondsOfGreens_1 : decode cX4_secondsOfGreens 1 = .ok (.istore_n 1, 1) := by decide +kernel
theorem dX4_secondsOfGreens_2 : decode cX4_secondsOfGreens 2 = .ok (.iconst 0, 1) := by decide +kernel
theorem dX4_secondsOfGreens_3 : decode cX4_secondsOfGreens 3 = .ok (.istore_n 2, 1) := by decide +kernel
theorem dX4_secondsOfGreens_4 : decode cX4_secondsOfGreens 4 = .ok (.iload_n 2, 1) := by decide +kernel
theorem dX4_secondsOfGreens_5 : decode cX4_secondsOfGreens 5 = .ok (.aload_n 0, 1) := by decide +kernel
theorem dX4_secondsOfGreens_6 : decode cX4_secondsOfGreens 6 = .ok (.getfield 19, 3) := by decide +kernel
theorem dX4_secondsOfGreens_9 : decode cX4_secondsOfGreens 9 = .ok (.getfield 23, 3) := by decide +kernel
theorem dX4_secondsOfGreens_12 : decode cX4_secondsOfGreens 12 = .ok (.if_icmp .ge 20, 3) := by decide +kernel
theorem dX4_secondsOfGreens_15 : decode cX4_secondsOfGreens 15 = .ok (.iload_n 1, 1) := by decide +kernel
theorem dX4_secondsOfGreens_16 : decode cX4_secondsOfGreens 16 = .ok (.aload_n 0, 1) := by decide +kernel
theorem dX4_secondsOfGreens_17 : decode cX4_secondsOfGreens 17 = .ok (.getfield 19, 3) := by decide +kernel
theorem dX4_secondsOfGreens_20 : decode cX4_secondsOfGreens 20 = .ok (.iload_n 2, 1) := by decide +kernel
theorem dX4_secondsOfGreens_21 : decode cX4_secondsOfGreens 21 = .ok (.invokevirtual 53, 3) := by decide +kernel
theorem dX4_secondsOfGreens_24 : decode cX4_secondsOfGreens 24 = .ok (.iadd, 1) := by decide +kernel
theorem dX4_secondsOfGreens_25 : decode cX4_secondsOfGreens 25 = .ok (.istore_n 1, 1) := by decide +kernel
theorem dX4_secondsOfGreens_26 : decode cX4_secondsOfGreens 26 = .ok (.iinc 2 1, 3) := by decide +kernel
theorem dX4_secondsOfGreens_29 : decode cX4_secondsOfGreens 29 = .ok (.goto (-25), 3) := by decide +kernel
theorem dX4_secondsOfGreens_32 : decode cX4_secondsOfGreens 32 = .ok (.iload_n 1, 1) := by decide +kernel
theorem dX4_secondsOfGreens_33 : decode cX4_secondsOfGreens 33 = .ok (.ireturn, 1) := by decide +kernel
theorem dX4_findChanges_0 : decode cX4_findChanges 0 = .ok (.iconst 0, 1) := by decide +kernel
theorem dX4_findChanges_1 : decode cX4_findChanges 1 = .ok (.istore_n 1, 1) := by decide +kernel
theorem dX4_findChanges_2 : decode cX4_findChanges 2 = .ok (.iload_n 1, 1) := by decide +kernel
theorem dX4_findChanges_3 : decode cX4_findChanges 3 = .ok (.aload_n 0, 1) := by decide +kernel
theorem dX4_findChanges_4 : decode cX4_findChanges 4 = .ok (.getfield 19, 3) := by decide +kernel
theorem dX4_findChanges_7 : decode cX4_findChanges 7 = .ok (.getfield 23, 3) := by decide +kernel
theorem dX4_findChanges_10 : decode cX4_findChanges 10 = .ok (.if_icmp .ge 45, 3) := by decide +kernel
theorem dX4_findChanges_13 : decode cX4_findChanges 13 = .ok (.iconst 0, 1) := by decide +kernel
theorem dX4_findChanges_14 : decode cX4_findChanges 14 = .ok (.istore_n 2, 1) := by decide +kernel
theorem dX4_findChanges_15 : decode cX4_findChanges 15 = .ok (.iload_n 2, 1) := by decide +kernel
theorem dX4_findChanges_16 : decode cX4_findChanges 16 = .ok (.aload_n 0, 1) := by decide +kernel
theorem dX4_findChanges_17 : decode cX4_findChanges 17 = .ok (.getfield 19, 3) := by decide +kernel
theorem dX4_findChanges_20 : decode cX4_findChanges 20 = .ok (.getfield 23, 3) := by decide +kernel
theorem dX4_findChanges_23 : decode cX4_findChanges 23 = .ok (.if_icmp .ge 26, 3) := by decide +kernel
theorem dX4_findChanges_26 : decode cX4_findChanges 26 = .ok (.aload_n 0, 1) := by decide +kernel
theorem dX4_findChanges_27 : decode cX4_findChanges 27 = .ok (.getfield 11, 3) := by decide +kernel
theorem dX4_findChanges_30 : decode cX4_findChanges 30 = .ok (.iload_n 1, 1) := by decide +kernel
theorem dX4_findChanges_31 : decode cX4_findChanges 31 = .ok (.aaload, 1) := by decide +kernel
theorem dX4_findChanges_32 : decode cX4_findChanges 32 = .ok (.iload_n 2, 1) := by decide +kernel
theorem dX4_findChanges_33 : decode cX4_findChanges 33 = .ok (.aload_n 0, 1) := by decide +kernel
theorem dX4_findChanges_34 : decode cX4_findChanges 34 = .ok (.getfield 19, 3) := by decide +kernel
theorem dX4_findChanges_37 : decode cX4_findChanges 37 = .ok (.iload_n 1, 1) := by decide +kernel
theorem dX4_findChanges_38 : decode cX4_findChanges 38 = .ok (.iload_n 2, 1) := by decide +kernel
theorem dX4_findChanges_39 : decode cX4_findChanges 39 = .ok (.invokevirtual 56, 3) := by decide +kernel
theorem dX4_findChanges_42 : decode cX4_findChanges 42 = .ok (.iastore, 1) := by decide +kernel
theorem dX4_findChanges_43 : decode cX4_findChanges 43 = .ok (.iinc 2 1, 3) := by decide +kernel
theorem dX4_findChanges_46 : decode cX4_findChanges 46 = .ok (.goto (-31), 3) := by decide +kernel
theorem dX4_findChanges_49 : decode cX4_findChanges 49 = .ok (.iinc 1 1, 3) := by decide +kernel
theorem dX4_findChanges_52 : decode cX4_findChanges 52 = .ok (.goto (-50), 3) := by decide +kernel
theorem dX4_findChanges_55 : decode cX4_findChanges 55 = .ok (.return_, 1) := by decide +kernel
theorem dX4_findWaysHome_0 : decode cX4_findWaysHome 0 = .ok (.aload_n 0, 1) := by decide +kernel
theorem dX4_findWaysHome_1 : decode cX4_findWaysHome 1 = .ok (.invokevirtual 40, 3) := by decide +kernel
theorem dX4_findWaysHome_4 : decode cX4_findWaysHome 4 = .ok (.iconst 1, 1) := by decide +kernel
theorem dX4_findWaysHome_5 : decode cX4_findWaysHome 5 = .ok (.aload_n 0, 1) := by decide +kernel
theorem dX4_findWaysHome_6 : decode cX4_findWaysHome 6 = .ok (.getfield 19, 3) := by decide +kernel
theorem dX4_findWaysHome_9 : decode cX4_findWaysHome 9 = .ok (.getfield 23, 3) := by decide +kernel
theorem dX4_findWaysHome_12 : decode cX4_findWaysHome 12 = .ok (.ishl, 1) := by decide +kernel
theorem dX4_findWaysHome_13 : decode cX4_findWaysHome 13 = .ok (.iconst 1, 1) := by decide +kernel
theorem dX4_findWaysHome_14 : decode cX4_findWaysHome 14 = .ok (.isub, 1) := by decide +kernel
theorem dX4_findWaysHome_15 : decode cX4_findWaysHome 15 = .ok (.istore_n 1, 1) := by decide +kernel
theorem dX4_findWaysHome_16 : decode cX4_findWaysHome 16 = .ok (.iload_n 1, 1) := by decide +kernel
theorem dX4_findWaysHome_17 : decode cX4_findWaysHome 17 = .ok (.istore_n 2, 1) := by decide +kernel
theorem dX4_findWaysHome_18 : decode cX4_findWaysHome 18 = .ok (.iload_n 2, 1) := by decide +kernel
theorem dX4_findWaysHome_19 : decode cX4_findWaysHome 19 = .ok (.ifCond .le 66, 3) := by decide +kernel
theorem dX4_findWaysHome_22 : decode cX4_findWaysHome 22 = .ok (.iconst 0, 1) := by decide +kernel
theorem dX4_findWaysHome_23 : decode cX4_findWaysHome 23 = .ok (.istore_n 3, 1) := by decide +kernel
theorem dX4_findWaysHome_24 : decode cX4_findWaysHome 24 = .ok (.iload_n 3, 1) := by decide +kernel
theorem dX4_findWaysHome_25 : decode cX4_findWaysHome 25 = .ok (.aload_n 0, 1) := by decide +kernel
theorem dX4_findWaysHome_26 : decode cX4_findWaysHome 26 = .ok (.getfield 19, 3) := by decide +kernel
theorem dX4_findWaysHome_29 : decode cX4_findWaysHome 29 = .ok (.getfield 23, 3) := by decide +kernel
theorem dX4_findWaysHome_32 : decode cX4_findWaysHome 32 = .ok (.if_icmp .ge 47, 3) := by decide +kernel
theorem dX4_findWaysHome_35 : decode cX4_findWaysHome 35 = .ok (.iload_n 2, 1) := by decide +kernel
theorem dX4_findWaysHome_36 : decode cX4_findWaysHome 36 = .ok (.iload_n 3, 1) := by decide +kernel
theorem dX4_findWaysHome_37 : decode cX4_findWaysHome 37 = .ok (.invokestatic 59, 3) := by decide +kernel
theorem dX4_findWaysHome_40 : decode cX4_findWaysHome 40 = .ok (.ifCond .eq 33, 3) := by decide +kernel
theorem dX4_findWaysHome_43 : decode cX4_findWaysHome 43 = .ok (.aload_n 0, 1) := by decide +kernel
theorem dX4_findWaysHome_44 : decode cX4_findWaysHome 44 = .ok (.getfield 16, 3) := by decide +kernel
theorem dX4_findWaysHome_47 : decode cX4_findWaysHome 47 = .ok (.iload_n 2, 1) := by decide +kernel
theorem dX4_findWaysHome_48 : decode cX4_findWaysHome 48 = .ok (.aaload, 1) := by decide +kernel
theorem dX4_findWaysHome_49 : decode cX4_findWaysHome 49 = .ok (.iload_n 3, 1) := by decide +kernel
theorem dX4_findWaysHome_50 : decode cX4_findWaysHome 50 = .ok (.iload_n 2, 1) := by decide +kernel
theorem dX4_findWaysHome_51 : decode cX4_findWaysHome 51 = .ok (.iload_n 1, 1) := by decide +kernel
theorem dX4_findWaysHome_52 : decode cX4_findWaysHome 52 = .ok (.if_icmp .ne 14, 3) := by decide +kernel
theorem dX4_findWaysHome_55 : decode cX4_findWaysHome 55 = .ok (.aload_n 0, 1) := by decide +kernel
theorem dX4_findWaysHome_56 : decode cX4_findWaysHome 56 = .ok (.getfield 11, 3) := by decide +kernel
theorem dX4_findWaysHome_59 : decode cX4_findWaysHome 59 = .ok (.iload_n 3, 1) := by decide +kernel
theorem dX4_findWaysHome_60 : decode cX4_findWaysHome 60 = .ok (.aaload, 1) := by decide +kernel
theorem dX4_findWaysHome_61 : decode cX4_findWaysHome 61 = .ok (.iconst 0, 1) := by decide +kernel
theorem dX4_findWaysHome_62 : decode cX4_findWaysHome 62 = .ok (.iaload, 1) := by decide +kernel
theorem dX4_findWaysHome_63 : decode cX4_findWaysHome 63 = .ok (.goto 9, 3) := by decide +kernel
theorem dX4_findWaysHome_66 : decode cX4_findWaysHome 66 = .ok (.aload_n 0, 1) := by decide +kernel
theorem dX4_findWaysHome_67 : decode cX4_findWaysHome 67 = .ok (.iload_n 3, 1) := by decide +kernel
theorem dX4_findWaysHome_68 : decode cX4_findWaysHome 68 = .ok (.iload_n 2, 1) := by decide +kernel
theorem dX4_findWaysHome_69 : decode cX4_findWaysHome 69 = .ok (.invokevirtual 63, 3) := by decide +kernel
theorem dX4_findWaysHome_72 : decode cX4_findWaysHome 72 = .ok (.iastore, 1) := by decide +kernel
theorem dX4_findWaysHome_73 : decode cX4_findWaysHome 73 = .ok (.iinc 3 1, 3) := by decide +kernel
theorem dX4_findWaysHome_76 : decode cX4_findWaysHome 76 = .ok (.goto (-52), 3) := by decide +kernel
theorem dX4_findWaysHome_79 : decode cX4_findWaysHome 79 = .ok (.iinc 2 (-2), 3) := by decide +kernel
theorem dX4_findWaysHome_82 : decode cX4_findWaysHome 82 = .ok (.goto (-64), 3) := by decide +kernel
theorem dX4_findWaysHome_85 : decode cX4_findWaysHome 85 = .ok (.return_, 1) := by decide +kernel
theorem dX4_leastHome_0 : decode cX4_leastHome 0 = .ok (.ldc 43, 2) := by decide +kernel
theorem dX4_leastHome_2 : decode cX4_leastHome 2 = .ok (.istore_n 3, 1) := by decide +kernel
theorem dX4_leastHome_3 : decode cX4_leastHome 3 = .ok (.iconst 0, 1) := by decide +kernel
theorem dX4_leastHome_4 : decode cX4_leastHome 4 = .ok (.istore 4, 2) := by decide +kernel
theorem dX4_leastHome_6 : decode cX4_leastHome 6 = .ok (.iload 4, 2) := by decide +kernel
theorem dX4_leastHome_8 : decode cX4_leastHome 8 = .ok (.aload_n 0, 1) := by decide +kernel
theorem dX4_leastHome_9 : decode cX4_leastHome 9 = .ok (.getfield 19, 3) := by decide +kernel
theorem dX4_leastHome_12 : decode cX4_leastHome 12 = .ok (.getfield 23, 3) := by decide +kernel
theorem dX4_leastHome_15 : decode cX4_leastHome 15 = .ok (.if_icmp .ge 31, 3) := by decide +kernel
theorem dX4_leastHome_18 : decode cX4_leastHome 18 = .ok (.iload_n 2, 1) := by decide +kernel
theorem dX4_leastHome_19 : decode cX4_leastHome 19 = .ok (.iload 4, 2) := by decide +kernel
theorem dX4_leastHome_21 : decode cX4_leastHome 21 = .ok (.invokestatic 59, 3) := by decide +kernel
theorem dX4_leastHome_24 : decode cX4_leastHome 24 = .ok (.ifCond .ne 16, 3) := by decide +kernel
theorem dX4_leastHome_27 : decode cX4_leastHome 27 = .ok (.iload_n 3, 1) := by decide +kernel
theorem dX4_leastHome_28 : decode cX4_leastHome 28 = .ok (.aload_n 0, 1) := by decide +kernel
theorem dX4_leastHome_29 : decode cX4_leastHome 29 = .ok (.iload_n 1, 1) := by decide +kernel
theorem dX4_leastHome_30 : decode cX4_leastHome 30 = .ok (.iload 4, 2) := by decide +kernel
theorem dX4_leastHome_32 : decode cX4_leastHome 32 = .ok (.iload_n 2, 1) := by decide +kernel
theorem dX4_leastHome_33 : decode cX4_leastHome 33 = .ok (.invokevirtual 66, 3) := by decide +kernel
theorem dX4_leastHome_36 : decode cX4_leastHome 36 = .ok (.invokestatic 48, 3) := by decide +kernel
theorem dX4_leastHome_39 : decode cX4_leastHome 39 = .ok (.istore_n 3, 1) := by decide +kernel
theorem dX4_leastHome_40 : decode cX4_leastHome 40 = .ok (.iinc 4 1, 3) := by decide +kernel
theorem dX4_leastHome_43 : decode cX4_leastHome 43 = .ok (.goto (-37), 3) := by decide +kernel
theorem dX4_leastHome_46 : decode cX4_leastHome 46 = .ok (.iload_n 3, 1) := by decide +kernel
theorem dX4_leastHome_47 : decode cX4_leastHome 47 = .ok (.ireturn, 1) := by decide +kernel
theorem dX4_homeBy_0 : decode cX4_homeBy 0 = .ok (.aload_n 0, 1) := by decide +kernel
theorem dX4_homeBy_1 : decode cX4_homeBy 1 = .ok (.getfield 11, 3) := by decide +kernel
theorem dX4_homeBy_4 : decode cX4_homeBy 4 = .ok (.iload_n 1, 1) := by decide +kernel
theorem dX4_homeBy_5 : decode cX4_homeBy 5 = .ok (.aaload, 1) := by decide +kernel
theorem dX4_homeBy_6 : decode cX4_homeBy 6 = .ok (.iload_n 2, 1) := by decide +kernel
theorem dX4_homeBy_7 : decode cX4_homeBy 7 = .ok (.iaload, 1) := by decide +kernel
theorem dX4_homeBy_8 : decode cX4_homeBy 8 = .ok (.aload_n 0, 1) := by decide +kernel
theorem dX4_homeBy_9 : decode cX4_homeBy 9 = .ok (.getfield 16, 3) := by decide +kernel
theorem dX4_homeBy_12 : decode cX4_homeBy 12 = .ok (.iload_n 3, 1) := by decide +kernel
theorem dX4_homeBy_13 : decode cX4_homeBy 13 = .ok (.iconst 1, 1) := by decide +kernel
theorem dX4_homeBy_14 : decode cX4_homeBy 14 = .ok (.iload_n 2, 1) := by decide +kernel
theorem dX4_homeBy_15 : decode cX4_homeBy 15 = .ok (.ishl, 1) := by decide +kernel
theorem dX4_homeBy_16 : decode cX4_homeBy 16 = .ok (.ior, 1) := by decide +kernel
theorem dX4_homeBy_17 : decode cX4_homeBy 17 = .ok (.aaload, 1) := by decide +kernel
theorem dX4_homeBy_18 : decode cX4_homeBy 18 = .ok (.iload_n 2, 1) := by decide +kernel
theorem dX4_homeBy_19 : decode cX4_homeBy 19 = .ok (.iaload, 1) := by decide +kernel
theorem dX4_homeBy_20 : decode cX4_homeBy 20 = .ok (.iadd, 1) := by decide +kernel
theorem dX4_homeBy_21 : decode cX4_homeBy 21 = .ok (.ireturn, 1) := by decide +kernel
theorem dX4_firstOfBest_0 : decode cX4_firstOfBest 0 = .ok (.iconst 0, 1) := by decide +kernel
theorem dX4_firstOfBest_1 : decode cX4_firstOfBest 1 = .ok (.istore_n 3, 1) := by decide +kernel
theorem dX4_firstOfBest_2 : decode cX4_firstOfBest 2 = .ok (.iload_n 3, 1) := by decide +kernel
theorem dX4_firstOfBest_3 : decode cX4_firstOfBest 3 = .ok (.aload_n 0, 1) := by decide +kernel
theorem dX4_firstOfBest_4 : decode cX4_firstOfBest 4 = .ok (.getfield 19, 3) := by decide +kernel
theorem dX4_firstOfBest_7 : decode cX4_firstOfBest 7 = .ok (.getfield 23, 3) := by decide +kernel
theorem dX4_firstOfBest_10 : decode cX4_firstOfBest 10 = .ok (.if_icmp .ge 37, 3) := by decide +kernel
theorem dX4_firstOfBest_13 : decode cX4_firstOfBest 13 = .ok (.iload_n 2, 1) := by decide +kernel
theorem dX4_firstOfBest_14 : decode cX4_firstOfBest 14 = .ok (.iload_n 3, 1) := by decide +kernel
theorem dX4_firstOfBest_15 : decode cX4_firstOfBest 15 = .ok (.invokestatic 59, 3) := by decide +kernel
theorem dX4_firstOfBest_18 : decode cX4_firstOfBest 18 = .ok (.ifCond .ne 23, 3) := by decide +kernel
theorem dX4_firstOfBest_21 : decode cX4_firstOfBest 21 = .ok (.aload_n 0, 1) := by decide +kernel
theorem dX4_firstOfBest_22 : decode cX4_firstOfBest 22 = .ok (.iload_n 1, 1) := by decide +kernel
theorem dX4_firstOfBest_23 : decode cX4_firstOfBest 23 = .ok (.iload_n 3, 1) := by decide +kernel
theorem dX4_firstOfBest_24 : decode cX4_firstOfBest 24 = .ok (.iload_n 2, 1) := by decide +kernel
theorem dX4_firstOfBest_25 : decode cX4_firstOfBest 25 = .ok (.invokevirtual 66, 3) := by decide +kernel
theorem dX4_firstOfBest_28 : decode cX4_firstOfBest 28 = .ok (.aload_n 0, 1) := by decide +kernel
theorem dX4_firstOfBest_29 : decode cX4_firstOfBest 29 = .ok (.getfield 16, 3) := by decide +kernel
theorem dX4_firstOfBest_32 : decode cX4_firstOfBest 32 = .ok (.iload_n 2, 1) := by decide +kernel
theorem dX4_firstOfBest_33 : decode cX4_firstOfBest 33 = .ok (.aaload, 1) := by decide +kernel
theorem dX4_firstOfBest_34 : decode cX4_firstOfBest 34 = .ok (.iload_n 1, 1) := by decide +kernel
theorem dX4_firstOfBest_35 : decode cX4_firstOfBest 35 = .ok (.iaload, 1) := by decide +kernel
theorem dX4_firstOfBest_36 : decode cX4_firstOfBest 36 = .ok (.if_icmp .ne 5, 3) := by decide +kernel
theorem dX4_firstOfBest_39 : decode cX4_firstOfBest 39 = .ok (.iload_n 3, 1) := by decide +kernel
theorem dX4_firstOfBest_40 : decode cX4_firstOfBest 40 = .ok (.ireturn, 1) := by decide +kernel
theorem dX4_firstOfBest_41 : decode cX4_firstOfBest 41 = .ok (.iinc 3 1, 3) := by decide +kernel
theorem dX4_firstOfBest_44 : decode cX4_firstOfBest 44 = .ok (.goto (-42), 3) := by decide +kernel
theorem dX4_firstOfBest_47 : decode cX4_firstOfBest 47 = .ok (.iload_n 1, 1) := by decide +kernel
theorem dX4_firstOfBest_48 : decode cX4_firstOfBest 48 = .ok (.ireturn, 1) := by decide +kernel
theorem dX4_secondsOfWay_0 : decode cX4_secondsOfWay 0 = .ok (.iconst 0, 1) := by decide +kernel
theorem dX4_secondsOfWay_1 : decode cX4_secondsOfWay 1 = .ok (.istore_n 2, 1) := by decide +kernel
theorem dX4_secondsOfWay_2 : decode cX4_secondsOfWay 2 = .ok (.iconst 0, 1) := by decide +kernel
theorem dX4_secondsOfWay_3 : decode cX4_secondsOfWay 3 = .ok (.istore_n 3, 1) := by decide +kernel
theorem dX4_secondsOfWay_4 : decode cX4_secondsOfWay 4 = .ok (.iconst 1, 1) := by decide +kernel
theorem dX4_secondsOfWay_5 : decode cX4_secondsOfWay 5 = .ok (.istore 4, 2) := by decide +kernel
theorem dX4_secondsOfWay_7 : decode cX4_secondsOfWay 7 = .ok (.iload_n 1, 1) := by decide +kernel
theorem dX4_secondsOfWay_8 : decode cX4_secondsOfWay 8 = .ok (.istore 5, 2) := by decide +kernel
theorem dX4_secondsOfWay_10 : decode cX4_secondsOfWay 10 = .ok (.aload_n 0, 1) := by decide +kernel
theorem dX4_secondsOfWay_11 : decode cX4_secondsOfWay 11 = .ok (.getfield 19, 3) := by decide +kernel
theorem dX4_secondsOfWay_14 : decode cX4_secondsOfWay 14 = .ok (.getfield 23, 3) := by decide +kernel
theorem dX4_secondsOfWay_17 : decode cX4_secondsOfWay 17 = .ok (.iconst 1, 1) := by decide +kernel
theorem dX4_secondsOfWay_18 : decode cX4_secondsOfWay 18 = .ok (.isub, 1) := by decide +kernel
theorem dX4_secondsOfWay_19 : decode cX4_secondsOfWay 19 = .ok (.istore 6, 2) := by decide +kernel
theorem dX4_secondsOfWay_21 : decode cX4_secondsOfWay 21 = .ok (.iload 6, 2) := by decide +kernel
theorem dX4_secondsOfWay_23 : decode cX4_secondsOfWay 23 = .ok (.ifCond .le 53, 3) := by decide +kernel
theorem dX4_secondsOfWay_26 : decode cX4_secondsOfWay 26 = .ok (.aload_n 0, 1) := by decide +kernel
theorem dX4_secondsOfWay_27 : decode cX4_secondsOfWay 27 = .ok (.iload 5, 2) := by decide +kernel
theorem dX4_secondsOfWay_29 : decode cX4_secondsOfWay 29 = .ok (.iload 6, 2) := by decide +kernel
theorem dX4_secondsOfWay_31 : decode cX4_secondsOfWay 31 = .ok (.irem, 1) := by decide +kernel
theorem dX4_secondsOfWay_32 : decode cX4_secondsOfWay 32 = .ok (.iload 4, 2) := by decide +kernel
theorem dX4_secondsOfWay_34 : decode cX4_secondsOfWay 34 = .ok (.invokevirtual 70, 3) := by decide +kernel
theorem dX4_secondsOfWay_37 : decode cX4_secondsOfWay 37 = .ok (.istore 7, 2) := by decide +kernel
theorem dX4_secondsOfWay_39 : decode cX4_secondsOfWay 39 = .ok (.iload 5, 2) := by decide +kernel
theorem dX4_secondsOfWay_41 : decode cX4_secondsOfWay 41 = .ok (.iload 6, 2) := by decide +kernel
theorem dX4_secondsOfWay_43 : decode cX4_secondsOfWay 43 = .ok (.idiv, 1) := by decide +kernel
theorem dX4_secondsOfWay_44 : decode cX4_secondsOfWay 44 = .ok (.istore 5, 2) := by decide +kernel
theorem dX4_secondsOfWay_46 : decode cX4_secondsOfWay 46 = .ok (.iload_n 2, 1) := by decide +kernel
theorem dX4_secondsOfWay_47 : decode cX4_secondsOfWay 47 = .ok (.aload_n 0, 1) := by decide +kernel
theorem dX4_secondsOfWay_48 : decode cX4_secondsOfWay 48 = .ok (.getfield 11, 3) := by decide +kernel
theorem dX4_secondsOfWay_51 : decode cX4_secondsOfWay 51 = .ok (.iload_n 3, 1) := by decide +kernel
theorem dX4_secondsOfWay_52 : decode cX4_secondsOfWay 52 = .ok (.aaload, 1) := by decide +kernel
theorem dX4_secondsOfWay_53 : decode cX4_secondsOfWay 53 = .ok (.iload 7, 2) := by decide +kernel
theorem dX4_secondsOfWay_55 : decode cX4_secondsOfWay 55 = .ok (.iaload, 1) := by decide +kernel
theorem dX4_secondsOfWay_56 : decode cX4_secondsOfWay 56 = .ok (.iadd, 1) := by decide +kernel
theorem dX4_secondsOfWay_57 : decode cX4_secondsOfWay 57 = .ok (.istore_n 2, 1) := by decide +kernel
theorem dX4_secondsOfWay_58 : decode cX4_secondsOfWay 58 = .ok (.iload 4, 2) := by decide +kernel
theorem dX4_secondsOfWay_60 : decode cX4_secondsOfWay 60 = .ok (.iconst 1, 1) := by decide +kernel
theorem dX4_secondsOfWay_61 : decode cX4_secondsOfWay 61 = .ok (.iload 7, 2) := by decide +kernel
theorem dX4_secondsOfWay_63 : decode cX4_secondsOfWay 63 = .ok (.ishl, 1) := by decide +kernel
theorem dX4_secondsOfWay_64 : decode cX4_secondsOfWay 64 = .ok (.ior, 1) := by decide +kernel
theorem dX4_secondsOfWay_65 : decode cX4_secondsOfWay 65 = .ok (.istore 4, 2) := by decide +kernel
theorem dX4_secondsOfWay_67 : decode cX4_secondsOfWay 67 = .ok (.iload 7, 2) := by decide +kernel
theorem dX4_secondsOfWay_69 : decode cX4_secondsOfWay 69 = .ok (.istore_n 3, 1) := by decide +kernel
theorem dX4_secondsOfWay_70 : decode cX4_secondsOfWay 70 = .ok (.iinc 6 (-1), 3) := by decide +kernel
theorem dX4_secondsOfWay_73 : decode cX4_secondsOfWay 73 = .ok (.goto (-52), 3) := by decide +kernel
theorem dX4_secondsOfWay_76 : decode cX4_secondsOfWay 76 = .ok (.iload_n 2, 1) := by decide +kernel
theorem dX4_secondsOfWay_77 : decode cX4_secondsOfWay 77 = .ok (.aload_n 0, 1) := by decide +kernel
theorem dX4_secondsOfWay_78 : decode cX4_secondsOfWay 78 = .ok (.getfield 11, 3) := by decide +kernel
theorem dX4_secondsOfWay_81 : decode cX4_secondsOfWay 81 = .ok (.iload_n 3, 1) := by decide +kernel
theorem dX4_secondsOfWay_82 : decode cX4_secondsOfWay 82 = .ok (.aaload, 1) := by decide +kernel
theorem dX4_secondsOfWay_83 : decode cX4_secondsOfWay 83 = .ok (.iconst 0, 1) := by decide +kernel
theorem dX4_secondsOfWay_84 : decode cX4_secondsOfWay 84 = .ok (.iaload, 1) := by decide +kernel
theorem dX4_secondsOfWay_85 : decode cX4_secondsOfWay 85 = .ok (.iadd, 1) := by decide +kernel
theorem dX4_secondsOfWay_86 : decode cX4_secondsOfWay 86 = .ok (.ireturn, 1) := by decide +kernel
theorem dX4_stageLeft_0 : decode cX4_stageLeft 0 = .ok (.iload_n 1, 1) := by decide +kernel
theorem dX4_stageLeft_1 : decode cX4_stageLeft 1 = .ok (.istore_n 3, 1) := by decide +kernel
theorem dX4_stageLeft_2 : decode cX4_stageLeft 2 = .ok (.iconst 0, 1) := by decide +kernel
theorem dX4_stageLeft_3 : decode cX4_stageLeft 3 = .ok (.istore 4, 2) := by decide +kernel
theorem dX4_stageLeft_5 : decode cX4_stageLeft 5 = .ok (.iload 4, 2) := by decide +kernel
theorem dX4_stageLeft_7 : decode cX4_stageLeft 7 = .ok (.aload_n 0, 1) := by decide +kernel
theorem dX4_stageLeft_8 : decode cX4_stageLeft 8 = .ok (.getfield 19, 3) := by decide +kernel
theorem dX4_stageLeft_11 : decode cX4_stageLeft 11 = .ok (.getfield 23, 3) := by decide +kernel
theorem dX4_stageLeft_14 : decode cX4_stageLeft 14 = .ok (.if_icmp .ge 28, 3) := by decide +kernel
theorem dX4_stageLeft_17 : decode cX4_stageLeft 17 = .ok (.iload_n 2, 1) := by decide +kernel
theorem dX4_stageLeft_18 : decode cX4_stageLeft 18 = .ok (.iload 4, 2) := by decide +kernel
theorem dX4_stageLeft_20 : decode cX4_stageLeft 20 = .ok (.invokestatic 59, 3) := by decide +kernel
theorem dX4_stageLeft_23 : decode cX4_stageLeft 23 = .ok (.ifCond .ne 13, 3) := by decide +kernel
theorem dX4_stageLeft_26 : decode cX4_stageLeft 26 = .ok (.iload_n 3, 1) := by decide +kernel
theorem dX4_stageLeft_27 : decode cX4_stageLeft 27 = .ok (.ifCond .ne 6, 3) := by decide +kernel
theorem dX4_stageLeft_30 : decode cX4_stageLeft 30 = .ok (.iload 4, 2) := by decide +kernel
theorem dX4_stageLeft_32 : decode cX4_stageLeft 32 = .ok (.ireturn, 1) := by decide +kernel
theorem dX4_stageLeft_33 : decode cX4_stageLeft 33 = .ok (.iinc 3 (-1), 3) := by decide +kernel
theorem dX4_stageLeft_36 : decode cX4_stageLeft 36 = .ok (.iinc 4 1, 3) := by decide +kernel
theorem dX4_stageLeft_39 : decode cX4_stageLeft 39 = .ok (.goto (-34), 3) := by decide +kernel
theorem dX4_stageLeft_42 : decode cX4_stageLeft 42 = .ok (.iconst 0, 1) := by decide +kernel
theorem dX4_stageLeft_43 : decode cX4_stageLeft 43 = .ok (.ireturn, 1) := by decide +kernel
theorem dX5_init_0 : decode cX5_init 0 = .ok (.aload_n 0, 1) := by decide +kernel
theorem dX5_init_1 : decode cX5_init 1 = .ok (.invokespecial 1, 3) := by decide +kernel
theorem dX5_init_4 : decode cX5_init 4 = .ok (.aload_n 0, 1) := by decide +kernel
theorem dX5_init_5 : decode cX5_init 5 = .ok (.new 7, 3) := by decide +kernel
theorem dX5_init_8 : decode cX5_init 8 = .ok (.dup, 1) := by decide +kernel
theorem dX5_init_9 : decode cX5_init 9 = .ok (.invokespecial 9, 3) := by decide +kernel
theorem dX5_init_12 : decode cX5_init 12 = .ok (.putfield 10, 3) := by decide +kernel
theorem dX5_init_15 : decode cX5_init 15 = .ok (.aload_n 0, 1) := by decide +kernel
theorem dX5_init_16 : decode cX5_init 16 = .ok (.new 16, 3) := by decide +kernel
theorem dX5_init_19 : decode cX5_init 19 = .ok (.dup, 1) := by decide +kernel
theorem dX5_init_20 : decode cX5_init 20 = .ok (.invokespecial 18, 3) := by decide +kernel
theorem dX5_init_23 : decode cX5_init 23 = .ok (.putfield 19, 3) := by decide +kernel
theorem dX5_init_26 : decode cX5_init 26 = .ok (.aload_n 0, 1) := by decide +kernel
theorem dX5_init_27 : decode cX5_init 27 = .ok (.new 23, 3) := by decide +kernel
theorem dX5_init_30 : decode cX5_init 30 = .ok (.dup, 1) := by decide +kernel
theorem dX5_init_31 : decode cX5_init 31 = .ok (.aload_n 0, 1) := by decide +kernel
theorem dX5_init_32 : decode cX5_init 32 = .ok (.getfield 10, 3) := by decide +kernel
theorem dX5_init_35 : decode cX5_init 35 = .ok (.aload_n 0, 1) := by decide +kernel
theorem dX5_init_36 : decode cX5_init 36 = .ok (.getfield 19, 3) := by decide +kernel
theorem dX5_init_39 : decode cX5_init 39 = .ok (.invokespecial 25, 3) := by decide +kernel
theorem dX5_init_42 : decode cX5_init 42 = .ok (.putfield 28, 3) := by decide +kernel
theorem dX5_init_45 : decode cX5_init 45 = .ok (.aload_n 0, 1) := by decide +kernel
theorem dX5_init_46 : decode cX5_init 46 = .ok (.new 32, 3) := by decide +kernel
theorem dX5_init_49 : decode cX5_init 49 = .ok (.dup, 1) := by decide +kernel
theorem dX5_init_50 : decode cX5_init 50 = .ok (.aload_n 0, 1) := by decide +kernel
theorem dX5_init_51 : decode cX5_init 51 = .ok (.getfield 10, 3) := by decide +kernel
theorem dX5_init_54 : decode cX5_init 54 = .ok (.invokespecial 34, 3) := by decide +kernel
theorem dX5_init_57 : decode cX5_init 57 = .ok (.putfield 37, 3) := by decide +kernel
theorem dX5_init_60 : decode cX5_init 60 = .ok (.return_, 1) := by decide +kernel
theorem dX5_phase_0 : decode cX5_phase 0 = .ok (.iload_n 1, 1) := by decide +kernel
theorem dX5_phase_1 : decode cX5_phase 1 = .ok (.iconst 1, 1) := by decide +kernel
theorem dX5_phase_2 : decode cX5_phase 2 = .ok (.bipush 30, 2) := by decide +kernel
theorem dX5_phase_4 : decode cX5_phase 4 = .ok (.invokestatic 41, 3) := by decide +kernel
theorem dX5_phase_7 : decode cX5_phase 7 = .ok (.ifCond .eq 23, 3) := by decide +kernel
theorem dX5_phase_10 : decode cX5_phase 10 = .ok (.iload_n 2, 1) := by decide +kernel
theorem dX5_phase_11 : decode cX5_phase 11 = .ok (.iload_n 1, 1) := by decide +kernel
theorem dX5_phase_12 : decode cX5_phase 12 = .ok (.bipush 120, 2) := by decide +kernel
theorem dX5_phase_14 : decode cX5_phase 14 = .ok (.invokestatic 41, 3) := by decide +kernel
theorem dX5_phase_17 : decode cX5_phase 17 = .ok (.ifCond .eq 13, 3) := by decide +kernel
theorem dX5_phase_20 : decode cX5_phase 20 = .ok (.iload_n 3, 1) := by decide +kernel
theorem dX5_phase_21 : decode cX5_phase 21 = .ok (.iconst 0, 1) := by decide +kernel
theorem dX5_phase_22 : decode cX5_phase 22 = .ok (.bipush 10, 2) := by decide +kernel
theorem dX5_phase_24 : decode cX5_phase 24 = .ok (.invokestatic 41, 3) := by decide +kernel
theorem dX5_phase_27 : decode cX5_phase 27 = .ok (.ifCond .ne 13, 3) := by decide +kernel
theorem dX5_phase_30 : decode cX5_phase 30 = .ok (.new 45, 3) := by decide +kernel
theorem dX5_phase_33 : decode cX5_phase 33 = .ok (.dup, 1) := by decide +kernel
theorem dX5_phase_34 : decode cX5_phase 34 = .ok (.ldc 47, 2) := by decide +kernel
theorem dX5_phase_36 : decode cX5_phase 36 = .ok (.invokespecial 49, 3) := by decide +kernel
theorem dX5_phase_39 : decode cX5_phase 39 = .ok (.athrow, 1) := by decide +kernel
theorem dX5_phase_40 : decode cX5_phase 40 = .ok (.aload_n 0, 1) := by decide +kernel
theorem dX5_phase_41 : decode cX5_phase 41 = .ok (.getfield 28, 3) := by decide +kernel
theorem dX5_phase_44 : decode cX5_phase 44 = .ok (.getfield 52, 3) := by decide +kernel
theorem dX5_phase_47 : decode cX5_phase 47 = .ok (.ifCond .ne 15, 3) := by decide +kernel
theorem dX5_phase_50 : decode cX5_phase 50 = .ok (.aload_n 0, 1) := by decide +kernel
theorem dX5_phase_51 : decode cX5_phase 51 = .ok (.getfield 10, 3) := by decide +kernel
theorem dX5_phase_54 : decode cX5_phase 54 = .ok (.getfield 56, 3) := by decide +kernel
theorem dX5_phase_57 : decode cX5_phase 57 = .ok (.bipush 8, 2) := by decide +kernel
theorem dX5_phase_59 : decode cX5_phase 59 = .ok (.if_icmp .lt 13, 3) := by decide +kernel
theorem dX5_phase_62 : decode cX5_phase 62 = .ok (.new 60, 3) := by decide +kernel
theorem dX5_phase_65 : decode cX5_phase 65 = .ok (.dup, 1) := by decide +kernel
theorem dX5_phase_66 : decode cX5_phase 66 = .ok (.ldc 62, 2) := by decide +kernel
theorem dX5_phase_68 : decode cX5_phase 68 = .ok (.invokespecial 64, 3) := by decide +kernel
theorem dX5_phase_71 : decode cX5_phase 71 = .ok (.athrow, 1) := by decide +kernel
theorem dX5_phase_72 : decode cX5_phase 72 = .ok (.aload_n 0, 1) := by decide +kernel
theorem dX5_phase_73 : decode cX5_phase 73 = .ok (.getfield 10, 3) := by decide +kernel
theorem dX5_phase_76 : decode cX5_phase 76 = .ok (.iload_n 1, 1) := by decide +kernel
theorem dX5_phase_77 : decode cX5_phase 77 = .ok (.iload_n 2, 1) := by decide +kernel
theorem dX5_phase_78 : decode cX5_phase 78 = .ok (.iload_n 3, 1) := by decide +kernel
theorem dX5_phase_79 : decode cX5_phase 79 = .ok (.invokevirtual 65, 3) := by decide +kernel
theorem dX5_phase_82 : decode cX5_phase 82 = .ok (.ireturn, 1) := by decide +kernel
theorem dX5_meet_0 : decode cX5_meet 0 = .ok (.aload_n 0, 1) := by decide +kernel
theorem dX5_meet_1 : decode cX5_meet 1 = .ok (.iload_n 1, 1) := by decide +kernel
theorem dX5_meet_2 : decode cX5_meet 2 = .ok (.invokevirtual 69, 3) := by decide +kernel
theorem dX5_meet_5 : decode cX5_meet 5 = .ok (.aload_n 0, 1) := by decide +kernel
theorem dX5_meet_6 : decode cX5_meet 6 = .ok (.iload_n 2, 1) := by decide +kernel
theorem dX5_meet_7 : decode cX5_meet 7 = .ok (.invokevirtual 69, 3) := by decide +kernel
theorem dX5_meet_10 : decode cX5_meet 10 = .ok (.iload_n 1, 1) := by decide +kernel
theorem dX5_meet_11 : decode cX5_meet 11 = .ok (.iload_n 2, 1) := by decide +kernel
theorem dX5_meet_12 : decode cX5_meet 12 = .ok (.if_icmp .eq 24, 3) := by decide +kernel
theorem dX5_meet_15 : decode cX5_meet 15 = .ok (.iload_n 3, 1) := by decide +kernel
theorem dX5_meet_16 : decode cX5_meet 16 = .ok (.iconst 1, 1) := by decide +kernel
theorem dX5_meet_17 : decode cX5_meet 17 = .ok (.bipush 20, 2) := by decide +kernel
theorem dX5_meet_19 : decode cX5_meet 19 = .ok (.invokestatic 41, 3) := by decide +kernel
theorem dX5_meet_22 : decode cX5_meet 22 = .ok (.ifCond .eq 14, 3) := by decide +kernel
theorem dX5_meet_25 : decode cX5_meet 25 = .ok (.iload 4, 2) := by decide +kernel
theorem dX5_meet_27 : decode cX5_meet 27 = .ok (.iconst 1, 1) := by decide +kernel
theorem dX5_meet_28 : decode cX5_meet 28 = .ok (.bipush 20, 2) := by decide +kernel
theorem dX5_meet_30 : decode cX5_meet 30 = .ok (.invokestatic 41, 3) := by decide +kernel
theorem dX5_meet_33 : decode cX5_meet 33 = .ok (.ifCond .ne 13, 3) := by decide +kernel
theorem dX5_meet_36 : decode cX5_meet 36 = .ok (.new 45, 3) := by decide +kernel
theorem dX5_meet_39 : decode cX5_meet 39 = .ok (.dup, 1) := by decide +kernel
theorem dX5_meet_40 : decode cX5_meet 40 = .ok (.ldc 73, 2) := by decide +kernel
theorem dX5_meet_42 : decode cX5_meet 42 = .ok (.invokespecial 49, 3) := by decide +kernel
theorem dX5_meet_45 : decode cX5_meet 45 = .ok (.athrow, 1) := by decide +kernel
theorem dX5_meet_46 : decode cX5_meet 46 = .ok (.aload_n 0, 1) := by decide +kernel
theorem dX5_meet_47 : decode cX5_meet 47 = .ok (.getfield 28, 3) := by decide +kernel
theorem dX5_meet_50 : decode cX5_meet 50 = .ok (.getfield 52, 3) := by decide +kernel
theorem dX5_meet_53 : decode cX5_meet 53 = .ok (.ifCond .ne 15, 3) := by decide +kernel
theorem dX5_meet_56 : decode cX5_meet 56 = .ok (.aload_n 0, 1) := by decide +kernel
theorem dX5_meet_57 : decode cX5_meet 57 = .ok (.getfield 10, 3) := by decide +kernel
theorem dX5_meet_60 : decode cX5_meet 60 = .ok (.iload_n 1, 1) := by decide +kernel
theorem dX5_meet_61 : decode cX5_meet 61 = .ok (.iload_n 2, 1) := by decide +kernel
theorem dX5_meet_62 : decode cX5_meet 62 = .ok (.invokevirtual 75, 3) := by decide +kernel
theorem dX5_meet_65 : decode cX5_meet 65 = .ok (.ifCond .eq 13, 3) := by decide +kernel
theorem dX5_meet_68 : decode cX5_meet 68 = .ok (.new 60, 3) := by decide +kernel
theorem dX5_meet_71 : decode cX5_meet 71 = .ok (.dup, 1) := by decide +kernel
theorem dX5_meet_72 : decode cX5_meet 72 = .ok (.ldc 79, 2) := by decide +kernel
theorem dX5_meet_74 : decode cX5_meet 74 = .ok (.invokespecial 64, 3) := by decide +kernel
theorem dX5_meet_77 : decode cX5_meet 77 = .ok (.athrow, 1) := by decide +kernel
theorem dX5_meet_78 : decode cX5_meet 78 = .ok (.aload_n 0, 1) := by decide +kernel
theorem dX5_meet_79 : decode cX5_meet 79 = .ok (.getfield 10, 3) := by decide +kernel
theorem dX5_meet_82 : decode cX5_meet 82 = .ok (.iload_n 1, 1) := by decide +kernel
theorem dX5_meet_83 : decode cX5_meet 83 = .ok (.iload_n 2, 1) := by decide +kernel
theorem dX5_meet_84 : decode cX5_meet 84 = .ok (.iload_n 3, 1) := by decide +kernel
theorem dX5_meet_85 : decode cX5_meet 85 = .ok (.invokevirtual 81, 3) := by decide +kernel
theorem dX5_meet_88 : decode cX5_meet 88 = .ok (.aload_n 0, 1) := by decide +kernel
theorem dX5_meet_89 : decode cX5_meet 89 = .ok (.getfield 10, 3) := by decide +kernel
theorem dX5_meet_92 : decode cX5_meet 92 = .ok (.iload_n 2, 1) := by decide +kernel
theorem dX5_meet_93 : decode cX5_meet 93 = .ok (.iload_n 1, 1) := by decide +kernel
theorem dX5_meet_94 : decode cX5_meet 94 = .ok (.iload 4, 2) := by decide +kernel
theorem dX5_meet_96 : decode cX5_meet 96 = .ok (.invokevirtual 81, 3) := by decide +kernel
theorem dX5_meet_99 : decode cX5_meet 99 = .ok (.return_, 1) := by decide +kernel
theorem dX5_stage_0 : decode cX5_stage 0 = .ok (.iload_n 1, 1) := by decide +kernel
theorem dX5_stage_1 : decode cX5_stage 1 = .ok (.ifCond .eq 15, 3) := by decide +kernel
theorem dX5_stage_4 : decode cX5_stage 4 = .ok (.iload_n 1, 1) := by decide +kernel
theorem dX5_stage_5 : decode cX5_stage 5 = .ok (.aload_n 0, 1) := by decide +kernel
theorem dX5_stage_6 : decode cX5_stage 6 = .ok (.getfield 10, 3) := by decide +kernel
theorem dX5_stage_9 : decode cX5_stage 9 = .ok (.getfield 56, 3) := by decide +kernel
theorem dX5_stage_12 : decode cX5_stage 12 = .ok (.iushr, 1) := by decide +kernel
theorem dX5_stage_13 : decode cX5_stage 13 = .ok (.ifCond .eq 13, 3) := by decide +kernel
theorem dX5_stage_16 : decode cX5_stage 16 = .ok (.new 45, 3) := by decide +kernel
theorem dX5_stage_19 : decode cX5_stage 19 = .ok (.dup, 1) := by decide +kernel
theorem dX5_stage_20 : decode cX5_stage 20 = .ok (.ldc 85, 2) := by decide +kernel
theorem dX5_stage_22 : decode cX5_stage 22 = .ok (.invokespecial 49, 3) := by decide +kernel
theorem dX5_stage_25 : decode cX5_stage 25 = .ok (.athrow, 1) := by decide +kernel
theorem dX5_stage_26 : decode cX5_stage 26 = .ok (.aload_n 0, 1) := by decide +kernel
theorem dX5_stage_27 : decode cX5_stage 27 = .ok (.getfield 28, 3) := by decide +kernel
theorem dX5_stage_30 : decode cX5_stage 30 = .ok (.getfield 52, 3) := by decide +kernel
theorem dX5_stage_33 : decode cX5_stage 33 = .ok (.ifCond .ne 26, 3) := by decide +kernel
theorem dX5_stage_36 : decode cX5_stage 36 = .ok (.aload_n 0, 1) := by decide +kernel
theorem dX5_stage_37 : decode cX5_stage 37 = .ok (.getfield 10, 3) := by decide +kernel
theorem dX5_stage_40 : decode cX5_stage 40 = .ok (.iload_n 1, 1) := by decide +kernel
theorem dX5_stage_41 : decode cX5_stage 41 = .ok (.invokevirtual 87, 3) := by decide +kernel
theorem dX5_stage_44 : decode cX5_stage 44 = .ok (.ifCond .ne 15, 3) := by decide +kernel
theorem dX5_stage_47 : decode cX5_stage 47 = .ok (.aload_n 0, 1) := by decide +kernel
theorem dX5_stage_48 : decode cX5_stage 48 = .ok (.getfield 10, 3) := by decide +kernel
theorem dX5_stage_51 : decode cX5_stage 51 = .ok (.getfield 91, 3) := by decide +kernel
theorem dX5_stage_54 : decode cX5_stage 54 = .ok (.bipush 6, 2) := by decide +kernel
theorem dX5_stage_56 : decode cX5_stage 56 = .ok (.if_icmp .lt 13, 3) := by decide +kernel
theorem dX5_stage_59 : decode cX5_stage 59 = .ok (.new 60, 3) := by decide +kernel
theorem dX5_stage_62 : decode cX5_stage 62 = .ok (.dup, 1) := by decide +kernel
theorem dX5_stage_63 : decode cX5_stage 63 = .ok (.ldc 94, 2) := by decide +kernel
theorem dX5_stage_65 : decode cX5_stage 65 = .ok (.invokespecial 64, 3) := by decide +kernel
theorem dX5_stage_68 : decode cX5_stage 68 = .ok (.athrow, 1) := by decide +kernel
theorem dX5_stage_69 : decode cX5_stage 69 = .ok (.aload_n 0, 1) := by decide +kernel
theorem dX5_stage_70 : decode cX5_stage 70 = .ok (.getfield 10, 3) := by decide +kernel
theorem dX5_stage_73 : decode cX5_stage 73 = .ok (.iload_n 1, 1) := by decide +kernel
theorem dX5_stage_74 : decode cX5_stage 74 = .ok (.invokevirtual 96, 3) := by decide +kernel
theorem dX5_stage_77 : decode cX5_stage 77 = .ok (.ireturn, 1) := by decide +kernel
theorem dX5_start_0 : decode cX5_start 0 = .ok (.aload_n 0, 1) := by decide +kernel
theorem dX5_start_1 : decode cX5_start 1 = .ok (.iload_n 1, 1) := by decide +kernel
theorem dX5_start_2 : decode cX5_start 2 = .ok (.invokevirtual 100, 3) := by decide +kernel
theorem dX5_start_5 : decode cX5_start 5 = .ok (.aload_n 0, 1) := by decide +kernel
theorem dX5_start_6 : decode cX5_start 6 = .ok (.getfield 28, 3) := by decide +kernel
theorem dX5_start_9 : decode cX5_start 9 = .ok (.invokevirtual 103, 3) := by decide +kernel
theorem dX5_start_12 : decode cX5_start 12 = .ok (.ifCond .eq 13, 3) := by decide +kernel
theorem dX5_start_15 : decode cX5_start 15 = .ok (.new 60, 3) := by decide +kernel
theorem dX5_start_18 : decode cX5_start 18 = .ok (.dup, 1) := by decide +kernel
theorem dX5_start_19 : decode cX5_start 19 = .ok (.ldc 107, 2) := by decide +kernel
theorem dX5_start_21 : decode cX5_start 21 = .ok (.invokespecial 64, 3) := by decide +kernel
theorem dX5_start_24 : decode cX5_start 24 = .ok (.athrow, 1) := by decide +kernel
theorem dX5_start_25 : decode cX5_start 25 = .ok (.aload_n 0, 1) := by decide +kernel
theorem dX5_start_26 : decode cX5_start 26 = .ok (.getfield 28, 3) := by decide +kernel
theorem dX5_start_29 : decode cX5_start 29 = .ok (.iload_n 1, 1) := by decide +kernel
theorem dX5_start_30 : decode cX5_start 30 = .ok (.invokevirtual 109, 3) := by decide +kernel
theorem dX5_start_33 : decode cX5_start 33 = .ok (.return_, 1) := by decide +kernel
theorem dX5_stop_0 : decode cX5_stop 0 = .ok (.aload_n 0, 1) := by decide +kernel
theorem dX5_stop_1 : decode cX5_stop 1 = .ok (.getfield 28, 3) := by decide +kernel
theorem dX5_stop_4 : decode cX5_stop 4 = .ok (.getfield 112, 3) := by decide +kernel
theorem dX5_stop_7 : decode cX5_stop 7 = .ok (.ifCond .ne 13, 3) := by decide +kernel
theorem dX5_stop_10 : decode cX5_stop 10 = .ok (.new 60, 3) := by decide +kernel
theorem dX5_stop_13 : decode cX5_stop 13 = .ok (.dup, 1) := by decide +kernel
theorem dX5_stop_14 : decode cX5_stop 14 = .ok (.ldc 115, 2) := by decide +kernel
theorem dX5_stop_16 : decode cX5_stop 16 = .ok (.invokespecial 64, 3) := by decide +kernel
theorem dX5_stop_19 : decode cX5_stop 19 = .ok (.athrow, 1) := by decide +kernel
theorem dX5_stop_20 : decode cX5_stop 20 = .ok (.aload_n 0, 1) := by decide +kernel
theorem dX5_stop_21 : decode cX5_stop 21 = .ok (.getfield 28, 3) := by decide +kernel
theorem dX5_stop_24 : decode cX5_stop 24 = .ok (.iconst 0, 1) := by decide +kernel
theorem dX5_stop_25 : decode cX5_stop 25 = .ok (.invokevirtual 117, 3) := by decide +kernel
theorem dX5_stop_28 : decode cX5_stop 28 = .ok (.return_, 1) := by decide +kernel
theorem dX5_press_0 : decode cX5_press 0 = .ok (.aload_n 0, 1) := by decide +kernel
theorem dX5_press_1 : decode cX5_press 1 = .ok (.iload_n 1, 1) := by decide +kernel
theorem dX5_press_2 : decode cX5_press 2 = .ok (.invokevirtual 69, 3) := by decide +kernel
theorem dX5_press_5 : decode cX5_press 5 = .ok (.aload_n 0, 1) := by decide +kernel
theorem dX5_press_6 : decode cX5_press 6 = .ok (.getfield 10, 3) := by decide +kernel
theorem dX5_press_9 : decode cX5_press 9 = .ok (.getfield 120, 3) := by decide +kernel
theorem dX5_press_12 : decode cX5_press 12 = .ok (.iload_n 1, 1) := by decide +kernel
theorem dX5_press_13 : decode cX5_press 13 = .ok (.aaload, 1) := by decide +kernel
theorem dX5_press_14 : decode cX5_press 14 = .ok (.astore_n 2, 1) := by decide +kernel
theorem dX5_press_15 : decode cX5_press 15 = .ok (.aload_n 2, 1) := by decide +kernel
theorem dX5_press_16 : decode cX5_press 16 = .ok (.invokevirtual 124, 3) := by decide +kernel
theorem dX5_press_19 : decode cX5_press 19 = .ok (.aload_n 2, 1) := by decide +kernel
theorem dX5_press_20 : decode cX5_press 20 = .ok (.invokevirtual 129, 3) := by decide +kernel
theorem dX5_press_23 : decode cX5_press 23 = .ok (.ireturn, 1) := by decide +kernel
theorem dX5_arrive_0 : decode cX5_arrive 0 = .ok (.aload_n 0, 1) := by decide +kernel
theorem dX5_arrive_1 : decode cX5_arrive 1 = .ok (.iload_n 1, 1) := by decide +kernel
theorem dX5_arrive_2 : decode cX5_arrive 2 = .ok (.invokevirtual 69, 3) := by decide +kernel
theorem dX5_arrive_5 : decode cX5_arrive 5 = .ok (.iload_n 2, 1) := by decide +kernel
theorem dX5_arrive_6 : decode cX5_arrive 6 = .ok (.iconst 1, 1) := by decide +kernel
theorem dX5_arrive_7 : decode cX5_arrive 7 = .ok (.bipush 50, 2) := by decide +kernel
theorem dX5_arrive_9 : decode cX5_arrive 9 = .ok (.invokestatic 41, 3) := by decide +kernel
theorem dX5_arrive_12 : decode cX5_arrive 12 = .ok (.ifCond .ne 13, 3) := by decide +kernel
theorem dX5_arrive_15 : decode cX5_arrive 15 = .ok (.new 45, 3) := by decide +kernel
theorem dX5_arrive_18 : decode cX5_arrive 18 = .ok (.dup, 1) := by decide +kernel
theorem dX5_arrive_19 : decode cX5_arrive 19 = .ok (.ldc 132, 2) := by decide +kernel
theorem dX5_arrive_21 : decode cX5_arrive 21 = .ok (.invokespecial 49, 3) := by decide +kernel
theorem dX5_arrive_24 : decode cX5_arrive 24 = .ok (.athrow, 1) := by decide +kernel
theorem dX5_arrive_25 : decode cX5_arrive 25 = .ok (.aload_n 0, 1) := by decide +kernel
theorem dX5_arrive_26 : decode cX5_arrive 26 = .ok (.getfield 10, 3) := by decide +kernel
theorem dX5_arrive_29 : decode cX5_arrive 29 = .ok (.getfield 120, 3) := by decide +kernel
theorem dX5_arrive_32 : decode cX5_arrive 32 = .ok (.iload_n 1, 1) := by decide +kernel
theorem dX5_arrive_33 : decode cX5_arrive 33 = .ok (.aaload, 1) := by decide +kernel
theorem dX5_arrive_34 : decode cX5_arrive 34 = .ok (.astore_n 3, 1) := by decide +kernel
theorem dX5_arrive_35 : decode cX5_arrive 35 = .ok (.aload_n 3, 1) := by decide +kernel
theorem dX5_arrive_36 : decode cX5_arrive 36 = .ok (.getfield 134, 3) := by decide +kernel
theorem dX5_arrive_39 : decode cX5_arrive 39 = .ok (.iload_n 2, 1) := by decide +kernel
theorem dX5_arrive_40 : decode cX5_arrive 40 = .ok (.iadd, 1) := by decide +kernel
theorem dX5_arrive_41 : decode cX5_arrive 41 = .ok (.sipush 1000, 3) := by decide +kernel
theorem dX5_arrive_44 : decode cX5_arrive 44 = .ok (.if_icmp .le 13, 3) := by decide +kernel
theorem dX5_arrive_47 : decode cX5_arrive 47 = .ok (.new 60, 3) := by decide +kernel
theorem dX5_arrive_50 : decode cX5_arrive 50 = .ok (.dup, 1) := by decide +kernel
theorem dX5_arrive_51 : decode cX5_arrive 51 = .ok (.ldc 137, 2) := by decide +kernel
theorem dX5_arrive_53 : decode cX5_arrive 53 = .ok (.invokespecial 64, 3) := by decide +kernel
theorem dX5_arrive_56 : decode cX5_arrive 56 = .ok (.athrow, 1) := by decide +kernel
theorem dX5_arrive_57 : decode cX5_arrive 57 = .ok (.aload_n 3, 1) := by decide +kernel
theorem dX5_arrive_58 : decode cX5_arrive 58 = .ok (.dup, 1) := by decide +kernel
theorem dX5_arrive_59 : decode cX5_arrive 59 = .ok (.getfield 134, 3) := by decide +kernel
theorem dX5_arrive_62 : decode cX5_arrive 62 = .ok (.iload_n 2, 1) := by decide +kernel
theorem dX5_arrive_63 : decode cX5_arrive 63 = .ok (.iadd, 1) := by decide +kernel
theorem dX5_arrive_64 : decode cX5_arrive 64 = .ok (.putfield 134, 3) := by decide +kernel
theorem dX5_arrive_67 : decode cX5_arrive 67 = .ok (.aload_n 3, 1) := by decide +kernel
theorem dX5_arrive_68 : decode cX5_arrive 68 = .ok (.getfield 134, 3) := by decide +kernel
theorem dX5_arrive_71 : decode cX5_arrive 71 = .ok (.ireturn, 1) := by decide +kernel
theorem dX5_ask_0 : decode cX5_ask 0 = .ok (.aload_n 0, 1) := by decide +kernel
theorem dX5_ask_1 : decode cX5_ask 1 = .ok (.iload_n 1, 1) := by decide +kernel
theorem dX5_ask_2 : decode cX5_ask 2 = .ok (.invokevirtual 69, 3) := by decide +kernel
theorem dX5_ask_5 : decode cX5_ask 5 = .ok (.aload_n 0, 1) := by decide +kernel
theorem dX5_ask_6 : decode cX5_ask 6 = .ok (.getfield 28, 3) := by decide +kernel
theorem dX5_ask_9 : decode cX5_ask 9 = .ok (.getfield 139, 3) := by decide +kernel
theorem dX5_ask_12 : decode cX5_ask 12 = .ok (.iconst (-1), 1) := by decide +kernel
theorem dX5_ask_13 : decode cX5_ask 13 = .ok (.if_icmp .eq 13, 3) := by decide +kernel
theorem dX5_ask_16 : decode cX5_ask 16 = .ok (.new 60, 3) := by decide +kernel
theorem dX5_ask_19 : decode cX5_ask 19 = .ok (.dup, 1) := by decide +kernel
theorem dX5_ask_20 : decode cX5_ask 20 = .ok (.ldc 142, 2) := by decide +kernel
theorem dX5_ask_22 : decode cX5_ask 22 = .ok (.invokespecial 64, 3) := by decide +kernel
theorem dX5_ask_25 : decode cX5_ask 25 = .ok (.athrow, 1) := by decide +kernel
theorem dX5_ask_26 : decode cX5_ask 26 = .ok (.aload_n 0, 1) := by decide +kernel
theorem dX5_ask_27 : decode cX5_ask 27 = .ok (.getfield 28, 3) := by decide +kernel
theorem dX5_ask_30 : decode cX5_ask 30 = .ok (.iload_n 1, 1) := by decide +kernel
theorem dX5_ask_31 : decode cX5_ask 31 = .ok (.putfield 139, 3) := by decide +kernel
theorem dX5_ask_34 : decode cX5_ask 34 = .ok (.return_, 1) := by decide +kernel
theorem dX5_cancel_0 : decode cX5_cancel 0 = .ok (.aload_n 0, 1) := by decide +kernel
theorem dX5_cancel_1 : decode cX5_cancel 1 = .ok (.getfield 28, 3) := by decide +kernel
theorem dX5_cancel_4 : decode cX5_cancel 4 = .ok (.getfield 139, 3) := by decide +kernel
theorem dX5_cancel_7 : decode cX5_cancel 7 = .ok (.iconst (-1), 1) := by decide +kernel
theorem dX5_cancel_8 : decode cX5_cancel 8 = .ok (.if_icmp .ne 13, 3) := by decide +kernel
theorem dX5_cancel_11 : decode cX5_cancel 11 = .ok (.new 60, 3) := by decide +kernel
theorem dX5_cancel_14 : decode cX5_cancel 14 = .ok (.dup, 1) := by decide +kernel
theorem dX5_cancel_15 : decode cX5_cancel 15 = .ok (.ldc 144, 2) := by decide +kernel
theorem dX5_cancel_17 : decode cX5_cancel 17 = .ok (.invokespecial 64, 3) := by decide +kernel
theorem dX5_cancel_20 : decode cX5_cancel 20 = .ok (.athrow, 1) := by decide +kernel
theorem dX5_cancel_21 : decode cX5_cancel 21 = .ok (.aload_n 0, 1) := by decide +kernel
theorem dX5_cancel_22 : decode cX5_cancel 22 = .ok (.getfield 28, 3) := by decide +kernel
theorem dX5_cancel_25 : decode cX5_cancel 25 = .ok (.getfield 139, 3) := by decide +kernel
theorem dX5_cancel_28 : decode cX5_cancel 28 = .ok (.istore_n 1, 1) := by decide +kernel
theorem dX5_cancel_29 : decode cX5_cancel 29 = .ok (.aload_n 0, 1) := by decide +kernel
theorem dX5_cancel_30 : decode cX5_cancel 30 = .ok (.getfield 28, 3) := by decide +kernel
theorem dX5_cancel_33 : decode cX5_cancel 33 = .ok (.iconst (-1), 1) := by decide +kernel
theorem dX5_cancel_34 : decode cX5_cancel 34 = .ok (.putfield 139, 3) := by decide +kernel
theorem dX5_cancel_37 : decode cX5_cancel 37 = .ok (.iload_n 1, 1) := by decide +kernel
theorem dX5_cancel_38 : decode cX5_cancel 38 = .ok (.ireturn, 1) := by decide +kernel
theorem dX5_breaks_0 : decode cX5_breaks 0 = .ok (.aload_n 0, 1) := by decide +kernel
theorem dX5_breaks_1 : decode cX5_breaks 1 = .ok (.iload_n 1, 1) := by decide +kernel
theorem dX5_breaks_2 : decode cX5_breaks 2 = .ok (.invokevirtual 69, 3) := by decide +kernel
theorem dX5_breaks_5 : decode cX5_breaks 5 = .ok (.iload_n 2, 1) := by decide +kernel
theorem dX5_breaks_6 : decode cX5_breaks 6 = .ok (.iconst 0, 1) := by decide +kernel
theorem dX5_breaks_7 : decode cX5_breaks 7 = .ok (.iconst 2, 1) := by decide +kernel
theorem dX5_breaks_8 : decode cX5_breaks 8 = .ok (.invokestatic 41, 3) := by decide +kernel
theorem dX5_breaks_11 : decode cX5_breaks 11 = .ok (.ifCond .ne 13, 3) := by decide +kernel
theorem dX5_breaks_14 : decode cX5_breaks 14 = .ok (.new 45, 3) := by decide +kernel
theorem dX5_breaks_17 : decode cX5_breaks 17 = .ok (.dup, 1) := by decide +kernel
theorem dX5_breaks_18 : decode cX5_breaks 18 = .ok (.ldc 146, 2) := by decide +kernel
theorem dX5_breaks_20 : decode cX5_breaks 20 = .ok (.invokespecial 49, 3) := by decide +kernel
theorem dX5_breaks_23 : decode cX5_breaks 23 = .ok (.athrow, 1) := by decide +kernel
theorem dX5_breaks_24 : decode cX5_breaks 24 = .ok (.aload_n 0, 1) := by decide +kernel
theorem dX5_breaks_25 : decode cX5_breaks 25 = .ok (.getfield 10, 3) := by decide +kernel
theorem dX5_breaks_28 : decode cX5_breaks 28 = .ok (.getfield 120, 3) := by decide +kernel
theorem dX5_breaks_31 : decode cX5_breaks 31 = .ok (.iload_n 1, 1) := by decide +kernel
theorem dX5_breaks_32 : decode cX5_breaks 32 = .ok (.aaload, 1) := by decide +kernel
theorem dX5_breaks_33 : decode cX5_breaks 33 = .ok (.astore 4, 2) := by decide +kernel
theorem dX5_breaks_35 : decode cX5_breaks 35 = .ok (.aload 4, 2) := by decide +kernel
theorem dX5_breaks_37 : decode cX5_breaks 37 = .ok (.iload_n 2, 1) := by decide +kernel
theorem dX5_breaks_38 : decode cX5_breaks 38 = .ok (.invokevirtual 148, 3) := by decide +kernel
theorem dX5_breaks_41 : decode cX5_breaks 41 = .ok (.istore 5, 2) := by decide +kernel
theorem dX5_breaks_43 : decode cX5_breaks 43 = .ok (.aload 4, 2) := by decide +kernel
theorem dX5_breaks_45 : decode cX5_breaks 45 = .ok (.iload_n 2, 1) := by decide +kernel
theorem dX5_breaks_46 : decode cX5_breaks 46 = .ok (.iload_n 3, 1) := by decide +kernel
theorem dX5_breaks_47 : decode cX5_breaks 47 = .ok (.invokevirtual 151, 3) := by decide +kernel
theorem dX5_breaks_50 : decode cX5_breaks 50 = .ok (.iload 5, 2) := by decide +kernel
theorem dX5_breaks_52 : decode cX5_breaks 52 = .ok (.ireturn, 1) := by decide +kernel
theorem dX5_go_0 : decode cX5_go 0 = .ok (.iload_n 1, 1) := by decide +kernel
theorem dX5_go_1 : decode cX5_go 1 = .ok (.iconst 1, 1) := by decide +kernel
theorem dX5_go_2 : decode cX5_go 2 = .ok (.sipush 1000, 3) := by decide +kernel
theorem dX5_go_5 : decode cX5_go 5 = .ok (.invokestatic 41, 3) := by decide +kernel
theorem dX5_go_8 : decode cX5_go 8 = .ok (.ifCond .ne 13, 3) := by decide +kernel
theorem dX5_go_11 : decode cX5_go 11 = .ok (.new 45, 3) := by decide +kernel
theorem dX5_go_14 : decode cX5_go 14 = .ok (.dup, 1) := by decide +kernel
theorem dX5_go_15 : decode cX5_go 15 = .ok (.ldc 155, 2) := by decide +kernel
theorem dX5_go_17 : decode cX5_go 17 = .ok (.invokespecial 49, 3) := by decide +kernel
theorem dX5_go_20 : decode cX5_go 20 = .ok (.athrow, 1) := by decide +kernel
theorem dX5_go_21 : decode cX5_go 21 = .ok (.aload_n 0, 1) := by decide +kernel
theorem dX5_go_22 : decode cX5_go 22 = .ok (.getfield 28, 3) := by decide +kernel
theorem dX5_go_25 : decode cX5_go 25 = .ok (.getfield 157, 3) := by decide +kernel
theorem dX5_go_28 : decode cX5_go 28 = .ok (.iload_n 1, 1) := by decide +kernel
theorem dX5_go_29 : decode cX5_go 29 = .ok (.iadd, 1) := by decide +kernel
theorem dX5_go_30 : decode cX5_go 30 = .ok (.sipush 5000, 3) := by decide +kernel
theorem dX5_go_33 : decode cX5_go 33 = .ok (.if_icmp .le 13, 3) := by decide +kernel
theorem dX5_go_36 : decode cX5_go 36 = .ok (.new 60, 3) := by decide +kernel
theorem dX5_go_39 : decode cX5_go 39 = .ok (.dup, 1) := by decide +kernel
theorem dX5_go_40 : decode cX5_go 40 = .ok (.ldc 160, 2) := by decide +kernel
theorem dX5_go_42 : decode cX5_go 42 = .ok (.invokespecial 64, 3) := by decide +kernel
theorem dX5_go_45 : decode cX5_go 45 = .ok (.athrow, 1) := by decide +kernel
theorem dX5_go_46 : decode cX5_go 46 = .ok (.aload_n 0, 1) := by decide +kernel
theorem dX5_go_47 : decode cX5_go 47 = .ok (.getfield 28, 3) := by decide +kernel
theorem dX5_go_50 : decode cX5_go 50 = .ok (.getfield 162, 3) := by decide +kernel
theorem dX5_go_53 : decode cX5_go 53 = .ok (.istore_n 2, 1) := by decide +kernel
theorem dX5_go_54 : decode cX5_go 54 = .ok (.iconst 0, 1) := by decide +kernel
theorem dX5_go_55 : decode cX5_go 55 = .ok (.istore_n 3, 1) := by decide +kernel
theorem dX5_go_56 : decode cX5_go 56 = .ok (.iload_n 3, 1) := by decide +kernel
theorem dX5_go_57 : decode cX5_go 57 = .ok (.iload_n 1, 1) := by decide +kernel
theorem dX5_go_58 : decode cX5_go 58 = .ok (.if_icmp .ge 16, 3) := by decide +kernel
theorem dX5_go_61 : decode cX5_go 61 = .ok (.aload_n 0, 1) := by decide +kernel
theorem dX5_go_62 : decode cX5_go 62 = .ok (.getfield 28, 3) := by decide +kernel
theorem dX5_go_65 : decode cX5_go 65 = .ok (.invokevirtual 165, 3) := by decide +kernel
theorem dX5_go_68 : decode cX5_go 68 = .ok (.iinc 3 1, 3) := by decide +kernel
theorem dX5_go_71 : decode cX5_go 71 = .ok (.goto (-15), 3) := by decide +kernel
theorem dX5_go_74 : decode cX5_go 74 = .ok (.aload_n 0, 1) := by decide +kernel
theorem dX5_go_75 : decode cX5_go 75 = .ok (.getfield 28, 3) := by decide +kernel
theorem dX5_go_78 : decode cX5_go 78 = .ok (.getfield 162, 3) := by decide +kernel
theorem dX5_go_81 : decode cX5_go 81 = .ok (.iload_n 2, 1) := by decide +kernel
theorem dX5_go_82 : decode cX5_go 82 = .ok (.isub, 1) := by decide +kernel
theorem dX5_go_83 : decode cX5_go 83 = .ok (.ireturn, 1) := by decide +kernel
theorem dX5_lamp_0 : decode cX5_lamp 0 = .ok (.aload_n 0, 1) := by decide +kernel
theorem dX5_lamp_1 : decode cX5_lamp 1 = .ok (.iload_n 1, 1) := by decide +kernel
theorem dX5_lamp_2 : decode cX5_lamp 2 = .ok (.invokevirtual 69, 3) := by decide +kernel
theorem dX5_lamp_5 : decode cX5_lamp 5 = .ok (.iload_n 2, 1) := by decide +kernel
theorem dX5_lamp_6 : decode cX5_lamp 6 = .ok (.iconst 0, 1) := by decide +kernel
theorem dX5_lamp_7 : decode cX5_lamp 7 = .ok (.aload_n 0, 1) := by decide +kernel
theorem dX5_lamp_8 : decode cX5_lamp 8 = .ok (.getfield 28, 3) := by decide +kernel
theorem dX5_lamp_11 : decode cX5_lamp 11 = .ok (.getfield 157, 3) := by decide +kernel
theorem dX5_lamp_14 : decode cX5_lamp 14 = .ok (.iconst 1, 1) := by decide +kernel
theorem dX5_lamp_15 : decode cX5_lamp 15 = .ok (.isub, 1) := by decide +kernel
theorem dX5_lamp_16 : decode cX5_lamp 16 = .ok (.invokestatic 41, 3) := by decide +kernel
theorem dX5_lamp_19 : decode cX5_lamp 19 = .ok (.ifCond .ne 13, 3) := by decide +kernel
theorem dX5_lamp_22 : decode cX5_lamp 22 = .ok (.new 168, 3) := by decide +kernel
theorem dX5_lamp_25 : decode cX5_lamp 25 = .ok (.dup, 1) := by decide +kernel
theorem dX5_lamp_26 : decode cX5_lamp 26 = .ok (.ldc 170, 2) := by decide +kernel
theorem dX5_lamp_28 : decode cX5_lamp 28 = .ok (.invokespecial 172, 3) := by decide +kernel
theorem dX5_lamp_31 : decode cX5_lamp 31 = .ok (.athrow, 1) := by decide +kernel
theorem dX5_lamp_32 : decode cX5_lamp 32 = .ok (.aload_n 0, 1) := by decide +kernel
theorem dX5_lamp_33 : decode cX5_lamp 33 = .ok (.getfield 19, 3) := by decide +kernel
theorem dX5_lamp_36 : decode cX5_lamp 36 = .ok (.iload_n 1, 1) := by decide +kernel
theorem dX5_lamp_37 : decode cX5_lamp 37 = .ok (.iload_n 2, 1) := by decide +kernel
theorem dX5_lamp_38 : decode cX5_lamp 38 = .ok (.invokevirtual 173, 3) := by decide +kernel
theorem dX5_lamp_41 : decode cX5_lamp 41 = .ok (.ireturn, 1) := by decide +kernel
theorem dX5_ofPhase_0 : decode cX5_ofPhase 0 = .ok (.aload_n 0, 1) := by decide +kernel
theorem dX5_ofPhase_1 : decode cX5_ofPhase 1 = .ok (.iload_n 1, 1) := by decide +kernel
theorem dX5_ofPhase_2 : decode cX5_ofPhase 2 = .ok (.invokevirtual 69, 3) := by decide +kernel
theorem dX5_ofPhase_5 : decode cX5_ofPhase 5 = .ok (.iload_n 2, 1) := by decide +kernel
theorem dX5_ofPhase_6 : decode cX5_ofPhase 6 = .ok (.iconst 0, 1) := by decide +kernel
theorem dX5_ofPhase_7 : decode cX5_ofPhase 7 = .ok (.bipush 6, 2) := by decide +kernel
theorem dX5_ofPhase_9 : decode cX5_ofPhase 9 = .ok (.invokestatic 41, 3) := by decide +kernel
theorem dX5_ofPhase_12 : decode cX5_ofPhase 12 = .ok (.ifCond .ne 13, 3) := by decide +kernel
theorem dX5_ofPhase_15 : decode cX5_ofPhase 15 = .ok (.new 45, 3) := by decide +kernel
theorem dX5_ofPhase_18 : decode cX5_ofPhase 18 = .ok (.dup, 1) := by decide +kernel
theorem dX5_ofPhase_19 : decode cX5_ofPhase 19 = .ok (.ldc 177, 2) := by decide +kernel
theorem dX5_ofPhase_21 : decode cX5_ofPhase 21 = .ok (.invokespecial 49, 3) := by decide +kernel
theorem dX5_ofPhase_24 : decode cX5_ofPhase 24 = .ok (.athrow, 1) := by decide +kernel
theorem dX5_ofPhase_25 : decode cX5_ofPhase 25 = .ok (.aload_n 0, 1) := by decide +kernel
theorem dX5_ofPhase_26 : decode cX5_ofPhase 26 = .ok (.getfield 10, 3) := by decide +kernel
theorem dX5_ofPhase_29 : decode cX5_ofPhase 29 = .ok (.getfield 120, 3) := by decide +kernel
theorem dX5_ofPhase_32 : decode cX5_ofPhase 32 = .ok (.iload_n 1, 1) := by decide +kernel
theorem dX5_ofPhase_33 : decode cX5_ofPhase 33 = .ok (.aaload, 1) := by decide +kernel
theorem dX5_ofPhase_34 : decode cX5_ofPhase 34 = .ok (.iload_n 2, 1) := by decide +kernel
theorem dX5_ofPhase_35 : decode cX5_ofPhase 35 = .ok (.invokevirtual 179, 3) := by decide +kernel
theorem dX5_ofPhase_38 : decode cX5_ofPhase 38 = .ok (.ireturn, 1) := by decide +kernel
theorem dX5_of_0 : decode cX5_of 0 = .ok (.iload_n 1, 1) := by decide +kernel
theorem dX5_of_1 : decode cX5_of 1 = .ok (.iconst 0, 1) := by decide +kernel
theorem dX5_of_2 : decode cX5_of 2 = .ok (.iconst 4, 1) := by decide +kernel
theorem dX5_of_3 : decode cX5_of 3 = .ok (.invokestatic 41, 3) := by decide +kernel
theorem dX5_of_6 : decode cX5_of 6 = .ok (.ifCond .ne 13, 3) := by decide +kernel
theorem dX5_of_9 : decode cX5_of 9 = .ok (.new 45, 3) := by decide +kernel
theorem dX5_of_12 : decode cX5_of 12 = .ok (.dup, 1) := by decide +kernel
theorem dX5_of_13 : decode cX5_of 13 = .ok (.ldc 177, 2) := by decide +kernel
theorem dX5_of_15 : decode cX5_of 15 = .ok (.invokespecial 49, 3) := by decide +kernel
theorem dX5_of_18 : decode cX5_of 18 = .ok (.athrow, 1) := by decide +kernel
theorem dX5_of_19 : decode cX5_of 19 = .ok (.aload_n 0, 1) := by decide +kernel
theorem dX5_of_20 : decode cX5_of 20 = .ok (.getfield 28, 3) := by decide +kernel
theorem dX5_of_23 : decode cX5_of 23 = .ok (.iload_n 1, 1) := by decide +kernel
theorem dX5_of_24 : decode cX5_of 24 = .ok (.invokevirtual 182, 3) := by decide +kernel
theorem dX5_of_27 : decode cX5_of 27 = .ok (.ireturn, 1) := by decide +kernel
theorem dX5_delay_0 : decode cX5_delay 0 = .ok (.aload_n 0, 1) := by decide +kernel
theorem dX5_delay_1 : decode cX5_delay 1 = .ok (.getfield 28, 3) := by decide +kernel
theorem dX5_delay_4 : decode cX5_delay 4 = .ok (.getfield 183, 3) := by decide +kernel
theorem dX5_delay_7 : decode cX5_delay 7 = .ok (.lreturn, 1) := by decide +kernel
theorem dX5_delayEach_0 : decode cX5_delayEach 0 = .ok (.aload_n 0, 1) := by decide +kernel
theorem dX5_delayEach_1 : decode cX5_delayEach 1 = .ok (.getfield 28, 3) := by decide +kernel
theorem dX5_delayEach_4 : decode cX5_delayEach 4 = .ok (.getfield 162, 3) := by decide +kernel
theorem dX5_delayEach_7 : decode cX5_delayEach 7 = .ok (.ifCond .ne 5, 3) := by decide +kernel
theorem dX5_delayEach_10 : decode cX5_delayEach 10 = .ok (.fconst 0, 1) := by decide +kernel
theorem dX5_delayEach_11 : decode cX5_delayEach 11 = .ok (.freturn, 1) := by decide +kernel
theorem dX5_delayEach_12 : decode cX5_delayEach 12 = .ok (.aload_n 0, 1) := by decide +kernel
theorem dX5_delayEach_13 : decode cX5_delayEach 13 = .ok (.getfield 28, 3) := by decide +kernel
theorem dX5_delayEach_16 : decode cX5_delayEach 16 = .ok (.getfield 183, 3) := by decide +kernel
theorem dX5_delayEach_19 : decode cX5_delayEach 19 = .ok (.l2f, 1) := by decide +kernel
theorem dX5_delayEach_20 : decode cX5_delayEach 20 = .ok (.aload_n 0, 1) := by decide +kernel
theorem dX5_delayEach_21 : decode cX5_delayEach 21 = .ok (.getfield 28, 3) := by decide +kernel
theorem dX5_delayEach_24 : decode cX5_delayEach 24 = .ok (.getfield 162, 3) := by decide +kernel
theorem dX5_delayEach_27 : decode cX5_delayEach 27 = .ok (.i2f, 1) := by decide +kernel
theorem dX5_delayEach_28 : decode cX5_delayEach 28 = .ok (.fdiv, 1) := by decide +kernel
theorem dX5_delayEach_29 : decode cX5_delayEach 29 = .ok (.freturn, 1) := by decide +kernel
theorem dX5_seen_0 : decode cX5_seen 0 = .ok (.aload_n 0, 1) := by decide +kernel
theorem dX5_seen_1 : decode cX5_seen 1 = .ok (.iload_n 1, 1) := by decide +kernel
theorem dX5_seen_2 : decode cX5_seen 2 = .ok (.invokevirtual 69, 3) := by decide +kernel
theorem dX5_seen_5 : decode cX5_seen 5 = .ok (.aload_n 0, 1) := by decide +kernel
theorem dX5_seen_6 : decode cX5_seen 6 = .ok (.iload_n 2, 1) := by decide +kernel
theorem dX5_seen_7 : decode cX5_seen 7 = .ok (.invokevirtual 69, 3) := by decide +kernel
theorem dX5_seen_10 : decode cX5_seen 10 = .ok (.iload_n 1, 1) := by decide +kernel
theorem dX5_seen_11 : decode cX5_seen 11 = .ok (.iload_n 2, 1) := by decide +kernel
theorem dX5_seen_12 : decode cX5_seen 12 = .ok (.if_icmp .ne 13, 3) := by decide +kernel
theorem dX5_seen_15 : decode cX5_seen 15 = .ok (.new 45, 3) := by decide +kernel
theorem dX5_seen_18 : decode cX5_seen 18 = .ok (.dup, 1) := by decide +kernel
theorem dX5_seen_19 : decode cX5_seen 19 = .ok (.ldc 187, 2) := by decide +kernel
theorem dX5_seen_21 : decode cX5_seen 21 = .ok (.invokespecial 49, 3) := by decide +kernel
theorem dX5_seen_24 : decode cX5_seen 24 = .ok (.athrow, 1) := by decide +kernel
theorem dX5_seen_25 : decode cX5_seen 25 = .ok (.aload_n 0, 1) := by decide +kernel
theorem dX5_seen_26 : decode cX5_seen 26 = .ok (.getfield 19, 3) := by decide +kernel
theorem dX5_seen_29 : decode cX5_seen 29 = .ok (.iload_n 1, 1) := by decide +kernel
theorem dX5_seen_30 : decode cX5_seen 30 = .ok (.iload_n 2, 1) := by decide +kernel
theorem dX5_seen_31 : decode cX5_seen 31 = .ok (.aload_n 0, 1) := by decide +kernel
theorem dX5_seen_32 : decode cX5_seen 32 = .ok (.getfield 28, 3) := by decide +kernel
theorem dX5_seen_35 : decode cX5_seen 35 = .ok (.getfield 157, 3) := by decide +kernel
theorem dX5_seen_38 : decode cX5_seen 38 = .ok (.invokevirtual 189, 3) := by decide +kernel
theorem dX5_seen_41 : decode cX5_seen 41 = .ok (.ireturn, 1) := by decide +kernel
theorem dX5_change_0 : decode cX5_change 0 = .ok (.aload_n 0, 1) := by decide +kernel
theorem dX5_change_1 : decode cX5_change 1 = .ok (.iload_n 1, 1) := by decide +kernel
theorem dX5_change_2 : decode cX5_change 2 = .ok (.invokevirtual 100, 3) := by decide +kernel
theorem dX5_change_5 : decode cX5_change 5 = .ok (.aload_n 0, 1) := by decide +kernel
theorem dX5_change_6 : decode cX5_change 6 = .ok (.iload_n 2, 1) := by decide +kernel
theorem dX5_change_7 : decode cX5_change 7 = .ok (.invokevirtual 100, 3) := by decide +kernel
theorem dX5_change_10 : decode cX5_change 10 = .ok (.aload_n 0, 1) := by decide +kernel
theorem dX5_change_11 : decode cX5_change 11 = .ok (.getfield 10, 3) := by decide +kernel
theorem dX5_change_14 : decode cX5_change 14 = .ok (.iload_n 1, 1) := by decide +kernel
theorem dX5_change_15 : decode cX5_change 15 = .ok (.iload_n 2, 1) := by decide +kernel
theorem dX5_change_16 : decode cX5_change 16 = .ok (.invokevirtual 192, 3) := by decide +kernel
theorem dX5_change_19 : decode cX5_change 19 = .ok (.ireturn, 1) := by decide +kernel
theorem dX5_round_0 : decode cX5_round 0 = .ok (.aload_n 0, 1) := by decide +kernel
theorem dX5_round_1 : decode cX5_round 1 = .ok (.getfield 37, 3) := by decide +kernel
theorem dX5_round_4 : decode cX5_round 4 = .ok (.invokevirtual 195, 3) := by decide +kernel
theorem dX5_round_7 : decode cX5_round 7 = .ok (.ireturn, 1) := by decide +kernel
theorem dX5_roundAnew_0 : decode cX5_roundAnew 0 = .ok (.aload_n 0, 1) := by decide +kernel
theorem dX5_roundAnew_1 : decode cX5_roundAnew 1 = .ok (.getfield 37, 3) := by decide +kernel
theorem dX5_roundAnew_4 : decode cX5_roundAnew 4 = .ok (.invokevirtual 199, 3) := by decide +kernel
theorem dX5_roundAnew_7 : decode cX5_roundAnew 7 = .ok (.ireturn, 1) := by decide +kernel
theorem dX5_inRound_0 : decode cX5_inRound 0 = .ok (.iload_n 1, 1) := by decide +kernel
theorem dX5_inRound_1 : decode cX5_inRound 1 = .ok (.iconst 0, 1) := by decide +kernel
theorem dX5_inRound_2 : decode cX5_inRound 2 = .ok (.aload_n 0, 1) := by decide +kernel
theorem dX5_inRound_3 : decode cX5_inRound 3 = .ok (.getfield 10, 3) := by decide +kernel
theorem dX5_inRound_6 : decode cX5_inRound 6 = .ok (.getfield 91, 3) := by decide +kernel
theorem dX5_inRound_9 : decode cX5_inRound 9 = .ok (.iconst 1, 1) := by decide +kernel
theorem dX5_inRound_10 : decode cX5_inRound 10 = .ok (.isub, 1) := by decide +kernel
theorem dX5_inRound_11 : decode cX5_inRound 11 = .ok (.invokestatic 41, 3) := by decide +kernel
theorem dX5_inRound_14 : decode cX5_inRound 14 = .ok (.ifCond .ne 13, 3) := by decide +kernel
theorem dX5_inRound_17 : decode cX5_inRound 17 = .ok (.new 168, 3) := by decide +kernel
theorem dX5_inRound_20 : decode cX5_inRound 20 = .ok (.dup, 1) := by decide +kernel
theorem dX5_inRound_21 : decode cX5_inRound 21 = .ok (.ldc 202, 2) := by decide +kernel
theorem dX5_inRound_23 : decode cX5_inRound 23 = .ok (.invokespecial 172, 3) := by decide +kernel
theorem dX5_inRound_26 : decode cX5_inRound 26 = .ok (.athrow, 1) := by decide +kernel
theorem dX5_inRound_27 : decode cX5_inRound 27 = .ok (.aload_n 0, 1) := by decide +kernel
theorem dX5_inRound_28 : decode cX5_inRound 28 = .ok (.getfield 37, 3) := by decide +kernel
theorem dX5_inRound_31 : decode cX5_inRound 31 = .ok (.iload_n 1, 1) := by decide +kernel
theorem dX5_inRound_32 : decode cX5_inRound 32 = .ok (.invokevirtual 204, 3) := by decide +kernel
theorem dX5_inRound_35 : decode cX5_inRound 35 = .ok (.ireturn, 1) := by decide +kernel
theorem dX5_isWithin_0 : decode cX5_isWithin 0 = .ok (.iload_n 1, 1) := by decide +kernel
theorem dX5_isWithin_1 : decode cX5_isWithin 1 = .ok (.iload_n 0, 1) := by decide +kernel
theorem dX5_isWithin_2 : decode cX5_isWithin 2 = .ok (.if_icmp .gt 12, 3) := by decide +kernel
theorem dX5_isWithin_5 : decode cX5_isWithin 5 = .ok (.iload_n 0, 1) := by decide +kernel
theorem dX5_isWithin_6 : decode cX5_isWithin 6 = .ok (.iload_n 2, 1) := by decide +kernel
theorem dX5_isWithin_7 : decode cX5_isWithin 7 = .ok (.if_icmp .gt 7, 3) := by decide +kernel
theorem dX5_isWithin_10 : decode cX5_isWithin 10 = .ok (.iconst 1, 1) := by decide +kernel
theorem dX5_isWithin_11 : decode cX5_isWithin 11 = .ok (.goto 4, 3) := by decide +kernel
theorem dX5_isWithin_14 : decode cX5_isWithin 14 = .ok (.iconst 0, 1) := by decide +kernel
theorem dX5_isWithin_15 : decode cX5_isWithin 15 = .ok (.ireturn, 1) := by decide +kernel
theorem dX5_has_0 : decode cX5_has 0 = .ok (.iload_n 0, 1) := by decide +kernel
theorem dX5_has_1 : decode cX5_has 1 = .ok (.iload_n 1, 1) := by decide +kernel
theorem dX5_has_2 : decode cX5_has 2 = .ok (.ishr, 1) := by decide +kernel
theorem dX5_has_3 : decode cX5_has 3 = .ok (.iconst 1, 1) := by decide +kernel
theorem dX5_has_4 : decode cX5_has 4 = .ok (.iand, 1) := by decide +kernel
theorem dX5_has_5 : decode cX5_has 5 = .ok (.ifCond .eq 7, 3) := by decide +kernel
theorem dX5_has_8 : decode cX5_has 8 = .ok (.iconst 1, 1) := by decide +kernel
theorem dX5_has_9 : decode cX5_has 9 = .ok (.goto 4, 3) := by decide +kernel
theorem dX5_has_12 : decode cX5_has 12 = .ok (.iconst 0, 1) := by decide +kernel
theorem dX5_has_13 : decode cX5_has 13 = .ok (.ireturn, 1) := by decide +kernel
theorem dX5_needPhase_0 : decode cX5_needPhase 0 = .ok (.iload_n 1, 1) := by decide +kernel
theorem dX5_needPhase_1 : decode cX5_needPhase 1 = .ok (.iconst 0, 1) := by decide +kernel
theorem dX5_needPhase_2 : decode cX5_needPhase 2 = .ok (.aload_n 0, 1) := by decide +kernel
theorem dX5_needPhase_3 : decode cX5_needPhase 3 = .ok (.getfield 10, 3) := by decide +kernel
theorem dX5_needPhase_6 : decode cX5_needPhase 6 = .ok (.getfield 56, 3) := by decide +kernel
theorem dX5_needPhase_9 : decode cX5_needPhase 9 = .ok (.iconst 1, 1) := by decide +kernel
theorem dX5_needPhase_10 : decode cX5_needPhase 10 = .ok (.isub, 1) := by decide +kernel
theorem dX5_needPhase_11 : decode cX5_needPhase 11 = .ok (.invokestatic 41, 3) := by decide +kernel
theorem dX5_needPhase_14 : decode cX5_needPhase 14 = .ok (.ifCond .ne 13, 3) := by decide +kernel
theorem dX5_needPhase_17 : decode cX5_needPhase 17 = .ok (.new 168, 3) := by decide +kernel
theorem dX5_needPhase_20 : decode cX5_needPhase 20 = .ok (.dup, 1) := by decide +kernel
theorem dX5_needPhase_21 : decode cX5_needPhase 21 = .ok (.ldc 207, 2) := by decide +kernel
theorem dX5_needPhase_23 : decode cX5_needPhase 23 = .ok (.invokespecial 172, 3) := by decide +kernel
theorem dX5_needPhase_26 : decode cX5_needPhase 26 = .ok (.athrow, 1) := by decide +kernel
theorem dX5_needPhase_27 : decode cX5_needPhase 27 = .ok (.return_, 1) := by decide +kernel
theorem dX5_needStage_0 : decode cX5_needStage 0 = .ok (.iload_n 1, 1) := by decide +kernel
theorem dX5_needStage_1 : decode cX5_needStage 1 = .ok (.iconst 0, 1) := by decide +kernel
theorem dX5_needStage_2 : decode cX5_needStage 2 = .ok (.aload_n 0, 1) := by decide +kernel
theorem dX5_needStage_3 : decode cX5_needStage 3 = .ok (.getfield 10, 3) := by decide +kernel
theorem dX5_needStage_6 : decode cX5_needStage 6 = .ok (.getfield 91, 3) := by decide +kernel
theorem dX5_needStage_9 : decode cX5_needStage 9 = .ok (.iconst 1, 1) := by decide +kernel
theorem dX5_needStage_10 : decode cX5_needStage 10 = .ok (.isub, 1) := by decide +kernel
theorem dX5_needStage_11 : decode cX5_needStage 11 = .ok (.invokestatic 41, 3) := by decide +kernel
theorem dX5_needStage_14 : decode cX5_needStage 14 = .ok (.ifCond .ne 13, 3) := by decide +kernel
theorem dX5_needStage_17 : decode cX5_needStage 17 = .ok (.new 168, 3) := by decide +kernel
theorem dX5_needStage_20 : decode cX5_needStage 20 = .ok (.dup, 1) := by decide +kernel
theorem dX5_needStage_21 : decode cX5_needStage 21 = .ok (.ldc 209, 2) := by decide +kernel
theorem dX5_needStage_23 : decode cX5_needStage 23 = .ok (.invokespecial 172, 3) := by decide +kernel
theorem dX5_needStage_26 : decode cX5_needStage 26 = .ok (.athrow, 1) := by decide +kernel
theorem dX5_needStage_27 : decode cX5_needStage 27 = .ok (.return_, 1) := by decide +kernel
theorem dX6_init_0 : decode cX6_init 0 = .ok (.aload_n 0, 1) := by decide +kernel
theorem dX6_init_1 : decode cX6_init 1 = .ok (.invokespecial 1, 3) := by decide +kernel
theorem dX6_init_4 : decode cX6_init 4 = .ok (.aload_n 0, 1) := by decide +kernel
theorem dX6_init_5 : decode cX6_init 5 = .ok (.bipush 8, 2) := by decide +kernel
theorem dX6_init_7 : decode cX6_init 7 = .ok (.newarray .int, 2) := by decide +kernel
theorem dX6_init_9 : decode cX6_init 9 = .ok (.putfield 7, 3) := by decide +kernel
theorem dX6_init_12 : decode cX6_init 12 = .ok (.aload_n 0, 1) := by decide +kernel
theorem dX6_init_13 : decode cX6_init 13 = .ok (.bipush 8, 2) := by decide +kernel
theorem dX6_init_15 : decode cX6_init 15 = .ok (.newarray .int, 2) := by decide +kernel
theorem dX6_init_17 : decode cX6_init 17 = .ok (.putfield 13, 3) := by decide +kernel
theorem dX6_init_20 : decode cX6_init 20 = .ok (.aload_n 0, 1) := by decide +kernel
theorem dX6_init_21 : decode cX6_init 21 = .ok (.bipush 8, 2) := by decide +kernel
theorem dX6_init_23 : decode cX6_init 23 = .ok (.newarray .int, 2) := by decide +kernel
theorem dX6_init_25 : decode cX6_init 25 = .ok (.putfield 16, 3) := by decide +kernel
theorem dX6_init_28 : decode cX6_init 28 = .ok (.aload_n 0, 1) := by decide +kernel
theorem dX6_init_29 : decode cX6_init 29 = .ok (.bipush 64, 2) := by decide +kernel
theorem dX6_init_31 : decode cX6_init 31 = .ok (.newarray .int, 2) := by decide +kernel
theorem dX6_init_33 : decode cX6_init 33 = .ok (.putfield 19, 3) := by decide +kernel
theorem dX6_init_36 : decode cX6_init 36 = .ok (.aload_n 0, 1) := by decide +kernel
theorem dX6_init_37 : decode cX6_init 37 = .ok (.bipush 6, 2) := by decide +kernel
theorem dX6_init_39 : decode cX6_init 39 = .ok (.newarray .int, 2) := by decide +kernel
theorem dX6_init_41 : decode cX6_init 41 = .ok (.putfield 22, 3) := by decide +kernel
theorem dX6_init_44 : decode cX6_init 44 = .ok (.aload_n 0, 1) := by decide +kernel
theorem dX6_init_45 : decode cX6_init 45 = .ok (.bipush 8, 2) := by decide +kernel
theorem dX6_init_47 : decode cX6_init 47 = .ok (.newarray .int, 2) := by decide +kernel
theorem dX6_init_49 : decode cX6_init 49 = .ok (.putfield 25, 3) := by decide +kernel
theorem dX6_init_52 : decode cX6_init 52 = .ok (.aload_n 0, 1) := by decide +kernel
theorem dX6_init_53 : decode cX6_init 53 = .ok (.bipush 8, 2) := by decide +kernel
theorem dX6_init_55 : decode cX6_init 55 = .ok (.newarray .int, 2) := by decide +kernel
theorem dX6_init_57 : decode cX6_init 57 = .ok (.dup, 1) := by decide +kernel
theorem dX6_init_58 : decode cX6_init 58 = .ok (.iconst 0, 1) := by decide +kernel
theorem dX6_init_59 : decode cX6_init 59 = .ok (.iconst (-1), 1) := by decide +kernel
theorem dX6_init_60 : decode cX6_init 60 = .ok (.iastore, 1) := by decide +kernel
theorem dX6_init_61 : decode cX6_init 61 = .ok (.dup, 1) := by decide +kernel
theorem dX6_init_62 : decode cX6_init 62 = .ok (.iconst 1, 1) := by decide +kernel
theorem dX6_init_63 : decode cX6_init 63 = .ok (.iconst (-1), 1) := by decide +kernel
theorem dX6_init_64 : decode cX6_init 64 = .ok (.iastore, 1) := by decide +kernel
theorem dX6_init_65 : decode cX6_init 65 = .ok (.dup, 1) := by decide +kernel
theorem dX6_init_66 : decode cX6_init 66 = .ok (.iconst 2, 1) := by decide +kernel
theorem dX6_init_67 : decode cX6_init 67 = .ok (.iconst (-1), 1) := by decide +kernel
theorem dX6_init_68 : decode cX6_init 68 = .ok (.iastore, 1) := by decide +kernel
theorem dX6_init_69 : decode cX6_init 69 = .ok (.dup, 1) := by decide +kernel
theorem dX6_init_70 : decode cX6_init 70 = .ok (.iconst 3, 1) := by decide +kernel
theorem dX6_init_71 : decode cX6_init 71 = .ok (.iconst (-1), 1) := by decide +kernel
theorem dX6_init_72 : decode cX6_init 72 = .ok (.iastore, 1) := by decide +kernel
theorem dX6_init_73 : decode cX6_init 73 = .ok (.dup, 1) := by decide +kernel
theorem dX6_init_74 : decode cX6_init 74 = .ok (.iconst 4, 1) := by decide +kernel
theorem dX6_init_75 : decode cX6_init 75 = .ok (.iconst (-1), 1) := by decide +kernel
theorem dX6_init_76 : decode cX6_init 76 = .ok (.iastore, 1) := by decide +kernel
theorem dX6_init_77 : decode cX6_init 77 = .ok (.dup, 1) := by decide +kernel
theorem dX6_init_78 : decode cX6_init 78 = .ok (.iconst 5, 1) := by decide +kernel
theorem dX6_init_79 : decode cX6_init 79 = .ok (.iconst (-1), 1) := by decide +kernel
theorem dX6_init_80 : decode cX6_init 80 = .ok (.iastore, 1) := by decide +kernel
theorem dX6_init_81 : decode cX6_init 81 = .ok (.dup, 1) := by decide +kernel
theorem dX6_init_82 : decode cX6_init 82 = .ok (.bipush 6, 2) := by decide +kernel
theorem dX6_init_84 : decode cX6_init 84 = .ok (.iconst (-1), 1) := by decide +kernel
theorem dX6_init_85 : decode cX6_init 85 = .ok (.iastore, 1) := by decide +kernel
theorem dX6_init_86 : decode cX6_init 86 = .ok (.dup, 1) := by decide +kernel
theorem dX6_init_87 : decode cX6_init 87 = .ok (.bipush 7, 2) := by decide +kernel
theorem dX6_init_89 : decode cX6_init 89 = .ok (.iconst (-1), 1) := by decide +kernel
theorem dX6_init_90 : decode cX6_init 90 = .ok (.iastore, 1) := by decide +kernel
theorem dX6_init_91 : decode cX6_init 91 = .ok (.putfield 28, 3) := by decide +kernel
theorem dX6_init_94 : decode cX6_init 94 = .ok (.aload_n 0, 1) := by decide +kernel
theorem dX6_init_95 : decode cX6_init 95 = .ok (.bipush 8, 2) := by decide +kernel
theorem dX6_init_97 : decode cX6_init 97 = .ok (.newarray .int, 2) := by decide +kernel
theorem dX6_init_99 : decode cX6_init 99 = .ok (.putfield 31, 3) := by decide +kernel
theorem dX6_init_102 : decode cX6_init 102 = .ok (.aload_n 0, 1) := by decide +kernel
theorem dX6_init_103 : decode cX6_init 103 = .ok (.bipush 8, 2) := by decide +kernel
theorem dX6_init_105 : decode cX6_init 105 = .ok (.newarray .int, 2) := by decide +kernel
theorem dX6_init_107 : decode cX6_init 107 = .ok (.putfield 34, 3) := by decide +kernel
theorem dX6_init_110 : decode cX6_init 110 = .ok (.aload_n 0, 1) := by decide +kernel
theorem dX6_init_111 : decode cX6_init 111 = .ok (.bipush 8, 2) := by decide +kernel
theorem dX6_init_113 : decode cX6_init 113 = .ok (.newarray .int, 2) := by decide +kernel
theorem dX6_init_115 : decode cX6_init 115 = .ok (.putfield 37, 3) := by decide +kernel
theorem dX6_init_118 : decode cX6_init 118 = .ok (.aload_n 0, 1) := by decide +kernel
theorem dX6_init_119 : decode cX6_init 119 = .ok (.bipush 8, 2) := by decide +kernel
theorem dX6_init_121 : decode cX6_init 121 = .ok (.newarray .int, 2) := by decide +kernel
theorem dX6_init_123 : decode cX6_init 123 = .ok (.putfield 40, 3) := by decide +kernel
theorem dX6_init_126 : decode cX6_init 126 = .ok (.aload_n 0, 1) := by decide +kernel
theorem dX6_init_127 : decode cX6_init 127 = .ok (.bipush 8, 2) := by decide +kernel
theorem dX6_init_129 : decode cX6_init 129 = .ok (.newarray .int, 2) := by decide +kernel
theorem dX6_init_131 : decode cX6_init 131 = .ok (.putfield 43, 3) := by decide +kernel
theorem dX6_init_134 : decode cX6_init 134 = .ok (.aload_n 0, 1) := by decide +kernel
theorem dX6_init_135 : decode cX6_init 135 = .ok (.bipush 8, 2) := by decide +kernel
theorem dX6_init_137 : decode cX6_init 137 = .ok (.newarray .boolean, 2) := by decide +kernel
theorem dX6_init_139 : decode cX6_init 139 = .ok (.putfield 46, 3) := by decide +kernel
theorem dX6_init_142 : decode cX6_init 142 = .ok (.aload_n 0, 1) := by decide +kernel
theorem dX6_init_143 : decode cX6_init 143 = .ok (.bipush 24, 2) := by decide +kernel
theorem dX6_init_145 : decode cX6_init 145 = .ok (.newarray .boolean, 2) := by decide +kernel
theorem dX6_init_147 : decode cX6_init 147 = .ok (.putfield 50, 3) := by decide +kernel
theorem dX6_init_150 : decode cX6_init 150 = .ok (.aload_n 0, 1) := by decide +kernel
theorem dX6_init_151 : decode cX6_init 151 = .ok (.iconst (-1), 1) := by decide +kernel
theorem dX6_init_152 : decode cX6_init 152 = .ok (.putfield 53, 3) := by decide +kernel
theorem dX6_init_155 : decode cX6_init 155 = .ok (.aload_n 0, 1) := by decide +kernel
theorem dX6_init_156 : decode cX6_init 156 = .ok (.sipush 5000, 3) := by decide +kernel
theorem dX6_init_159 : decode cX6_init 159 = .ok (.newarray .int, 2) := by decide +kernel
theorem dX6_init_161 : decode cX6_init 161 = .ok (.putfield 57, 3) := by decide +kernel
theorem dX6_init_164 : decode cX6_init 164 = .ok (.aload_n 0, 1) := by decide +kernel
theorem dX6_init_165 : decode cX6_init 165 = .ok (.bipush 6, 2) := by decide +kernel
theorem dX6_init_167 : decode cX6_init 167 = .ok (.newarray .int, 2) := by decide +kernel
theorem dX6_init_169 : decode cX6_init 169 = .ok (.putfield 60, 3) := by decide +kernel
theorem dX6_init_172 : decode cX6_init 172 = .ok (.aload_n 0, 1) := by decide +kernel
theorem dX6_init_173 : decode cX6_init 173 = .ok (.bipush 6, 2) := by decide +kernel
theorem dX6_init_175 : decode cX6_init 175 = .ok (.newarray .int, 2) := by decide +kernel
theorem dX6_init_177 : decode cX6_init 177 = .ok (.putfield 63, 3) := by decide +kernel
theorem dX6_init_180 : decode cX6_init 180 = .ok (.return_, 1) := by decide +kernel
theorem dX6_thrown_0 : decode cX6_thrown 0 = .ok (.aload_n 0, 1) := by decide +kernel
theorem dX6_thrown_1 : decode cX6_thrown 1 = .ok (.getfield 66, 3) := by decide +kernel
theorem dX6_thrown_4 : decode cX6_thrown 4 = .ok (.ireturn, 1) := by decide +kernel
theorem dX6_goesWell_0 : decode cX6_goesWell 0 = .ok (.aload_n 0, 1) := by decide +kernel
theorem dX6_goesWell_1 : decode cX6_goesWell 1 = .ok (.iload_n 1, 1) := by decide +kernel
theorem dX6_goesWell_2 : decode cX6_goesWell 2 = .ok (.putfield 66, 3) := by decide +kernel
theorem dX6_goesWell_5 : decode cX6_goesWell 5 = .ok (.iload_n 1, 1) := by decide +kernel
theorem dX6_goesWell_6 : decode cX6_goesWell 6 = .ok (.ifCond .ne 7, 3) := by decide +kernel
theorem dX6_goesWell_9 : decode cX6_goesWell 9 = .ok (.iconst 1, 1) := by decide +kernel
theorem dX6_goesWell_10 : decode cX6_goesWell 10 = .ok (.goto 4, 3) := by decide +kernel
theorem dX6_goesWell_13 : decode cX6_goesWell 13 = .ok (.iconst 0, 1) := by decide +kernel
theorem dX6_goesWell_14 : decode cX6_goesWell 14 = .ok (.ireturn, 1) := by decide +kernel
theorem dX6_in_0 : decode cX6_in 0 = .ok (.iload_n 0, 1) := by decide +kernel
theorem dX6_in_1 : decode cX6_in 1 = .ok (.iload_n 1, 1) := by decide +kernel
theorem dX6_in_2 : decode cX6_in 2 = .ok (.if_icmp .lt 12, 3) := by decide +kernel
theorem dX6_in_5 : decode cX6_in 5 = .ok (.iload_n 0, 1) := by decide +kernel
theorem dX6_in_6 : decode cX6_in 6 = .ok (.iload_n 2, 1) := by decide +kernel
theorem dX6_in_7 : decode cX6_in 7 = .ok (.if_icmp .gt 7, 3) := by decide +kernel
theorem dX6_in_10 : decode cX6_in 10 = .ok (.iconst 1, 1) := by decide +kernel
theorem dX6_in_11 : decode cX6_in 11 = .ok (.goto 4, 3) := by decide +kernel
theorem dX6_in_14 : decode cX6_in 14 = .ok (.iconst 0, 1) := by decide +kernel
theorem dX6_in_15 : decode cX6_in 15 = .ok (.ireturn, 1) := by decide +kernel
theorem dX6_isPhase_0 : decode cX6_isPhase 0 = .ok (.iload_n 1, 1) := by decide +kernel
theorem dX6_isPhase_1 : decode cX6_isPhase 1 = .ok (.iconst 0, 1) := by decide +kernel
theorem dX6_isPhase_2 : decode cX6_isPhase 2 = .ok (.aload_n 0, 1) := by decide +kernel
theorem dX6_isPhase_3 : decode cX6_isPhase 3 = .ok (.getfield 69, 3) := by decide +kernel
theorem dX6_isPhase_6 : decode cX6_isPhase 6 = .ok (.iconst 1, 1) := by decide +kernel
theorem dX6_isPhase_7 : decode cX6_isPhase 7 = .ok (.isub, 1) := by decide +kernel
theorem dX6_isPhase_8 : decode cX6_isPhase 8 = .ok (.invokestatic 72, 3) := by decide +kernel
theorem dX6_isPhase_11 : decode cX6_isPhase 11 = .ok (.ireturn, 1) := by decide +kernel
theorem dX6_isStage_0 : decode cX6_isStage 0 = .ok (.iload_n 1, 1) := by decide +kernel
theorem dX6_isStage_1 : decode cX6_isStage 1 = .ok (.iconst 0, 1) := by decide +kernel
theorem dX6_isStage_2 : decode cX6_isStage 2 = .ok (.aload_n 0, 1) := by decide +kernel
theorem dX6_isStage_3 : decode cX6_isStage 3 = .ok (.getfield 76, 3) := by decide +kernel
theorem dX6_isStage_6 : decode cX6_isStage 6 = .ok (.iconst 1, 1) := by decide +kernel
theorem dX6_isStage_7 : decode cX6_isStage 7 = .ok (.isub, 1) := by decide +kernel
theorem dX6_isStage_8 : decode cX6_isStage 8 = .ok (.invokestatic 72, 3) := by decide +kernel
theorem dX6_isStage_11 : decode cX6_isStage 11 = .ok (.ireturn, 1) := by decide +kernel
theorem dX6_has_0 : decode cX6_has 0 = .ok (.iload_n 0, 1) := by decide +kernel
theorem dX6_has_1 : decode cX6_has 1 = .ok (.iload_n 1, 1) := by decide +kernel
theorem dX6_has_2 : decode cX6_has 2 = .ok (.ishr, 1) := by decide +kernel
theorem dX6_has_3 : decode cX6_has 3 = .ok (.iconst 1, 1) := by decide +kernel
theorem dX6_has_4 : decode cX6_has 4 = .ok (.iand, 1) := by decide +kernel
theorem dX6_has_5 : decode cX6_has 5 = .ok (.iconst 1, 1) := by decide +kernel
theorem dX6_has_6 : decode cX6_has 6 = .ok (.if_icmp .ne 7, 3) := by decide +kernel
theorem dX6_has_9 : decode cX6_has 9 = .ok (.iconst 1, 1) := by decide +kernel
theorem dX6_has_10 : decode cX6_has 10 = .ok (.goto 4, 3) := by decide +kernel
theorem dX6_has_13 : decode cX6_has 13 = .ok (.iconst 0, 1) := by decide +kernel
theorem dX6_has_14 : decode cX6_has 14 = .ok (.ireturn, 1) := by decide +kernel
theorem dX6_phase_0 : decode cX6_phase 0 = .ok (.iload_n 1, 1) := by decide +kernel
theorem dX6_phase_1 : decode cX6_phase 1 = .ok (.iconst 1, 1) := by decide +kernel
theorem dX6_phase_2 : decode cX6_phase 2 = .ok (.bipush 30, 2) := by decide +kernel
theorem dX6_phase_4 : decode cX6_phase 4 = .ok (.invokestatic 72, 3) := by decide +kernel
theorem dX6_phase_7 : decode cX6_phase 7 = .ok (.ifCond .eq 27, 3) := by decide +kernel
theorem dX6_phase_10 : decode cX6_phase 10 = .ok (.iload_n 2, 1) := by decide +kernel
theorem dX6_phase_11 : decode cX6_phase 11 = .ok (.iload_n 1, 1) := by decide +kernel
theorem dX6_phase_12 : decode cX6_phase 12 = .ok (.bipush 120, 2) := by decide +kernel
theorem dX6_phase_14 : decode cX6_phase 14 = .ok (.invokestatic 72, 3) := by decide +kernel
theorem dX6_phase_17 : decode cX6_phase 17 = .ok (.ifCond .eq 17, 3) := by decide +kernel
theorem dX6_phase_20 : decode cX6_phase 20 = .ok (.iload_n 3, 1) := by decide +kernel
theorem dX6_phase_21 : decode cX6_phase 21 = .ok (.iconst 0, 1) := by decide +kernel
theorem dX6_phase_22 : decode cX6_phase 22 = .ok (.bipush 10, 2) := by decide +kernel
theorem dX6_phase_24 : decode cX6_phase 24 = .ok (.invokestatic 72, 3) := by decide +kernel
theorem dX6_phase_27 : decode cX6_phase 27 = .ok (.ifCond .eq 7, 3) := by decide +kernel
theorem dX6_phase_30 : decode cX6_phase 30 = .ok (.iconst 1, 1) := by decide +kernel
theorem dX6_phase_31 : decode cX6_phase 31 = .ok (.goto 4, 3) := by decide +kernel
theorem dX6_phase_34 : decode cX6_phase 34 = .ok (.iconst 0, 1) := by decide +kernel
theorem dX6_phase_35 : decode cX6_phase 35 = .ok (.istore 4, 2) := by decide +kernel
theorem dX6_phase_37 : decode cX6_phase 37 = .ok (.aload_n 0, 1) := by decide +kernel
theorem dX6_phase_38 : decode cX6_phase 38 = .ok (.iload 4, 2) := by decide +kernel
theorem dX6_phase_40 : decode cX6_phase 40 = .ok (.ifCond .ne 7, 3) := by decide +kernel
theorem dX6_phase_43 : decode cX6_phase 43 = .ok (.iconst 1, 1) := by decide +kernel
theorem dX6_phase_44 : decode cX6_phase 44 = .ok (.goto 24, 3) := by decide +kernel
theorem dX6_phase_47 : decode cX6_phase 47 = .ok (.aload_n 0, 1) := by decide +kernel
theorem dX6_phase_48 : decode cX6_phase 48 = .ok (.getfield 79, 3) := by decide +kernel
theorem dX6_phase_51 : decode cX6_phase 51 = .ok (.ifCond .ne 12, 3) := by decide +kernel
theorem dX6_phase_54 : decode cX6_phase 54 = .ok (.aload_n 0, 1) := by decide +kernel
theorem dX6_phase_55 : decode cX6_phase 55 = .ok (.getfield 69, 3) := by decide +kernel
theorem dX6_phase_58 : decode cX6_phase 58 = .ok (.bipush 8, 2) := by decide +kernel
theorem dX6_phase_60 : decode cX6_phase 60 = .ok (.if_icmp .ne 7, 3) := by decide +kernel
theorem dX6_phase_63 : decode cX6_phase 63 = .ok (.iconst 2, 1) := by decide +kernel
theorem dX6_phase_64 : decode cX6_phase 64 = .ok (.goto 4, 3) := by decide +kernel
theorem dX6_phase_67 : decode cX6_phase 67 = .ok (.iconst 0, 1) := by decide +kernel
theorem dX6_phase_68 : decode cX6_phase 68 = .ok (.invokevirtual 83, 3) := by decide +kernel
theorem dX6_phase_71 : decode cX6_phase 71 = .ok (.ifCond .ne 5, 3) := by decide +kernel
theorem dX6_phase_74 : decode cX6_phase 74 = .ok (.iconst 0, 1) := by decide +kernel
theorem dX6_phase_75 : decode cX6_phase 75 = .ok (.ireturn, 1) := by decide +kernel
theorem dX6_phase_76 : decode cX6_phase 76 = .ok (.aload_n 0, 1) := by decide +kernel
theorem dX6_phase_77 : decode cX6_phase 77 = .ok (.getfield 7, 3) := by decide +kernel
theorem dX6_phase_80 : decode cX6_phase 80 = .ok (.aload_n 0, 1) := by decide +kernel
theorem dX6_phase_81 : decode cX6_phase 81 = .ok (.getfield 69, 3) := by decide +kernel
theorem dX6_phase_84 : decode cX6_phase 84 = .ok (.iload_n 1, 1) := by decide +kernel
theorem dX6_phase_85 : decode cX6_phase 85 = .ok (.iastore, 1) := by decide +kernel
theorem dX6_phase_86 : decode cX6_phase 86 = .ok (.aload_n 0, 1) := by decide +kernel
theorem dX6_phase_87 : decode cX6_phase 87 = .ok (.getfield 13, 3) := by decide +kernel
theorem dX6_phase_90 : decode cX6_phase 90 = .ok (.aload_n 0, 1) := by decide +kernel
theorem dX6_phase_91 : decode cX6_phase 91 = .ok (.getfield 69, 3) := by decide +kernel
theorem dX6_phase_94 : decode cX6_phase 94 = .ok (.iload_n 2, 1) := by decide +kernel
theorem dX6_phase_95 : decode cX6_phase 95 = .ok (.iastore, 1) := by decide +kernel
theorem dX6_phase_96 : decode cX6_phase 96 = .ok (.aload_n 0, 1) := by decide +kernel
theorem dX6_phase_97 : decode cX6_phase 97 = .ok (.getfield 16, 3) := by decide +kernel
theorem dX6_phase_100 : decode cX6_phase 100 = .ok (.aload_n 0, 1) := by decide +kernel
theorem dX6_phase_101 : decode cX6_phase 101 = .ok (.getfield 69, 3) := by decide +kernel
theorem dX6_phase_104 : decode cX6_phase 104 = .ok (.iload_n 3, 1) := by decide +kernel
theorem dX6_phase_105 : decode cX6_phase 105 = .ok (.iastore, 1) := by decide +kernel
theorem dX6_phase_106 : decode cX6_phase 106 = .ok (.aload_n 0, 1) := by decide +kernel
theorem dX6_phase_107 : decode cX6_phase 107 = .ok (.dup, 1) := by decide +kernel
theorem dX6_phase_108 : decode cX6_phase 108 = .ok (.getfield 69, 3) := by decide +kernel
theorem dX6_phase_111 : decode cX6_phase 111 = .ok (.iconst 1, 1) := by decide +kernel
theorem dX6_phase_112 : decode cX6_phase 112 = .ok (.iadd, 1) := by decide +kernel
theorem dX6_phase_113 : decode cX6_phase 113 = .ok (.putfield 69, 3) := by decide +kernel
theorem dX6_phase_116 : decode cX6_phase 116 = .ok (.aload_n 0, 1) := by decide +kernel
theorem dX6_phase_117 : decode cX6_phase 117 = .ok (.getfield 69, 3) := by decide +kernel
theorem dX6_phase_120 : decode cX6_phase 120 = .ok (.iconst 1, 1) := by decide +kernel
theorem dX6_phase_121 : decode cX6_phase 121 = .ok (.isub, 1) := by decide +kernel
theorem dX6_phase_122 : decode cX6_phase 122 = .ok (.ireturn, 1) := by decide +kernel
theorem dX6_areInOne_0 : decode cX6_areInOne 0 = .ok (.iconst 0, 1) := by decide +kernel
theorem dX6_areInOne_1 : decode cX6_areInOne 1 = .ok (.istore_n 3, 1) := by decide +kernel
theorem dX6_areInOne_2 : decode cX6_areInOne 2 = .ok (.iconst 0, 1) := by decide +kernel
theorem dX6_areInOne_3 : decode cX6_areInOne 3 = .ok (.istore 4, 2) := by decide +kernel
theorem dX6_areInOne_5 : decode cX6_areInOne 5 = .ok (.iload 4, 2) := by decide +kernel
theorem dX6_areInOne_7 : decode cX6_areInOne 7 = .ok (.aload_n 0, 1) := by decide +kernel
theorem dX6_areInOne_8 : decode cX6_areInOne 8 = .ok (.getfield 76, 3) := by decide +kernel
theorem dX6_areInOne_11 : decode cX6_areInOne 11 = .ok (.if_icmp .ge 47, 3) := by decide +kernel
theorem dX6_areInOne_14 : decode cX6_areInOne 14 = .ok (.iload_n 3, 1) := by decide +kernel
theorem dX6_areInOne_15 : decode cX6_areInOne 15 = .ok (.ifCond .ne 31, 3) := by decide +kernel
theorem dX6_areInOne_18 : decode cX6_areInOne 18 = .ok (.aload_n 0, 1) := by decide +kernel
theorem dX6_areInOne_19 : decode cX6_areInOne 19 = .ok (.getfield 22, 3) := by decide +kernel
theorem dX6_areInOne_22 : decode cX6_areInOne 22 = .ok (.iload 4, 2) := by decide +kernel
theorem dX6_areInOne_24 : decode cX6_areInOne 24 = .ok (.iaload, 1) := by decide +kernel
theorem dX6_areInOne_25 : decode cX6_areInOne 25 = .ok (.iload_n 1, 1) := by decide +kernel
theorem dX6_areInOne_26 : decode cX6_areInOne 26 = .ok (.invokestatic 87, 3) := by decide +kernel
theorem dX6_areInOne_29 : decode cX6_areInOne 29 = .ok (.ifCond .eq 21, 3) := by decide +kernel
theorem dX6_areInOne_32 : decode cX6_areInOne 32 = .ok (.aload_n 0, 1) := by decide +kernel
theorem dX6_areInOne_33 : decode cX6_areInOne 33 = .ok (.getfield 22, 3) := by decide +kernel
theorem dX6_areInOne_36 : decode cX6_areInOne 36 = .ok (.iload 4, 2) := by decide +kernel
theorem dX6_areInOne_38 : decode cX6_areInOne 38 = .ok (.iaload, 1) := by decide +kernel
theorem dX6_areInOne_39 : decode cX6_areInOne 39 = .ok (.iload_n 2, 1) := by decide +kernel
theorem dX6_areInOne_40 : decode cX6_areInOne 40 = .ok (.invokestatic 87, 3) := by decide +kernel
theorem dX6_areInOne_43 : decode cX6_areInOne 43 = .ok (.ifCond .eq 7, 3) := by decide +kernel
theorem dX6_areInOne_46 : decode cX6_areInOne 46 = .ok (.iconst 1, 1) := by decide +kernel
theorem dX6_areInOne_47 : decode cX6_areInOne 47 = .ok (.goto 4, 3) := by decide +kernel
theorem dX6_areInOne_50 : decode cX6_areInOne 50 = .ok (.iconst 0, 1) := by decide +kernel
theorem dX6_areInOne_51 : decode cX6_areInOne 51 = .ok (.istore_n 3, 1) := by decide +kernel
theorem dX6_areInOne_52 : decode cX6_areInOne 52 = .ok (.iinc 4 1, 3) := by decide +kernel
theorem dX6_areInOne_55 : decode cX6_areInOne 55 = .ok (.goto (-50), 3) := by decide +kernel
theorem dX6_areInOne_58 : decode cX6_areInOne 58 = .ok (.iload_n 3, 1) := by decide +kernel
theorem dX6_areInOne_59 : decode cX6_areInOne 59 = .ok (.ireturn, 1) := by decide +kernel
theorem dX6_meet_0 : decode cX6_meet 0 = .ok (.aload_n 0, 1) := by decide +kernel
theorem dX6_meet_1 : decode cX6_meet 1 = .ok (.iload_n 1, 1) := by decide +kernel
theorem dX6_meet_2 : decode cX6_meet 2 = .ok (.invokevirtual 91, 3) := by decide +kernel
theorem dX6_meet_5 : decode cX6_meet 5 = .ok (.ifCond .eq 15, 3) := by decide +kernel
theorem dX6_meet_8 : decode cX6_meet 8 = .ok (.aload_n 0, 1) := by decide +kernel
theorem dX6_meet_9 : decode cX6_meet 9 = .ok (.iload_n 2, 1) := by decide +kernel
theorem dX6_meet_10 : decode cX6_meet 10 = .ok (.invokevirtual 91, 3) := by decide +kernel
theorem dX6_meet_13 : decode cX6_meet 13 = .ok (.ifCond .eq 7, 3) := by decide +kernel
theorem dX6_meet_16 : decode cX6_meet 16 = .ok (.iconst 1, 1) := by decide +kernel
theorem dX6_meet_17 : decode cX6_meet 17 = .ok (.goto 4, 3) := by decide +kernel
theorem dX6_meet_20 : decode cX6_meet 20 = .ok (.iconst 0, 1) := by decide +kernel
theorem dX6_meet_21 : decode cX6_meet 21 = .ok (.istore 5, 2) := by decide +kernel
theorem dX6_meet_23 : decode cX6_meet 23 = .ok (.iload_n 1, 1) := by decide +kernel
theorem dX6_meet_24 : decode cX6_meet 24 = .ok (.iload_n 2, 1) := by decide +kernel
theorem dX6_meet_25 : decode cX6_meet 25 = .ok (.if_icmp .eq 28, 3) := by decide +kernel
theorem dX6_meet_28 : decode cX6_meet 28 = .ok (.iload_n 3, 1) := by decide +kernel
theorem dX6_meet_29 : decode cX6_meet 29 = .ok (.iconst 1, 1) := by decide +kernel
theorem dX6_meet_30 : decode cX6_meet 30 = .ok (.bipush 20, 2) := by decide +kernel
theorem dX6_meet_32 : decode cX6_meet 32 = .ok (.invokestatic 72, 3) := by decide +kernel
theorem dX6_meet_35 : decode cX6_meet 35 = .ok (.ifCond .eq 18, 3) := by decide +kernel
theorem dX6_meet_38 : decode cX6_meet 38 = .ok (.iload 4, 2) := by decide +kernel
theorem dX6_meet_40 : decode cX6_meet 40 = .ok (.iconst 1, 1) := by decide +kernel
theorem dX6_meet_41 : decode cX6_meet 41 = .ok (.bipush 20, 2) := by decide +kernel
theorem dX6_meet_43 : decode cX6_meet 43 = .ok (.invokestatic 72, 3) := by decide +kernel
theorem dX6_meet_46 : decode cX6_meet 46 = .ok (.ifCond .eq 7, 3) := by decide +kernel
theorem dX6_meet_49 : decode cX6_meet 49 = .ok (.iconst 1, 1) := by decide +kernel
theorem dX6_meet_50 : decode cX6_meet 50 = .ok (.goto 4, 3) := by decide +kernel
theorem dX6_meet_53 : decode cX6_meet 53 = .ok (.iconst 0, 1) := by decide +kernel
theorem dX6_meet_54 : decode cX6_meet 54 = .ok (.istore 6, 2) := by decide +kernel
theorem dX6_meet_56 : decode cX6_meet 56 = .ok (.aload_n 0, 1) := by decide +kernel
theorem dX6_meet_57 : decode cX6_meet 57 = .ok (.iload 5, 2) := by decide +kernel
theorem dX6_meet_59 : decode cX6_meet 59 = .ok (.ifCond .ne 7, 3) := by decide +kernel
theorem dX6_meet_62 : decode cX6_meet 62 = .ok (.iconst 1, 1) := by decide +kernel
theorem dX6_meet_63 : decode cX6_meet 63 = .ok (.goto 33, 3) := by decide +kernel
theorem dX6_meet_66 : decode cX6_meet 66 = .ok (.iload 6, 2) := by decide +kernel
theorem dX6_meet_68 : decode cX6_meet 68 = .ok (.ifCond .ne 7, 3) := by decide +kernel
theorem dX6_meet_71 : decode cX6_meet 71 = .ok (.iconst 2, 1) := by decide +kernel
theorem dX6_meet_72 : decode cX6_meet 72 = .ok (.goto 24, 3) := by decide +kernel
theorem dX6_meet_75 : decode cX6_meet 75 = .ok (.aload_n 0, 1) := by decide +kernel
theorem dX6_meet_76 : decode cX6_meet 76 = .ok (.getfield 79, 3) := by decide +kernel
theorem dX6_meet_79 : decode cX6_meet 79 = .ok (.ifCond .ne 12, 3) := by decide +kernel
theorem dX6_meet_82 : decode cX6_meet 82 = .ok (.aload_n 0, 1) := by decide +kernel
theorem dX6_meet_83 : decode cX6_meet 83 = .ok (.iload_n 1, 1) := by decide +kernel
theorem dX6_meet_84 : decode cX6_meet 84 = .ok (.iload_n 2, 1) := by decide +kernel
theorem dX6_meet_85 : decode cX6_meet 85 = .ok (.invokevirtual 94, 3) := by decide +kernel
theorem dX6_meet_88 : decode cX6_meet 88 = .ok (.ifCond .eq 7, 3) := by decide +kernel
theorem dX6_meet_91 : decode cX6_meet 91 = .ok (.iconst 3, 1) := by decide +kernel
theorem dX6_meet_92 : decode cX6_meet 92 = .ok (.goto 4, 3) := by decide +kernel
theorem dX6_meet_95 : decode cX6_meet 95 = .ok (.iconst 0, 1) := by decide +kernel
theorem dX6_meet_96 : decode cX6_meet 96 = .ok (.invokevirtual 83, 3) := by decide +kernel
theorem dX6_meet_99 : decode cX6_meet 99 = .ok (.ifCond .eq 28, 3) := by decide +kernel
theorem dX6_meet_102 : decode cX6_meet 102 = .ok (.aload_n 0, 1) := by decide +kernel
theorem dX6_meet_103 : decode cX6_meet 103 = .ok (.getfield 19, 3) := by decide +kernel
theorem dX6_meet_106 : decode cX6_meet 106 = .ok (.bipush 8, 2) := by decide +kernel
theorem dX6_meet_108 : decode cX6_meet 108 = .ok (.iload_n 1, 1) := by decide +kernel
theorem dX6_meet_109 : decode cX6_meet 109 = .ok (.imul, 1) := by decide +kernel
theorem dX6_meet_110 : decode cX6_meet 110 = .ok (.iload_n 2, 1) := by decide +kernel
theorem dX6_meet_111 : decode cX6_meet 111 = .ok (.iadd, 1) := by decide +kernel
theorem dX6_meet_112 : decode cX6_meet 112 = .ok (.iload_n 3, 1) := by decide +kernel
theorem dX6_meet_113 : decode cX6_meet 113 = .ok (.iastore, 1) := by decide +kernel
theorem dX6_meet_114 : decode cX6_meet 114 = .ok (.aload_n 0, 1) := by decide +kernel
theorem dX6_meet_115 : decode cX6_meet 115 = .ok (.getfield 19, 3) := by decide +kernel
theorem dX6_meet_118 : decode cX6_meet 118 = .ok (.bipush 8, 2) := by decide +kernel
theorem dX6_meet_120 : decode cX6_meet 120 = .ok (.iload_n 2, 1) := by decide +kernel
theorem dX6_meet_121 : decode cX6_meet 121 = .ok (.imul, 1) := by decide +kernel
theorem dX6_meet_122 : decode cX6_meet 122 = .ok (.iload_n 1, 1) := by decide +kernel
theorem dX6_meet_123 : decode cX6_meet 123 = .ok (.iadd, 1) := by decide +kernel
theorem dX6_meet_124 : decode cX6_meet 124 = .ok (.iload 4, 2) := by decide +kernel
theorem dX6_meet_126 : decode cX6_meet 126 = .ok (.iastore, 1) := by decide +kernel
theorem dX6_meet_127 : decode cX6_meet 127 = .ok (.return_, 1) := by decide +kernel
theorem dX6_meetAny_0 : decode cX6_meetAny 0 = .ok (.iconst 0, 1) := by decide +kernel
theorem dX6_meetAny_1 : decode cX6_meetAny 1 = .ok (.istore_n 2, 1) := by decide +kernel
theorem dX6_meetAny_2 : decode cX6_meetAny 2 = .ok (.iconst 0, 1) := by decide +kernel
theorem dX6_meetAny_3 : decode cX6_meetAny 3 = .ok (.istore_n 3, 1) := by decide +kernel
theorem dX6_meetAny_4 : decode cX6_meetAny 4 = .ok (.iload_n 3, 1) := by decide +kernel
theorem dX6_meetAny_5 : decode cX6_meetAny 5 = .ok (.aload_n 0, 1) := by decide +kernel
theorem dX6_meetAny_6 : decode cX6_meetAny 6 = .ok (.getfield 69, 3) := by decide +kernel
theorem dX6_meetAny_9 : decode cX6_meetAny 9 = .ok (.if_icmp .ge 69, 3) := by decide +kernel
theorem dX6_meetAny_12 : decode cX6_meetAny 12 = .ok (.iconst 0, 1) := by decide +kernel
theorem dX6_meetAny_13 : decode cX6_meetAny 13 = .ok (.istore 4, 2) := by decide +kernel
theorem dX6_meetAny_15 : decode cX6_meetAny 15 = .ok (.iload 4, 2) := by decide +kernel
theorem dX6_meetAny_17 : decode cX6_meetAny 17 = .ok (.aload_n 0, 1) := by decide +kernel
theorem dX6_meetAny_18 : decode cX6_meetAny 18 = .ok (.getfield 69, 3) := by decide +kernel
theorem dX6_meetAny_21 : decode cX6_meetAny 21 = .ok (.if_icmp .ge 51, 3) := by decide +kernel
theorem dX6_meetAny_24 : decode cX6_meetAny 24 = .ok (.iload_n 2, 1) := by decide +kernel
theorem dX6_meetAny_25 : decode cX6_meetAny 25 = .ok (.ifCond .ne 35, 3) := by decide +kernel
theorem dX6_meetAny_28 : decode cX6_meetAny 28 = .ok (.iload_n 1, 1) := by decide +kernel
theorem dX6_meetAny_29 : decode cX6_meetAny 29 = .ok (.iload_n 3, 1) := by decide +kernel
theorem dX6_meetAny_30 : decode cX6_meetAny 30 = .ok (.invokestatic 87, 3) := by decide +kernel
theorem dX6_meetAny_33 : decode cX6_meetAny 33 = .ok (.ifCond .eq 31, 3) := by decide +kernel
theorem dX6_meetAny_36 : decode cX6_meetAny 36 = .ok (.iload_n 1, 1) := by decide +kernel
theorem dX6_meetAny_37 : decode cX6_meetAny 37 = .ok (.iload 4, 2) := by decide +kernel
theorem dX6_meetAny_39 : decode cX6_meetAny 39 = .ok (.invokestatic 87, 3) := by decide +kernel
theorem dX6_meetAny_42 : decode cX6_meetAny 42 = .ok (.ifCond .eq 22, 3) := by decide +kernel
theorem dX6_meetAny_45 : decode cX6_meetAny 45 = .ok (.aload_n 0, 1) := by decide +kernel
theorem dX6_meetAny_46 : decode cX6_meetAny 46 = .ok (.getfield 19, 3) := by decide +kernel
theorem dX6_meetAny_49 : decode cX6_meetAny 49 = .ok (.bipush 8, 2) := by decide +kernel
theorem dX6_meetAny_51 : decode cX6_meetAny 51 = .ok (.iload_n 3, 1) := by decide +kernel
theorem dX6_meetAny_52 : decode cX6_meetAny 52 = .ok (.imul, 1) := by decide +kernel
theorem dX6_meetAny_53 : decode cX6_meetAny 53 = .ok (.iload 4, 2) := by decide +kernel
theorem dX6_meetAny_55 : decode cX6_meetAny 55 = .ok (.iadd, 1) := by decide +kernel
theorem dX6_meetAny_56 : decode cX6_meetAny 56 = .ok (.iaload, 1) := by decide +kernel
theorem dX6_meetAny_57 : decode cX6_meetAny 57 = .ok (.ifCond .le 7, 3) := by decide +kernel
theorem dX6_meetAny_60 : decode cX6_meetAny 60 = .ok (.iconst 1, 1) := by decide +kernel
theorem dX6_meetAny_61 : decode cX6_meetAny 61 = .ok (.goto 4, 3) := by decide +kernel
theorem dX6_meetAny_64 : decode cX6_meetAny 64 = .ok (.iconst 0, 1) := by decide +kernel
theorem dX6_meetAny_65 : decode cX6_meetAny 65 = .ok (.istore_n 2, 1) := by decide +kernel
theorem dX6_meetAny_66 : decode cX6_meetAny 66 = .ok (.iinc 4 1, 3) := by decide +kernel
theorem dX6_meetAny_69 : decode cX6_meetAny 69 = .ok (.goto (-54), 3) := by decide +kernel
theorem dX6_meetAny_72 : decode cX6_meetAny 72 = .ok (.iinc 3 1, 3) := by decide +kernel
theorem dX6_meetAny_75 : decode cX6_meetAny 75 = .ok (.goto (-71), 3) := by decide +kernel
theorem dX6_meetAny_78 : decode cX6_meetAny 78 = .ok (.iload_n 2, 1) := by decide +kernel
theorem dX6_meetAny_79 : decode cX6_meetAny 79 = .ok (.ireturn, 1) := by decide +kernel
theorem dX6_stage_0 : decode cX6_stage 0 = .ok (.iload_n 1, 1) := by decide +kernel
theorem dX6_stage_1 : decode cX6_stage 1 = .ok (.iconst 1, 1) := by decide +kernel
theorem dX6_stage_2 : decode cX6_stage 2 = .ok (.iconst 1, 1) := by decide +kernel
theorem dX6_stage_3 : decode cX6_stage 3 = .ok (.aload_n 0, 1) := by decide +kernel
theorem dX6_stage_4 : decode cX6_stage 4 = .ok (.getfield 69, 3) := by decide +kernel
theorem dX6_stage_7 : decode cX6_stage 7 = .ok (.ishl, 1) := by decide +kernel
theorem dX6_stage_8 : decode cX6_stage 8 = .ok (.iconst 1, 1) := by decide +kernel
theorem dX6_stage_9 : decode cX6_stage 9 = .ok (.isub, 1) := by decide +kernel
theorem dX6_stage_10 : decode cX6_stage 10 = .ok (.invokestatic 72, 3) := by decide +kernel
theorem dX6_stage_13 : decode cX6_stage 13 = .ok (.istore_n 2, 1) := by decide +kernel
theorem dX6_stage_14 : decode cX6_stage 14 = .ok (.aload_n 0, 1) := by decide +kernel
theorem dX6_stage_15 : decode cX6_stage 15 = .ok (.iload_n 2, 1) := by decide +kernel
theorem dX6_stage_16 : decode cX6_stage 16 = .ok (.ifCond .ne 7, 3) := by decide +kernel
theorem dX6_stage_19 : decode cX6_stage 19 = .ok (.iconst 1, 1) := by decide +kernel
theorem dX6_stage_20 : decode cX6_stage 20 = .ok (.goto 32, 3) := by decide +kernel
theorem dX6_stage_23 : decode cX6_stage 23 = .ok (.aload_n 0, 1) := by decide +kernel
theorem dX6_stage_24 : decode cX6_stage 24 = .ok (.getfield 79, 3) := by decide +kernel
theorem dX6_stage_27 : decode cX6_stage 27 = .ok (.ifCond .ne 20, 3) := by decide +kernel
theorem dX6_stage_30 : decode cX6_stage 30 = .ok (.aload_n 0, 1) := by decide +kernel
theorem dX6_stage_31 : decode cX6_stage 31 = .ok (.iload_n 1, 1) := by decide +kernel
theorem dX6_stage_32 : decode cX6_stage 32 = .ok (.invokevirtual 97, 3) := by decide +kernel
theorem dX6_stage_35 : decode cX6_stage 35 = .ok (.ifCond .ne 12, 3) := by decide +kernel
theorem dX6_stage_38 : decode cX6_stage 38 = .ok (.aload_n 0, 1) := by decide +kernel
theorem dX6_stage_39 : decode cX6_stage 39 = .ok (.getfield 76, 3) := by decide +kernel
theorem dX6_stage_42 : decode cX6_stage 42 = .ok (.bipush 6, 2) := by decide +kernel
theorem dX6_stage_44 : decode cX6_stage 44 = .ok (.if_icmp .ne 7, 3) := by decide +kernel
theorem dX6_stage_47 : decode cX6_stage 47 = .ok (.iconst 2, 1) := by decide +kernel
theorem dX6_stage_48 : decode cX6_stage 48 = .ok (.goto 4, 3) := by decide +kernel
theorem dX6_stage_51 : decode cX6_stage 51 = .ok (.iconst 0, 1) := by decide +kernel
theorem dX6_stage_52 : decode cX6_stage 52 = .ok (.invokevirtual 83, 3) := by decide +kernel
theorem dX6_stage_55 : decode cX6_stage 55 = .ok (.ifCond .ne 5, 3) := by decide +kernel
theorem dX6_stage_58 : decode cX6_stage 58 = .ok (.iconst 0, 1) := by decide +kernel
theorem dX6_stage_59 : decode cX6_stage 59 = .ok (.ireturn, 1) := by decide +kernel
theorem dX6_stage_60 : decode cX6_stage 60 = .ok (.aload_n 0, 1) := by decide +kernel
theorem dX6_stage_61 : decode cX6_stage 61 = .ok (.getfield 22, 3) := by decide +kernel
theorem dX6_stage_64 : decode cX6_stage 64 = .ok (.aload_n 0, 1) := by decide +kernel
theorem dX6_stage_65 : decode cX6_stage 65 = .ok (.getfield 76, 3) := by decide +kernel
theorem dX6_stage_68 : decode cX6_stage 68 = .ok (.iload_n 1, 1) := by decide +kernel
theorem dX6_stage_69 : decode cX6_stage 69 = .ok (.iastore, 1) := by decide +kernel
theorem dX6_stage_70 : decode cX6_stage 70 = .ok (.aload_n 0, 1) := by decide +kernel
theorem dX6_stage_71 : decode cX6_stage 71 = .ok (.dup, 1) := by decide +kernel
theorem dX6_stage_72 : decode cX6_stage 72 = .ok (.getfield 76, 3) := by decide +kernel
theorem dX6_stage_75 : decode cX6_stage 75 = .ok (.iconst 1, 1) := by decide +kernel
theorem dX6_stage_76 : decode cX6_stage 76 = .ok (.iadd, 1) := by decide +kernel
theorem dX6_stage_77 : decode cX6_stage 77 = .ok (.putfield 76, 3) := by decide +kernel
theorem dX6_stage_80 : decode cX6_stage 80 = .ok (.aload_n 0, 1) := by decide +kernel
theorem dX6_stage_81 : decode cX6_stage 81 = .ok (.getfield 76, 3) := by decide +kernel
theorem dX6_stage_84 : decode cX6_stage 84 = .ok (.iconst 1, 1) := by decide +kernel
theorem dX6_stage_85 : decode cX6_stage 85 = .ok (.isub, 1) := by decide +kernel
theorem dX6_stage_86 : decode cX6_stage 86 = .ok (.ireturn, 1) := by decide +kernel
theorem dX6_start_0 : decode cX6_start 0 = .ok (.aload_n 0, 1) := by decide +kernel
theorem dX6_start_1 : decode cX6_start 1 = .ok (.iload_n 1, 1) := by decide +kernel
theorem dX6_start_2 : decode cX6_start 2 = .ok (.invokevirtual 100, 3) := by decide +kernel
theorem dX6_start_5 : decode cX6_start 5 = .ok (.istore_n 2, 1) := by decide +kernel
theorem dX6_start_6 : decode cX6_start 6 = .ok (.aload_n 0, 1) := by decide +kernel
theorem dX6_start_7 : decode cX6_start 7 = .ok (.iload_n 2, 1) := by decide +kernel
theorem dX6_start_8 : decode cX6_start 8 = .ok (.ifCond .ne 7, 3) := by decide +kernel
theorem dX6_start_11 : decode cX6_start 11 = .ok (.iconst 1, 1) := by decide +kernel
theorem dX6_start_12 : decode cX6_start 12 = .ok (.goto 24, 3) := by decide +kernel
theorem dX6_start_15 : decode cX6_start 15 = .ok (.aload_n 0, 1) := by decide +kernel
theorem dX6_start_16 : decode cX6_start 16 = .ok (.getfield 103, 3) := by decide +kernel
theorem dX6_start_19 : decode cX6_start 19 = .ok (.iconst 1, 1) := by decide +kernel
theorem dX6_start_20 : decode cX6_start 20 = .ok (.if_icmp .eq 11, 3) := by decide +kernel
theorem dX6_start_23 : decode cX6_start 23 = .ok (.aload_n 0, 1) := by decide +kernel
theorem dX6_start_24 : decode cX6_start 24 = .ok (.getfield 103, 3) := by decide +kernel
theorem dX6_start_27 : decode cX6_start 27 = .ok (.iconst 2, 1) := by decide +kernel
theorem dX6_start_28 : decode cX6_start 28 = .ok (.if_icmp .ne 7, 3) := by decide +kernel
theorem dX6_start_31 : decode cX6_start 31 = .ok (.iconst 2, 1) := by decide +kernel
theorem dX6_start_32 : decode cX6_start 32 = .ok (.goto 4, 3) := by decide +kernel
theorem dX6_start_35 : decode cX6_start 35 = .ok (.iconst 0, 1) := by decide +kernel
theorem dX6_start_36 : decode cX6_start 36 = .ok (.invokevirtual 83, 3) := by decide +kernel
theorem dX6_start_39 : decode cX6_start 39 = .ok (.ifCond .eq 18, 3) := by decide +kernel
theorem dX6_start_42 : decode cX6_start 42 = .ok (.aload_n 0, 1) := by decide +kernel
theorem dX6_start_43 : decode cX6_start 43 = .ok (.iconst 1, 1) := by decide +kernel
theorem dX6_start_44 : decode cX6_start 44 = .ok (.putfield 79, 3) := by decide +kernel
theorem dX6_start_47 : decode cX6_start 47 = .ok (.aload_n 0, 1) := by decide +kernel
theorem dX6_start_48 : decode cX6_start 48 = .ok (.iconst 1, 1) := by decide +kernel
theorem dX6_start_49 : decode cX6_start 49 = .ok (.putfield 103, 3) := by decide +kernel
theorem dX6_start_52 : decode cX6_start 52 = .ok (.aload_n 0, 1) := by decide +kernel
theorem dX6_start_53 : decode cX6_start 53 = .ok (.iload_n 1, 1) := by decide +kernel
theorem dX6_start_54 : decode cX6_start 54 = .ok (.putfield 106, 3) := by decide +kernel
theorem dX6_start_57 : decode cX6_start 57 = .ok (.return_, 1) := by decide +kernel
theorem dX6_darken_0 : decode cX6_darken 0 = .ok (.aload_n 0, 1) := by decide +kernel
theorem dX6_darken_1 : decode cX6_darken 1 = .ok (.iload_n 1, 1) := by decide +kernel
theorem dX6_darken_2 : decode cX6_darken 2 = .ok (.putfield 103, 3) := by decide +kernel
theorem dX6_darken_5 : decode cX6_darken 5 = .ok (.iconst 0, 1) := by decide +kernel
theorem dX6_darken_6 : decode cX6_darken 6 = .ok (.istore_n 2, 1) := by decide +kernel
theorem dX6_darken_7 : decode cX6_darken 7 = .ok (.iload_n 2, 1) := by decide +kernel
theorem dX6_darken_8 : decode cX6_darken 8 = .ok (.aload_n 0, 1) := by decide +kernel
theorem dX6_darken_9 : decode cX6_darken 9 = .ok (.getfield 69, 3) := by decide +kernel
theorem dX6_darken_12 : decode cX6_darken 12 = .ok (.if_icmp .ge 45, 3) := by decide +kernel
theorem dX6_darken_15 : decode cX6_darken 15 = .ok (.aload_n 0, 1) := by decide +kernel
theorem dX6_darken_16 : decode cX6_darken 16 = .ok (.getfield 28, 3) := by decide +kernel
theorem dX6_darken_19 : decode cX6_darken 19 = .ok (.iload_n 2, 1) := by decide +kernel
theorem dX6_darken_20 : decode cX6_darken 20 = .ok (.aload_n 0, 1) := by decide +kernel
theorem dX6_darken_21 : decode cX6_darken 21 = .ok (.getfield 25, 3) := by decide +kernel
theorem dX6_darken_24 : decode cX6_darken 24 = .ok (.iload_n 2, 1) := by decide +kernel
theorem dX6_darken_25 : decode cX6_darken 25 = .ok (.iaload, 1) := by decide +kernel
theorem dX6_darken_26 : decode cX6_darken 26 = .ok (.iconst 1, 1) := by decide +kernel
theorem dX6_darken_27 : decode cX6_darken 27 = .ok (.if_icmp .ne 10, 3) := by decide +kernel
theorem dX6_darken_30 : decode cX6_darken 30 = .ok (.aload_n 0, 1) := by decide +kernel
theorem dX6_darken_31 : decode cX6_darken 31 = .ok (.getfield 109, 3) := by decide +kernel
theorem dX6_darken_34 : decode cX6_darken 34 = .ok (.goto 9, 3) := by decide +kernel
theorem dX6_darken_37 : decode cX6_darken 37 = .ok (.aload_n 0, 1) := by decide +kernel
theorem dX6_darken_38 : decode cX6_darken 38 = .ok (.getfield 28, 3) := by decide +kernel
theorem dX6_darken_41 : decode cX6_darken 41 = .ok (.iload_n 2, 1) := by decide +kernel
theorem dX6_darken_42 : decode cX6_darken 42 = .ok (.iaload, 1) := by decide +kernel
theorem dX6_darken_43 : decode cX6_darken 43 = .ok (.iastore, 1) := by decide +kernel
theorem dX6_darken_44 : decode cX6_darken 44 = .ok (.aload_n 0, 1) := by decide +kernel
theorem dX6_darken_45 : decode cX6_darken 45 = .ok (.getfield 25, 3) := by decide +kernel
theorem dX6_darken_48 : decode cX6_darken 48 = .ok (.iload_n 2, 1) := by decide +kernel
theorem dX6_darken_49 : decode cX6_darken 49 = .ok (.iconst 0, 1) := by decide +kernel
theorem dX6_darken_50 : decode cX6_darken 50 = .ok (.iastore, 1) := by decide +kernel
theorem dX6_darken_51 : decode cX6_darken 51 = .ok (.iinc 2 1, 3) := by decide +kernel
theorem dX6_darken_54 : decode cX6_darken 54 = .ok (.goto (-47), 3) := by decide +kernel
theorem dX6_darken_57 : decode cX6_darken 57 = .ok (.return_, 1) := by decide +kernel
theorem dX6_stop_0 : decode cX6_stop 0 = .ok (.aload_n 0, 1) := by decide +kernel
theorem dX6_stop_1 : decode cX6_stop 1 = .ok (.aload_n 0, 1) := by decide +kernel
theorem dX6_stop_2 : decode cX6_stop 2 = .ok (.getfield 103, 3) := by decide +kernel
theorem dX6_stop_5 : decode cX6_stop 5 = .ok (.ifCond .ne 7, 3) := by decide +kernel
theorem dX6_stop_8 : decode cX6_stop 8 = .ok (.iconst 1, 1) := by decide +kernel
theorem dX6_stop_9 : decode cX6_stop 9 = .ok (.goto 4, 3) := by decide +kernel
theorem dX6_stop_12 : decode cX6_stop 12 = .ok (.iconst 0, 1) := by decide +kernel
theorem dX6_stop_13 : decode cX6_stop 13 = .ok (.invokevirtual 83, 3) := by decide +kernel
theorem dX6_stop_16 : decode cX6_stop 16 = .ok (.ifCond .eq 8, 3) := by decide +kernel
theorem dX6_stop_19 : decode cX6_stop 19 = .ok (.aload_n 0, 1) := by decide +kernel
theorem dX6_stop_20 : decode cX6_stop 20 = .ok (.iconst 0, 1) := by decide +kernel
theorem dX6_stop_21 : decode cX6_stop 21 = .ok (.invokevirtual 112, 3) := by decide +kernel
theorem dX6_stop_24 : decode cX6_stop 24 = .ok (.return_, 1) := by decide +kernel
theorem dX6_isDemanded_0 : decode cX6_isDemanded 0 = .ok (.aload_n 0, 1) := by decide +kernel
theorem dX6_isDemanded_1 : decode cX6_isDemanded 1 = .ok (.getfield 25, 3) := by decide +kernel
theorem dX6_isDemanded_4 : decode cX6_isDemanded 4 = .ok (.iload_n 1, 1) := by decide +kernel
theorem dX6_isDemanded_5 : decode cX6_isDemanded 5 = .ok (.iaload, 1) := by decide +kernel
theorem dX6_isDemanded_6 : decode cX6_isDemanded 6 = .ok (.iconst 1, 1) := by decide +kernel
theorem dX6_isDemanded_7 : decode cX6_isDemanded 7 = .ok (.if_icmp .eq 25, 3) := by decide +kernel
theorem dX6_isDemanded_10 : decode cX6_isDemanded 10 = .ok (.aload_n 0, 1) := by decide +kernel
theorem dX6_isDemanded_11 : decode cX6_isDemanded 11 = .ok (.getfield 46, 3) := by decide +kernel
theorem dX6_isDemanded_14 : decode cX6_isDemanded 14 = .ok (.iload_n 1, 1) := by decide +kernel
theorem dX6_isDemanded_15 : decode cX6_isDemanded 15 = .ok (.baload, 1) := by decide +kernel
theorem dX6_isDemanded_16 : decode cX6_isDemanded 16 = .ok (.ifCond .ne 12, 3) := by decide +kernel
theorem dX6_isDemanded_19 : decode cX6_isDemanded 19 = .ok (.aload_n 0, 1) := by decide +kernel
theorem dX6_isDemanded_20 : decode cX6_isDemanded 20 = .ok (.getfield 37, 3) := by decide +kernel
theorem dX6_isDemanded_23 : decode cX6_isDemanded 23 = .ok (.iload_n 1, 1) := by decide +kernel
theorem dX6_isDemanded_24 : decode cX6_isDemanded 24 = .ok (.iaload, 1) := by decide +kernel
theorem dX6_isDemanded_25 : decode cX6_isDemanded 25 = .ok (.ifCond .le 7, 3) := by decide +kernel
theorem dX6_isDemanded_28 : decode cX6_isDemanded 28 = .ok (.iconst 1, 1) := by decide +kernel
theorem dX6_isDemanded_29 : decode cX6_isDemanded 29 = .ok (.goto 4, 3) := by decide +kernel
theorem dX6_isDemanded_32 : decode cX6_isDemanded 32 = .ok (.iconst 0, 1) := by decide +kernel
theorem dX6_isDemanded_33 : decode cX6_isDemanded 33 = .ok (.ireturn, 1) := by decide +kernel
theorem dX6_press_0 : decode cX6_press 0 = .ok (.aload_n 0, 1) := by decide +kernel
theorem dX6_press_1 : decode cX6_press 1 = .ok (.aload_n 0, 1) := by decide +kernel
theorem dX6_press_2 : decode cX6_press 2 = .ok (.iload_n 1, 1) := by decide +kernel
theorem dX6_press_3 : decode cX6_press 3 = .ok (.invokevirtual 91, 3) := by decide +kernel
theorem dX6_press_6 : decode cX6_press 6 = .ok (.ifCond .eq 7, 3) := by decide +kernel
theorem dX6_press_9 : decode cX6_press 9 = .ok (.iconst 0, 1) := by decide +kernel
theorem dX6_press_10 : decode cX6_press 10 = .ok (.goto 4, 3) := by decide +kernel
theorem dX6_press_13 : decode cX6_press 13 = .ok (.iconst 1, 1) := by decide +kernel
theorem dX6_press_14 : decode cX6_press 14 = .ok (.invokevirtual 83, 3) := by decide +kernel
theorem dX6_press_17 : decode cX6_press 17 = .ok (.ifCond .ne 5, 3) := by decide +kernel
theorem dX6_press_20 : decode cX6_press 20 = .ok (.iconst 0, 1) := by decide +kernel
theorem dX6_press_21 : decode cX6_press 21 = .ok (.ireturn, 1) := by decide +kernel
theorem dX6_press_22 : decode cX6_press 22 = .ok (.aload_n 0, 1) := by decide +kernel
theorem dX6_press_23 : decode cX6_press 23 = .ok (.getfield 46, 3) := by decide +kernel
theorem dX6_press_26 : decode cX6_press 26 = .ok (.iload_n 1, 1) := by decide +kernel
theorem dX6_press_27 : decode cX6_press 27 = .ok (.aload_n 0, 1) := by decide +kernel
theorem dX6_press_28 : decode cX6_press 28 = .ok (.getfield 46, 3) := by decide +kernel
theorem dX6_press_31 : decode cX6_press 31 = .ok (.iload_n 1, 1) := by decide +kernel
theorem dX6_press_32 : decode cX6_press 32 = .ok (.baload, 1) := by decide +kernel
theorem dX6_press_33 : decode cX6_press 33 = .ok (.ifCond .ne 13, 3) := by decide +kernel
theorem dX6_press_36 : decode cX6_press 36 = .ok (.aload_n 0, 1) := by decide +kernel
theorem dX6_press_37 : decode cX6_press 37 = .ok (.getfield 25, 3) := by decide +kernel
theorem dX6_press_40 : decode cX6_press 40 = .ok (.iload_n 1, 1) := by decide +kernel
theorem dX6_press_41 : decode cX6_press 41 = .ok (.iaload, 1) := by decide +kernel
theorem dX6_press_42 : decode cX6_press 42 = .ok (.iconst 1, 1) := by decide +kernel
theorem dX6_press_43 : decode cX6_press 43 = .ok (.if_icmp .eq 7, 3) := by decide +kernel
theorem dX6_press_46 : decode cX6_press 46 = .ok (.iconst 1, 1) := by decide +kernel
theorem dX6_press_47 : decode cX6_press 47 = .ok (.goto 4, 3) := by decide +kernel
theorem dX6_press_50 : decode cX6_press 50 = .ok (.iconst 0, 1) := by decide +kernel
theorem dX6_press_51 : decode cX6_press 51 = .ok (.bastore, 1) := by decide +kernel
theorem dX6_press_52 : decode cX6_press 52 = .ok (.aload_n 0, 1) := by decide +kernel
theorem dX6_press_53 : decode cX6_press 53 = .ok (.iload_n 1, 1) := by decide +kernel
theorem dX6_press_54 : decode cX6_press 54 = .ok (.invokevirtual 116, 3) := by decide +kernel
theorem dX6_press_57 : decode cX6_press 57 = .ok (.ireturn, 1) := by decide +kernel
theorem dX6_arrive_0 : decode cX6_arrive 0 = .ok (.aload_n 0, 1) := by decide +kernel
theorem dX6_arrive_1 : decode cX6_arrive 1 = .ok (.iload_n 1, 1) := by decide +kernel
theorem dX6_arrive_2 : decode cX6_arrive 2 = .ok (.invokevirtual 91, 3) := by decide +kernel
theorem dX6_arrive_5 : decode cX6_arrive 5 = .ok (.istore_n 3, 1) := by decide +kernel
theorem dX6_arrive_6 : decode cX6_arrive 6 = .ok (.iload_n 2, 1) := by decide +kernel
theorem dX6_arrive_7 : decode cX6_arrive 7 = .ok (.iconst 1, 1) := by decide +kernel
theorem dX6_arrive_8 : decode cX6_arrive 8 = .ok (.bipush 50, 2) := by decide +kernel
theorem dX6_arrive_10 : decode cX6_arrive 10 = .ok (.invokestatic 72, 3) := by decide +kernel
theorem dX6_arrive_13 : decode cX6_arrive 13 = .ok (.istore 4, 2) := by decide +kernel
theorem dX6_arrive_15 : decode cX6_arrive 15 = .ok (.aload_n 0, 1) := by decide +kernel
theorem dX6_arrive_16 : decode cX6_arrive 16 = .ok (.iload_n 3, 1) := by decide +kernel
theorem dX6_arrive_17 : decode cX6_arrive 17 = .ok (.ifCond .ne 7, 3) := by decide +kernel
theorem dX6_arrive_20 : decode cX6_arrive 20 = .ok (.iconst 1, 1) := by decide +kernel
theorem dX6_arrive_21 : decode cX6_arrive 21 = .ok (.goto 31, 3) := by decide +kernel
theorem dX6_arrive_24 : decode cX6_arrive 24 = .ok (.iload 4, 2) := by decide +kernel
theorem dX6_arrive_26 : decode cX6_arrive 26 = .ok (.ifCond .ne 7, 3) := by decide +kernel
theorem dX6_arrive_29 : decode cX6_arrive 29 = .ok (.iconst 2, 1) := by decide +kernel
theorem dX6_arrive_30 : decode cX6_arrive 30 = .ok (.goto 22, 3) := by decide +kernel
theorem dX6_arrive_33 : decode cX6_arrive 33 = .ok (.aload_n 0, 1) := by decide +kernel
theorem dX6_arrive_34 : decode cX6_arrive 34 = .ok (.getfield 37, 3) := by decide +kernel
theorem dX6_arrive_37 : decode cX6_arrive 37 = .ok (.iload_n 1, 1) := by decide +kernel
theorem dX6_arrive_38 : decode cX6_arrive 38 = .ok (.iaload, 1) := by decide +kernel
theorem dX6_arrive_39 : decode cX6_arrive 39 = .ok (.iload_n 2, 1) := by decide +kernel
theorem dX6_arrive_40 : decode cX6_arrive 40 = .ok (.iadd, 1) := by decide +kernel
theorem dX6_arrive_41 : decode cX6_arrive 41 = .ok (.sipush 1000, 3) := by decide +kernel
theorem dX6_arrive_44 : decode cX6_arrive 44 = .ok (.if_icmp .le 7, 3) := by decide +kernel
theorem dX6_arrive_47 : decode cX6_arrive 47 = .ok (.iconst 3, 1) := by decide +kernel
theorem dX6_arrive_48 : decode cX6_arrive 48 = .ok (.goto 4, 3) := by decide +kernel
theorem dX6_arrive_51 : decode cX6_arrive 51 = .ok (.iconst 0, 1) := by decide +kernel
theorem dX6_arrive_52 : decode cX6_arrive 52 = .ok (.invokevirtual 83, 3) := by decide +kernel
theorem dX6_arrive_55 : decode cX6_arrive 55 = .ok (.ifCond .ne 5, 3) := by decide +kernel
theorem dX6_arrive_58 : decode cX6_arrive 58 = .ok (.iconst 0, 1) := by decide +kernel
theorem dX6_arrive_59 : decode cX6_arrive 59 = .ok (.ireturn, 1) := by decide +kernel
theorem dX6_arrive_60 : decode cX6_arrive 60 = .ok (.aload_n 0, 1) := by decide +kernel
theorem dX6_arrive_61 : decode cX6_arrive 61 = .ok (.getfield 37, 3) := by decide +kernel
theorem dX6_arrive_64 : decode cX6_arrive 64 = .ok (.iload_n 1, 1) := by decide +kernel
theorem dX6_arrive_65 : decode cX6_arrive 65 = .ok (.dup2, 1) := by decide +kernel
theorem dX6_arrive_66 : decode cX6_arrive 66 = .ok (.iaload, 1) := by decide +kernel
theorem dX6_arrive_67 : decode cX6_arrive 67 = .ok (.iload_n 2, 1) := by decide +kernel
theorem dX6_arrive_68 : decode cX6_arrive 68 = .ok (.iadd, 1) := by decide +kernel
theorem dX6_arrive_69 : decode cX6_arrive 69 = .ok (.iastore, 1) := by decide +kernel
theorem dX6_arrive_70 : decode cX6_arrive 70 = .ok (.aload_n 0, 1) := by decide +kernel
theorem dX6_arrive_71 : decode cX6_arrive 71 = .ok (.getfield 37, 3) := by decide +kernel
theorem dX6_arrive_74 : decode cX6_arrive 74 = .ok (.iload_n 1, 1) := by decide +kernel
theorem dX6_arrive_75 : decode cX6_arrive 75 = .ok (.iaload, 1) := by decide +kernel
theorem dX6_arrive_76 : decode cX6_arrive 76 = .ok (.ireturn, 1) := by decide +kernel
theorem dX6_ask_0 : decode cX6_ask 0 = .ok (.aload_n 0, 1) := by decide +kernel
theorem dX6_ask_1 : decode cX6_ask 1 = .ok (.iload_n 1, 1) := by decide +kernel
theorem dX6_ask_2 : decode cX6_ask 2 = .ok (.invokevirtual 91, 3) := by decide +kernel
theorem dX6_ask_5 : decode cX6_ask 5 = .ok (.istore_n 2, 1) := by decide +kernel
theorem dX6_ask_6 : decode cX6_ask 6 = .ok (.aload_n 0, 1) := by decide +kernel
theorem dX6_ask_7 : decode cX6_ask 7 = .ok (.iload_n 2, 1) := by decide +kernel
theorem dX6_ask_8 : decode cX6_ask 8 = .ok (.ifCond .ne 7, 3) := by decide +kernel
theorem dX6_ask_11 : decode cX6_ask 11 = .ok (.iconst 1, 1) := by decide +kernel
theorem dX6_ask_12 : decode cX6_ask 12 = .ok (.goto 16, 3) := by decide +kernel
theorem dX6_ask_15 : decode cX6_ask 15 = .ok (.aload_n 0, 1) := by decide +kernel
theorem dX6_ask_16 : decode cX6_ask 16 = .ok (.getfield 53, 3) := by decide +kernel
theorem dX6_ask_19 : decode cX6_ask 19 = .ok (.iconst (-1), 1) := by decide +kernel
theorem dX6_ask_20 : decode cX6_ask 20 = .ok (.if_icmp .eq 7, 3) := by decide +kernel
theorem dX6_ask_23 : decode cX6_ask 23 = .ok (.iconst 2, 1) := by decide +kernel
theorem dX6_ask_24 : decode cX6_ask 24 = .ok (.goto 4, 3) := by decide +kernel
theorem dX6_ask_27 : decode cX6_ask 27 = .ok (.iconst 0, 1) := by decide +kernel
theorem dX6_ask_28 : decode cX6_ask 28 = .ok (.invokevirtual 83, 3) := by decide +kernel
theorem dX6_ask_31 : decode cX6_ask 31 = .ok (.ifCond .eq 8, 3) := by decide +kernel
theorem dX6_ask_34 : decode cX6_ask 34 = .ok (.aload_n 0, 1) := by decide +kernel
theorem dX6_ask_35 : decode cX6_ask 35 = .ok (.iload_n 1, 1) := by decide +kernel
theorem dX6_ask_36 : decode cX6_ask 36 = .ok (.putfield 53, 3) := by decide +kernel
theorem dX6_ask_39 : decode cX6_ask 39 = .ok (.return_, 1) := by decide +kernel
theorem dX6_cancel_0 : decode cX6_cancel 0 = .ok (.aload_n 0, 1) := by decide +kernel
theorem dX6_cancel_1 : decode cX6_cancel 1 = .ok (.aload_n 0, 1) := by decide +kernel
theorem dX6_cancel_2 : decode cX6_cancel 2 = .ok (.getfield 53, 3) := by decide +kernel
theorem dX6_cancel_5 : decode cX6_cancel 5 = .ok (.iconst (-1), 1) := by decide +kernel
theorem dX6_cancel_6 : decode cX6_cancel 6 = .ok (.if_icmp .eq 7, 3) := by decide +kernel
theorem dX6_cancel_9 : decode cX6_cancel 9 = .ok (.iconst 0, 1) := by decide +kernel
theorem dX6_cancel_10 : decode cX6_cancel 10 = .ok (.goto 4, 3) := by decide +kernel
theorem dX6_cancel_13 : decode cX6_cancel 13 = .ok (.iconst 1, 1) := by decide +kernel
theorem dX6_cancel_14 : decode cX6_cancel 14 = .ok (.invokevirtual 83, 3) := by decide +kernel
theorem dX6_cancel_17 : decode cX6_cancel 17 = .ok (.ifCond .ne 5, 3) := by decide +kernel
theorem dX6_cancel_20 : decode cX6_cancel 20 = .ok (.iconst 0, 1) := by decide +kernel
theorem dX6_cancel_21 : decode cX6_cancel 21 = .ok (.ireturn, 1) := by decide +kernel
theorem dX6_cancel_22 : decode cX6_cancel 22 = .ok (.aload_n 0, 1) := by decide +kernel
theorem dX6_cancel_23 : decode cX6_cancel 23 = .ok (.getfield 53, 3) := by decide +kernel
theorem dX6_cancel_26 : decode cX6_cancel 26 = .ok (.istore_n 1, 1) := by decide +kernel
theorem dX6_cancel_27 : decode cX6_cancel 27 = .ok (.aload_n 0, 1) := by decide +kernel
theorem dX6_cancel_28 : decode cX6_cancel 28 = .ok (.iconst (-1), 1) := by decide +kernel
theorem dX6_cancel_29 : decode cX6_cancel 29 = .ok (.putfield 53, 3) := by decide +kernel
theorem dX6_cancel_32 : decode cX6_cancel 32 = .ok (.iload_n 1, 1) := by decide +kernel
theorem dX6_cancel_33 : decode cX6_cancel 33 = .ok (.ireturn, 1) := by decide +kernel
theorem dX6_breaks_0 : decode cX6_breaks 0 = .ok (.aload_n 0, 1) := by decide +kernel
theorem dX6_breaks_1 : decode cX6_breaks 1 = .ok (.iload_n 1, 1) := by decide +kernel
theorem dX6_breaks_2 : decode cX6_breaks 2 = .ok (.invokevirtual 91, 3) := by decide +kernel
theorem dX6_breaks_5 : decode cX6_breaks 5 = .ok (.istore 4, 2) := by decide +kernel
theorem dX6_breaks_7 : decode cX6_breaks 7 = .ok (.aload_n 0, 1) := by decide +kernel
theorem dX6_breaks_8 : decode cX6_breaks 8 = .ok (.iload 4, 2) := by decide +kernel
theorem dX6_breaks_10 : decode cX6_breaks 10 = .ok (.ifCond .ne 7, 3) := by decide +kernel
theorem dX6_breaks_13 : decode cX6_breaks 13 = .ok (.iconst 1, 1) := by decide +kernel
theorem dX6_breaks_14 : decode cX6_breaks 14 = .ok (.goto 17, 3) := by decide +kernel
theorem dX6_breaks_17 : decode cX6_breaks 17 = .ok (.iload_n 2, 1) := by decide +kernel
theorem dX6_breaks_18 : decode cX6_breaks 18 = .ok (.iconst 0, 1) := by decide +kernel
theorem dX6_breaks_19 : decode cX6_breaks 19 = .ok (.iconst 2, 1) := by decide +kernel
theorem dX6_breaks_20 : decode cX6_breaks 20 = .ok (.invokestatic 72, 3) := by decide +kernel
theorem dX6_breaks_23 : decode cX6_breaks 23 = .ok (.ifCond .eq 7, 3) := by decide +kernel
theorem dX6_breaks_26 : decode cX6_breaks 26 = .ok (.iconst 0, 1) := by decide +kernel
theorem dX6_breaks_27 : decode cX6_breaks 27 = .ok (.goto 4, 3) := by decide +kernel
theorem dX6_breaks_30 : decode cX6_breaks 30 = .ok (.iconst 2, 1) := by decide +kernel
theorem dX6_breaks_31 : decode cX6_breaks 31 = .ok (.invokevirtual 83, 3) := by decide +kernel
theorem dX6_breaks_34 : decode cX6_breaks 34 = .ok (.ifCond .ne 5, 3) := by decide +kernel
theorem dX6_breaks_37 : decode cX6_breaks 37 = .ok (.iconst 0, 1) := by decide +kernel
theorem dX6_breaks_38 : decode cX6_breaks 38 = .ok (.ireturn, 1) := by decide +kernel
theorem dX6_breaks_39 : decode cX6_breaks 39 = .ok (.aload_n 0, 1) := by decide +kernel
theorem dX6_breaks_40 : decode cX6_breaks 40 = .ok (.getfield 50, 3) := by decide +kernel
theorem dX6_breaks_43 : decode cX6_breaks 43 = .ok (.iconst 3, 1) := by decide +kernel
theorem dX6_breaks_44 : decode cX6_breaks 44 = .ok (.iload_n 1, 1) := by decide +kernel
theorem dX6_breaks_45 : decode cX6_breaks 45 = .ok (.imul, 1) := by decide +kernel
theorem dX6_breaks_46 : decode cX6_breaks 46 = .ok (.iload_n 2, 1) := by decide +kernel
theorem dX6_breaks_47 : decode cX6_breaks 47 = .ok (.iadd, 1) := by decide +kernel
theorem dX6_breaks_48 : decode cX6_breaks 48 = .ok (.baload, 1) := by decide +kernel
theorem dX6_breaks_49 : decode cX6_breaks 49 = .ok (.istore 5, 2) := by decide +kernel
theorem dX6_breaks_51 : decode cX6_breaks 51 = .ok (.aload_n 0, 1) := by decide +kernel
theorem dX6_breaks_52 : decode cX6_breaks 52 = .ok (.getfield 50, 3) := by decide +kernel
theorem dX6_breaks_55 : decode cX6_breaks 55 = .ok (.iconst 3, 1) := by decide +kernel
theorem dX6_breaks_56 : decode cX6_breaks 56 = .ok (.iload_n 1, 1) := by decide +kernel
theorem dX6_breaks_57 : decode cX6_breaks 57 = .ok (.imul, 1) := by decide +kernel
theorem dX6_breaks_58 : decode cX6_breaks 58 = .ok (.iload_n 2, 1) := by decide +kernel
theorem dX6_breaks_59 : decode cX6_breaks 59 = .ok (.iadd, 1) := by decide +kernel
theorem dX6_breaks_60 : decode cX6_breaks 60 = .ok (.iload_n 3, 1) := by decide +kernel
theorem dX6_breaks_61 : decode cX6_breaks 61 = .ok (.bastore, 1) := by decide +kernel
theorem dX6_breaks_62 : decode cX6_breaks 62 = .ok (.iload 5, 2) := by decide +kernel
theorem dX6_breaks_64 : decode cX6_breaks 64 = .ok (.ireturn, 1) := by decide +kernel
theorem dX6_askedStage_0 : decode cX6_askedStage 0 = .ok (.aload_n 0, 1) := by decide +kernel
theorem dX6_askedStage_1 : decode cX6_askedStage 1 = .ok (.getfield 53, 3) := by decide +kernel
theorem dX6_askedStage_4 : decode cX6_askedStage 4 = .ok (.iconst (-1), 1) := by decide +kernel
theorem dX6_askedStage_5 : decode cX6_askedStage 5 = .ok (.if_icmp .ne 5, 3) := by decide +kernel
theorem dX6_askedStage_8 : decode cX6_askedStage 8 = .ok (.iconst (-1), 1) := by decide +kernel
theorem dX6_askedStage_9 : decode cX6_askedStage 9 = .ok (.ireturn, 1) := by decide +kernel
theorem dX6_askedStage_10 : decode cX6_askedStage 10 = .ok (.aload_n 0, 1) := by decide +kernel
theorem dX6_askedStage_11 : decode cX6_askedStage 11 = .ok (.getfield 22, 3) := by decide +kernel
theorem dX6_askedStage_14 : decode cX6_askedStage 14 = .ok (.aload_n 0, 1) := by decide +kernel
theorem dX6_askedStage_15 : decode cX6_askedStage 15 = .ok (.getfield 106, 3) := by decide +kernel
theorem dX6_askedStage_18 : decode cX6_askedStage 18 = .ok (.iaload, 1) := by decide +kernel
theorem dX6_askedStage_19 : decode cX6_askedStage 19 = .ok (.aload_n 0, 1) := by decide +kernel
theorem dX6_askedStage_20 : decode cX6_askedStage 20 = .ok (.getfield 53, 3) := by decide +kernel
theorem dX6_askedStage_23 : decode cX6_askedStage 23 = .ok (.invokestatic 87, 3) := by decide +kernel
theorem dX6_askedStage_26 : decode cX6_askedStage 26 = .ok (.ifCond .eq 8, 3) := by decide +kernel
theorem dX6_askedStage_29 : decode cX6_askedStage 29 = .ok (.aload_n 0, 1) := by decide +kernel
theorem dX6_askedStage_30 : decode cX6_askedStage 30 = .ok (.getfield 106, 3) := by decide +kernel
theorem dX6_askedStage_33 : decode cX6_askedStage 33 = .ok (.ireturn, 1) := by decide +kernel
theorem dX6_askedStage_34 : decode cX6_askedStage 34 = .ok (.iconst (-1), 1) := by decide +kernel
theorem dX6_askedStage_35 : decode cX6_askedStage 35 = .ok (.istore_n 1, 1) := by decide +kernel
theorem dX6_askedStage_36 : decode cX6_askedStage 36 = .ok (.aload_n 0, 1) := by decide +kernel
theorem dX6_askedStage_37 : decode cX6_askedStage 37 = .ok (.getfield 76, 3) := by decide +kernel
theorem dX6_askedStage_40 : decode cX6_askedStage 40 = .ok (.iconst 1, 1) := by decide +kernel
theorem dX6_askedStage_41 : decode cX6_askedStage 41 = .ok (.isub, 1) := by decide +kernel
theorem dX6_askedStage_42 : decode cX6_askedStage 42 = .ok (.istore_n 2, 1) := by decide +kernel
theorem dX6_askedStage_43 : decode cX6_askedStage 43 = .ok (.iload_n 2, 1) := by decide +kernel
theorem dX6_askedStage_44 : decode cX6_askedStage 44 = .ok (.ifCond .lt 31, 3) := by decide +kernel
theorem dX6_askedStage_47 : decode cX6_askedStage 47 = .ok (.aload_n 0, 1) := by decide +kernel
theorem dX6_askedStage_48 : decode cX6_askedStage 48 = .ok (.getfield 22, 3) := by decide +kernel
theorem dX6_askedStage_51 : decode cX6_askedStage 51 = .ok (.iload_n 2, 1) := by decide +kernel
theorem dX6_askedStage_52 : decode cX6_askedStage 52 = .ok (.iaload, 1) := by decide +kernel
theorem dX6_askedStage_53 : decode cX6_askedStage 53 = .ok (.aload_n 0, 1) := by decide +kernel
theorem dX6_askedStage_54 : decode cX6_askedStage 54 = .ok (.getfield 53, 3) := by decide +kernel
theorem dX6_askedStage_57 : decode cX6_askedStage 57 = .ok (.invokestatic 87, 3) := by decide +kernel
theorem dX6_askedStage_60 : decode cX6_askedStage 60 = .ok (.ifCond .eq 7, 3) := by decide +kernel
theorem dX6_askedStage_63 : decode cX6_askedStage 63 = .ok (.iload_n 2, 1) := by decide +kernel
theorem dX6_askedStage_64 : decode cX6_askedStage 64 = .ok (.goto 4, 3) := by decide +kernel
theorem dX6_askedStage_67 : decode cX6_askedStage 67 = .ok (.iload_n 1, 1) := by decide +kernel
theorem dX6_askedStage_68 : decode cX6_askedStage 68 = .ok (.istore_n 1, 1) := by decide +kernel
theorem dX6_askedStage_69 : decode cX6_askedStage 69 = .ok (.iinc 2 (-1), 3) := by decide +kernel
theorem dX6_askedStage_72 : decode cX6_askedStage 72 = .ok (.goto (-29), 3) := by decide +kernel
theorem dX6_askedStage_75 : decode cX6_askedStage 75 = .ok (.iload_n 1, 1) := by decide +kernel
theorem dX6_askedStage_76 : decode cX6_askedStage 76 = .ok (.ireturn, 1) := by decide +kernel
theorem dX6_isWished_0 : decode cX6_isWished 0 = .ok (.iconst 0, 1) := by decide +kernel
theorem dX6_isWished_1 : decode cX6_isWished 1 = .ok (.istore_n 2, 1) := by decide +kernel
theorem dX6_isWished_2 : decode cX6_isWished 2 = .ok (.iconst 0, 1) := by decide +kernel
theorem dX6_isWished_3 : decode cX6_isWished 3 = .ok (.istore_n 3, 1) := by decide +kernel
theorem dX6_isWished_4 : decode cX6_isWished 4 = .ok (.iload_n 3, 1) := by decide +kernel
theorem dX6_isWished_5 : decode cX6_isWished 5 = .ok (.aload_n 0, 1) := by decide +kernel
theorem dX6_isWished_6 : decode cX6_isWished 6 = .ok (.getfield 69, 3) := by decide +kernel
theorem dX6_isWished_9 : decode cX6_isWished 9 = .ok (.if_icmp .ge 52, 3) := by decide +kernel
theorem dX6_isWished_12 : decode cX6_isWished 12 = .ok (.iload_n 2, 1) := by decide +kernel
theorem dX6_isWished_13 : decode cX6_isWished 13 = .ok (.ifCond .ne 36, 3) := by decide +kernel
theorem dX6_isWished_16 : decode cX6_isWished 16 = .ok (.aload_n 0, 1) := by decide +kernel
theorem dX6_isWished_17 : decode cX6_isWished 17 = .ok (.getfield 22, 3) := by decide +kernel
theorem dX6_isWished_20 : decode cX6_isWished 20 = .ok (.iload_n 1, 1) := by decide +kernel
theorem dX6_isWished_21 : decode cX6_isWished 21 = .ok (.iaload, 1) := by decide +kernel
theorem dX6_isWished_22 : decode cX6_isWished 22 = .ok (.aload_n 0, 1) := by decide +kernel
theorem dX6_isWished_23 : decode cX6_isWished 23 = .ok (.getfield 22, 3) := by decide +kernel
theorem dX6_isWished_26 : decode cX6_isWished 26 = .ok (.aload_n 0, 1) := by decide +kernel
theorem dX6_isWished_27 : decode cX6_isWished 27 = .ok (.getfield 106, 3) := by decide +kernel
theorem dX6_isWished_30 : decode cX6_isWished 30 = .ok (.iaload, 1) := by decide +kernel
theorem dX6_isWished_31 : decode cX6_isWished 31 = .ok (.iconst (-1), 1) := by decide +kernel
theorem dX6_isWished_32 : decode cX6_isWished 32 = .ok (.ixor, 1) := by decide +kernel
theorem dX6_isWished_33 : decode cX6_isWished 33 = .ok (.iand, 1) := by decide +kernel
theorem dX6_isWished_34 : decode cX6_isWished 34 = .ok (.iload_n 3, 1) := by decide +kernel
theorem dX6_isWished_35 : decode cX6_isWished 35 = .ok (.invokestatic 87, 3) := by decide +kernel
theorem dX6_isWished_38 : decode cX6_isWished 38 = .ok (.ifCond .eq 15, 3) := by decide +kernel
theorem dX6_isWished_41 : decode cX6_isWished 41 = .ok (.aload_n 0, 1) := by decide +kernel
theorem dX6_isWished_42 : decode cX6_isWished 42 = .ok (.iload_n 3, 1) := by decide +kernel
theorem dX6_isWished_43 : decode cX6_isWished 43 = .ok (.invokevirtual 116, 3) := by decide +kernel
theorem dX6_isWished_46 : decode cX6_isWished 46 = .ok (.ifCond .eq 7, 3) := by decide +kernel
theorem dX6_isWished_49 : decode cX6_isWished 49 = .ok (.iconst 1, 1) := by decide +kernel
theorem dX6_isWished_50 : decode cX6_isWished 50 = .ok (.goto 4, 3) := by decide +kernel
theorem dX6_isWished_53 : decode cX6_isWished 53 = .ok (.iconst 0, 1) := by decide +kernel
theorem dX6_isWished_54 : decode cX6_isWished 54 = .ok (.istore_n 2, 1) := by decide +kernel
theorem dX6_isWished_55 : decode cX6_isWished 55 = .ok (.iinc 3 1, 3) := by decide +kernel
theorem dX6_isWished_58 : decode cX6_isWished 58 = .ok (.goto (-54), 3) := by decide +kernel
theorem dX6_isWished_61 : decode cX6_isWished 61 = .ok (.iload_n 2, 1) := by decide +kernel
theorem dX6_isWished_62 : decode cX6_isWished 62 = .ok (.ireturn, 1) := by decide +kernel
theorem dX6_demandedStage_0 : decode cX6_demandedStage 0 = .ok (.iconst 1, 1) := by decide +kernel
theorem dX6_demandedStage_1 : decode cX6_demandedStage 1 = .ok (.istore_n 1, 1) := by decide +kernel
theorem dX6_demandedStage_2 : decode cX6_demandedStage 2 = .ok (.iload_n 1, 1) := by decide +kernel
theorem dX6_demandedStage_3 : decode cX6_demandedStage 3 = .ok (.aload_n 0, 1) := by decide +kernel
theorem dX6_demandedStage_4 : decode cX6_demandedStage 4 = .ok (.getfield 76, 3) := by decide +kernel
theorem dX6_demandedStage_7 : decode cX6_demandedStage 7 = .ok (.if_icmp .ge 31, 3) := by decide +kernel
theorem dX6_demandedStage_10 : decode cX6_demandedStage 10 = .ok (.aload_n 0, 1) := by decide +kernel
theorem dX6_demandedStage_11 : decode cX6_demandedStage 11 = .ok (.getfield 106, 3) := by decide +kernel
theorem dX6_demandedStage_14 : decode cX6_demandedStage 14 = .ok (.iload_n 1, 1) := by decide +kernel
theorem dX6_demandedStage_15 : decode cX6_demandedStage 15 = .ok (.iadd, 1) := by decide +kernel
theorem dX6_demandedStage_16 : decode cX6_demandedStage 16 = .ok (.aload_n 0, 1) := by decide +kernel
theorem dX6_demandedStage_17 : decode cX6_demandedStage 17 = .ok (.getfield 76, 3) := by decide +kernel
theorem dX6_demandedStage_20 : decode cX6_demandedStage 20 = .ok (.irem, 1) := by decide +kernel
theorem dX6_demandedStage_21 : decode cX6_demandedStage 21 = .ok (.istore_n 2, 1) := by decide +kernel
theorem dX6_demandedStage_22 : decode cX6_demandedStage 22 = .ok (.aload_n 0, 1) := by decide +kernel
theorem dX6_demandedStage_23 : decode cX6_demandedStage 23 = .ok (.iload_n 2, 1) := by decide +kernel
theorem dX6_demandedStage_24 : decode cX6_demandedStage 24 = .ok (.invokevirtual 119, 3) := by decide +kernel
theorem dX6_demandedStage_27 : decode cX6_demandedStage 27 = .ok (.ifCond .eq 5, 3) := by decide +kernel
theorem dX6_demandedStage_30 : decode cX6_demandedStage 30 = .ok (.iload_n 2, 1) := by decide +kernel
theorem dX6_demandedStage_31 : decode cX6_demandedStage 31 = .ok (.ireturn, 1) := by decide +kernel
theorem dX6_demandedStage_32 : decode cX6_demandedStage 32 = .ok (.iinc 1 1, 3) := by decide +kernel
theorem dX6_demandedStage_35 : decode cX6_demandedStage 35 = .ok (.goto (-33), 3) := by decide +kernel
theorem dX6_demandedStage_38 : decode cX6_demandedStage 38 = .ok (.iconst (-1), 1) := by decide +kernel
theorem dX6_demandedStage_39 : decode cX6_demandedStage 39 = .ok (.ireturn, 1) := by decide +kernel
theorem dX6_leave_0 : decode cX6_leave 0 = .ok (.aload_n 0, 1) := by decide +kernel
theorem dX6_leave_1 : decode cX6_leave 1 = .ok (.invokevirtual 122, 3) := by decide +kernel
theorem dX6_leave_4 : decode cX6_leave 4 = .ok (.istore_n 1, 1) := by decide +kernel
theorem dX6_leave_5 : decode cX6_leave 5 = .ok (.iload_n 1, 1) := by decide +kernel
theorem dX6_leave_6 : decode cX6_leave 6 = .ok (.iconst (-1), 1) := by decide +kernel
theorem dX6_leave_7 : decode cX6_leave 7 = .ok (.if_icmp .eq 7, 3) := by decide +kernel
theorem dX6_leave_10 : decode cX6_leave 10 = .ok (.iload_n 1, 1) := by decide +kernel
theorem dX6_leave_11 : decode cX6_leave 11 = .ok (.goto 7, 3) := by decide +kernel
theorem dX6_leave_14 : decode cX6_leave 14 = .ok (.aload_n 0, 1) := by decide +kernel
theorem dX6_leave_15 : decode cX6_leave 15 = .ok (.invokevirtual 126, 3) := by decide +kernel
theorem dX6_leave_18 : decode cX6_leave 18 = .ok (.istore_n 2, 1) := by decide +kernel
theorem dX6_leave_19 : decode cX6_leave 19 = .ok (.iload_n 2, 1) := by decide +kernel
theorem dX6_leave_20 : decode cX6_leave 20 = .ok (.iconst (-1), 1) := by decide +kernel
theorem dX6_leave_21 : decode cX6_leave 21 = .ok (.if_icmp .eq 11, 3) := by decide +kernel
theorem dX6_leave_24 : decode cX6_leave 24 = .ok (.iload_n 2, 1) := by decide +kernel
theorem dX6_leave_25 : decode cX6_leave 25 = .ok (.aload_n 0, 1) := by decide +kernel
theorem dX6_leave_26 : decode cX6_leave 26 = .ok (.getfield 106, 3) := by decide +kernel
theorem dX6_leave_29 : decode cX6_leave 29 = .ok (.if_icmp .ne 4, 3) := by decide +kernel
theorem dX6_leave_32 : decode cX6_leave 32 = .ok (.return_, 1) := by decide +kernel
theorem dX6_leave_33 : decode cX6_leave 33 = .ok (.aload_n 0, 1) := by decide +kernel
theorem dX6_leave_34 : decode cX6_leave 34 = .ok (.getfield 22, 3) := by decide +kernel
theorem dX6_leave_37 : decode cX6_leave 37 = .ok (.aload_n 0, 1) := by decide +kernel
theorem dX6_leave_38 : decode cX6_leave 38 = .ok (.getfield 106, 3) := by decide +kernel
theorem dX6_leave_41 : decode cX6_leave 41 = .ok (.iaload, 1) := by decide +kernel
theorem dX6_leave_42 : decode cX6_leave 42 = .ok (.aload_n 0, 1) := by decide +kernel
theorem dX6_leave_43 : decode cX6_leave 43 = .ok (.getfield 22, 3) := by decide +kernel
theorem dX6_leave_46 : decode cX6_leave 46 = .ok (.iload_n 2, 1) := by decide +kernel
theorem dX6_leave_47 : decode cX6_leave 47 = .ok (.iaload, 1) := by decide +kernel
theorem dX6_leave_48 : decode cX6_leave 48 = .ok (.iconst (-1), 1) := by decide +kernel
theorem dX6_leave_49 : decode cX6_leave 49 = .ok (.ixor, 1) := by decide +kernel
theorem dX6_leave_50 : decode cX6_leave 50 = .ok (.iand, 1) := by decide +kernel
theorem dX6_leave_51 : decode cX6_leave 51 = .ok (.istore_n 3, 1) := by decide +kernel
theorem dX6_leave_52 : decode cX6_leave 52 = .ok (.iconst 1, 1) := by decide +kernel
theorem dX6_leave_53 : decode cX6_leave 53 = .ok (.istore 4, 2) := by decide +kernel
theorem dX6_leave_55 : decode cX6_leave 55 = .ok (.iconst 0, 1) := by decide +kernel
theorem dX6_leave_56 : decode cX6_leave 56 = .ok (.istore 5, 2) := by decide +kernel
theorem dX6_leave_58 : decode cX6_leave 58 = .ok (.iload 5, 2) := by decide +kernel
theorem dX6_leave_60 : decode cX6_leave 60 = .ok (.aload_n 0, 1) := by decide +kernel
theorem dX6_leave_61 : decode cX6_leave 61 = .ok (.getfield 69, 3) := by decide +kernel
theorem dX6_leave_64 : decode cX6_leave 64 = .ok (.if_icmp .ge 91, 3) := by decide +kernel
theorem dX6_leave_67 : decode cX6_leave 67 = .ok (.aload_n 0, 1) := by decide +kernel
theorem dX6_leave_68 : decode cX6_leave 68 = .ok (.getfield 31, 3) := by decide +kernel
theorem dX6_leave_71 : decode cX6_leave 71 = .ok (.iload 5, 2) := by decide +kernel
theorem dX6_leave_73 : decode cX6_leave 73 = .ok (.iaload, 1) := by decide +kernel
theorem dX6_leave_74 : decode cX6_leave 74 = .ok (.aload_n 0, 1) := by decide +kernel
theorem dX6_leave_75 : decode cX6_leave 75 = .ok (.getfield 7, 3) := by decide +kernel
theorem dX6_leave_78 : decode cX6_leave 78 = .ok (.iload 5, 2) := by decide +kernel
theorem dX6_leave_80 : decode cX6_leave 80 = .ok (.iaload, 1) := by decide +kernel
theorem dX6_leave_81 : decode cX6_leave 81 = .ok (.if_icmp .lt 39, 3) := by decide +kernel
theorem dX6_leave_84 : decode cX6_leave 84 = .ok (.aload_n 0, 1) := by decide +kernel
theorem dX6_leave_85 : decode cX6_leave 85 = .ok (.getfield 34, 3) := by decide +kernel
theorem dX6_leave_88 : decode cX6_leave 88 = .ok (.iload 5, 2) := by decide +kernel
theorem dX6_leave_90 : decode cX6_leave 90 = .ok (.iaload, 1) := by decide +kernel
theorem dX6_leave_91 : decode cX6_leave 91 = .ok (.ifCond .eq 25, 3) := by decide +kernel
theorem dX6_leave_94 : decode cX6_leave 94 = .ok (.aload_n 0, 1) := by decide +kernel
theorem dX6_leave_95 : decode cX6_leave 95 = .ok (.getfield 31, 3) := by decide +kernel
theorem dX6_leave_98 : decode cX6_leave 98 = .ok (.iload 5, 2) := by decide +kernel
theorem dX6_leave_100 : decode cX6_leave 100 = .ok (.iaload, 1) := by decide +kernel
theorem dX6_leave_101 : decode cX6_leave 101 = .ok (.aload_n 0, 1) := by decide +kernel
theorem dX6_leave_102 : decode cX6_leave 102 = .ok (.getfield 13, 3) := by decide +kernel
theorem dX6_leave_105 : decode cX6_leave 105 = .ok (.iload 5, 2) := by decide +kernel
theorem dX6_leave_107 : decode cX6_leave 107 = .ok (.iaload, 1) := by decide +kernel
theorem dX6_leave_108 : decode cX6_leave 108 = .ok (.if_icmp .ge 8, 3) := by decide +kernel
theorem dX6_leave_111 : decode cX6_leave 111 = .ok (.iload_n 1, 1) := by decide +kernel
theorem dX6_leave_112 : decode cX6_leave 112 = .ok (.iconst (-1), 1) := by decide +kernel
theorem dX6_leave_113 : decode cX6_leave 113 = .ok (.if_icmp .eq 7, 3) := by decide +kernel
theorem dX6_leave_116 : decode cX6_leave 116 = .ok (.iconst 1, 1) := by decide +kernel
theorem dX6_leave_117 : decode cX6_leave 117 = .ok (.goto 4, 3) := by decide +kernel
theorem dX6_leave_120 : decode cX6_leave 120 = .ok (.iconst 0, 1) := by decide +kernel
theorem dX6_leave_121 : decode cX6_leave 121 = .ok (.istore 6, 2) := by decide +kernel
theorem dX6_leave_123 : decode cX6_leave 123 = .ok (.iload 4, 2) := by decide +kernel
theorem dX6_leave_125 : decode cX6_leave 125 = .ok (.ifCond .eq 21, 3) := by decide +kernel
theorem dX6_leave_128 : decode cX6_leave 128 = .ok (.iload_n 3, 1) := by decide +kernel
theorem dX6_leave_129 : decode cX6_leave 129 = .ok (.iload 5, 2) := by decide +kernel
theorem dX6_leave_131 : decode cX6_leave 131 = .ok (.invokestatic 87, 3) := by decide +kernel
theorem dX6_leave_134 : decode cX6_leave 134 = .ok (.ifCond .eq 8, 3) := by decide +kernel
theorem dX6_leave_137 : decode cX6_leave 137 = .ok (.iload 6, 2) := by decide +kernel
theorem dX6_leave_139 : decode cX6_leave 139 = .ok (.ifCond .eq 7, 3) := by decide +kernel
theorem dX6_leave_142 : decode cX6_leave 142 = .ok (.iconst 1, 1) := by decide +kernel
theorem dX6_leave_143 : decode cX6_leave 143 = .ok (.goto 4, 3) := by decide +kernel
theorem dX6_leave_146 : decode cX6_leave 146 = .ok (.iconst 0, 1) := by decide +kernel
theorem dX6_leave_147 : decode cX6_leave 147 = .ok (.istore 4, 2) := by decide +kernel
theorem dX6_leave_149 : decode cX6_leave 149 = .ok (.iinc 5 1, 3) := by decide +kernel
theorem dX6_leave_152 : decode cX6_leave 152 = .ok (.goto (-94), 3) := by decide +kernel
theorem dX6_leave_155 : decode cX6_leave 155 = .ok (.iconst 0, 1) := by decide +kernel
theorem dX6_leave_156 : decode cX6_leave 156 = .ok (.istore 5, 2) := by decide +kernel
theorem dX6_leave_158 : decode cX6_leave 158 = .ok (.iload 5, 2) := by decide +kernel
theorem dX6_leave_160 : decode cX6_leave 160 = .ok (.aload_n 0, 1) := by decide +kernel
theorem dX6_leave_161 : decode cX6_leave 161 = .ok (.getfield 69, 3) := by decide +kernel
theorem dX6_leave_164 : decode cX6_leave 164 = .ok (.if_icmp .ge 42, 3) := by decide +kernel
theorem dX6_leave_167 : decode cX6_leave 167 = .ok (.iload 4, 2) := by decide +kernel
theorem dX6_leave_169 : decode cX6_leave 169 = .ok (.ifCond .eq 37, 3) := by decide +kernel
theorem dX6_leave_172 : decode cX6_leave 172 = .ok (.iload_n 3, 1) := by decide +kernel
theorem dX6_leave_173 : decode cX6_leave 173 = .ok (.iload 5, 2) := by decide +kernel
theorem dX6_leave_175 : decode cX6_leave 175 = .ok (.invokestatic 87, 3) := by decide +kernel
theorem dX6_leave_178 : decode cX6_leave 178 = .ok (.ifCond .eq 22, 3) := by decide +kernel
theorem dX6_leave_181 : decode cX6_leave 181 = .ok (.aload_n 0, 1) := by decide +kernel
theorem dX6_leave_182 : decode cX6_leave 182 = .ok (.getfield 25, 3) := by decide +kernel
theorem dX6_leave_185 : decode cX6_leave 185 = .ok (.iload 5, 2) := by decide +kernel
theorem dX6_leave_187 : decode cX6_leave 187 = .ok (.iconst 2, 1) := by decide +kernel
theorem dX6_leave_188 : decode cX6_leave 188 = .ok (.iastore, 1) := by decide +kernel
theorem dX6_leave_189 : decode cX6_leave 189 = .ok (.aload_n 0, 1) := by decide +kernel
theorem dX6_leave_190 : decode cX6_leave 190 = .ok (.getfield 28, 3) := by decide +kernel
theorem dX6_leave_193 : decode cX6_leave 193 = .ok (.iload 5, 2) := by decide +kernel
theorem dX6_leave_195 : decode cX6_leave 195 = .ok (.aload_n 0, 1) := by decide +kernel
theorem dX6_leave_196 : decode cX6_leave 196 = .ok (.getfield 109, 3) := by decide +kernel
theorem dX6_leave_199 : decode cX6_leave 199 = .ok (.iastore, 1) := by decide +kernel
theorem dX6_leave_200 : decode cX6_leave 200 = .ok (.iinc 5 1, 3) := by decide +kernel
theorem dX6_leave_203 : decode cX6_leave 203 = .ok (.goto (-45), 3) := by decide +kernel
theorem dX6_leave_206 : decode cX6_leave 206 = .ok (.aload_n 0, 1) := by decide +kernel
theorem dX6_leave_207 : decode cX6_leave 207 = .ok (.iload 4, 2) := by decide +kernel
theorem dX6_leave_209 : decode cX6_leave 209 = .ok (.ifCond .eq 7, 3) := by decide +kernel
theorem dX6_leave_212 : decode cX6_leave 212 = .ok (.iload_n 2, 1) := by decide +kernel
theorem dX6_leave_213 : decode cX6_leave 213 = .ok (.goto 7, 3) := by decide +kernel
theorem dX6_leave_216 : decode cX6_leave 216 = .ok (.aload_n 0, 1) := by decide +kernel
theorem dX6_leave_217 : decode cX6_leave 217 = .ok (.getfield 106, 3) := by decide +kernel
theorem dX6_leave_220 : decode cX6_leave 220 = .ok (.putfield 106, 3) := by decide +kernel
theorem dX6_leave_223 : decode cX6_leave 223 = .ok (.aload_n 0, 1) := by decide +kernel
theorem dX6_leave_224 : decode cX6_leave 224 = .ok (.iload 4, 2) := by decide +kernel
theorem dX6_leave_226 : decode cX6_leave 226 = .ok (.ifCond .eq 7, 3) := by decide +kernel
theorem dX6_leave_229 : decode cX6_leave 229 = .ok (.iconst 1, 1) := by decide +kernel
theorem dX6_leave_230 : decode cX6_leave 230 = .ok (.goto 7, 3) := by decide +kernel
theorem dX6_leave_233 : decode cX6_leave 233 = .ok (.aload_n 0, 1) := by decide +kernel
theorem dX6_leave_234 : decode cX6_leave 234 = .ok (.getfield 103, 3) := by decide +kernel
theorem dX6_leave_237 : decode cX6_leave 237 = .ok (.putfield 103, 3) := by decide +kernel
theorem dX6_leave_240 : decode cX6_leave 240 = .ok (.return_, 1) := by decide +kernel
theorem dX6_canBegin_0 : decode cX6_canBegin 0 = .ok (.iconst 1, 1) := by decide +kernel
theorem dX6_canBegin_1 : decode cX6_canBegin 1 = .ok (.istore_n 2, 1) := by decide +kernel
theorem dX6_canBegin_2 : decode cX6_canBegin 2 = .ok (.iconst 0, 1) := by decide +kernel
theorem dX6_canBegin_3 : decode cX6_canBegin 3 = .ok (.istore_n 3, 1) := by decide +kernel
theorem dX6_canBegin_4 : decode cX6_canBegin 4 = .ok (.iload_n 3, 1) := by decide +kernel
theorem dX6_canBegin_5 : decode cX6_canBegin 5 = .ok (.aload_n 0, 1) := by decide +kernel
theorem dX6_canBegin_6 : decode cX6_canBegin 6 = .ok (.getfield 69, 3) := by decide +kernel
theorem dX6_canBegin_9 : decode cX6_canBegin 9 = .ok (.if_icmp .ge 73, 3) := by decide +kernel
theorem dX6_canBegin_12 : decode cX6_canBegin 12 = .ok (.aload_n 0, 1) := by decide +kernel
theorem dX6_canBegin_13 : decode cX6_canBegin 13 = .ok (.getfield 19, 3) := by decide +kernel
theorem dX6_canBegin_16 : decode cX6_canBegin 16 = .ok (.bipush 8, 2) := by decide +kernel
theorem dX6_canBegin_18 : decode cX6_canBegin 18 = .ok (.iload_n 3, 1) := by decide +kernel
theorem dX6_canBegin_19 : decode cX6_canBegin 19 = .ok (.imul, 1) := by decide +kernel
theorem dX6_canBegin_20 : decode cX6_canBegin 20 = .ok (.iload_n 1, 1) := by decide +kernel
theorem dX6_canBegin_21 : decode cX6_canBegin 21 = .ok (.iadd, 1) := by decide +kernel
theorem dX6_canBegin_22 : decode cX6_canBegin 22 = .ok (.iaload, 1) := by decide +kernel
theorem dX6_canBegin_23 : decode cX6_canBegin 23 = .ok (.istore 4, 2) := by decide +kernel
theorem dX6_canBegin_25 : decode cX6_canBegin 25 = .ok (.iload_n 2, 1) := by decide +kernel
theorem dX6_canBegin_26 : decode cX6_canBegin 26 = .ok (.ifCond .eq 48, 3) := by decide +kernel
theorem dX6_canBegin_29 : decode cX6_canBegin 29 = .ok (.iload 4, 2) := by decide +kernel
theorem dX6_canBegin_31 : decode cX6_canBegin 31 = .ok (.ifCond .eq 39, 3) := by decide +kernel
theorem dX6_canBegin_34 : decode cX6_canBegin 34 = .ok (.aload_n 0, 1) := by decide +kernel
theorem dX6_canBegin_35 : decode cX6_canBegin 35 = .ok (.getfield 25, 3) := by decide +kernel
theorem dX6_canBegin_38 : decode cX6_canBegin 38 = .ok (.iload_n 3, 1) := by decide +kernel
theorem dX6_canBegin_39 : decode cX6_canBegin 39 = .ok (.iaload, 1) := by decide +kernel
theorem dX6_canBegin_40 : decode cX6_canBegin 40 = .ok (.iconst 1, 1) := by decide +kernel
theorem dX6_canBegin_41 : decode cX6_canBegin 41 = .ok (.if_icmp .eq 33, 3) := by decide +kernel
theorem dX6_canBegin_44 : decode cX6_canBegin 44 = .ok (.aload_n 0, 1) := by decide +kernel
theorem dX6_canBegin_45 : decode cX6_canBegin 45 = .ok (.getfield 28, 3) := by decide +kernel
theorem dX6_canBegin_48 : decode cX6_canBegin 48 = .ok (.iload_n 3, 1) := by decide +kernel
theorem dX6_canBegin_49 : decode cX6_canBegin 49 = .ok (.iaload, 1) := by decide +kernel
theorem dX6_canBegin_50 : decode cX6_canBegin 50 = .ok (.iconst (-1), 1) := by decide +kernel
theorem dX6_canBegin_51 : decode cX6_canBegin 51 = .ok (.if_icmp .eq 19, 3) := by decide +kernel
theorem dX6_canBegin_54 : decode cX6_canBegin 54 = .ok (.aload_n 0, 1) := by decide +kernel
theorem dX6_canBegin_55 : decode cX6_canBegin 55 = .ok (.getfield 109, 3) := by decide +kernel
theorem dX6_canBegin_58 : decode cX6_canBegin 58 = .ok (.aload_n 0, 1) := by decide +kernel
theorem dX6_canBegin_59 : decode cX6_canBegin 59 = .ok (.getfield 28, 3) := by decide +kernel
theorem dX6_canBegin_62 : decode cX6_canBegin 62 = .ok (.iload_n 3, 1) := by decide +kernel
theorem dX6_canBegin_63 : decode cX6_canBegin 63 = .ok (.iaload, 1) := by decide +kernel
theorem dX6_canBegin_64 : decode cX6_canBegin 64 = .ok (.isub, 1) := by decide +kernel
theorem dX6_canBegin_65 : decode cX6_canBegin 65 = .ok (.iload 4, 2) := by decide +kernel
theorem dX6_canBegin_67 : decode cX6_canBegin 67 = .ok (.if_icmp .lt 7, 3) := by decide +kernel
theorem dX6_canBegin_70 : decode cX6_canBegin 70 = .ok (.iconst 1, 1) := by decide +kernel
theorem dX6_canBegin_71 : decode cX6_canBegin 71 = .ok (.goto 4, 3) := by decide +kernel
theorem dX6_canBegin_74 : decode cX6_canBegin 74 = .ok (.iconst 0, 1) := by decide +kernel
theorem dX6_canBegin_75 : decode cX6_canBegin 75 = .ok (.istore_n 2, 1) := by decide +kernel
theorem dX6_canBegin_76 : decode cX6_canBegin 76 = .ok (.iinc 3 1, 3) := by decide +kernel
theorem dX6_canBegin_79 : decode cX6_canBegin 79 = .ok (.goto (-75), 3) := by decide +kernel
theorem dX6_canBegin_82 : decode cX6_canBegin 82 = .ok (.iload_n 2, 1) := by decide +kernel
theorem dX6_canBegin_83 : decode cX6_canBegin 83 = .ok (.ireturn, 1) := by decide +kernel
theorem dX6_begin_0 : decode cX6_begin 0 = .ok (.iconst 1, 1) := by decide +kernel
theorem dX6_begin_1 : decode cX6_begin 1 = .ok (.istore_n 1, 1) := by decide +kernel
theorem dX6_begin_2 : decode cX6_begin 2 = .ok (.iconst 0, 1) := by decide +kernel
theorem dX6_begin_3 : decode cX6_begin 3 = .ok (.istore_n 2, 1) := by decide +kernel
theorem dX6_begin_4 : decode cX6_begin 4 = .ok (.iload_n 2, 1) := by decide +kernel
theorem dX6_begin_5 : decode cX6_begin 5 = .ok (.aload_n 0, 1) := by decide +kernel
theorem dX6_begin_6 : decode cX6_begin 6 = .ok (.getfield 69, 3) := by decide +kernel
theorem dX6_begin_9 : decode cX6_begin 9 = .ok (.if_icmp .ge 119, 3) := by decide +kernel
theorem dX6_begin_12 : decode cX6_begin 12 = .ok (.aload_n 0, 1) := by decide +kernel
theorem dX6_begin_13 : decode cX6_begin 13 = .ok (.getfield 22, 3) := by decide +kernel
theorem dX6_begin_16 : decode cX6_begin 16 = .ok (.aload_n 0, 1) := by decide +kernel
theorem dX6_begin_17 : decode cX6_begin 17 = .ok (.getfield 106, 3) := by decide +kernel
theorem dX6_begin_20 : decode cX6_begin 20 = .ok (.iaload, 1) := by decide +kernel
theorem dX6_begin_21 : decode cX6_begin 21 = .ok (.iload_n 2, 1) := by decide +kernel
theorem dX6_begin_22 : decode cX6_begin 22 = .ok (.invokestatic 87, 3) := by decide +kernel
theorem dX6_begin_25 : decode cX6_begin 25 = .ok (.ifCond .eq 61, 3) := by decide +kernel
theorem dX6_begin_28 : decode cX6_begin 28 = .ok (.aload_n 0, 1) := by decide +kernel
theorem dX6_begin_29 : decode cX6_begin 29 = .ok (.getfield 25, 3) := by decide +kernel
theorem dX6_begin_32 : decode cX6_begin 32 = .ok (.iload_n 2, 1) := by decide +kernel
theorem dX6_begin_33 : decode cX6_begin 33 = .ok (.iaload, 1) := by decide +kernel
theorem dX6_begin_34 : decode cX6_begin 34 = .ok (.iconst 1, 1) := by decide +kernel
theorem dX6_begin_35 : decode cX6_begin 35 = .ok (.if_icmp .eq 51, 3) := by decide +kernel
theorem dX6_begin_38 : decode cX6_begin 38 = .ok (.aload_n 0, 1) := by decide +kernel
theorem dX6_begin_39 : decode cX6_begin 39 = .ok (.iload_n 2, 1) := by decide +kernel
theorem dX6_begin_40 : decode cX6_begin 40 = .ok (.invokevirtual 129, 3) := by decide +kernel
theorem dX6_begin_43 : decode cX6_begin 43 = .ok (.ifCond .eq 43, 3) := by decide +kernel
theorem dX6_begin_46 : decode cX6_begin 46 = .ok (.aload_n 0, 1) := by decide +kernel
theorem dX6_begin_47 : decode cX6_begin 47 = .ok (.getfield 25, 3) := by decide +kernel
theorem dX6_begin_50 : decode cX6_begin 50 = .ok (.iload_n 2, 1) := by decide +kernel
theorem dX6_begin_51 : decode cX6_begin 51 = .ok (.iconst 1, 1) := by decide +kernel
theorem dX6_begin_52 : decode cX6_begin 52 = .ok (.iastore, 1) := by decide +kernel
theorem dX6_begin_53 : decode cX6_begin 53 = .ok (.aload_n 0, 1) := by decide +kernel
theorem dX6_begin_54 : decode cX6_begin 54 = .ok (.getfield 31, 3) := by decide +kernel
theorem dX6_begin_57 : decode cX6_begin 57 = .ok (.iload_n 2, 1) := by decide +kernel
theorem dX6_begin_58 : decode cX6_begin 58 = .ok (.iconst 0, 1) := by decide +kernel
theorem dX6_begin_59 : decode cX6_begin 59 = .ok (.iastore, 1) := by decide +kernel
theorem dX6_begin_60 : decode cX6_begin 60 = .ok (.aload_n 0, 1) := by decide +kernel
theorem dX6_begin_61 : decode cX6_begin 61 = .ok (.getfield 34, 3) := by decide +kernel
theorem dX6_begin_64 : decode cX6_begin 64 = .ok (.iload_n 2, 1) := by decide +kernel
theorem dX6_begin_65 : decode cX6_begin 65 = .ok (.aload_n 0, 1) := by decide +kernel
theorem dX6_begin_66 : decode cX6_begin 66 = .ok (.getfield 16, 3) := by decide +kernel
theorem dX6_begin_69 : decode cX6_begin 69 = .ok (.iload_n 2, 1) := by decide +kernel
theorem dX6_begin_70 : decode cX6_begin 70 = .ok (.iaload, 1) := by decide +kernel
theorem dX6_begin_71 : decode cX6_begin 71 = .ok (.iastore, 1) := by decide +kernel
theorem dX6_begin_72 : decode cX6_begin 72 = .ok (.aload_n 0, 1) := by decide +kernel
theorem dX6_begin_73 : decode cX6_begin 73 = .ok (.getfield 40, 3) := by decide +kernel
theorem dX6_begin_76 : decode cX6_begin 76 = .ok (.iload_n 2, 1) := by decide +kernel
theorem dX6_begin_77 : decode cX6_begin 77 = .ok (.iconst 0, 1) := by decide +kernel
theorem dX6_begin_78 : decode cX6_begin 78 = .ok (.iastore, 1) := by decide +kernel
theorem dX6_begin_79 : decode cX6_begin 79 = .ok (.aload_n 0, 1) := by decide +kernel
theorem dX6_begin_80 : decode cX6_begin 80 = .ok (.getfield 46, 3) := by decide +kernel
theorem dX6_begin_83 : decode cX6_begin 83 = .ok (.iload_n 2, 1) := by decide +kernel
theorem dX6_begin_84 : decode cX6_begin 84 = .ok (.iconst 0, 1) := by decide +kernel
theorem dX6_begin_85 : decode cX6_begin 85 = .ok (.bastore, 1) := by decide +kernel
theorem dX6_begin_86 : decode cX6_begin 86 = .ok (.iload_n 1, 1) := by decide +kernel
theorem dX6_begin_87 : decode cX6_begin 87 = .ok (.ifCond .eq 33, 3) := by decide +kernel
theorem dX6_begin_90 : decode cX6_begin 90 = .ok (.aload_n 0, 1) := by decide +kernel
theorem dX6_begin_91 : decode cX6_begin 91 = .ok (.getfield 22, 3) := by decide +kernel
theorem dX6_begin_94 : decode cX6_begin 94 = .ok (.aload_n 0, 1) := by decide +kernel
theorem dX6_begin_95 : decode cX6_begin 95 = .ok (.getfield 106, 3) := by decide +kernel
theorem dX6_begin_98 : decode cX6_begin 98 = .ok (.iaload, 1) := by decide +kernel
theorem dX6_begin_99 : decode cX6_begin 99 = .ok (.iload_n 2, 1) := by decide +kernel
theorem dX6_begin_100 : decode cX6_begin 100 = .ok (.invokestatic 87, 3) := by decide +kernel
theorem dX6_begin_103 : decode cX6_begin 103 = .ok (.ifCond .eq 13, 3) := by decide +kernel
theorem dX6_begin_106 : decode cX6_begin 106 = .ok (.aload_n 0, 1) := by decide +kernel
theorem dX6_begin_107 : decode cX6_begin 107 = .ok (.getfield 25, 3) := by decide +kernel
theorem dX6_begin_110 : decode cX6_begin 110 = .ok (.iload_n 2, 1) := by decide +kernel
theorem dX6_begin_111 : decode cX6_begin 111 = .ok (.iaload, 1) := by decide +kernel
theorem dX6_begin_112 : decode cX6_begin 112 = .ok (.iconst 1, 1) := by decide +kernel
theorem dX6_begin_113 : decode cX6_begin 113 = .ok (.if_icmp .ne 7, 3) := by decide +kernel
theorem dX6_begin_116 : decode cX6_begin 116 = .ok (.iconst 1, 1) := by decide +kernel
theorem dX6_begin_117 : decode cX6_begin 117 = .ok (.goto 4, 3) := by decide +kernel
theorem dX6_begin_120 : decode cX6_begin 120 = .ok (.iconst 0, 1) := by decide +kernel
theorem dX6_begin_121 : decode cX6_begin 121 = .ok (.istore_n 1, 1) := by decide +kernel
theorem dX6_begin_122 : decode cX6_begin 122 = .ok (.iinc 2 1, 3) := by decide +kernel
theorem dX6_begin_125 : decode cX6_begin 125 = .ok (.goto (-121), 3) := by decide +kernel
theorem dX6_begin_128 : decode cX6_begin 128 = .ok (.aload_n 0, 1) := by decide +kernel
theorem dX6_begin_129 : decode cX6_begin 129 = .ok (.iload_n 1, 1) := by decide +kernel
theorem dX6_begin_130 : decode cX6_begin 130 = .ok (.ifCond .eq 7, 3) := by decide +kernel
theorem dX6_begin_133 : decode cX6_begin 133 = .ok (.iconst 2, 1) := by decide +kernel
theorem dX6_begin_134 : decode cX6_begin 134 = .ok (.goto 7, 3) := by decide +kernel
theorem dX6_begin_137 : decode cX6_begin 137 = .ok (.aload_n 0, 1) := by decide +kernel
theorem dX6_begin_138 : decode cX6_begin 138 = .ok (.getfield 103, 3) := by decide +kernel
theorem dX6_begin_141 : decode cX6_begin 141 = .ok (.putfield 103, 3) := by decide +kernel
theorem dX6_begin_144 : decode cX6_begin 144 = .ok (.return_, 1) := by decide +kernel
theorem dX6_isDangerous_0 : decode cX6_isDangerous 0 = .ok (.iconst 0, 1) := by decide +kernel
theorem dX6_isDangerous_1 : decode cX6_isDangerous 1 = .ok (.istore_n 1, 1) := by decide +kernel
theorem dX6_isDangerous_2 : decode cX6_isDangerous 2 = .ok (.iconst 0, 1) := by decide +kernel
theorem dX6_isDangerous_3 : decode cX6_isDangerous 3 = .ok (.istore_n 2, 1) := by decide +kernel
theorem dX6_isDangerous_4 : decode cX6_isDangerous 4 = .ok (.iload_n 2, 1) := by decide +kernel
theorem dX6_isDangerous_5 : decode cX6_isDangerous 5 = .ok (.aload_n 0, 1) := by decide +kernel
theorem dX6_isDangerous_6 : decode cX6_isDangerous 6 = .ok (.getfield 69, 3) := by decide +kernel
theorem dX6_isDangerous_9 : decode cX6_isDangerous 9 = .ok (.if_icmp .ge 78, 3) := by decide +kernel
theorem dX6_isDangerous_12 : decode cX6_isDangerous 12 = .ok (.iconst 0, 1) := by decide +kernel
theorem dX6_isDangerous_13 : decode cX6_isDangerous 13 = .ok (.istore_n 3, 1) := by decide +kernel
theorem dX6_isDangerous_14 : decode cX6_isDangerous 14 = .ok (.iload_n 3, 1) := by decide +kernel
theorem dX6_isDangerous_15 : decode cX6_isDangerous 15 = .ok (.aload_n 0, 1) := by decide +kernel
theorem dX6_isDangerous_16 : decode cX6_isDangerous 16 = .ok (.getfield 69, 3) := by decide +kernel
theorem dX6_isDangerous_19 : decode cX6_isDangerous 19 = .ok (.if_icmp .ge 62, 3) := by decide +kernel
theorem dX6_isDangerous_22 : decode cX6_isDangerous 22 = .ok (.iload_n 1, 1) := by decide +kernel
theorem dX6_isDangerous_23 : decode cX6_isDangerous 23 = .ok (.ifCond .ne 46, 3) := by decide +kernel
theorem dX6_isDangerous_26 : decode cX6_isDangerous 26 = .ok (.aload_n 0, 1) := by decide +kernel
theorem dX6_isDangerous_27 : decode cX6_isDangerous 27 = .ok (.getfield 25, 3) := by decide +kernel
theorem dX6_isDangerous_30 : decode cX6_isDangerous 30 = .ok (.iload_n 2, 1) := by decide +kernel
theorem dX6_isDangerous_31 : decode cX6_isDangerous 31 = .ok (.iaload, 1) := by decide +kernel
theorem dX6_isDangerous_32 : decode cX6_isDangerous 32 = .ok (.ifCond .ne 41, 3) := by decide +kernel
theorem dX6_isDangerous_35 : decode cX6_isDangerous 35 = .ok (.aload_n 0, 1) := by decide +kernel
theorem dX6_isDangerous_36 : decode cX6_isDangerous 36 = .ok (.getfield 50, 3) := by decide +kernel
theorem dX6_isDangerous_39 : decode cX6_isDangerous 39 = .ok (.iconst 3, 1) := by decide +kernel
theorem dX6_isDangerous_40 : decode cX6_isDangerous 40 = .ok (.iload_n 2, 1) := by decide +kernel
theorem dX6_isDangerous_41 : decode cX6_isDangerous 41 = .ok (.imul, 1) := by decide +kernel
theorem dX6_isDangerous_42 : decode cX6_isDangerous 42 = .ok (.baload, 1) := by decide +kernel
theorem dX6_isDangerous_43 : decode cX6_isDangerous 43 = .ok (.ifCond .eq 30, 3) := by decide +kernel
theorem dX6_isDangerous_46 : decode cX6_isDangerous 46 = .ok (.aload_n 0, 1) := by decide +kernel
theorem dX6_isDangerous_47 : decode cX6_isDangerous 47 = .ok (.getfield 19, 3) := by decide +kernel
theorem dX6_isDangerous_50 : decode cX6_isDangerous 50 = .ok (.bipush 8, 2) := by decide +kernel
theorem dX6_isDangerous_52 : decode cX6_isDangerous 52 = .ok (.iload_n 2, 1) := by decide +kernel
theorem dX6_isDangerous_53 : decode cX6_isDangerous 53 = .ok (.imul, 1) := by decide +kernel
theorem dX6_isDangerous_54 : decode cX6_isDangerous 54 = .ok (.iload_n 3, 1) := by decide +kernel
theorem dX6_isDangerous_55 : decode cX6_isDangerous 55 = .ok (.iadd, 1) := by decide +kernel
theorem dX6_isDangerous_56 : decode cX6_isDangerous 56 = .ok (.iaload, 1) := by decide +kernel
theorem dX6_isDangerous_57 : decode cX6_isDangerous 57 = .ok (.ifCond .le 16, 3) := by decide +kernel
theorem dX6_isDangerous_60 : decode cX6_isDangerous 60 = .ok (.aload_n 0, 1) := by decide +kernel
theorem dX6_isDangerous_61 : decode cX6_isDangerous 61 = .ok (.getfield 25, 3) := by decide +kernel
theorem dX6_isDangerous_64 : decode cX6_isDangerous 64 = .ok (.iload_n 3, 1) := by decide +kernel
theorem dX6_isDangerous_65 : decode cX6_isDangerous 65 = .ok (.iaload, 1) := by decide +kernel
theorem dX6_isDangerous_66 : decode cX6_isDangerous 66 = .ok (.ifCond .eq 7, 3) := by decide +kernel
theorem dX6_isDangerous_69 : decode cX6_isDangerous 69 = .ok (.iconst 1, 1) := by decide +kernel
theorem dX6_isDangerous_70 : decode cX6_isDangerous 70 = .ok (.goto 4, 3) := by decide +kernel
theorem dX6_isDangerous_73 : decode cX6_isDangerous 73 = .ok (.iconst 0, 1) := by decide +kernel
theorem dX6_isDangerous_74 : decode cX6_isDangerous 74 = .ok (.istore_n 1, 1) := by decide +kernel
theorem dX6_isDangerous_75 : decode cX6_isDangerous 75 = .ok (.iinc 3 1, 3) := by decide +kernel
theorem dX6_isDangerous_78 : decode cX6_isDangerous 78 = .ok (.goto (-64), 3) := by decide +kernel
theorem dX6_isDangerous_81 : decode cX6_isDangerous 81 = .ok (.iinc 2 1, 3) := by decide +kernel
theorem dX6_isDangerous_84 : decode cX6_isDangerous 84 = .ok (.goto (-80), 3) := by decide +kernel
theorem dX6_isDangerous_87 : decode cX6_isDangerous 87 = .ok (.iload_n 1, 1) := by decide +kernel
theorem dX6_isDangerous_88 : decode cX6_isDangerous 88 = .ok (.ireturn, 1) := by decide +kernel
theorem dX6_write_0 : decode cX6_write 0 = .ok (.iconst 0, 1) := by decide +kernel
theorem dX6_write_1 : decode cX6_write 1 = .ok (.istore_n 1, 1) := by decide +kernel
theorem dX6_write_2 : decode cX6_write 2 = .ok (.bipush 7, 2) := by decide +kernel
theorem dX6_write_4 : decode cX6_write 4 = .ok (.istore_n 2, 1) := by decide +kernel
theorem dX6_write_5 : decode cX6_write 5 = .ok (.iload_n 2, 1) := by decide +kernel
theorem dX6_write_6 : decode cX6_write 6 = .ok (.ifCond .lt 75, 3) := by decide +kernel
theorem dX6_write_9 : decode cX6_write 9 = .ok (.iload_n 2, 1) := by decide +kernel
theorem dX6_write_10 : decode cX6_write 10 = .ok (.aload_n 0, 1) := by decide +kernel
theorem dX6_write_11 : decode cX6_write 11 = .ok (.getfield 69, 3) := by decide +kernel
theorem dX6_write_14 : decode cX6_write 14 = .ok (.if_icmp .ge 36, 3) := by decide +kernel
theorem dX6_write_17 : decode cX6_write 17 = .ok (.aload_n 0, 1) := by decide +kernel
theorem dX6_write_18 : decode cX6_write 18 = .ok (.getfield 103, 3) := by decide +kernel
theorem dX6_write_21 : decode cX6_write 21 = .ok (.ifCond .eq 29, 3) := by decide +kernel
theorem dX6_write_24 : decode cX6_write 24 = .ok (.aload_n 0, 1) := by decide +kernel
theorem dX6_write_25 : decode cX6_write 25 = .ok (.getfield 103, 3) := by decide +kernel
theorem dX6_write_28 : decode cX6_write 28 = .ok (.iconst 3, 1) := by decide +kernel
theorem dX6_write_29 : decode cX6_write 29 = .ok (.if_icmp .eq 21, 3) := by decide +kernel
theorem dX6_write_32 : decode cX6_write 32 = .ok (.aload_n 0, 1) := by decide +kernel
theorem dX6_write_33 : decode cX6_write 33 = .ok (.getfield 50, 3) := by decide +kernel
theorem dX6_write_36 : decode cX6_write 36 = .ok (.iconst 3, 1) := by decide +kernel
theorem dX6_write_37 : decode cX6_write 37 = .ok (.iload_n 2, 1) := by decide +kernel
theorem dX6_write_38 : decode cX6_write 38 = .ok (.imul, 1) := by decide +kernel
theorem dX6_write_39 : decode cX6_write 39 = .ok (.aload_n 0, 1) := by decide +kernel
theorem dX6_write_40 : decode cX6_write 40 = .ok (.getfield 25, 3) := by decide +kernel
theorem dX6_write_43 : decode cX6_write 43 = .ok (.iload_n 2, 1) := by decide +kernel
theorem dX6_write_44 : decode cX6_write 44 = .ok (.iaload, 1) := by decide +kernel
theorem dX6_write_45 : decode cX6_write 45 = .ok (.iadd, 1) := by decide +kernel
theorem dX6_write_46 : decode cX6_write 46 = .ok (.baload, 1) := by decide +kernel
theorem dX6_write_47 : decode cX6_write 47 = .ok (.ifCond .eq 7, 3) := by decide +kernel
theorem dX6_write_50 : decode cX6_write 50 = .ok (.iconst 1, 1) := by decide +kernel
theorem dX6_write_51 : decode cX6_write 51 = .ok (.goto 4, 3) := by decide +kernel
theorem dX6_write_54 : decode cX6_write 54 = .ok (.iconst 0, 1) := by decide +kernel
theorem dX6_write_55 : decode cX6_write 55 = .ok (.istore_n 3, 1) := by decide +kernel
theorem dX6_write_56 : decode cX6_write 56 = .ok (.iconst 4, 1) := by decide +kernel
theorem dX6_write_57 : decode cX6_write 57 = .ok (.iload_n 1, 1) := by decide +kernel
theorem dX6_write_58 : decode cX6_write 58 = .ok (.imul, 1) := by decide +kernel
theorem dX6_write_59 : decode cX6_write 59 = .ok (.iload_n 3, 1) := by decide +kernel
theorem dX6_write_60 : decode cX6_write 60 = .ok (.ifCond .eq 7, 3) := by decide +kernel
theorem dX6_write_63 : decode cX6_write 63 = .ok (.iconst 3, 1) := by decide +kernel
theorem dX6_write_64 : decode cX6_write 64 = .ok (.goto 9, 3) := by decide +kernel
theorem dX6_write_67 : decode cX6_write 67 = .ok (.aload_n 0, 1) := by decide +kernel
theorem dX6_write_68 : decode cX6_write 68 = .ok (.getfield 25, 3) := by decide +kernel
theorem dX6_write_71 : decode cX6_write 71 = .ok (.iload_n 2, 1) := by decide +kernel
theorem dX6_write_72 : decode cX6_write 72 = .ok (.iaload, 1) := by decide +kernel
theorem dX6_write_73 : decode cX6_write 73 = .ok (.iadd, 1) := by decide +kernel
theorem dX6_write_74 : decode cX6_write 74 = .ok (.istore_n 1, 1) := by decide +kernel
theorem dX6_write_75 : decode cX6_write 75 = .ok (.iinc 2 (-1), 3) := by decide +kernel
theorem dX6_write_78 : decode cX6_write 78 = .ok (.goto (-73), 3) := by decide +kernel
theorem dX6_write_81 : decode cX6_write 81 = .ok (.aload_n 0, 1) := by decide +kernel
theorem dX6_write_82 : decode cX6_write 82 = .ok (.getfield 57, 3) := by decide +kernel
theorem dX6_write_85 : decode cX6_write 85 = .ok (.aload_n 0, 1) := by decide +kernel
theorem dX6_write_86 : decode cX6_write 86 = .ok (.getfield 109, 3) := by decide +kernel
theorem dX6_write_89 : decode cX6_write 89 = .ok (.iload_n 1, 1) := by decide +kernel
theorem dX6_write_90 : decode cX6_write 90 = .ok (.iastore, 1) := by decide +kernel
theorem dX6_write_91 : decode cX6_write 91 = .ok (.return_, 1) := by decide +kernel
theorem dX6_move_0 : decode cX6_move 0 = .ok (.aload_n 0, 1) := by decide +kernel
theorem dX6_move_1 : decode cX6_move 1 = .ok (.getfield 25, 3) := by decide +kernel
theorem dX6_move_4 : decode cX6_move 4 = .ok (.iload_n 1, 1) := by decide +kernel
theorem dX6_move_5 : decode cX6_move 5 = .ok (.iaload, 1) := by decide +kernel
theorem dX6_move_6 : decode cX6_move 6 = .ok (.iconst 1, 1) := by decide +kernel
theorem dX6_move_7 : decode cX6_move 7 = .ok (.if_icmp .ne 115, 3) := by decide +kernel
theorem dX6_move_10 : decode cX6_move 10 = .ok (.aload_n 0, 1) := by decide +kernel
theorem dX6_move_11 : decode cX6_move 11 = .ok (.getfield 31, 3) := by decide +kernel
theorem dX6_move_14 : decode cX6_move 14 = .ok (.iload_n 1, 1) := by decide +kernel
theorem dX6_move_15 : decode cX6_move 15 = .ok (.dup2, 1) := by decide +kernel
theorem dX6_move_16 : decode cX6_move 16 = .ok (.iaload, 1) := by decide +kernel
theorem dX6_move_17 : decode cX6_move 17 = .ok (.iconst 1, 1) := by decide +kernel
theorem dX6_move_18 : decode cX6_move 18 = .ok (.iadd, 1) := by decide +kernel
theorem dX6_move_19 : decode cX6_move 19 = .ok (.iastore, 1) := by decide +kernel
theorem dX6_move_20 : decode cX6_move 20 = .ok (.aload_n 0, 1) := by decide +kernel
theorem dX6_move_21 : decode cX6_move 21 = .ok (.getfield 34, 3) := by decide +kernel
theorem dX6_move_24 : decode cX6_move 24 = .ok (.iload_n 1, 1) := by decide +kernel
theorem dX6_move_25 : decode cX6_move 25 = .ok (.dup2, 1) := by decide +kernel
theorem dX6_move_26 : decode cX6_move 26 = .ok (.iaload, 1) := by decide +kernel
theorem dX6_move_27 : decode cX6_move 27 = .ok (.aload_n 0, 1) := by decide +kernel
theorem dX6_move_28 : decode cX6_move 28 = .ok (.getfield 34, 3) := by decide +kernel
theorem dX6_move_31 : decode cX6_move 31 = .ok (.iload_n 1, 1) := by decide +kernel
theorem dX6_move_32 : decode cX6_move 32 = .ok (.iaload, 1) := by decide +kernel
theorem dX6_move_33 : decode cX6_move 33 = .ok (.ifCond .le 7, 3) := by decide +kernel
theorem dX6_move_36 : decode cX6_move 36 = .ok (.iconst 1, 1) := by decide +kernel
theorem dX6_move_37 : decode cX6_move 37 = .ok (.goto 4, 3) := by decide +kernel
theorem dX6_move_40 : decode cX6_move 40 = .ok (.iconst 0, 1) := by decide +kernel
theorem dX6_move_41 : decode cX6_move 41 = .ok (.isub, 1) := by decide +kernel
theorem dX6_move_42 : decode cX6_move 42 = .ok (.iastore, 1) := by decide +kernel
theorem dX6_move_43 : decode cX6_move 43 = .ok (.aload_n 0, 1) := by decide +kernel
theorem dX6_move_44 : decode cX6_move 44 = .ok (.getfield 34, 3) := by decide +kernel
theorem dX6_move_47 : decode cX6_move 47 = .ok (.iload_n 1, 1) := by decide +kernel
theorem dX6_move_48 : decode cX6_move 48 = .ok (.aload_n 0, 1) := by decide +kernel
theorem dX6_move_49 : decode cX6_move 49 = .ok (.getfield 37, 3) := by decide +kernel
theorem dX6_move_52 : decode cX6_move 52 = .ok (.iload_n 1, 1) := by decide +kernel
theorem dX6_move_53 : decode cX6_move 53 = .ok (.iaload, 1) := by decide +kernel
theorem dX6_move_54 : decode cX6_move 54 = .ok (.ifCond .le 12, 3) := by decide +kernel
theorem dX6_move_57 : decode cX6_move 57 = .ok (.aload_n 0, 1) := by decide +kernel
theorem dX6_move_58 : decode cX6_move 58 = .ok (.getfield 16, 3) := by decide +kernel
theorem dX6_move_61 : decode cX6_move 61 = .ok (.iload_n 1, 1) := by decide +kernel
theorem dX6_move_62 : decode cX6_move 62 = .ok (.iaload, 1) := by decide +kernel
theorem dX6_move_63 : decode cX6_move 63 = .ok (.goto 9, 3) := by decide +kernel
theorem dX6_move_66 : decode cX6_move 66 = .ok (.aload_n 0, 1) := by decide +kernel
theorem dX6_move_67 : decode cX6_move 67 = .ok (.getfield 34, 3) := by decide +kernel
theorem dX6_move_70 : decode cX6_move 70 = .ok (.iload_n 1, 1) := by decide +kernel
theorem dX6_move_71 : decode cX6_move 71 = .ok (.iaload, 1) := by decide +kernel
theorem dX6_move_72 : decode cX6_move 72 = .ok (.iastore, 1) := by decide +kernel
theorem dX6_move_73 : decode cX6_move 73 = .ok (.aload_n 0, 1) := by decide +kernel
theorem dX6_move_74 : decode cX6_move 74 = .ok (.dup, 1) := by decide +kernel
theorem dX6_move_75 : decode cX6_move 75 = .ok (.getfield 132, 3) := by decide +kernel
theorem dX6_move_78 : decode cX6_move 78 = .ok (.aload_n 0, 1) := by decide +kernel
theorem dX6_move_79 : decode cX6_move 79 = .ok (.getfield 37, 3) := by decide +kernel
theorem dX6_move_82 : decode cX6_move 82 = .ok (.iload_n 1, 1) := by decide +kernel
theorem dX6_move_83 : decode cX6_move 83 = .ok (.iaload, 1) := by decide +kernel
theorem dX6_move_84 : decode cX6_move 84 = .ok (.ifCond .le 7, 3) := by decide +kernel
theorem dX6_move_87 : decode cX6_move 87 = .ok (.iconst 1, 1) := by decide +kernel
theorem dX6_move_88 : decode cX6_move 88 = .ok (.goto 4, 3) := by decide +kernel
theorem dX6_move_91 : decode cX6_move 91 = .ok (.iconst 0, 1) := by decide +kernel
theorem dX6_move_92 : decode cX6_move 92 = .ok (.iadd, 1) := by decide +kernel
theorem dX6_move_93 : decode cX6_move 93 = .ok (.putfield 132, 3) := by decide +kernel
theorem dX6_move_96 : decode cX6_move 96 = .ok (.aload_n 0, 1) := by decide +kernel
theorem dX6_move_97 : decode cX6_move 97 = .ok (.getfield 37, 3) := by decide +kernel
theorem dX6_move_100 : decode cX6_move 100 = .ok (.iload_n 1, 1) := by decide +kernel
theorem dX6_move_101 : decode cX6_move 101 = .ok (.dup2, 1) := by decide +kernel
theorem dX6_move_102 : decode cX6_move 102 = .ok (.iaload, 1) := by decide +kernel
theorem dX6_move_103 : decode cX6_move 103 = .ok (.aload_n 0, 1) := by decide +kernel
theorem dX6_move_104 : decode cX6_move 104 = .ok (.getfield 37, 3) := by decide +kernel
theorem dX6_move_107 : decode cX6_move 107 = .ok (.iload_n 1, 1) := by decide +kernel
theorem dX6_move_108 : decode cX6_move 108 = .ok (.iaload, 1) := by decide +kernel
theorem dX6_move_109 : decode cX6_move 109 = .ok (.ifCond .le 7, 3) := by decide +kernel
theorem dX6_move_112 : decode cX6_move 112 = .ok (.iconst 1, 1) := by decide +kernel
theorem dX6_move_113 : decode cX6_move 113 = .ok (.goto 4, 3) := by decide +kernel
theorem dX6_move_116 : decode cX6_move 116 = .ok (.iconst 0, 1) := by decide +kernel
theorem dX6_move_117 : decode cX6_move 117 = .ok (.isub, 1) := by decide +kernel
theorem dX6_move_118 : decode cX6_move 118 = .ok (.iastore, 1) := by decide +kernel
theorem dX6_move_119 : decode cX6_move 119 = .ok (.goto 61, 3) := by decide +kernel
theorem dX6_move_122 : decode cX6_move 122 = .ok (.aload_n 0, 1) := by decide +kernel
theorem dX6_move_123 : decode cX6_move 123 = .ok (.getfield 40, 3) := by decide +kernel
theorem dX6_move_126 : decode cX6_move 126 = .ok (.iload_n 1, 1) := by decide +kernel
theorem dX6_move_127 : decode cX6_move 127 = .ok (.dup2, 1) := by decide +kernel
theorem dX6_move_128 : decode cX6_move 128 = .ok (.iaload, 1) := by decide +kernel
theorem dX6_move_129 : decode cX6_move 129 = .ok (.aload_n 0, 1) := by decide +kernel
theorem dX6_move_130 : decode cX6_move 130 = .ok (.iload_n 1, 1) := by decide +kernel
theorem dX6_move_131 : decode cX6_move 131 = .ok (.invokevirtual 116, 3) := by decide +kernel
theorem dX6_move_134 : decode cX6_move 134 = .ok (.ifCond .eq 7, 3) := by decide +kernel
theorem dX6_move_137 : decode cX6_move 137 = .ok (.iconst 1, 1) := by decide +kernel
theorem dX6_move_138 : decode cX6_move 138 = .ok (.goto 4, 3) := by decide +kernel
theorem dX6_move_141 : decode cX6_move 141 = .ok (.iconst 0, 1) := by decide +kernel
theorem dX6_move_142 : decode cX6_move 142 = .ok (.iadd, 1) := by decide +kernel
theorem dX6_move_143 : decode cX6_move 143 = .ok (.iastore, 1) := by decide +kernel
theorem dX6_move_144 : decode cX6_move 144 = .ok (.aload_n 0, 1) := by decide +kernel
theorem dX6_move_145 : decode cX6_move 145 = .ok (.getfield 43, 3) := by decide +kernel
theorem dX6_move_148 : decode cX6_move 148 = .ok (.iload_n 1, 1) := by decide +kernel
theorem dX6_move_149 : decode cX6_move 149 = .ok (.aload_n 0, 1) := by decide +kernel
theorem dX6_move_150 : decode cX6_move 150 = .ok (.getfield 40, 3) := by decide +kernel
theorem dX6_move_153 : decode cX6_move 153 = .ok (.iload_n 1, 1) := by decide +kernel
theorem dX6_move_154 : decode cX6_move 154 = .ok (.iaload, 1) := by decide +kernel
theorem dX6_move_155 : decode cX6_move 155 = .ok (.aload_n 0, 1) := by decide +kernel
theorem dX6_move_156 : decode cX6_move 156 = .ok (.getfield 43, 3) := by decide +kernel
theorem dX6_move_159 : decode cX6_move 159 = .ok (.iload_n 1, 1) := by decide +kernel
theorem dX6_move_160 : decode cX6_move 160 = .ok (.iaload, 1) := by decide +kernel
theorem dX6_move_161 : decode cX6_move 161 = .ok (.if_icmp .le 12, 3) := by decide +kernel
theorem dX6_move_164 : decode cX6_move 164 = .ok (.aload_n 0, 1) := by decide +kernel
theorem dX6_move_165 : decode cX6_move 165 = .ok (.getfield 40, 3) := by decide +kernel
theorem dX6_move_168 : decode cX6_move 168 = .ok (.iload_n 1, 1) := by decide +kernel
theorem dX6_move_169 : decode cX6_move 169 = .ok (.iaload, 1) := by decide +kernel
theorem dX6_move_170 : decode cX6_move 170 = .ok (.goto 9, 3) := by decide +kernel
theorem dX6_move_173 : decode cX6_move 173 = .ok (.aload_n 0, 1) := by decide +kernel
theorem dX6_move_174 : decode cX6_move 174 = .ok (.getfield 43, 3) := by decide +kernel
theorem dX6_move_177 : decode cX6_move 177 = .ok (.iload_n 1, 1) := by decide +kernel
theorem dX6_move_178 : decode cX6_move 178 = .ok (.iaload, 1) := by decide +kernel
theorem dX6_move_179 : decode cX6_move 179 = .ok (.iastore, 1) := by decide +kernel
theorem dX6_move_180 : decode cX6_move 180 = .ok (.return_, 1) := by decide +kernel
theorem dX6_goOne_0 : decode cX6_goOne 0 = .ok (.aload_n 0, 1) := by decide +kernel
theorem dX6_goOne_1 : decode cX6_goOne 1 = .ok (.getfield 103, 3) := by decide +kernel
theorem dX6_goOne_4 : decode cX6_goOne 4 = .ok (.iconst 2, 1) := by decide +kernel
theorem dX6_goOne_5 : decode cX6_goOne 5 = .ok (.if_icmp .ne 7, 3) := by decide +kernel
theorem dX6_goOne_8 : decode cX6_goOne 8 = .ok (.aload_n 0, 1) := by decide +kernel
theorem dX6_goOne_9 : decode cX6_goOne 9 = .ok (.invokevirtual 135, 3) := by decide +kernel
theorem dX6_goOne_12 : decode cX6_goOne 12 = .ok (.aload_n 0, 1) := by decide +kernel
theorem dX6_goOne_13 : decode cX6_goOne 13 = .ok (.getfield 103, 3) := by decide +kernel
theorem dX6_goOne_16 : decode cX6_goOne 16 = .ok (.iconst 1, 1) := by decide +kernel
theorem dX6_goOne_17 : decode cX6_goOne 17 = .ok (.if_icmp .ne 7, 3) := by decide +kernel
theorem dX6_goOne_20 : decode cX6_goOne 20 = .ok (.aload_n 0, 1) := by decide +kernel
theorem dX6_goOne_21 : decode cX6_goOne 21 = .ok (.invokevirtual 138, 3) := by decide +kernel
theorem dX6_goOne_24 : decode cX6_goOne 24 = .ok (.iconst 0, 1) := by decide +kernel
theorem dX6_goOne_25 : decode cX6_goOne 25 = .ok (.istore_n 1, 1) := by decide +kernel
theorem dX6_goOne_26 : decode cX6_goOne 26 = .ok (.iload_n 1, 1) := by decide +kernel
theorem dX6_goOne_27 : decode cX6_goOne 27 = .ok (.aload_n 0, 1) := by decide +kernel
theorem dX6_goOne_28 : decode cX6_goOne 28 = .ok (.getfield 69, 3) := by decide +kernel
theorem dX6_goOne_31 : decode cX6_goOne 31 = .ok (.if_icmp .ge 50, 3) := by decide +kernel
theorem dX6_goOne_34 : decode cX6_goOne 34 = .ok (.aload_n 0, 1) := by decide +kernel
theorem dX6_goOne_35 : decode cX6_goOne 35 = .ok (.getfield 25, 3) := by decide +kernel
theorem dX6_goOne_38 : decode cX6_goOne 38 = .ok (.iload_n 1, 1) := by decide +kernel
theorem dX6_goOne_39 : decode cX6_goOne 39 = .ok (.aload_n 0, 1) := by decide +kernel
theorem dX6_goOne_40 : decode cX6_goOne 40 = .ok (.getfield 25, 3) := by decide +kernel
theorem dX6_goOne_43 : decode cX6_goOne 43 = .ok (.iload_n 1, 1) := by decide +kernel
theorem dX6_goOne_44 : decode cX6_goOne 44 = .ok (.iaload, 1) := by decide +kernel
theorem dX6_goOne_45 : decode cX6_goOne 45 = .ok (.iconst 2, 1) := by decide +kernel
theorem dX6_goOne_46 : decode cX6_goOne 46 = .ok (.if_icmp .ne 22, 3) := by decide +kernel
theorem dX6_goOne_49 : decode cX6_goOne 49 = .ok (.aload_n 0, 1) := by decide +kernel
theorem dX6_goOne_50 : decode cX6_goOne 50 = .ok (.getfield 109, 3) := by decide +kernel
theorem dX6_goOne_53 : decode cX6_goOne 53 = .ok (.aload_n 0, 1) := by decide +kernel
theorem dX6_goOne_54 : decode cX6_goOne 54 = .ok (.getfield 28, 3) := by decide +kernel
theorem dX6_goOne_57 : decode cX6_goOne 57 = .ok (.iload_n 1, 1) := by decide +kernel
theorem dX6_goOne_58 : decode cX6_goOne 58 = .ok (.iaload, 1) := by decide +kernel
theorem dX6_goOne_59 : decode cX6_goOne 59 = .ok (.isub, 1) := by decide +kernel
theorem dX6_goOne_60 : decode cX6_goOne 60 = .ok (.iconst 3, 1) := by decide +kernel
theorem dX6_goOne_61 : decode cX6_goOne 61 = .ok (.if_icmp .lt 7, 3) := by decide +kernel
theorem dX6_goOne_64 : decode cX6_goOne 64 = .ok (.iconst 0, 1) := by decide +kernel
theorem dX6_goOne_65 : decode cX6_goOne 65 = .ok (.goto 9, 3) := by decide +kernel
theorem dX6_goOne_68 : decode cX6_goOne 68 = .ok (.aload_n 0, 1) := by decide +kernel
theorem dX6_goOne_69 : decode cX6_goOne 69 = .ok (.getfield 25, 3) := by decide +kernel
theorem dX6_goOne_72 : decode cX6_goOne 72 = .ok (.iload_n 1, 1) := by decide +kernel
theorem dX6_goOne_73 : decode cX6_goOne 73 = .ok (.iaload, 1) := by decide +kernel
theorem dX6_goOne_74 : decode cX6_goOne 74 = .ok (.iastore, 1) := by decide +kernel
theorem dX6_goOne_75 : decode cX6_goOne 75 = .ok (.iinc 1 1, 3) := by decide +kernel
theorem dX6_goOne_78 : decode cX6_goOne 78 = .ok (.goto (-52), 3) := by decide +kernel
theorem dX6_goOne_81 : decode cX6_goOne 81 = .ok (.aload_n 0, 1) := by decide +kernel
theorem dX6_goOne_82 : decode cX6_goOne 82 = .ok (.getfield 103, 3) := by decide +kernel
theorem dX6_goOne_85 : decode cX6_goOne 85 = .ok (.iconst 2, 1) := by decide +kernel
theorem dX6_goOne_86 : decode cX6_goOne 86 = .ok (.if_icmp .eq 11, 3) := by decide +kernel
theorem dX6_goOne_89 : decode cX6_goOne 89 = .ok (.aload_n 0, 1) := by decide +kernel
theorem dX6_goOne_90 : decode cX6_goOne 90 = .ok (.getfield 103, 3) := by decide +kernel
theorem dX6_goOne_93 : decode cX6_goOne 93 = .ok (.iconst 1, 1) := by decide +kernel
theorem dX6_goOne_94 : decode cX6_goOne 94 = .ok (.if_icmp .ne 15, 3) := by decide +kernel
theorem dX6_goOne_97 : decode cX6_goOne 97 = .ok (.aload_n 0, 1) := by decide +kernel
theorem dX6_goOne_98 : decode cX6_goOne 98 = .ok (.invokevirtual 141, 3) := by decide +kernel
theorem dX6_goOne_101 : decode cX6_goOne 101 = .ok (.ifCond .eq 8, 3) := by decide +kernel
theorem dX6_goOne_104 : decode cX6_goOne 104 = .ok (.aload_n 0, 1) := by decide +kernel
theorem dX6_goOne_105 : decode cX6_goOne 105 = .ok (.iconst 3, 1) := by decide +kernel
theorem dX6_goOne_106 : decode cX6_goOne 106 = .ok (.invokevirtual 112, 3) := by decide +kernel
theorem dX6_goOne_109 : decode cX6_goOne 109 = .ok (.aload_n 0, 1) := by decide +kernel
theorem dX6_goOne_110 : decode cX6_goOne 110 = .ok (.invokevirtual 145, 3) := by decide +kernel
theorem dX6_goOne_113 : decode cX6_goOne 113 = .ok (.iconst 0, 1) := by decide +kernel
theorem dX6_goOne_114 : decode cX6_goOne 114 = .ok (.istore_n 1, 1) := by decide +kernel
theorem dX6_goOne_115 : decode cX6_goOne 115 = .ok (.iload_n 1, 1) := by decide +kernel
theorem dX6_goOne_116 : decode cX6_goOne 116 = .ok (.aload_n 0, 1) := by decide +kernel
theorem dX6_goOne_117 : decode cX6_goOne 117 = .ok (.getfield 69, 3) := by decide +kernel
theorem dX6_goOne_120 : decode cX6_goOne 120 = .ok (.if_icmp .ge 30, 3) := by decide +kernel
theorem dX6_goOne_123 : decode cX6_goOne 123 = .ok (.aload_n 0, 1) := by decide +kernel
theorem dX6_goOne_124 : decode cX6_goOne 124 = .ok (.iload_n 1, 1) := by decide +kernel
theorem dX6_goOne_125 : decode cX6_goOne 125 = .ok (.invokevirtual 148, 3) := by decide +kernel
theorem dX6_goOne_128 : decode cX6_goOne 128 = .ok (.aload_n 0, 1) := by decide +kernel
theorem dX6_goOne_129 : decode cX6_goOne 129 = .ok (.dup, 1) := by decide +kernel
theorem dX6_goOne_130 : decode cX6_goOne 130 = .ok (.getfield 151, 3) := by decide +kernel
theorem dX6_goOne_133 : decode cX6_goOne 133 = .ok (.aload_n 0, 1) := by decide +kernel
theorem dX6_goOne_134 : decode cX6_goOne 134 = .ok (.getfield 37, 3) := by decide +kernel
theorem dX6_goOne_137 : decode cX6_goOne 137 = .ok (.iload_n 1, 1) := by decide +kernel
theorem dX6_goOne_138 : decode cX6_goOne 138 = .ok (.iaload, 1) := by decide +kernel
theorem dX6_goOne_139 : decode cX6_goOne 139 = .ok (.i2l, 1) := by decide +kernel
theorem dX6_goOne_140 : decode cX6_goOne 140 = .ok (.ladd, 1) := by decide +kernel
theorem dX6_goOne_141 : decode cX6_goOne 141 = .ok (.putfield 151, 3) := by decide +kernel
theorem dX6_goOne_144 : decode cX6_goOne 144 = .ok (.iinc 1 1, 3) := by decide +kernel
theorem dX6_goOne_147 : decode cX6_goOne 147 = .ok (.goto (-32), 3) := by decide +kernel
theorem dX6_goOne_150 : decode cX6_goOne 150 = .ok (.aload_n 0, 1) := by decide +kernel
theorem dX6_goOne_151 : decode cX6_goOne 151 = .ok (.dup, 1) := by decide +kernel
theorem dX6_goOne_152 : decode cX6_goOne 152 = .ok (.getfield 109, 3) := by decide +kernel
theorem dX6_goOne_155 : decode cX6_goOne 155 = .ok (.iconst 1, 1) := by decide +kernel
theorem dX6_goOne_156 : decode cX6_goOne 156 = .ok (.iadd, 1) := by decide +kernel
theorem dX6_goOne_157 : decode cX6_goOne 157 = .ok (.putfield 109, 3) := by decide +kernel
theorem dX6_goOne_160 : decode cX6_goOne 160 = .ok (.return_, 1) := by decide +kernel
theorem dX6_go_0 : decode cX6_go 0 = .ok (.iload_n 1, 1) := by decide +kernel
theorem dX6_go_1 : decode cX6_go 1 = .ok (.iconst 1, 1) := by decide +kernel
theorem dX6_go_2 : decode cX6_go 2 = .ok (.sipush 1000, 3) := by decide +kernel
theorem dX6_go_5 : decode cX6_go 5 = .ok (.invokestatic 72, 3) := by decide +kernel
theorem dX6_go_8 : decode cX6_go 8 = .ok (.istore_n 2, 1) := by decide +kernel
theorem dX6_go_9 : decode cX6_go 9 = .ok (.aload_n 0, 1) := by decide +kernel
theorem dX6_go_10 : decode cX6_go 10 = .ok (.iload_n 2, 1) := by decide +kernel
theorem dX6_go_11 : decode cX6_go 11 = .ok (.ifCond .ne 7, 3) := by decide +kernel
theorem dX6_go_14 : decode cX6_go 14 = .ok (.iconst 1, 1) := by decide +kernel
theorem dX6_go_15 : decode cX6_go 15 = .ok (.goto 20, 3) := by decide +kernel
theorem dX6_go_18 : decode cX6_go 18 = .ok (.aload_n 0, 1) := by decide +kernel
theorem dX6_go_19 : decode cX6_go 19 = .ok (.getfield 109, 3) := by decide +kernel
theorem dX6_go_22 : decode cX6_go 22 = .ok (.iload_n 1, 1) := by decide +kernel
theorem dX6_go_23 : decode cX6_go 23 = .ok (.iadd, 1) := by decide +kernel
theorem dX6_go_24 : decode cX6_go 24 = .ok (.sipush 5000, 3) := by decide +kernel
theorem dX6_go_27 : decode cX6_go 27 = .ok (.if_icmp .le 7, 3) := by decide +kernel
theorem dX6_go_30 : decode cX6_go 30 = .ok (.iconst 2, 1) := by decide +kernel
theorem dX6_go_31 : decode cX6_go 31 = .ok (.goto 4, 3) := by decide +kernel
theorem dX6_go_34 : decode cX6_go 34 = .ok (.iconst 0, 1) := by decide +kernel
theorem dX6_go_35 : decode cX6_go 35 = .ok (.invokevirtual 83, 3) := by decide +kernel
theorem dX6_go_38 : decode cX6_go 38 = .ok (.ifCond .ne 5, 3) := by decide +kernel
theorem dX6_go_41 : decode cX6_go 41 = .ok (.iconst 0, 1) := by decide +kernel
theorem dX6_go_42 : decode cX6_go 42 = .ok (.ireturn, 1) := by decide +kernel
theorem dX6_go_43 : decode cX6_go 43 = .ok (.aload_n 0, 1) := by decide +kernel
theorem dX6_go_44 : decode cX6_go 44 = .ok (.getfield 132, 3) := by decide +kernel
theorem dX6_go_47 : decode cX6_go 47 = .ok (.istore_n 3, 1) := by decide +kernel
theorem dX6_go_48 : decode cX6_go 48 = .ok (.iconst 0, 1) := by decide +kernel
theorem dX6_go_49 : decode cX6_go 49 = .ok (.istore 4, 2) := by decide +kernel
theorem dX6_go_51 : decode cX6_go 51 = .ok (.iload 4, 2) := by decide +kernel
theorem dX6_go_53 : decode cX6_go 53 = .ok (.iload_n 1, 1) := by decide +kernel
theorem dX6_go_54 : decode cX6_go 54 = .ok (.if_icmp .ge 13, 3) := by decide +kernel
theorem dX6_go_57 : decode cX6_go 57 = .ok (.aload_n 0, 1) := by decide +kernel
theorem dX6_go_58 : decode cX6_go 58 = .ok (.invokevirtual 155, 3) := by decide +kernel
theorem dX6_go_61 : decode cX6_go 61 = .ok (.iinc 4 1, 3) := by decide +kernel
theorem dX6_go_64 : decode cX6_go 64 = .ok (.goto (-13), 3) := by decide +kernel
theorem dX6_go_67 : decode cX6_go 67 = .ok (.aload_n 0, 1) := by decide +kernel
theorem dX6_go_68 : decode cX6_go 68 = .ok (.getfield 132, 3) := by decide +kernel
theorem dX6_go_71 : decode cX6_go 71 = .ok (.iload_n 3, 1) := by decide +kernel
theorem dX6_go_72 : decode cX6_go 72 = .ok (.isub, 1) := by decide +kernel
theorem dX6_go_73 : decode cX6_go 73 = .ok (.ireturn, 1) := by decide +kernel
theorem dX6_shown_0 : decode cX6_shown 0 = .ok (.aload_n 0, 1) := by decide +kernel
theorem dX6_shown_1 : decode cX6_shown 1 = .ok (.getfield 57, 3) := by decide +kernel
theorem dX6_shown_4 : decode cX6_shown 4 = .ok (.iload_n 2, 1) := by decide +kernel
theorem dX6_shown_5 : decode cX6_shown 5 = .ok (.iaload, 1) := by decide +kernel
theorem dX6_shown_6 : decode cX6_shown 6 = .ok (.iconst 2, 1) := by decide +kernel
theorem dX6_shown_7 : decode cX6_shown 7 = .ok (.iload_n 1, 1) := by decide +kernel
theorem dX6_shown_8 : decode cX6_shown 8 = .ok (.imul, 1) := by decide +kernel
theorem dX6_shown_9 : decode cX6_shown 9 = .ok (.ishr, 1) := by decide +kernel
theorem dX6_shown_10 : decode cX6_shown 10 = .ok (.iconst 3, 1) := by decide +kernel
theorem dX6_shown_11 : decode cX6_shown 11 = .ok (.iand, 1) := by decide +kernel
theorem dX6_shown_12 : decode cX6_shown 12 = .ok (.ireturn, 1) := by decide +kernel
theorem dX6_lamp_0 : decode cX6_lamp 0 = .ok (.aload_n 0, 1) := by decide +kernel
theorem dX6_lamp_1 : decode cX6_lamp 1 = .ok (.aload_n 0, 1) := by decide +kernel
theorem dX6_lamp_2 : decode cX6_lamp 2 = .ok (.iload_n 1, 1) := by decide +kernel
theorem dX6_lamp_3 : decode cX6_lamp 3 = .ok (.invokevirtual 91, 3) := by decide +kernel
theorem dX6_lamp_6 : decode cX6_lamp 6 = .ok (.ifCond .eq 21, 3) := by decide +kernel
theorem dX6_lamp_9 : decode cX6_lamp 9 = .ok (.iload_n 2, 1) := by decide +kernel
theorem dX6_lamp_10 : decode cX6_lamp 10 = .ok (.iconst 0, 1) := by decide +kernel
theorem dX6_lamp_11 : decode cX6_lamp 11 = .ok (.aload_n 0, 1) := by decide +kernel
theorem dX6_lamp_12 : decode cX6_lamp 12 = .ok (.getfield 109, 3) := by decide +kernel
theorem dX6_lamp_15 : decode cX6_lamp 15 = .ok (.iconst 1, 1) := by decide +kernel
theorem dX6_lamp_16 : decode cX6_lamp 16 = .ok (.isub, 1) := by decide +kernel
theorem dX6_lamp_17 : decode cX6_lamp 17 = .ok (.invokestatic 72, 3) := by decide +kernel
theorem dX6_lamp_20 : decode cX6_lamp 20 = .ok (.ifCond .eq 7, 3) := by decide +kernel
theorem dX6_lamp_23 : decode cX6_lamp 23 = .ok (.iconst 0, 1) := by decide +kernel
theorem dX6_lamp_24 : decode cX6_lamp 24 = .ok (.goto 4, 3) := by decide +kernel
theorem dX6_lamp_27 : decode cX6_lamp 27 = .ok (.iconst 1, 1) := by decide +kernel
theorem dX6_lamp_28 : decode cX6_lamp 28 = .ok (.invokevirtual 83, 3) := by decide +kernel
theorem dX6_lamp_31 : decode cX6_lamp 31 = .ok (.ifCond .eq 12, 3) := by decide +kernel
theorem dX6_lamp_34 : decode cX6_lamp 34 = .ok (.aload_n 0, 1) := by decide +kernel
theorem dX6_lamp_35 : decode cX6_lamp 35 = .ok (.iload_n 1, 1) := by decide +kernel
theorem dX6_lamp_36 : decode cX6_lamp 36 = .ok (.iload_n 2, 1) := by decide +kernel
theorem dX6_lamp_37 : decode cX6_lamp 37 = .ok (.invokevirtual 158, 3) := by decide +kernel
theorem dX6_lamp_40 : decode cX6_lamp 40 = .ok (.goto 4, 3) := by decide +kernel
theorem dX6_lamp_43 : decode cX6_lamp 43 = .ok (.iconst 0, 1) := by decide +kernel
theorem dX6_lamp_44 : decode cX6_lamp 44 = .ok (.ireturn, 1) := by decide +kernel
theorem dX6_ofPhase_0 : decode cX6_ofPhase 0 = .ok (.aload_n 0, 1) := by decide +kernel
theorem dX6_ofPhase_1 : decode cX6_ofPhase 1 = .ok (.iload_n 1, 1) := by decide +kernel
theorem dX6_ofPhase_2 : decode cX6_ofPhase 2 = .ok (.invokevirtual 91, 3) := by decide +kernel
theorem dX6_ofPhase_5 : decode cX6_ofPhase 5 = .ok (.istore_n 3, 1) := by decide +kernel
theorem dX6_ofPhase_6 : decode cX6_ofPhase 6 = .ok (.aload_n 0, 1) := by decide +kernel
theorem dX6_ofPhase_7 : decode cX6_ofPhase 7 = .ok (.iload_n 3, 1) := by decide +kernel
theorem dX6_ofPhase_8 : decode cX6_ofPhase 8 = .ok (.ifCond .ne 7, 3) := by decide +kernel
theorem dX6_ofPhase_11 : decode cX6_ofPhase 11 = .ok (.iconst 1, 1) := by decide +kernel
theorem dX6_ofPhase_12 : decode cX6_ofPhase 12 = .ok (.goto 18, 3) := by decide +kernel
theorem dX6_ofPhase_15 : decode cX6_ofPhase 15 = .ok (.iload_n 2, 1) := by decide +kernel
theorem dX6_ofPhase_16 : decode cX6_ofPhase 16 = .ok (.iconst 0, 1) := by decide +kernel
theorem dX6_ofPhase_17 : decode cX6_ofPhase 17 = .ok (.bipush 6, 2) := by decide +kernel
theorem dX6_ofPhase_19 : decode cX6_ofPhase 19 = .ok (.invokestatic 72, 3) := by decide +kernel
theorem dX6_ofPhase_22 : decode cX6_ofPhase 22 = .ok (.ifCond .eq 7, 3) := by decide +kernel
theorem dX6_ofPhase_25 : decode cX6_ofPhase 25 = .ok (.iconst 0, 1) := by decide +kernel
theorem dX6_ofPhase_26 : decode cX6_ofPhase 26 = .ok (.goto 4, 3) := by decide +kernel
theorem dX6_ofPhase_29 : decode cX6_ofPhase 29 = .ok (.iconst 2, 1) := by decide +kernel
theorem dX6_ofPhase_30 : decode cX6_ofPhase 30 = .ok (.invokevirtual 83, 3) := by decide +kernel
theorem dX6_ofPhase_33 : decode cX6_ofPhase 33 = .ok (.ifCond .ne 5, 3) := by decide +kernel
theorem dX6_ofPhase_36 : decode cX6_ofPhase 36 = .ok (.iconst 0, 1) := by decide +kernel
theorem dX6_ofPhase_37 : decode cX6_ofPhase 37 = .ok (.ireturn, 1) := by decide +kernel
theorem dX6_ofPhase_38 : decode cX6_ofPhase 38 = .ok (.aload_n 0, 1) := by decide +kernel
theorem dX6_ofPhase_39 : decode cX6_ofPhase 39 = .ok (.getfield 25, 3) := by decide +kernel
theorem dX6_ofPhase_42 : decode cX6_ofPhase 42 = .ok (.iload_n 1, 1) := by decide +kernel
theorem dX6_ofPhase_43 : decode cX6_ofPhase 43 = .ok (.iaload, 1) := by decide +kernel
theorem dX6_ofPhase_44 : decode cX6_ofPhase 44 = .ok (.iconst 1, 1) := by decide +kernel
theorem dX6_ofPhase_45 : decode cX6_ofPhase 45 = .ok (.if_icmp .ne 7, 3) := by decide +kernel
theorem dX6_ofPhase_48 : decode cX6_ofPhase 48 = .ok (.iconst 1, 1) := by decide +kernel
theorem dX6_ofPhase_49 : decode cX6_ofPhase 49 = .ok (.goto 4, 3) := by decide +kernel
theorem dX6_ofPhase_52 : decode cX6_ofPhase 52 = .ok (.iconst 0, 1) := by decide +kernel
theorem dX6_ofPhase_53 : decode cX6_ofPhase 53 = .ok (.istore 4, 2) := by decide +kernel
theorem dX6_ofPhase_55 : decode cX6_ofPhase 55 = .ok (.iload_n 2, 1) := by decide +kernel
theorem dX6_ofPhase_56 : decode cX6_ofPhase 56 = .ok (.tableswitch 100 0 5 #[40, 47, 63, 79, 86, 93], 40) := by decide +kernel
theorem dX6_ofPhase_96 : decode cX6_ofPhase 96 = .ok (.aload_n 0, 1) := by decide +kernel
theorem dX6_ofPhase_97 : decode cX6_ofPhase 97 = .ok (.getfield 25, 3) := by decide +kernel
theorem dX6_ofPhase_100 : decode cX6_ofPhase 100 = .ok (.iload_n 1, 1) := by decide +kernel
theorem dX6_ofPhase_101 : decode cX6_ofPhase 101 = .ok (.iaload, 1) := by decide +kernel
theorem dX6_ofPhase_102 : decode cX6_ofPhase 102 = .ok (.ireturn, 1) := by decide +kernel
theorem dX6_ofPhase_103 : decode cX6_ofPhase 103 = .ok (.iload 4, 2) := by decide +kernel
theorem dX6_ofPhase_105 : decode cX6_ofPhase 105 = .ok (.ifCond .eq 12, 3) := by decide +kernel
theorem dX6_ofPhase_108 : decode cX6_ofPhase 108 = .ok (.aload_n 0, 1) := by decide +kernel
theorem dX6_ofPhase_109 : decode cX6_ofPhase 109 = .ok (.getfield 31, 3) := by decide +kernel
theorem dX6_ofPhase_112 : decode cX6_ofPhase 112 = .ok (.iload_n 1, 1) := by decide +kernel
theorem dX6_ofPhase_113 : decode cX6_ofPhase 113 = .ok (.iaload, 1) := by decide +kernel
theorem dX6_ofPhase_114 : decode cX6_ofPhase 114 = .ok (.goto 4, 3) := by decide +kernel
theorem dX6_ofPhase_117 : decode cX6_ofPhase 117 = .ok (.iconst 0, 1) := by decide +kernel
theorem dX6_ofPhase_118 : decode cX6_ofPhase 118 = .ok (.ireturn, 1) := by decide +kernel
theorem dX6_ofPhase_119 : decode cX6_ofPhase 119 = .ok (.iload 4, 2) := by decide +kernel
theorem dX6_ofPhase_121 : decode cX6_ofPhase 121 = .ok (.ifCond .eq 12, 3) := by decide +kernel
theorem dX6_ofPhase_124 : decode cX6_ofPhase 124 = .ok (.aload_n 0, 1) := by decide +kernel
theorem dX6_ofPhase_125 : decode cX6_ofPhase 125 = .ok (.getfield 34, 3) := by decide +kernel
theorem dX6_ofPhase_128 : decode cX6_ofPhase 128 = .ok (.iload_n 1, 1) := by decide +kernel
theorem dX6_ofPhase_129 : decode cX6_ofPhase 129 = .ok (.iaload, 1) := by decide +kernel
theorem dX6_ofPhase_130 : decode cX6_ofPhase 130 = .ok (.goto 4, 3) := by decide +kernel
theorem dX6_ofPhase_133 : decode cX6_ofPhase 133 = .ok (.iconst 0, 1) := by decide +kernel
theorem dX6_ofPhase_134 : decode cX6_ofPhase 134 = .ok (.ireturn, 1) := by decide +kernel
theorem dX6_ofPhase_135 : decode cX6_ofPhase 135 = .ok (.aload_n 0, 1) := by decide +kernel
theorem dX6_ofPhase_136 : decode cX6_ofPhase 136 = .ok (.getfield 37, 3) := by decide +kernel
theorem dX6_ofPhase_139 : decode cX6_ofPhase 139 = .ok (.iload_n 1, 1) := by decide +kernel
theorem dX6_ofPhase_140 : decode cX6_ofPhase 140 = .ok (.iaload, 1) := by decide +kernel
theorem dX6_ofPhase_141 : decode cX6_ofPhase 141 = .ok (.ireturn, 1) := by decide +kernel
theorem dX6_ofPhase_142 : decode cX6_ofPhase 142 = .ok (.aload_n 0, 1) := by decide +kernel
theorem dX6_ofPhase_143 : decode cX6_ofPhase 143 = .ok (.getfield 40, 3) := by decide +kernel
theorem dX6_ofPhase_146 : decode cX6_ofPhase 146 = .ok (.iload_n 1, 1) := by decide +kernel
theorem dX6_ofPhase_147 : decode cX6_ofPhase 147 = .ok (.iaload, 1) := by decide +kernel
theorem dX6_ofPhase_148 : decode cX6_ofPhase 148 = .ok (.ireturn, 1) := by decide +kernel
theorem dX6_ofPhase_149 : decode cX6_ofPhase 149 = .ok (.aload_n 0, 1) := by decide +kernel
theorem dX6_ofPhase_150 : decode cX6_ofPhase 150 = .ok (.getfield 43, 3) := by decide +kernel
theorem dX6_ofPhase_153 : decode cX6_ofPhase 153 = .ok (.iload_n 1, 1) := by decide +kernel
theorem dX6_ofPhase_154 : decode cX6_ofPhase 154 = .ok (.iaload, 1) := by decide +kernel
theorem dX6_ofPhase_155 : decode cX6_ofPhase 155 = .ok (.ireturn, 1) := by decide +kernel
theorem dX6_ofPhase_156 : decode cX6_ofPhase 156 = .ok (.aload_n 0, 1) := by decide +kernel
theorem dX6_ofPhase_157 : decode cX6_ofPhase 157 = .ok (.iload_n 1, 1) := by decide +kernel
theorem dX6_ofPhase_158 : decode cX6_ofPhase 158 = .ok (.invokevirtual 116, 3) := by decide +kernel
theorem dX6_ofPhase_161 : decode cX6_ofPhase 161 = .ok (.ifCond .eq 7, 3) := by decide +kernel
theorem dX6_ofPhase_164 : decode cX6_ofPhase 164 = .ok (.iconst 1, 1) := by decide +kernel
theorem dX6_ofPhase_165 : decode cX6_ofPhase 165 = .ok (.goto 4, 3) := by decide +kernel
theorem dX6_ofPhase_168 : decode cX6_ofPhase 168 = .ok (.iconst 0, 1) := by decide +kernel
theorem dX6_ofPhase_169 : decode cX6_ofPhase 169 = .ok (.ireturn, 1) := by decide +kernel
theorem dX6_of_0 : decode cX6_of 0 = .ok (.aload_n 0, 1) := by decide +kernel
theorem dX6_of_1 : decode cX6_of 1 = .ok (.iload_n 1, 1) := by decide +kernel
theorem dX6_of_2 : decode cX6_of 2 = .ok (.iconst 0, 1) := by decide +kernel
theorem dX6_of_3 : decode cX6_of 3 = .ok (.iconst 4, 1) := by decide +kernel
theorem dX6_of_4 : decode cX6_of 4 = .ok (.invokestatic 72, 3) := by decide +kernel
theorem dX6_of_7 : decode cX6_of 7 = .ok (.ifCond .eq 7, 3) := by decide +kernel
theorem dX6_of_10 : decode cX6_of 10 = .ok (.iconst 0, 1) := by decide +kernel
theorem dX6_of_11 : decode cX6_of 11 = .ok (.goto 4, 3) := by decide +kernel
theorem dX6_of_14 : decode cX6_of 14 = .ok (.iconst 1, 1) := by decide +kernel
theorem dX6_of_15 : decode cX6_of 15 = .ok (.invokevirtual 83, 3) := by decide +kernel
theorem dX6_of_18 : decode cX6_of 18 = .ok (.ifCond .ne 5, 3) := by decide +kernel
theorem dX6_of_21 : decode cX6_of 21 = .ok (.iconst 0, 1) := by decide +kernel
theorem dX6_of_22 : decode cX6_of 22 = .ok (.ireturn, 1) := by decide +kernel
theorem dX6_of_23 : decode cX6_of 23 = .ok (.iload_n 1, 1) := by decide +kernel
theorem dX6_of_24 : decode cX6_of 24 = .ok (.ifCond .ne 10, 3) := by decide +kernel
theorem dX6_of_27 : decode cX6_of 27 = .ok (.aload_n 0, 1) := by decide +kernel
theorem dX6_of_28 : decode cX6_of 28 = .ok (.getfield 103, 3) := by decide +kernel
theorem dX6_of_31 : decode cX6_of 31 = .ok (.goto 63, 3) := by decide +kernel
theorem dX6_of_34 : decode cX6_of 34 = .ok (.iload_n 1, 1) := by decide +kernel
theorem dX6_of_35 : decode cX6_of 35 = .ok (.iconst 1, 1) := by decide +kernel
theorem dX6_of_36 : decode cX6_of 36 = .ok (.if_icmp .ne 30, 3) := by decide +kernel
theorem dX6_of_39 : decode cX6_of 39 = .ok (.aload_n 0, 1) := by decide +kernel
theorem dX6_of_40 : decode cX6_of 40 = .ok (.getfield 103, 3) := by decide +kernel
theorem dX6_of_43 : decode cX6_of 43 = .ok (.iconst 2, 1) := by decide +kernel
theorem dX6_of_44 : decode cX6_of 44 = .ok (.if_icmp .eq 11, 3) := by decide +kernel
theorem dX6_of_47 : decode cX6_of 47 = .ok (.aload_n 0, 1) := by decide +kernel
theorem dX6_of_48 : decode cX6_of 48 = .ok (.getfield 103, 3) := by decide +kernel
theorem dX6_of_51 : decode cX6_of 51 = .ok (.iconst 1, 1) := by decide +kernel
theorem dX6_of_52 : decode cX6_of 52 = .ok (.if_icmp .ne 10, 3) := by decide +kernel
theorem dX6_of_55 : decode cX6_of 55 = .ok (.aload_n 0, 1) := by decide +kernel
theorem dX6_of_56 : decode cX6_of 56 = .ok (.getfield 106, 3) := by decide +kernel
theorem dX6_of_59 : decode cX6_of 59 = .ok (.goto 35, 3) := by decide +kernel
theorem dX6_of_62 : decode cX6_of 62 = .ok (.iconst (-1), 1) := by decide +kernel
theorem dX6_of_63 : decode cX6_of 63 = .ok (.goto 31, 3) := by decide +kernel
theorem dX6_of_66 : decode cX6_of 66 = .ok (.iload_n 1, 1) := by decide +kernel
theorem dX6_of_67 : decode cX6_of 67 = .ok (.iconst 2, 1) := by decide +kernel
theorem dX6_of_68 : decode cX6_of 68 = .ok (.if_icmp .ne 10, 3) := by decide +kernel
theorem dX6_of_71 : decode cX6_of 71 = .ok (.aload_n 0, 1) := by decide +kernel
theorem dX6_of_72 : decode cX6_of 72 = .ok (.getfield 109, 3) := by decide +kernel
theorem dX6_of_75 : decode cX6_of 75 = .ok (.goto 19, 3) := by decide +kernel
theorem dX6_of_78 : decode cX6_of 78 = .ok (.iload_n 1, 1) := by decide +kernel
theorem dX6_of_79 : decode cX6_of 79 = .ok (.iconst 3, 1) := by decide +kernel
theorem dX6_of_80 : decode cX6_of 80 = .ok (.if_icmp .ne 10, 3) := by decide +kernel
theorem dX6_of_83 : decode cX6_of 83 = .ok (.aload_n 0, 1) := by decide +kernel
theorem dX6_of_84 : decode cX6_of 84 = .ok (.getfield 53, 3) := by decide +kernel
theorem dX6_of_87 : decode cX6_of 87 = .ok (.goto 7, 3) := by decide +kernel
theorem dX6_of_90 : decode cX6_of 90 = .ok (.aload_n 0, 1) := by decide +kernel
theorem dX6_of_91 : decode cX6_of 91 = .ok (.getfield 132, 3) := by decide +kernel
theorem dX6_of_94 : decode cX6_of 94 = .ok (.ireturn, 1) := by decide +kernel
theorem dX6_delay_0 : decode cX6_delay 0 = .ok (.aload_n 0, 1) := by decide +kernel
theorem dX6_delay_1 : decode cX6_delay 1 = .ok (.iconst 0, 1) := by decide +kernel
theorem dX6_delay_2 : decode cX6_delay 2 = .ok (.putfield 66, 3) := by decide +kernel
theorem dX6_delay_5 : decode cX6_delay 5 = .ok (.aload_n 0, 1) := by decide +kernel
theorem dX6_delay_6 : decode cX6_delay 6 = .ok (.getfield 151, 3) := by decide +kernel
theorem dX6_delay_9 : decode cX6_delay 9 = .ok (.lreturn, 1) := by decide +kernel
theorem dX6_delayEach_0 : decode cX6_delayEach 0 = .ok (.aload_n 0, 1) := by decide +kernel
theorem dX6_delayEach_1 : decode cX6_delayEach 1 = .ok (.iconst 0, 1) := by decide +kernel
theorem dX6_delayEach_2 : decode cX6_delayEach 2 = .ok (.putfield 66, 3) := by decide +kernel
theorem dX6_delayEach_5 : decode cX6_delayEach 5 = .ok (.aload_n 0, 1) := by decide +kernel
theorem dX6_delayEach_6 : decode cX6_delayEach 6 = .ok (.getfield 132, 3) := by decide +kernel
theorem dX6_delayEach_9 : decode cX6_delayEach 9 = .ok (.ifCond .ne 7, 3) := by decide +kernel
theorem dX6_delayEach_12 : decode cX6_delayEach 12 = .ok (.fconst 0, 1) := by decide +kernel
theorem dX6_delayEach_13 : decode cX6_delayEach 13 = .ok (.goto 14, 3) := by decide +kernel
theorem dX6_delayEach_16 : decode cX6_delayEach 16 = .ok (.aload_n 0, 1) := by decide +kernel
theorem dX6_delayEach_17 : decode cX6_delayEach 17 = .ok (.getfield 151, 3) := by decide +kernel
theorem dX6_delayEach_20 : decode cX6_delayEach 20 = .ok (.l2f, 1) := by decide +kernel
theorem dX6_delayEach_21 : decode cX6_delayEach 21 = .ok (.aload_n 0, 1) := by decide +kernel
theorem dX6_delayEach_22 : decode cX6_delayEach 22 = .ok (.getfield 132, 3) := by decide +kernel
theorem dX6_delayEach_25 : decode cX6_delayEach 25 = .ok (.i2f, 1) := by decide +kernel
theorem dX6_delayEach_26 : decode cX6_delayEach 26 = .ok (.fdiv, 1) := by decide +kernel
theorem dX6_delayEach_27 : decode cX6_delayEach 27 = .ok (.freturn, 1) := by decide +kernel
theorem dX6_seen_0 : decode cX6_seen 0 = .ok (.aload_n 0, 1) := by decide +kernel
theorem dX6_seen_1 : decode cX6_seen 1 = .ok (.iload_n 1, 1) := by decide +kernel
theorem dX6_seen_2 : decode cX6_seen 2 = .ok (.invokevirtual 91, 3) := by decide +kernel
theorem dX6_seen_5 : decode cX6_seen 5 = .ok (.ifCond .eq 15, 3) := by decide +kernel
theorem dX6_seen_8 : decode cX6_seen 8 = .ok (.aload_n 0, 1) := by decide +kernel
theorem dX6_seen_9 : decode cX6_seen 9 = .ok (.iload_n 2, 1) := by decide +kernel
theorem dX6_seen_10 : decode cX6_seen 10 = .ok (.invokevirtual 91, 3) := by decide +kernel
theorem dX6_seen_13 : decode cX6_seen 13 = .ok (.ifCond .eq 7, 3) := by decide +kernel
theorem dX6_seen_16 : decode cX6_seen 16 = .ok (.iconst 1, 1) := by decide +kernel
theorem dX6_seen_17 : decode cX6_seen 17 = .ok (.goto 4, 3) := by decide +kernel
theorem dX6_seen_20 : decode cX6_seen 20 = .ok (.iconst 0, 1) := by decide +kernel
theorem dX6_seen_21 : decode cX6_seen 21 = .ok (.istore_n 3, 1) := by decide +kernel
theorem dX6_seen_22 : decode cX6_seen 22 = .ok (.aload_n 0, 1) := by decide +kernel
theorem dX6_seen_23 : decode cX6_seen 23 = .ok (.iload_n 3, 1) := by decide +kernel
theorem dX6_seen_24 : decode cX6_seen 24 = .ok (.ifCond .ne 7, 3) := by decide +kernel
theorem dX6_seen_27 : decode cX6_seen 27 = .ok (.iconst 1, 1) := by decide +kernel
theorem dX6_seen_28 : decode cX6_seen 28 = .ok (.goto 13, 3) := by decide +kernel
theorem dX6_seen_31 : decode cX6_seen 31 = .ok (.iload_n 1, 1) := by decide +kernel
theorem dX6_seen_32 : decode cX6_seen 32 = .ok (.iload_n 2, 1) := by decide +kernel
theorem dX6_seen_33 : decode cX6_seen 33 = .ok (.if_icmp .ne 7, 3) := by decide +kernel
theorem dX6_seen_36 : decode cX6_seen 36 = .ok (.iconst 2, 1) := by decide +kernel
theorem dX6_seen_37 : decode cX6_seen 37 = .ok (.goto 4, 3) := by decide +kernel
theorem dX6_seen_40 : decode cX6_seen 40 = .ok (.iconst 0, 1) := by decide +kernel
theorem dX6_seen_41 : decode cX6_seen 41 = .ok (.invokevirtual 83, 3) := by decide +kernel
theorem dX6_seen_44 : decode cX6_seen 44 = .ok (.ifCond .ne 5, 3) := by decide +kernel
theorem dX6_seen_47 : decode cX6_seen 47 = .ok (.iconst 0, 1) := by decide +kernel
theorem dX6_seen_48 : decode cX6_seen 48 = .ok (.ireturn, 1) := by decide +kernel
theorem dX6_seen_49 : decode cX6_seen 49 = .ok (.iconst (-1), 1) := by decide +kernel
theorem dX6_seen_50 : decode cX6_seen 50 = .ok (.istore 4, 2) := by decide +kernel
theorem dX6_seen_52 : decode cX6_seen 52 = .ok (.iconst (-1), 1) := by decide +kernel
theorem dX6_seen_53 : decode cX6_seen 53 = .ok (.istore 5, 2) := by decide +kernel
theorem dX6_seen_55 : decode cX6_seen 55 = .ok (.iconst 0, 1) := by decide +kernel
theorem dX6_seen_56 : decode cX6_seen 56 = .ok (.istore 6, 2) := by decide +kernel
theorem dX6_seen_58 : decode cX6_seen 58 = .ok (.iload 6, 2) := by decide +kernel
theorem dX6_seen_60 : decode cX6_seen 60 = .ok (.aload_n 0, 1) := by decide +kernel
theorem dX6_seen_61 : decode cX6_seen 61 = .ok (.getfield 109, 3) := by decide +kernel
theorem dX6_seen_64 : decode cX6_seen 64 = .ok (.if_icmp .ge 107, 3) := by decide +kernel
theorem dX6_seen_67 : decode cX6_seen 67 = .ok (.aload_n 0, 1) := by decide +kernel
theorem dX6_seen_68 : decode cX6_seen 68 = .ok (.iload_n 2, 1) := by decide +kernel
theorem dX6_seen_69 : decode cX6_seen 69 = .ok (.iload 6, 2) := by decide +kernel
theorem dX6_seen_71 : decode cX6_seen 71 = .ok (.invokevirtual 158, 3) := by decide +kernel
theorem dX6_seen_74 : decode cX6_seen 74 = .ok (.iconst 1, 1) := by decide +kernel
theorem dX6_seen_75 : decode cX6_seen 75 = .ok (.if_icmp .ne 25, 3) := by decide +kernel
theorem dX6_seen_78 : decode cX6_seen 78 = .ok (.iload 6, 2) := by decide +kernel
theorem dX6_seen_80 : decode cX6_seen 80 = .ok (.ifCond .eq 16, 3) := by decide +kernel
theorem dX6_seen_83 : decode cX6_seen 83 = .ok (.aload_n 0, 1) := by decide +kernel
theorem dX6_seen_84 : decode cX6_seen 84 = .ok (.iload_n 2, 1) := by decide +kernel
theorem dX6_seen_85 : decode cX6_seen 85 = .ok (.iload 6, 2) := by decide +kernel
theorem dX6_seen_87 : decode cX6_seen 87 = .ok (.iconst 1, 1) := by decide +kernel
theorem dX6_seen_88 : decode cX6_seen 88 = .ok (.isub, 1) := by decide +kernel
theorem dX6_seen_89 : decode cX6_seen 89 = .ok (.invokevirtual 158, 3) := by decide +kernel
theorem dX6_seen_92 : decode cX6_seen 92 = .ok (.iconst 1, 1) := by decide +kernel
theorem dX6_seen_93 : decode cX6_seen 93 = .ok (.if_icmp .eq 7, 3) := by decide +kernel
theorem dX6_seen_96 : decode cX6_seen 96 = .ok (.iconst 1, 1) := by decide +kernel
theorem dX6_seen_97 : decode cX6_seen 97 = .ok (.goto 4, 3) := by decide +kernel
theorem dX6_seen_100 : decode cX6_seen 100 = .ok (.iconst 0, 1) := by decide +kernel
theorem dX6_seen_101 : decode cX6_seen 101 = .ok (.istore 7, 2) := by decide +kernel
theorem dX6_seen_103 : decode cX6_seen 103 = .ok (.iload 6, 2) := by decide +kernel
theorem dX6_seen_105 : decode cX6_seen 105 = .ok (.iload 5, 2) := by decide +kernel
theorem dX6_seen_107 : decode cX6_seen 107 = .ok (.isub, 1) := by decide +kernel
theorem dX6_seen_108 : decode cX6_seen 108 = .ok (.iconst 1, 1) := by decide +kernel
theorem dX6_seen_109 : decode cX6_seen 109 = .ok (.isub, 1) := by decide +kernel
theorem dX6_seen_110 : decode cX6_seen 110 = .ok (.istore 8, 2) := by decide +kernel
theorem dX6_seen_112 : decode cX6_seen 112 = .ok (.iload 7, 2) := by decide +kernel
theorem dX6_seen_114 : decode cX6_seen 114 = .ok (.ifCond .eq 27, 3) := by decide +kernel
theorem dX6_seen_117 : decode cX6_seen 117 = .ok (.iload 5, 2) := by decide +kernel
theorem dX6_seen_119 : decode cX6_seen 119 = .ok (.iconst (-1), 1) := by decide +kernel
theorem dX6_seen_120 : decode cX6_seen 120 = .ok (.if_icmp .eq 21, 3) := by decide +kernel
theorem dX6_seen_123 : decode cX6_seen 123 = .ok (.iload 4, 2) := by decide +kernel
theorem dX6_seen_125 : decode cX6_seen 125 = .ok (.iconst (-1), 1) := by decide +kernel
theorem dX6_seen_126 : decode cX6_seen 126 = .ok (.if_icmp .eq 10, 3) := by decide +kernel
theorem dX6_seen_129 : decode cX6_seen 129 = .ok (.iload 8, 2) := by decide +kernel
theorem dX6_seen_131 : decode cX6_seen 131 = .ok (.iload 4, 2) := by decide +kernel
theorem dX6_seen_133 : decode cX6_seen 133 = .ok (.if_icmp .ge 8, 3) := by decide +kernel
theorem dX6_seen_136 : decode cX6_seen 136 = .ok (.iload 8, 2) := by decide +kernel
theorem dX6_seen_138 : decode cX6_seen 138 = .ok (.goto 5, 3) := by decide +kernel
theorem dX6_seen_141 : decode cX6_seen 141 = .ok (.iload 4, 2) := by decide +kernel
theorem dX6_seen_143 : decode cX6_seen 143 = .ok (.istore 4, 2) := by decide +kernel
theorem dX6_seen_145 : decode cX6_seen 145 = .ok (.aload_n 0, 1) := by decide +kernel
theorem dX6_seen_146 : decode cX6_seen 146 = .ok (.iload_n 1, 1) := by decide +kernel
theorem dX6_seen_147 : decode cX6_seen 147 = .ok (.iload 6, 2) := by decide +kernel
theorem dX6_seen_149 : decode cX6_seen 149 = .ok (.invokevirtual 158, 3) := by decide +kernel
theorem dX6_seen_152 : decode cX6_seen 152 = .ok (.iconst 1, 1) := by decide +kernel
theorem dX6_seen_153 : decode cX6_seen 153 = .ok (.if_icmp .ne 8, 3) := by decide +kernel
theorem dX6_seen_156 : decode cX6_seen 156 = .ok (.iload 6, 2) := by decide +kernel
theorem dX6_seen_158 : decode cX6_seen 158 = .ok (.goto 5, 3) := by decide +kernel
theorem dX6_seen_161 : decode cX6_seen 161 = .ok (.iload 5, 2) := by decide +kernel
theorem dX6_seen_163 : decode cX6_seen 163 = .ok (.istore 5, 2) := by decide +kernel
theorem dX6_seen_165 : decode cX6_seen 165 = .ok (.iinc 6 1, 3) := by decide +kernel
theorem dX6_seen_168 : decode cX6_seen 168 = .ok (.goto (-110), 3) := by decide +kernel
theorem dX6_seen_171 : decode cX6_seen 171 = .ok (.iload 4, 2) := by decide +kernel
theorem dX6_seen_173 : decode cX6_seen 173 = .ok (.ireturn, 1) := by decide +kernel
theorem dX6_changeOf_0 : decode cX6_changeOf 0 = .ok (.iconst 0, 1) := by decide +kernel
theorem dX6_changeOf_1 : decode cX6_changeOf 1 = .ok (.istore_n 3, 1) := by decide +kernel
theorem dX6_changeOf_2 : decode cX6_changeOf 2 = .ok (.iconst 0, 1) := by decide +kernel
theorem dX6_changeOf_3 : decode cX6_changeOf 3 = .ok (.istore 4, 2) := by decide +kernel
theorem dX6_changeOf_5 : decode cX6_changeOf 5 = .ok (.iload 4, 2) := by decide +kernel
theorem dX6_changeOf_7 : decode cX6_changeOf 7 = .ok (.aload_n 0, 1) := by decide +kernel
theorem dX6_changeOf_8 : decode cX6_changeOf 8 = .ok (.getfield 69, 3) := by decide +kernel
theorem dX6_changeOf_11 : decode cX6_changeOf 11 = .ok (.if_icmp .ge 120, 3) := by decide +kernel
theorem dX6_changeOf_14 : decode cX6_changeOf 14 = .ok (.iconst 0, 1) := by decide +kernel
theorem dX6_changeOf_15 : decode cX6_changeOf 15 = .ok (.istore 5, 2) := by decide +kernel
theorem dX6_changeOf_17 : decode cX6_changeOf 17 = .ok (.iload 5, 2) := by decide +kernel
theorem dX6_changeOf_19 : decode cX6_changeOf 19 = .ok (.aload_n 0, 1) := by decide +kernel
theorem dX6_changeOf_20 : decode cX6_changeOf 20 = .ok (.getfield 69, 3) := by decide +kernel
theorem dX6_changeOf_23 : decode cX6_changeOf 23 = .ok (.if_icmp .ge 102, 3) := by decide +kernel
theorem dX6_changeOf_26 : decode cX6_changeOf 26 = .ok (.aload_n 0, 1) := by decide +kernel
theorem dX6_changeOf_27 : decode cX6_changeOf 27 = .ok (.getfield 22, 3) := by decide +kernel
theorem dX6_changeOf_30 : decode cX6_changeOf 30 = .ok (.iload_n 1, 1) := by decide +kernel
theorem dX6_changeOf_31 : decode cX6_changeOf 31 = .ok (.iaload, 1) := by decide +kernel
theorem dX6_changeOf_32 : decode cX6_changeOf 32 = .ok (.aload_n 0, 1) := by decide +kernel
theorem dX6_changeOf_33 : decode cX6_changeOf 33 = .ok (.getfield 22, 3) := by decide +kernel
theorem dX6_changeOf_36 : decode cX6_changeOf 36 = .ok (.iload_n 2, 1) := by decide +kernel
theorem dX6_changeOf_37 : decode cX6_changeOf 37 = .ok (.iaload, 1) := by decide +kernel
theorem dX6_changeOf_38 : decode cX6_changeOf 38 = .ok (.iconst (-1), 1) := by decide +kernel
theorem dX6_changeOf_39 : decode cX6_changeOf 39 = .ok (.ixor, 1) := by decide +kernel
theorem dX6_changeOf_40 : decode cX6_changeOf 40 = .ok (.iand, 1) := by decide +kernel
theorem dX6_changeOf_41 : decode cX6_changeOf 41 = .ok (.iload 4, 2) := by decide +kernel
theorem dX6_changeOf_43 : decode cX6_changeOf 43 = .ok (.invokestatic 87, 3) := by decide +kernel
theorem dX6_changeOf_46 : decode cX6_changeOf 46 = .ok (.ifCond .eq 30, 3) := by decide +kernel
theorem dX6_changeOf_49 : decode cX6_changeOf 49 = .ok (.aload_n 0, 1) := by decide +kernel
theorem dX6_changeOf_50 : decode cX6_changeOf 50 = .ok (.getfield 22, 3) := by decide +kernel
theorem dX6_changeOf_53 : decode cX6_changeOf 53 = .ok (.iload_n 2, 1) := by decide +kernel
theorem dX6_changeOf_54 : decode cX6_changeOf 54 = .ok (.iaload, 1) := by decide +kernel
theorem dX6_changeOf_55 : decode cX6_changeOf 55 = .ok (.aload_n 0, 1) := by decide +kernel
theorem dX6_changeOf_56 : decode cX6_changeOf 56 = .ok (.getfield 22, 3) := by decide +kernel
theorem dX6_changeOf_59 : decode cX6_changeOf 59 = .ok (.iload_n 1, 1) := by decide +kernel
theorem dX6_changeOf_60 : decode cX6_changeOf 60 = .ok (.iaload, 1) := by decide +kernel
theorem dX6_changeOf_61 : decode cX6_changeOf 61 = .ok (.iconst (-1), 1) := by decide +kernel
theorem dX6_changeOf_62 : decode cX6_changeOf 62 = .ok (.ixor, 1) := by decide +kernel
theorem dX6_changeOf_63 : decode cX6_changeOf 63 = .ok (.iand, 1) := by decide +kernel
theorem dX6_changeOf_64 : decode cX6_changeOf 64 = .ok (.iload 5, 2) := by decide +kernel
theorem dX6_changeOf_66 : decode cX6_changeOf 66 = .ok (.invokestatic 87, 3) := by decide +kernel
theorem dX6_changeOf_69 : decode cX6_changeOf 69 = .ok (.ifCond .eq 7, 3) := by decide +kernel
theorem dX6_changeOf_72 : decode cX6_changeOf 72 = .ok (.iconst 1, 1) := by decide +kernel
theorem dX6_changeOf_73 : decode cX6_changeOf 73 = .ok (.goto 4, 3) := by decide +kernel
theorem dX6_changeOf_76 : decode cX6_changeOf 76 = .ok (.iconst 0, 1) := by decide +kernel
theorem dX6_changeOf_77 : decode cX6_changeOf 77 = .ok (.istore 6, 2) := by decide +kernel
theorem dX6_changeOf_79 : decode cX6_changeOf 79 = .ok (.iload 6, 2) := by decide +kernel
theorem dX6_changeOf_81 : decode cX6_changeOf 81 = .ok (.ifCond .eq 36, 3) := by decide +kernel
theorem dX6_changeOf_84 : decode cX6_changeOf 84 = .ok (.aload_n 0, 1) := by decide +kernel
theorem dX6_changeOf_85 : decode cX6_changeOf 85 = .ok (.getfield 19, 3) := by decide +kernel
theorem dX6_changeOf_88 : decode cX6_changeOf 88 = .ok (.bipush 8, 2) := by decide +kernel
theorem dX6_changeOf_90 : decode cX6_changeOf 90 = .ok (.iload 4, 2) := by decide +kernel
theorem dX6_changeOf_92 : decode cX6_changeOf 92 = .ok (.imul, 1) := by decide +kernel
theorem dX6_changeOf_93 : decode cX6_changeOf 93 = .ok (.iload 5, 2) := by decide +kernel
theorem dX6_changeOf_95 : decode cX6_changeOf 95 = .ok (.iadd, 1) := by decide +kernel
theorem dX6_changeOf_96 : decode cX6_changeOf 96 = .ok (.iaload, 1) := by decide +kernel
theorem dX6_changeOf_97 : decode cX6_changeOf 97 = .ok (.iload_n 3, 1) := by decide +kernel
theorem dX6_changeOf_98 : decode cX6_changeOf 98 = .ok (.if_icmp .le 19, 3) := by decide +kernel
theorem dX6_changeOf_101 : decode cX6_changeOf 101 = .ok (.aload_n 0, 1) := by decide +kernel
theorem dX6_changeOf_102 : decode cX6_changeOf 102 = .ok (.getfield 19, 3) := by decide +kernel
theorem dX6_changeOf_105 : decode cX6_changeOf 105 = .ok (.bipush 8, 2) := by decide +kernel
theorem dX6_changeOf_107 : decode cX6_changeOf 107 = .ok (.iload 4, 2) := by decide +kernel
theorem dX6_changeOf_109 : decode cX6_changeOf 109 = .ok (.imul, 1) := by decide +kernel
theorem dX6_changeOf_110 : decode cX6_changeOf 110 = .ok (.iload 5, 2) := by decide +kernel
theorem dX6_changeOf_112 : decode cX6_changeOf 112 = .ok (.iadd, 1) := by decide +kernel
theorem dX6_changeOf_113 : decode cX6_changeOf 113 = .ok (.iaload, 1) := by decide +kernel
theorem dX6_changeOf_114 : decode cX6_changeOf 114 = .ok (.goto 4, 3) := by decide +kernel
theorem dX6_changeOf_117 : decode cX6_changeOf 117 = .ok (.iload_n 3, 1) := by decide +kernel
theorem dX6_changeOf_118 : decode cX6_changeOf 118 = .ok (.istore_n 3, 1) := by decide +kernel
theorem dX6_changeOf_119 : decode cX6_changeOf 119 = .ok (.iinc 5 1, 3) := by decide +kernel
theorem dX6_changeOf_122 : decode cX6_changeOf 122 = .ok (.goto (-105), 3) := by decide +kernel
theorem dX6_changeOf_125 : decode cX6_changeOf 125 = .ok (.iinc 4 1, 3) := by decide +kernel
theorem dX6_changeOf_128 : decode cX6_changeOf 128 = .ok (.goto (-123), 3) := by decide +kernel
theorem dX6_changeOf_131 : decode cX6_changeOf 131 = .ok (.iload_n 3, 1) := by decide +kernel
theorem dX6_changeOf_132 : decode cX6_changeOf 132 = .ok (.ireturn, 1) := by decide +kernel
theorem dX6_change_0 : decode cX6_change 0 = .ok (.aload_n 0, 1) := by decide +kernel
theorem dX6_change_1 : decode cX6_change 1 = .ok (.aload_n 0, 1) := by decide +kernel
theorem dX6_change_2 : decode cX6_change 2 = .ok (.iload_n 1, 1) := by decide +kernel
theorem dX6_change_3 : decode cX6_change 3 = .ok (.invokevirtual 100, 3) := by decide +kernel
theorem dX6_change_6 : decode cX6_change 6 = .ok (.ifCond .eq 15, 3) := by decide +kernel
theorem dX6_change_9 : decode cX6_change 9 = .ok (.aload_n 0, 1) := by decide +kernel
theorem dX6_change_10 : decode cX6_change 10 = .ok (.iload_n 2, 1) := by decide +kernel
theorem dX6_change_11 : decode cX6_change 11 = .ok (.invokevirtual 100, 3) := by decide +kernel
theorem dX6_change_14 : decode cX6_change 14 = .ok (.ifCond .eq 7, 3) := by decide +kernel
theorem dX6_change_17 : decode cX6_change 17 = .ok (.iconst 0, 1) := by decide +kernel
theorem dX6_change_18 : decode cX6_change 18 = .ok (.goto 4, 3) := by decide +kernel
theorem dX6_change_21 : decode cX6_change 21 = .ok (.iconst 1, 1) := by decide +kernel
theorem dX6_change_22 : decode cX6_change 22 = .ok (.invokevirtual 83, 3) := by decide +kernel
theorem dX6_change_25 : decode cX6_change 25 = .ok (.ifCond .eq 12, 3) := by decide +kernel
theorem dX6_change_28 : decode cX6_change 28 = .ok (.aload_n 0, 1) := by decide +kernel
theorem dX6_change_29 : decode cX6_change 29 = .ok (.iload_n 1, 1) := by decide +kernel
theorem dX6_change_30 : decode cX6_change 30 = .ok (.iload_n 2, 1) := by decide +kernel
theorem dX6_change_31 : decode cX6_change 31 = .ok (.invokevirtual 162, 3) := by decide +kernel
theorem dX6_change_34 : decode cX6_change 34 = .ok (.goto 4, 3) := by decide +kernel
theorem dX6_change_37 : decode cX6_change 37 = .ok (.iconst 0, 1) := by decide +kernel
theorem dX6_change_38 : decode cX6_change 38 = .ok (.ireturn, 1) := by decide +kernel
theorem dX6_leastOf_0 : decode cX6_leastOf 0 = .ok (.iconst 0, 1) := by decide +kernel
theorem dX6_leastOf_1 : decode cX6_leastOf 1 = .ok (.istore_n 2, 1) := by decide +kernel
theorem dX6_leastOf_2 : decode cX6_leastOf 2 = .ok (.iconst 0, 1) := by decide +kernel
theorem dX6_leastOf_3 : decode cX6_leastOf 3 = .ok (.istore_n 3, 1) := by decide +kernel
theorem dX6_leastOf_4 : decode cX6_leastOf 4 = .ok (.iload_n 3, 1) := by decide +kernel
theorem dX6_leastOf_5 : decode cX6_leastOf 5 = .ok (.aload_n 0, 1) := by decide +kernel
theorem dX6_leastOf_6 : decode cX6_leastOf 6 = .ok (.getfield 69, 3) := by decide +kernel
theorem dX6_leastOf_9 : decode cX6_leastOf 9 = .ok (.if_icmp .ge 43, 3) := by decide +kernel
theorem dX6_leastOf_12 : decode cX6_leastOf 12 = .ok (.aload_n 0, 1) := by decide +kernel
theorem dX6_leastOf_13 : decode cX6_leastOf 13 = .ok (.getfield 22, 3) := by decide +kernel
theorem dX6_leastOf_16 : decode cX6_leastOf 16 = .ok (.iload_n 1, 1) := by decide +kernel
theorem dX6_leastOf_17 : decode cX6_leastOf 17 = .ok (.iaload, 1) := by decide +kernel
theorem dX6_leastOf_18 : decode cX6_leastOf 18 = .ok (.iload_n 3, 1) := by decide +kernel
theorem dX6_leastOf_19 : decode cX6_leastOf 19 = .ok (.invokestatic 87, 3) := by decide +kernel
theorem dX6_leastOf_22 : decode cX6_leastOf 22 = .ok (.ifCond .eq 22, 3) := by decide +kernel
theorem dX6_leastOf_25 : decode cX6_leastOf 25 = .ok (.aload_n 0, 1) := by decide +kernel
theorem dX6_leastOf_26 : decode cX6_leastOf 26 = .ok (.getfield 7, 3) := by decide +kernel
theorem dX6_leastOf_29 : decode cX6_leastOf 29 = .ok (.iload_n 3, 1) := by decide +kernel
theorem dX6_leastOf_30 : decode cX6_leastOf 30 = .ok (.iaload, 1) := by decide +kernel
theorem dX6_leastOf_31 : decode cX6_leastOf 31 = .ok (.iload_n 2, 1) := by decide +kernel
theorem dX6_leastOf_32 : decode cX6_leastOf 32 = .ok (.if_icmp .le 12, 3) := by decide +kernel
theorem dX6_leastOf_35 : decode cX6_leastOf 35 = .ok (.aload_n 0, 1) := by decide +kernel
theorem dX6_leastOf_36 : decode cX6_leastOf 36 = .ok (.getfield 7, 3) := by decide +kernel
theorem dX6_leastOf_39 : decode cX6_leastOf 39 = .ok (.iload_n 3, 1) := by decide +kernel
theorem dX6_leastOf_40 : decode cX6_leastOf 40 = .ok (.iaload, 1) := by decide +kernel
theorem dX6_leastOf_41 : decode cX6_leastOf 41 = .ok (.goto 4, 3) := by decide +kernel
theorem dX6_leastOf_44 : decode cX6_leastOf 44 = .ok (.iload_n 2, 1) := by decide +kernel
theorem dX6_leastOf_45 : decode cX6_leastOf 45 = .ok (.istore_n 2, 1) := by decide +kernel
theorem dX6_leastOf_46 : decode cX6_leastOf 46 = .ok (.iinc 3 1, 3) := by decide +kernel
theorem dX6_leastOf_49 : decode cX6_leastOf 49 = .ok (.goto (-45), 3) := by decide +kernel
theorem dX6_leastOf_52 : decode cX6_leastOf 52 = .ok (.iload_n 2, 1) := by decide +kernel
theorem dX6_leastOf_53 : decode cX6_leastOf 53 = .ok (.ireturn, 1) := by decide +kernel
theorem dX6_isNew_0 : decode cX6_isNew 0 = .ok (.iconst 1, 1) := by decide +kernel
theorem dX6_isNew_1 : decode cX6_isNew 1 = .ok (.istore_n 2, 1) := by decide +kernel
theorem dX6_isNew_2 : decode cX6_isNew 2 = .ok (.iconst 0, 1) := by decide +kernel
theorem dX6_isNew_3 : decode cX6_isNew 3 = .ok (.istore_n 3, 1) := by decide +kernel
theorem dX6_isNew_4 : decode cX6_isNew 4 = .ok (.iload_n 3, 1) := by decide +kernel
theorem dX6_isNew_5 : decode cX6_isNew 5 = .ok (.iload_n 1, 1) := by decide +kernel
theorem dX6_isNew_6 : decode cX6_isNew 6 = .ok (.if_icmp .ge 34, 3) := by decide +kernel
theorem dX6_isNew_9 : decode cX6_isNew 9 = .ok (.iload_n 2, 1) := by decide +kernel
theorem dX6_isNew_10 : decode cX6_isNew 10 = .ok (.ifCond .eq 22, 3) := by decide +kernel
theorem dX6_isNew_13 : decode cX6_isNew 13 = .ok (.aload_n 0, 1) := by decide +kernel
theorem dX6_isNew_14 : decode cX6_isNew 14 = .ok (.getfield 60, 3) := by decide +kernel
theorem dX6_isNew_17 : decode cX6_isNew 17 = .ok (.iload_n 3, 1) := by decide +kernel
theorem dX6_isNew_18 : decode cX6_isNew 18 = .ok (.iaload, 1) := by decide +kernel
theorem dX6_isNew_19 : decode cX6_isNew 19 = .ok (.aload_n 0, 1) := by decide +kernel
theorem dX6_isNew_20 : decode cX6_isNew 20 = .ok (.getfield 60, 3) := by decide +kernel
theorem dX6_isNew_23 : decode cX6_isNew 23 = .ok (.iload_n 1, 1) := by decide +kernel
theorem dX6_isNew_24 : decode cX6_isNew 24 = .ok (.iaload, 1) := by decide +kernel
theorem dX6_isNew_25 : decode cX6_isNew 25 = .ok (.if_icmp .eq 7, 3) := by decide +kernel
theorem dX6_isNew_28 : decode cX6_isNew 28 = .ok (.iconst 1, 1) := by decide +kernel
theorem dX6_isNew_29 : decode cX6_isNew 29 = .ok (.goto 4, 3) := by decide +kernel
theorem dX6_isNew_32 : decode cX6_isNew 32 = .ok (.iconst 0, 1) := by decide +kernel
theorem dX6_isNew_33 : decode cX6_isNew 33 = .ok (.istore_n 2, 1) := by decide +kernel
theorem dX6_isNew_34 : decode cX6_isNew 34 = .ok (.iinc 3 1, 3) := by decide +kernel
theorem dX6_isNew_37 : decode cX6_isNew 37 = .ok (.goto (-33), 3) := by decide +kernel
theorem dX6_isNew_40 : decode cX6_isNew 40 = .ok (.iload_n 2, 1) := by decide +kernel
theorem dX6_isNew_41 : decode cX6_isNew 41 = .ok (.ireturn, 1) := by decide +kernel
theorem dX6_takes_0 : decode cX6_takes 0 = .ok (.iconst 0, 1) := by decide +kernel
theorem dX6_takes_1 : decode cX6_takes 1 = .ok (.istore_n 1, 1) := by decide +kernel
theorem dX6_takes_2 : decode cX6_takes 2 = .ok (.iconst 0, 1) := by decide +kernel
theorem dX6_takes_3 : decode cX6_takes 3 = .ok (.istore_n 2, 1) := by decide +kernel
theorem dX6_takes_4 : decode cX6_takes 4 = .ok (.iload_n 2, 1) := by decide +kernel
theorem dX6_takes_5 : decode cX6_takes 5 = .ok (.aload_n 0, 1) := by decide +kernel
theorem dX6_takes_6 : decode cX6_takes 6 = .ok (.getfield 76, 3) := by decide +kernel
theorem dX6_takes_9 : decode cX6_takes 9 = .ok (.if_icmp .ge 46, 3) := by decide +kernel
theorem dX6_takes_12 : decode cX6_takes 12 = .ok (.iload_n 1, 1) := by decide +kernel
theorem dX6_takes_13 : decode cX6_takes 13 = .ok (.aload_n 0, 1) := by decide +kernel
theorem dX6_takes_14 : decode cX6_takes 14 = .ok (.aload_n 0, 1) := by decide +kernel
theorem dX6_takes_15 : decode cX6_takes 15 = .ok (.getfield 60, 3) := by decide +kernel
theorem dX6_takes_18 : decode cX6_takes 18 = .ok (.iload_n 2, 1) := by decide +kernel
theorem dX6_takes_19 : decode cX6_takes 19 = .ok (.iaload, 1) := by decide +kernel
theorem dX6_takes_20 : decode cX6_takes 20 = .ok (.invokevirtual 165, 3) := by decide +kernel
theorem dX6_takes_23 : decode cX6_takes 23 = .ok (.aload_n 0, 1) := by decide +kernel
theorem dX6_takes_24 : decode cX6_takes 24 = .ok (.aload_n 0, 1) := by decide +kernel
theorem dX6_takes_25 : decode cX6_takes 25 = .ok (.getfield 60, 3) := by decide +kernel
theorem dX6_takes_28 : decode cX6_takes 28 = .ok (.iload_n 2, 1) := by decide +kernel
theorem dX6_takes_29 : decode cX6_takes 29 = .ok (.iaload, 1) := by decide +kernel
theorem dX6_takes_30 : decode cX6_takes 30 = .ok (.aload_n 0, 1) := by decide +kernel
theorem dX6_takes_31 : decode cX6_takes 31 = .ok (.getfield 60, 3) := by decide +kernel
theorem dX6_takes_34 : decode cX6_takes 34 = .ok (.iload_n 2, 1) := by decide +kernel
theorem dX6_takes_35 : decode cX6_takes 35 = .ok (.iconst 1, 1) := by decide +kernel
theorem dX6_takes_36 : decode cX6_takes 36 = .ok (.iadd, 1) := by decide +kernel
theorem dX6_takes_37 : decode cX6_takes 37 = .ok (.aload_n 0, 1) := by decide +kernel
theorem dX6_takes_38 : decode cX6_takes 38 = .ok (.getfield 76, 3) := by decide +kernel
theorem dX6_takes_41 : decode cX6_takes 41 = .ok (.irem, 1) := by decide +kernel
theorem dX6_takes_42 : decode cX6_takes 42 = .ok (.iaload, 1) := by decide +kernel
theorem dX6_takes_43 : decode cX6_takes 43 = .ok (.invokevirtual 162, 3) := by decide +kernel
theorem dX6_takes_46 : decode cX6_takes 46 = .ok (.iadd, 1) := by decide +kernel
theorem dX6_takes_47 : decode cX6_takes 47 = .ok (.iadd, 1) := by decide +kernel
theorem dX6_takes_48 : decode cX6_takes 48 = .ok (.istore_n 1, 1) := by decide +kernel
theorem dX6_takes_49 : decode cX6_takes 49 = .ok (.iinc 2 1, 3) := by decide +kernel
theorem dX6_takes_52 : decode cX6_takes 52 = .ok (.goto (-48), 3) := by decide +kernel
theorem dX6_takes_55 : decode cX6_takes 55 = .ok (.iload_n 1, 1) := by decide +kernel
theorem dX6_takes_56 : decode cX6_takes 56 = .ok (.ireturn, 1) := by decide +kernel
theorem dX6_shortest_0 : decode cX6_shortest 0 = .ok (.iconst (-1), 1) := by decide +kernel
theorem dX6_shortest_1 : decode cX6_shortest 1 = .ok (.istore_n 1, 1) := by decide +kernel
theorem dX6_shortest_2 : decode cX6_shortest 2 = .ok (.iconst 0, 1) := by decide +kernel
theorem dX6_shortest_3 : decode cX6_shortest 3 = .ok (.istore_n 2, 1) := by decide +kernel
theorem dX6_shortest_4 : decode cX6_shortest 4 = .ok (.aload_n 0, 1) := by decide +kernel
theorem dX6_shortest_5 : decode cX6_shortest 5 = .ok (.getfield 60, 3) := by decide +kernel
theorem dX6_shortest_8 : decode cX6_shortest 8 = .ok (.iconst 0, 1) := by decide +kernel
theorem dX6_shortest_9 : decode cX6_shortest 9 = .ok (.iconst (-1), 1) := by decide +kernel
theorem dX6_shortest_10 : decode cX6_shortest 10 = .ok (.iastore, 1) := by decide +kernel
theorem dX6_shortest_11 : decode cX6_shortest 11 = .ok (.iload_n 2, 1) := by decide +kernel
theorem dX6_shortest_12 : decode cX6_shortest 12 = .ok (.ifCond .lt 164, 3) := by decide +kernel
theorem dX6_shortest_15 : decode cX6_shortest 15 = .ok (.aload_n 0, 1) := by decide +kernel
theorem dX6_shortest_16 : decode cX6_shortest 16 = .ok (.getfield 76, 3) := by decide +kernel
theorem dX6_shortest_19 : decode cX6_shortest 19 = .ok (.ifCond .le 157, 3) := by decide +kernel
theorem dX6_shortest_22 : decode cX6_shortest 22 = .ok (.aload_n 0, 1) := by decide +kernel
theorem dX6_shortest_23 : decode cX6_shortest 23 = .ok (.getfield 60, 3) := by decide +kernel
theorem dX6_shortest_26 : decode cX6_shortest 26 = .ok (.iload_n 2, 1) := by decide +kernel
theorem dX6_shortest_27 : decode cX6_shortest 27 = .ok (.dup2, 1) := by decide +kernel
theorem dX6_shortest_28 : decode cX6_shortest 28 = .ok (.iaload, 1) := by decide +kernel
theorem dX6_shortest_29 : decode cX6_shortest 29 = .ok (.iconst 1, 1) := by decide +kernel
theorem dX6_shortest_30 : decode cX6_shortest 30 = .ok (.iadd, 1) := by decide +kernel
theorem dX6_shortest_31 : decode cX6_shortest 31 = .ok (.iastore, 1) := by decide +kernel
theorem dX6_shortest_32 : decode cX6_shortest 32 = .ok (.aload_n 0, 1) := by decide +kernel
theorem dX6_shortest_33 : decode cX6_shortest 33 = .ok (.getfield 60, 3) := by decide +kernel
theorem dX6_shortest_36 : decode cX6_shortest 36 = .ok (.iload_n 2, 1) := by decide +kernel
theorem dX6_shortest_37 : decode cX6_shortest 37 = .ok (.iaload, 1) := by decide +kernel
theorem dX6_shortest_38 : decode cX6_shortest 38 = .ok (.aload_n 0, 1) := by decide +kernel
theorem dX6_shortest_39 : decode cX6_shortest 39 = .ok (.getfield 76, 3) := by decide +kernel
theorem dX6_shortest_42 : decode cX6_shortest 42 = .ok (.if_icmp .eq 16, 3) := by decide +kernel
theorem dX6_shortest_45 : decode cX6_shortest 45 = .ok (.iload_n 2, 1) := by decide +kernel
theorem dX6_shortest_46 : decode cX6_shortest 46 = .ok (.ifCond .ne 18, 3) := by decide +kernel
theorem dX6_shortest_49 : decode cX6_shortest 49 = .ok (.aload_n 0, 1) := by decide +kernel
theorem dX6_shortest_50 : decode cX6_shortest 50 = .ok (.getfield 60, 3) := by decide +kernel
theorem dX6_shortest_53 : decode cX6_shortest 53 = .ok (.iconst 0, 1) := by decide +kernel
theorem dX6_shortest_54 : decode cX6_shortest 54 = .ok (.iaload, 1) := by decide +kernel
theorem dX6_shortest_55 : decode cX6_shortest 55 = .ok (.ifCond .le 9, 3) := by decide +kernel
theorem dX6_shortest_58 : decode cX6_shortest 58 = .ok (.iinc 2 (-1), 3) := by decide +kernel
theorem dX6_shortest_61 : decode cX6_shortest 61 = .ok (.goto (-50), 3) := by decide +kernel
theorem dX6_shortest_64 : decode cX6_shortest 64 = .ok (.aload_n 0, 1) := by decide +kernel
theorem dX6_shortest_65 : decode cX6_shortest 65 = .ok (.iload_n 2, 1) := by decide +kernel
theorem dX6_shortest_66 : decode cX6_shortest 66 = .ok (.invokevirtual 169, 3) := by decide +kernel
theorem dX6_shortest_69 : decode cX6_shortest 69 = .ok (.ifCond .eq 86, 3) := by decide +kernel
theorem dX6_shortest_72 : decode cX6_shortest 72 = .ok (.iload_n 2, 1) := by decide +kernel
theorem dX6_shortest_73 : decode cX6_shortest 73 = .ok (.aload_n 0, 1) := by decide +kernel
theorem dX6_shortest_74 : decode cX6_shortest 74 = .ok (.getfield 76, 3) := by decide +kernel
theorem dX6_shortest_77 : decode cX6_shortest 77 = .ok (.iconst 1, 1) := by decide +kernel
theorem dX6_shortest_78 : decode cX6_shortest 78 = .ok (.isub, 1) := by decide +kernel
theorem dX6_shortest_79 : decode cX6_shortest 79 = .ok (.if_icmp .ne 76, 3) := by decide +kernel
theorem dX6_shortest_82 : decode cX6_shortest 82 = .ok (.aload_n 0, 1) := by decide +kernel
theorem dX6_shortest_83 : decode cX6_shortest 83 = .ok (.invokevirtual 172, 3) := by decide +kernel
theorem dX6_shortest_86 : decode cX6_shortest 86 = .ok (.istore_n 3, 1) := by decide +kernel
theorem dX6_shortest_87 : decode cX6_shortest 87 = .ok (.iload_n 1, 1) := by decide +kernel
theorem dX6_shortest_88 : decode cX6_shortest 88 = .ok (.iconst (-1), 1) := by decide +kernel
theorem dX6_shortest_89 : decode cX6_shortest 89 = .ok (.if_icmp .eq 8, 3) := by decide +kernel
theorem dX6_shortest_92 : decode cX6_shortest 92 = .ok (.iload_n 3, 1) := by decide +kernel
theorem dX6_shortest_93 : decode cX6_shortest 93 = .ok (.iload_n 1, 1) := by decide +kernel
theorem dX6_shortest_94 : decode cX6_shortest 94 = .ok (.if_icmp .ge 7, 3) := by decide +kernel
theorem dX6_shortest_97 : decode cX6_shortest 97 = .ok (.iconst 1, 1) := by decide +kernel
theorem dX6_shortest_98 : decode cX6_shortest 98 = .ok (.goto 4, 3) := by decide +kernel
theorem dX6_shortest_101 : decode cX6_shortest 101 = .ok (.iconst 0, 1) := by decide +kernel
theorem dX6_shortest_102 : decode cX6_shortest 102 = .ok (.istore 4, 2) := by decide +kernel
theorem dX6_shortest_104 : decode cX6_shortest 104 = .ok (.iconst 0, 1) := by decide +kernel
theorem dX6_shortest_105 : decode cX6_shortest 105 = .ok (.istore 5, 2) := by decide +kernel
theorem dX6_shortest_107 : decode cX6_shortest 107 = .ok (.iload 5, 2) := by decide +kernel
theorem dX6_shortest_109 : decode cX6_shortest 109 = .ok (.aload_n 0, 1) := by decide +kernel
theorem dX6_shortest_110 : decode cX6_shortest 110 = .ok (.getfield 76, 3) := by decide +kernel
theorem dX6_shortest_113 : decode cX6_shortest 113 = .ok (.if_icmp .ge 28, 3) := by decide +kernel
theorem dX6_shortest_116 : decode cX6_shortest 116 = .ok (.iload 4, 2) := by decide +kernel
theorem dX6_shortest_118 : decode cX6_shortest 118 = .ok (.ifCond .eq 23, 3) := by decide +kernel
theorem dX6_shortest_121 : decode cX6_shortest 121 = .ok (.aload_n 0, 1) := by decide +kernel
theorem dX6_shortest_122 : decode cX6_shortest 122 = .ok (.getfield 63, 3) := by decide +kernel
theorem dX6_shortest_125 : decode cX6_shortest 125 = .ok (.iload 5, 2) := by decide +kernel
theorem dX6_shortest_127 : decode cX6_shortest 127 = .ok (.aload_n 0, 1) := by decide +kernel
theorem dX6_shortest_128 : decode cX6_shortest 128 = .ok (.getfield 60, 3) := by decide +kernel
theorem dX6_shortest_131 : decode cX6_shortest 131 = .ok (.iload 5, 2) := by decide +kernel
theorem dX6_shortest_133 : decode cX6_shortest 133 = .ok (.iaload, 1) := by decide +kernel
theorem dX6_shortest_134 : decode cX6_shortest 134 = .ok (.iastore, 1) := by decide +kernel
theorem dX6_shortest_135 : decode cX6_shortest 135 = .ok (.iinc 5 1, 3) := by decide +kernel
theorem dX6_shortest_138 : decode cX6_shortest 138 = .ok (.goto (-31), 3) := by decide +kernel
theorem dX6_shortest_141 : decode cX6_shortest 141 = .ok (.iload 4, 2) := by decide +kernel
theorem dX6_shortest_143 : decode cX6_shortest 143 = .ok (.ifCond .eq 7, 3) := by decide +kernel
theorem dX6_shortest_146 : decode cX6_shortest 146 = .ok (.iload_n 3, 1) := by decide +kernel
theorem dX6_shortest_147 : decode cX6_shortest 147 = .ok (.goto 4, 3) := by decide +kernel
theorem dX6_shortest_150 : decode cX6_shortest 150 = .ok (.iload_n 1, 1) := by decide +kernel
theorem dX6_shortest_151 : decode cX6_shortest 151 = .ok (.istore_n 1, 1) := by decide +kernel
theorem dX6_shortest_152 : decode cX6_shortest 152 = .ok (.goto (-141), 3) := by decide +kernel
theorem dX6_shortest_155 : decode cX6_shortest 155 = .ok (.aload_n 0, 1) := by decide +kernel
theorem dX6_shortest_156 : decode cX6_shortest 156 = .ok (.iload_n 2, 1) := by decide +kernel
theorem dX6_shortest_157 : decode cX6_shortest 157 = .ok (.invokevirtual 169, 3) := by decide +kernel
theorem dX6_shortest_160 : decode cX6_shortest 160 = .ok (.ifCond .eq (-149), 3) := by decide +kernel
theorem dX6_shortest_163 : decode cX6_shortest 163 = .ok (.iinc 2 1, 3) := by decide +kernel
theorem dX6_shortest_166 : decode cX6_shortest 166 = .ok (.aload_n 0, 1) := by decide +kernel
theorem dX6_shortest_167 : decode cX6_shortest 167 = .ok (.getfield 60, 3) := by decide +kernel
theorem dX6_shortest_170 : decode cX6_shortest 170 = .ok (.iload_n 2, 1) := by decide +kernel
theorem dX6_shortest_171 : decode cX6_shortest 171 = .ok (.iconst (-1), 1) := by decide +kernel
theorem dX6_shortest_172 : decode cX6_shortest 172 = .ok (.iastore, 1) := by decide +kernel
theorem dX6_shortest_173 : decode cX6_shortest 173 = .ok (.goto (-162), 3) := by decide +kernel
theorem dX6_shortest_176 : decode cX6_shortest 176 = .ok (.iload_n 1, 1) := by decide +kernel
theorem dX6_shortest_177 : decode cX6_shortest 177 = .ok (.ireturn, 1) := by decide +kernel
theorem dX6_round_0 : decode cX6_round 0 = .ok (.aload_n 0, 1) := by decide +kernel
theorem dX6_round_1 : decode cX6_round 1 = .ok (.iconst 0, 1) := by decide +kernel
theorem dX6_round_2 : decode cX6_round 2 = .ok (.putfield 66, 3) := by decide +kernel
theorem dX6_round_5 : decode cX6_round 5 = .ok (.aload_n 0, 1) := by decide +kernel
theorem dX6_round_6 : decode cX6_round 6 = .ok (.invokevirtual 175, 3) := by decide +kernel
theorem dX6_round_9 : decode cX6_round 9 = .ok (.ireturn, 1) := by decide +kernel
theorem dX6_roundAnew_0 : decode cX6_roundAnew 0 = .ok (.aload_n 0, 1) := by decide +kernel
theorem dX6_roundAnew_1 : decode cX6_roundAnew 1 = .ok (.iconst 0, 1) := by decide +kernel
theorem dX6_roundAnew_2 : decode cX6_roundAnew 2 = .ok (.putfield 66, 3) := by decide +kernel
theorem dX6_roundAnew_5 : decode cX6_roundAnew 5 = .ok (.aload_n 0, 1) := by decide +kernel
theorem dX6_roundAnew_6 : decode cX6_roundAnew 6 = .ok (.invokevirtual 175, 3) := by decide +kernel
theorem dX6_roundAnew_9 : decode cX6_roundAnew 9 = .ok (.ireturn, 1) := by decide +kernel
theorem dX6_inRound_0 : decode cX6_inRound 0 = .ok (.aload_n 0, 1) := by decide +kernel
theorem dX6_inRound_1 : decode cX6_inRound 1 = .ok (.iload_n 1, 1) := by decide +kernel
theorem dX6_inRound_2 : decode cX6_inRound 2 = .ok (.iconst 0, 1) := by decide +kernel
theorem dX6_inRound_3 : decode cX6_inRound 3 = .ok (.aload_n 0, 1) := by decide +kernel
theorem dX6_inRound_4 : decode cX6_inRound 4 = .ok (.getfield 76, 3) := by decide +kernel
theorem dX6_inRound_7 : decode cX6_inRound 7 = .ok (.iconst 1, 1) := by decide +kernel
theorem dX6_inRound_8 : decode cX6_inRound 8 = .ok (.isub, 1) := by decide +kernel
theorem dX6_inRound_9 : decode cX6_inRound 9 = .ok (.invokestatic 72, 3) := by decide +kernel
theorem dX6_inRound_12 : decode cX6_inRound 12 = .ok (.ifCond .eq 7, 3) := by decide +kernel
theorem dX6_inRound_15 : decode cX6_inRound 15 = .ok (.iconst 0, 1) := by decide +kernel
theorem dX6_inRound_16 : decode cX6_inRound 16 = .ok (.goto 4, 3) := by decide +kernel
theorem dX6_inRound_19 : decode cX6_inRound 19 = .ok (.iconst 1, 1) := by decide +kernel
theorem dX6_inRound_20 : decode cX6_inRound 20 = .ok (.invokevirtual 83, 3) := by decide +kernel
theorem dX6_inRound_23 : decode cX6_inRound 23 = .ok (.ifCond .ne 5, 3) := by decide +kernel
theorem dX6_inRound_26 : decode cX6_inRound 26 = .ok (.iconst 0, 1) := by decide +kernel
theorem dX6_inRound_27 : decode cX6_inRound 27 = .ok (.ireturn, 1) := by decide +kernel
theorem dX6_inRound_28 : decode cX6_inRound 28 = .ok (.aload_n 0, 1) := by decide +kernel
theorem dX6_inRound_29 : decode cX6_inRound 29 = .ok (.invokevirtual 175, 3) := by decide +kernel
theorem dX6_inRound_32 : decode cX6_inRound 32 = .ok (.istore_n 2, 1) := by decide +kernel
theorem dX6_inRound_33 : decode cX6_inRound 33 = .ok (.iload_n 2, 1) := by decide +kernel
theorem dX6_inRound_34 : decode cX6_inRound 34 = .ok (.iconst (-1), 1) := by decide +kernel
theorem dX6_inRound_35 : decode cX6_inRound 35 = .ok (.if_icmp .ne 7, 3) := by decide +kernel
theorem dX6_inRound_38 : decode cX6_inRound 38 = .ok (.iconst (-1), 1) := by decide +kernel
theorem dX6_inRound_39 : decode cX6_inRound 39 = .ok (.goto 9, 3) := by decide +kernel
theorem dX6_inRound_42 : decode cX6_inRound 42 = .ok (.aload_n 0, 1) := by decide +kernel
theorem dX6_inRound_43 : decode cX6_inRound 43 = .ok (.getfield 63, 3) := by decide +kernel
theorem dX6_inRound_46 : decode cX6_inRound 46 = .ok (.iload_n 1, 1) := by decide +kernel
theorem dX6_inRound_47 : decode cX6_inRound 47 = .ok (.iaload, 1) := by decide +kernel
theorem dX6_inRound_48 : decode cX6_inRound 48 = .ok (.ireturn, 1) := by decide +kernel
theorem dJ9_max_7cf53_0 : decode cJ9_max_7cf53 0 = .ok (.iload_n 0, 1) := by decide +kernel
theorem dJ9_max_7cf53_1 : decode cJ9_max_7cf53 1 = .ok (.iload_n 1, 1) := by decide +kernel
theorem dJ9_max_7cf53_2 : decode cJ9_max_7cf53 2 = .ok (.if_icmp .lt 7, 3) := by decide +kernel
theorem dJ9_max_7cf53_5 : decode cJ9_max_7cf53 5 = .ok (.iload_n 0, 1) := by decide +kernel
theorem dJ9_max_7cf53_6 : decode cJ9_max_7cf53 6 = .ok (.goto 4, 3) := by decide +kernel
theorem dJ9_max_7cf53_9 : decode cJ9_max_7cf53 9 = .ok (.iload_n 1, 1) := by decide +kernel
theorem dJ9_max_7cf53_10 : decode cJ9_max_7cf53 10 = .ok (.ireturn, 1) := by decide +kernel
theorem dJ9_min_7cf53_0 : decode cJ9_min_7cf53 0 = .ok (.iload_n 0, 1) := by decide +kernel
theorem dJ9_min_7cf53_1 : decode cJ9_min_7cf53 1 = .ok (.iload_n 1, 1) := by decide +kernel
theorem dJ9_min_7cf53_2 : decode cJ9_min_7cf53 2 = .ok (.if_icmp .gt 7, 3) := by decide +kernel
theorem dJ9_min_7cf53_5 : decode cJ9_min_7cf53 5 = .ok (.iload_n 0, 1) := by decide +kernel
theorem dJ9_min_7cf53_6 : decode cJ9_min_7cf53 6 = .ok (.goto 4, 3) := by decide +kernel
theorem dJ9_min_7cf53_9 : decode cJ9_min_7cf53 9 = .ok (.iload_n 1, 1) := by decide +kernel
theorem dJ9_min_7cf53_10 : decode cJ9_min_7cf53 10 = .ok (.ireturn, 1) := by decide +kernel
end
section
/-! ===== the flat memory of both sides: cell i, place j; the pool of 116 cells at the addresses ad i ===== -/
abbrev ig_M : Type := Nat → Nat → Int32
def ig_up (a : ig_M) (i j : Nat) (v : Int32) : ig_M := fun x => if x = i then upd (a i) j v else a x
theorem ig_up_row (a : ig_M) (i j : Nat) (v : Int32) : ig_up a i j v i = upd (a i) j v := if_pos rfl
theorem ig_up_off (a : ig_M) (i j : Nat) (v : Int32) {x : Nat} (h : x ≠ i) : ig_up a i j v x = a x := if_neg h
def ig_mm (a b : ig_M) : ig_M := fun i => if i < 97 then a i else b i
theorem ig_mm_a (a b : ig_M) {i : Nat} (h : i < 97) : ig_mm a b i = a i := if_pos h
theorem ig_mm_b (a b : ig_M) {i : Nat} (h : 97 ≤ i) : ig_mm a b i = b i := if_neg (by omega)
def ig_rf (ad : Nat → Nat) (n b : Nat) : Nat → Option Nat := fun k => if k < n then some (ad (b + k)) else none
def ig_f0 (ad : Nat → Nat) (la : Int64) (r : Nat → Int32) : List Value := [.ref (ad 1), .ref (ad 21), .int (r 2), .int (r 3), .int (r 4), .int (r 5), .int (r 6), .int (r 7), .long la]
def ig_f1 (ad : Nat → Nat) : List Value := [.ref (ad 22)]
def ig_f2 (r : Nat → Int32) : List Value := [.int (r 0), .int (r 1), .int (r 2), .int (r 3), .int (r 4), .int (r 5), .int (r 6), .int (r 7), .int (r 8), .int (r 9), .int (r 10), .int (r 11)]
def ig_f3 (ad : Nat → Nat) (r : Nat → Int32) : List Value := [.ref (ad 2), .int (r 1), .ref (ad 11), .ref (ad 20), .int (r 4)]
def ig_f4 (ad : Nat → Nat) : List Value := [.ref (ad 1), .ref (ad 25), .ref (ad 32)]
def ig_f5 (ad : Nat → Nat) : List Value := [.ref (ad 1), .ref (ad 21), .ref (ad 23), .ref (ad 24)]
def ig_f6 (ad : Nat → Nat) (lb : Int64) (r : Nat → Int32) : List Value := [.int (r 0), .int (r 1), .int (r 2), .ref (ad 98), .ref (ad 99), .ref (ad 100), .ref (ad 101), .int (r 7), .ref (ad 102), .int (r 9), .int (r 10), .int (r 11), .ref (ad 103), .ref (ad 104), .ref (ad 105), .ref (ad 106), .ref (ad 107), .ref (ad 108), .ref (ad 109), .ref (ad 110), .ref (ad 111), .int (r 21), .int (r 22), .long lb, .ref (ad 112), .ref (ad 113), .ref (ad 114)]
def ig_len (i : Nat) : Nat := if i = 101 then 64 else if i = 102 then 6 else if i = 111 then 24 else if i = 112 then 5000 else if i = 113 then 6 else if i = 114 then 6 else 8
def ig_ar (cA : ClassId) (n : Nat) (r : Nat → Int32) : va_E := .inl (cA, n, .inl r)
def ig_ra (cA : ClassId) (n : Nat) (f : Nat → Option Nat) : va_E := .inl (cA, n, .inr (.inr (.inr (.inr f))))
/-- what the cell i of the pool holds, r its row of the memory -/
def ig_c (kk : Nat → ClassId) (ad : Nat → Nat) (la lb lo : Int64) (r : Nat → Int32) (i : Nat) : va_E :=
  if i = 0 then .inr (5, ig_f5 ad)
  else if i = 1 then .inr (3, ig_f3 ad r)
  else if i = 2 then ig_ra (kk 3) 8 (ig_rf ad 8 3)
  else if i < 11 then .inr (2, ig_f2 r)
  else if i = 11 then ig_ra (kk 4) 8 (ig_rf ad 8 12)
  else if i < 20 then ig_ar (kk 0) 8 r
  else if i = 20 then ig_ar (kk 0) 6 r
  else if i = 21 then .inr (1, ig_f1 ad)
  else if i = 22 then ig_ar (kk 0) 5000 r
  else if i = 23 then .inr (0, ig_f0 ad la r)
  else if i = 24 then .inr (4, ig_f4 ad)
  else if i = 25 then ig_ra (kk 4) 6 (ig_rf ad 6 26)
  else if i < 32 then ig_ar (kk 0) 6 r
  else if i = 32 then ig_ra (kk 4) 64 (ig_rf ad 64 33)
  else if i < 97 then ig_ar (kk 0) 6 r
  else if i = 97 then .inr (6, ig_f6 ad lb r)
  else if i = 115 then .inl (kk 2, 1, .inr (.inl (fun _ => lo)))
  else ig_ar (if i = 110 ∨ i = 111 then kk 1 else kk 0) (ig_len i) r
theorem ig_c_ph (kk : Nat → ClassId) (ad : Nat → Nat) (la lb lo : Int64) (r : Nat → Int32) {k : Nat} (h : k < 8) : ig_c kk ad la lb lo r (3 + k) = .inr (2, ig_f2 r) := by
  unfold ig_c
  rw [if_neg (by omega), if_neg (by omega), if_neg (by omega), if_pos (by omega)]
theorem ig_c_rb (kk : Nat → ClassId) (ad : Nat → Nat) (la lb lo : Int64) (r : Nat → Int32) {k : Nat} (h : k < 8) : ig_c kk ad la lb lo r (12 + k) = ig_ar (kk 0) 8 r := by
  unfold ig_c
  rw [if_neg (by omega), if_neg (by omega), if_neg (by omega), if_neg (by omega), if_neg (by omega), if_pos (by omega)]
theorem ig_c_rc (kk : Nat → ClassId) (ad : Nat → Nat) (la lb lo : Int64) (r : Nat → Int32) {k : Nat} (h : k < 6) : ig_c kk ad la lb lo r (26 + k) = ig_ar (kk 0) 6 r := by
  unfold ig_c
  rw [if_neg (by omega), if_neg (by omega), if_neg (by omega), if_neg (by omega), if_neg (by omega), if_neg (by omega), if_neg (by omega), if_neg (by omega), if_neg (by omega), if_neg (by omega), if_neg (by omega), if_neg (by omega), if_pos (by omega)]
theorem ig_c_rh (kk : Nat → ClassId) (ad : Nat → Nat) (la lb lo : Int64) (r : Nat → Int32) {k : Nat} (h : k < 64) : ig_c kk ad la lb lo r (33 + k) = ig_ar (kk 0) 6 r := by
  unfold ig_c
  rw [if_neg (by omega), if_neg (by omega), if_neg (by omega), if_neg (by omega), if_neg (by omega), if_neg (by omega), if_neg (by omega), if_neg (by omega), if_neg (by omega), if_neg (by omega), if_neg (by omega), if_neg (by omega), if_neg (by omega), if_neg (by omega), if_pos (by omega)]
theorem ig_c_la (kk : Nat → ClassId) (ad : Nat → Nat) (la la' lb lo : Int64) (r : Nat → Int32) {i : Nat} (h : i ≠ 23) : ig_c kk ad la' lb lo r i = ig_c kk ad la lb lo r i := by
  unfold ig_c
  simp only [h, if_false]
theorem ig_c_lb (kk : Nat → ClassId) (ad : Nat → Nat) (la lb lb' lo : Int64) (r : Nat → Int32) {i : Nat} (h : i ≠ 97) : ig_c kk ad la lb' lo r i = ig_c kk ad la lb lo r i := by
  unfold ig_c
  simp only [h, if_false]
theorem ig_c_lo (kk : Nat → ClassId) (ad : Nat → Nat) (la lb lo lo' : Int64) (r : Nat → Int32) {i : Nat} (h : i ≠ 115) : ig_c kk ad la lb lo' r i = ig_c kk ad la lb lo r i := by
  unfold ig_c
  simp only [h, if_false]
def ig_A (bs : Nat) : Nat → Prop := fun q => bs ≤ q
def ig_w (g : Nat → va_E) (ad : Nat → Nat) : va_W := (List.range 116).map (fun i => (ad i, g i))
theorem ig_w_get (g : Nat → va_E) (ad : Nat → Nat) {i : Nat} (hi : i < 116) : (ig_w g ad)[i]? = some (ad i, g i) := by
  unfold ig_w
  rw [List.getElem?_map, List.getElem?_range hi]
  rfl
theorem ig_w_len (g : Nat → va_E) (ad : Nat → Nat) : (ig_w g ad).length = 116 := by
  unfold ig_w
  rw [List.length_map, List.length_range]
theorem ig_w_at {g : Nat → va_E} {ad : Nat → Nat} {k : Nat} {q : Nat × va_E} (h : (ig_w g ad)[k]? = some q) : k < 116 ∧ q = (ad k, g k) := by
  have hk : k < 116 := by
    have := (List.getElem?_eq_some_iff.mp h).1
    rwa [ig_w_len] at this
  rw [ig_w_get g ad hk] at h
  exact ⟨hk, (Option.some.inj h).symm⟩
theorem ig_w_set (g : Nat → va_E) (ad : Nat → Nat) {i : Nat} (hi : i < 116) (e : va_E) : (ig_w g ad).set i (ad i, e) = ig_w (fun j => if j = i then e else g j) ad := by
  apply List.ext_getElem?
  intro j
  by_cases hj : j < 116
  · rw [ig_w_get _ ad hj]
    by_cases h : j = i
    · subst h
      rw [List.getElem?_set_self (by rw [ig_w_len]; exact hj), if_pos rfl]
    · rw [List.getElem?_set_ne (Ne.symm h), ig_w_get g ad hj, if_neg h]
  · have h1 : (ig_w (fun j => if j = i then e else g j) ad)[j]? = none := List.getElem?_eq_none (by rw [ig_w_len]; omega)
    have h2 : ((ig_w g ad).set i (ad i, e))[j]? = none := List.getElem?_eq_none (by rw [List.length_set, ig_w_len]; omega)
    rw [h1, h2]
theorem ig_w_P {D : va_G} {g : Nat → va_E} {ad : Nat → Nat} {H : Heap} : (∀ i, i < 116 → va_at D vwCl (ad i, g i) H) ↔ va_P D vwCl (ig_w g ad) H := by
  constructor
  · intro h k q hk
    obtain ⟨h1, rfl⟩ := ig_w_at hk
    exact h k h1
  · intro h i hi
    exact h i _ (ig_w_get g ad hi)
theorem ig_w_D {A : Nat → Prop} {g : Nat → va_E} {ad : Nat → Nat} (h1 : ∀ i j : Nat, i < 116 → j < 116 → ad i = ad j → i = j) (h2 : ∀ i : Nat, i < 116 → A (ad i)) : va_D A (ig_w g ad) := by
  refine ⟨fun i j x y hx hy h => ?_, fun k q hk => ?_⟩
  · obtain ⟨a1, rfl⟩ := ig_w_at hx
    obtain ⟨a2, rfl⟩ := ig_w_at hy
    exact h1 i j a1 a2 h
  · obtain ⟨a1, rfl⟩ := ig_w_at hk
    exact h2 k a1
/-! ===== words: one list for all methods ===== -/
def ig_all : List Cond := lw_tbl.filter goodWord
theorem ig_in {w : Cond} (h : w ∈ lw_tbl) (hg : goodWord w = true) : w ∈ ig_all := List.mem_filter.mpr ⟨h, hg⟩
theorem ig_good {w : Cond} (h : w ∈ ig_all) : w ∈ ig_all ∧ ((w.onTables && w.keeps) = true ∨ ∃ ty, w = .arrayClass ty) := ⟨h, good_of_word (List.mem_filter.mp h).2⟩
def ig_ws (y : MethodName) (cc : ByteArray) (n : Nat) (ret : Option FieldType) : List Cond := .code y cc n ret :: ig_all
theorem ig_LG {y : MethodName} {cc : ByteArray} {n : Nat} {ret : Option FieldType} (h5 : Cond.code y cc n ret ∈ ig_all) : GoodIn ig_all (ig_ws y cc n ret) := by
  intro w hw
  rcases List.mem_cons.mp hw with rfl | h
  · exact ig_good h5
  · exact ig_good h
theorem ig_LV {own C : String} {idx n : Nat} {y : MethodName} {cc : ByteArray} {ret : Option FieldType} (h1 : Cond.methodLink own idx y ∈ ig_all) (h2 : Cond.instanceMethod y ∈ ig_all) (h3 : Cond.selects C y y ∈ ig_all) (h4 : Cond.initialized C ∈ ig_all) (h5 : Cond.code y cc n ret ∈ ig_all) : GoodIn ig_all (wsV own idx C y (ig_ws y cc n ret)) := by
  intro w hw
  rcases List.mem_append.mp hw with h | h
  · rcases List.mem_cons.mp h with rfl | h
    · exact ig_good h1
    rcases List.mem_cons.mp h with rfl | h
    · exact ig_good h2
    rcases List.mem_cons.mp h with rfl | h
    · exact ig_good h3
    rcases List.mem_cons.mp h with rfl | h
    · exact ig_good h4
    cases h
  · exact ig_LG h5 w h
theorem ig_LS {own : String} {idx n : Nat} {y : MethodName} {cc : ByteArray} {ret : Option FieldType} (h1 : Cond.methodLink own idx y ∈ ig_all) (h2 : Cond.static y ∈ ig_all) (h4 : Cond.initialized own ∈ ig_all) (h5 : Cond.code y cc n ret ∈ ig_all) : GoodIn ig_all (wsS own idx y (ig_ws y cc n ret)) := by
  intro w hw
  rcases List.mem_append.mp hw with h | h
  · rcases List.mem_cons.mp h with rfl | h
    · exact ig_good h1
    rcases List.mem_cons.mp h with rfl | h
    · exact ig_good h2
    rcases List.mem_cons.mp h with rfl | h
    · exact ig_good h4
    cases h
  · exact ig_LG h5 w h
def ig_nm : List (String × Nat × MethodName × String) := [("Intergreen$Plan", 26, ⟨"Intergreen$Phase", "<init>", "()V"⟩, "Intergreen"), ("Intergreen", 18, ⟨"Intergreen$Log", "<init>", "()V"⟩, "Intergreen"), ("Intergreen$Plan", 43, ⟨"Intergreen", "isWithin", "(III)Z"⟩, "Intergreen"), ("Intergreen$Plan", 51, ⟨"Intergreen", "has", "(II)Z"⟩, "Intergreen"), ("Intergreen$Rounds", 59, ⟨"Intergreen", "has", "(II)Z"⟩, "Intergreen"), ("Intergreen$Phase", 28, ⟨"Intergreen", "has", "(II)Z"⟩, "Intergreen"), ("Intergreen$Lights", 90, ⟨"Intergreen", "has", "(II)Z"⟩, "Intergreen"), ("Intergreen$Log", 15, ⟨"Intergreen", "isWithin", "(III)Z"⟩, "Intergreen")]
def ig_nd : List MethodName := [⟨"java/lang/RuntimeException", "<init>", "()V"⟩, ⟨"java/lang/RuntimeException", "<init>", "(Ljava/lang/String;)V"⟩, ⟨"java/lang/Exception", "<init>", "()V"⟩, ⟨"java/lang/Exception", "<init>", "(Ljava/lang/String;)V"⟩, ⟨"java/lang/Throwable", "<init>", "()V"⟩, ⟨"java/lang/Throwable", "<init>", "(Ljava/lang/String;)V"⟩]
def ig_nc : List String := ["java/lang/IllegalArgumentException", "java/lang/IllegalStateException", "java/lang/IndexOutOfBoundsException"]
def ig_nn : List (String × String) := [("java/lang/IllegalStateException", "java/lang/IllegalArgumentException"), ("java/lang/IllegalArgumentException", "java/lang/IndexOutOfBoundsException"), ("java/lang/IllegalStateException", "java/lang/IndexOutOfBoundsException")]
def ig_st : List (Nat × String) := [(47, "least, most or gap is out of range"), (62, "no phase can be told any more"), (207, "there is no such phase"), (73, "the same phase twice, or seconds out of range"), (79, "the lights were started, or a stage has both"), (85, "a stage of no phase, or of one that there is not"), (94, "no such stage can be told"), (209, "there is no such stage"), (107, "the lights are changing or on"), (115, "the lights are stopped"), (132, "vehicles is out of range"), (137, "the queue would be too long"), (142, "a phase is asked for"), (144, "nothing is asked for"), (146, "colour is out of range"), (155, "seconds is out of range"), (160, "there would be too many seconds"), (170, "that second has not gone by"), (177, "what is out of range"), (187, "the same phase twice"), (202, "there are not so many stages")]
/-! ===== what every method may lean on: the classes, the pool's addresses, the words that aren't in the one list, the statics and texts of a throw ===== -/
def ig_tys (kk : Nat → ClassId) : List (ClassId × FieldType) := [(kk 0, .int), (kk 1, .boolean), (kk 2, .long), (kk 3, .object "Intergreen$Phase"), (kk 4, .array .int)]
def ig_iae : String := "java/lang/IllegalArgumentException"
def ig_ise : String := "java/lang/IllegalStateException"
def ig_iob : String := "java/lang/IndexOutOfBoundsException"
def ig_N (s : State) : Prop := (∀ q ∈ ig_nm, va_Nw (.methodLinkNest q.1 q.2.1 q.2.2.1 q.2.2.2) s) ∧ (∀ x ∈ ig_nd, va_Nw (.declares x) s) ∧ (∀ q ∈ ig_nc, va_Nw (.castable q q) s) ∧ (∀ q ∈ ig_nn, va_Nc q.1 q.2 s) ∧ ∀ q ∈ ig_st, ∃ sa : Nat, vk_R RX5 q.1 q.2 sa s
theorem ig_N.warm {s U : State} (hW : s.WarmedH U.vm) (h : ig_N s) : ig_N U :=
  ⟨fun q hq => va_Nw.warmM hW (h.1 q hq), fun x hx => va_Nw.warmD hW (h.2.1 x hx), fun q hq => va_Nw.warmC hW (h.2.2.1 q hq), fun q hq => va_Nc.moved hW.alike (h.2.2.2.1 q hq), fun q hq => by
    obtain ⟨sa, h1⟩ := h.2.2.2.2 q hq
    exact ⟨sa, vk_R.warm hW h1⟩⟩
theorem ig_N.same {s U : State} (hv : s.vm = U.vm) (h : ig_N s) : ig_N U :=
  ⟨fun q hq => va_Nw.same rfl hv (h.1 q hq), fun x hx => va_Nw.same rfl hv (h.2.1 x hx), fun q hq => va_Nw.same rfl hv (h.2.2.1 q hq), fun q hq => va_Nc.moved (by rw [hv]; exact Vm.Alike.refl _) (h.2.2.2.1 q hq), fun q hq => by
    obtain ⟨sa, h1⟩ := h.2.2.2.2 q hq
    exact ⟨sa, vk_R.same hv.symm h1⟩⟩
def ig_X (bs : Nat) (s : State) : Prop := vx_Zq Bundle.tN "UNASSIGNED_STACK" Bundle.steD (ig_A bs) s s.heap ∧ vx_Zq Bundle.tN "SUPPRESSED_SENTINEL" Bundle.listD (ig_A bs) s s.heap
def ig_E (D : va_G) (kk : Nat → ClassId) (ad : Nat → Nat) (bs : Nat) (s : State) : Prop := va_K D vwCl (ig_tys kk) s ∧ ((∀ i j : Nat, i < 116 → j < 116 → ad i = ad j → i = j) ∧ ∀ i : Nat, i < 116 → bs ≤ ad i) ∧ bs ≤ s.heap.size ∧ ig_N s ∧ ig_X bs s
/-- the pool's contents in a heap -/
def ig_P (D : va_G) (kk : Nat → ClassId) (ad : Nat → Nat) (a : ig_M) (la : Int64) (b : ig_M) (lb lo : Int64) (H : Heap) : Prop := ∀ i : Nat, i < 116 → va_at D vwCl (ad i, ig_c kk ad la lb lo (ig_mm a b i) i) H
/-- the world at a state: how a method starts and ends -/
def ig_Wd (D : va_G) (kk : Nat → ClassId) (ad : Nat → Nat) (bs : Nat) (a : ig_M) (la : Int64) (b : ig_M) (lb lo : Int64) (U : State) : Prop := ig_E D kk ad bs U ∧ ig_P D kk ad a la b lb lo U.heap
/-- the world on the way -/
def ig_Z (D : va_G) (kk : Nat → ClassId) (ad : Nat → Nat) (bs : Nat) (s : State) (H : Heap) (locs : List Loc) (a : ig_M) (la : Int64) (b : ig_M) (lb lo : Int64) : Prop := ig_P D kk ad a la b lb lo H ∧ va_S (ig_A bs) s.heap H locs
section IGE
variable {D : va_G} {kk : Nat → ClassId} {ad : Nat → Nat} {bs : Nat} {a b : ig_M} {la lb lo : Int64} {s U : State} {H : Heap} {locs : List Loc}
theorem ig_X.go (h : ig_X bs s) (hS : va_S (ig_A bs) s.heap H locs) (hU : U.heap = H) (hv : s.vm.Alike U.vm) : ig_X bs U := by
  have hq : ∀ q : Nat, q < s.heap.size → ¬ ig_A bs q → U.heap[q]? = s.heap[q]? := fun q h1 h2 => by rw [hU]; exact hS.2.1 q h1 h2
  exact ⟨vx_Zq.moved hv (vx_Zq.kept h.1 hq), vx_Zq.moved hv (vx_Zq.kept h.2 hq)⟩
theorem ig_E.go (E : ig_E D kk ad bs s) (hS : va_S (ig_A bs) s.heap H locs) (hU : U.heap = H) (hW : s.WarmedH U.vm) : ig_E D kk ad bs U :=
  ⟨va_K.moved hW.alike E.1, E.2.1, by rw [hU]; exact Nat.le_trans E.2.2.1 hS.1, ig_N.warm hW E.2.2.2.1, ig_X.go E.2.2.2.2 hS hU hW.alike⟩
theorem ig_E.same (E : ig_E D kk ad bs s) (hv : s.vm = U.vm) (hh : s.heap = U.heap) : ig_E D kk ad bs U :=
  ⟨va_K.moved (by rw [hv]; exact Vm.Alike.refl _) E.1, E.2.1, by rw [← hh]; exact E.2.2.1, ig_N.same hv E.2.2.2.1, ig_X.go E.2.2.2.2 (H := s.heap) (locs := []) va_S.rf hh.symm (by rw [hv]; exact Vm.Alike.refl _)⟩
theorem ig_Wd.calling (h : ig_Wd D kk ad bs a la b lb lo U) (g : JFrame) (mk : MethodId) (av : Array Value) : ig_Wd D kk ad bs a la b lb lo (U.calling g mk av) := ⟨h.1.same rfl rfl, h.2⟩
theorem ig_blind (av : List Value) : FrameBlind (va_Pc av (ig_Wd D kk ad bs a la b lb lo)) := fun v U g mk h => ⟨h.1, h.2.calling g mk v⟩
theorem ig_Z.wd (Z : ig_Z D kk ad bs s H locs a la b lb lo) (E : ig_E D kk ad bs s) (hU : U.heap = H) (hW : s.WarmedH U.vm) : ig_Wd D kk ad bs a la b lb lo U := ⟨E.go Z.2 hU hW, by rw [hU]; exact Z.1⟩
theorem ig_Z.fr (Z : ig_Z D kk ad bs s H locs a la b lb lo) {t : State} (ht : t.heap = H) : va_F (ig_A bs) s t := Z.2.F ht
theorem ig_Z.rf (h : ig_P D kk ad a la b lb lo s.heap) : ig_Z D kk ad bs s s.heap [] a la b lb lo := ⟨h, va_S.rf⟩
theorem ig_E.hA (E : ig_E D kk ad bs s) : ∀ q : Nat, s.heap.size ≤ q → ig_A bs q := fun _ h => Nat.le_trans E.2.2.1 h
theorem ig_E.hD (E : ig_E D kk ad bs s) (g : Nat → va_E) : va_D (ig_A bs) (ig_w g ad) := ig_w_D E.2.1.1 E.2.1.2
end IGE
/-! ===== the rows of the machine over the pool ===== -/
section IGR
variable {p : Program} {l : Launch} {e : Env} {R : Room} {s : State} {m : MethodId} {args : Array Value} {below : List Frame} {meth : Method} {c : Code} {H : Heap} {locs : List Loc} {cells slots : Nat} {Q : State → Prop}
variable {D : va_G} {kk : Nat → ClassId} {ad : Nat → Nat} {bs : Nat} {a b : ig_M} {la lb lo : Int64}
variable {cc : ByteArray} {nL : Nat} {own : String} {pc : Nat} {ls : Array Slot} {rest : List Value}
theorem ig_get (F : CallFix p m c cc nL s args ig_all own) (E : ig_E D kk ad bs s) (Z : ig_Z D kk ad bs s H locs a la b lb lo) {C : String} {T : u_T} {N ci index i : Nat} {fs : List Value} (hi : i < 116) (he : ig_c kk ad la lb lo (ig_mm a b i) i = .inr (ci, fs)) (hc : vwCl[ci]? = some (C, T, N)) (hin : ∀ w ∈ u_ws C T N, w ∈ ig_all) (k : Nat) (hk : k < N) (hlink : Cond.fieldLink own index (T k).1 (T k).2.1 (T k).2.2.1 ∈ ig_all) {v : Value} (hv : fs[k]? = some v) (hdg : decode cc pc = .ok (.getfield index, 3))
    (kx : W p l e R s m args below meth c H locs cells slots Q (F0 m (pc + 3) ls (v :: rest))) : W p l e R s m args below meth c H locs cells slots Q (F0 m pc ls (.ref (ad i) :: rest)) := by
  obtain ⟨hx, hb, -, hown, hts⟩ := F
  exact va_get (D := D) (cl := vwCl) (C := C) (T := T) (N := N) (ci := ci) hx hb hts hin hown E.1 (ig_w_P.mp Z.1) i (by rw [ig_w_get _ _ hi, he]) hc k hk (hts _ hlink) (fun _ h => h) hv hdg kx
theorem ig_put (F : CallFix p m c cc nL s args ig_all own) (E : ig_E D kk ad bs s) (Z : ig_Z D kk ad bs s H locs a la b lb lo) {C : String} {T : u_T} {N ci index i : Nat} {fs : List Value} (hi : i < 116) (he : ig_c kk ad la lb lo (ig_mm a b i) i = .inr (ci, fs)) (hc : vwCl[ci]? = some (C, T, N)) (hin : ∀ w ∈ u_ws C T N, w ∈ ig_all) (ty0 : Nat → FieldType) (hty : ∀ k, k < N → parseFieldDescriptor (T k).2.2.1 = some (ty0 k)) (hnm : ∀ a, a < N → ∀ b, b < N → a ≠ b → (T a).2.1 ≠ (T b).2.1) (k : Nat) (hk : k < N) (hlink : Cond.fieldLink own index (T k).1 (T k).2.1 (T k).2.2.1 ∈ ig_all) (hfin : (T k).2.2.2 = false) {v : Value} {ty : FieldType} (hd : parseFieldDescriptor (T k).2.2.1 = some ty) (hn : narrow ty v = v) (hfit : fits ty v = true) (hl : k < fs.length)
    {a' b' : ig_M} {la' lb' : Int64} (hset : ig_c kk ad la' lb' lo (ig_mm a' b' i) i = .inr (ci, fs.set k v)) (hoff : ∀ j : Nat, j ≠ i → ig_c kk ad la' lb' lo (ig_mm a' b' j) j = ig_c kk ad la lb lo (ig_mm a b j) j) (hdg : decode cc pc = .ok (.putfield index, 3))
    (kx : ∀ (H1 : Heap) (locs1 : List Loc), ig_Z D kk ad bs s H1 locs1 a' la' b' lb' lo → W p l e R s m args below meth c H1 locs1 cells slots Q (F0 m (pc + 3) ls rest)) : W p l e R s m args below meth c H locs cells slots Q (F0 m pc ls (v :: .ref (ad i) :: rest)) := by
  obtain ⟨hx, hb, -, hown, hts⟩ := F
  refine va_put (D := D) (cl := vwCl) (A := ig_A bs) (C := C) (T := T) (N := N) (ci := ci) (ty := ty) hx hb hts hin ty0 hty hnm hown E.1 (ig_w_P.mp Z.1) (E.hD _) Z.2 i (by rw [ig_w_get _ _ hi, he]) hc k hk (hts _ hlink) (fun _ h => h) hfin hd hn hfit hl hdg (fun H1 locs1 hP hD hS => ?_)
  rw [ig_w_set _ _ hi] at hP
  refine kx H1 locs1 ⟨fun j hj => ?_, hS⟩
  have h1 := ig_w_P.mpr hP j hj
  by_cases hji : j = i
  · subst hji
    rw [if_pos rfl] at h1
    rw [hset]
    exact h1
  · rw [if_neg hji] at h1
    rw [hoff j hji]
    exact h1
theorem ig_iald (F : CallFix p m c cc nL s args ig_all own) (E : ig_E D kk ad bs s) (Z : ig_Z D kk ad bs s H locs a la b lb lo) {i n : Nat} {f : Nat → Int32} (hi : i < 116) (he : ig_c kk ad la lb lo (ig_mm a b i) i = ig_ar (kk 0) n f) {j : Int32} (hj : vp_in j n) (hdg : decode cc pc = .ok (.iaload, 1))
    (kx : W p l e R s m args below meth c H locs cells slots Q (F0 m (pc + 1) ls (.int (f j.toNatClampNeg) :: rest))) : W p l e R s m args below meth c H locs cells slots Q (F0 m pc ls (.int j :: .ref (ad i) :: rest)) :=
  va_iald F.1 F.2.1 E.1 (ig_w_P.mp Z.1) i 0 (by rw [ig_w_get _ _ hi, he]; rfl) rfl hj hdg kx
theorem ig_zald (F : CallFix p m c cc nL s args ig_all own) (E : ig_E D kk ad bs s) (Z : ig_Z D kk ad bs s H locs a la b lb lo) {i n : Nat} {f : Nat → Int32} (hi : i < 116) (he : ig_c kk ad la lb lo (ig_mm a b i) i = ig_ar (kk 1) n f) {j : Int32} (hj : vp_in j n) (hdg : decode cc pc = .ok (.baload, 1))
    (kx : W p l e R s m args below meth c H locs cells slots Q (F0 m (pc + 1) ls (.int (f j.toNatClampNeg) :: rest))) : W p l e R s m args below meth c H locs cells slots Q (F0 m pc ls (.int j :: .ref (ad i) :: rest)) :=
  va_zald F.1 F.2.1 E.1 (ig_w_P.mp Z.1) i 1 (by rw [ig_w_get _ _ hi, he]; rfl) rfl hj hdg kx
theorem ig_setZ (Z0 : ig_P D kk ad a la b lb lo H) {i : Nat} (hi : i < 116) {H1 : Heap} {x : va_E} (hP : va_P D vwCl ((ig_w (fun i => ig_c kk ad la lb lo (ig_mm a b i) i) ad).set i (ad i, x)) H1) {a' b' : ig_M} {la' lb' lo' : Int64} (hset : ig_c kk ad la' lb' lo' (ig_mm a' b' i) i = x) (hoff : ∀ j : Nat, j ≠ i → ig_c kk ad la' lb' lo' (ig_mm a' b' j) j = ig_c kk ad la lb lo (ig_mm a b j) j) : ig_P D kk ad a' la' b' lb' lo' H1 := by
  rw [ig_w_set _ _ hi] at hP
  intro j hj
  have h1 := ig_w_P.mpr hP j hj
  by_cases hji : j = i
  · subst hji
    rw [if_pos rfl] at h1
    rw [hset]
    exact h1
  · rw [if_neg hji] at h1
    rw [hoff j hji]
    exact h1
theorem ig_offA {i : Nat} (v : Int32) (k : Nat) : ∀ j : Nat, j ≠ i → ig_c kk ad la lb lo (ig_mm (ig_up a i k v) b j) j = ig_c kk ad la lb lo (ig_mm a b j) j := fun j hj => by
  unfold ig_mm
  rw [ig_up_off a i k v hj]
theorem ig_offB {i : Nat} (v : Int32) (k : Nat) : ∀ j : Nat, j ≠ i → ig_c kk ad la lb lo (ig_mm a (ig_up b i k v) j) j = ig_c kk ad la lb lo (ig_mm a b j) j := fun j hj => by
  unfold ig_mm
  rw [ig_up_off b i k v hj]
theorem ig_rowA {i : Nat} (h : i < 97) (v : Int32) (k : Nat) : ig_mm (ig_up a i k v) b i = upd (a i) k v := by rw [ig_mm_a _ _ h, ig_up_row]
theorem ig_rowB {i : Nat} (h : 97 ≤ i) (v : Int32) (k : Nat) : ig_mm a (ig_up b i k v) i = upd (b i) k v := by rw [ig_mm_b _ _ h, ig_up_row]
/-- the class's int rows -/
theorem ig_iastA (F : CallFix p m c cc nL s args ig_all own) (E : ig_E D kk ad bs s) (Z : ig_Z D kk ad bs s H locs a la b lb lo) {i n : Nat} (hi : i < 97) (he : ∀ r, ig_c kk ad la lb lo r i = ig_ar (kk 0) n r) {j x : Int32} (hj : vp_in j n) (hdg : decode cc pc = .ok (.iastore, 1))
    (kx : ∀ (H1 : Heap) (locs1 : List Loc) (a1 : ig_M), a1 = ig_up a i j.toNatClampNeg x → ig_Z D kk ad bs s H1 locs1 a1 la b lb lo → W p l e R s m args below meth c H1 locs1 cells slots Q (F0 m (pc + 1) ls rest)) : W p l e R s m args below meth c H locs cells slots Q (F0 m pc ls (.int x :: .int j :: .ref (ad i) :: rest)) := by
  have hi2 : i < 116 := by omega
  refine va_iast F.1 F.2.1 E.1 (ig_w_P.mp Z.1) (E.hD _) Z.2 i 0 (f := a i) (n := n) (cA := kk 0) (by rw [ig_w_get _ _ hi2, he, ig_mm_a _ _ hi]; rfl) rfl hj hdg (fun H1 locs1 hP _ hS => kx H1 locs1 _ rfl ⟨ig_setZ Z.1 hi2 hP (by rw [ig_rowA hi, he]; rfl) (ig_offA _ _), hS⟩)
/-- the model's int rows -/
theorem ig_iastB (F : CallFix p m c cc nL s args ig_all own) (E : ig_E D kk ad bs s) (Z : ig_Z D kk ad bs s H locs a la b lb lo) {i n : Nat} (hi : 97 ≤ i) (hi2 : i < 116) (he : ∀ r, ig_c kk ad la lb lo r i = ig_ar (kk 0) n r) {j x : Int32} (hj : vp_in j n) (hdg : decode cc pc = .ok (.iastore, 1))
    (kx : ∀ (H1 : Heap) (locs1 : List Loc) (b1 : ig_M), b1 = ig_up b i j.toNatClampNeg x → ig_Z D kk ad bs s H1 locs1 a la b1 lb lo → W p l e R s m args below meth c H1 locs1 cells slots Q (F0 m (pc + 1) ls rest)) : W p l e R s m args below meth c H locs cells slots Q (F0 m pc ls (.int x :: .int j :: .ref (ad i) :: rest)) := by
  refine va_iast F.1 F.2.1 E.1 (ig_w_P.mp Z.1) (E.hD _) Z.2 i 0 (f := b i) (n := n) (cA := kk 0) (by rw [ig_w_get _ _ hi2, he, ig_mm_b _ _ hi]; rfl) rfl hj hdg (fun H1 locs1 hP _ hS => kx H1 locs1 _ rfl ⟨ig_setZ Z.1 hi2 hP (by rw [ig_rowB hi, he]; rfl) (ig_offB _ _), hS⟩)
theorem ig_zastB (F : CallFix p m c cc nL s args ig_all own) (E : ig_E D kk ad bs s) (Z : ig_Z D kk ad bs s H locs a la b lb lo) {i n : Nat} (hi : 97 ≤ i) (hi2 : i < 116) (he : ∀ r, ig_c kk ad la lb lo r i = ig_ar (kk 1) n r) {j x : Int32} (hj : vp_in j n) (hdg : decode cc pc = .ok (.bastore, 1))
    (kx : ∀ (H1 : Heap) (locs1 : List Loc) (b1 : ig_M), b1 = ig_up b i j.toNatClampNeg (vp_nar .boolean x) → ig_Z D kk ad bs s H1 locs1 a la b1 lb lo → W p l e R s m args below meth c H1 locs1 cells slots Q (F0 m (pc + 1) ls rest)) : W p l e R s m args below meth c H locs cells slots Q (F0 m pc ls (.int x :: .int j :: .ref (ad i) :: rest)) := by
  refine va_zast F.1 F.2.1 E.1 (ig_w_P.mp Z.1) (E.hD _) Z.2 i 1 (f := b i) (n := n) (cA := kk 1) (by rw [ig_w_get _ _ hi2, he, ig_mm_b _ _ hi]; rfl) rfl hj hdg (fun H1 locs1 hP _ hS => kx H1 locs1 _ rfl ⟨ig_setZ Z.1 hi2 hP (by rw [ig_rowB hi, he]; rfl) (ig_offB _ _), hS⟩)
/-- an element of a row of references: the cell base + j -/
theorem ig_aald (F : CallFix p m c cc nL s args ig_all own) (E : ig_E D kk ad bs s) (Z : ig_Z D kk ad bs s H locs a la b lb lo) {i n t0 b0 : Nat} {cA : ClassId} {ty : FieldType} (ht : (ig_tys kk)[t0]? = some (cA, ty)) (hty : ty = .object "Intergreen$Phase" ∨ ty = .array .int) (hi : i < 116) (he : ig_c kk ad la lb lo (ig_mm a b i) i = ig_ra cA n (ig_rf ad n b0)) {j : Int32} (hj : vp_in j n) (hdg : decode cc pc = .ok (.aaload, 1))
    (kx : W p l e R s m args below meth c H locs cells slots Q (F0 m (pc + 1) ls (.ref (ad (b0 + j.toNatClampNeg)) :: rest))) : W p l e R s m args below meth c H locs cells slots Q (F0 m pc ls (.int j :: .ref (ad i) :: rest)) := by
  have hlt : j.toNatClampNeg < n := Nat.not_le.mp fun q => hj (Or.inr q)
  have hv : va_rf (ig_rf ad n b0 j.toNatClampNeg) = .ref (ad (b0 + j.toNatClampNeg)) := by unfold ig_rf; rw [if_pos hlt]; rfl
  have hcell := Z.1 i hi
  rw [he] at hcell
  rcases hty with rfl | rfl
  · exact W.aald (v := .ref (ad (b0 + j.toNatClampNeg))) (ty := .object "Intergreen$Phase") F.1 F.2.1 hcell ((E.1.2 t0 _ ht).1 n (fun q => va_rf (ig_rf ad n b0 q))) rfl (fun q => by cases q) (by show ¬ (j < 0 ∨ (arrV _ _ _).slots.size ≤ _); rw [arrV_size]; exact hj) (by show (arrV _ _ _).slots[_]? = _; rw [arrV_read _ _ hlt, hv]) rfl rfl hdg kx
  · exact W.aald (v := .ref (ad (b0 + j.toNatClampNeg))) (ty := .array .int) F.1 F.2.1 hcell ((E.1.2 t0 _ ht).1 n (fun q => va_rf (ig_rf ad n b0 q))) rfl (fun q => by cases q) (by show ¬ (j < 0 ∨ (arrV _ _ _).slots.size ≤ _); rw [arrV_size]; exact hj) (by show (arrV _ _ _).slots[_]? = _; rw [arrV_read _ _ hlt, hv]) rfl rfl hdg kx
theorem ig_alen (F : CallFix p m c cc nL s args ig_all own) (E : ig_E D kk ad bs s) (Z : ig_Z D kk ad bs s H locs a la b lb lo) {i n : Nat} {f : Nat → Int32} (hi : i < 116) (he : ig_c kk ad la lb lo (ig_mm a b i) i = ig_ar (kk 0) n f) {v : Int32} (hv : Int32.ofNat n = v) (hdg : decode cc pc = .ok (.arraylength, 1))
    (kx : W p l e R s m args below meth c H locs cells slots Q (F0 m (pc + 1) ls (.int v :: rest))) : W p l e R s m args below meth c H locs cells slots Q (F0 m pc ls (.ref (ad i) :: rest)) :=
  va_alen (ty := .int) F.1 F.2.1 E.1 (ig_w_P.mp Z.1) i 0 (by rw [ig_w_get _ _ hi, he]; rfl) rfl hv hdg kx
/-! calls -/
theorem ig_recv (E : ig_E D kk ad bs s) (Z : ig_Z D kk ad bs s H locs a la b lb lo) {i ci : Nat} {q : vw_C} {fs : List Value} (hi : i < 116) (he : ig_c kk ad la lb lo (ig_mm a b i) i = .inr (ci, fs)) (hc : vwCl[ci]? = some q) : ∃ cell : Cell, H[ad i]? = some cell ∧ cell.vm.isStatics = false ∧ s.vm.findClass q.1 = some cell.cls :=
  va_recv E.1 (ig_w_P.mp Z.1) hc (q0 := i) (by rw [ig_w_get _ _ hi, he])
theorem ig_preV (E : ig_E D kk ad bs s) (Z : ig_Z D kk ad bs s H locs a la b lb lo) {i ci : Nat} {q : vw_C} {fs As : List Value} (hi : i < 116) (he : ig_c kk ad la lb lo (ig_mm a b i) i = .inr (ci, fs)) (hc : vwCl[ci]? = some q) : PreV s H q.1 (ad i) (va_Pc (.ref (ad i) :: As) (ig_Wd D kk ad bs a la b lb lo)) As :=
  ⟨ig_blind _, ig_recv E Z hi he hc, fun _ hU hW => ⟨rfl, Z.wd E hU hW⟩⟩
theorem ig_preS (E : ig_E D kk ad bs s) (Z : ig_Z D kk ad bs s H locs a la b lb lo) {As : List Value} : PreS s H (va_Pc As (ig_Wd D kk ad bs a la b lb lo)) As :=
  ⟨ig_blind _, fun _ hU hW => ⟨rfl, Z.wd E hU hW⟩⟩
theorem ig_calli {S : Type} {post : Int32 → S → Prop} {fa fb : S → ig_M} {fla flb flo : S → Int64} {st0 : List Value} {mc ms : Nat} {av : Array Value} (E : ig_E D kk ad bs s) (Z : ig_Z D kk ad bs s H locs a la b lb lo) (hr : va_Run p l e R s m args below meth c H locs cells slots mc ms (F0 m pc ls st0) rest (va_Qi post (fun u t => ig_Wd D kk ad bs (fa u) (fla u) (fb u) (flb u) (flo u) t) (ig_A bs) av) (ig_A bs))
    (kx : ∀ (r : Int32) (u : S) (H1 : Heap) (locs1 : List Loc), post r u → ig_Z D kk ad bs s H1 locs1 (fa u) (fla u) (fb u) (flb u) (flo u) → W p l e R s m args below meth c H1 locs1 (cells + mc) (slots + ms) Q (F0 m (pc + 3) ls (.int r :: rest))) : W p l e R s m args below meth c H locs cells slots Q (F0 m pc ls st0) :=
  va_calli hr Z.2 (fun _ _ h => h) (fun _ h => h) (fun r u t H1 locs1 ht _ hp hB _ _ hS => kx r u H1 locs1 hp ⟨by rw [← ht]; exact hB.2, hS⟩)
theorem ig_calll {S : Type} {post : Int64 → S → Prop} {fa fb : S → ig_M} {fla flb flo : S → Int64} {st0 : List Value} {mc ms : Nat} {av : Array Value} (E : ig_E D kk ad bs s) (Z : ig_Z D kk ad bs s H locs a la b lb lo) (hr : va_Run p l e R s m args below meth c H locs cells slots mc ms (F0 m pc ls st0) rest (va_Ql post (fun u t => ig_Wd D kk ad bs (fa u) (fla u) (fb u) (flb u) (flo u) t) (ig_A bs) av) (ig_A bs))
    (kx : ∀ (r : Int64) (u : S) (H1 : Heap) (locs1 : List Loc), post r u → ig_Z D kk ad bs s H1 locs1 (fa u) (fla u) (fb u) (flb u) (flo u) → W p l e R s m args below meth c H1 locs1 (cells + mc) (slots + ms) Q (F0 m (pc + 3) ls (.long r :: rest))) : W p l e R s m args below meth c H locs cells slots Q (F0 m pc ls st0) :=
  va_calll hr Z.2 (fun _ _ h => h) (fun _ h => h) (fun r u t H1 locs1 ht _ hp hB _ _ hS => kx r u H1 locs1 hp ⟨by rw [← ht]; exact hB.2, hS⟩)
theorem ig_callv {S : Type} {post : S → Prop} {fa fb : S → ig_M} {fla flb flo : S → Int64} {st0 : List Value} {mc ms : Nat} {av : Array Value} (E : ig_E D kk ad bs s) (Z : ig_Z D kk ad bs s H locs a la b lb lo) (hr : va_Run p l e R s m args below meth c H locs cells slots mc ms (F0 m pc ls st0) rest (va_Qv post (fun u t => ig_Wd D kk ad bs (fa u) (fla u) (fb u) (flb u) (flo u) t) (ig_A bs) av) (ig_A bs))
    (kx : ∀ (u : S) (H1 : Heap) (locs1 : List Loc), post u → ig_Z D kk ad bs s H1 locs1 (fa u) (fla u) (fb u) (flb u) (flo u) → W p l e R s m args below meth c H1 locs1 (cells + mc) (slots + ms) Q (F0 m (pc + 3) ls rest)) : W p l e R s m args below meth c H locs cells slots Q (F0 m pc ls st0) :=
  va_callv hr Z.2 (fun _ _ h => h) (fun _ h => h) (fun u t H1 locs1 ht _ hp hB _ _ hS => kx u H1 locs1 hp ⟨by rw [← ht]; exact hB.2, hS⟩)
variable {y : MethodName} {bytes : ByteArray} {maxL mc ms n index : Nat} {ret : Option FieldType} {rm : Room} {Qc : Array Value → State → Outcome → State → Prop} {As : List Value}
/-- a virtual call of a method of the pool's object i -/
theorem ig_runV (F : CallFix p m c cc nL s args ig_all own) (E : ig_E D kk ad bs s) (Z : ig_Z D kk ad bs s H locs a la b lb lo) {lv : List (Nat × Value)} (hl : lv_has ls nL lv) {i ci : Nat} {q : vw_C} {fs : List Value} (G : GoodIn ig_all (wsV own index q.1 y (ig_ws y bytes maxL ret))) (hM : Met l y (ig_ws y bytes maxL ret) rm (va_Pc (.ref (ad i) :: As) (ig_Wd D kk ad bs a la b lb lo)) Qc mc ms (ig_A bs)) (hi : i < 116) (he : ig_c kk ad la lb lo (ig_mm a b i) i = .inr (ci, fs)) (hc : vwCl[ci]? = some q)
    (hd : y.cls = q.1 ∧ y.cls ≠ "java/lang/invoke/MethodHandle" ∧ y.cls ≠ "java/lang/invoke/VarHandle" ∧ (parseMethodDescriptor y.desc).map (fun d => d.parameters.length) = some As.length) (hrm : rm.cells = mc ∧ rm.slots = ms) (hR : rm.frames + 1 ≤ R.frames ∧ 8 + (maxL + 11) + rm.locals ≤ R.locals) (hrest : (rest.map fun v => v.category).sum ≤ 8) (hdg : decode cc pc = .ok (.invokevirtual index, 3)) (hf : cells + mc ≤ R.cells ∧ slots + ms ≤ R.slots) :
    va_Run p l e R s m args below meth c H locs cells slots mc ms (F0 m pc ls (As.reverse ++ .ref (ad i) :: rest)) rest (Qc (Value.ref (ad i) :: As).toArray) (ig_A bs) :=
  va_runV F hM (cwV As.length F.2.2.2.2 G rfl hrm.1 hrm.2 hd hR) (ig_preV E Z hi he hc) rfl rfl hl.1 rfl (lv_room hrest) hdg hf
/-- a static call in the same class -/
theorem ig_runS (F : CallFix p m c cc nL s args ig_all own) (E : ig_E D kk ad bs s) (Z : ig_Z D kk ad bs s H locs a la b lb lo) {lv : List (Nat × Value)} (hl : lv_has ls nL lv) (G : GoodIn ig_all (wsS own index y (ig_ws y bytes maxL ret))) (hM : Met l y (ig_ws y bytes maxL ret) rm (va_Pc As (ig_Wd D kk ad bs a la b lb lo)) Qc mc ms (ig_A bs))
    (hd : y.cls = own ∧ y.cls ≠ "java/lang/invoke/MethodHandle" ∧ y.cls ≠ "java/lang/invoke/VarHandle" ∧ (parseMethodDescriptor y.desc).map (fun d => d.parameters.length) = some As.length) (hrm : rm.cells = mc ∧ rm.slots = ms) (hR : rm.frames + 1 ≤ R.frames ∧ 8 + (maxL + 11) + rm.locals ≤ R.locals) (hrest : (rest.map fun v => v.category).sum ≤ 8) (hdg : decode cc pc = .ok (.invokestatic index, 3)) (hf : cells + mc ≤ R.cells ∧ slots + ms ≤ R.slots) :
    va_Run p l e R s m args below meth c H locs cells slots mc ms (F0 m pc ls (As.reverse ++ rest)) rest (Qc As.toArray) (ig_A bs) :=
  va_runS F hM (cwS As.length F.2.2.2.2 G rfl hrm.1 hrm.2 hd hR) (ig_preS E Z) rfl rfl hl.1 rfl (lv_room hrest) hdg hf
/-- a static call of a nest mate's method -/
theorem ig_runSN (F : CallFix p m c cc nL s args ig_all own) (E : ig_E D kk ad bs s) (Z : ig_Z D kk ad bs s H locs a la b lb lo) {lv : List (Nat × Value)} (hl : lv_has ls nL lv) {host : String} (h0 : (own, index, y, host) ∈ ig_nm) (G : GoodIn ig_all (ig_ws y bytes maxL ret)) (hini : Cond.initialized y.cls ∈ ig_all) (hst : Cond.static y ∈ ig_all) (hM : Met l y (ig_ws y bytes maxL ret) rm (va_Pc As (ig_Wd D kk ad bs a la b lb lo)) Qc mc ms (ig_A bs))
    (hd : y.cls ≠ "java/lang/invoke/MethodHandle" ∧ y.cls ≠ "java/lang/invoke/VarHandle" ∧ (parseMethodDescriptor y.desc).map (fun d => d.parameters.length) = some As.length) (hrm : rm.cells = mc ∧ rm.slots = ms) (hR : rm.frames + 1 ≤ R.frames ∧ 8 + (maxL + 11) + rm.locals ≤ R.locals) (hrest : (rest.map fun v => v.category).sum ≤ 8) (hdg : decode cc pc = .ok (.invokestatic index, 3)) (hf : cells + mc ≤ R.cells ∧ slots + ms ≤ R.slots) :
    va_Run p l e R s m args below meth c H locs cells slots mc ms (F0 m pc ls (As.reverse ++ rest)) rest (Qc As.toArray) (ig_A bs) :=
  va_runSN F hM ⟨va_cnB As.length F.2.2.2.2 G rfl hrm.1 hrm.2 (E.2.2.2.1.1 _ h0) (F.2.2.2.2 _ hini) hd hR, F.2.2.2.2 _ hst, trivial⟩ (ig_preS E Z) rfl rfl hl.1 rfl (lv_room hrest) hdg hf
end IGR
theorem ig_narrow {v : Int32} (h : v = 0 ∨ v = 1) : narrow .boolean (.int v) = .int v := by
  rcases h with rfl | rfl <;> decide
end
section
section IGL
variable {p : Program} {l : Launch} {e : Env} {R : Room} {s : State} {m : MethodId} {args : Array Value} {below : List Frame} {meth : Method} {c : Code} {H : Heap} {locs : List Loc} {cells slots : Nat} {Q : State → Prop}
variable {D : va_G} {kk : Nat → ClassId} {ad : Nat → Nat} {bs : Nat} {a b : ig_M} {la lb lo : Int64}
variable {cc : ByteArray} {nL : Nat} {pc : Nat} {ls : Array Slot} {rest : List Value}
theorem in_X0 : ∀ w ∈ u_ws RX0 TX0 9, w ∈ ig_all := by decide +kernel
theorem in_X1 : ∀ w ∈ u_ws RX1 TX1 1, w ∈ ig_all := by decide +kernel
theorem in_X2 : ∀ w ∈ u_ws RX2 TX2 12, w ∈ ig_all := by decide +kernel
theorem in_X3 : ∀ w ∈ u_ws RX3 TX3 5, w ∈ ig_all := by decide +kernel
theorem in_X4 : ∀ w ∈ u_ws RX4 TX4 3, w ∈ ig_all := by decide +kernel
theorem in_X5 : ∀ w ∈ u_ws RX5 TX5 4, w ∈ ig_all := by decide +kernel
theorem in_X6 : ∀ w ∈ u_ws RX6 TX6 27, w ∈ ig_all := by decide +kernel
theorem ig_k_0 (kk : Nat → ClassId) (ad : Nat → Nat) (la lb lo : Int64) (r : Nat → Int32) : ig_c kk ad la lb lo r 0 = .inr (5, ig_f5 ad) := rfl
theorem ig_k_1 (kk : Nat → ClassId) (ad : Nat → Nat) (la lb lo : Int64) (r : Nat → Int32) : ig_c kk ad la lb lo r 1 = .inr (3, ig_f3 ad r) := rfl
theorem ig_k_21 (kk : Nat → ClassId) (ad : Nat → Nat) (la lb lo : Int64) (r : Nat → Int32) : ig_c kk ad la lb lo r 21 = .inr (1, ig_f1 ad) := rfl
theorem ig_k_23 (kk : Nat → ClassId) (ad : Nat → Nat) (la lb lo : Int64) (r : Nat → Int32) : ig_c kk ad la lb lo r 23 = .inr (0, ig_f0 ad la r) := rfl
theorem ig_k_24 (kk : Nat → ClassId) (ad : Nat → Nat) (la lb lo : Int64) (r : Nat → Int32) : ig_c kk ad la lb lo r 24 = .inr (4, ig_f4 ad) := rfl
theorem ig_k_97 (kk : Nat → ClassId) (ad : Nat → Nat) (la lb lo : Int64) (r : Nat → Int32) : ig_c kk ad la lb lo r 97 = .inr (6, ig_f6 ad lb r) := rfl
theorem ig_k_2 (kk : Nat → ClassId) (ad : Nat → Nat) (la lb lo : Int64) (r : Nat → Int32) : ig_c kk ad la lb lo r 2 = ig_ra (kk 3) 8 (ig_rf ad 8 3) := rfl
theorem ig_k_11 (kk : Nat → ClassId) (ad : Nat → Nat) (la lb lo : Int64) (r : Nat → Int32) : ig_c kk ad la lb lo r 11 = ig_ra (kk 4) 8 (ig_rf ad 8 12) := rfl
theorem ig_k_25 (kk : Nat → ClassId) (ad : Nat → Nat) (la lb lo : Int64) (r : Nat → Int32) : ig_c kk ad la lb lo r 25 = ig_ra (kk 4) 6 (ig_rf ad 6 26) := rfl
theorem ig_k_32 (kk : Nat → ClassId) (ad : Nat → Nat) (la lb lo : Int64) (r : Nat → Int32) : ig_c kk ad la lb lo r 32 = ig_ra (kk 4) 64 (ig_rf ad 64 33) := rfl
theorem ig_k_20 (kk : Nat → ClassId) (ad : Nat → Nat) (la lb lo : Int64) (r : Nat → Int32) : ig_c kk ad la lb lo r 20 = ig_ar (kk 0) 6 r := rfl
theorem ig_k_22 (kk : Nat → ClassId) (ad : Nat → Nat) (la lb lo : Int64) (r : Nat → Int32) : ig_c kk ad la lb lo r 22 = ig_ar (kk 0) 5000 r := rfl
theorem ig_k_98 (kk : Nat → ClassId) (ad : Nat → Nat) (la lb lo : Int64) (r : Nat → Int32) : ig_c kk ad la lb lo r 98 = ig_ar (kk 0) 8 r := rfl
theorem ig_k_99 (kk : Nat → ClassId) (ad : Nat → Nat) (la lb lo : Int64) (r : Nat → Int32) : ig_c kk ad la lb lo r 99 = ig_ar (kk 0) 8 r := rfl
theorem ig_k_100 (kk : Nat → ClassId) (ad : Nat → Nat) (la lb lo : Int64) (r : Nat → Int32) : ig_c kk ad la lb lo r 100 = ig_ar (kk 0) 8 r := rfl
theorem ig_k_101 (kk : Nat → ClassId) (ad : Nat → Nat) (la lb lo : Int64) (r : Nat → Int32) : ig_c kk ad la lb lo r 101 = ig_ar (kk 0) 64 r := rfl
theorem ig_k_102 (kk : Nat → ClassId) (ad : Nat → Nat) (la lb lo : Int64) (r : Nat → Int32) : ig_c kk ad la lb lo r 102 = ig_ar (kk 0) 6 r := rfl
theorem ig_k_103 (kk : Nat → ClassId) (ad : Nat → Nat) (la lb lo : Int64) (r : Nat → Int32) : ig_c kk ad la lb lo r 103 = ig_ar (kk 0) 8 r := rfl
theorem ig_k_104 (kk : Nat → ClassId) (ad : Nat → Nat) (la lb lo : Int64) (r : Nat → Int32) : ig_c kk ad la lb lo r 104 = ig_ar (kk 0) 8 r := rfl
theorem ig_k_105 (kk : Nat → ClassId) (ad : Nat → Nat) (la lb lo : Int64) (r : Nat → Int32) : ig_c kk ad la lb lo r 105 = ig_ar (kk 0) 8 r := rfl
theorem ig_k_106 (kk : Nat → ClassId) (ad : Nat → Nat) (la lb lo : Int64) (r : Nat → Int32) : ig_c kk ad la lb lo r 106 = ig_ar (kk 0) 8 r := rfl
theorem ig_k_107 (kk : Nat → ClassId) (ad : Nat → Nat) (la lb lo : Int64) (r : Nat → Int32) : ig_c kk ad la lb lo r 107 = ig_ar (kk 0) 8 r := rfl
theorem ig_k_108 (kk : Nat → ClassId) (ad : Nat → Nat) (la lb lo : Int64) (r : Nat → Int32) : ig_c kk ad la lb lo r 108 = ig_ar (kk 0) 8 r := rfl
theorem ig_k_109 (kk : Nat → ClassId) (ad : Nat → Nat) (la lb lo : Int64) (r : Nat → Int32) : ig_c kk ad la lb lo r 109 = ig_ar (kk 0) 8 r := rfl
theorem ig_k_110 (kk : Nat → ClassId) (ad : Nat → Nat) (la lb lo : Int64) (r : Nat → Int32) : ig_c kk ad la lb lo r 110 = ig_ar (kk 1) 8 r := rfl
theorem ig_k_111 (kk : Nat → ClassId) (ad : Nat → Nat) (la lb lo : Int64) (r : Nat → Int32) : ig_c kk ad la lb lo r 111 = ig_ar (kk 1) 24 r := rfl
theorem ig_k_112 (kk : Nat → ClassId) (ad : Nat → Nat) (la lb lo : Int64) (r : Nat → Int32) : ig_c kk ad la lb lo r 112 = ig_ar (kk 0) 5000 r := rfl
theorem ig_k_113 (kk : Nat → ClassId) (ad : Nat → Nat) (la lb lo : Int64) (r : Nat → Int32) : ig_c kk ad la lb lo r 113 = ig_ar (kk 0) 6 r := rfl
theorem ig_k_114 (kk : Nat → ClassId) (ad : Nat → Nat) (la lb lo : Int64) (r : Nat → Int32) : ig_c kk ad la lb lo r 114 = ig_ar (kk 0) 6 r := rfl
theorem mw_0 : Cond.code ⟨"Intergreen", "isWithin", "(III)Z"⟩ prog_1_method_23_code 3 (Option.some Jvm.ClassFile.FieldType.boolean) ∈ ig_all := ig_in (List.mem_append_right _ (List.mem_of_getElem? (i := 220) (by decide +kernel))) rfl
theorem mw_1 : Cond.methodLink "Intergreen" 41 ⟨"Intergreen", "isWithin", "(III)Z"⟩ ∈ ig_all := ig_in (List.mem_append_right _ (List.mem_of_getElem? (i := 277) (by decide +kernel))) rfl
theorem mw_2 : Cond.static ⟨"Intergreen", "isWithin", "(III)Z"⟩ ∈ ig_all := ig_in (List.mem_append_right _ (List.mem_of_getElem? (i := 219) (by decide +kernel))) rfl
theorem mw_3 : Cond.initialized "Intergreen" ∈ ig_all := ig_in (List.mem_append_right _ (List.mem_of_getElem? (i := 1) (by decide +kernel))) rfl
theorem G_X5_41 : GoodIn ig_all (wsS RX5 41 yX5_isWithin (ig_ws yX5_isWithin cX5_isWithin 3 (some .boolean))) := ig_LS mw_1 mw_2 mw_3 mw_0
theorem mw_4 : Cond.fieldLink "Intergreen" 28 "Intergreen" "lights" "LIntergreen$Lights;" ∈ ig_all := ig_in (List.mem_append_right _ (List.mem_of_getElem? (i := 175) (by decide +kernel))) rfl
theorem gf_X5_28 (F : CallFix p m c cc nL s args ig_all RX5) (E : ig_E D kk ad bs s) (Z : ig_Z D kk ad bs s H locs a la b lb lo) (hdg : decode cc pc = .ok (.getfield 28, 3)) (kx : W p l e R s m args below meth c H locs cells slots Q (F0 m (pc + 3) ls (.ref (ad 23) :: rest))) : W p l e R s m args below meth c H locs cells slots Q (F0 m pc ls (.ref (ad 0) :: rest)) := ig_get (T := TX5) (N := 4) F E Z (i := 0) (by decide) (ig_k_0 _ _ _ _ _ _) rfl in_X5 2 (by decide) mw_4 rfl hdg kx
theorem mw_5 : Cond.fieldLink "Intergreen" 52 "Intergreen$Lights" "wereStarted" "Z" ∈ ig_all := ig_in (List.mem_append_right _ (List.mem_of_getElem? (i := 127) (by decide +kernel))) rfl
theorem gf_X5_52 (F : CallFix p m c cc nL s args ig_all RX5) (E : ig_E D kk ad bs s) (Z : ig_Z D kk ad bs s H locs a la b lb lo) (hdg : decode cc pc = .ok (.getfield 52, 3)) (kx : W p l e R s m args below meth c H locs cells slots Q (F0 m (pc + 3) ls (.int (a 23 4) :: rest))) : W p l e R s m args below meth c H locs cells slots Q (F0 m pc ls (.ref (ad 23) :: rest)) := ig_get (T := TX0) (N := 9) F E Z (i := 23) (by decide) (ig_k_23 _ _ _ _ _ _) rfl in_X0 4 (by decide) mw_5 rfl hdg kx
theorem mw_6 : Cond.fieldLink "Intergreen" 10 "Intergreen" "plan" "LIntergreen$Plan;" ∈ ig_all := ig_in (List.mem_append_right _ (List.mem_of_getElem? (i := 173) (by decide +kernel))) rfl
theorem gf_X5_10 (F : CallFix p m c cc nL s args ig_all RX5) (E : ig_E D kk ad bs s) (Z : ig_Z D kk ad bs s H locs a la b lb lo) (hdg : decode cc pc = .ok (.getfield 10, 3)) (kx : W p l e R s m args below meth c H locs cells slots Q (F0 m (pc + 3) ls (.ref (ad 1) :: rest))) : W p l e R s m args below meth c H locs cells slots Q (F0 m pc ls (.ref (ad 0) :: rest)) := ig_get (T := TX5) (N := 4) F E Z (i := 0) (by decide) (ig_k_0 _ _ _ _ _ _) rfl in_X5 0 (by decide) mw_6 rfl hdg kx
theorem mw_7 : Cond.fieldLink "Intergreen" 56 "Intergreen$Plan" "phaseCount" "I" ∈ ig_all := ig_in (List.mem_append_right _ (List.mem_of_getElem? (i := 86) (by decide +kernel))) rfl
theorem gf_X5_56 (F : CallFix p m c cc nL s args ig_all RX5) (E : ig_E D kk ad bs s) (Z : ig_Z D kk ad bs s H locs a la b lb lo) (hdg : decode cc pc = .ok (.getfield 56, 3)) (kx : W p l e R s m args below meth c H locs cells slots Q (F0 m (pc + 3) ls (.int (a 1 1) :: rest))) : W p l e R s m args below meth c H locs cells slots Q (F0 m pc ls (.ref (ad 1) :: rest)) := ig_get (T := TX3) (N := 5) F E Z (i := 1) (by decide) (ig_k_1 _ _ _ _ _ _) rfl in_X3 1 (by decide) mw_7 rfl hdg kx
theorem mw_8 : Cond.code ⟨"Intergreen$Plan", "addPhase", "(III)I"⟩ prog_5_method_2_code 5 (Option.some Jvm.ClassFile.FieldType.int) ∈ ig_all := ig_in (List.mem_append_right _ (List.mem_of_getElem? (i := 365) (by decide +kernel))) rfl
theorem mw_9 : Cond.methodLink "Intergreen" 65 ⟨"Intergreen$Plan", "addPhase", "(III)I"⟩ ∈ ig_all := ig_in (List.mem_append_right _ (List.mem_of_getElem? (i := 362) (by decide +kernel))) rfl
theorem mw_10 : Cond.instanceMethod ⟨"Intergreen$Plan", "addPhase", "(III)I"⟩ ∈ ig_all := ig_in (List.mem_append_right _ (List.mem_of_getElem? (i := 363) (by decide +kernel))) rfl
theorem mw_11 : Cond.selects "Intergreen$Plan" ⟨"Intergreen$Plan", "addPhase", "(III)I"⟩ ⟨"Intergreen$Plan", "addPhase", "(III)I"⟩ ∈ ig_all := ig_in (List.mem_append_right _ (List.mem_of_getElem? (i := 364) (by decide +kernel))) rfl
theorem mw_12 : Cond.initialized "Intergreen$Plan" ∈ ig_all := ig_in (List.mem_append_right _ (List.mem_of_getElem? (i := 2) (by decide +kernel))) rfl
theorem G_X5_65 : GoodIn ig_all (wsV RX5 65 RX3 yX3_addPhase (ig_ws yX3_addPhase cX3_addPhase 5 (some .int))) := ig_LV mw_9 mw_10 mw_11 mw_12 mw_8
theorem mw_13 : Cond.code ⟨"Intergreen", "needPhase", "(I)V"⟩ prog_1_method_25_code 2 (Option.none : Option Jvm.ClassFile.FieldType) ∈ ig_all := ig_in (List.mem_append_right _ (List.mem_of_getElem? (i := 377) (by decide +kernel))) rfl
theorem mw_14 : Cond.methodLink "Intergreen" 69 ⟨"Intergreen", "needPhase", "(I)V"⟩ ∈ ig_all := ig_in (List.mem_append_right _ (List.mem_of_getElem? (i := 374) (by decide +kernel))) rfl
theorem mw_15 : Cond.instanceMethod ⟨"Intergreen", "needPhase", "(I)V"⟩ ∈ ig_all := ig_in (List.mem_append_right _ (List.mem_of_getElem? (i := 376) (by decide +kernel))) rfl
theorem mw_16 : Cond.selects "Intergreen" ⟨"Intergreen", "needPhase", "(I)V"⟩ ⟨"Intergreen", "needPhase", "(I)V"⟩ ∈ ig_all := ig_in (List.mem_append_left _ (List.mem_of_getElem? (i := 8) (by decide +kernel))) rfl
theorem G_X5_69 : GoodIn ig_all (wsV RX5 69 RX5 yX5_needPhase (ig_ws yX5_needPhase cX5_needPhase 2 none)) := ig_LV mw_14 mw_15 mw_16 mw_3 mw_13
theorem mw_17 : Cond.code ⟨"Intergreen$Plan", "hasStageWithBoth", "(II)Z"⟩ prog_5_method_7_code 4 (Option.some Jvm.ClassFile.FieldType.boolean) ∈ ig_all := ig_in (List.mem_append_right _ (List.mem_of_getElem? (i := 398) (by decide +kernel))) rfl
theorem mw_18 : Cond.methodLink "Intergreen" 75 ⟨"Intergreen$Plan", "hasStageWithBoth", "(II)Z"⟩ ∈ ig_all := ig_in (List.mem_append_right _ (List.mem_of_getElem? (i := 395) (by decide +kernel))) rfl
theorem mw_19 : Cond.instanceMethod ⟨"Intergreen$Plan", "hasStageWithBoth", "(II)Z"⟩ ∈ ig_all := ig_in (List.mem_append_right _ (List.mem_of_getElem? (i := 396) (by decide +kernel))) rfl
theorem mw_20 : Cond.selects "Intergreen$Plan" ⟨"Intergreen$Plan", "hasStageWithBoth", "(II)Z"⟩ ⟨"Intergreen$Plan", "hasStageWithBoth", "(II)Z"⟩ ∈ ig_all := ig_in (List.mem_append_right _ (List.mem_of_getElem? (i := 397) (by decide +kernel))) rfl
theorem G_X5_75 : GoodIn ig_all (wsV RX5 75 RX3 yX3_hasStageWithBoth (ig_ws yX3_hasStageWithBoth cX3_hasStageWithBoth 4 (some .boolean))) := ig_LV mw_18 mw_19 mw_20 mw_12 mw_17
theorem mw_21 : Cond.code ⟨"Intergreen$Plan", "setBetween", "(III)V"⟩ prog_5_method_3_code 4 (Option.none : Option Jvm.ClassFile.FieldType) ∈ ig_all := ig_in (List.mem_append_right _ (List.mem_of_getElem? (i := 403) (by decide +kernel))) rfl
theorem mw_22 : Cond.methodLink "Intergreen" 81 ⟨"Intergreen$Plan", "setBetween", "(III)V"⟩ ∈ ig_all := ig_in (List.mem_append_right _ (List.mem_of_getElem? (i := 400) (by decide +kernel))) rfl
theorem mw_23 : Cond.instanceMethod ⟨"Intergreen$Plan", "setBetween", "(III)V"⟩ ∈ ig_all := ig_in (List.mem_append_right _ (List.mem_of_getElem? (i := 401) (by decide +kernel))) rfl
theorem mw_24 : Cond.selects "Intergreen$Plan" ⟨"Intergreen$Plan", "setBetween", "(III)V"⟩ ⟨"Intergreen$Plan", "setBetween", "(III)V"⟩ ∈ ig_all := ig_in (List.mem_append_right _ (List.mem_of_getElem? (i := 402) (by decide +kernel))) rfl
theorem G_X5_81 : GoodIn ig_all (wsV RX5 81 RX3 yX3_setBetween (ig_ws yX3_setBetween cX3_setBetween 4 none)) := ig_LV mw_22 mw_23 mw_24 mw_12 mw_21
theorem mw_25 : Cond.code ⟨"Intergreen$Plan", "hasTwoThatMeet", "(I)Z"⟩ prog_5_method_8_code 3 (Option.some Jvm.ClassFile.FieldType.boolean) ∈ ig_all := ig_in (List.mem_append_right _ (List.mem_of_getElem? (i := 415) (by decide +kernel))) rfl
theorem mw_26 : Cond.methodLink "Intergreen" 87 ⟨"Intergreen$Plan", "hasTwoThatMeet", "(I)Z"⟩ ∈ ig_all := ig_in (List.mem_append_right _ (List.mem_of_getElem? (i := 412) (by decide +kernel))) rfl
theorem mw_27 : Cond.instanceMethod ⟨"Intergreen$Plan", "hasTwoThatMeet", "(I)Z"⟩ ∈ ig_all := ig_in (List.mem_append_right _ (List.mem_of_getElem? (i := 413) (by decide +kernel))) rfl
theorem mw_28 : Cond.selects "Intergreen$Plan" ⟨"Intergreen$Plan", "hasTwoThatMeet", "(I)Z"⟩ ⟨"Intergreen$Plan", "hasTwoThatMeet", "(I)Z"⟩ ∈ ig_all := ig_in (List.mem_append_right _ (List.mem_of_getElem? (i := 414) (by decide +kernel))) rfl
theorem G_X5_87 : GoodIn ig_all (wsV RX5 87 RX3 yX3_hasTwoThatMeet (ig_ws yX3_hasTwoThatMeet cX3_hasTwoThatMeet 3 (some .boolean))) := ig_LV mw_26 mw_27 mw_28 mw_12 mw_25
theorem mw_29 : Cond.fieldLink "Intergreen" 91 "Intergreen$Plan" "stageCount" "I" ∈ ig_all := ig_in (List.mem_append_right _ (List.mem_of_getElem? (i := 92) (by decide +kernel))) rfl
theorem gf_X5_91 (F : CallFix p m c cc nL s args ig_all RX5) (E : ig_E D kk ad bs s) (Z : ig_Z D kk ad bs s H locs a la b lb lo) (hdg : decode cc pc = .ok (.getfield 91, 3)) (kx : W p l e R s m args below meth c H locs cells slots Q (F0 m (pc + 3) ls (.int (a 1 4) :: rest))) : W p l e R s m args below meth c H locs cells slots Q (F0 m pc ls (.ref (ad 1) :: rest)) := ig_get (T := TX3) (N := 5) F E Z (i := 1) (by decide) (ig_k_1 _ _ _ _ _ _) rfl in_X3 4 (by decide) mw_29 rfl hdg kx
theorem mw_30 : Cond.code ⟨"Intergreen$Plan", "addStage", "(I)I"⟩ prog_5_method_6_code 2 (Option.some Jvm.ClassFile.FieldType.int) ∈ ig_all := ig_in (List.mem_append_right _ (List.mem_of_getElem? (i := 420) (by decide +kernel))) rfl
theorem mw_31 : Cond.methodLink "Intergreen" 96 ⟨"Intergreen$Plan", "addStage", "(I)I"⟩ ∈ ig_all := ig_in (List.mem_append_right _ (List.mem_of_getElem? (i := 417) (by decide +kernel))) rfl
theorem mw_32 : Cond.instanceMethod ⟨"Intergreen$Plan", "addStage", "(I)I"⟩ ∈ ig_all := ig_in (List.mem_append_right _ (List.mem_of_getElem? (i := 418) (by decide +kernel))) rfl
theorem mw_33 : Cond.selects "Intergreen$Plan" ⟨"Intergreen$Plan", "addStage", "(I)I"⟩ ⟨"Intergreen$Plan", "addStage", "(I)I"⟩ ∈ ig_all := ig_in (List.mem_append_right _ (List.mem_of_getElem? (i := 419) (by decide +kernel))) rfl
theorem G_X5_96 : GoodIn ig_all (wsV RX5 96 RX3 yX3_addStage (ig_ws yX3_addStage cX3_addStage 2 (some .int))) := ig_LV mw_31 mw_32 mw_33 mw_12 mw_30
theorem mw_34 : Cond.code ⟨"Intergreen", "needStage", "(I)V"⟩ prog_1_method_26_code 2 (Option.none : Option Jvm.ClassFile.FieldType) ∈ ig_all := ig_in (List.mem_append_right _ (List.mem_of_getElem? (i := 431) (by decide +kernel))) rfl
theorem mw_35 : Cond.methodLink "Intergreen" 100 ⟨"Intergreen", "needStage", "(I)V"⟩ ∈ ig_all := ig_in (List.mem_append_right _ (List.mem_of_getElem? (i := 428) (by decide +kernel))) rfl
theorem mw_36 : Cond.instanceMethod ⟨"Intergreen", "needStage", "(I)V"⟩ ∈ ig_all := ig_in (List.mem_append_right _ (List.mem_of_getElem? (i := 430) (by decide +kernel))) rfl
theorem mw_37 : Cond.selects "Intergreen" ⟨"Intergreen", "needStage", "(I)V"⟩ ⟨"Intergreen", "needStage", "(I)V"⟩ ∈ ig_all := ig_in (List.mem_append_left _ (List.mem_of_getElem? (i := 9) (by decide +kernel))) rfl
theorem G_X5_100 : GoodIn ig_all (wsV RX5 100 RX5 yX5_needStage (ig_ws yX5_needStage cX5_needStage 2 none)) := ig_LV mw_35 mw_36 mw_37 mw_3 mw_34
theorem mw_38 : Cond.code ⟨"Intergreen$Lights", "areWorking", "()Z"⟩ prog_2_method_2_code 1 (Option.some Jvm.ClassFile.FieldType.boolean) ∈ ig_all := ig_in (List.mem_append_right _ (List.mem_of_getElem? (i := 436) (by decide +kernel))) rfl
theorem mw_39 : Cond.methodLink "Intergreen" 103 ⟨"Intergreen$Lights", "areWorking", "()Z"⟩ ∈ ig_all := ig_in (List.mem_append_right _ (List.mem_of_getElem? (i := 433) (by decide +kernel))) rfl
theorem mw_40 : Cond.instanceMethod ⟨"Intergreen$Lights", "areWorking", "()Z"⟩ ∈ ig_all := ig_in (List.mem_append_right _ (List.mem_of_getElem? (i := 434) (by decide +kernel))) rfl
theorem mw_41 : Cond.selects "Intergreen$Lights" ⟨"Intergreen$Lights", "areWorking", "()Z"⟩ ⟨"Intergreen$Lights", "areWorking", "()Z"⟩ ∈ ig_all := ig_in (List.mem_append_right _ (List.mem_of_getElem? (i := 435) (by decide +kernel))) rfl
theorem mw_42 : Cond.initialized "Intergreen$Lights" ∈ ig_all := ig_in (List.mem_append_right _ (List.mem_of_getElem? (i := 5) (by decide +kernel))) rfl
theorem G_X5_103 : GoodIn ig_all (wsV RX5 103 RX0 yX0_areWorking (ig_ws yX0_areWorking cX0_areWorking 1 (some .boolean))) := ig_LV mw_39 mw_40 mw_41 mw_42 mw_38
theorem mw_43 : Cond.code ⟨"Intergreen$Lights", "begin", "(I)V"⟩ prog_2_method_3_code 2 (Option.none : Option Jvm.ClassFile.FieldType) ∈ ig_all := ig_in (List.mem_append_right _ (List.mem_of_getElem? (i := 441) (by decide +kernel))) rfl
theorem mw_44 : Cond.methodLink "Intergreen" 109 ⟨"Intergreen$Lights", "begin", "(I)V"⟩ ∈ ig_all := ig_in (List.mem_append_right _ (List.mem_of_getElem? (i := 438) (by decide +kernel))) rfl
theorem mw_45 : Cond.instanceMethod ⟨"Intergreen$Lights", "begin", "(I)V"⟩ ∈ ig_all := ig_in (List.mem_append_right _ (List.mem_of_getElem? (i := 439) (by decide +kernel))) rfl
theorem mw_46 : Cond.selects "Intergreen$Lights" ⟨"Intergreen$Lights", "begin", "(I)V"⟩ ⟨"Intergreen$Lights", "begin", "(I)V"⟩ ∈ ig_all := ig_in (List.mem_append_right _ (List.mem_of_getElem? (i := 440) (by decide +kernel))) rfl
theorem G_X5_109 : GoodIn ig_all (wsV RX5 109 RX0 yX0_begin (ig_ws yX0_begin cX0_begin 2 none)) := ig_LV mw_44 mw_45 mw_46 mw_42 mw_43
theorem mw_47 : Cond.fieldLink "Intergreen" 112 "Intergreen$Lights" "mode" "I" ∈ ig_all := ig_in (List.mem_append_right _ (List.mem_of_getElem? (i := 125) (by decide +kernel))) rfl
theorem gf_X5_112 (F : CallFix p m c cc nL s args ig_all RX5) (E : ig_E D kk ad bs s) (Z : ig_Z D kk ad bs s H locs a la b lb lo) (hdg : decode cc pc = .ok (.getfield 112, 3)) (kx : W p l e R s m args below meth c H locs cells slots Q (F0 m (pc + 3) ls (.int (a 23 2) :: rest))) : W p l e R s m args below meth c H locs cells slots Q (F0 m pc ls (.ref (ad 23) :: rest)) := ig_get (T := TX0) (N := 9) F E Z (i := 23) (by decide) (ig_k_23 _ _ _ _ _ _) rfl in_X0 2 (by decide) mw_47 rfl hdg kx
theorem mw_48 : Cond.code ⟨"Intergreen$Lights", "fallBack", "(I)V"⟩ prog_2_method_4_code 3 (Option.none : Option Jvm.ClassFile.FieldType) ∈ ig_all := ig_in (List.mem_append_right _ (List.mem_of_getElem? (i := 453) (by decide +kernel))) rfl
theorem mw_49 : Cond.methodLink "Intergreen" 117 ⟨"Intergreen$Lights", "fallBack", "(I)V"⟩ ∈ ig_all := ig_in (List.mem_append_right _ (List.mem_of_getElem? (i := 450) (by decide +kernel))) rfl
theorem mw_50 : Cond.instanceMethod ⟨"Intergreen$Lights", "fallBack", "(I)V"⟩ ∈ ig_all := ig_in (List.mem_append_right _ (List.mem_of_getElem? (i := 451) (by decide +kernel))) rfl
theorem mw_51 : Cond.selects "Intergreen$Lights" ⟨"Intergreen$Lights", "fallBack", "(I)V"⟩ ⟨"Intergreen$Lights", "fallBack", "(I)V"⟩ ∈ ig_all := ig_in (List.mem_append_right _ (List.mem_of_getElem? (i := 452) (by decide +kernel))) rfl
theorem G_X5_117 : GoodIn ig_all (wsV RX5 117 RX0 yX0_fallBack (ig_ws yX0_fallBack cX0_fallBack 3 none)) := ig_LV mw_49 mw_50 mw_51 mw_42 mw_48
theorem mw_52 : Cond.fieldLink "Intergreen" 120 "Intergreen$Plan" "phases" "[LIntergreen$Phase;" ∈ ig_all := ig_in (List.mem_append_right _ (List.mem_of_getElem? (i := 84) (by decide +kernel))) rfl
theorem gf_X5_120 (F : CallFix p m c cc nL s args ig_all RX5) (E : ig_E D kk ad bs s) (Z : ig_Z D kk ad bs s H locs a la b lb lo) (hdg : decode cc pc = .ok (.getfield 120, 3)) (kx : W p l e R s m args below meth c H locs cells slots Q (F0 m (pc + 3) ls (.ref (ad 2) :: rest))) : W p l e R s m args below meth c H locs cells slots Q (F0 m pc ls (.ref (ad 1) :: rest)) := ig_get (T := TX3) (N := 5) F E Z (i := 1) (by decide) (ig_k_1 _ _ _ _ _ _) rfl in_X3 0 (by decide) mw_52 rfl hdg kx
theorem mw_53 : Cond.code ⟨"Intergreen$Phase", "pushButton", "()V"⟩ prog_4_method_5_code 1 (Option.none : Option Jvm.ClassFile.FieldType) ∈ ig_all := ig_in (List.mem_append_right _ (List.mem_of_getElem? (i := 468) (by decide +kernel))) rfl
theorem mw_54 : Cond.methodLink "Intergreen" 124 ⟨"Intergreen$Phase", "pushButton", "()V"⟩ ∈ ig_all := ig_in (List.mem_append_right _ (List.mem_of_getElem? (i := 465) (by decide +kernel))) rfl
theorem mw_55 : Cond.instanceMethod ⟨"Intergreen$Phase", "pushButton", "()V"⟩ ∈ ig_all := ig_in (List.mem_append_right _ (List.mem_of_getElem? (i := 466) (by decide +kernel))) rfl
theorem mw_56 : Cond.selects "Intergreen$Phase" ⟨"Intergreen$Phase", "pushButton", "()V"⟩ ⟨"Intergreen$Phase", "pushButton", "()V"⟩ ∈ ig_all := ig_in (List.mem_append_right _ (List.mem_of_getElem? (i := 467) (by decide +kernel))) rfl
theorem mw_57 : Cond.initialized "Intergreen$Phase" ∈ ig_all := ig_in (List.mem_append_right _ (List.mem_of_getElem? (i := 3) (by decide +kernel))) rfl
theorem G_X5_124 : GoodIn ig_all (wsV RX5 124 RX2 yX2_pushButton (ig_ws yX2_pushButton cX2_pushButton 1 none)) := ig_LV mw_54 mw_55 mw_56 mw_57 mw_53
theorem mw_58 : Cond.code ⟨"Intergreen$Phase", "isDemanded", "()Z"⟩ prog_4_method_2_code 1 (Option.some Jvm.ClassFile.FieldType.boolean) ∈ ig_all := ig_in (List.mem_append_right _ (List.mem_of_getElem? (i := 472) (by decide +kernel))) rfl
theorem mw_59 : Cond.methodLink "Intergreen" 129 ⟨"Intergreen$Phase", "isDemanded", "()Z"⟩ ∈ ig_all := ig_in (List.mem_append_right _ (List.mem_of_getElem? (i := 469) (by decide +kernel))) rfl
theorem mw_60 : Cond.instanceMethod ⟨"Intergreen$Phase", "isDemanded", "()Z"⟩ ∈ ig_all := ig_in (List.mem_append_right _ (List.mem_of_getElem? (i := 470) (by decide +kernel))) rfl
theorem mw_61 : Cond.selects "Intergreen$Phase" ⟨"Intergreen$Phase", "isDemanded", "()Z"⟩ ⟨"Intergreen$Phase", "isDemanded", "()Z"⟩ ∈ ig_all := ig_in (List.mem_append_right _ (List.mem_of_getElem? (i := 471) (by decide +kernel))) rfl
theorem G_X5_129 : GoodIn ig_all (wsV RX5 129 RX2 yX2_isDemanded (ig_ws yX2_isDemanded cX2_isDemanded 1 (some .boolean))) := ig_LV mw_59 mw_60 mw_61 mw_57 mw_58
theorem mw_62 : Cond.fieldLink "Intergreen" 134 "Intergreen$Phase" "queue" "I" ∈ ig_all := ig_in (List.mem_append_right _ (List.mem_of_getElem? (i := 49) (by decide +kernel))) rfl
theorem gf_X5_134 (F : CallFix p m c cc nL s args ig_all RX5) (E : ig_E D kk ad bs s) (Z : ig_Z D kk ad bs s H locs a la b lb lo) {x : Nat} (hx : x < 8) (hdg : decode cc pc = .ok (.getfield 134, 3)) (kx : W p l e R s m args below meth c H locs cells slots Q (F0 m (pc + 3) ls (.int (a (3 + x) 6) :: rest))) : W p l e R s m args below meth c H locs cells slots Q (F0 m pc ls (.ref (ad (3 + x)) :: rest)) := ig_get (T := TX2) (N := 12) F E Z (i := 3 + x) (by omega) (ig_c_ph _ _ _ _ _ _ hx) rfl in_X2 6 (by decide) mw_62 (by rw [ig_mm_a _ _ (by omega)]; rfl) hdg kx
theorem pf_X5_134 (F : CallFix p m c cc nL s args ig_all RX5) (E : ig_E D kk ad bs s) (Z : ig_Z D kk ad bs s H locs a la b lb lo) {x : Nat} (hx : x < 8) {v : Int32} (hdg : decode cc pc = .ok (.putfield 134, 3)) (kx : ∀ (H1 : Heap) (locs1 : List Loc) (a1 : ig_M), a1 = ig_up a (3 + x) 6 v → ig_Z D kk ad bs s H1 locs1 a1 la b lb lo → W p l e R s m args below meth c H1 locs1 cells slots Q (F0 m (pc + 3) ls rest)) : W p l e R s m args below meth c H locs cells slots Q (F0 m pc ls (.int v :: .ref (ad (3 + x)) :: rest)) := ig_put (T := TX2) (N := 12) F E Z (i := (3 + x)) (by omega) (ig_c_ph _ _ _ _ _ _ hx) rfl in_X2 tyX2 tyX2_ok nmX2 6 (by decide) mw_62 rfl (ty := .int) rfl rfl rfl (Nat.le_of_ble_eq_true rfl) (by rw [ig_rowA (by omega), ig_c_ph _ _ _ _ _ _ hx, ig_mm_a _ _ (by omega)]; rfl) (ig_offA v 6) hdg (fun H1 locs1 Z1 => kx H1 locs1 _ rfl Z1)
theorem mw_63 : Cond.fieldLink "Intergreen" 139 "Intergreen$Lights" "asked" "I" ∈ ig_all := ig_in (List.mem_append_right _ (List.mem_of_getElem? (i := 130) (by decide +kernel))) rfl
theorem gf_X5_139 (F : CallFix p m c cc nL s args ig_all RX5) (E : ig_E D kk ad bs s) (Z : ig_Z D kk ad bs s H locs a la b lb lo) (hdg : decode cc pc = .ok (.getfield 139, 3)) (kx : W p l e R s m args below meth c H locs cells slots Q (F0 m (pc + 3) ls (.int (a 23 5) :: rest))) : W p l e R s m args below meth c H locs cells slots Q (F0 m pc ls (.ref (ad 23) :: rest)) := ig_get (T := TX0) (N := 9) F E Z (i := 23) (by decide) (ig_k_23 _ _ _ _ _ _) rfl in_X0 5 (by decide) mw_63 rfl hdg kx
theorem pf_X5_139 (F : CallFix p m c cc nL s args ig_all RX5) (E : ig_E D kk ad bs s) (Z : ig_Z D kk ad bs s H locs a la b lb lo) {v : Int32} (hdg : decode cc pc = .ok (.putfield 139, 3)) (kx : ∀ (H1 : Heap) (locs1 : List Loc) (a1 : ig_M), a1 = ig_up a 23 5 v → ig_Z D kk ad bs s H1 locs1 a1 la b lb lo → W p l e R s m args below meth c H1 locs1 cells slots Q (F0 m (pc + 3) ls rest)) : W p l e R s m args below meth c H locs cells slots Q (F0 m pc ls (.int v :: .ref (ad 23) :: rest)) := ig_put (T := TX0) (N := 9) F E Z (i := 23) (by decide) (ig_k_23 _ _ _ _ _ _) rfl in_X0 tyX0 tyX0_ok nmX0 5 (by decide) mw_63 rfl (ty := .int) rfl rfl rfl (Nat.le_of_ble_eq_true rfl) rfl (ig_offA v 5) hdg (fun H1 locs1 Z1 => kx H1 locs1 _ rfl Z1)
theorem mw_64 : Cond.code ⟨"Intergreen$Phase", "isBroken", "(I)Z"⟩ prog_4_method_3_code 2 (Option.some Jvm.ClassFile.FieldType.boolean) ∈ ig_all := ig_in (List.mem_append_right _ (List.mem_of_getElem? (i := 509) (by decide +kernel))) rfl
theorem mw_65 : Cond.methodLink "Intergreen" 148 ⟨"Intergreen$Phase", "isBroken", "(I)Z"⟩ ∈ ig_all := ig_in (List.mem_append_right _ (List.mem_of_getElem? (i := 506) (by decide +kernel))) rfl
theorem mw_66 : Cond.instanceMethod ⟨"Intergreen$Phase", "isBroken", "(I)Z"⟩ ∈ ig_all := ig_in (List.mem_append_right _ (List.mem_of_getElem? (i := 507) (by decide +kernel))) rfl
theorem mw_67 : Cond.selects "Intergreen$Phase" ⟨"Intergreen$Phase", "isBroken", "(I)Z"⟩ ⟨"Intergreen$Phase", "isBroken", "(I)Z"⟩ ∈ ig_all := ig_in (List.mem_append_right _ (List.mem_of_getElem? (i := 508) (by decide +kernel))) rfl
theorem G_X5_148 : GoodIn ig_all (wsV RX5 148 RX2 yX2_isBroken (ig_ws yX2_isBroken cX2_isBroken 2 (some .boolean))) := ig_LV mw_65 mw_66 mw_67 mw_57 mw_64
theorem mw_68 : Cond.code ⟨"Intergreen$Phase", "setBroken", "(IZ)V"⟩ prog_4_method_4_code 4 (Option.none : Option Jvm.ClassFile.FieldType) ∈ ig_all := ig_in (List.mem_append_right _ (List.mem_of_getElem? (i := 514) (by decide +kernel))) rfl
theorem mw_69 : Cond.methodLink "Intergreen" 151 ⟨"Intergreen$Phase", "setBroken", "(IZ)V"⟩ ∈ ig_all := ig_in (List.mem_append_right _ (List.mem_of_getElem? (i := 511) (by decide +kernel))) rfl
theorem mw_70 : Cond.instanceMethod ⟨"Intergreen$Phase", "setBroken", "(IZ)V"⟩ ∈ ig_all := ig_in (List.mem_append_right _ (List.mem_of_getElem? (i := 512) (by decide +kernel))) rfl
theorem mw_71 : Cond.selects "Intergreen$Phase" ⟨"Intergreen$Phase", "setBroken", "(IZ)V"⟩ ⟨"Intergreen$Phase", "setBroken", "(IZ)V"⟩ ∈ ig_all := ig_in (List.mem_append_right _ (List.mem_of_getElem? (i := 513) (by decide +kernel))) rfl
theorem G_X5_151 : GoodIn ig_all (wsV RX5 151 RX2 yX2_setBroken (ig_ws yX2_setBroken cX2_setBroken 4 none)) := ig_LV mw_69 mw_70 mw_71 mw_57 mw_68
theorem mw_72 : Cond.fieldLink "Intergreen" 157 "Intergreen$Lights" "now" "I" ∈ ig_all := ig_in (List.mem_append_right _ (List.mem_of_getElem? (i := 132) (by decide +kernel))) rfl
theorem gf_X5_157 (F : CallFix p m c cc nL s args ig_all RX5) (E : ig_E D kk ad bs s) (Z : ig_Z D kk ad bs s H locs a la b lb lo) (hdg : decode cc pc = .ok (.getfield 157, 3)) (kx : W p l e R s m args below meth c H locs cells slots Q (F0 m (pc + 3) ls (.int (a 23 6) :: rest))) : W p l e R s m args below meth c H locs cells slots Q (F0 m pc ls (.ref (ad 23) :: rest)) := ig_get (T := TX0) (N := 9) F E Z (i := 23) (by decide) (ig_k_23 _ _ _ _ _ _) rfl in_X0 6 (by decide) mw_72 rfl hdg kx
theorem mw_73 : Cond.fieldLink "Intergreen" 162 "Intergreen$Lights" "gone" "I" ∈ ig_all := ig_in (List.mem_append_right _ (List.mem_of_getElem? (i := 133) (by decide +kernel))) rfl
theorem gf_X5_162 (F : CallFix p m c cc nL s args ig_all RX5) (E : ig_E D kk ad bs s) (Z : ig_Z D kk ad bs s H locs a la b lb lo) (hdg : decode cc pc = .ok (.getfield 162, 3)) (kx : W p l e R s m args below meth c H locs cells slots Q (F0 m (pc + 3) ls (.int (a 23 7) :: rest))) : W p l e R s m args below meth c H locs cells slots Q (F0 m pc ls (.ref (ad 23) :: rest)) := ig_get (T := TX0) (N := 9) F E Z (i := 23) (by decide) (ig_k_23 _ _ _ _ _ _) rfl in_X0 7 (by decide) mw_73 rfl hdg kx
theorem mw_74 : Cond.code ⟨"Intergreen$Lights", "passSecond", "()V"⟩ prog_2_method_5_code 1 (Option.none : Option Jvm.ClassFile.FieldType) ∈ ig_all := ig_in (List.mem_append_right _ (List.mem_of_getElem? (i := 527) (by decide +kernel))) rfl
theorem mw_75 : Cond.methodLink "Intergreen" 165 ⟨"Intergreen$Lights", "passSecond", "()V"⟩ ∈ ig_all := ig_in (List.mem_append_right _ (List.mem_of_getElem? (i := 524) (by decide +kernel))) rfl
theorem mw_76 : Cond.instanceMethod ⟨"Intergreen$Lights", "passSecond", "()V"⟩ ∈ ig_all := ig_in (List.mem_append_right _ (List.mem_of_getElem? (i := 525) (by decide +kernel))) rfl
theorem mw_77 : Cond.selects "Intergreen$Lights" ⟨"Intergreen$Lights", "passSecond", "()V"⟩ ⟨"Intergreen$Lights", "passSecond", "()V"⟩ ∈ ig_all := ig_in (List.mem_append_right _ (List.mem_of_getElem? (i := 526) (by decide +kernel))) rfl
theorem G_X5_165 : GoodIn ig_all (wsV RX5 165 RX0 yX0_passSecond (ig_ws yX0_passSecond cX0_passSecond 1 none)) := ig_LV mw_75 mw_76 mw_77 mw_42 mw_74
theorem mw_78 : Cond.fieldLink "Intergreen" 19 "Intergreen" "log" "LIntergreen$Log;" ∈ ig_all := ig_in (List.mem_append_right _ (List.mem_of_getElem? (i := 174) (by decide +kernel))) rfl
theorem gf_X5_19 (F : CallFix p m c cc nL s args ig_all RX5) (E : ig_E D kk ad bs s) (Z : ig_Z D kk ad bs s H locs a la b lb lo) (hdg : decode cc pc = .ok (.getfield 19, 3)) (kx : W p l e R s m args below meth c H locs cells slots Q (F0 m (pc + 3) ls (.ref (ad 21) :: rest))) : W p l e R s m args below meth c H locs cells slots Q (F0 m pc ls (.ref (ad 0) :: rest)) := ig_get (T := TX5) (N := 4) F E Z (i := 0) (by decide) (ig_k_0 _ _ _ _ _ _) rfl in_X5 1 (by decide) mw_78 rfl hdg kx
theorem mw_79 : Cond.code ⟨"Intergreen$Log", "shown", "(II)I"⟩ prog_3_method_4_code 3 (Option.some Jvm.ClassFile.FieldType.int) ∈ ig_all := ig_in (List.mem_append_right _ (List.mem_of_getElem? (i := 650) (by decide +kernel))) rfl
theorem mw_80 : Cond.methodLink "Intergreen" 173 ⟨"Intergreen$Log", "shown", "(II)I"⟩ ∈ ig_all := ig_in (List.mem_append_right _ (List.mem_of_getElem? (i := 647) (by decide +kernel))) rfl
theorem mw_81 : Cond.instanceMethod ⟨"Intergreen$Log", "shown", "(II)I"⟩ ∈ ig_all := ig_in (List.mem_append_right _ (List.mem_of_getElem? (i := 648) (by decide +kernel))) rfl
theorem mw_82 : Cond.selects "Intergreen$Log" ⟨"Intergreen$Log", "shown", "(II)I"⟩ ⟨"Intergreen$Log", "shown", "(II)I"⟩ ∈ ig_all := ig_in (List.mem_append_right _ (List.mem_of_getElem? (i := 649) (by decide +kernel))) rfl
theorem mw_83 : Cond.initialized "Intergreen$Log" ∈ ig_all := ig_in (List.mem_append_right _ (List.mem_of_getElem? (i := 4) (by decide +kernel))) rfl
theorem G_X5_173 : GoodIn ig_all (wsV RX5 173 RX1 yX1_shown (ig_ws yX1_shown cX1_shown 3 (some .int))) := ig_LV mw_80 mw_81 mw_82 mw_83 mw_79
theorem mw_84 : Cond.code ⟨"Intergreen$Phase", "tell", "(I)I"⟩ prog_4_method_15_code 2 (Option.some Jvm.ClassFile.FieldType.int) ∈ ig_all := ig_in (List.mem_append_right _ (List.mem_of_getElem? (i := 665) (by decide +kernel))) rfl
theorem mw_85 : Cond.methodLink "Intergreen" 179 ⟨"Intergreen$Phase", "tell", "(I)I"⟩ ∈ ig_all := ig_in (List.mem_append_right _ (List.mem_of_getElem? (i := 662) (by decide +kernel))) rfl
theorem mw_86 : Cond.instanceMethod ⟨"Intergreen$Phase", "tell", "(I)I"⟩ ∈ ig_all := ig_in (List.mem_append_right _ (List.mem_of_getElem? (i := 663) (by decide +kernel))) rfl
theorem mw_87 : Cond.selects "Intergreen$Phase" ⟨"Intergreen$Phase", "tell", "(I)I"⟩ ⟨"Intergreen$Phase", "tell", "(I)I"⟩ ∈ ig_all := ig_in (List.mem_append_right _ (List.mem_of_getElem? (i := 664) (by decide +kernel))) rfl
theorem G_X5_179 : GoodIn ig_all (wsV RX5 179 RX2 yX2_tell (ig_ws yX2_tell cX2_tell 2 (some .int))) := ig_LV mw_85 mw_86 mw_87 mw_57 mw_84
theorem mw_88 : Cond.code ⟨"Intergreen$Lights", "tell", "(I)I"⟩ prog_2_method_19_code 2 (Option.some Jvm.ClassFile.FieldType.int) ∈ ig_all := ig_in (List.mem_append_right _ (List.mem_of_getElem? (i := 676) (by decide +kernel))) rfl
theorem mw_89 : Cond.methodLink "Intergreen" 182 ⟨"Intergreen$Lights", "tell", "(I)I"⟩ ∈ ig_all := ig_in (List.mem_append_right _ (List.mem_of_getElem? (i := 673) (by decide +kernel))) rfl
theorem mw_90 : Cond.instanceMethod ⟨"Intergreen$Lights", "tell", "(I)I"⟩ ∈ ig_all := ig_in (List.mem_append_right _ (List.mem_of_getElem? (i := 674) (by decide +kernel))) rfl
theorem mw_91 : Cond.selects "Intergreen$Lights" ⟨"Intergreen$Lights", "tell", "(I)I"⟩ ⟨"Intergreen$Lights", "tell", "(I)I"⟩ ∈ ig_all := ig_in (List.mem_append_right _ (List.mem_of_getElem? (i := 675) (by decide +kernel))) rfl
theorem G_X5_182 : GoodIn ig_all (wsV RX5 182 RX0 yX0_tell (ig_ws yX0_tell cX0_tell 2 (some .int))) := ig_LV mw_89 mw_90 mw_91 mw_42 mw_88
theorem mw_92 : Cond.fieldLink "Intergreen" 183 "Intergreen$Lights" "waited" "J" ∈ ig_all := ig_in (List.mem_append_right _ (List.mem_of_getElem? (i := 135) (by decide +kernel))) rfl
theorem gf_X5_183 (F : CallFix p m c cc nL s args ig_all RX5) (E : ig_E D kk ad bs s) (Z : ig_Z D kk ad bs s H locs a la b lb lo) (hdg : decode cc pc = .ok (.getfield 183, 3)) (kx : W p l e R s m args below meth c H locs cells slots Q (F0 m (pc + 3) ls (.long la :: rest))) : W p l e R s m args below meth c H locs cells slots Q (F0 m pc ls (.ref (ad 23) :: rest)) := ig_get (T := TX0) (N := 9) F E Z (i := 23) (by decide) (ig_k_23 _ _ _ _ _ _) rfl in_X0 8 (by decide) mw_92 rfl hdg kx
theorem mw_93 : Cond.code ⟨"Intergreen$Log", "leastBetween", "(III)I"⟩ prog_3_method_6_code 11 (Option.some Jvm.ClassFile.FieldType.int) ∈ ig_all := ig_in (List.mem_append_right _ (List.mem_of_getElem? (i := 688) (by decide +kernel))) rfl
theorem mw_94 : Cond.methodLink "Intergreen" 189 ⟨"Intergreen$Log", "leastBetween", "(III)I"⟩ ∈ ig_all := ig_in (List.mem_append_right _ (List.mem_of_getElem? (i := 685) (by decide +kernel))) rfl
theorem mw_95 : Cond.instanceMethod ⟨"Intergreen$Log", "leastBetween", "(III)I"⟩ ∈ ig_all := ig_in (List.mem_append_right _ (List.mem_of_getElem? (i := 686) (by decide +kernel))) rfl
theorem mw_96 : Cond.selects "Intergreen$Log" ⟨"Intergreen$Log", "leastBetween", "(III)I"⟩ ⟨"Intergreen$Log", "leastBetween", "(III)I"⟩ ∈ ig_all := ig_in (List.mem_append_right _ (List.mem_of_getElem? (i := 687) (by decide +kernel))) rfl
theorem G_X5_189 : GoodIn ig_all (wsV RX5 189 RX1 yX1_leastBetween (ig_ws yX1_leastBetween cX1_leastBetween 11 (some .int))) := ig_LV mw_94 mw_95 mw_96 mw_83 mw_93
theorem mw_97 : Cond.code ⟨"Intergreen$Plan", "secondsToChange", "(II)I"⟩ prog_5_method_10_code 7 (Option.some Jvm.ClassFile.FieldType.int) ∈ ig_all := ig_in (List.mem_append_right _ (List.mem_of_getElem? (i := 213) (by decide +kernel))) rfl
theorem mw_98 : Cond.methodLink "Intergreen" 192 ⟨"Intergreen$Plan", "secondsToChange", "(II)I"⟩ ∈ ig_all := ig_in (List.mem_append_right _ (List.mem_of_getElem? (i := 697) (by decide +kernel))) rfl
theorem mw_99 : Cond.instanceMethod ⟨"Intergreen$Plan", "secondsToChange", "(II)I"⟩ ∈ ig_all := ig_in (List.mem_append_right _ (List.mem_of_getElem? (i := 211) (by decide +kernel))) rfl
theorem mw_100 : Cond.selects "Intergreen$Plan" ⟨"Intergreen$Plan", "secondsToChange", "(II)I"⟩ ⟨"Intergreen$Plan", "secondsToChange", "(II)I"⟩ ∈ ig_all := ig_in (List.mem_append_right _ (List.mem_of_getElem? (i := 212) (by decide +kernel))) rfl
theorem G_X5_192 : GoodIn ig_all (wsV RX5 192 RX3 yX3_secondsToChange (ig_ws yX3_secondsToChange cX3_secondsToChange 7 (some .int))) := ig_LV mw_98 mw_99 mw_100 mw_12 mw_97
theorem mw_101 : Cond.fieldLink "Intergreen" 37 "Intergreen" "rounds" "LIntergreen$Rounds;" ∈ ig_all := ig_in (List.mem_append_right _ (List.mem_of_getElem? (i := 176) (by decide +kernel))) rfl
theorem gf_X5_37 (F : CallFix p m c cc nL s args ig_all RX5) (E : ig_E D kk ad bs s) (Z : ig_Z D kk ad bs s H locs a la b lb lo) (hdg : decode cc pc = .ok (.getfield 37, 3)) (kx : W p l e R s m args below meth c H locs cells slots Q (F0 m (pc + 3) ls (.ref (ad 24) :: rest))) : W p l e R s m args below meth c H locs cells slots Q (F0 m pc ls (.ref (ad 0) :: rest)) := ig_get (T := TX5) (N := 4) F E Z (i := 0) (by decide) (ig_k_0 _ _ _ _ _ _) rfl in_X5 3 (by decide) mw_101 rfl hdg kx
theorem mw_102 : Cond.code ⟨"Intergreen$Rounds", "shortest", "()I"⟩ prog_6_method_2_code 1 (Option.some Jvm.ClassFile.FieldType.int) ∈ ig_all := ig_in (List.mem_append_right _ (List.mem_of_getElem? (i := 201) (by decide +kernel))) rfl
theorem mw_103 : Cond.methodLink "Intergreen" 195 ⟨"Intergreen$Rounds", "shortest", "()I"⟩ ∈ ig_all := ig_in (List.mem_append_right _ (List.mem_of_getElem? (i := 198) (by decide +kernel))) rfl
theorem mw_104 : Cond.instanceMethod ⟨"Intergreen$Rounds", "shortest", "()I"⟩ ∈ ig_all := ig_in (List.mem_append_right _ (List.mem_of_getElem? (i := 199) (by decide +kernel))) rfl
theorem mw_105 : Cond.selects "Intergreen$Rounds" ⟨"Intergreen$Rounds", "shortest", "()I"⟩ ⟨"Intergreen$Rounds", "shortest", "()I"⟩ ∈ ig_all := ig_in (List.mem_append_right _ (List.mem_of_getElem? (i := 200) (by decide +kernel))) rfl
theorem mw_106 : Cond.initialized "Intergreen$Rounds" ∈ ig_all := ig_in (List.mem_append_right _ (List.mem_of_getElem? (i := 6) (by decide +kernel))) rfl
theorem G_X5_195 : GoodIn ig_all (wsV RX5 195 RX4 yX4_shortest (ig_ws yX4_shortest cX4_shortest 1 (some .int))) := ig_LV mw_103 mw_104 mw_105 mw_106 mw_102
theorem mw_107 : Cond.code ⟨"Intergreen$Rounds", "shortestOfAll", "()I"⟩ prog_6_method_4_code 4 (Option.some Jvm.ClassFile.FieldType.int) ∈ ig_all := ig_in (List.mem_append_right _ (List.mem_of_getElem? (i := 259) (by decide +kernel))) rfl
theorem mw_108 : Cond.methodLink "Intergreen" 199 ⟨"Intergreen$Rounds", "shortestOfAll", "()I"⟩ ∈ ig_all := ig_in (List.mem_append_right _ (List.mem_of_getElem? (i := 256) (by decide +kernel))) rfl
theorem mw_109 : Cond.instanceMethod ⟨"Intergreen$Rounds", "shortestOfAll", "()I"⟩ ∈ ig_all := ig_in (List.mem_append_right _ (List.mem_of_getElem? (i := 257) (by decide +kernel))) rfl
theorem mw_110 : Cond.selects "Intergreen$Rounds" ⟨"Intergreen$Rounds", "shortestOfAll", "()I"⟩ ⟨"Intergreen$Rounds", "shortestOfAll", "()I"⟩ ∈ ig_all := ig_in (List.mem_append_right _ (List.mem_of_getElem? (i := 258) (by decide +kernel))) rfl
theorem G_X5_199 : GoodIn ig_all (wsV RX5 199 RX4 yX4_shortestOfAll (ig_ws yX4_shortestOfAll cX4_shortestOfAll 4 (some .int))) := ig_LV mw_108 mw_109 mw_110 mw_106 mw_107
theorem mw_111 : Cond.code ⟨"Intergreen$Rounds", "stageAt", "(I)I"⟩ prog_6_method_3_code 5 (Option.some Jvm.ClassFile.FieldType.int) ∈ ig_all := ig_in (List.mem_append_right _ (List.mem_of_getElem? (i := 709) (by decide +kernel))) rfl
theorem mw_112 : Cond.methodLink "Intergreen" 204 ⟨"Intergreen$Rounds", "stageAt", "(I)I"⟩ ∈ ig_all := ig_in (List.mem_append_right _ (List.mem_of_getElem? (i := 706) (by decide +kernel))) rfl
theorem mw_113 : Cond.instanceMethod ⟨"Intergreen$Rounds", "stageAt", "(I)I"⟩ ∈ ig_all := ig_in (List.mem_append_right _ (List.mem_of_getElem? (i := 707) (by decide +kernel))) rfl
theorem mw_114 : Cond.selects "Intergreen$Rounds" ⟨"Intergreen$Rounds", "stageAt", "(I)I"⟩ ⟨"Intergreen$Rounds", "stageAt", "(I)I"⟩ ∈ ig_all := ig_in (List.mem_append_right _ (List.mem_of_getElem? (i := 708) (by decide +kernel))) rfl
theorem G_X5_204 : GoodIn ig_all (wsV RX5 204 RX4 yX4_stageAt (ig_ws yX4_stageAt cX4_stageAt 5 (some .int))) := ig_LV mw_112 mw_113 mw_114 mw_106 mw_111
theorem mw_115 : Cond.fieldLink "IntergreenModel" 66 "IntergreenModel" "thrown" "I" ∈ ig_all := ig_in (List.mem_append_right _ (List.mem_of_getElem? (i := 720) (by decide +kernel))) rfl
theorem gf_X6_66 (F : CallFix p m c cc nL s args ig_all RX6) (E : ig_E D kk ad bs s) (Z : ig_Z D kk ad bs s H locs a la b lb lo) (hdg : decode cc pc = .ok (.getfield 66, 3)) (kx : W p l e R s m args below meth c H locs cells slots Q (F0 m (pc + 3) ls (.int (b 97 0) :: rest))) : W p l e R s m args below meth c H locs cells slots Q (F0 m pc ls (.ref (ad 97) :: rest)) := ig_get (T := TX6) (N := 27) F E Z (i := 97) (by decide) (ig_k_97 _ _ _ _ _ _) rfl in_X6 0 (by decide) mw_115 rfl hdg kx
theorem pf_X6_66 (F : CallFix p m c cc nL s args ig_all RX6) (E : ig_E D kk ad bs s) (Z : ig_Z D kk ad bs s H locs a la b lb lo) {v : Int32} (hdg : decode cc pc = .ok (.putfield 66, 3)) (kx : ∀ (H1 : Heap) (locs1 : List Loc) (b1 : ig_M), b1 = ig_up b 97 0 v → ig_Z D kk ad bs s H1 locs1 a la b1 lb lo → W p l e R s m args below meth c H1 locs1 cells slots Q (F0 m (pc + 3) ls rest)) : W p l e R s m args below meth c H locs cells slots Q (F0 m pc ls (.int v :: .ref (ad 97) :: rest)) := ig_put (T := TX6) (N := 27) F E Z (i := 97) (by decide) (ig_k_97 _ _ _ _ _ _) rfl in_X6 tyX6 tyX6_ok nmX6 0 (by decide) mw_115 rfl (ty := .int) rfl rfl rfl (Nat.le_of_ble_eq_true rfl) rfl (ig_offB v 0) hdg (fun H1 locs1 Z1 => kx H1 locs1 _ rfl Z1)
theorem mw_116 : Cond.fieldLink "IntergreenModel" 69 "IntergreenModel" "phases" "I" ∈ ig_all := ig_in (List.mem_append_right _ (List.mem_of_getElem? (i := 722) (by decide +kernel))) rfl
theorem gf_X6_69 (F : CallFix p m c cc nL s args ig_all RX6) (E : ig_E D kk ad bs s) (Z : ig_Z D kk ad bs s H locs a la b lb lo) (hdg : decode cc pc = .ok (.getfield 69, 3)) (kx : W p l e R s m args below meth c H locs cells slots Q (F0 m (pc + 3) ls (.int (b 97 2) :: rest))) : W p l e R s m args below meth c H locs cells slots Q (F0 m pc ls (.ref (ad 97) :: rest)) := ig_get (T := TX6) (N := 27) F E Z (i := 97) (by decide) (ig_k_97 _ _ _ _ _ _) rfl in_X6 2 (by decide) mw_116 rfl hdg kx
theorem mw_117 : Cond.code ⟨"IntergreenModel", "in", "(III)Z"⟩ prog_8_method_4_code 3 (Option.some Jvm.ClassFile.FieldType.boolean) ∈ ig_all := ig_in (List.mem_append_right _ (List.mem_of_getElem? (i := 813) (by decide +kernel))) rfl
theorem mw_118 : Cond.methodLink "IntergreenModel" 72 ⟨"IntergreenModel", "in", "(III)Z"⟩ ∈ ig_all := ig_in (List.mem_append_right _ (List.mem_of_getElem? (i := 811) (by decide +kernel))) rfl
theorem mw_119 : Cond.static ⟨"IntergreenModel", "in", "(III)Z"⟩ ∈ ig_all := ig_in (List.mem_append_right _ (List.mem_of_getElem? (i := 812) (by decide +kernel))) rfl
theorem mw_120 : Cond.initialized "IntergreenModel" ∈ ig_all := ig_in (List.mem_append_right _ (List.mem_of_getElem? (i := 7) (by decide +kernel))) rfl
theorem G_X6_72 : GoodIn ig_all (wsS RX6 72 yX6_in (ig_ws yX6_in cX6_in 3 (some .boolean))) := ig_LS mw_118 mw_119 mw_120 mw_117
theorem mw_121 : Cond.fieldLink "IntergreenModel" 76 "IntergreenModel" "stages" "I" ∈ ig_all := ig_in (List.mem_append_right _ (List.mem_of_getElem? (i := 727) (by decide +kernel))) rfl
theorem gf_X6_76 (F : CallFix p m c cc nL s args ig_all RX6) (E : ig_E D kk ad bs s) (Z : ig_Z D kk ad bs s H locs a la b lb lo) (hdg : decode cc pc = .ok (.getfield 76, 3)) (kx : W p l e R s m args below meth c H locs cells slots Q (F0 m (pc + 3) ls (.int (b 97 7) :: rest))) : W p l e R s m args below meth c H locs cells slots Q (F0 m pc ls (.ref (ad 97) :: rest)) := ig_get (T := TX6) (N := 27) F E Z (i := 97) (by decide) (ig_k_97 _ _ _ _ _ _) rfl in_X6 7 (by decide) mw_121 rfl hdg kx
theorem mw_122 : Cond.fieldLink "IntergreenModel" 79 "IntergreenModel" "wasStarted" "Z" ∈ ig_all := ig_in (List.mem_append_right _ (List.mem_of_getElem? (i := 721) (by decide +kernel))) rfl
theorem gf_X6_79 (F : CallFix p m c cc nL s args ig_all RX6) (E : ig_E D kk ad bs s) (Z : ig_Z D kk ad bs s H locs a la b lb lo) (hdg : decode cc pc = .ok (.getfield 79, 3)) (kx : W p l e R s m args below meth c H locs cells slots Q (F0 m (pc + 3) ls (.int (b 97 1) :: rest))) : W p l e R s m args below meth c H locs cells slots Q (F0 m pc ls (.ref (ad 97) :: rest)) := ig_get (T := TX6) (N := 27) F E Z (i := 97) (by decide) (ig_k_97 _ _ _ _ _ _) rfl in_X6 1 (by decide) mw_122 rfl hdg kx
theorem mw_123 : Cond.code ⟨"IntergreenModel", "goesWell", "(I)Z"⟩ prog_8_method_3_code 2 (Option.some Jvm.ClassFile.FieldType.boolean) ∈ ig_all := ig_in (List.mem_append_right _ (List.mem_of_getElem? (i := 817) (by decide +kernel))) rfl
theorem mw_124 : Cond.methodLink "IntergreenModel" 83 ⟨"IntergreenModel", "goesWell", "(I)Z"⟩ ∈ ig_all := ig_in (List.mem_append_right _ (List.mem_of_getElem? (i := 814) (by decide +kernel))) rfl
theorem mw_125 : Cond.instanceMethod ⟨"IntergreenModel", "goesWell", "(I)Z"⟩ ∈ ig_all := ig_in (List.mem_append_right _ (List.mem_of_getElem? (i := 816) (by decide +kernel))) rfl
theorem mw_126 : Cond.selects "IntergreenModel" ⟨"IntergreenModel", "goesWell", "(I)Z"⟩ ⟨"IntergreenModel", "goesWell", "(I)Z"⟩ ∈ ig_all := ig_in (List.mem_append_left _ (List.mem_of_getElem? (i := 25) (by decide +kernel))) rfl
theorem G_X6_83 : GoodIn ig_all (wsV RX6 83 RX6 yX6_goesWell (ig_ws yX6_goesWell cX6_goesWell 2 (some .boolean))) := ig_LV mw_124 mw_125 mw_126 mw_120 mw_123
theorem mw_127 : Cond.fieldLink "IntergreenModel" 7 "IntergreenModel" "least" "[I" ∈ ig_all := ig_in (List.mem_append_right _ (List.mem_of_getElem? (i := 723) (by decide +kernel))) rfl
theorem gf_X6_7 (F : CallFix p m c cc nL s args ig_all RX6) (E : ig_E D kk ad bs s) (Z : ig_Z D kk ad bs s H locs a la b lb lo) (hdg : decode cc pc = .ok (.getfield 7, 3)) (kx : W p l e R s m args below meth c H locs cells slots Q (F0 m (pc + 3) ls (.ref (ad 98) :: rest))) : W p l e R s m args below meth c H locs cells slots Q (F0 m pc ls (.ref (ad 97) :: rest)) := ig_get (T := TX6) (N := 27) F E Z (i := 97) (by decide) (ig_k_97 _ _ _ _ _ _) rfl in_X6 3 (by decide) mw_127 rfl hdg kx
theorem mw_128 : Cond.fieldLink "IntergreenModel" 13 "IntergreenModel" "most" "[I" ∈ ig_all := ig_in (List.mem_append_right _ (List.mem_of_getElem? (i := 724) (by decide +kernel))) rfl
theorem gf_X6_13 (F : CallFix p m c cc nL s args ig_all RX6) (E : ig_E D kk ad bs s) (Z : ig_Z D kk ad bs s H locs a la b lb lo) (hdg : decode cc pc = .ok (.getfield 13, 3)) (kx : W p l e R s m args below meth c H locs cells slots Q (F0 m (pc + 3) ls (.ref (ad 99) :: rest))) : W p l e R s m args below meth c H locs cells slots Q (F0 m pc ls (.ref (ad 97) :: rest)) := ig_get (T := TX6) (N := 27) F E Z (i := 97) (by decide) (ig_k_97 _ _ _ _ _ _) rfl in_X6 4 (by decide) mw_128 rfl hdg kx
theorem mw_129 : Cond.fieldLink "IntergreenModel" 16 "IntergreenModel" "gap" "[I" ∈ ig_all := ig_in (List.mem_append_right _ (List.mem_of_getElem? (i := 725) (by decide +kernel))) rfl
theorem gf_X6_16 (F : CallFix p m c cc nL s args ig_all RX6) (E : ig_E D kk ad bs s) (Z : ig_Z D kk ad bs s H locs a la b lb lo) (hdg : decode cc pc = .ok (.getfield 16, 3)) (kx : W p l e R s m args below meth c H locs cells slots Q (F0 m (pc + 3) ls (.ref (ad 100) :: rest))) : W p l e R s m args below meth c H locs cells slots Q (F0 m pc ls (.ref (ad 97) :: rest)) := ig_get (T := TX6) (N := 27) F E Z (i := 97) (by decide) (ig_k_97 _ _ _ _ _ _) rfl in_X6 5 (by decide) mw_129 rfl hdg kx
theorem pf_X6_69 (F : CallFix p m c cc nL s args ig_all RX6) (E : ig_E D kk ad bs s) (Z : ig_Z D kk ad bs s H locs a la b lb lo) {v : Int32} (hdg : decode cc pc = .ok (.putfield 69, 3)) (kx : ∀ (H1 : Heap) (locs1 : List Loc) (b1 : ig_M), b1 = ig_up b 97 2 v → ig_Z D kk ad bs s H1 locs1 a la b1 lb lo → W p l e R s m args below meth c H1 locs1 cells slots Q (F0 m (pc + 3) ls rest)) : W p l e R s m args below meth c H locs cells slots Q (F0 m pc ls (.int v :: .ref (ad 97) :: rest)) := ig_put (T := TX6) (N := 27) F E Z (i := 97) (by decide) (ig_k_97 _ _ _ _ _ _) rfl in_X6 tyX6 tyX6_ok nmX6 2 (by decide) mw_116 rfl (ty := .int) rfl rfl rfl (Nat.le_of_ble_eq_true rfl) rfl (ig_offB v 2) hdg (fun H1 locs1 Z1 => kx H1 locs1 _ rfl Z1)
theorem mw_130 : Cond.fieldLink "IntergreenModel" 22 "IntergreenModel" "stage" "[I" ∈ ig_all := ig_in (List.mem_append_right _ (List.mem_of_getElem? (i := 728) (by decide +kernel))) rfl
theorem gf_X6_22 (F : CallFix p m c cc nL s args ig_all RX6) (E : ig_E D kk ad bs s) (Z : ig_Z D kk ad bs s H locs a la b lb lo) (hdg : decode cc pc = .ok (.getfield 22, 3)) (kx : W p l e R s m args below meth c H locs cells slots Q (F0 m (pc + 3) ls (.ref (ad 102) :: rest))) : W p l e R s m args below meth c H locs cells slots Q (F0 m pc ls (.ref (ad 97) :: rest)) := ig_get (T := TX6) (N := 27) F E Z (i := 97) (by decide) (ig_k_97 _ _ _ _ _ _) rfl in_X6 8 (by decide) mw_130 rfl hdg kx
theorem mw_131 : Cond.code ⟨"IntergreenModel", "has", "(II)Z"⟩ prog_8_method_7_code 2 (Option.some Jvm.ClassFile.FieldType.boolean) ∈ ig_all := ig_in (List.mem_append_right _ (List.mem_of_getElem? (i := 832) (by decide +kernel))) rfl
theorem mw_132 : Cond.methodLink "IntergreenModel" 87 ⟨"IntergreenModel", "has", "(II)Z"⟩ ∈ ig_all := ig_in (List.mem_append_right _ (List.mem_of_getElem? (i := 830) (by decide +kernel))) rfl
theorem mw_133 : Cond.static ⟨"IntergreenModel", "has", "(II)Z"⟩ ∈ ig_all := ig_in (List.mem_append_right _ (List.mem_of_getElem? (i := 831) (by decide +kernel))) rfl
theorem G_X6_87 : GoodIn ig_all (wsS RX6 87 yX6_has (ig_ws yX6_has cX6_has 2 (some .boolean))) := ig_LS mw_132 mw_133 mw_120 mw_131
theorem mw_134 : Cond.code ⟨"IntergreenModel", "isPhase", "(I)Z"⟩ prog_8_method_5_code 2 (Option.some Jvm.ClassFile.FieldType.boolean) ∈ ig_all := ig_in (List.mem_append_right _ (List.mem_of_getElem? (i := 825) (by decide +kernel))) rfl
theorem mw_135 : Cond.methodLink "IntergreenModel" 91 ⟨"IntergreenModel", "isPhase", "(I)Z"⟩ ∈ ig_all := ig_in (List.mem_append_right _ (List.mem_of_getElem? (i := 822) (by decide +kernel))) rfl
theorem mw_136 : Cond.instanceMethod ⟨"IntergreenModel", "isPhase", "(I)Z"⟩ ∈ ig_all := ig_in (List.mem_append_right _ (List.mem_of_getElem? (i := 824) (by decide +kernel))) rfl
theorem mw_137 : Cond.selects "IntergreenModel" ⟨"IntergreenModel", "isPhase", "(I)Z"⟩ ⟨"IntergreenModel", "isPhase", "(I)Z"⟩ ∈ ig_all := ig_in (List.mem_append_left _ (List.mem_of_getElem? (i := 26) (by decide +kernel))) rfl
theorem G_X6_91 : GoodIn ig_all (wsV RX6 91 RX6 yX6_isPhase (ig_ws yX6_isPhase cX6_isPhase 2 (some .boolean))) := ig_LV mw_135 mw_136 mw_137 mw_120 mw_134
theorem mw_138 : Cond.code ⟨"IntergreenModel", "areInOne", "(II)Z"⟩ prog_8_method_9_code 5 (Option.some Jvm.ClassFile.FieldType.boolean) ∈ ig_all := ig_in (List.mem_append_right _ (List.mem_of_getElem? (i := 829) (by decide +kernel))) rfl
theorem mw_139 : Cond.methodLink "IntergreenModel" 94 ⟨"IntergreenModel", "areInOne", "(II)Z"⟩ ∈ ig_all := ig_in (List.mem_append_right _ (List.mem_of_getElem? (i := 826) (by decide +kernel))) rfl
theorem mw_140 : Cond.instanceMethod ⟨"IntergreenModel", "areInOne", "(II)Z"⟩ ∈ ig_all := ig_in (List.mem_append_right _ (List.mem_of_getElem? (i := 828) (by decide +kernel))) rfl
theorem mw_141 : Cond.selects "IntergreenModel" ⟨"IntergreenModel", "areInOne", "(II)Z"⟩ ⟨"IntergreenModel", "areInOne", "(II)Z"⟩ ∈ ig_all := ig_in (List.mem_append_left _ (List.mem_of_getElem? (i := 27) (by decide +kernel))) rfl
theorem G_X6_94 : GoodIn ig_all (wsV RX6 94 RX6 yX6_areInOne (ig_ws yX6_areInOne cX6_areInOne 5 (some .boolean))) := ig_LV mw_139 mw_140 mw_141 mw_120 mw_138
theorem mw_142 : Cond.fieldLink "IntergreenModel" 19 "IntergreenModel" "between" "[I" ∈ ig_all := ig_in (List.mem_append_right _ (List.mem_of_getElem? (i := 726) (by decide +kernel))) rfl
theorem gf_X6_19 (F : CallFix p m c cc nL s args ig_all RX6) (E : ig_E D kk ad bs s) (Z : ig_Z D kk ad bs s H locs a la b lb lo) (hdg : decode cc pc = .ok (.getfield 19, 3)) (kx : W p l e R s m args below meth c H locs cells slots Q (F0 m (pc + 3) ls (.ref (ad 101) :: rest))) : W p l e R s m args below meth c H locs cells slots Q (F0 m pc ls (.ref (ad 97) :: rest)) := ig_get (T := TX6) (N := 27) F E Z (i := 97) (by decide) (ig_k_97 _ _ _ _ _ _) rfl in_X6 6 (by decide) mw_142 rfl hdg kx
theorem mw_143 : Cond.code ⟨"IntergreenModel", "meetAny", "(I)Z"⟩ prog_8_method_11_code 5 (Option.some Jvm.ClassFile.FieldType.boolean) ∈ ig_all := ig_in (List.mem_append_right _ (List.mem_of_getElem? (i := 840) (by decide +kernel))) rfl
theorem mw_144 : Cond.methodLink "IntergreenModel" 97 ⟨"IntergreenModel", "meetAny", "(I)Z"⟩ ∈ ig_all := ig_in (List.mem_append_right _ (List.mem_of_getElem? (i := 837) (by decide +kernel))) rfl
theorem mw_145 : Cond.instanceMethod ⟨"IntergreenModel", "meetAny", "(I)Z"⟩ ∈ ig_all := ig_in (List.mem_append_right _ (List.mem_of_getElem? (i := 839) (by decide +kernel))) rfl
theorem mw_146 : Cond.selects "IntergreenModel" ⟨"IntergreenModel", "meetAny", "(I)Z"⟩ ⟨"IntergreenModel", "meetAny", "(I)Z"⟩ ∈ ig_all := ig_in (List.mem_append_left _ (List.mem_of_getElem? (i := 28) (by decide +kernel))) rfl
theorem G_X6_97 : GoodIn ig_all (wsV RX6 97 RX6 yX6_meetAny (ig_ws yX6_meetAny cX6_meetAny 5 (some .boolean))) := ig_LV mw_144 mw_145 mw_146 mw_120 mw_143
theorem pf_X6_76 (F : CallFix p m c cc nL s args ig_all RX6) (E : ig_E D kk ad bs s) (Z : ig_Z D kk ad bs s H locs a la b lb lo) {v : Int32} (hdg : decode cc pc = .ok (.putfield 76, 3)) (kx : ∀ (H1 : Heap) (locs1 : List Loc) (b1 : ig_M), b1 = ig_up b 97 7 v → ig_Z D kk ad bs s H1 locs1 a la b1 lb lo → W p l e R s m args below meth c H1 locs1 cells slots Q (F0 m (pc + 3) ls rest)) : W p l e R s m args below meth c H locs cells slots Q (F0 m pc ls (.int v :: .ref (ad 97) :: rest)) := ig_put (T := TX6) (N := 27) F E Z (i := 97) (by decide) (ig_k_97 _ _ _ _ _ _) rfl in_X6 tyX6 tyX6_ok nmX6 7 (by decide) mw_121 rfl (ty := .int) rfl rfl rfl (Nat.le_of_ble_eq_true rfl) rfl (ig_offB v 7) hdg (fun H1 locs1 Z1 => kx H1 locs1 _ rfl Z1)
theorem mw_147 : Cond.code ⟨"IntergreenModel", "isStage", "(I)Z"⟩ prog_8_method_6_code 2 (Option.some Jvm.ClassFile.FieldType.boolean) ∈ ig_all := ig_in (List.mem_append_right _ (List.mem_of_getElem? (i := 848) (by decide +kernel))) rfl
theorem mw_148 : Cond.methodLink "IntergreenModel" 100 ⟨"IntergreenModel", "isStage", "(I)Z"⟩ ∈ ig_all := ig_in (List.mem_append_right _ (List.mem_of_getElem? (i := 845) (by decide +kernel))) rfl
theorem mw_149 : Cond.instanceMethod ⟨"IntergreenModel", "isStage", "(I)Z"⟩ ∈ ig_all := ig_in (List.mem_append_right _ (List.mem_of_getElem? (i := 847) (by decide +kernel))) rfl
theorem mw_150 : Cond.selects "IntergreenModel" ⟨"IntergreenModel", "isStage", "(I)Z"⟩ ⟨"IntergreenModel", "isStage", "(I)Z"⟩ ∈ ig_all := ig_in (List.mem_append_left _ (List.mem_of_getElem? (i := 29) (by decide +kernel))) rfl
theorem G_X6_100 : GoodIn ig_all (wsV RX6 100 RX6 yX6_isStage (ig_ws yX6_isStage cX6_isStage 2 (some .boolean))) := ig_LV mw_148 mw_149 mw_150 mw_120 mw_147
theorem mw_151 : Cond.fieldLink "IntergreenModel" 103 "IntergreenModel" "state" "I" ∈ ig_all := ig_in (List.mem_append_right _ (List.mem_of_getElem? (i := 729) (by decide +kernel))) rfl
theorem gf_X6_103 (F : CallFix p m c cc nL s args ig_all RX6) (E : ig_E D kk ad bs s) (Z : ig_Z D kk ad bs s H locs a la b lb lo) (hdg : decode cc pc = .ok (.getfield 103, 3)) (kx : W p l e R s m args below meth c H locs cells slots Q (F0 m (pc + 3) ls (.int (b 97 9) :: rest))) : W p l e R s m args below meth c H locs cells slots Q (F0 m pc ls (.ref (ad 97) :: rest)) := ig_get (T := TX6) (N := 27) F E Z (i := 97) (by decide) (ig_k_97 _ _ _ _ _ _) rfl in_X6 9 (by decide) mw_151 rfl hdg kx
theorem pf_X6_79 (F : CallFix p m c cc nL s args ig_all RX6) (E : ig_E D kk ad bs s) (Z : ig_Z D kk ad bs s H locs a la b lb lo) {v : Int32} (hz : v = 0 ∨ v = 1) (hdg : decode cc pc = .ok (.putfield 79, 3)) (kx : ∀ (H1 : Heap) (locs1 : List Loc) (b1 : ig_M), b1 = ig_up b 97 1 v → ig_Z D kk ad bs s H1 locs1 a la b1 lb lo → W p l e R s m args below meth c H1 locs1 cells slots Q (F0 m (pc + 3) ls rest)) : W p l e R s m args below meth c H locs cells slots Q (F0 m pc ls (.int v :: .ref (ad 97) :: rest)) := ig_put (T := TX6) (N := 27) F E Z (i := 97) (by decide) (ig_k_97 _ _ _ _ _ _) rfl in_X6 tyX6 tyX6_ok nmX6 1 (by decide) mw_122 rfl (ty := .boolean) rfl (ig_narrow hz) (by rcases hz with rfl | rfl <;> decide) (Nat.le_of_ble_eq_true rfl) rfl (ig_offB v 1) hdg (fun H1 locs1 Z1 => kx H1 locs1 _ rfl Z1)
theorem pf_X6_103 (F : CallFix p m c cc nL s args ig_all RX6) (E : ig_E D kk ad bs s) (Z : ig_Z D kk ad bs s H locs a la b lb lo) {v : Int32} (hdg : decode cc pc = .ok (.putfield 103, 3)) (kx : ∀ (H1 : Heap) (locs1 : List Loc) (b1 : ig_M), b1 = ig_up b 97 9 v → ig_Z D kk ad bs s H1 locs1 a la b1 lb lo → W p l e R s m args below meth c H1 locs1 cells slots Q (F0 m (pc + 3) ls rest)) : W p l e R s m args below meth c H locs cells slots Q (F0 m pc ls (.int v :: .ref (ad 97) :: rest)) := ig_put (T := TX6) (N := 27) F E Z (i := 97) (by decide) (ig_k_97 _ _ _ _ _ _) rfl in_X6 tyX6 tyX6_ok nmX6 9 (by decide) mw_151 rfl (ty := .int) rfl rfl rfl (Nat.le_of_ble_eq_true rfl) rfl (ig_offB v 9) hdg (fun H1 locs1 Z1 => kx H1 locs1 _ rfl Z1)
theorem mw_152 : Cond.fieldLink "IntergreenModel" 106 "IntergreenModel" "on" "I" ∈ ig_all := ig_in (List.mem_append_right _ (List.mem_of_getElem? (i := 730) (by decide +kernel))) rfl
theorem pf_X6_106 (F : CallFix p m c cc nL s args ig_all RX6) (E : ig_E D kk ad bs s) (Z : ig_Z D kk ad bs s H locs a la b lb lo) {v : Int32} (hdg : decode cc pc = .ok (.putfield 106, 3)) (kx : ∀ (H1 : Heap) (locs1 : List Loc) (b1 : ig_M), b1 = ig_up b 97 10 v → ig_Z D kk ad bs s H1 locs1 a la b1 lb lo → W p l e R s m args below meth c H1 locs1 cells slots Q (F0 m (pc + 3) ls rest)) : W p l e R s m args below meth c H locs cells slots Q (F0 m pc ls (.int v :: .ref (ad 97) :: rest)) := ig_put (T := TX6) (N := 27) F E Z (i := 97) (by decide) (ig_k_97 _ _ _ _ _ _) rfl in_X6 tyX6 tyX6_ok nmX6 10 (by decide) mw_152 rfl (ty := .int) rfl rfl rfl (Nat.le_of_ble_eq_true rfl) rfl (ig_offB v 10) hdg (fun H1 locs1 Z1 => kx H1 locs1 _ rfl Z1)
theorem mw_153 : Cond.fieldLink "IntergreenModel" 28 "IntergreenModel" "ended" "[I" ∈ ig_all := ig_in (List.mem_append_right _ (List.mem_of_getElem? (i := 733) (by decide +kernel))) rfl
theorem gf_X6_28 (F : CallFix p m c cc nL s args ig_all RX6) (E : ig_E D kk ad bs s) (Z : ig_Z D kk ad bs s H locs a la b lb lo) (hdg : decode cc pc = .ok (.getfield 28, 3)) (kx : W p l e R s m args below meth c H locs cells slots Q (F0 m (pc + 3) ls (.ref (ad 104) :: rest))) : W p l e R s m args below meth c H locs cells slots Q (F0 m pc ls (.ref (ad 97) :: rest)) := ig_get (T := TX6) (N := 27) F E Z (i := 97) (by decide) (ig_k_97 _ _ _ _ _ _) rfl in_X6 13 (by decide) mw_153 rfl hdg kx
theorem mw_154 : Cond.fieldLink "IntergreenModel" 25 "IntergreenModel" "colour" "[I" ∈ ig_all := ig_in (List.mem_append_right _ (List.mem_of_getElem? (i := 732) (by decide +kernel))) rfl
theorem gf_X6_25 (F : CallFix p m c cc nL s args ig_all RX6) (E : ig_E D kk ad bs s) (Z : ig_Z D kk ad bs s H locs a la b lb lo) (hdg : decode cc pc = .ok (.getfield 25, 3)) (kx : W p l e R s m args below meth c H locs cells slots Q (F0 m (pc + 3) ls (.ref (ad 103) :: rest))) : W p l e R s m args below meth c H locs cells slots Q (F0 m pc ls (.ref (ad 97) :: rest)) := ig_get (T := TX6) (N := 27) F E Z (i := 97) (by decide) (ig_k_97 _ _ _ _ _ _) rfl in_X6 12 (by decide) mw_154 rfl hdg kx
theorem mw_155 : Cond.fieldLink "IntergreenModel" 109 "IntergreenModel" "second" "I" ∈ ig_all := ig_in (List.mem_append_right _ (List.mem_of_getElem? (i := 731) (by decide +kernel))) rfl
theorem gf_X6_109 (F : CallFix p m c cc nL s args ig_all RX6) (E : ig_E D kk ad bs s) (Z : ig_Z D kk ad bs s H locs a la b lb lo) (hdg : decode cc pc = .ok (.getfield 109, 3)) (kx : W p l e R s m args below meth c H locs cells slots Q (F0 m (pc + 3) ls (.int (b 97 11) :: rest))) : W p l e R s m args below meth c H locs cells slots Q (F0 m pc ls (.ref (ad 97) :: rest)) := ig_get (T := TX6) (N := 27) F E Z (i := 97) (by decide) (ig_k_97 _ _ _ _ _ _) rfl in_X6 11 (by decide) mw_155 rfl hdg kx
theorem mw_156 : Cond.code ⟨"IntergreenModel", "darken", "(I)V"⟩ prog_8_method_14_code 3 (Option.none : Option Jvm.ClassFile.FieldType) ∈ ig_all := ig_in (List.mem_append_right _ (List.mem_of_getElem? (i := 856) (by decide +kernel))) rfl
theorem mw_157 : Cond.methodLink "IntergreenModel" 112 ⟨"IntergreenModel", "darken", "(I)V"⟩ ∈ ig_all := ig_in (List.mem_append_right _ (List.mem_of_getElem? (i := 853) (by decide +kernel))) rfl
theorem mw_158 : Cond.instanceMethod ⟨"IntergreenModel", "darken", "(I)V"⟩ ∈ ig_all := ig_in (List.mem_append_right _ (List.mem_of_getElem? (i := 855) (by decide +kernel))) rfl
theorem mw_159 : Cond.selects "IntergreenModel" ⟨"IntergreenModel", "darken", "(I)V"⟩ ⟨"IntergreenModel", "darken", "(I)V"⟩ ∈ ig_all := ig_in (List.mem_append_left _ (List.mem_of_getElem? (i := 30) (by decide +kernel))) rfl
theorem G_X6_112 : GoodIn ig_all (wsV RX6 112 RX6 yX6_darken (ig_ws yX6_darken cX6_darken 3 none)) := ig_LV mw_157 mw_158 mw_159 mw_120 mw_156
theorem mw_160 : Cond.fieldLink "IntergreenModel" 46 "IntergreenModel" "isPressed" "[Z" ∈ ig_all := ig_in (List.mem_append_right _ (List.mem_of_getElem? (i := 739) (by decide +kernel))) rfl
theorem gf_X6_46 (F : CallFix p m c cc nL s args ig_all RX6) (E : ig_E D kk ad bs s) (Z : ig_Z D kk ad bs s H locs a la b lb lo) (hdg : decode cc pc = .ok (.getfield 46, 3)) (kx : W p l e R s m args below meth c H locs cells slots Q (F0 m (pc + 3) ls (.ref (ad 110) :: rest))) : W p l e R s m args below meth c H locs cells slots Q (F0 m pc ls (.ref (ad 97) :: rest)) := ig_get (T := TX6) (N := 27) F E Z (i := 97) (by decide) (ig_k_97 _ _ _ _ _ _) rfl in_X6 19 (by decide) mw_160 rfl hdg kx
theorem mw_161 : Cond.fieldLink "IntergreenModel" 37 "IntergreenModel" "queue" "[I" ∈ ig_all := ig_in (List.mem_append_right _ (List.mem_of_getElem? (i := 736) (by decide +kernel))) rfl
theorem gf_X6_37 (F : CallFix p m c cc nL s args ig_all RX6) (E : ig_E D kk ad bs s) (Z : ig_Z D kk ad bs s H locs a la b lb lo) (hdg : decode cc pc = .ok (.getfield 37, 3)) (kx : W p l e R s m args below meth c H locs cells slots Q (F0 m (pc + 3) ls (.ref (ad 107) :: rest))) : W p l e R s m args below meth c H locs cells slots Q (F0 m pc ls (.ref (ad 97) :: rest)) := ig_get (T := TX6) (N := 27) F E Z (i := 97) (by decide) (ig_k_97 _ _ _ _ _ _) rfl in_X6 16 (by decide) mw_161 rfl hdg kx
theorem mw_162 : Cond.code ⟨"IntergreenModel", "isDemanded", "(I)Z"⟩ prog_8_method_16_code 2 (Option.some Jvm.ClassFile.FieldType.boolean) ∈ ig_all := ig_in (List.mem_append_right _ (List.mem_of_getElem? (i := 864) (by decide +kernel))) rfl
theorem mw_163 : Cond.methodLink "IntergreenModel" 116 ⟨"IntergreenModel", "isDemanded", "(I)Z"⟩ ∈ ig_all := ig_in (List.mem_append_right _ (List.mem_of_getElem? (i := 861) (by decide +kernel))) rfl
theorem mw_164 : Cond.instanceMethod ⟨"IntergreenModel", "isDemanded", "(I)Z"⟩ ∈ ig_all := ig_in (List.mem_append_right _ (List.mem_of_getElem? (i := 863) (by decide +kernel))) rfl
theorem mw_165 : Cond.selects "IntergreenModel" ⟨"IntergreenModel", "isDemanded", "(I)Z"⟩ ⟨"IntergreenModel", "isDemanded", "(I)Z"⟩ ∈ ig_all := ig_in (List.mem_append_left _ (List.mem_of_getElem? (i := 31) (by decide +kernel))) rfl
theorem G_X6_116 : GoodIn ig_all (wsV RX6 116 RX6 yX6_isDemanded (ig_ws yX6_isDemanded cX6_isDemanded 2 (some .boolean))) := ig_LV mw_163 mw_164 mw_165 mw_120 mw_162
theorem mw_166 : Cond.fieldLink "IntergreenModel" 53 "IntergreenModel" "asked" "I" ∈ ig_all := ig_in (List.mem_append_right _ (List.mem_of_getElem? (i := 741) (by decide +kernel))) rfl
theorem gf_X6_53 (F : CallFix p m c cc nL s args ig_all RX6) (E : ig_E D kk ad bs s) (Z : ig_Z D kk ad bs s H locs a la b lb lo) (hdg : decode cc pc = .ok (.getfield 53, 3)) (kx : W p l e R s m args below meth c H locs cells slots Q (F0 m (pc + 3) ls (.int (b 97 21) :: rest))) : W p l e R s m args below meth c H locs cells slots Q (F0 m pc ls (.ref (ad 97) :: rest)) := ig_get (T := TX6) (N := 27) F E Z (i := 97) (by decide) (ig_k_97 _ _ _ _ _ _) rfl in_X6 21 (by decide) mw_166 rfl hdg kx
theorem pf_X6_53 (F : CallFix p m c cc nL s args ig_all RX6) (E : ig_E D kk ad bs s) (Z : ig_Z D kk ad bs s H locs a la b lb lo) {v : Int32} (hdg : decode cc pc = .ok (.putfield 53, 3)) (kx : ∀ (H1 : Heap) (locs1 : List Loc) (b1 : ig_M), b1 = ig_up b 97 21 v → ig_Z D kk ad bs s H1 locs1 a la b1 lb lo → W p l e R s m args below meth c H1 locs1 cells slots Q (F0 m (pc + 3) ls rest)) : W p l e R s m args below meth c H locs cells slots Q (F0 m pc ls (.int v :: .ref (ad 97) :: rest)) := ig_put (T := TX6) (N := 27) F E Z (i := 97) (by decide) (ig_k_97 _ _ _ _ _ _) rfl in_X6 tyX6 tyX6_ok nmX6 21 (by decide) mw_166 rfl (ty := .int) rfl rfl rfl (Nat.le_of_ble_eq_true rfl) rfl (ig_offB v 21) hdg (fun H1 locs1 Z1 => kx H1 locs1 _ rfl Z1)
theorem mw_167 : Cond.fieldLink "IntergreenModel" 50 "IntergreenModel" "isBroken" "[Z" ∈ ig_all := ig_in (List.mem_append_right _ (List.mem_of_getElem? (i := 740) (by decide +kernel))) rfl
theorem gf_X6_50 (F : CallFix p m c cc nL s args ig_all RX6) (E : ig_E D kk ad bs s) (Z : ig_Z D kk ad bs s H locs a la b lb lo) (hdg : decode cc pc = .ok (.getfield 50, 3)) (kx : W p l e R s m args below meth c H locs cells slots Q (F0 m (pc + 3) ls (.ref (ad 111) :: rest))) : W p l e R s m args below meth c H locs cells slots Q (F0 m pc ls (.ref (ad 97) :: rest)) := ig_get (T := TX6) (N := 27) F E Z (i := 97) (by decide) (ig_k_97 _ _ _ _ _ _) rfl in_X6 20 (by decide) mw_167 rfl hdg kx
theorem gf_X6_106 (F : CallFix p m c cc nL s args ig_all RX6) (E : ig_E D kk ad bs s) (Z : ig_Z D kk ad bs s H locs a la b lb lo) (hdg : decode cc pc = .ok (.getfield 106, 3)) (kx : W p l e R s m args below meth c H locs cells slots Q (F0 m (pc + 3) ls (.int (b 97 10) :: rest))) : W p l e R s m args below meth c H locs cells slots Q (F0 m pc ls (.ref (ad 97) :: rest)) := ig_get (T := TX6) (N := 27) F E Z (i := 97) (by decide) (ig_k_97 _ _ _ _ _ _) rfl in_X6 10 (by decide) mw_152 rfl hdg kx
theorem mw_168 : Cond.code ⟨"IntergreenModel", "isWished", "(I)Z"⟩ prog_8_method_23_code 4 (Option.some Jvm.ClassFile.FieldType.boolean) ∈ ig_all := ig_in (List.mem_append_right _ (List.mem_of_getElem? (i := 904) (by decide +kernel))) rfl
theorem mw_169 : Cond.methodLink "IntergreenModel" 119 ⟨"IntergreenModel", "isWished", "(I)Z"⟩ ∈ ig_all := ig_in (List.mem_append_right _ (List.mem_of_getElem? (i := 901) (by decide +kernel))) rfl
theorem mw_170 : Cond.instanceMethod ⟨"IntergreenModel", "isWished", "(I)Z"⟩ ∈ ig_all := ig_in (List.mem_append_right _ (List.mem_of_getElem? (i := 903) (by decide +kernel))) rfl
theorem mw_171 : Cond.selects "IntergreenModel" ⟨"IntergreenModel", "isWished", "(I)Z"⟩ ⟨"IntergreenModel", "isWished", "(I)Z"⟩ ∈ ig_all := ig_in (List.mem_append_left _ (List.mem_of_getElem? (i := 36) (by decide +kernel))) rfl
theorem G_X6_119 : GoodIn ig_all (wsV RX6 119 RX6 yX6_isWished (ig_ws yX6_isWished cX6_isWished 4 (some .boolean))) := ig_LV mw_169 mw_170 mw_171 mw_120 mw_168
theorem mw_172 : Cond.code ⟨"IntergreenModel", "askedStage", "()I"⟩ prog_8_method_22_code 3 (Option.some Jvm.ClassFile.FieldType.int) ∈ ig_all := ig_in (List.mem_append_right _ (List.mem_of_getElem? (i := 896) (by decide +kernel))) rfl
theorem mw_173 : Cond.methodLink "IntergreenModel" 122 ⟨"IntergreenModel", "askedStage", "()I"⟩ ∈ ig_all := ig_in (List.mem_append_right _ (List.mem_of_getElem? (i := 893) (by decide +kernel))) rfl
theorem mw_174 : Cond.instanceMethod ⟨"IntergreenModel", "askedStage", "()I"⟩ ∈ ig_all := ig_in (List.mem_append_right _ (List.mem_of_getElem? (i := 895) (by decide +kernel))) rfl
theorem mw_175 : Cond.selects "IntergreenModel" ⟨"IntergreenModel", "askedStage", "()I"⟩ ⟨"IntergreenModel", "askedStage", "()I"⟩ ∈ ig_all := ig_in (List.mem_append_left _ (List.mem_of_getElem? (i := 34) (by decide +kernel))) rfl
theorem G_X6_122 : GoodIn ig_all (wsV RX6 122 RX6 yX6_askedStage (ig_ws yX6_askedStage cX6_askedStage 3 (some .int))) := ig_LV mw_173 mw_174 mw_175 mw_120 mw_172
theorem mw_176 : Cond.code ⟨"IntergreenModel", "demandedStage", "()I"⟩ prog_8_method_24_code 3 (Option.some Jvm.ClassFile.FieldType.int) ∈ ig_all := ig_in (List.mem_append_right _ (List.mem_of_getElem? (i := 900) (by decide +kernel))) rfl
theorem mw_177 : Cond.methodLink "IntergreenModel" 126 ⟨"IntergreenModel", "demandedStage", "()I"⟩ ∈ ig_all := ig_in (List.mem_append_right _ (List.mem_of_getElem? (i := 897) (by decide +kernel))) rfl
theorem mw_178 : Cond.instanceMethod ⟨"IntergreenModel", "demandedStage", "()I"⟩ ∈ ig_all := ig_in (List.mem_append_right _ (List.mem_of_getElem? (i := 899) (by decide +kernel))) rfl
theorem mw_179 : Cond.selects "IntergreenModel" ⟨"IntergreenModel", "demandedStage", "()I"⟩ ⟨"IntergreenModel", "demandedStage", "()I"⟩ ∈ ig_all := ig_in (List.mem_append_left _ (List.mem_of_getElem? (i := 35) (by decide +kernel))) rfl
theorem G_X6_126 : GoodIn ig_all (wsV RX6 126 RX6 yX6_demandedStage (ig_ws yX6_demandedStage cX6_demandedStage 3 (some .int))) := ig_LV mw_177 mw_178 mw_179 mw_120 mw_176
theorem mw_180 : Cond.fieldLink "IntergreenModel" 31 "IntergreenModel" "green" "[I" ∈ ig_all := ig_in (List.mem_append_right _ (List.mem_of_getElem? (i := 734) (by decide +kernel))) rfl
theorem gf_X6_31 (F : CallFix p m c cc nL s args ig_all RX6) (E : ig_E D kk ad bs s) (Z : ig_Z D kk ad bs s H locs a la b lb lo) (hdg : decode cc pc = .ok (.getfield 31, 3)) (kx : W p l e R s m args below meth c H locs cells slots Q (F0 m (pc + 3) ls (.ref (ad 105) :: rest))) : W p l e R s m args below meth c H locs cells slots Q (F0 m pc ls (.ref (ad 97) :: rest)) := ig_get (T := TX6) (N := 27) F E Z (i := 97) (by decide) (ig_k_97 _ _ _ _ _ _) rfl in_X6 14 (by decide) mw_180 rfl hdg kx
theorem mw_181 : Cond.fieldLink "IntergreenModel" 34 "IntergreenModel" "rest" "[I" ∈ ig_all := ig_in (List.mem_append_right _ (List.mem_of_getElem? (i := 735) (by decide +kernel))) rfl
theorem gf_X6_34 (F : CallFix p m c cc nL s args ig_all RX6) (E : ig_E D kk ad bs s) (Z : ig_Z D kk ad bs s H locs a la b lb lo) (hdg : decode cc pc = .ok (.getfield 34, 3)) (kx : W p l e R s m args below meth c H locs cells slots Q (F0 m (pc + 3) ls (.ref (ad 106) :: rest))) : W p l e R s m args below meth c H locs cells slots Q (F0 m pc ls (.ref (ad 97) :: rest)) := ig_get (T := TX6) (N := 27) F E Z (i := 97) (by decide) (ig_k_97 _ _ _ _ _ _) rfl in_X6 15 (by decide) mw_181 rfl hdg kx
theorem mw_182 : Cond.code ⟨"IntergreenModel", "canBegin", "(I)Z"⟩ prog_8_method_26_code 5 (Option.some Jvm.ClassFile.FieldType.boolean) ∈ ig_all := ig_in (List.mem_append_right _ (List.mem_of_getElem? (i := 912) (by decide +kernel))) rfl
theorem mw_183 : Cond.methodLink "IntergreenModel" 129 ⟨"IntergreenModel", "canBegin", "(I)Z"⟩ ∈ ig_all := ig_in (List.mem_append_right _ (List.mem_of_getElem? (i := 909) (by decide +kernel))) rfl
theorem mw_184 : Cond.instanceMethod ⟨"IntergreenModel", "canBegin", "(I)Z"⟩ ∈ ig_all := ig_in (List.mem_append_right _ (List.mem_of_getElem? (i := 911) (by decide +kernel))) rfl
theorem mw_185 : Cond.selects "IntergreenModel" ⟨"IntergreenModel", "canBegin", "(I)Z"⟩ ⟨"IntergreenModel", "canBegin", "(I)Z"⟩ ∈ ig_all := ig_in (List.mem_append_left _ (List.mem_of_getElem? (i := 38) (by decide +kernel))) rfl
theorem G_X6_129 : GoodIn ig_all (wsV RX6 129 RX6 yX6_canBegin (ig_ws yX6_canBegin cX6_canBegin 5 (some .boolean))) := ig_LV mw_183 mw_184 mw_185 mw_120 mw_182
theorem mw_186 : Cond.fieldLink "IntergreenModel" 40 "IntergreenModel" "wait" "[I" ∈ ig_all := ig_in (List.mem_append_right _ (List.mem_of_getElem? (i := 737) (by decide +kernel))) rfl
theorem gf_X6_40 (F : CallFix p m c cc nL s args ig_all RX6) (E : ig_E D kk ad bs s) (Z : ig_Z D kk ad bs s H locs a la b lb lo) (hdg : decode cc pc = .ok (.getfield 40, 3)) (kx : W p l e R s m args below meth c H locs cells slots Q (F0 m (pc + 3) ls (.ref (ad 108) :: rest))) : W p l e R s m args below meth c H locs cells slots Q (F0 m pc ls (.ref (ad 97) :: rest)) := ig_get (T := TX6) (N := 27) F E Z (i := 97) (by decide) (ig_k_97 _ _ _ _ _ _) rfl in_X6 17 (by decide) mw_186 rfl hdg kx
theorem mw_187 : Cond.fieldLink "IntergreenModel" 57 "IntergreenModel" "logs" "[I" ∈ ig_all := ig_in (List.mem_append_right _ (List.mem_of_getElem? (i := 744) (by decide +kernel))) rfl
theorem gf_X6_57 (F : CallFix p m c cc nL s args ig_all RX6) (E : ig_E D kk ad bs s) (Z : ig_Z D kk ad bs s H locs a la b lb lo) (hdg : decode cc pc = .ok (.getfield 57, 3)) (kx : W p l e R s m args below meth c H locs cells slots Q (F0 m (pc + 3) ls (.ref (ad 112) :: rest))) : W p l e R s m args below meth c H locs cells slots Q (F0 m pc ls (.ref (ad 97) :: rest)) := ig_get (T := TX6) (N := 27) F E Z (i := 97) (by decide) (ig_k_97 _ _ _ _ _ _) rfl in_X6 24 (by decide) mw_187 rfl hdg kx
theorem mw_188 : Cond.fieldLink "IntergreenModel" 132 "IntergreenModel" "gone" "I" ∈ ig_all := ig_in (List.mem_append_right _ (List.mem_of_getElem? (i := 742) (by decide +kernel))) rfl
theorem gf_X6_132 (F : CallFix p m c cc nL s args ig_all RX6) (E : ig_E D kk ad bs s) (Z : ig_Z D kk ad bs s H locs a la b lb lo) (hdg : decode cc pc = .ok (.getfield 132, 3)) (kx : W p l e R s m args below meth c H locs cells slots Q (F0 m (pc + 3) ls (.int (b 97 22) :: rest))) : W p l e R s m args below meth c H locs cells slots Q (F0 m pc ls (.ref (ad 97) :: rest)) := ig_get (T := TX6) (N := 27) F E Z (i := 97) (by decide) (ig_k_97 _ _ _ _ _ _) rfl in_X6 22 (by decide) mw_188 rfl hdg kx
theorem pf_X6_132 (F : CallFix p m c cc nL s args ig_all RX6) (E : ig_E D kk ad bs s) (Z : ig_Z D kk ad bs s H locs a la b lb lo) {v : Int32} (hdg : decode cc pc = .ok (.putfield 132, 3)) (kx : ∀ (H1 : Heap) (locs1 : List Loc) (b1 : ig_M), b1 = ig_up b 97 22 v → ig_Z D kk ad bs s H1 locs1 a la b1 lb lo → W p l e R s m args below meth c H1 locs1 cells slots Q (F0 m (pc + 3) ls rest)) : W p l e R s m args below meth c H locs cells slots Q (F0 m pc ls (.int v :: .ref (ad 97) :: rest)) := ig_put (T := TX6) (N := 27) F E Z (i := 97) (by decide) (ig_k_97 _ _ _ _ _ _) rfl in_X6 tyX6 tyX6_ok nmX6 22 (by decide) mw_188 rfl (ty := .int) rfl rfl rfl (Nat.le_of_ble_eq_true rfl) rfl (ig_offB v 22) hdg (fun H1 locs1 Z1 => kx H1 locs1 _ rfl Z1)
theorem mw_189 : Cond.fieldLink "IntergreenModel" 43 "IntergreenModel" "longest" "[I" ∈ ig_all := ig_in (List.mem_append_right _ (List.mem_of_getElem? (i := 738) (by decide +kernel))) rfl
theorem gf_X6_43 (F : CallFix p m c cc nL s args ig_all RX6) (E : ig_E D kk ad bs s) (Z : ig_Z D kk ad bs s H locs a la b lb lo) (hdg : decode cc pc = .ok (.getfield 43, 3)) (kx : W p l e R s m args below meth c H locs cells slots Q (F0 m (pc + 3) ls (.ref (ad 109) :: rest))) : W p l e R s m args below meth c H locs cells slots Q (F0 m pc ls (.ref (ad 97) :: rest)) := ig_get (T := TX6) (N := 27) F E Z (i := 97) (by decide) (ig_k_97 _ _ _ _ _ _) rfl in_X6 18 (by decide) mw_189 rfl hdg kx
theorem mw_190 : Cond.code ⟨"IntergreenModel", "leave", "()V"⟩ prog_8_method_25_code 7 (Option.none : Option Jvm.ClassFile.FieldType) ∈ ig_all := ig_in (List.mem_append_right _ (List.mem_of_getElem? (i := 892) (by decide +kernel))) rfl
theorem mw_191 : Cond.methodLink "IntergreenModel" 135 ⟨"IntergreenModel", "leave", "()V"⟩ ∈ ig_all := ig_in (List.mem_append_right _ (List.mem_of_getElem? (i := 889) (by decide +kernel))) rfl
theorem mw_192 : Cond.instanceMethod ⟨"IntergreenModel", "leave", "()V"⟩ ∈ ig_all := ig_in (List.mem_append_right _ (List.mem_of_getElem? (i := 891) (by decide +kernel))) rfl
theorem mw_193 : Cond.selects "IntergreenModel" ⟨"IntergreenModel", "leave", "()V"⟩ ⟨"IntergreenModel", "leave", "()V"⟩ ∈ ig_all := ig_in (List.mem_append_left _ (List.mem_of_getElem? (i := 33) (by decide +kernel))) rfl
theorem G_X6_135 : GoodIn ig_all (wsV RX6 135 RX6 yX6_leave (ig_ws yX6_leave cX6_leave 7 none)) := ig_LV mw_191 mw_192 mw_193 mw_120 mw_190
theorem mw_194 : Cond.code ⟨"IntergreenModel", "begin", "()V"⟩ prog_8_method_27_code 3 (Option.none : Option Jvm.ClassFile.FieldType) ∈ ig_all := ig_in (List.mem_append_right _ (List.mem_of_getElem? (i := 908) (by decide +kernel))) rfl
theorem mw_195 : Cond.methodLink "IntergreenModel" 138 ⟨"IntergreenModel", "begin", "()V"⟩ ∈ ig_all := ig_in (List.mem_append_right _ (List.mem_of_getElem? (i := 905) (by decide +kernel))) rfl
theorem mw_196 : Cond.instanceMethod ⟨"IntergreenModel", "begin", "()V"⟩ ∈ ig_all := ig_in (List.mem_append_right _ (List.mem_of_getElem? (i := 907) (by decide +kernel))) rfl
theorem mw_197 : Cond.selects "IntergreenModel" ⟨"IntergreenModel", "begin", "()V"⟩ ⟨"IntergreenModel", "begin", "()V"⟩ ∈ ig_all := ig_in (List.mem_append_left _ (List.mem_of_getElem? (i := 37) (by decide +kernel))) rfl
theorem G_X6_138 : GoodIn ig_all (wsV RX6 138 RX6 yX6_begin (ig_ws yX6_begin cX6_begin 3 none)) := ig_LV mw_195 mw_196 mw_197 mw_120 mw_194
theorem mw_198 : Cond.code ⟨"IntergreenModel", "isDangerous", "()Z"⟩ prog_8_method_28_code 4 (Option.some Jvm.ClassFile.FieldType.boolean) ∈ ig_all := ig_in (List.mem_append_right _ (List.mem_of_getElem? (i := 916) (by decide +kernel))) rfl
theorem mw_199 : Cond.methodLink "IntergreenModel" 141 ⟨"IntergreenModel", "isDangerous", "()Z"⟩ ∈ ig_all := ig_in (List.mem_append_right _ (List.mem_of_getElem? (i := 913) (by decide +kernel))) rfl
theorem mw_200 : Cond.instanceMethod ⟨"IntergreenModel", "isDangerous", "()Z"⟩ ∈ ig_all := ig_in (List.mem_append_right _ (List.mem_of_getElem? (i := 915) (by decide +kernel))) rfl
theorem mw_201 : Cond.selects "IntergreenModel" ⟨"IntergreenModel", "isDangerous", "()Z"⟩ ⟨"IntergreenModel", "isDangerous", "()Z"⟩ ∈ ig_all := ig_in (List.mem_append_left _ (List.mem_of_getElem? (i := 39) (by decide +kernel))) rfl
theorem G_X6_141 : GoodIn ig_all (wsV RX6 141 RX6 yX6_isDangerous (ig_ws yX6_isDangerous cX6_isDangerous 4 (some .boolean))) := ig_LV mw_199 mw_200 mw_201 mw_120 mw_198
theorem mw_202 : Cond.code ⟨"IntergreenModel", "write", "()V"⟩ prog_8_method_29_code 4 (Option.none : Option Jvm.ClassFile.FieldType) ∈ ig_all := ig_in (List.mem_append_right _ (List.mem_of_getElem? (i := 920) (by decide +kernel))) rfl
theorem mw_203 : Cond.methodLink "IntergreenModel" 145 ⟨"IntergreenModel", "write", "()V"⟩ ∈ ig_all := ig_in (List.mem_append_right _ (List.mem_of_getElem? (i := 917) (by decide +kernel))) rfl
theorem mw_204 : Cond.instanceMethod ⟨"IntergreenModel", "write", "()V"⟩ ∈ ig_all := ig_in (List.mem_append_right _ (List.mem_of_getElem? (i := 919) (by decide +kernel))) rfl
theorem mw_205 : Cond.selects "IntergreenModel" ⟨"IntergreenModel", "write", "()V"⟩ ⟨"IntergreenModel", "write", "()V"⟩ ∈ ig_all := ig_in (List.mem_append_left _ (List.mem_of_getElem? (i := 40) (by decide +kernel))) rfl
theorem G_X6_145 : GoodIn ig_all (wsV RX6 145 RX6 yX6_write (ig_ws yX6_write cX6_write 4 none)) := ig_LV mw_203 mw_204 mw_205 mw_120 mw_202
theorem mw_206 : Cond.code ⟨"IntergreenModel", "move", "(I)V"⟩ prog_8_method_30_code 2 (Option.none : Option Jvm.ClassFile.FieldType) ∈ ig_all := ig_in (List.mem_append_right _ (List.mem_of_getElem? (i := 924) (by decide +kernel))) rfl
theorem mw_207 : Cond.methodLink "IntergreenModel" 148 ⟨"IntergreenModel", "move", "(I)V"⟩ ∈ ig_all := ig_in (List.mem_append_right _ (List.mem_of_getElem? (i := 921) (by decide +kernel))) rfl
theorem mw_208 : Cond.instanceMethod ⟨"IntergreenModel", "move", "(I)V"⟩ ∈ ig_all := ig_in (List.mem_append_right _ (List.mem_of_getElem? (i := 923) (by decide +kernel))) rfl
theorem mw_209 : Cond.selects "IntergreenModel" ⟨"IntergreenModel", "move", "(I)V"⟩ ⟨"IntergreenModel", "move", "(I)V"⟩ ∈ ig_all := ig_in (List.mem_append_left _ (List.mem_of_getElem? (i := 41) (by decide +kernel))) rfl
theorem G_X6_148 : GoodIn ig_all (wsV RX6 148 RX6 yX6_move (ig_ws yX6_move cX6_move 2 none)) := ig_LV mw_207 mw_208 mw_209 mw_120 mw_206
theorem mw_210 : Cond.fieldLink "IntergreenModel" 151 "IntergreenModel" "delay" "J" ∈ ig_all := ig_in (List.mem_append_right _ (List.mem_of_getElem? (i := 743) (by decide +kernel))) rfl
theorem gf_X6_151 (F : CallFix p m c cc nL s args ig_all RX6) (E : ig_E D kk ad bs s) (Z : ig_Z D kk ad bs s H locs a la b lb lo) (hdg : decode cc pc = .ok (.getfield 151, 3)) (kx : W p l e R s m args below meth c H locs cells slots Q (F0 m (pc + 3) ls (.long lb :: rest))) : W p l e R s m args below meth c H locs cells slots Q (F0 m pc ls (.ref (ad 97) :: rest)) := ig_get (T := TX6) (N := 27) F E Z (i := 97) (by decide) (ig_k_97 _ _ _ _ _ _) rfl in_X6 23 (by decide) mw_210 rfl hdg kx
theorem pf_X6_151 (F : CallFix p m c cc nL s args ig_all RX6) (E : ig_E D kk ad bs s) (Z : ig_Z D kk ad bs s H locs a la b lb lo) {v : Int64} (hdg : decode cc pc = .ok (.putfield 151, 3)) (kx : ∀ (H1 : Heap) (locs1 : List Loc), ig_Z D kk ad bs s H1 locs1 a la b v lo → W p l e R s m args below meth c H1 locs1 cells slots Q (F0 m (pc + 3) ls rest)) : W p l e R s m args below meth c H locs cells slots Q (F0 m pc ls (.long v :: .ref (ad 97) :: rest)) := ig_put (T := TX6) (N := 27) F E Z (i := 97) (by decide) (ig_k_97 _ _ _ _ _ _) rfl in_X6 tyX6 tyX6_ok nmX6 23 (by decide) mw_210 rfl (ty := .long) rfl rfl rfl (Nat.le_of_ble_eq_true rfl) rfl (fun j hj => ig_c_lb _ _ _ _ _ _ _ hj) hdg (fun H1 locs1 Z1 => kx H1 locs1 Z1)
theorem pf_X6_109 (F : CallFix p m c cc nL s args ig_all RX6) (E : ig_E D kk ad bs s) (Z : ig_Z D kk ad bs s H locs a la b lb lo) {v : Int32} (hdg : decode cc pc = .ok (.putfield 109, 3)) (kx : ∀ (H1 : Heap) (locs1 : List Loc) (b1 : ig_M), b1 = ig_up b 97 11 v → ig_Z D kk ad bs s H1 locs1 a la b1 lb lo → W p l e R s m args below meth c H1 locs1 cells slots Q (F0 m (pc + 3) ls rest)) : W p l e R s m args below meth c H locs cells slots Q (F0 m pc ls (.int v :: .ref (ad 97) :: rest)) := ig_put (T := TX6) (N := 27) F E Z (i := 97) (by decide) (ig_k_97 _ _ _ _ _ _) rfl in_X6 tyX6 tyX6_ok nmX6 11 (by decide) mw_155 rfl (ty := .int) rfl rfl rfl (Nat.le_of_ble_eq_true rfl) rfl (ig_offB v 11) hdg (fun H1 locs1 Z1 => kx H1 locs1 _ rfl Z1)
theorem mw_211 : Cond.code ⟨"IntergreenModel", "goOne", "()V"⟩ prog_8_method_31_code 2 (Option.none : Option Jvm.ClassFile.FieldType) ∈ ig_all := ig_in (List.mem_append_right _ (List.mem_of_getElem? (i := 888) (by decide +kernel))) rfl
theorem mw_212 : Cond.methodLink "IntergreenModel" 155 ⟨"IntergreenModel", "goOne", "()V"⟩ ∈ ig_all := ig_in (List.mem_append_right _ (List.mem_of_getElem? (i := 885) (by decide +kernel))) rfl
theorem mw_213 : Cond.instanceMethod ⟨"IntergreenModel", "goOne", "()V"⟩ ∈ ig_all := ig_in (List.mem_append_right _ (List.mem_of_getElem? (i := 887) (by decide +kernel))) rfl
theorem mw_214 : Cond.selects "IntergreenModel" ⟨"IntergreenModel", "goOne", "()V"⟩ ⟨"IntergreenModel", "goOne", "()V"⟩ ∈ ig_all := ig_in (List.mem_append_left _ (List.mem_of_getElem? (i := 32) (by decide +kernel))) rfl
theorem G_X6_155 : GoodIn ig_all (wsV RX6 155 RX6 yX6_goOne (ig_ws yX6_goOne cX6_goOne 2 none)) := ig_LV mw_212 mw_213 mw_214 mw_120 mw_211
theorem mw_215 : Cond.code ⟨"IntergreenModel", "shown", "(II)I"⟩ prog_8_method_33_code 3 (Option.some Jvm.ClassFile.FieldType.int) ∈ ig_all := ig_in (List.mem_append_right _ (List.mem_of_getElem? (i := 932) (by decide +kernel))) rfl
theorem mw_216 : Cond.methodLink "IntergreenModel" 158 ⟨"IntergreenModel", "shown", "(II)I"⟩ ∈ ig_all := ig_in (List.mem_append_right _ (List.mem_of_getElem? (i := 929) (by decide +kernel))) rfl
theorem mw_217 : Cond.instanceMethod ⟨"IntergreenModel", "shown", "(II)I"⟩ ∈ ig_all := ig_in (List.mem_append_right _ (List.mem_of_getElem? (i := 931) (by decide +kernel))) rfl
theorem mw_218 : Cond.selects "IntergreenModel" ⟨"IntergreenModel", "shown", "(II)I"⟩ ⟨"IntergreenModel", "shown", "(II)I"⟩ ∈ ig_all := ig_in (List.mem_append_left _ (List.mem_of_getElem? (i := 42) (by decide +kernel))) rfl
theorem G_X6_158 : GoodIn ig_all (wsV RX6 158 RX6 yX6_shown (ig_ws yX6_shown cX6_shown 3 (some .int))) := ig_LV mw_216 mw_217 mw_218 mw_120 mw_215
theorem mw_219 : Cond.code ⟨"IntergreenModel", "changeOf", "(II)I"⟩ prog_8_method_40_code 7 (Option.some Jvm.ClassFile.FieldType.int) ∈ ig_all := ig_in (List.mem_append_right _ (List.mem_of_getElem? (i := 960) (by decide +kernel))) rfl
theorem mw_220 : Cond.methodLink "IntergreenModel" 162 ⟨"IntergreenModel", "changeOf", "(II)I"⟩ ∈ ig_all := ig_in (List.mem_append_right _ (List.mem_of_getElem? (i := 957) (by decide +kernel))) rfl
theorem mw_221 : Cond.instanceMethod ⟨"IntergreenModel", "changeOf", "(II)I"⟩ ∈ ig_all := ig_in (List.mem_append_right _ (List.mem_of_getElem? (i := 959) (by decide +kernel))) rfl
theorem mw_222 : Cond.selects "IntergreenModel" ⟨"IntergreenModel", "changeOf", "(II)I"⟩ ⟨"IntergreenModel", "changeOf", "(II)I"⟩ ∈ ig_all := ig_in (List.mem_append_left _ (List.mem_of_getElem? (i := 43) (by decide +kernel))) rfl
theorem G_X6_162 : GoodIn ig_all (wsV RX6 162 RX6 yX6_changeOf (ig_ws yX6_changeOf cX6_changeOf 7 (some .int))) := ig_LV mw_220 mw_221 mw_222 mw_120 mw_219
theorem mw_223 : Cond.fieldLink "IntergreenModel" 60 "IntergreenModel" "row" "[I" ∈ ig_all := ig_in (List.mem_append_right _ (List.mem_of_getElem? (i := 745) (by decide +kernel))) rfl
theorem gf_X6_60 (F : CallFix p m c cc nL s args ig_all RX6) (E : ig_E D kk ad bs s) (Z : ig_Z D kk ad bs s H locs a la b lb lo) (hdg : decode cc pc = .ok (.getfield 60, 3)) (kx : W p l e R s m args below meth c H locs cells slots Q (F0 m (pc + 3) ls (.ref (ad 113) :: rest))) : W p l e R s m args below meth c H locs cells slots Q (F0 m pc ls (.ref (ad 97) :: rest)) := ig_get (T := TX6) (N := 27) F E Z (i := 97) (by decide) (ig_k_97 _ _ _ _ _ _) rfl in_X6 25 (by decide) mw_223 rfl hdg kx
theorem mw_224 : Cond.code ⟨"IntergreenModel", "leastOf", "(I)I"⟩ prog_8_method_42_code 4 (Option.some Jvm.ClassFile.FieldType.int) ∈ ig_all := ig_in (List.mem_append_right _ (List.mem_of_getElem? (i := 980) (by decide +kernel))) rfl
theorem mw_225 : Cond.methodLink "IntergreenModel" 165 ⟨"IntergreenModel", "leastOf", "(I)I"⟩ ∈ ig_all := ig_in (List.mem_append_right _ (List.mem_of_getElem? (i := 977) (by decide +kernel))) rfl
theorem mw_226 : Cond.instanceMethod ⟨"IntergreenModel", "leastOf", "(I)I"⟩ ∈ ig_all := ig_in (List.mem_append_right _ (List.mem_of_getElem? (i := 979) (by decide +kernel))) rfl
theorem mw_227 : Cond.selects "IntergreenModel" ⟨"IntergreenModel", "leastOf", "(I)I"⟩ ⟨"IntergreenModel", "leastOf", "(I)I"⟩ ∈ ig_all := ig_in (List.mem_append_left _ (List.mem_of_getElem? (i := 47) (by decide +kernel))) rfl
theorem G_X6_165 : GoodIn ig_all (wsV RX6 165 RX6 yX6_leastOf (ig_ws yX6_leastOf cX6_leastOf 4 (some .int))) := ig_LV mw_225 mw_226 mw_227 mw_120 mw_224
theorem mw_228 : Cond.code ⟨"IntergreenModel", "isNew", "(I)Z"⟩ prog_8_method_43_code 4 (Option.some Jvm.ClassFile.FieldType.boolean) ∈ ig_all := ig_in (List.mem_append_right _ (List.mem_of_getElem? (i := 972) (by decide +kernel))) rfl
theorem mw_229 : Cond.methodLink "IntergreenModel" 169 ⟨"IntergreenModel", "isNew", "(I)Z"⟩ ∈ ig_all := ig_in (List.mem_append_right _ (List.mem_of_getElem? (i := 969) (by decide +kernel))) rfl
theorem mw_230 : Cond.instanceMethod ⟨"IntergreenModel", "isNew", "(I)Z"⟩ ∈ ig_all := ig_in (List.mem_append_right _ (List.mem_of_getElem? (i := 971) (by decide +kernel))) rfl
theorem mw_231 : Cond.selects "IntergreenModel" ⟨"IntergreenModel", "isNew", "(I)Z"⟩ ⟨"IntergreenModel", "isNew", "(I)Z"⟩ ∈ ig_all := ig_in (List.mem_append_left _ (List.mem_of_getElem? (i := 45) (by decide +kernel))) rfl
theorem G_X6_169 : GoodIn ig_all (wsV RX6 169 RX6 yX6_isNew (ig_ws yX6_isNew cX6_isNew 4 (some .boolean))) := ig_LV mw_229 mw_230 mw_231 mw_120 mw_228
theorem mw_232 : Cond.code ⟨"IntergreenModel", "takes", "()I"⟩ prog_8_method_44_code 3 (Option.some Jvm.ClassFile.FieldType.int) ∈ ig_all := ig_in (List.mem_append_right _ (List.mem_of_getElem? (i := 976) (by decide +kernel))) rfl
theorem mw_233 : Cond.methodLink "IntergreenModel" 172 ⟨"IntergreenModel", "takes", "()I"⟩ ∈ ig_all := ig_in (List.mem_append_right _ (List.mem_of_getElem? (i := 973) (by decide +kernel))) rfl
theorem mw_234 : Cond.instanceMethod ⟨"IntergreenModel", "takes", "()I"⟩ ∈ ig_all := ig_in (List.mem_append_right _ (List.mem_of_getElem? (i := 975) (by decide +kernel))) rfl
theorem mw_235 : Cond.selects "IntergreenModel" ⟨"IntergreenModel", "takes", "()I"⟩ ⟨"IntergreenModel", "takes", "()I"⟩ ∈ ig_all := ig_in (List.mem_append_left _ (List.mem_of_getElem? (i := 46) (by decide +kernel))) rfl
theorem G_X6_172 : GoodIn ig_all (wsV RX6 172 RX6 yX6_takes (ig_ws yX6_takes cX6_takes 3 (some .int))) := ig_LV mw_233 mw_234 mw_235 mw_120 mw_232
theorem mw_236 : Cond.fieldLink "IntergreenModel" 63 "IntergreenModel" "best" "[I" ∈ ig_all := ig_in (List.mem_append_right _ (List.mem_of_getElem? (i := 746) (by decide +kernel))) rfl
theorem gf_X6_63 (F : CallFix p m c cc nL s args ig_all RX6) (E : ig_E D kk ad bs s) (Z : ig_Z D kk ad bs s H locs a la b lb lo) (hdg : decode cc pc = .ok (.getfield 63, 3)) (kx : W p l e R s m args below meth c H locs cells slots Q (F0 m (pc + 3) ls (.ref (ad 114) :: rest))) : W p l e R s m args below meth c H locs cells slots Q (F0 m pc ls (.ref (ad 97) :: rest)) := ig_get (T := TX6) (N := 27) F E Z (i := 97) (by decide) (ig_k_97 _ _ _ _ _ _) rfl in_X6 26 (by decide) mw_236 rfl hdg kx
theorem mw_237 : Cond.code ⟨"IntergreenModel", "shortest", "()I"⟩ prog_8_method_45_code 6 (Option.some Jvm.ClassFile.FieldType.int) ∈ ig_all := ig_in (List.mem_append_right _ (List.mem_of_getElem? (i := 968) (by decide +kernel))) rfl
theorem mw_238 : Cond.methodLink "IntergreenModel" 175 ⟨"IntergreenModel", "shortest", "()I"⟩ ∈ ig_all := ig_in (List.mem_append_right _ (List.mem_of_getElem? (i := 965) (by decide +kernel))) rfl
theorem mw_239 : Cond.instanceMethod ⟨"IntergreenModel", "shortest", "()I"⟩ ∈ ig_all := ig_in (List.mem_append_right _ (List.mem_of_getElem? (i := 967) (by decide +kernel))) rfl
theorem mw_240 : Cond.selects "IntergreenModel" ⟨"IntergreenModel", "shortest", "()I"⟩ ⟨"IntergreenModel", "shortest", "()I"⟩ ∈ ig_all := ig_in (List.mem_append_left _ (List.mem_of_getElem? (i := 44) (by decide +kernel))) rfl
theorem G_X6_175 : GoodIn ig_all (wsV RX6 175 RX6 yX6_shortest (ig_ws yX6_shortest cX6_shortest 6 (some .int))) := ig_LV mw_238 mw_239 mw_240 mw_120 mw_237
theorem mw_241 : Cond.fieldLink "Intergreen$Lights" 9 "Intergreen$Lights" "mode" "I" ∈ ig_all := ig_in (List.mem_append_right _ (List.mem_of_getElem? (i := 124) (by decide +kernel))) rfl
theorem gf_X0_9 (F : CallFix p m c cc nL s args ig_all RX0) (E : ig_E D kk ad bs s) (Z : ig_Z D kk ad bs s H locs a la b lb lo) (hdg : decode cc pc = .ok (.getfield 9, 3)) (kx : W p l e R s m args below meth c H locs cells slots Q (F0 m (pc + 3) ls (.int (a 23 2) :: rest))) : W p l e R s m args below meth c H locs cells slots Q (F0 m pc ls (.ref (ad 23) :: rest)) := ig_get (T := TX0) (N := 9) F E Z (i := 23) (by decide) (ig_k_23 _ _ _ _ _ _) rfl in_X0 2 (by decide) mw_241 rfl hdg kx
theorem pf_X0_9 (F : CallFix p m c cc nL s args ig_all RX0) (E : ig_E D kk ad bs s) (Z : ig_Z D kk ad bs s H locs a la b lb lo) {v : Int32} (hdg : decode cc pc = .ok (.putfield 9, 3)) (kx : ∀ (H1 : Heap) (locs1 : List Loc) (a1 : ig_M), a1 = ig_up a 23 2 v → ig_Z D kk ad bs s H1 locs1 a1 la b lb lo → W p l e R s m args below meth c H1 locs1 cells slots Q (F0 m (pc + 3) ls rest)) : W p l e R s m args below meth c H locs cells slots Q (F0 m pc ls (.int v :: .ref (ad 23) :: rest)) := ig_put (T := TX0) (N := 9) F E Z (i := 23) (by decide) (ig_k_23 _ _ _ _ _ _) rfl in_X0 tyX0 tyX0_ok nmX0 2 (by decide) mw_241 rfl (ty := .int) rfl rfl rfl (Nat.le_of_ble_eq_true rfl) rfl (ig_offA v 2) hdg (fun H1 locs1 Z1 => kx H1 locs1 _ rfl Z1)
theorem mw_242 : Cond.fieldLink "Intergreen$Lights" 15 "Intergreen$Lights" "stage" "I" ∈ ig_all := ig_in (List.mem_append_right _ (List.mem_of_getElem? (i := 126) (by decide +kernel))) rfl
theorem pf_X0_15 (F : CallFix p m c cc nL s args ig_all RX0) (E : ig_E D kk ad bs s) (Z : ig_Z D kk ad bs s H locs a la b lb lo) {v : Int32} (hdg : decode cc pc = .ok (.putfield 15, 3)) (kx : ∀ (H1 : Heap) (locs1 : List Loc) (a1 : ig_M), a1 = ig_up a 23 3 v → ig_Z D kk ad bs s H1 locs1 a1 la b lb lo → W p l e R s m args below meth c H1 locs1 cells slots Q (F0 m (pc + 3) ls rest)) : W p l e R s m args below meth c H locs cells slots Q (F0 m pc ls (.int v :: .ref (ad 23) :: rest)) := ig_put (T := TX0) (N := 9) F E Z (i := 23) (by decide) (ig_k_23 _ _ _ _ _ _) rfl in_X0 tyX0 tyX0_ok nmX0 3 (by decide) mw_242 rfl (ty := .int) rfl rfl rfl (Nat.le_of_ble_eq_true rfl) rfl (ig_offA v 3) hdg (fun H1 locs1 Z1 => kx H1 locs1 _ rfl Z1)
theorem mw_243 : Cond.fieldLink "Intergreen$Lights" 29 "Intergreen$Lights" "wereStarted" "Z" ∈ ig_all := ig_in (List.mem_append_right _ (List.mem_of_getElem? (i := 128) (by decide +kernel))) rfl
theorem pf_X0_29 (F : CallFix p m c cc nL s args ig_all RX0) (E : ig_E D kk ad bs s) (Z : ig_Z D kk ad bs s H locs a la b lb lo) {v : Int32} (hz : v = 0 ∨ v = 1) (hdg : decode cc pc = .ok (.putfield 29, 3)) (kx : ∀ (H1 : Heap) (locs1 : List Loc) (a1 : ig_M), a1 = ig_up a 23 4 v → ig_Z D kk ad bs s H1 locs1 a1 la b lb lo → W p l e R s m args below meth c H1 locs1 cells slots Q (F0 m (pc + 3) ls rest)) : W p l e R s m args below meth c H locs cells slots Q (F0 m pc ls (.int v :: .ref (ad 23) :: rest)) := ig_put (T := TX0) (N := 9) F E Z (i := 23) (by decide) (ig_k_23 _ _ _ _ _ _) rfl in_X0 tyX0 tyX0_ok nmX0 4 (by decide) mw_243 rfl (ty := .boolean) rfl (ig_narrow hz) (by rcases hz with rfl | rfl <;> decide) (Nat.le_of_ble_eq_true rfl) rfl (ig_offA v 4) hdg (fun H1 locs1 Z1 => kx H1 locs1 _ rfl Z1)
theorem mw_244 : Cond.fieldLink "Intergreen$Lights" 21 "Intergreen$Lights" "plan" "LIntergreen$Plan;" ∈ ig_all := ig_in (List.mem_append_right _ (List.mem_of_getElem? (i := 122) (by decide +kernel))) rfl
theorem gf_X0_21 (F : CallFix p m c cc nL s args ig_all RX0) (E : ig_E D kk ad bs s) (Z : ig_Z D kk ad bs s H locs a la b lb lo) (hdg : decode cc pc = .ok (.getfield 21, 3)) (kx : W p l e R s m args below meth c H locs cells slots Q (F0 m (pc + 3) ls (.ref (ad 1) :: rest))) : W p l e R s m args below meth c H locs cells slots Q (F0 m pc ls (.ref (ad 23) :: rest)) := ig_get (T := TX0) (N := 9) F E Z (i := 23) (by decide) (ig_k_23 _ _ _ _ _ _) rfl in_X0 0 (by decide) mw_244 rfl hdg kx
theorem mw_245 : Cond.fieldLink "Intergreen$Lights" 33 "Intergreen$Plan" "phaseCount" "I" ∈ ig_all := ig_in (List.mem_append_right _ (List.mem_of_getElem? (i := 87) (by decide +kernel))) rfl
theorem gf_X0_33 (F : CallFix p m c cc nL s args ig_all RX0) (E : ig_E D kk ad bs s) (Z : ig_Z D kk ad bs s H locs a la b lb lo) (hdg : decode cc pc = .ok (.getfield 33, 3)) (kx : W p l e R s m args below meth c H locs cells slots Q (F0 m (pc + 3) ls (.int (a 1 1) :: rest))) : W p l e R s m args below meth c H locs cells slots Q (F0 m pc ls (.ref (ad 1) :: rest)) := ig_get (T := TX3) (N := 5) F E Z (i := 1) (by decide) (ig_k_1 _ _ _ _ _ _) rfl in_X3 1 (by decide) mw_245 rfl hdg kx
theorem mw_246 : Cond.fieldLink "Intergreen$Lights" 38 "Intergreen$Plan" "phases" "[LIntergreen$Phase;" ∈ ig_all := ig_in (List.mem_append_right _ (List.mem_of_getElem? (i := 83) (by decide +kernel))) rfl
theorem gf_X0_38 (F : CallFix p m c cc nL s args ig_all RX0) (E : ig_E D kk ad bs s) (Z : ig_Z D kk ad bs s H locs a la b lb lo) (hdg : decode cc pc = .ok (.getfield 38, 3)) (kx : W p l e R s m args below meth c H locs cells slots Q (F0 m (pc + 3) ls (.ref (ad 2) :: rest))) : W p l e R s m args below meth c H locs cells slots Q (F0 m pc ls (.ref (ad 1) :: rest)) := ig_get (T := TX3) (N := 5) F E Z (i := 1) (by decide) (ig_k_1 _ _ _ _ _ _) rfl in_X3 0 (by decide) mw_246 rfl hdg kx
theorem mw_247 : Cond.fieldLink "Intergreen$Lights" 42 "Intergreen$Lights" "now" "I" ∈ ig_all := ig_in (List.mem_append_right _ (List.mem_of_getElem? (i := 131) (by decide +kernel))) rfl
theorem gf_X0_42 (F : CallFix p m c cc nL s args ig_all RX0) (E : ig_E D kk ad bs s) (Z : ig_Z D kk ad bs s H locs a la b lb lo) (hdg : decode cc pc = .ok (.getfield 42, 3)) (kx : W p l e R s m args below meth c H locs cells slots Q (F0 m (pc + 3) ls (.int (a 23 6) :: rest))) : W p l e R s m args below meth c H locs cells slots Q (F0 m pc ls (.ref (ad 23) :: rest)) := ig_get (T := TX0) (N := 9) F E Z (i := 23) (by decide) (ig_k_23 _ _ _ _ _ _) rfl in_X0 6 (by decide) mw_247 rfl hdg kx
theorem mw_248 : Cond.code ⟨"Intergreen$Phase", "turnRed", "(I)V"⟩ prog_4_method_9_code 2 (Option.none : Option Jvm.ClassFile.FieldType) ∈ ig_all := ig_in (List.mem_append_right _ (List.mem_of_getElem? (i := 457) (by decide +kernel))) rfl
theorem mw_249 : Cond.methodLink "Intergreen$Lights" 45 ⟨"Intergreen$Phase", "turnRed", "(I)V"⟩ ∈ ig_all := ig_in (List.mem_append_right _ (List.mem_of_getElem? (i := 454) (by decide +kernel))) rfl
theorem mw_250 : Cond.instanceMethod ⟨"Intergreen$Phase", "turnRed", "(I)V"⟩ ∈ ig_all := ig_in (List.mem_append_right _ (List.mem_of_getElem? (i := 455) (by decide +kernel))) rfl
theorem mw_251 : Cond.selects "Intergreen$Phase" ⟨"Intergreen$Phase", "turnRed", "(I)V"⟩ ⟨"Intergreen$Phase", "turnRed", "(I)V"⟩ ∈ ig_all := ig_in (List.mem_append_right _ (List.mem_of_getElem? (i := 456) (by decide +kernel))) rfl
theorem G_X0_45 : GoodIn ig_all (wsV RX0 45 RX2 yX2_turnRed (ig_ws yX2_turnRed cX2_turnRed 2 none)) := ig_LV mw_249 mw_250 mw_251 mw_57 mw_248
theorem mw_252 : Cond.code ⟨"Intergreen$Lights", "leaveStage", "()V"⟩ prog_2_method_6_code 4 (Option.none : Option Jvm.ClassFile.FieldType) ∈ ig_all := ig_in (List.mem_append_right _ (List.mem_of_getElem? (i := 531) (by decide +kernel))) rfl
theorem mw_253 : Cond.methodLink "Intergreen$Lights" 51 ⟨"Intergreen$Lights", "leaveStage", "()V"⟩ ∈ ig_all := ig_in (List.mem_append_right _ (List.mem_of_getElem? (i := 528) (by decide +kernel))) rfl
theorem mw_254 : Cond.instanceMethod ⟨"Intergreen$Lights", "leaveStage", "()V"⟩ ∈ ig_all := ig_in (List.mem_append_right _ (List.mem_of_getElem? (i := 530) (by decide +kernel))) rfl
theorem mw_255 : Cond.selects "Intergreen$Lights" ⟨"Intergreen$Lights", "leaveStage", "()V"⟩ ⟨"Intergreen$Lights", "leaveStage", "()V"⟩ ∈ ig_all := ig_in (List.mem_append_left _ (List.mem_of_getElem? (i := 10) (by decide +kernel))) rfl
theorem G_X0_51 : GoodIn ig_all (wsV RX0 51 RX0 yX0_leaveStage (ig_ws yX0_leaveStage cX0_leaveStage 4 none)) := ig_LV mw_253 mw_254 mw_255 mw_42 mw_252
theorem mw_256 : Cond.code ⟨"Intergreen$Lights", "enterStage", "()V"⟩ prog_2_method_11_code 5 (Option.none : Option Jvm.ClassFile.FieldType) ∈ ig_all := ig_in (List.mem_append_right _ (List.mem_of_getElem? (i := 566) (by decide +kernel))) rfl
theorem mw_257 : Cond.methodLink "Intergreen$Lights" 54 ⟨"Intergreen$Lights", "enterStage", "()V"⟩ ∈ ig_all := ig_in (List.mem_append_right _ (List.mem_of_getElem? (i := 563) (by decide +kernel))) rfl
theorem mw_258 : Cond.instanceMethod ⟨"Intergreen$Lights", "enterStage", "()V"⟩ ∈ ig_all := ig_in (List.mem_append_right _ (List.mem_of_getElem? (i := 565) (by decide +kernel))) rfl
theorem mw_259 : Cond.selects "Intergreen$Lights" ⟨"Intergreen$Lights", "enterStage", "()V"⟩ ⟨"Intergreen$Lights", "enterStage", "()V"⟩ ∈ ig_all := ig_in (List.mem_append_left _ (List.mem_of_getElem? (i := 15) (by decide +kernel))) rfl
theorem G_X0_54 : GoodIn ig_all (wsV RX0 54 RX0 yX0_enterStage (ig_ws yX0_enterStage cX0_enterStage 5 none)) := ig_LV mw_257 mw_258 mw_259 mw_42 mw_256
theorem mw_260 : Cond.code ⟨"Intergreen$Lights", "fadeAmbers", "()V"⟩ prog_2_method_13_code 2 (Option.none : Option Jvm.ClassFile.FieldType) ∈ ig_all := ig_in (List.mem_append_right _ (List.mem_of_getElem? (i := 582) (by decide +kernel))) rfl
theorem mw_261 : Cond.methodLink "Intergreen$Lights" 57 ⟨"Intergreen$Lights", "fadeAmbers", "()V"⟩ ∈ ig_all := ig_in (List.mem_append_right _ (List.mem_of_getElem? (i := 579) (by decide +kernel))) rfl
theorem mw_262 : Cond.instanceMethod ⟨"Intergreen$Lights", "fadeAmbers", "()V"⟩ ∈ ig_all := ig_in (List.mem_append_right _ (List.mem_of_getElem? (i := 581) (by decide +kernel))) rfl
theorem mw_263 : Cond.selects "Intergreen$Lights" ⟨"Intergreen$Lights", "fadeAmbers", "()V"⟩ ⟨"Intergreen$Lights", "fadeAmbers", "()V"⟩ ∈ ig_all := ig_in (List.mem_append_left _ (List.mem_of_getElem? (i := 17) (by decide +kernel))) rfl
theorem G_X0_57 : GoodIn ig_all (wsV RX0 57 RX0 yX0_fadeAmbers (ig_ws yX0_fadeAmbers cX0_fadeAmbers 2 none)) := ig_LV mw_261 mw_262 mw_263 mw_42 mw_260
theorem mw_264 : Cond.code ⟨"Intergreen$Lights", "watch", "()V"⟩ prog_2_method_14_code 3 (Option.none : Option Jvm.ClassFile.FieldType) ∈ ig_all := ig_in (List.mem_append_right _ (List.mem_of_getElem? (i := 590) (by decide +kernel))) rfl
theorem mw_265 : Cond.methodLink "Intergreen$Lights" 60 ⟨"Intergreen$Lights", "watch", "()V"⟩ ∈ ig_all := ig_in (List.mem_append_right _ (List.mem_of_getElem? (i := 587) (by decide +kernel))) rfl
theorem mw_266 : Cond.instanceMethod ⟨"Intergreen$Lights", "watch", "()V"⟩ ∈ ig_all := ig_in (List.mem_append_right _ (List.mem_of_getElem? (i := 589) (by decide +kernel))) rfl
theorem mw_267 : Cond.selects "Intergreen$Lights" ⟨"Intergreen$Lights", "watch", "()V"⟩ ⟨"Intergreen$Lights", "watch", "()V"⟩ ∈ ig_all := ig_in (List.mem_append_left _ (List.mem_of_getElem? (i := 18) (by decide +kernel))) rfl
theorem G_X0_60 : GoodIn ig_all (wsV RX0 60 RX0 yX0_watch (ig_ws yX0_watch cX0_watch 3 none)) := ig_LV mw_265 mw_266 mw_267 mw_42 mw_264
theorem mw_268 : Cond.code ⟨"Intergreen$Lights", "writeLog", "()V"⟩ prog_2_method_16_code 2 (Option.none : Option Jvm.ClassFile.FieldType) ∈ ig_all := ig_in (List.mem_append_right _ (List.mem_of_getElem? (i := 605) (by decide +kernel))) rfl
theorem mw_269 : Cond.methodLink "Intergreen$Lights" 63 ⟨"Intergreen$Lights", "writeLog", "()V"⟩ ∈ ig_all := ig_in (List.mem_append_right _ (List.mem_of_getElem? (i := 602) (by decide +kernel))) rfl
theorem mw_270 : Cond.instanceMethod ⟨"Intergreen$Lights", "writeLog", "()V"⟩ ∈ ig_all := ig_in (List.mem_append_right _ (List.mem_of_getElem? (i := 604) (by decide +kernel))) rfl
theorem mw_271 : Cond.selects "Intergreen$Lights" ⟨"Intergreen$Lights", "writeLog", "()V"⟩ ⟨"Intergreen$Lights", "writeLog", "()V"⟩ ∈ ig_all := ig_in (List.mem_append_left _ (List.mem_of_getElem? (i := 20) (by decide +kernel))) rfl
theorem G_X0_63 : GoodIn ig_all (wsV RX0 63 RX0 yX0_writeLog (ig_ws yX0_writeLog cX0_writeLog 2 none)) := ig_LV mw_269 mw_270 mw_271 mw_42 mw_268
theorem mw_272 : Cond.code ⟨"Intergreen$Lights", "movePhases", "()V"⟩ prog_2_method_17_code 2 (Option.none : Option Jvm.ClassFile.FieldType) ∈ ig_all := ig_in (List.mem_append_right _ (List.mem_of_getElem? (i := 624) (by decide +kernel))) rfl
theorem mw_273 : Cond.methodLink "Intergreen$Lights" 66 ⟨"Intergreen$Lights", "movePhases", "()V"⟩ ∈ ig_all := ig_in (List.mem_append_right _ (List.mem_of_getElem? (i := 621) (by decide +kernel))) rfl
theorem mw_274 : Cond.instanceMethod ⟨"Intergreen$Lights", "movePhases", "()V"⟩ ∈ ig_all := ig_in (List.mem_append_right _ (List.mem_of_getElem? (i := 623) (by decide +kernel))) rfl
theorem mw_275 : Cond.selects "Intergreen$Lights" ⟨"Intergreen$Lights", "movePhases", "()V"⟩ ⟨"Intergreen$Lights", "movePhases", "()V"⟩ ∈ ig_all := ig_in (List.mem_append_left _ (List.mem_of_getElem? (i := 21) (by decide +kernel))) rfl
theorem G_X0_66 : GoodIn ig_all (wsV RX0 66 RX0 yX0_movePhases (ig_ws yX0_movePhases cX0_movePhases 2 none)) := ig_LV mw_273 mw_274 mw_275 mw_42 mw_272
theorem mw_276 : Cond.code ⟨"Intergreen$Lights", "addQueues", "()V"⟩ prog_2_method_18_code 2 (Option.none : Option Jvm.ClassFile.FieldType) ∈ ig_all := ig_in (List.mem_append_right _ (List.mem_of_getElem? (i := 638) (by decide +kernel))) rfl
theorem mw_277 : Cond.methodLink "Intergreen$Lights" 69 ⟨"Intergreen$Lights", "addQueues", "()V"⟩ ∈ ig_all := ig_in (List.mem_append_right _ (List.mem_of_getElem? (i := 635) (by decide +kernel))) rfl
theorem mw_278 : Cond.instanceMethod ⟨"Intergreen$Lights", "addQueues", "()V"⟩ ∈ ig_all := ig_in (List.mem_append_right _ (List.mem_of_getElem? (i := 637) (by decide +kernel))) rfl
theorem mw_279 : Cond.selects "Intergreen$Lights" ⟨"Intergreen$Lights", "addQueues", "()V"⟩ ⟨"Intergreen$Lights", "addQueues", "()V"⟩ ∈ ig_all := ig_in (List.mem_append_left _ (List.mem_of_getElem? (i := 23) (by decide +kernel))) rfl
theorem G_X0_69 : GoodIn ig_all (wsV RX0 69 RX0 yX0_addQueues (ig_ws yX0_addQueues cX0_addQueues 2 none)) := ig_LV mw_277 mw_278 mw_279 mw_42 mw_276
theorem pf_X0_42 (F : CallFix p m c cc nL s args ig_all RX0) (E : ig_E D kk ad bs s) (Z : ig_Z D kk ad bs s H locs a la b lb lo) {v : Int32} (hdg : decode cc pc = .ok (.putfield 42, 3)) (kx : ∀ (H1 : Heap) (locs1 : List Loc) (a1 : ig_M), a1 = ig_up a 23 6 v → ig_Z D kk ad bs s H1 locs1 a1 la b lb lo → W p l e R s m args below meth c H1 locs1 cells slots Q (F0 m (pc + 3) ls rest)) : W p l e R s m args below meth c H locs cells slots Q (F0 m pc ls (.int v :: .ref (ad 23) :: rest)) := ig_put (T := TX0) (N := 9) F E Z (i := 23) (by decide) (ig_k_23 _ _ _ _ _ _) rfl in_X0 tyX0 tyX0_ok nmX0 6 (by decide) mw_247 rfl (ty := .int) rfl rfl rfl (Nat.le_of_ble_eq_true rfl) rfl (ig_offA v 6) hdg (fun H1 locs1 Z1 => kx H1 locs1 _ rfl Z1)
theorem mw_280 : Cond.code ⟨"Intergreen$Lights", "stageForTram", "()I"⟩ prog_2_method_7_code 2 (Option.some Jvm.ClassFile.FieldType.int) ∈ ig_all := ig_in (List.mem_append_right _ (List.mem_of_getElem? (i := 535) (by decide +kernel))) rfl
theorem mw_281 : Cond.methodLink "Intergreen$Lights" 72 ⟨"Intergreen$Lights", "stageForTram", "()I"⟩ ∈ ig_all := ig_in (List.mem_append_right _ (List.mem_of_getElem? (i := 532) (by decide +kernel))) rfl
theorem mw_282 : Cond.instanceMethod ⟨"Intergreen$Lights", "stageForTram", "()I"⟩ ∈ ig_all := ig_in (List.mem_append_right _ (List.mem_of_getElem? (i := 534) (by decide +kernel))) rfl
theorem mw_283 : Cond.selects "Intergreen$Lights" ⟨"Intergreen$Lights", "stageForTram", "()I"⟩ ⟨"Intergreen$Lights", "stageForTram", "()I"⟩ ∈ ig_all := ig_in (List.mem_append_left _ (List.mem_of_getElem? (i := 11) (by decide +kernel))) rfl
theorem G_X0_72 : GoodIn ig_all (wsV RX0 72 RX0 yX0_stageForTram (ig_ws yX0_stageForTram cX0_stageForTram 2 (some .int))) := ig_LV mw_281 mw_282 mw_283 mw_42 mw_280
theorem mw_284 : Cond.code ⟨"Intergreen$Lights", "stageOnDemand", "()I"⟩ prog_2_method_8_code 3 (Option.some Jvm.ClassFile.FieldType.int) ∈ ig_all := ig_in (List.mem_append_right _ (List.mem_of_getElem? (i := 541) (by decide +kernel))) rfl
theorem mw_285 : Cond.methodLink "Intergreen$Lights" 76 ⟨"Intergreen$Lights", "stageOnDemand", "()I"⟩ ∈ ig_all := ig_in (List.mem_append_right _ (List.mem_of_getElem? (i := 538) (by decide +kernel))) rfl
theorem mw_286 : Cond.instanceMethod ⟨"Intergreen$Lights", "stageOnDemand", "()I"⟩ ∈ ig_all := ig_in (List.mem_append_right _ (List.mem_of_getElem? (i := 540) (by decide +kernel))) rfl
theorem mw_287 : Cond.selects "Intergreen$Lights" ⟨"Intergreen$Lights", "stageOnDemand", "()I"⟩ ⟨"Intergreen$Lights", "stageOnDemand", "()I"⟩ ∈ ig_all := ig_in (List.mem_append_left _ (List.mem_of_getElem? (i := 12) (by decide +kernel))) rfl
theorem G_X0_76 : GoodIn ig_all (wsV RX0 76 RX0 yX0_stageOnDemand (ig_ws yX0_stageOnDemand cX0_stageOnDemand 3 (some .int))) := ig_LV mw_285 mw_286 mw_287 mw_42 mw_284
theorem gf_X0_15 (F : CallFix p m c cc nL s args ig_all RX0) (E : ig_E D kk ad bs s) (Z : ig_Z D kk ad bs s H locs a la b lb lo) (hdg : decode cc pc = .ok (.getfield 15, 3)) (kx : W p l e R s m args below meth c H locs cells slots Q (F0 m (pc + 3) ls (.int (a 23 3) :: rest))) : W p l e R s m args below meth c H locs cells slots Q (F0 m pc ls (.ref (ad 23) :: rest)) := ig_get (T := TX0) (N := 9) F E Z (i := 23) (by decide) (ig_k_23 _ _ _ _ _ _) rfl in_X0 3 (by decide) mw_242 rfl hdg kx
theorem mw_288 : Cond.code ⟨"Intergreen$Plan", "setOf", "(I)I"⟩ prog_5_method_5_code 2 (Option.some Jvm.ClassFile.FieldType.int) ∈ ig_all := ig_in (List.mem_append_right _ (List.mem_of_getElem? (i := 217) (by decide +kernel))) rfl
theorem mw_289 : Cond.methodLink "Intergreen$Lights" 79 ⟨"Intergreen$Plan", "setOf", "(I)I"⟩ ∈ ig_all := ig_in (List.mem_append_right _ (List.mem_of_getElem? (i := 536) (by decide +kernel))) rfl
theorem mw_290 : Cond.instanceMethod ⟨"Intergreen$Plan", "setOf", "(I)I"⟩ ∈ ig_all := ig_in (List.mem_append_right _ (List.mem_of_getElem? (i := 215) (by decide +kernel))) rfl
theorem mw_291 : Cond.selects "Intergreen$Plan" ⟨"Intergreen$Plan", "setOf", "(I)I"⟩ ⟨"Intergreen$Plan", "setOf", "(I)I"⟩ ∈ ig_all := ig_in (List.mem_append_right _ (List.mem_of_getElem? (i := 216) (by decide +kernel))) rfl
theorem G_X0_79 : GoodIn ig_all (wsV RX0 79 RX3 yX3_setOf (ig_ws yX3_setOf cX3_setOf 2 (some .int))) := ig_LV mw_289 mw_290 mw_291 mw_12 mw_288
theorem mw_292 : Cond.code ⟨"Intergreen$Lights", "mayEnd", "(IZ)Z"⟩ prog_2_method_9_code 4 (Option.some Jvm.ClassFile.FieldType.boolean) ∈ ig_all := ig_in (List.mem_append_right _ (List.mem_of_getElem? (i := 550) (by decide +kernel))) rfl
theorem mw_293 : Cond.methodLink "Intergreen$Lights" 83 ⟨"Intergreen$Lights", "mayEnd", "(IZ)Z"⟩ ∈ ig_all := ig_in (List.mem_append_right _ (List.mem_of_getElem? (i := 547) (by decide +kernel))) rfl
theorem mw_294 : Cond.instanceMethod ⟨"Intergreen$Lights", "mayEnd", "(IZ)Z"⟩ ∈ ig_all := ig_in (List.mem_append_right _ (List.mem_of_getElem? (i := 549) (by decide +kernel))) rfl
theorem mw_295 : Cond.selects "Intergreen$Lights" ⟨"Intergreen$Lights", "mayEnd", "(IZ)Z"⟩ ⟨"Intergreen$Lights", "mayEnd", "(IZ)Z"⟩ ∈ ig_all := ig_in (List.mem_append_left _ (List.mem_of_getElem? (i := 13) (by decide +kernel))) rfl
theorem G_X0_83 : GoodIn ig_all (wsV RX0 83 RX0 yX0_mayEnd (ig_ws yX0_mayEnd cX0_mayEnd 4 (some .boolean))) := ig_LV mw_293 mw_294 mw_295 mw_42 mw_292
theorem mw_296 : Cond.code ⟨"Intergreen$Lights", "endGreens", "(I)V"⟩ prog_2_method_10_code 3 (Option.none : Option Jvm.ClassFile.FieldType) ∈ ig_all := ig_in (List.mem_append_right _ (List.mem_of_getElem? (i := 558) (by decide +kernel))) rfl
theorem mw_297 : Cond.methodLink "Intergreen$Lights" 87 ⟨"Intergreen$Lights", "endGreens", "(I)V"⟩ ∈ ig_all := ig_in (List.mem_append_right _ (List.mem_of_getElem? (i := 555) (by decide +kernel))) rfl
theorem mw_298 : Cond.instanceMethod ⟨"Intergreen$Lights", "endGreens", "(I)V"⟩ ∈ ig_all := ig_in (List.mem_append_right _ (List.mem_of_getElem? (i := 557) (by decide +kernel))) rfl
theorem mw_299 : Cond.selects "Intergreen$Lights" ⟨"Intergreen$Lights", "endGreens", "(I)V"⟩ ⟨"Intergreen$Lights", "endGreens", "(I)V"⟩ ∈ ig_all := ig_in (List.mem_append_left _ (List.mem_of_getElem? (i := 14) (by decide +kernel))) rfl
theorem G_X0_87 : GoodIn ig_all (wsV RX0 87 RX0 yX0_endGreens (ig_ws yX0_endGreens cX0_endGreens 3 none)) := ig_LV mw_297 mw_298 mw_299 mw_42 mw_296
theorem mw_300 : Cond.fieldLink "Intergreen$Lights" 18 "Intergreen$Lights" "asked" "I" ∈ ig_all := ig_in (List.mem_append_right _ (List.mem_of_getElem? (i := 129) (by decide +kernel))) rfl
theorem gf_X0_18 (F : CallFix p m c cc nL s args ig_all RX0) (E : ig_E D kk ad bs s) (Z : ig_Z D kk ad bs s H locs a la b lb lo) (hdg : decode cc pc = .ok (.getfield 18, 3)) (kx : W p l e R s m args below meth c H locs cells slots Q (F0 m (pc + 3) ls (.int (a 23 5) :: rest))) : W p l e R s m args below meth c H locs cells slots Q (F0 m pc ls (.ref (ad 23) :: rest)) := ig_get (T := TX0) (N := 9) F E Z (i := 23) (by decide) (ig_k_23 _ _ _ _ _ _) rfl in_X0 5 (by decide) mw_300 rfl hdg kx
theorem mw_301 : Cond.code ⟨"Intergreen", "has", "(II)Z"⟩ prog_1_method_24_code 2 (Option.some Jvm.ClassFile.FieldType.boolean) ∈ ig_all := ig_in (List.mem_append_right _ (List.mem_of_getElem? (i := 223) (by decide +kernel))) rfl
theorem G_X0_90 : GoodIn ig_all (ig_ws yX5_has cX5_has 2 (some .boolean)) := ig_LG mw_301
theorem G_X0_90_i : Cond.initialized yX5_has.cls ∈ ig_all := mw_3
theorem mw_302 : Cond.static ⟨"Intergreen", "has", "(II)Z"⟩ ∈ ig_all := ig_in (List.mem_append_right _ (List.mem_of_getElem? (i := 222) (by decide +kernel))) rfl
theorem G_X0_90_s : Cond.static yX5_has ∈ ig_all := mw_302
theorem mw_303 : Cond.fieldLink "Intergreen$Lights" 94 "Intergreen$Plan" "stageCount" "I" ∈ ig_all := ig_in (List.mem_append_right _ (List.mem_of_getElem? (i := 94) (by decide +kernel))) rfl
theorem gf_X0_94 (F : CallFix p m c cc nL s args ig_all RX0) (E : ig_E D kk ad bs s) (Z : ig_Z D kk ad bs s H locs a la b lb lo) (hdg : decode cc pc = .ok (.getfield 94, 3)) (kx : W p l e R s m args below meth c H locs cells slots Q (F0 m (pc + 3) ls (.int (a 1 4) :: rest))) : W p l e R s m args below meth c H locs cells slots Q (F0 m pc ls (.ref (ad 1) :: rest)) := ig_get (T := TX3) (N := 5) F E Z (i := 1) (by decide) (ig_k_1 _ _ _ _ _ _) rfl in_X3 4 (by decide) mw_303 rfl hdg kx
theorem mw_304 : Cond.code ⟨"Intergreen$Plan", "demandedSet", "()I"⟩ prog_5_method_12_code 3 (Option.some Jvm.ClassFile.FieldType.int) ∈ ig_all := ig_in (List.mem_append_right _ (List.mem_of_getElem? (i := 545) (by decide +kernel))) rfl
theorem mw_305 : Cond.methodLink "Intergreen$Lights" 97 ⟨"Intergreen$Plan", "demandedSet", "()I"⟩ ∈ ig_all := ig_in (List.mem_append_right _ (List.mem_of_getElem? (i := 542) (by decide +kernel))) rfl
theorem mw_306 : Cond.instanceMethod ⟨"Intergreen$Plan", "demandedSet", "()I"⟩ ∈ ig_all := ig_in (List.mem_append_right _ (List.mem_of_getElem? (i := 543) (by decide +kernel))) rfl
theorem mw_307 : Cond.selects "Intergreen$Plan" ⟨"Intergreen$Plan", "demandedSet", "()I"⟩ ⟨"Intergreen$Plan", "demandedSet", "()I"⟩ ∈ ig_all := ig_in (List.mem_append_right _ (List.mem_of_getElem? (i := 544) (by decide +kernel))) rfl
theorem G_X0_97 : GoodIn ig_all (wsV RX0 97 RX3 yX3_demandedSet (ig_ws yX3_demandedSet cX3_demandedSet 3 (some .int))) := ig_LV mw_305 mw_306 mw_307 mw_12 mw_304
theorem mw_308 : Cond.code ⟨"Intergreen$Phase", "mayEnd", "(Z)Z"⟩ prog_4_method_6_code 2 (Option.some Jvm.ClassFile.FieldType.boolean) ∈ ig_all := ig_in (List.mem_append_right _ (List.mem_of_getElem? (i := 554) (by decide +kernel))) rfl
theorem mw_309 : Cond.methodLink "Intergreen$Lights" 100 ⟨"Intergreen$Phase", "mayEnd", "(Z)Z"⟩ ∈ ig_all := ig_in (List.mem_append_right _ (List.mem_of_getElem? (i := 551) (by decide +kernel))) rfl
theorem mw_310 : Cond.instanceMethod ⟨"Intergreen$Phase", "mayEnd", "(Z)Z"⟩ ∈ ig_all := ig_in (List.mem_append_right _ (List.mem_of_getElem? (i := 552) (by decide +kernel))) rfl
theorem mw_311 : Cond.selects "Intergreen$Phase" ⟨"Intergreen$Phase", "mayEnd", "(Z)Z"⟩ ⟨"Intergreen$Phase", "mayEnd", "(Z)Z"⟩ ∈ ig_all := ig_in (List.mem_append_right _ (List.mem_of_getElem? (i := 553) (by decide +kernel))) rfl
theorem G_X0_100 : GoodIn ig_all (wsV RX0 100 RX2 yX2_mayEnd (ig_ws yX2_mayEnd cX2_mayEnd 2 (some .boolean))) := ig_LV mw_309 mw_310 mw_311 mw_57 mw_308
theorem mw_312 : Cond.code ⟨"Intergreen$Phase", "turnAmber", "(I)V"⟩ prog_4_method_8_code 2 (Option.none : Option Jvm.ClassFile.FieldType) ∈ ig_all := ig_in (List.mem_append_right _ (List.mem_of_getElem? (i := 562) (by decide +kernel))) rfl
theorem mw_313 : Cond.methodLink "Intergreen$Lights" 103 ⟨"Intergreen$Phase", "turnAmber", "(I)V"⟩ ∈ ig_all := ig_in (List.mem_append_right _ (List.mem_of_getElem? (i := 559) (by decide +kernel))) rfl
theorem mw_314 : Cond.instanceMethod ⟨"Intergreen$Phase", "turnAmber", "(I)V"⟩ ∈ ig_all := ig_in (List.mem_append_right _ (List.mem_of_getElem? (i := 560) (by decide +kernel))) rfl
theorem mw_315 : Cond.selects "Intergreen$Phase" ⟨"Intergreen$Phase", "turnAmber", "(I)V"⟩ ⟨"Intergreen$Phase", "turnAmber", "(I)V"⟩ ∈ ig_all := ig_in (List.mem_append_right _ (List.mem_of_getElem? (i := 561) (by decide +kernel))) rfl
theorem G_X0_103 : GoodIn ig_all (wsV RX0 103 RX2 yX2_turnAmber (ig_ws yX2_turnAmber cX2_turnAmber 2 none)) := ig_LV mw_313 mw_314 mw_315 mw_57 mw_312
theorem mw_316 : Cond.fieldLink "Intergreen$Lights" 106 "Intergreen$Phase" "colour" "I" ∈ ig_all := ig_in (List.mem_append_right _ (List.mem_of_getElem? (i := 45) (by decide +kernel))) rfl
theorem gf_X0_106 (F : CallFix p m c cc nL s args ig_all RX0) (E : ig_E D kk ad bs s) (Z : ig_Z D kk ad bs s H locs a la b lb lo) {x : Nat} (hx : x < 8) (hdg : decode cc pc = .ok (.getfield 106, 3)) (kx : W p l e R s m args below meth c H locs cells slots Q (F0 m (pc + 3) ls (.int (a (3 + x) 3) :: rest))) : W p l e R s m args below meth c H locs cells slots Q (F0 m pc ls (.ref (ad (3 + x)) :: rest)) := ig_get (T := TX2) (N := 12) F E Z (i := 3 + x) (by omega) (ig_c_ph _ _ _ _ _ _ hx) rfl in_X2 3 (by decide) mw_316 (by rw [ig_mm_a _ _ (by omega)]; rfl) hdg kx
theorem mw_317 : Cond.code ⟨"Intergreen$Lights", "mayBegin", "(I)Z"⟩ prog_2_method_12_code 4 (Option.some Jvm.ClassFile.FieldType.boolean) ∈ ig_all := ig_in (List.mem_append_right _ (List.mem_of_getElem? (i := 570) (by decide +kernel))) rfl
theorem mw_318 : Cond.methodLink "Intergreen$Lights" 109 ⟨"Intergreen$Lights", "mayBegin", "(I)Z"⟩ ∈ ig_all := ig_in (List.mem_append_right _ (List.mem_of_getElem? (i := 567) (by decide +kernel))) rfl
theorem mw_319 : Cond.instanceMethod ⟨"Intergreen$Lights", "mayBegin", "(I)Z"⟩ ∈ ig_all := ig_in (List.mem_append_right _ (List.mem_of_getElem? (i := 569) (by decide +kernel))) rfl
theorem mw_320 : Cond.selects "Intergreen$Lights" ⟨"Intergreen$Lights", "mayBegin", "(I)Z"⟩ ⟨"Intergreen$Lights", "mayBegin", "(I)Z"⟩ ∈ ig_all := ig_in (List.mem_append_left _ (List.mem_of_getElem? (i := 16) (by decide +kernel))) rfl
theorem G_X0_109 : GoodIn ig_all (wsV RX0 109 RX0 yX0_mayBegin (ig_ws yX0_mayBegin cX0_mayBegin 4 (some .boolean))) := ig_LV mw_318 mw_319 mw_320 mw_42 mw_317
theorem mw_321 : Cond.code ⟨"Intergreen$Phase", "turnGreen", "()V"⟩ prog_4_method_7_code 1 (Option.none : Option Jvm.ClassFile.FieldType) ∈ ig_all := ig_in (List.mem_append_right _ (List.mem_of_getElem? (i := 578) (by decide +kernel))) rfl
theorem mw_322 : Cond.methodLink "Intergreen$Lights" 113 ⟨"Intergreen$Phase", "turnGreen", "()V"⟩ ∈ ig_all := ig_in (List.mem_append_right _ (List.mem_of_getElem? (i := 575) (by decide +kernel))) rfl
theorem mw_323 : Cond.instanceMethod ⟨"Intergreen$Phase", "turnGreen", "()V"⟩ ∈ ig_all := ig_in (List.mem_append_right _ (List.mem_of_getElem? (i := 576) (by decide +kernel))) rfl
theorem mw_324 : Cond.selects "Intergreen$Phase" ⟨"Intergreen$Phase", "turnGreen", "()V"⟩ ⟨"Intergreen$Phase", "turnGreen", "()V"⟩ ∈ ig_all := ig_in (List.mem_append_right _ (List.mem_of_getElem? (i := 577) (by decide +kernel))) rfl
theorem G_X0_113 : GoodIn ig_all (wsV RX0 113 RX2 yX2_turnGreen (ig_ws yX2_turnGreen cX2_turnGreen 1 none)) := ig_LV mw_322 mw_323 mw_324 mw_57 mw_321
theorem mw_325 : Cond.fieldLink "Intergreen$Lights" 116 "Intergreen$Plan" "between" "[[I" ∈ ig_all := ig_in (List.mem_append_right _ (List.mem_of_getElem? (i := 89) (by decide +kernel))) rfl
theorem gf_X0_116 (F : CallFix p m c cc nL s args ig_all RX0) (E : ig_E D kk ad bs s) (Z : ig_Z D kk ad bs s H locs a la b lb lo) (hdg : decode cc pc = .ok (.getfield 116, 3)) (kx : W p l e R s m args below meth c H locs cells slots Q (F0 m (pc + 3) ls (.ref (ad 11) :: rest))) : W p l e R s m args below meth c H locs cells slots Q (F0 m pc ls (.ref (ad 1) :: rest)) := ig_get (T := TX3) (N := 5) F E Z (i := 1) (by decide) (ig_k_1 _ _ _ _ _ _) rfl in_X3 2 (by decide) mw_325 rfl hdg kx
theorem mw_326 : Cond.code ⟨"Intergreen$Phase", "lets", "(II)Z"⟩ prog_4_method_11_code 3 (Option.some Jvm.ClassFile.FieldType.boolean) ∈ ig_all := ig_in (List.mem_append_right _ (List.mem_of_getElem? (i := 574) (by decide +kernel))) rfl
theorem mw_327 : Cond.methodLink "Intergreen$Lights" 120 ⟨"Intergreen$Phase", "lets", "(II)Z"⟩ ∈ ig_all := ig_in (List.mem_append_right _ (List.mem_of_getElem? (i := 571) (by decide +kernel))) rfl
theorem mw_328 : Cond.instanceMethod ⟨"Intergreen$Phase", "lets", "(II)Z"⟩ ∈ ig_all := ig_in (List.mem_append_right _ (List.mem_of_getElem? (i := 572) (by decide +kernel))) rfl
theorem mw_329 : Cond.selects "Intergreen$Phase" ⟨"Intergreen$Phase", "lets", "(II)Z"⟩ ⟨"Intergreen$Phase", "lets", "(II)Z"⟩ ∈ ig_all := ig_in (List.mem_append_right _ (List.mem_of_getElem? (i := 573) (by decide +kernel))) rfl
theorem G_X0_120 : GoodIn ig_all (wsV RX0 120 RX2 yX2_lets (ig_ws yX2_lets cX2_lets 3 (some .boolean))) := ig_LV mw_327 mw_328 mw_329 mw_57 mw_326
theorem mw_330 : Cond.code ⟨"Intergreen$Phase", "fade", "(I)V"⟩ prog_4_method_10_code 2 (Option.none : Option Jvm.ClassFile.FieldType) ∈ ig_all := ig_in (List.mem_append_right _ (List.mem_of_getElem? (i := 586) (by decide +kernel))) rfl
theorem mw_331 : Cond.methodLink "Intergreen$Lights" 123 ⟨"Intergreen$Phase", "fade", "(I)V"⟩ ∈ ig_all := ig_in (List.mem_append_right _ (List.mem_of_getElem? (i := 583) (by decide +kernel))) rfl
theorem mw_332 : Cond.instanceMethod ⟨"Intergreen$Phase", "fade", "(I)V"⟩ ∈ ig_all := ig_in (List.mem_append_right _ (List.mem_of_getElem? (i := 584) (by decide +kernel))) rfl
theorem mw_333 : Cond.selects "Intergreen$Phase" ⟨"Intergreen$Phase", "fade", "(I)V"⟩ ⟨"Intergreen$Phase", "fade", "(I)V"⟩ ∈ ig_all := ig_in (List.mem_append_right _ (List.mem_of_getElem? (i := 585) (by decide +kernel))) rfl
theorem G_X0_123 : GoodIn ig_all (wsV RX0 123 RX2 yX2_fade (ig_ws yX2_fade cX2_fade 2 none)) := ig_LV mw_331 mw_332 mw_333 mw_57 mw_330
theorem mw_334 : Cond.methodLink "Intergreen$Lights" 126 ⟨"Intergreen$Lights", "areWorking", "()Z"⟩ ∈ ig_all := ig_in (List.mem_append_right _ (List.mem_of_getElem? (i := 591) (by decide +kernel))) rfl
theorem G_X0_126 : GoodIn ig_all (wsV RX0 126 RX0 yX0_areWorking (ig_ws yX0_areWorking cX0_areWorking 1 (some .boolean))) := ig_LV mw_334 mw_40 mw_41 mw_42 mw_38
theorem mw_335 : Cond.methodLink "Intergreen$Lights" 130 ⟨"Intergreen$Phase", "isBroken", "(I)Z"⟩ ∈ ig_all := ig_in (List.mem_append_right _ (List.mem_of_getElem? (i := 592) (by decide +kernel))) rfl
theorem G_X0_130 : GoodIn ig_all (wsV RX0 130 RX2 yX2_isBroken (ig_ws yX2_isBroken cX2_isBroken 2 (some .boolean))) := ig_LV mw_335 mw_66 mw_67 mw_57 mw_64
theorem mw_336 : Cond.code ⟨"Intergreen$Lights", "isAgainstLit", "(I)Z"⟩ prog_2_method_15_code 3 (Option.some Jvm.ClassFile.FieldType.boolean) ∈ ig_all := ig_in (List.mem_append_right _ (List.mem_of_getElem? (i := 596) (by decide +kernel))) rfl
theorem mw_337 : Cond.methodLink "Intergreen$Lights" 133 ⟨"Intergreen$Lights", "isAgainstLit", "(I)Z"⟩ ∈ ig_all := ig_in (List.mem_append_right _ (List.mem_of_getElem? (i := 593) (by decide +kernel))) rfl
theorem mw_338 : Cond.instanceMethod ⟨"Intergreen$Lights", "isAgainstLit", "(I)Z"⟩ ∈ ig_all := ig_in (List.mem_append_right _ (List.mem_of_getElem? (i := 595) (by decide +kernel))) rfl
theorem mw_339 : Cond.selects "Intergreen$Lights" ⟨"Intergreen$Lights", "isAgainstLit", "(I)Z"⟩ ⟨"Intergreen$Lights", "isAgainstLit", "(I)Z"⟩ ∈ ig_all := ig_in (List.mem_append_left _ (List.mem_of_getElem? (i := 19) (by decide +kernel))) rfl
theorem G_X0_133 : GoodIn ig_all (wsV RX0 133 RX0 yX0_isAgainstLit (ig_ws yX0_isAgainstLit cX0_isAgainstLit 3 (some .boolean))) := ig_LV mw_337 mw_338 mw_339 mw_42 mw_336
theorem mw_340 : Cond.methodLink "Intergreen$Lights" 136 ⟨"Intergreen$Lights", "fallBack", "(I)V"⟩ ∈ ig_all := ig_in (List.mem_append_right _ (List.mem_of_getElem? (i := 601) (by decide +kernel))) rfl
theorem G_X0_136 : GoodIn ig_all (wsV RX0 136 RX0 yX0_fallBack (ig_ws yX0_fallBack cX0_fallBack 3 none)) := ig_LV mw_340 mw_50 mw_51 mw_42 mw_48
theorem mw_341 : Cond.code ⟨"Intergreen$Plan", "areMeeting", "(II)Z"⟩ prog_5_method_4_code 3 (Option.some Jvm.ClassFile.FieldType.boolean) ∈ ig_all := ig_in (List.mem_append_right _ (List.mem_of_getElem? (i := 600) (by decide +kernel))) rfl
theorem mw_342 : Cond.methodLink "Intergreen$Lights" 139 ⟨"Intergreen$Plan", "areMeeting", "(II)Z"⟩ ∈ ig_all := ig_in (List.mem_append_right _ (List.mem_of_getElem? (i := 597) (by decide +kernel))) rfl
theorem mw_343 : Cond.instanceMethod ⟨"Intergreen$Plan", "areMeeting", "(II)Z"⟩ ∈ ig_all := ig_in (List.mem_append_right _ (List.mem_of_getElem? (i := 598) (by decide +kernel))) rfl
theorem mw_344 : Cond.selects "Intergreen$Plan" ⟨"Intergreen$Plan", "areMeeting", "(II)Z"⟩ ⟨"Intergreen$Plan", "areMeeting", "(II)Z"⟩ ∈ ig_all := ig_in (List.mem_append_right _ (List.mem_of_getElem? (i := 599) (by decide +kernel))) rfl
theorem G_X0_139 : GoodIn ig_all (wsV RX0 139 RX3 yX3_areMeeting (ig_ws yX3_areMeeting cX3_areMeeting 3 (some .boolean))) := ig_LV mw_342 mw_343 mw_344 mw_12 mw_341
theorem mw_345 : Cond.fieldLink "Intergreen$Lights" 25 "Intergreen$Lights" "log" "LIntergreen$Log;" ∈ ig_all := ig_in (List.mem_append_right _ (List.mem_of_getElem? (i := 123) (by decide +kernel))) rfl
theorem gf_X0_25 (F : CallFix p m c cc nL s args ig_all RX0) (E : ig_E D kk ad bs s) (Z : ig_Z D kk ad bs s H locs a la b lb lo) (hdg : decode cc pc = .ok (.getfield 25, 3)) (kx : W p l e R s m args below meth c H locs cells slots Q (F0 m (pc + 3) ls (.ref (ad 21) :: rest))) : W p l e R s m args below meth c H locs cells slots Q (F0 m pc ls (.ref (ad 23) :: rest)) := ig_get (T := TX0) (N := 9) F E Z (i := 23) (by decide) (ig_k_23 _ _ _ _ _ _) rfl in_X0 1 (by decide) mw_345 rfl hdg kx
theorem mw_346 : Cond.code ⟨"Intergreen$Log", "darken", "(I)V"⟩ prog_3_method_2_code 2 (Option.none : Option Jvm.ClassFile.FieldType) ∈ ig_all := ig_in (List.mem_append_right _ (List.mem_of_getElem? (i := 609) (by decide +kernel))) rfl
theorem mw_347 : Cond.methodLink "Intergreen$Lights" 142 ⟨"Intergreen$Log", "darken", "(I)V"⟩ ∈ ig_all := ig_in (List.mem_append_right _ (List.mem_of_getElem? (i := 606) (by decide +kernel))) rfl
theorem mw_348 : Cond.instanceMethod ⟨"Intergreen$Log", "darken", "(I)V"⟩ ∈ ig_all := ig_in (List.mem_append_right _ (List.mem_of_getElem? (i := 607) (by decide +kernel))) rfl
theorem mw_349 : Cond.selects "Intergreen$Log" ⟨"Intergreen$Log", "darken", "(I)V"⟩ ⟨"Intergreen$Log", "darken", "(I)V"⟩ ∈ ig_all := ig_in (List.mem_append_right _ (List.mem_of_getElem? (i := 608) (by decide +kernel))) rfl
theorem G_X0_142 : GoodIn ig_all (wsV RX0 142 RX1 yX1_darken (ig_ws yX1_darken cX1_darken 2 none)) := ig_LV mw_347 mw_348 mw_349 mw_83 mw_346
theorem mw_350 : Cond.code ⟨"Intergreen$Phase", "shown", "()I"⟩ prog_4_method_12_code 1 (Option.some Jvm.ClassFile.FieldType.int) ∈ ig_all := ig_in (List.mem_append_right _ (List.mem_of_getElem? (i := 615) (by decide +kernel))) rfl
theorem mw_351 : Cond.methodLink "Intergreen$Lights" 147 ⟨"Intergreen$Phase", "shown", "()I"⟩ ∈ ig_all := ig_in (List.mem_append_right _ (List.mem_of_getElem? (i := 612) (by decide +kernel))) rfl
theorem mw_352 : Cond.instanceMethod ⟨"Intergreen$Phase", "shown", "()I"⟩ ∈ ig_all := ig_in (List.mem_append_right _ (List.mem_of_getElem? (i := 613) (by decide +kernel))) rfl
theorem mw_353 : Cond.selects "Intergreen$Phase" ⟨"Intergreen$Phase", "shown", "()I"⟩ ⟨"Intergreen$Phase", "shown", "()I"⟩ ∈ ig_all := ig_in (List.mem_append_right _ (List.mem_of_getElem? (i := 614) (by decide +kernel))) rfl
theorem G_X0_147 : GoodIn ig_all (wsV RX0 147 RX2 yX2_shown (ig_ws yX2_shown cX2_shown 1 (some .int))) := ig_LV mw_351 mw_352 mw_353 mw_57 mw_350
theorem mw_354 : Cond.code ⟨"Intergreen$Log", "show", "(III)V"⟩ prog_3_method_3_code 5 (Option.none : Option Jvm.ClassFile.FieldType) ∈ ig_all := ig_in (List.mem_append_right _ (List.mem_of_getElem? (i := 620) (by decide +kernel))) rfl
theorem mw_355 : Cond.methodLink "Intergreen$Lights" 150 ⟨"Intergreen$Log", "show", "(III)V"⟩ ∈ ig_all := ig_in (List.mem_append_right _ (List.mem_of_getElem? (i := 617) (by decide +kernel))) rfl
theorem mw_356 : Cond.instanceMethod ⟨"Intergreen$Log", "show", "(III)V"⟩ ∈ ig_all := ig_in (List.mem_append_right _ (List.mem_of_getElem? (i := 618) (by decide +kernel))) rfl
theorem mw_357 : Cond.selects "Intergreen$Log" ⟨"Intergreen$Log", "show", "(III)V"⟩ ⟨"Intergreen$Log", "show", "(III)V"⟩ ∈ ig_all := ig_in (List.mem_append_right _ (List.mem_of_getElem? (i := 619) (by decide +kernel))) rfl
theorem G_X0_150 : GoodIn ig_all (wsV RX0 150 RX1 yX1_show (ig_ws yX1_show cX1_show 5 none)) := ig_LV mw_355 mw_356 mw_357 mw_83 mw_354
theorem mw_358 : Cond.fieldLink "Intergreen$Lights" 154 "Intergreen$Lights" "gone" "I" ∈ ig_all := ig_in (List.mem_append_right _ (List.mem_of_getElem? (i := 134) (by decide +kernel))) rfl
theorem gf_X0_154 (F : CallFix p m c cc nL s args ig_all RX0) (E : ig_E D kk ad bs s) (Z : ig_Z D kk ad bs s H locs a la b lb lo) (hdg : decode cc pc = .ok (.getfield 154, 3)) (kx : W p l e R s m args below meth c H locs cells slots Q (F0 m (pc + 3) ls (.int (a 23 7) :: rest))) : W p l e R s m args below meth c H locs cells slots Q (F0 m pc ls (.ref (ad 23) :: rest)) := ig_get (T := TX0) (N := 9) F E Z (i := 23) (by decide) (ig_k_23 _ _ _ _ _ _) rfl in_X0 7 (by decide) mw_358 rfl hdg kx
theorem mw_359 : Cond.code ⟨"Intergreen$Phase", "passSecond", "()I"⟩ prog_4_method_13_code 1 (Option.some Jvm.ClassFile.FieldType.int) ∈ ig_all := ig_in (List.mem_append_right _ (List.mem_of_getElem? (i := 628) (by decide +kernel))) rfl
theorem mw_360 : Cond.methodLink "Intergreen$Lights" 157 ⟨"Intergreen$Phase", "passSecond", "()I"⟩ ∈ ig_all := ig_in (List.mem_append_right _ (List.mem_of_getElem? (i := 625) (by decide +kernel))) rfl
theorem mw_361 : Cond.instanceMethod ⟨"Intergreen$Phase", "passSecond", "()I"⟩ ∈ ig_all := ig_in (List.mem_append_right _ (List.mem_of_getElem? (i := 626) (by decide +kernel))) rfl
theorem mw_362 : Cond.selects "Intergreen$Phase" ⟨"Intergreen$Phase", "passSecond", "()I"⟩ ⟨"Intergreen$Phase", "passSecond", "()I"⟩ ∈ ig_all := ig_in (List.mem_append_right _ (List.mem_of_getElem? (i := 627) (by decide +kernel))) rfl
theorem G_X0_157 : GoodIn ig_all (wsV RX0 157 RX2 yX2_passSecond (ig_ws yX2_passSecond cX2_passSecond 1 (some .int))) := ig_LV mw_360 mw_361 mw_362 mw_57 mw_359
theorem pf_X0_154 (F : CallFix p m c cc nL s args ig_all RX0) (E : ig_E D kk ad bs s) (Z : ig_Z D kk ad bs s H locs a la b lb lo) {v : Int32} (hdg : decode cc pc = .ok (.putfield 154, 3)) (kx : ∀ (H1 : Heap) (locs1 : List Loc) (a1 : ig_M), a1 = ig_up a 23 7 v → ig_Z D kk ad bs s H1 locs1 a1 la b lb lo → W p l e R s m args below meth c H1 locs1 cells slots Q (F0 m (pc + 3) ls rest)) : W p l e R s m args below meth c H locs cells slots Q (F0 m pc ls (.int v :: .ref (ad 23) :: rest)) := ig_put (T := TX0) (N := 9) F E Z (i := 23) (by decide) (ig_k_23 _ _ _ _ _ _) rfl in_X0 tyX0 tyX0_ok nmX0 7 (by decide) mw_358 rfl (ty := .int) rfl rfl rfl (Nat.le_of_ble_eq_true rfl) rfl (ig_offA v 7) hdg (fun H1 locs1 Z1 => kx H1 locs1 _ rfl Z1)
theorem mw_363 : Cond.fieldLink "Intergreen$Lights" 160 "Intergreen$Lights" "waited" "J" ∈ ig_all := ig_in (List.mem_append_right _ (List.mem_of_getElem? (i := 136) (by decide +kernel))) rfl
theorem gf_X0_160 (F : CallFix p m c cc nL s args ig_all RX0) (E : ig_E D kk ad bs s) (Z : ig_Z D kk ad bs s H locs a la b lb lo) (hdg : decode cc pc = .ok (.getfield 160, 3)) (kx : W p l e R s m args below meth c H locs cells slots Q (F0 m (pc + 3) ls (.long la :: rest))) : W p l e R s m args below meth c H locs cells slots Q (F0 m pc ls (.ref (ad 23) :: rest)) := ig_get (T := TX0) (N := 9) F E Z (i := 23) (by decide) (ig_k_23 _ _ _ _ _ _) rfl in_X0 8 (by decide) mw_363 rfl hdg kx
theorem mw_364 : Cond.fieldLink "Intergreen$Lights" 164 "Intergreen$Phase" "queue" "I" ∈ ig_all := ig_in (List.mem_append_right _ (List.mem_of_getElem? (i := 50) (by decide +kernel))) rfl
theorem gf_X0_164 (F : CallFix p m c cc nL s args ig_all RX0) (E : ig_E D kk ad bs s) (Z : ig_Z D kk ad bs s H locs a la b lb lo) {x : Nat} (hx : x < 8) (hdg : decode cc pc = .ok (.getfield 164, 3)) (kx : W p l e R s m args below meth c H locs cells slots Q (F0 m (pc + 3) ls (.int (a (3 + x) 6) :: rest))) : W p l e R s m args below meth c H locs cells slots Q (F0 m pc ls (.ref (ad (3 + x)) :: rest)) := ig_get (T := TX2) (N := 12) F E Z (i := 3 + x) (by omega) (ig_c_ph _ _ _ _ _ _ hx) rfl in_X2 6 (by decide) mw_364 (by rw [ig_mm_a _ _ (by omega)]; rfl) hdg kx
theorem pf_X0_160 (F : CallFix p m c cc nL s args ig_all RX0) (E : ig_E D kk ad bs s) (Z : ig_Z D kk ad bs s H locs a la b lb lo) {v : Int64} (hdg : decode cc pc = .ok (.putfield 160, 3)) (kx : ∀ (H1 : Heap) (locs1 : List Loc), ig_Z D kk ad bs s H1 locs1 a v b lb lo → W p l e R s m args below meth c H1 locs1 cells slots Q (F0 m (pc + 3) ls rest)) : W p l e R s m args below meth c H locs cells slots Q (F0 m pc ls (.long v :: .ref (ad 23) :: rest)) := ig_put (T := TX0) (N := 9) F E Z (i := 23) (by decide) (ig_k_23 _ _ _ _ _ _) rfl in_X0 tyX0 tyX0_ok nmX0 8 (by decide) mw_363 rfl (ty := .long) rfl rfl rfl (Nat.le_of_ble_eq_true rfl) rfl (fun j hj => ig_c_la _ _ _ _ _ _ _ hj) hdg (fun H1 locs1 Z1 => kx H1 locs1 Z1)
theorem mw_365 : Cond.fieldLink "Intergreen$Log" 11 "Intergreen$Log" "rows" "[I" ∈ ig_all := ig_in (List.mem_append_right _ (List.mem_of_getElem? (i := 112) (by decide +kernel))) rfl
theorem gf_X1_11 (F : CallFix p m c cc nL s args ig_all RX1) (E : ig_E D kk ad bs s) (Z : ig_Z D kk ad bs s H locs a la b lb lo) (hdg : decode cc pc = .ok (.getfield 11, 3)) (kx : W p l e R s m args below meth c H locs cells slots Q (F0 m (pc + 3) ls (.ref (ad 22) :: rest))) : W p l e R s m args below meth c H locs cells slots Q (F0 m pc ls (.ref (ad 21) :: rest)) := ig_get (T := TX1) (N := 1) F E Z (i := 21) (by decide) (ig_k_21 _ _ _ _ _ _) rfl in_X1 0 (by decide) mw_365 rfl hdg kx
theorem G_X1_15 : GoodIn ig_all (ig_ws yX5_isWithin cX5_isWithin 3 (some .boolean)) := ig_LG mw_0
theorem G_X1_15_i : Cond.initialized yX5_isWithin.cls ∈ ig_all := mw_3
theorem G_X1_15_s : Cond.static yX5_isWithin ∈ ig_all := mw_2
theorem mw_366 : Cond.code ⟨"Intergreen$Log", "colourIn", "(II)I"⟩ prog_3_method_5_code 2 (Option.some Jvm.ClassFile.FieldType.int) ∈ ig_all := ig_in (List.mem_append_right _ (List.mem_of_getElem? (i := 653) (by decide +kernel))) rfl
theorem mw_367 : Cond.methodLink "Intergreen$Log" 20 ⟨"Intergreen$Log", "colourIn", "(II)I"⟩ ∈ ig_all := ig_in (List.mem_append_right _ (List.mem_of_getElem? (i := 651) (by decide +kernel))) rfl
theorem mw_368 : Cond.static ⟨"Intergreen$Log", "colourIn", "(II)I"⟩ ∈ ig_all := ig_in (List.mem_append_right _ (List.mem_of_getElem? (i := 652) (by decide +kernel))) rfl
theorem G_X1_20 : GoodIn ig_all (wsS RX1 20 yX1_colourIn (ig_ws yX1_colourIn cX1_colourIn 2 (some .int))) := ig_LS mw_367 mw_368 mw_83 mw_366
theorem mw_369 : Cond.fieldLink "Intergreen$Phase" 9 "Intergreen$Phase" "colour" "I" ∈ ig_all := ig_in (List.mem_append_right _ (List.mem_of_getElem? (i := 44) (by decide +kernel))) rfl
theorem gf_X2_9 (F : CallFix p m c cc nL s args ig_all RX2) (E : ig_E D kk ad bs s) (Z : ig_Z D kk ad bs s H locs a la b lb lo) {x : Nat} (hx : x < 8) (hdg : decode cc pc = .ok (.getfield 9, 3)) (kx : W p l e R s m args below meth c H locs cells slots Q (F0 m (pc + 3) ls (.int (a (3 + x) 3) :: rest))) : W p l e R s m args below meth c H locs cells slots Q (F0 m pc ls (.ref (ad (3 + x)) :: rest)) := ig_get (T := TX2) (N := 12) F E Z (i := 3 + x) (by omega) (ig_c_ph _ _ _ _ _ _ hx) rfl in_X2 3 (by decide) mw_369 (by rw [ig_mm_a _ _ (by omega)]; rfl) hdg kx
theorem mw_370 : Cond.fieldLink "Intergreen$Phase" 18 "Intergreen$Phase" "isPressed" "Z" ∈ ig_all := ig_in (List.mem_append_right _ (List.mem_of_getElem? (i := 54) (by decide +kernel))) rfl
theorem gf_X2_18 (F : CallFix p m c cc nL s args ig_all RX2) (E : ig_E D kk ad bs s) (Z : ig_Z D kk ad bs s H locs a la b lb lo) {x : Nat} (hx : x < 8) (hdg : decode cc pc = .ok (.getfield 18, 3)) (kx : W p l e R s m args below meth c H locs cells slots Q (F0 m (pc + 3) ls (.int (a (3 + x) 10) :: rest))) : W p l e R s m args below meth c H locs cells slots Q (F0 m pc ls (.ref (ad (3 + x)) :: rest)) := ig_get (T := TX2) (N := 12) F E Z (i := 3 + x) (by omega) (ig_c_ph _ _ _ _ _ _ hx) rfl in_X2 10 (by decide) mw_370 (by rw [ig_mm_a _ _ (by omega)]; rfl) hdg kx
theorem mw_371 : Cond.fieldLink "Intergreen$Phase" 22 "Intergreen$Phase" "queue" "I" ∈ ig_all := ig_in (List.mem_append_right _ (List.mem_of_getElem? (i := 48) (by decide +kernel))) rfl
theorem gf_X2_22 (F : CallFix p m c cc nL s args ig_all RX2) (E : ig_E D kk ad bs s) (Z : ig_Z D kk ad bs s H locs a la b lb lo) {x : Nat} (hx : x < 8) (hdg : decode cc pc = .ok (.getfield 22, 3)) (kx : W p l e R s m args below meth c H locs cells slots Q (F0 m (pc + 3) ls (.int (a (3 + x) 6) :: rest))) : W p l e R s m args below meth c H locs cells slots Q (F0 m pc ls (.ref (ad (3 + x)) :: rest)) := ig_get (T := TX2) (N := 12) F E Z (i := 3 + x) (by omega) (ig_c_ph _ _ _ _ _ _ hx) rfl in_X2 6 (by decide) mw_371 (by rw [ig_mm_a _ _ (by omega)]; rfl) hdg kx
theorem mw_372 : Cond.fieldLink "Intergreen$Phase" 25 "Intergreen$Phase" "brokenLamps" "I" ∈ ig_all := ig_in (List.mem_append_right _ (List.mem_of_getElem? (i := 55) (by decide +kernel))) rfl
theorem gf_X2_25 (F : CallFix p m c cc nL s args ig_all RX2) (E : ig_E D kk ad bs s) (Z : ig_Z D kk ad bs s H locs a la b lb lo) {x : Nat} (hx : x < 8) (hdg : decode cc pc = .ok (.getfield 25, 3)) (kx : W p l e R s m args below meth c H locs cells slots Q (F0 m (pc + 3) ls (.int (a (3 + x) 11) :: rest))) : W p l e R s m args below meth c H locs cells slots Q (F0 m pc ls (.ref (ad (3 + x)) :: rest)) := ig_get (T := TX2) (N := 12) F E Z (i := 3 + x) (by omega) (ig_c_ph _ _ _ _ _ _ hx) rfl in_X2 11 (by decide) mw_372 (by rw [ig_mm_a _ _ (by omega)]; rfl) hdg kx
theorem G_X2_28 : GoodIn ig_all (ig_ws yX5_has cX5_has 2 (some .boolean)) := ig_LG mw_301
theorem G_X2_28_i : Cond.initialized yX5_has.cls ∈ ig_all := mw_3
theorem G_X2_28_s : Cond.static yX5_has ∈ ig_all := mw_302
theorem pf_X2_25 (F : CallFix p m c cc nL s args ig_all RX2) (E : ig_E D kk ad bs s) (Z : ig_Z D kk ad bs s H locs a la b lb lo) {x : Nat} (hx : x < 8) {v : Int32} (hdg : decode cc pc = .ok (.putfield 25, 3)) (kx : ∀ (H1 : Heap) (locs1 : List Loc) (a1 : ig_M), a1 = ig_up a (3 + x) 11 v → ig_Z D kk ad bs s H1 locs1 a1 la b lb lo → W p l e R s m args below meth c H1 locs1 cells slots Q (F0 m (pc + 3) ls rest)) : W p l e R s m args below meth c H locs cells slots Q (F0 m pc ls (.int v :: .ref (ad (3 + x)) :: rest)) := ig_put (T := TX2) (N := 12) F E Z (i := (3 + x)) (by omega) (ig_c_ph _ _ _ _ _ _ hx) rfl in_X2 tyX2 tyX2_ok nmX2 11 (by decide) mw_372 rfl (ty := .int) rfl rfl rfl (Nat.le_of_ble_eq_true rfl) (by rw [ig_rowA (by omega), ig_c_ph _ _ _ _ _ _ hx, ig_mm_a _ _ (by omega)]; rfl) (ig_offA v 11) hdg (fun H1 locs1 Z1 => kx H1 locs1 _ rfl Z1)
theorem pf_X2_18 (F : CallFix p m c cc nL s args ig_all RX2) (E : ig_E D kk ad bs s) (Z : ig_Z D kk ad bs s H locs a la b lb lo) {x : Nat} (hx : x < 8) {v : Int32} (hz : v = 0 ∨ v = 1) (hdg : decode cc pc = .ok (.putfield 18, 3)) (kx : ∀ (H1 : Heap) (locs1 : List Loc) (a1 : ig_M), a1 = ig_up a (3 + x) 10 v → ig_Z D kk ad bs s H1 locs1 a1 la b lb lo → W p l e R s m args below meth c H1 locs1 cells slots Q (F0 m (pc + 3) ls rest)) : W p l e R s m args below meth c H locs cells slots Q (F0 m pc ls (.int v :: .ref (ad (3 + x)) :: rest)) := ig_put (T := TX2) (N := 12) F E Z (i := (3 + x)) (by omega) (ig_c_ph _ _ _ _ _ _ hx) rfl in_X2 tyX2 tyX2_ok nmX2 10 (by decide) mw_370 rfl (ty := .boolean) rfl (ig_narrow hz) (by rcases hz with rfl | rfl <;> decide) (Nat.le_of_ble_eq_true rfl) (by rw [ig_rowA (by omega), ig_c_ph _ _ _ _ _ _ hx, ig_mm_a _ _ (by omega)]; rfl) (ig_offA v 10) hdg (fun H1 locs1 Z1 => kx H1 locs1 _ rfl Z1)
theorem mw_373 : Cond.fieldLink "Intergreen$Phase" 32 "Intergreen$Phase" "green" "I" ∈ ig_all := ig_in (List.mem_append_right _ (List.mem_of_getElem? (i := 46) (by decide +kernel))) rfl
theorem gf_X2_32 (F : CallFix p m c cc nL s args ig_all RX2) (E : ig_E D kk ad bs s) (Z : ig_Z D kk ad bs s H locs a la b lb lo) {x : Nat} (hx : x < 8) (hdg : decode cc pc = .ok (.getfield 32, 3)) (kx : W p l e R s m args below meth c H locs cells slots Q (F0 m (pc + 3) ls (.int (a (3 + x) 4) :: rest))) : W p l e R s m args below meth c H locs cells slots Q (F0 m pc ls (.ref (ad (3 + x)) :: rest)) := ig_get (T := TX2) (N := 12) F E Z (i := 3 + x) (by omega) (ig_c_ph _ _ _ _ _ _ hx) rfl in_X2 4 (by decide) mw_373 (by rw [ig_mm_a _ _ (by omega)]; rfl) hdg kx
theorem mw_374 : Cond.fieldLink "Intergreen$Phase" 35 "Intergreen$Phase" "least" "I" ∈ ig_all := ig_in (List.mem_append_right _ (List.mem_of_getElem? (i := 39) (by decide +kernel))) rfl
theorem gf_X2_35 (F : CallFix p m c cc nL s args ig_all RX2) (E : ig_E D kk ad bs s) (Z : ig_Z D kk ad bs s H locs a la b lb lo) {x : Nat} (hx : x < 8) (hdg : decode cc pc = .ok (.getfield 35, 3)) (kx : W p l e R s m args below meth c H locs cells slots Q (F0 m (pc + 3) ls (.int (a (3 + x) 0) :: rest))) : W p l e R s m args below meth c H locs cells slots Q (F0 m pc ls (.ref (ad (3 + x)) :: rest)) := ig_get (T := TX2) (N := 12) F E Z (i := 3 + x) (by omega) (ig_c_ph _ _ _ _ _ _ hx) rfl in_X2 0 (by decide) mw_374 (by rw [ig_mm_a _ _ (by omega)]; rfl) hdg kx
theorem mw_375 : Cond.fieldLink "Intergreen$Phase" 38 "Intergreen$Phase" "rest" "I" ∈ ig_all := ig_in (List.mem_append_right _ (List.mem_of_getElem? (i := 47) (by decide +kernel))) rfl
theorem gf_X2_38 (F : CallFix p m c cc nL s args ig_all RX2) (E : ig_E D kk ad bs s) (Z : ig_Z D kk ad bs s H locs a la b lb lo) {x : Nat} (hx : x < 8) (hdg : decode cc pc = .ok (.getfield 38, 3)) (kx : W p l e R s m args below meth c H locs cells slots Q (F0 m (pc + 3) ls (.int (a (3 + x) 5) :: rest))) : W p l e R s m args below meth c H locs cells slots Q (F0 m pc ls (.ref (ad (3 + x)) :: rest)) := ig_get (T := TX2) (N := 12) F E Z (i := 3 + x) (by omega) (ig_c_ph _ _ _ _ _ _ hx) rfl in_X2 5 (by decide) mw_375 (by rw [ig_mm_a _ _ (by omega)]; rfl) hdg kx
theorem mw_376 : Cond.fieldLink "Intergreen$Phase" 41 "Intergreen$Phase" "most" "I" ∈ ig_all := ig_in (List.mem_append_right _ (List.mem_of_getElem? (i := 41) (by decide +kernel))) rfl
theorem gf_X2_41 (F : CallFix p m c cc nL s args ig_all RX2) (E : ig_E D kk ad bs s) (Z : ig_Z D kk ad bs s H locs a la b lb lo) {x : Nat} (hx : x < 8) (hdg : decode cc pc = .ok (.getfield 41, 3)) (kx : W p l e R s m args below meth c H locs cells slots Q (F0 m (pc + 3) ls (.int (a (3 + x) 1) :: rest))) : W p l e R s m args below meth c H locs cells slots Q (F0 m pc ls (.ref (ad (3 + x)) :: rest)) := ig_get (T := TX2) (N := 12) F E Z (i := 3 + x) (by omega) (ig_c_ph _ _ _ _ _ _ hx) rfl in_X2 1 (by decide) mw_376 (by rw [ig_mm_a _ _ (by omega)]; rfl) hdg kx
theorem pf_X2_9 (F : CallFix p m c cc nL s args ig_all RX2) (E : ig_E D kk ad bs s) (Z : ig_Z D kk ad bs s H locs a la b lb lo) {x : Nat} (hx : x < 8) {v : Int32} (hdg : decode cc pc = .ok (.putfield 9, 3)) (kx : ∀ (H1 : Heap) (locs1 : List Loc) (a1 : ig_M), a1 = ig_up a (3 + x) 3 v → ig_Z D kk ad bs s H1 locs1 a1 la b lb lo → W p l e R s m args below meth c H1 locs1 cells slots Q (F0 m (pc + 3) ls rest)) : W p l e R s m args below meth c H locs cells slots Q (F0 m pc ls (.int v :: .ref (ad (3 + x)) :: rest)) := ig_put (T := TX2) (N := 12) F E Z (i := (3 + x)) (by omega) (ig_c_ph _ _ _ _ _ _ hx) rfl in_X2 tyX2 tyX2_ok nmX2 3 (by decide) mw_369 rfl (ty := .int) rfl rfl rfl (Nat.le_of_ble_eq_true rfl) (by rw [ig_rowA (by omega), ig_c_ph _ _ _ _ _ _ hx, ig_mm_a _ _ (by omega)]; rfl) (ig_offA v 3) hdg (fun H1 locs1 Z1 => kx H1 locs1 _ rfl Z1)
theorem pf_X2_32 (F : CallFix p m c cc nL s args ig_all RX2) (E : ig_E D kk ad bs s) (Z : ig_Z D kk ad bs s H locs a la b lb lo) {x : Nat} (hx : x < 8) {v : Int32} (hdg : decode cc pc = .ok (.putfield 32, 3)) (kx : ∀ (H1 : Heap) (locs1 : List Loc) (a1 : ig_M), a1 = ig_up a (3 + x) 4 v → ig_Z D kk ad bs s H1 locs1 a1 la b lb lo → W p l e R s m args below meth c H1 locs1 cells slots Q (F0 m (pc + 3) ls rest)) : W p l e R s m args below meth c H locs cells slots Q (F0 m pc ls (.int v :: .ref (ad (3 + x)) :: rest)) := ig_put (T := TX2) (N := 12) F E Z (i := (3 + x)) (by omega) (ig_c_ph _ _ _ _ _ _ hx) rfl in_X2 tyX2 tyX2_ok nmX2 4 (by decide) mw_373 rfl (ty := .int) rfl rfl rfl (Nat.le_of_ble_eq_true rfl) (by rw [ig_rowA (by omega), ig_c_ph _ _ _ _ _ _ hx, ig_mm_a _ _ (by omega)]; rfl) (ig_offA v 4) hdg (fun H1 locs1 Z1 => kx H1 locs1 _ rfl Z1)
theorem mw_377 : Cond.fieldLink "Intergreen$Phase" 44 "Intergreen$Phase" "gap" "I" ∈ ig_all := ig_in (List.mem_append_right _ (List.mem_of_getElem? (i := 43) (by decide +kernel))) rfl
theorem gf_X2_44 (F : CallFix p m c cc nL s args ig_all RX2) (E : ig_E D kk ad bs s) (Z : ig_Z D kk ad bs s H locs a la b lb lo) {x : Nat} (hx : x < 8) (hdg : decode cc pc = .ok (.getfield 44, 3)) (kx : W p l e R s m args below meth c H locs cells slots Q (F0 m (pc + 3) ls (.int (a (3 + x) 2) :: rest))) : W p l e R s m args below meth c H locs cells slots Q (F0 m pc ls (.ref (ad (3 + x)) :: rest)) := ig_get (T := TX2) (N := 12) F E Z (i := 3 + x) (by omega) (ig_c_ph _ _ _ _ _ _ hx) rfl in_X2 2 (by decide) mw_377 (by rw [ig_mm_a _ _ (by omega)]; rfl) hdg kx
theorem pf_X2_38 (F : CallFix p m c cc nL s args ig_all RX2) (E : ig_E D kk ad bs s) (Z : ig_Z D kk ad bs s H locs a la b lb lo) {x : Nat} (hx : x < 8) {v : Int32} (hdg : decode cc pc = .ok (.putfield 38, 3)) (kx : ∀ (H1 : Heap) (locs1 : List Loc) (a1 : ig_M), a1 = ig_up a (3 + x) 5 v → ig_Z D kk ad bs s H1 locs1 a1 la b lb lo → W p l e R s m args below meth c H1 locs1 cells slots Q (F0 m (pc + 3) ls rest)) : W p l e R s m args below meth c H locs cells slots Q (F0 m pc ls (.int v :: .ref (ad (3 + x)) :: rest)) := ig_put (T := TX2) (N := 12) F E Z (i := (3 + x)) (by omega) (ig_c_ph _ _ _ _ _ _ hx) rfl in_X2 tyX2 tyX2_ok nmX2 5 (by decide) mw_375 rfl (ty := .int) rfl rfl rfl (Nat.le_of_ble_eq_true rfl) (by rw [ig_rowA (by omega), ig_c_ph _ _ _ _ _ _ hx, ig_mm_a _ _ (by omega)]; rfl) (ig_offA v 5) hdg (fun H1 locs1 Z1 => kx H1 locs1 _ rfl Z1)
theorem mw_378 : Cond.fieldLink "Intergreen$Phase" 47 "Intergreen$Phase" "wait" "I" ∈ ig_all := ig_in (List.mem_append_right _ (List.mem_of_getElem? (i := 51) (by decide +kernel))) rfl
theorem pf_X2_47 (F : CallFix p m c cc nL s args ig_all RX2) (E : ig_E D kk ad bs s) (Z : ig_Z D kk ad bs s H locs a la b lb lo) {x : Nat} (hx : x < 8) {v : Int32} (hdg : decode cc pc = .ok (.putfield 47, 3)) (kx : ∀ (H1 : Heap) (locs1 : List Loc) (a1 : ig_M), a1 = ig_up a (3 + x) 7 v → ig_Z D kk ad bs s H1 locs1 a1 la b lb lo → W p l e R s m args below meth c H1 locs1 cells slots Q (F0 m (pc + 3) ls rest)) : W p l e R s m args below meth c H locs cells slots Q (F0 m pc ls (.int v :: .ref (ad (3 + x)) :: rest)) := ig_put (T := TX2) (N := 12) F E Z (i := (3 + x)) (by omega) (ig_c_ph _ _ _ _ _ _ hx) rfl in_X2 tyX2 tyX2_ok nmX2 7 (by decide) mw_378 rfl (ty := .int) rfl rfl rfl (Nat.le_of_ble_eq_true rfl) (by rw [ig_rowA (by omega), ig_c_ph _ _ _ _ _ _ hx, ig_mm_a _ _ (by omega)]; rfl) (ig_offA v 7) hdg (fun H1 locs1 Z1 => kx H1 locs1 _ rfl Z1)
theorem mw_379 : Cond.fieldLink "Intergreen$Phase" 15 "Intergreen$Phase" "ended" "I" ∈ ig_all := ig_in (List.mem_append_right _ (List.mem_of_getElem? (i := 53) (by decide +kernel))) rfl
theorem pf_X2_15 (F : CallFix p m c cc nL s args ig_all RX2) (E : ig_E D kk ad bs s) (Z : ig_Z D kk ad bs s H locs a la b lb lo) {x : Nat} (hx : x < 8) {v : Int32} (hdg : decode cc pc = .ok (.putfield 15, 3)) (kx : ∀ (H1 : Heap) (locs1 : List Loc) (a1 : ig_M), a1 = ig_up a (3 + x) 9 v → ig_Z D kk ad bs s H1 locs1 a1 la b lb lo → W p l e R s m args below meth c H1 locs1 cells slots Q (F0 m (pc + 3) ls rest)) : W p l e R s m args below meth c H locs cells slots Q (F0 m pc ls (.int v :: .ref (ad (3 + x)) :: rest)) := ig_put (T := TX2) (N := 12) F E Z (i := (3 + x)) (by omega) (ig_c_ph _ _ _ _ _ _ hx) rfl in_X2 tyX2 tyX2_ok nmX2 9 (by decide) mw_379 rfl (ty := .int) rfl rfl rfl (Nat.le_of_ble_eq_true rfl) (by rw [ig_rowA (by omega), ig_c_ph _ _ _ _ _ _ hx, ig_mm_a _ _ (by omega)]; rfl) (ig_offA v 9) hdg (fun H1 locs1 Z1 => kx H1 locs1 _ rfl Z1)
theorem gf_X2_15 (F : CallFix p m c cc nL s args ig_all RX2) (E : ig_E D kk ad bs s) (Z : ig_Z D kk ad bs s H locs a la b lb lo) {x : Nat} (hx : x < 8) (hdg : decode cc pc = .ok (.getfield 15, 3)) (kx : W p l e R s m args below meth c H locs cells slots Q (F0 m (pc + 3) ls (.int (a (3 + x) 9) :: rest))) : W p l e R s m args below meth c H locs cells slots Q (F0 m pc ls (.ref (ad (3 + x)) :: rest)) := ig_get (T := TX2) (N := 12) F E Z (i := 3 + x) (by omega) (ig_c_ph _ _ _ _ _ _ hx) rfl in_X2 9 (by decide) mw_379 (by rw [ig_mm_a _ _ (by omega)]; rfl) hdg kx
theorem mw_380 : Cond.methodLink "Intergreen$Phase" 50 ⟨"Intergreen$Phase", "isBroken", "(I)Z"⟩ ∈ ig_all := ig_in (List.mem_append_right _ (List.mem_of_getElem? (i := 616) (by decide +kernel))) rfl
theorem G_X2_50 : GoodIn ig_all (wsV RX2 50 RX2 yX2_isBroken (ig_ws yX2_isBroken cX2_isBroken 2 (some .boolean))) := ig_LV mw_380 mw_66 mw_67 mw_57 mw_64
theorem mw_381 : Cond.code ⟨"Intergreen$Phase", "letOneGo", "()I"⟩ prog_4_method_14_code 1 (Option.some Jvm.ClassFile.FieldType.int) ∈ ig_all := ig_in (List.mem_append_right _ (List.mem_of_getElem? (i := 632) (by decide +kernel))) rfl
theorem mw_382 : Cond.methodLink "Intergreen$Phase" 54 ⟨"Intergreen$Phase", "letOneGo", "()I"⟩ ∈ ig_all := ig_in (List.mem_append_right _ (List.mem_of_getElem? (i := 629) (by decide +kernel))) rfl
theorem mw_383 : Cond.instanceMethod ⟨"Intergreen$Phase", "letOneGo", "()I"⟩ ∈ ig_all := ig_in (List.mem_append_right _ (List.mem_of_getElem? (i := 631) (by decide +kernel))) rfl
theorem mw_384 : Cond.selects "Intergreen$Phase" ⟨"Intergreen$Phase", "letOneGo", "()I"⟩ ⟨"Intergreen$Phase", "letOneGo", "()I"⟩ ∈ ig_all := ig_in (List.mem_append_left _ (List.mem_of_getElem? (i := 22) (by decide +kernel))) rfl
theorem G_X2_54 : GoodIn ig_all (wsV RX2 54 RX2 yX2_letOneGo (ig_ws yX2_letOneGo cX2_letOneGo 1 (some .int))) := ig_LV mw_382 mw_383 mw_384 mw_57 mw_381
theorem mw_385 : Cond.methodLink "Intergreen$Phase" 58 ⟨"Intergreen$Phase", "isDemanded", "()Z"⟩ ∈ ig_all := ig_in (List.mem_append_right _ (List.mem_of_getElem? (i := 633) (by decide +kernel))) rfl
theorem G_X2_58 : GoodIn ig_all (wsV RX2 58 RX2 yX2_isDemanded (ig_ws yX2_isDemanded cX2_isDemanded 1 (some .boolean))) := ig_LV mw_385 mw_60 mw_61 mw_57 mw_58
theorem gf_X2_47 (F : CallFix p m c cc nL s args ig_all RX2) (E : ig_E D kk ad bs s) (Z : ig_Z D kk ad bs s H locs a la b lb lo) {x : Nat} (hx : x < 8) (hdg : decode cc pc = .ok (.getfield 47, 3)) (kx : W p l e R s m args below meth c H locs cells slots Q (F0 m (pc + 3) ls (.int (a (3 + x) 7) :: rest))) : W p l e R s m args below meth c H locs cells slots Q (F0 m pc ls (.ref (ad (3 + x)) :: rest)) := ig_get (T := TX2) (N := 12) F E Z (i := 3 + x) (by omega) (ig_c_ph _ _ _ _ _ _ hx) rfl in_X2 7 (by decide) mw_378 (by rw [ig_mm_a _ _ (by omega)]; rfl) hdg kx
theorem mw_386 : Cond.fieldLink "Intergreen$Phase" 62 "Intergreen$Phase" "longestWait" "I" ∈ ig_all := ig_in (List.mem_append_right _ (List.mem_of_getElem? (i := 52) (by decide +kernel))) rfl
theorem gf_X2_62 (F : CallFix p m c cc nL s args ig_all RX2) (E : ig_E D kk ad bs s) (Z : ig_Z D kk ad bs s H locs a la b lb lo) {x : Nat} (hx : x < 8) (hdg : decode cc pc = .ok (.getfield 62, 3)) (kx : W p l e R s m args below meth c H locs cells slots Q (F0 m (pc + 3) ls (.int (a (3 + x) 8) :: rest))) : W p l e R s m args below meth c H locs cells slots Q (F0 m pc ls (.ref (ad (3 + x)) :: rest)) := ig_get (T := TX2) (N := 12) F E Z (i := 3 + x) (by omega) (ig_c_ph _ _ _ _ _ _ hx) rfl in_X2 8 (by decide) mw_386 (by rw [ig_mm_a _ _ (by omega)]; rfl) hdg kx
theorem pf_X2_62 (F : CallFix p m c cc nL s args ig_all RX2) (E : ig_E D kk ad bs s) (Z : ig_Z D kk ad bs s H locs a la b lb lo) {x : Nat} (hx : x < 8) {v : Int32} (hdg : decode cc pc = .ok (.putfield 62, 3)) (kx : ∀ (H1 : Heap) (locs1 : List Loc) (a1 : ig_M), a1 = ig_up a (3 + x) 8 v → ig_Z D kk ad bs s H1 locs1 a1 la b lb lo → W p l e R s m args below meth c H1 locs1 cells slots Q (F0 m (pc + 3) ls rest)) : W p l e R s m args below meth c H locs cells slots Q (F0 m pc ls (.int v :: .ref (ad (3 + x)) :: rest)) := ig_put (T := TX2) (N := 12) F E Z (i := (3 + x)) (by omega) (ig_c_ph _ _ _ _ _ _ hx) rfl in_X2 tyX2 tyX2_ok nmX2 8 (by decide) mw_386 rfl (ty := .int) rfl rfl rfl (Nat.le_of_ble_eq_true rfl) (by rw [ig_rowA (by omega), ig_c_ph _ _ _ _ _ _ hx, ig_mm_a _ _ (by omega)]; rfl) (ig_offA v 8) hdg (fun H1 locs1 Z1 => kx H1 locs1 _ rfl Z1)
theorem pf_X2_22 (F : CallFix p m c cc nL s args ig_all RX2) (E : ig_E D kk ad bs s) (Z : ig_Z D kk ad bs s H locs a la b lb lo) {x : Nat} (hx : x < 8) {v : Int32} (hdg : decode cc pc = .ok (.putfield 22, 3)) (kx : ∀ (H1 : Heap) (locs1 : List Loc) (a1 : ig_M), a1 = ig_up a (3 + x) 6 v → ig_Z D kk ad bs s H1 locs1 a1 la b lb lo → W p l e R s m args below meth c H1 locs1 cells slots Q (F0 m (pc + 3) ls rest)) : W p l e R s m args below meth c H locs cells slots Q (F0 m pc ls (.int v :: .ref (ad (3 + x)) :: rest)) := ig_put (T := TX2) (N := 12) F E Z (i := (3 + x)) (by omega) (ig_c_ph _ _ _ _ _ _ hx) rfl in_X2 tyX2 tyX2_ok nmX2 6 (by decide) mw_371 rfl (ty := .int) rfl rfl rfl (Nat.le_of_ble_eq_true rfl) (by rw [ig_rowA (by omega), ig_c_ph _ _ _ _ _ _ hx, ig_mm_a _ _ (by omega)]; rfl) (ig_offA v 6) hdg (fun H1 locs1 Z1 => kx H1 locs1 _ rfl Z1)
theorem mw_387 : Cond.fieldLink "Intergreen$Plan" 11 "Intergreen$Plan" "phases" "[LIntergreen$Phase;" ∈ ig_all := ig_in (List.mem_append_right _ (List.mem_of_getElem? (i := 82) (by decide +kernel))) rfl
theorem gf_X3_11 (F : CallFix p m c cc nL s args ig_all RX3) (E : ig_E D kk ad bs s) (Z : ig_Z D kk ad bs s H locs a la b lb lo) (hdg : decode cc pc = .ok (.getfield 11, 3)) (kx : W p l e R s m args below meth c H locs cells slots Q (F0 m (pc + 3) ls (.ref (ad 2) :: rest))) : W p l e R s m args below meth c H locs cells slots Q (F0 m pc ls (.ref (ad 1) :: rest)) := ig_get (T := TX3) (N := 5) F E Z (i := 1) (by decide) (ig_k_1 _ _ _ _ _ _) rfl in_X3 0 (by decide) mw_387 rfl hdg kx
theorem mw_388 : Cond.fieldLink "Intergreen$Plan" 27 "Intergreen$Plan" "phaseCount" "I" ∈ ig_all := ig_in (List.mem_append_right _ (List.mem_of_getElem? (i := 85) (by decide +kernel))) rfl
theorem gf_X3_27 (F : CallFix p m c cc nL s args ig_all RX3) (E : ig_E D kk ad bs s) (Z : ig_Z D kk ad bs s H locs a la b lb lo) (hdg : decode cc pc = .ok (.getfield 27, 3)) (kx : W p l e R s m args below meth c H locs cells slots Q (F0 m (pc + 3) ls (.int (a 1 1) :: rest))) : W p l e R s m args below meth c H locs cells slots Q (F0 m pc ls (.ref (ad 1) :: rest)) := ig_get (T := TX3) (N := 5) F E Z (i := 1) (by decide) (ig_k_1 _ _ _ _ _ _) rfl in_X3 1 (by decide) mw_388 rfl hdg kx
theorem mw_389 : Cond.fieldLink "Intergreen$Plan" 31 "Intergreen$Phase" "least" "I" ∈ ig_all := ig_in (List.mem_append_right _ (List.mem_of_getElem? (i := 38) (by decide +kernel))) rfl
theorem pf_X3_31 (F : CallFix p m c cc nL s args ig_all RX3) (E : ig_E D kk ad bs s) (Z : ig_Z D kk ad bs s H locs a la b lb lo) {x : Nat} (hx : x < 8) {v : Int32} (hdg : decode cc pc = .ok (.putfield 31, 3)) (kx : ∀ (H1 : Heap) (locs1 : List Loc) (a1 : ig_M), a1 = ig_up a (3 + x) 0 v → ig_Z D kk ad bs s H1 locs1 a1 la b lb lo → W p l e R s m args below meth c H1 locs1 cells slots Q (F0 m (pc + 3) ls rest)) : W p l e R s m args below meth c H locs cells slots Q (F0 m pc ls (.int v :: .ref (ad (3 + x)) :: rest)) := ig_put (T := TX2) (N := 12) F E Z (i := (3 + x)) (by omega) (ig_c_ph _ _ _ _ _ _ hx) rfl in_X2 tyX2 tyX2_ok nmX2 0 (by decide) mw_389 rfl (ty := .int) rfl rfl rfl (Nat.le_of_ble_eq_true rfl) (by rw [ig_rowA (by omega), ig_c_ph _ _ _ _ _ _ hx, ig_mm_a _ _ (by omega)]; rfl) (ig_offA v 0) hdg (fun H1 locs1 Z1 => kx H1 locs1 _ rfl Z1)
theorem mw_390 : Cond.fieldLink "Intergreen$Plan" 34 "Intergreen$Phase" "most" "I" ∈ ig_all := ig_in (List.mem_append_right _ (List.mem_of_getElem? (i := 40) (by decide +kernel))) rfl
theorem pf_X3_34 (F : CallFix p m c cc nL s args ig_all RX3) (E : ig_E D kk ad bs s) (Z : ig_Z D kk ad bs s H locs a la b lb lo) {x : Nat} (hx : x < 8) {v : Int32} (hdg : decode cc pc = .ok (.putfield 34, 3)) (kx : ∀ (H1 : Heap) (locs1 : List Loc) (a1 : ig_M), a1 = ig_up a (3 + x) 1 v → ig_Z D kk ad bs s H1 locs1 a1 la b lb lo → W p l e R s m args below meth c H1 locs1 cells slots Q (F0 m (pc + 3) ls rest)) : W p l e R s m args below meth c H locs cells slots Q (F0 m pc ls (.int v :: .ref (ad (3 + x)) :: rest)) := ig_put (T := TX2) (N := 12) F E Z (i := (3 + x)) (by omega) (ig_c_ph _ _ _ _ _ _ hx) rfl in_X2 tyX2 tyX2_ok nmX2 1 (by decide) mw_390 rfl (ty := .int) rfl rfl rfl (Nat.le_of_ble_eq_true rfl) (by rw [ig_rowA (by omega), ig_c_ph _ _ _ _ _ _ hx, ig_mm_a _ _ (by omega)]; rfl) (ig_offA v 1) hdg (fun H1 locs1 Z1 => kx H1 locs1 _ rfl Z1)
theorem mw_391 : Cond.fieldLink "Intergreen$Plan" 37 "Intergreen$Phase" "gap" "I" ∈ ig_all := ig_in (List.mem_append_right _ (List.mem_of_getElem? (i := 42) (by decide +kernel))) rfl
theorem pf_X3_37 (F : CallFix p m c cc nL s args ig_all RX3) (E : ig_E D kk ad bs s) (Z : ig_Z D kk ad bs s H locs a la b lb lo) {x : Nat} (hx : x < 8) {v : Int32} (hdg : decode cc pc = .ok (.putfield 37, 3)) (kx : ∀ (H1 : Heap) (locs1 : List Loc) (a1 : ig_M), a1 = ig_up a (3 + x) 2 v → ig_Z D kk ad bs s H1 locs1 a1 la b lb lo → W p l e R s m args below meth c H1 locs1 cells slots Q (F0 m (pc + 3) ls rest)) : W p l e R s m args below meth c H locs cells slots Q (F0 m pc ls (.int v :: .ref (ad (3 + x)) :: rest)) := ig_put (T := TX2) (N := 12) F E Z (i := (3 + x)) (by omega) (ig_c_ph _ _ _ _ _ _ hx) rfl in_X2 tyX2 tyX2_ok nmX2 2 (by decide) mw_391 rfl (ty := .int) rfl rfl rfl (Nat.le_of_ble_eq_true rfl) (by rw [ig_rowA (by omega), ig_c_ph _ _ _ _ _ _ hx, ig_mm_a _ _ (by omega)]; rfl) (ig_offA v 2) hdg (fun H1 locs1 Z1 => kx H1 locs1 _ rfl Z1)
theorem pf_X3_27 (F : CallFix p m c cc nL s args ig_all RX3) (E : ig_E D kk ad bs s) (Z : ig_Z D kk ad bs s H locs a la b lb lo) {v : Int32} (hdg : decode cc pc = .ok (.putfield 27, 3)) (kx : ∀ (H1 : Heap) (locs1 : List Loc) (a1 : ig_M), a1 = ig_up a 1 1 v → ig_Z D kk ad bs s H1 locs1 a1 la b lb lo → W p l e R s m args below meth c H1 locs1 cells slots Q (F0 m (pc + 3) ls rest)) : W p l e R s m args below meth c H locs cells slots Q (F0 m pc ls (.int v :: .ref (ad 1) :: rest)) := ig_put (T := TX3) (N := 5) F E Z (i := 1) (by decide) (ig_k_1 _ _ _ _ _ _) rfl in_X3 tyX3 tyX3_ok nmX3 1 (by decide) mw_388 rfl (ty := .int) rfl rfl rfl (Nat.le_of_ble_eq_true rfl) rfl (ig_offA v 1) hdg (fun H1 locs1 Z1 => kx H1 locs1 _ rfl Z1)
theorem mw_392 : Cond.fieldLink "Intergreen$Plan" 19 "Intergreen$Plan" "between" "[[I" ∈ ig_all := ig_in (List.mem_append_right _ (List.mem_of_getElem? (i := 88) (by decide +kernel))) rfl
theorem gf_X3_19 (F : CallFix p m c cc nL s args ig_all RX3) (E : ig_E D kk ad bs s) (Z : ig_Z D kk ad bs s H locs a la b lb lo) (hdg : decode cc pc = .ok (.getfield 19, 3)) (kx : W p l e R s m args below meth c H locs cells slots Q (F0 m (pc + 3) ls (.ref (ad 11) :: rest))) : W p l e R s m args below meth c H locs cells slots Q (F0 m pc ls (.ref (ad 1) :: rest)) := ig_get (T := TX3) (N := 5) F E Z (i := 1) (by decide) (ig_k_1 _ _ _ _ _ _) rfl in_X3 2 (by decide) mw_392 rfl hdg kx
theorem mw_393 : Cond.fieldLink "Intergreen$Plan" 40 "Intergreen$Plan" "stageCount" "I" ∈ ig_all := ig_in (List.mem_append_right _ (List.mem_of_getElem? (i := 93) (by decide +kernel))) rfl
theorem gf_X3_40 (F : CallFix p m c cc nL s args ig_all RX3) (E : ig_E D kk ad bs s) (Z : ig_Z D kk ad bs s H locs a la b lb lo) (hdg : decode cc pc = .ok (.getfield 40, 3)) (kx : W p l e R s m args below meth c H locs cells slots Q (F0 m (pc + 3) ls (.int (a 1 4) :: rest))) : W p l e R s m args below meth c H locs cells slots Q (F0 m pc ls (.ref (ad 1) :: rest)) := ig_get (T := TX3) (N := 5) F E Z (i := 1) (by decide) (ig_k_1 _ _ _ _ _ _) rfl in_X3 4 (by decide) mw_393 rfl hdg kx
theorem G_X3_43 : GoodIn ig_all (ig_ws yX5_isWithin cX5_isWithin 3 (some .boolean)) := ig_LG mw_0
theorem G_X3_43_i : Cond.initialized yX5_isWithin.cls ∈ ig_all := mw_3
theorem G_X3_43_s : Cond.static yX5_isWithin ∈ ig_all := mw_2
theorem mw_394 : Cond.fieldLink "Intergreen$Plan" 22 "Intergreen$Plan" "stages" "[I" ∈ ig_all := ig_in (List.mem_append_right _ (List.mem_of_getElem? (i := 90) (by decide +kernel))) rfl
theorem gf_X3_22 (F : CallFix p m c cc nL s args ig_all RX3) (E : ig_E D kk ad bs s) (Z : ig_Z D kk ad bs s H locs a la b lb lo) (hdg : decode cc pc = .ok (.getfield 22, 3)) (kx : W p l e R s m args below meth c H locs cells slots Q (F0 m (pc + 3) ls (.ref (ad 20) :: rest))) : W p l e R s m args below meth c H locs cells slots Q (F0 m pc ls (.ref (ad 1) :: rest)) := ig_get (T := TX3) (N := 5) F E Z (i := 1) (by decide) (ig_k_1 _ _ _ _ _ _) rfl in_X3 3 (by decide) mw_394 rfl hdg kx
theorem pf_X3_40 (F : CallFix p m c cc nL s args ig_all RX3) (E : ig_E D kk ad bs s) (Z : ig_Z D kk ad bs s H locs a la b lb lo) {v : Int32} (hdg : decode cc pc = .ok (.putfield 40, 3)) (kx : ∀ (H1 : Heap) (locs1 : List Loc) (a1 : ig_M), a1 = ig_up a 1 4 v → ig_Z D kk ad bs s H1 locs1 a1 la b lb lo → W p l e R s m args below meth c H1 locs1 cells slots Q (F0 m (pc + 3) ls rest)) : W p l e R s m args below meth c H locs cells slots Q (F0 m pc ls (.int v :: .ref (ad 1) :: rest)) := ig_put (T := TX3) (N := 5) F E Z (i := 1) (by decide) (ig_k_1 _ _ _ _ _ _) rfl in_X3 tyX3 tyX3_ok nmX3 4 (by decide) mw_393 rfl (ty := .int) rfl rfl rfl (Nat.le_of_ble_eq_true rfl) rfl (ig_offA v 4) hdg (fun H1 locs1 Z1 => kx H1 locs1 _ rfl Z1)
theorem mw_395 : Cond.methodLink "Intergreen$Plan" 47 ⟨"Intergreen$Plan", "setOf", "(I)I"⟩ ∈ ig_all := ig_in (List.mem_append_right _ (List.mem_of_getElem? (i := 214) (by decide +kernel))) rfl
theorem G_X3_47 : GoodIn ig_all (wsV RX3 47 RX3 yX3_setOf (ig_ws yX3_setOf cX3_setOf 2 (some .int))) := ig_LV mw_395 mw_290 mw_291 mw_12 mw_288
theorem G_X3_51 : GoodIn ig_all (ig_ws yX5_has cX5_has 2 (some .boolean)) := ig_LG mw_301
theorem G_X3_51_i : Cond.initialized yX5_has.cls ∈ ig_all := mw_3
theorem G_X3_51_s : Cond.static yX5_has ∈ ig_all := mw_302
theorem mw_396 : Cond.code ⟨"Intergreen$Plan", "mostBetween", "(II)I"⟩ prog_5_method_9_code 5 (Option.some Jvm.ClassFile.FieldType.int) ∈ ig_all := ig_in (List.mem_append_right _ (List.mem_of_getElem? (i := 227) (by decide +kernel))) rfl
theorem mw_397 : Cond.methodLink "Intergreen$Plan" 55 ⟨"Intergreen$Plan", "mostBetween", "(II)I"⟩ ∈ ig_all := ig_in (List.mem_append_right _ (List.mem_of_getElem? (i := 224) (by decide +kernel))) rfl
theorem mw_398 : Cond.instanceMethod ⟨"Intergreen$Plan", "mostBetween", "(II)I"⟩ ∈ ig_all := ig_in (List.mem_append_right _ (List.mem_of_getElem? (i := 225) (by decide +kernel))) rfl
theorem mw_399 : Cond.selects "Intergreen$Plan" ⟨"Intergreen$Plan", "mostBetween", "(II)I"⟩ ⟨"Intergreen$Plan", "mostBetween", "(II)I"⟩ ∈ ig_all := ig_in (List.mem_append_right _ (List.mem_of_getElem? (i := 226) (by decide +kernel))) rfl
theorem G_X3_55 : GoodIn ig_all (wsV RX3 55 RX3 yX3_mostBetween (ig_ws yX3_mostBetween cX3_mostBetween 5 (some .int))) := ig_LV mw_397 mw_398 mw_399 mw_12 mw_396
theorem gf_X3_31 (F : CallFix p m c cc nL s args ig_all RX3) (E : ig_E D kk ad bs s) (Z : ig_Z D kk ad bs s H locs a la b lb lo) {x : Nat} (hx : x < 8) (hdg : decode cc pc = .ok (.getfield 31, 3)) (kx : W p l e R s m args below meth c H locs cells slots Q (F0 m (pc + 3) ls (.int (a (3 + x) 0) :: rest))) : W p l e R s m args below meth c H locs cells slots Q (F0 m pc ls (.ref (ad (3 + x)) :: rest)) := ig_get (T := TX2) (N := 12) F E Z (i := 3 + x) (by omega) (ig_c_ph _ _ _ _ _ _ hx) rfl in_X2 0 (by decide) mw_389 (by rw [ig_mm_a _ _ (by omega)]; rfl) hdg kx
theorem mw_400 : Cond.methodLink "Intergreen$Plan" 64 ⟨"Intergreen$Phase", "isDemanded", "()Z"⟩ ∈ ig_all := ig_in (List.mem_append_right _ (List.mem_of_getElem? (i := 546) (by decide +kernel))) rfl
theorem G_X3_64 : GoodIn ig_all (wsV RX3 64 RX2 yX2_isDemanded (ig_ws yX2_isDemanded cX2_isDemanded 1 (some .boolean))) := ig_LV mw_400 mw_60 mw_61 mw_57 mw_58
theorem mw_401 : Cond.fieldLink "Intergreen$Rounds" 19 "Intergreen$Rounds" "plan" "LIntergreen$Plan;" ∈ ig_all := ig_in (List.mem_append_right _ (List.mem_of_getElem? (i := 163) (by decide +kernel))) rfl
theorem gf_X4_19 (F : CallFix p m c cc nL s args ig_all RX4) (E : ig_E D kk ad bs s) (Z : ig_Z D kk ad bs s H locs a la b lb lo) (hdg : decode cc pc = .ok (.getfield 19, 3)) (kx : W p l e R s m args below meth c H locs cells slots Q (F0 m (pc + 3) ls (.ref (ad 1) :: rest))) : W p l e R s m args below meth c H locs cells slots Q (F0 m pc ls (.ref (ad 24) :: rest)) := ig_get (T := TX4) (N := 3) F E Z (i := 24) (by decide) (ig_k_24 _ _ _ _ _ _) rfl in_X4 0 (by decide) mw_401 rfl hdg kx
theorem mw_402 : Cond.fieldLink "Intergreen$Rounds" 23 "Intergreen$Plan" "stageCount" "I" ∈ ig_all := ig_in (List.mem_append_right _ (List.mem_of_getElem? (i := 91) (by decide +kernel))) rfl
theorem gf_X4_23 (F : CallFix p m c cc nL s args ig_all RX4) (E : ig_E D kk ad bs s) (Z : ig_Z D kk ad bs s H locs a la b lb lo) (hdg : decode cc pc = .ok (.getfield 23, 3)) (kx : W p l e R s m args below meth c H locs cells slots Q (F0 m (pc + 3) ls (.int (a 1 4) :: rest))) : W p l e R s m args below meth c H locs cells slots Q (F0 m pc ls (.ref (ad 1) :: rest)) := ig_get (T := TX3) (N := 5) F E Z (i := 1) (by decide) (ig_k_1 _ _ _ _ _ _) rfl in_X3 4 (by decide) mw_402 rfl hdg kx
theorem mw_403 : Cond.code ⟨"Intergreen$Rounds", "findWaysHome", "()V"⟩ prog_6_method_7_code 4 (Option.none : Option Jvm.ClassFile.FieldType) ∈ ig_all := ig_in (List.mem_append_right _ (List.mem_of_getElem? (i := 205) (by decide +kernel))) rfl
theorem mw_404 : Cond.methodLink "Intergreen$Rounds" 29 ⟨"Intergreen$Rounds", "findWaysHome", "()V"⟩ ∈ ig_all := ig_in (List.mem_append_right _ (List.mem_of_getElem? (i := 202) (by decide +kernel))) rfl
theorem mw_405 : Cond.instanceMethod ⟨"Intergreen$Rounds", "findWaysHome", "()V"⟩ ∈ ig_all := ig_in (List.mem_append_right _ (List.mem_of_getElem? (i := 204) (by decide +kernel))) rfl
theorem mw_406 : Cond.selects "Intergreen$Rounds" ⟨"Intergreen$Rounds", "findWaysHome", "()V"⟩ ⟨"Intergreen$Rounds", "findWaysHome", "()V"⟩ ∈ ig_all := ig_in (List.mem_append_left _ (List.mem_of_getElem? (i := 0) (by decide +kernel))) rfl
theorem G_X4_29 : GoodIn ig_all (wsV RX4 29 RX4 yX4_findWaysHome (ig_ws yX4_findWaysHome cX4_findWaysHome 4 none)) := ig_LV mw_404 mw_405 mw_406 mw_106 mw_403
theorem mw_407 : Cond.code ⟨"Intergreen$Rounds", "secondsOfGreens", "()I"⟩ prog_6_method_5_code 3 (Option.some Jvm.ClassFile.FieldType.int) ∈ ig_all := ig_in (List.mem_append_right _ (List.mem_of_getElem? (i := 247) (by decide +kernel))) rfl
theorem mw_408 : Cond.methodLink "Intergreen$Rounds" 32 ⟨"Intergreen$Rounds", "secondsOfGreens", "()I"⟩ ∈ ig_all := ig_in (List.mem_append_right _ (List.mem_of_getElem? (i := 244) (by decide +kernel))) rfl
theorem mw_409 : Cond.instanceMethod ⟨"Intergreen$Rounds", "secondsOfGreens", "()I"⟩ ∈ ig_all := ig_in (List.mem_append_right _ (List.mem_of_getElem? (i := 246) (by decide +kernel))) rfl
theorem mw_410 : Cond.selects "Intergreen$Rounds" ⟨"Intergreen$Rounds", "secondsOfGreens", "()I"⟩ ⟨"Intergreen$Rounds", "secondsOfGreens", "()I"⟩ ∈ ig_all := ig_in (List.mem_append_left _ (List.mem_of_getElem? (i := 4) (by decide +kernel))) rfl
theorem G_X4_32 : GoodIn ig_all (wsV RX4 32 RX4 yX4_secondsOfGreens (ig_ws yX4_secondsOfGreens cX4_secondsOfGreens 3 (some .int))) := ig_LV mw_408 mw_409 mw_410 mw_106 mw_407
theorem mw_411 : Cond.fieldLink "Intergreen$Rounds" 16 "Intergreen$Rounds" "home" "[[I" ∈ ig_all := ig_in (List.mem_append_right _ (List.mem_of_getElem? (i := 165) (by decide +kernel))) rfl
theorem gf_X4_16 (F : CallFix p m c cc nL s args ig_all RX4) (E : ig_E D kk ad bs s) (Z : ig_Z D kk ad bs s H locs a la b lb lo) (hdg : decode cc pc = .ok (.getfield 16, 3)) (kx : W p l e R s m args below meth c H locs cells slots Q (F0 m (pc + 3) ls (.ref (ad 32) :: rest))) : W p l e R s m args below meth c H locs cells slots Q (F0 m pc ls (.ref (ad 24) :: rest)) := ig_get (T := TX4) (N := 3) F E Z (i := 24) (by decide) (ig_k_24 _ _ _ _ _ _) rfl in_X4 2 (by decide) mw_411 rfl hdg kx
theorem mw_412 : Cond.code ⟨"Intergreen$Rounds", "firstOfBest", "(II)I"⟩ prog_6_method_10_code 4 (Option.some Jvm.ClassFile.FieldType.int) ∈ ig_all := ig_in (List.mem_append_right _ (List.mem_of_getElem? (i := 713) (by decide +kernel))) rfl
theorem mw_413 : Cond.methodLink "Intergreen$Rounds" 36 ⟨"Intergreen$Rounds", "firstOfBest", "(II)I"⟩ ∈ ig_all := ig_in (List.mem_append_right _ (List.mem_of_getElem? (i := 710) (by decide +kernel))) rfl
theorem mw_414 : Cond.instanceMethod ⟨"Intergreen$Rounds", "firstOfBest", "(II)I"⟩ ∈ ig_all := ig_in (List.mem_append_right _ (List.mem_of_getElem? (i := 712) (by decide +kernel))) rfl
theorem mw_415 : Cond.selects "Intergreen$Rounds" ⟨"Intergreen$Rounds", "firstOfBest", "(II)I"⟩ ⟨"Intergreen$Rounds", "firstOfBest", "(II)I"⟩ ∈ ig_all := ig_in (List.mem_append_left _ (List.mem_of_getElem? (i := 24) (by decide +kernel))) rfl
theorem G_X4_36 : GoodIn ig_all (wsV RX4 36 RX4 yX4_firstOfBest (ig_ws yX4_firstOfBest cX4_firstOfBest 4 (some .int))) := ig_LV mw_413 mw_414 mw_415 mw_106 mw_412
theorem mw_416 : Cond.code ⟨"Intergreen$Rounds", "findChanges", "()V"⟩ prog_6_method_6_code 3 (Option.none : Option Jvm.ClassFile.FieldType) ∈ ig_all := ig_in (List.mem_append_right _ (List.mem_of_getElem? (i := 209) (by decide +kernel))) rfl
theorem mw_417 : Cond.methodLink "Intergreen$Rounds" 40 ⟨"Intergreen$Rounds", "findChanges", "()V"⟩ ∈ ig_all := ig_in (List.mem_append_right _ (List.mem_of_getElem? (i := 206) (by decide +kernel))) rfl
theorem mw_418 : Cond.instanceMethod ⟨"Intergreen$Rounds", "findChanges", "()V"⟩ ∈ ig_all := ig_in (List.mem_append_right _ (List.mem_of_getElem? (i := 208) (by decide +kernel))) rfl
theorem mw_419 : Cond.selects "Intergreen$Rounds" ⟨"Intergreen$Rounds", "findChanges", "()V"⟩ ⟨"Intergreen$Rounds", "findChanges", "()V"⟩ ∈ ig_all := ig_in (List.mem_append_left _ (List.mem_of_getElem? (i := 1) (by decide +kernel))) rfl
theorem G_X4_40 : GoodIn ig_all (wsV RX4 40 RX4 yX4_findChanges (ig_ws yX4_findChanges cX4_findChanges 3 none)) := ig_LV mw_417 mw_418 mw_419 mw_106 mw_416
theorem mw_420 : Cond.code ⟨"Intergreen$Rounds", "secondsOfWay", "(I)I"⟩ prog_6_method_11_code 8 (Option.some Jvm.ClassFile.FieldType.int) ∈ ig_all := ig_in (List.mem_append_right _ (List.mem_of_getElem? (i := 263) (by decide +kernel))) rfl
theorem mw_421 : Cond.methodLink "Intergreen$Rounds" 44 ⟨"Intergreen$Rounds", "secondsOfWay", "(I)I"⟩ ∈ ig_all := ig_in (List.mem_append_right _ (List.mem_of_getElem? (i := 260) (by decide +kernel))) rfl
theorem mw_422 : Cond.instanceMethod ⟨"Intergreen$Rounds", "secondsOfWay", "(I)I"⟩ ∈ ig_all := ig_in (List.mem_append_right _ (List.mem_of_getElem? (i := 262) (by decide +kernel))) rfl
theorem mw_423 : Cond.selects "Intergreen$Rounds" ⟨"Intergreen$Rounds", "secondsOfWay", "(I)I"⟩ ⟨"Intergreen$Rounds", "secondsOfWay", "(I)I"⟩ ∈ ig_all := ig_in (List.mem_append_left _ (List.mem_of_getElem? (i := 5) (by decide +kernel))) rfl
theorem G_X4_44 : GoodIn ig_all (wsV RX4 44 RX4 yX4_secondsOfWay (ig_ws yX4_secondsOfWay cX4_secondsOfWay 8 (some .int))) := ig_LV mw_421 mw_422 mw_423 mw_106 mw_420
theorem mw_424 : Cond.code ⟨"Intergreen$Plan", "greatestLeast", "(I)I"⟩ prog_5_method_11_code 4 (Option.some Jvm.ClassFile.FieldType.int) ∈ ig_all := ig_in (List.mem_append_right _ (List.mem_of_getElem? (i := 251) (by decide +kernel))) rfl
theorem mw_425 : Cond.methodLink "Intergreen$Rounds" 53 ⟨"Intergreen$Plan", "greatestLeast", "(I)I"⟩ ∈ ig_all := ig_in (List.mem_append_right _ (List.mem_of_getElem? (i := 248) (by decide +kernel))) rfl
theorem mw_426 : Cond.instanceMethod ⟨"Intergreen$Plan", "greatestLeast", "(I)I"⟩ ∈ ig_all := ig_in (List.mem_append_right _ (List.mem_of_getElem? (i := 249) (by decide +kernel))) rfl
theorem mw_427 : Cond.selects "Intergreen$Plan" ⟨"Intergreen$Plan", "greatestLeast", "(I)I"⟩ ⟨"Intergreen$Plan", "greatestLeast", "(I)I"⟩ ∈ ig_all := ig_in (List.mem_append_right _ (List.mem_of_getElem? (i := 250) (by decide +kernel))) rfl
theorem G_X4_53 : GoodIn ig_all (wsV RX4 53 RX3 yX3_greatestLeast (ig_ws yX3_greatestLeast cX3_greatestLeast 4 (some .int))) := ig_LV mw_425 mw_426 mw_427 mw_12 mw_424
theorem mw_428 : Cond.fieldLink "Intergreen$Rounds" 11 "Intergreen$Rounds" "changes" "[[I" ∈ ig_all := ig_in (List.mem_append_right _ (List.mem_of_getElem? (i := 164) (by decide +kernel))) rfl
theorem gf_X4_11 (F : CallFix p m c cc nL s args ig_all RX4) (E : ig_E D kk ad bs s) (Z : ig_Z D kk ad bs s H locs a la b lb lo) (hdg : decode cc pc = .ok (.getfield 11, 3)) (kx : W p l e R s m args below meth c H locs cells slots Q (F0 m (pc + 3) ls (.ref (ad 25) :: rest))) : W p l e R s m args below meth c H locs cells slots Q (F0 m pc ls (.ref (ad 24) :: rest)) := ig_get (T := TX4) (N := 3) F E Z (i := 24) (by decide) (ig_k_24 _ _ _ _ _ _) rfl in_X4 1 (by decide) mw_428 rfl hdg kx
theorem mw_429 : Cond.methodLink "Intergreen$Rounds" 56 ⟨"Intergreen$Plan", "secondsToChange", "(II)I"⟩ ∈ ig_all := ig_in (List.mem_append_right _ (List.mem_of_getElem? (i := 210) (by decide +kernel))) rfl
theorem G_X4_56 : GoodIn ig_all (wsV RX4 56 RX3 yX3_secondsToChange (ig_ws yX3_secondsToChange cX3_secondsToChange 7 (some .int))) := ig_LV mw_429 mw_99 mw_100 mw_12 mw_97
theorem G_X4_59 : GoodIn ig_all (ig_ws yX5_has cX5_has 2 (some .boolean)) := ig_LG mw_301
theorem G_X4_59_i : Cond.initialized yX5_has.cls ∈ ig_all := mw_3
theorem G_X4_59_s : Cond.static yX5_has ∈ ig_all := mw_302
theorem mw_430 : Cond.code ⟨"Intergreen$Rounds", "leastHome", "(II)I"⟩ prog_6_method_8_code 5 (Option.some Jvm.ClassFile.FieldType.int) ∈ ig_all := ig_in (List.mem_append_right _ (List.mem_of_getElem? (i := 235) (by decide +kernel))) rfl
theorem mw_431 : Cond.methodLink "Intergreen$Rounds" 63 ⟨"Intergreen$Rounds", "leastHome", "(II)I"⟩ ∈ ig_all := ig_in (List.mem_append_right _ (List.mem_of_getElem? (i := 232) (by decide +kernel))) rfl
theorem mw_432 : Cond.instanceMethod ⟨"Intergreen$Rounds", "leastHome", "(II)I"⟩ ∈ ig_all := ig_in (List.mem_append_right _ (List.mem_of_getElem? (i := 234) (by decide +kernel))) rfl
theorem mw_433 : Cond.selects "Intergreen$Rounds" ⟨"Intergreen$Rounds", "leastHome", "(II)I"⟩ ⟨"Intergreen$Rounds", "leastHome", "(II)I"⟩ ∈ ig_all := ig_in (List.mem_append_left _ (List.mem_of_getElem? (i := 2) (by decide +kernel))) rfl
theorem G_X4_63 : GoodIn ig_all (wsV RX4 63 RX4 yX4_leastHome (ig_ws yX4_leastHome cX4_leastHome 5 (some .int))) := ig_LV mw_431 mw_432 mw_433 mw_106 mw_430
theorem mw_434 : Cond.code ⟨"Intergreen$Rounds", "homeBy", "(III)I"⟩ prog_6_method_9_code 4 (Option.some Jvm.ClassFile.FieldType.int) ∈ ig_all := ig_in (List.mem_append_right _ (List.mem_of_getElem? (i := 240) (by decide +kernel))) rfl
theorem mw_435 : Cond.methodLink "Intergreen$Rounds" 66 ⟨"Intergreen$Rounds", "homeBy", "(III)I"⟩ ∈ ig_all := ig_in (List.mem_append_right _ (List.mem_of_getElem? (i := 237) (by decide +kernel))) rfl
theorem mw_436 : Cond.instanceMethod ⟨"Intergreen$Rounds", "homeBy", "(III)I"⟩ ∈ ig_all := ig_in (List.mem_append_right _ (List.mem_of_getElem? (i := 239) (by decide +kernel))) rfl
theorem mw_437 : Cond.selects "Intergreen$Rounds" ⟨"Intergreen$Rounds", "homeBy", "(III)I"⟩ ⟨"Intergreen$Rounds", "homeBy", "(III)I"⟩ ∈ ig_all := ig_in (List.mem_append_left _ (List.mem_of_getElem? (i := 3) (by decide +kernel))) rfl
theorem G_X4_66 : GoodIn ig_all (wsV RX4 66 RX4 yX4_homeBy (ig_ws yX4_homeBy cX4_homeBy 4 (some .int))) := ig_LV mw_435 mw_436 mw_437 mw_106 mw_434
theorem mw_438 : Cond.code ⟨"Intergreen$Rounds", "stageLeft", "(II)I"⟩ prog_6_method_12_code 5 (Option.some Jvm.ClassFile.FieldType.int) ∈ ig_all := ig_in (List.mem_append_right _ (List.mem_of_getElem? (i := 267) (by decide +kernel))) rfl
theorem mw_439 : Cond.methodLink "Intergreen$Rounds" 70 ⟨"Intergreen$Rounds", "stageLeft", "(II)I"⟩ ∈ ig_all := ig_in (List.mem_append_right _ (List.mem_of_getElem? (i := 264) (by decide +kernel))) rfl
theorem mw_440 : Cond.instanceMethod ⟨"Intergreen$Rounds", "stageLeft", "(II)I"⟩ ∈ ig_all := ig_in (List.mem_append_right _ (List.mem_of_getElem? (i := 266) (by decide +kernel))) rfl
theorem mw_441 : Cond.selects "Intergreen$Rounds" ⟨"Intergreen$Rounds", "stageLeft", "(II)I"⟩ ⟨"Intergreen$Rounds", "stageLeft", "(II)I"⟩ ∈ ig_all := ig_in (List.mem_append_left _ (List.mem_of_getElem? (i := 6) (by decide +kernel))) rfl
theorem G_X4_70 : GoodIn ig_all (wsV RX4 70 RX4 yX4_stageLeft (ig_ws yX4_stageLeft cX4_stageLeft 5 (some .int))) := ig_LV mw_439 mw_440 mw_441 mw_106 mw_438
end IGL
end
