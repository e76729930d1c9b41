section
-- ===== PART A: goes FIRST, ahead of the names: the tables' words, and 'selects' of the private methods out of them =====
/-- a private method of a class that the tables say can be made, by its rows of tables_1 -/
def lw_okq (q : MethodName × Nat) : Prop := (q.1.cls ≠ "java/lang/invoke/MethodHandle" ∧ q.1.cls ≠ "java/lang/invoke/VarHandle") ∧ Cond.instantiable q.1.cls q.2 ∈ tables_1 ∧ Cond.privateMethod q.1 ∈ tables_1 ∧ Cond.instanceMethod q.1 ∈ tables_1
theorem lw_p0 : lw_okq (⟨"BacklotPlanner", "isRefusedOn", "(I)Z"⟩, 11) := ⟨⟨by decide +kernel, by decide +kernel⟩, List.mem_of_getElem? (i := 17) (by decide +kernel), List.mem_of_getElem? (i := 110) (by decide +kernel), List.mem_of_getElem? (i := 111) (by decide +kernel)⟩
theorem lw_p1 : lw_okq (⟨"BacklotPlanner", "isFree", "(LBacklotPlanner$Scene;I)Z"⟩, 11) := ⟨⟨by decide +kernel, by decide +kernel⟩, List.mem_of_getElem? (i := 17) (by decide +kernel), List.mem_of_getElem? (i := 114) (by decide +kernel), List.mem_of_getElem? (i := 115) (by decide +kernel)⟩
theorem lw_p2 : lw_okq (⟨"BacklotPlanner", "allows", "(LBacklotPlanner$Scene;I)Z"⟩, 11) := ⟨⟨by decide +kernel, by decide +kernel⟩, List.mem_of_getElem? (i := 17) (by decide +kernel), List.mem_of_getElem? (i := 118) (by decide +kernel), List.mem_of_getElem? (i := 119) (by decide +kernel)⟩
theorem lw_p3 : lw_okq (⟨"BacklotPlanner", "isPermitted", "(LBacklotPlanner$Scene;I)Z"⟩, 11) := ⟨⟨by decide +kernel, by decide +kernel⟩, List.mem_of_getElem? (i := 17) (by decide +kernel), List.mem_of_getElem? (i := 122) (by decide +kernel), List.mem_of_getElem? (i := 123) (by decide +kernel)⟩
theorem lw_p4 : lw_okq (⟨"BacklotPlanner", "isCastThere", "(LBacklotPlanner$Scene;I)Z"⟩, 11) := ⟨⟨by decide +kernel, by decide +kernel⟩, List.mem_of_getElem? (i := 17) (by decide +kernel), List.mem_of_getElem? (i := 130) (by decide +kernel), List.mem_of_getElem? (i := 131) (by decide +kernel)⟩
theorem lw_p5 : lw_okq (⟨"BacklotPlanner", "isAwayOn", "(II)Z"⟩, 11) := ⟨⟨by decide +kernel, by decide +kernel⟩, List.mem_of_getElem? (i := 17) (by decide +kernel), List.mem_of_getElem? (i := 134) (by decide +kernel), List.mem_of_getElem? (i := 135) (by decide +kernel)⟩
theorem lw_p6 : lw_okq (⟨"BacklotPlanner", "mendingDay", "(I)I"⟩, 11) := ⟨⟨by decide +kernel, by decide +kernel⟩, List.mem_of_getElem? (i := 17) (by decide +kernel), List.mem_of_getElem? (i := 138) (by decide +kernel), List.mem_of_getElem? (i := 139) (by decide +kernel)⟩
theorem lw_p7 : lw_okq (⟨"BacklotPlanner", "wouldMend", "(II)Z"⟩, 11) := ⟨⟨by decide +kernel, by decide +kernel⟩, List.mem_of_getElem? (i := 17) (by decide +kernel), List.mem_of_getElem? (i := 142) (by decide +kernel), List.mem_of_getElem? (i := 143) (by decide +kernel)⟩
theorem lw_p8 : lw_okq (⟨"BacklotPlanner", "costAfterSwap", "(II)I"⟩, 11) := ⟨⟨by decide +kernel, by decide +kernel⟩, List.mem_of_getElem? (i := 17) (by decide +kernel), List.mem_of_getElem? (i := 146) (by decide +kernel), List.mem_of_getElem? (i := 147) (by decide +kernel)⟩
theorem lw_p9 : lw_okq (⟨"BacklotPlanner", "swapDays", "(II)V"⟩, 11) := ⟨⟨by decide +kernel, by decide +kernel⟩, List.mem_of_getElem? (i := 17) (by decide +kernel), List.mem_of_getElem? (i := 150) (by decide +kernel), List.mem_of_getElem? (i := 151) (by decide +kernel)⟩
theorem lw_p10 : lw_okq (⟨"BacklotPlanner", "planCost", "()I"⟩, 11) := ⟨⟨by decide +kernel, by decide +kernel⟩, List.mem_of_getElem? (i := 17) (by decide +kernel), List.mem_of_getElem? (i := 157) (by decide +kernel), List.mem_of_getElem? (i := 158) (by decide +kernel)⟩
theorem lw_p11 : lw_okq (⟨"BacklotPlanner$Studio", "dress", "(II)I"⟩, 3) := ⟨⟨by decide +kernel, by decide +kernel⟩, List.mem_of_getElem? (i := 29) (by decide +kernel), List.mem_of_getElem? (i := 179) (by decide +kernel), List.mem_of_getElem? (i := 180) (by decide +kernel)⟩
theorem lw_p12 : lw_okq (⟨"BacklotPlanner$Studio", "serve", "(III)I"⟩, 3) := ⟨⟨by decide +kernel, by decide +kernel⟩, List.mem_of_getElem? (i := 29) (by decide +kernel), List.mem_of_getElem? (i := 183) (by decide +kernel), List.mem_of_getElem? (i := 184) (by decide +kernel)⟩
theorem lw_p13 : lw_okq (⟨"BacklotPlanner", "makeBestSwap", "()Z"⟩, 11) := ⟨⟨by decide +kernel, by decide +kernel⟩, List.mem_of_getElem? (i := 17) (by decide +kernel), List.mem_of_getElem? (i := 192) (by decide +kernel), List.mem_of_getElem? (i := 193) (by decide +kernel)⟩
theorem lw_p14 : lw_okq (⟨"BacklotPlanner", "countRefused", "()I"⟩, 11) := ⟨⟨by decide +kernel, by decide +kernel⟩, List.mem_of_getElem? (i := 17) (by decide +kernel), List.mem_of_getElem? (i := 216) (by decide +kernel), List.mem_of_getElem? (i := 217) (by decide +kernel)⟩
theorem lw_p15 : lw_okq (⟨"java/lang/Throwable", "fillInStackTrace", "(I)Ljava/lang/Throwable;"⟩, 6) := ⟨⟨by decide +kernel, by decide +kernel⟩, List.mem_of_getElem? (i := 267) (by decide +kernel), List.mem_of_getElem? (i := 265) (by decide +kernel), List.mem_of_getElem? (i := 266) (by decide +kernel)⟩
def lw_privs_1 : List (MethodName × Nat) := [(⟨"BacklotPlanner", "isRefusedOn", "(I)Z"⟩, 11), (⟨"BacklotPlanner", "isFree", "(LBacklotPlanner$Scene;I)Z"⟩, 11), (⟨"BacklotPlanner", "allows", "(LBacklotPlanner$Scene;I)Z"⟩, 11), (⟨"BacklotPlanner", "isPermitted", "(LBacklotPlanner$Scene;I)Z"⟩, 11), (⟨"BacklotPlanner", "isCastThere", "(LBacklotPlanner$Scene;I)Z"⟩, 11), (⟨"BacklotPlanner", "isAwayOn", "(II)Z"⟩, 11), (⟨"BacklotPlanner", "mendingDay", "(I)I"⟩, 11), (⟨"BacklotPlanner", "wouldMend", "(II)Z"⟩, 11), (⟨"BacklotPlanner", "costAfterSwap", "(II)I"⟩, 11), (⟨"BacklotPlanner", "swapDays", "(II)V"⟩, 11), (⟨"BacklotPlanner", "planCost", "()I"⟩, 11), (⟨"BacklotPlanner$Studio", "dress", "(II)I"⟩, 3), (⟨"BacklotPlanner$Studio", "serve", "(III)I"⟩, 3), (⟨"BacklotPlanner", "makeBestSwap", "()Z"⟩, 11), (⟨"BacklotPlanner", "countRefused", "()I"⟩, 11), (⟨"java/lang/Throwable", "fillInStackTrace", "(I)Ljava/lang/Throwable;"⟩, 6)]
theorem lw_r1 : ∀ q ∈ lw_privs_1, lw_okq q := List.forall_mem_cons.mpr ⟨lw_p0, List.forall_mem_cons.mpr ⟨lw_p1, List.forall_mem_cons.mpr ⟨lw_p2, List.forall_mem_cons.mpr ⟨lw_p3, List.forall_mem_cons.mpr ⟨lw_p4, List.forall_mem_cons.mpr ⟨lw_p5, List.forall_mem_cons.mpr ⟨lw_p6, List.forall_mem_cons.mpr ⟨lw_p7, List.forall_mem_cons.mpr ⟨lw_p8, List.forall_mem_cons.mpr ⟨lw_p9, List.forall_mem_cons.mpr ⟨lw_p10, List.forall_mem_cons.mpr ⟨lw_p11, List.forall_mem_cons.mpr ⟨lw_p12, List.forall_mem_cons.mpr ⟨lw_p13, List.forall_mem_cons.mpr ⟨lw_p14, List.forall_mem_cons.mpr ⟨lw_p15, fun _ h => absurd h List.not_mem_nil⟩⟩⟩⟩⟩⟩⟩⟩⟩⟩⟩⟩⟩⟩⟩⟩
theorem lw_p16 : lw_okq (⟨"BacklotPlanner", "dayBehindPlan", "()I"⟩, 11) := ⟨⟨by decide +kernel, by decide +kernel⟩, List.mem_of_getElem? (i := 17) (by decide +kernel), List.mem_of_getElem? (i := 297) (by decide +kernel), List.mem_of_getElem? (i := 298) (by decide +kernel)⟩
theorem lw_p17 : lw_okq (⟨"BacklotPlanner", "sceneNumbered", "(I)LBacklotPlanner$Scene;"⟩, 11) := ⟨⟨by decide +kernel, by decide +kernel⟩, List.mem_of_getElem? (i := 17) (by decide +kernel), List.mem_of_getElem? (i := 371) (by decide +kernel), List.mem_of_getElem? (i := 372) (by decide +kernel)⟩
theorem lw_p18 : lw_okq (⟨"BacklotPlanner", "agesForwards", "(IIII)Z"⟩, 11) := ⟨⟨by decide +kernel, by decide +kernel⟩, List.mem_of_getElem? (i := 17) (by decide +kernel), List.mem_of_getElem? (i := 416) (by decide +kernel), List.mem_of_getElem? (i := 417) (by decide +kernel)⟩
theorem lw_p19 : lw_okq (⟨"BacklotPlanner", "plannedDay", "(LBacklotPlanner$Scene;)I"⟩, 11) := ⟨⟨by decide +kernel, by decide +kernel⟩, List.mem_of_getElem? (i := 17) (by decide +kernel), List.mem_of_getElem? (i := 436) (by decide +kernel), List.mem_of_getElem? (i := 437) (by decide +kernel)⟩
theorem lw_p20 : lw_okq (⟨"BacklotPlanner", "permitNumbered", "(I)LBacklotPlanner$Permit;"⟩, 11) := ⟨⟨by decide +kernel, by decide +kernel⟩, List.mem_of_getElem? (i := 17) (by decide +kernel), List.mem_of_getElem? (i := 489) (by decide +kernel), List.mem_of_getElem? (i := 490) (by decide +kernel)⟩
theorem lw_p21 : lw_okq (⟨"BacklotPlanner", "putOff", "(LBacklotPlanner$Scene;)V"⟩, 11) := ⟨⟨by decide +kernel, by decide +kernel⟩, List.mem_of_getElem? (i := 17) (by decide +kernel), List.mem_of_getElem? (i := 535) (by decide +kernel), List.mem_of_getElem? (i := 536) (by decide +kernel)⟩
theorem lw_p22 : lw_okq (⟨"BacklotPlannerModel", "lastPlanned", "()I"⟩, 26) := ⟨⟨by decide +kernel, by decide +kernel⟩, List.mem_of_getElem? (i := 618) (by decide +kernel), List.mem_of_getElem? (i := 712) (by decide +kernel), List.mem_of_getElem? (i := 713) (by decide +kernel)⟩
theorem lw_p23 : lw_okq (⟨"BacklotPlannerModel", "goes", "(ZZZ)Z"⟩, 26) := ⟨⟨by decide +kernel, by decide +kernel⟩, List.mem_of_getElem? (i := 618) (by decide +kernel), List.mem_of_getElem? (i := 719) (by decide +kernel), List.mem_of_getElem? (i := 720) (by decide +kernel)⟩
theorem lw_p24 : lw_okq (⟨"BacklotPlannerModel", "plans", "(II)V"⟩, 26) := ⟨⟨by decide +kernel, by decide +kernel⟩, List.mem_of_getElem? (i := 618) (by decide +kernel), List.mem_of_getElem? (i := 723) (by decide +kernel), List.mem_of_getElem? (i := 724) (by decide +kernel)⟩
theorem lw_p25 : lw_okq (⟨"BacklotPlannerModel", "isScene", "(I)Z"⟩, 26) := ⟨⟨by decide +kernel, by decide +kernel⟩, List.mem_of_getElem? (i := 618) (by decide +kernel), List.mem_of_getElem? (i := 731) (by decide +kernel), List.mem_of_getElem? (i := 732) (by decide +kernel)⟩
theorem lw_p26 : lw_okq (⟨"BacklotPlannerModel", "ages", "(IIII)Z"⟩, 26) := ⟨⟨by decide +kernel, by decide +kernel⟩, List.mem_of_getElem? (i := 618) (by decide +kernel), List.mem_of_getElem? (i := 745) (by decide +kernel), List.mem_of_getElem? (i := 746) (by decide +kernel)⟩
theorem lw_p27 : lw_okq (⟨"BacklotPlannerModel", "isUsed", "(II)Z"⟩, 26) := ⟨⟨by decide +kernel, by decide +kernel⟩, List.mem_of_getElem? (i := 618) (by decide +kernel), List.mem_of_getElem? (i := 749) (by decide +kernel), List.mem_of_getElem? (i := 750) (by decide +kernel)⟩
theorem lw_p28 : lw_okq (⟨"BacklotPlannerModel", "isAhead", "(I)Z"⟩, 26) := ⟨⟨by decide +kernel, by decide +kernel⟩, List.mem_of_getElem? (i := 618) (by decide +kernel), List.mem_of_getElem? (i := 761) (by decide +kernel), List.mem_of_getElem? (i := 762) (by decide +kernel)⟩
theorem lw_p29 : lw_okq (⟨"BacklotPlannerModel", "swaps", "(II)V"⟩, 26) := ⟨⟨by decide +kernel, by decide +kernel⟩, List.mem_of_getElem? (i := 618) (by decide +kernel), List.mem_of_getElem? (i := 765) (by decide +kernel), List.mem_of_getElem? (i := 766) (by decide +kernel)⟩
theorem lw_p30 : lw_okq (⟨"BacklotPlannerModel", "costs", "()I"⟩, 26) := ⟨⟨by decide +kernel, by decide +kernel⟩, List.mem_of_getElem? (i := 618) (by decide +kernel), List.mem_of_getElem? (i := 769) (by decide +kernel), List.mem_of_getElem? (i := 770) (by decide +kernel)⟩
theorem lw_p31 : lw_okq (⟨"BacklotPlannerModel", "lays", "()V"⟩, 26) := ⟨⟨by decide +kernel, by decide +kernel⟩, List.mem_of_getElem? (i := 618) (by decide +kernel), List.mem_of_getElem? (i := 773) (by decide +kernel), List.mem_of_getElem? (i := 774) (by decide +kernel)⟩
def lw_privs_2 : List (MethodName × Nat) := [(⟨"BacklotPlanner", "dayBehindPlan", "()I"⟩, 11), (⟨"BacklotPlanner", "sceneNumbered", "(I)LBacklotPlanner$Scene;"⟩, 11), (⟨"BacklotPlanner", "agesForwards", "(IIII)Z"⟩, 11), (⟨"BacklotPlanner", "plannedDay", "(LBacklotPlanner$Scene;)I"⟩, 11), (⟨"BacklotPlanner", "permitNumbered", "(I)LBacklotPlanner$Permit;"⟩, 11), (⟨"BacklotPlanner", "putOff", "(LBacklotPlanner$Scene;)V"⟩, 11), (⟨"BacklotPlannerModel", "lastPlanned", "()I"⟩, 26), (⟨"BacklotPlannerModel", "goes", "(ZZZ)Z"⟩, 26), (⟨"BacklotPlannerModel", "plans", "(II)V"⟩, 26), (⟨"BacklotPlannerModel", "isScene", "(I)Z"⟩, 26), (⟨"BacklotPlannerModel", "ages", "(IIII)Z"⟩, 26), (⟨"BacklotPlannerModel", "isUsed", "(II)Z"⟩, 26), (⟨"BacklotPlannerModel", "isAhead", "(I)Z"⟩, 26), (⟨"BacklotPlannerModel", "swaps", "(II)V"⟩, 26), (⟨"BacklotPlannerModel", "costs", "()I"⟩, 26), (⟨"BacklotPlannerModel", "lays", "()V"⟩, 26)]
theorem lw_r2 : ∀ q ∈ lw_privs_2, lw_okq q := List.forall_mem_cons.mpr ⟨lw_p16, List.forall_mem_cons.mpr ⟨lw_p17, List.forall_mem_cons.mpr ⟨lw_p18, List.forall_mem_cons.mpr ⟨lw_p19, List.forall_mem_cons.mpr ⟨lw_p20, List.forall_mem_cons.mpr ⟨lw_p21, List.forall_mem_cons.mpr ⟨lw_p22, List.forall_mem_cons.mpr ⟨lw_p23, List.forall_mem_cons.mpr ⟨lw_p24, List.forall_mem_cons.mpr ⟨lw_p25, List.forall_mem_cons.mpr ⟨lw_p26, List.forall_mem_cons.mpr ⟨lw_p27, List.forall_mem_cons.mpr ⟨lw_p28, List.forall_mem_cons.mpr ⟨lw_p29, List.forall_mem_cons.mpr ⟨lw_p30, List.forall_mem_cons.mpr ⟨lw_p31, fun _ h => absurd h List.not_mem_nil⟩⟩⟩⟩⟩⟩⟩⟩⟩⟩⟩⟩⟩⟩⟩⟩
theorem lw_p32 : lw_okq (⟨"BacklotPlannerModel", "serves", "(II)I"⟩, 26) := ⟨⟨by decide +kernel, by decide +kernel⟩, List.mem_of_getElem? (i := 618) (by decide +kernel), List.mem_of_getElem? (i := 777) (by decide +kernel), List.mem_of_getElem? (i := 778) (by decide +kernel)⟩
theorem lw_p33 : lw_okq (⟨"BacklotPlannerModel", "servesActor", "(II)I"⟩, 26) := ⟨⟨by decide +kernel, by decide +kernel⟩, List.mem_of_getElem? (i := 618) (by decide +kernel), List.mem_of_getElem? (i := 781) (by decide +kernel), List.mem_of_getElem? (i := 782) (by decide +kernel)⟩
theorem lw_p34 : lw_okq (⟨"BacklotPlannerModel", "servesProp", "(II)I"⟩, 26) := ⟨⟨by decide +kernel, by decide +kernel⟩, List.mem_of_getElem? (i := 618) (by decide +kernel), List.mem_of_getElem? (i := 785) (by decide +kernel), List.mem_of_getElem? (i := 786) (by decide +kernel)⟩
theorem lw_p35 : lw_okq (⟨"BacklotPlannerModel", "allows", "(II)Z"⟩, 26) := ⟨⟨by decide +kernel, by decide +kernel⟩, List.mem_of_getElem? (i := 618) (by decide +kernel), List.mem_of_getElem? (i := 789) (by decide +kernel), List.mem_of_getElem? (i := 790) (by decide +kernel)⟩
theorem lw_p36 : lw_okq (⟨"BacklotPlannerModel", "grows", "()V"⟩, 26) := ⟨⟨by decide +kernel, by decide +kernel⟩, List.mem_of_getElem? (i := 618) (by decide +kernel), List.mem_of_getElem? (i := 793) (by decide +kernel), List.mem_of_getElem? (i := 794) (by decide +kernel)⟩
theorem lw_p37 : lw_okq (⟨"BacklotPlannerModel", "refusals", "()I"⟩, 26) := ⟨⟨by decide +kernel, by decide +kernel⟩, List.mem_of_getElem? (i := 618) (by decide +kernel), List.mem_of_getElem? (i := 808) (by decide +kernel), List.mem_of_getElem? (i := 809) (by decide +kernel)⟩
theorem lw_p38 : lw_okq (⟨"BacklotPlannerModel", "allOf", "(I)I"⟩, 26) := ⟨⟨by decide +kernel, by decide +kernel⟩, List.mem_of_getElem? (i := 618) (by decide +kernel), List.mem_of_getElem? (i := 820) (by decide +kernel), List.mem_of_getElem? (i := 821) (by decide +kernel)⟩
theorem lw_p39 : lw_okq (⟨"BacklotPlannerModel", "told", "(I)I"⟩, 26) := ⟨⟨by decide +kernel, by decide +kernel⟩, List.mem_of_getElem? (i := 618) (by decide +kernel), List.mem_of_getElem? (i := 828) (by decide +kernel), List.mem_of_getElem? (i := 829) (by decide +kernel)⟩
theorem lw_p40 : lw_okq (⟨"BacklotPlannerModel", "putsOff", "(I)V"⟩, 26) := ⟨⟨by decide +kernel, by decide +kernel⟩, List.mem_of_getElem? (i := 618) (by decide +kernel), List.mem_of_getElem? (i := 840) (by decide +kernel), List.mem_of_getElem? (i := 841) (by decide +kernel)⟩
theorem lw_p41 : lw_okq (⟨"BacklotPlannerModel", "keeps", "()V"⟩, 26) := ⟨⟨by decide +kernel, by decide +kernel⟩, List.mem_of_getElem? (i := 618) (by decide +kernel), List.mem_of_getElem? (i := 844) (by decide +kernel), List.mem_of_getElem? (i := 845) (by decide +kernel)⟩
theorem lw_p42 : lw_okq (⟨"BacklotPlannerModel", "isRefused", "(I)Z"⟩, 26) := ⟨⟨by decide +kernel, by decide +kernel⟩, List.mem_of_getElem? (i := 618) (by decide +kernel), List.mem_of_getElem? (i := 852) (by decide +kernel), List.mem_of_getElem? (i := 853) (by decide +kernel)⟩
theorem lw_p43 : lw_okq (⟨"BacklotPlannerModel", "bestFor", "(I)I"⟩, 26) := ⟨⟨by decide +kernel, by decide +kernel⟩, List.mem_of_getElem? (i := 618) (by decide +kernel), List.mem_of_getElem? (i := 856) (by decide +kernel), List.mem_of_getElem? (i := 857) (by decide +kernel)⟩
theorem lw_p44 : lw_okq (⟨"BacklotPlannerModel", "bestSwap", "()I"⟩, 26) := ⟨⟨by decide +kernel, by decide +kernel⟩, List.mem_of_getElem? (i := 618) (by decide +kernel), List.mem_of_getElem? (i := 864) (by decide +kernel), List.mem_of_getElem? (i := 865) (by decide +kernel)⟩
theorem lw_p45 : lw_okq (⟨"BacklotPlannerModel", "planned", "()I"⟩, 26) := ⟨⟨by decide +kernel, by decide +kernel⟩, List.mem_of_getElem? (i := 618) (by decide +kernel), List.mem_of_getElem? (i := 872) (by decide +kernel), List.mem_of_getElem? (i := 873) (by decide +kernel)⟩
theorem lw_p46 : lw_okq (⟨"BacklotPlannerModel", "orders", "(II)V"⟩, 26) := ⟨⟨by decide +kernel, by decide +kernel⟩, List.mem_of_getElem? (i := 618) (by decide +kernel), List.mem_of_getElem? (i := 876) (by decide +kernel), List.mem_of_getElem? (i := 877) (by decide +kernel)⟩
def lw_privs_3 : List (MethodName × Nat) := [(⟨"BacklotPlannerModel", "serves", "(II)I"⟩, 26), (⟨"BacklotPlannerModel", "servesActor", "(II)I"⟩, 26), (⟨"BacklotPlannerModel", "servesProp", "(II)I"⟩, 26), (⟨"BacklotPlannerModel", "allows", "(II)Z"⟩, 26), (⟨"BacklotPlannerModel", "grows", "()V"⟩, 26), (⟨"BacklotPlannerModel", "refusals", "()I"⟩, 26), (⟨"BacklotPlannerModel", "allOf", "(I)I"⟩, 26), (⟨"BacklotPlannerModel", "told", "(I)I"⟩, 26), (⟨"BacklotPlannerModel", "putsOff", "(I)V"⟩, 26), (⟨"BacklotPlannerModel", "keeps", "()V"⟩, 26), (⟨"BacklotPlannerModel", "isRefused", "(I)Z"⟩, 26), (⟨"BacklotPlannerModel", "bestFor", "(I)I"⟩, 26), (⟨"BacklotPlannerModel", "bestSwap", "()I"⟩, 26), (⟨"BacklotPlannerModel", "planned", "()I"⟩, 26), (⟨"BacklotPlannerModel", "orders", "(II)V"⟩, 26)]
theorem lw_r3 : ∀ q ∈ lw_privs_3, lw_okq q := List.forall_mem_cons.mpr ⟨lw_p32, List.forall_mem_cons.mpr ⟨lw_p33, List.forall_mem_cons.mpr ⟨lw_p34, List.forall_mem_cons.mpr ⟨lw_p35, List.forall_mem_cons.mpr ⟨lw_p36, List.forall_mem_cons.mpr ⟨lw_p37, List.forall_mem_cons.mpr ⟨lw_p38, List.forall_mem_cons.mpr ⟨lw_p39, List.forall_mem_cons.mpr ⟨lw_p40, List.forall_mem_cons.mpr ⟨lw_p41, List.forall_mem_cons.mpr ⟨lw_p42, List.forall_mem_cons.mpr ⟨lw_p43, List.forall_mem_cons.mpr ⟨lw_p44, List.forall_mem_cons.mpr ⟨lw_p45, List.forall_mem_cons.mpr ⟨lw_p46, fun _ h => absurd h List.not_mem_nil⟩⟩⟩⟩⟩⟩⟩⟩⟩⟩⟩⟩⟩⟩⟩
def lw_privs : List (MethodName × Nat) := lw_privs_1 ++ (lw_privs_2 ++ (lw_privs_3))
def lw_tbl : List Cond := k2_sels lw_privs ++ tables_1
theorem lw_privs_ok : ∀ q ∈ lw_privs, lw_okq q := by
  show ∀ q ∈ lw_privs_1 ++ (lw_privs_2 ++ (lw_privs_3)), lw_okq q
  exact List.forall_mem_append.mpr ⟨lw_r1, List.forall_mem_append.mpr ⟨lw_r2, lw_r3⟩⟩
-- ===== end of PART A; then your names; then what follows =====
end
section
/-! ===== BEGIN words of one list among another's, by their places ===== -/
theorem goodIn_r {big : List Cond} (ws : List Cond) (ps : List Nat) (hp : ws = ps.filterMap (fun i => big[i]?)) (h : ws.all goodWord = true) : GoodIn big ws := by
  intro w hw
  have h1 := List.all_eq_true.mp h w hw
  rw [hp] at hw
  obtain ⟨i, -, hi⟩ := List.mem_filterMap.mp hw
  have hm : w ∈ big := by first | exact List.mem_of_getElem? hi | exact List.getElem?_mem hi
  exact ⟨hm, good_of_word h1⟩
theorem goodIn_app {big a b : List Cond} (ha : GoodIn big a) (hb : GoodIn big b) : GoodIn big (a ++ b) := fun w h => (List.mem_append.mp h).elim (ha w) (hb w)
theorem goodIn_ca {big a b : List Cond} {c : Cond} (ha : GoodIn big (c :: a)) (hb : GoodIn big b) : GoodIn big (c :: (a ++ b)) := fun w h => (List.mem_cons.mp h).elim (fun e => ha w (List.mem_cons.mpr (Or.inl e))) (fun h => (List.mem_append.mp h).elim (fun h => ha w (List.mem_cons.mpr (Or.inr h))) (hb w))
theorem goodIn_sub {big ws : List Cond} (hm : ∀ w ∈ ws, w ∈ big) (h : ws.all goodWord = true) : GoodIn big ws := fun w hw => ⟨hm w hw, good_of_word (List.all_eq_true.mp h w hw)⟩
/-! ===== END ===== -/


/-! ===== BEGIN exceptions that leave a method, and their catching by the caller (launches without stack traces) ===== -/
section VXA
/-! The laws vx_back, vx_callV, vx_callS, vx_callSW, vx_throw0, vx_throwS follow proofs of the library, with one case more: JvmDerived/Free/Laws.lean (Back.of_free), Shelf42/LK1.lean (callV, callS), Shelf/KitTraced.lean (throwNew0V, throwNewS). -/
/-- where a method has thrown q: the class by its name, the cell, what was written, the world -/
def vx_T (XC : String → State → State → Prop) (st : State) (q : Addr) (t : State) (mc ms : Nat) (free : Addr → Prop) : Prop :=
  ∃ (E : String) (ce : Cell) (L : List Loc), XC E st t ∧ t.heap[q]? = some ce ∧ ce.vm = .none ∧ st.vm.findClass E = some ce.cls ∧ st.WarmedH t.vm ∧ st.sameButNew ({ t with vm := st.vm } : State) L mc ms ∧ ∀ z ∈ L, free z.base
def vx_Q (Qc : Array Value → State → Outcome → State → Prop) (XC : String → State → State → Prop) (mc ms : Nat) (free : Addr → Prop) : Array Value → State → Outcome → State → Prop := fun a st o t =>
  (Qc a st o t ∧ ∃ L, FrameEnd st o t L mc ms ∧ ∀ q ∈ L, free q.base) ∨ ∃ q, o = .threw q ∧ vx_T XC st q t mc ms free
/-- a callee that returns or throws -/
def vx_Met (l : Launch) (y : MethodName) (ws : List Cond) (rm : Room) (Pc : Array Value → State → Prop) (Qc : Array Value → State → Outcome → State → Prop) (XC : String → State → State → Prop) (mc ms : Nat) (free : Addr → Prop) : Prop :=
  MetFree l y (headSpec ws rm) Pc (fun _ _ _ _ _ => True) (vx_Q Qc XC mc ms free)
def vx_Post (XC : String → State → State → Prop) (mc ms : Nat) (free : Addr → Prop) : Pt → Array Value → Addr → Pt → Prop := fun A a q B =>
  ∃ (g : JFrame) (mk : MethodId) (t : State) (L : List Loc) (E : String) (ce : Cell), B.U.heap = t.heap ∧ B.U.vm = t.vm ∧ XC E (A.U.calling g mk a) t ∧ t.heap[q]? = some ce ∧ ce.vm = .none ∧ A.U.vm.findClass E = some ce.cls ∧ B.locs = A.locs ++ L ∧ (∀ z ∈ L, free z.base) ∧ B.cells = A.cells + mc ∧ B.slots = A.slots + ms
def vx_Back (l : Launch) (R : Room) (p : Program) (e : Env) (below : List Frame) (s : State) (sargs : Array Value) (y : MethodName) (len W9 : Nat)
    (Pre : Pt → Array Value → Prop) (Post : Pt → Array Value → Option Value → Pt → Prop) (PostX : Pt → Array Value → Addr → Pt → Prop) : Prop :=
  ∀ (m : MethodId) (meth : Method) (c : Code) (A : Pt) (g : JFrame) (ig : Instr) (mk : MethodId) (a : Array Value),
    Stand p l e R s m sargs below meth c A.U A.locs A.cells A.slots → g.method = m → g.locals.size = c.maxLocals → decode c.code g.pc = .ok (ig, len) →
    2 * g.monitorRoom + (g.stack.map fun v => v.category).sum ≤ W9 → A.U.methodNamed? y = some mk → Pre A a →
    (∃ (v : Option Value) (B : Pt), Stand p l e R s m sargs below meth c B.U B.locs B.cells B.slots ∧ Post A a v B ∧
      Steps p.tables e below (doInvoke e (A.U.setTop g) [] mk a).1 (B.U.setTop { g with pc := g.pc + len, stack := v.toList ++ g.stack })) ∨
    (∃ (q : Addr) (B : Pt), Stand p l e R s m sargs below meth c B.U B.locs B.cells B.slots ∧ PostX A a q B ∧
      Steps p.tables e below (doInvoke e (A.U.setTop g) [] mk a).1 ((B.U.setTop g).pushFrame (.throwing q)))
section Payer
variable {l : Launch} {R : Room} {p : Program} {e : Env} {below : List Frame} {s : State} {sargs : Array Value} {y : MethodName} {len W9 : Nat}
theorem vx_back {ws : List Cond} {rm : Room} {Pc : Array Value → State → Prop} {Qc : Array Value → State → Outcome → State → Prop} {XC : String → State → State → Prop} {mc ms : Nat} {free : Addr → Prop} {bytes : ByteArray} {maxL : Nat} {ret : Option FieldType}
    (hM : vx_Met l y ws rm Pc Qc XC mc ms free) (hblind : FrameBlind Pc) (hrc : rm.cells = mc) (hrs : rm.slots = ms)
    (hframes : rm.frames + 1 ≤ R.frames) (hlocals : W9 + (maxL + 11) + rm.locals ≤ R.locals)
    (hws : ∀ w ∈ ws, ∀ a' U, s.WarmedH U.vm → w.before a' U = true) (hcode : Cond.code y bytes maxL ret ∈ ws) (hinit : ∀ a' U, s.WarmedH U.vm → (Cond.initialized y.cls).before a' U = true) :
    vx_Back l R p e below s sargs y len W9 (PreOf R mc ms Pc) (PostOf Qc mc ms free) (vx_Post XC mc ms free) := by
  intro m meth c A g ig mk a X hg hsize hdg hW hn hp
  have h1 : (headSpec ws rm).pre.before a A.U = true := atoms_intro fun w hw => hws w hw _ _ X.warmed
  have h2 : (Cond.code y bytes maxL ret).before a A.U = true := hws _ hcode _ _ X.warmed
  have h3 : (Cond.initialized y.cls).before a A.U = true := hinit _ _ X.warmed
  have h4 : A.cells + (headSpec ws rm).room.cells ≤ R.cells := by rw [show (headSpec ws rm).room.cells = mc from hrc]; exact hp.1
  have h5 : A.slots + (headSpec ws rm).room.slots ≤ R.slots := by rw [show (headSpec ws rm).room.slots = ms from hrs]; exact hp.2.1
  have hPc : Pc a (A.U.calling g mk a) := hblind _ _ _ _ hp.2.2
  obtain ⟨U, Ls, c0, s0⟩ := A
  dsimp only [Pt.U, Pt.locs, Pt.cells, Pt.slots] at h1 h2 h3 h4 h5 X hn hPc ⊢
  obtain ⟨methY, cY, hmY, hcY, -, hlY, -, -, -, -⟩ := Cond.code_spec hn h2
  obtain ⟨kY, hkY, -⟩ := className_of_methodNamed hn
  have hinitY : kY.init = .initialized := Cond.initialized_spec (findClass_of_methodNamed hn) hkY h3
  have h : At U g.method c below := by rw [hg]; exact X.here
  have hlocals9 : W9 + (maxL + 11) + (headSpec ws rm).room.locals ≤ R.locals := hlocals
  have happ : (headSpec ws rm).appliesLoose y e.platform (U.calling g mk a) = true :=
    Spec.appliesLoose_calling (g := g) h hdg hn hkY hinitY
      (X.room_calling (g := g) (R' := (headSpec ws rm).room) hsize hmY hcY hframes (by rw [hlY]; omega) h4 h5) h1
  obtain ⟨mid, hmid⟩ := h.above
  have hfr : (U.setTop g).frames = (.java g :: mid) ++ below := by rw [State.frames_setTop' g h.top, hmid]; rfl
  obtain ⟨o, s₂, hsteps, -, hend, hq⟩ := Steps.callFree hM p X.admits X.cas X.clock (acts := []) hfr happ hPc trivial
  have hq' : vx_Q Qc XC mc ms free a (U.calling g mk a) o s₂ := hq
  rw [State.frames_setTop' g h.top] at hend
  obtain ⟨g₀, hg0⟩ := Option.isSome_iff_exists.mp h.top
  obtain ⟨r, hr⟩ := State.topJava?_eq_some.mp hg0
  have hr' : (({ U with heap := s₂.heap, slotsUsed := s₂.slotsUsed } : State).setVm s₂.vm).frames = .java g₀ :: r := hr
  rcases hq' with ⟨hqc, L, hfe, hL⟩ | ⟨q, rfl, E, ce, L, hx, hce, hcv, hcl, hW₂, hsm, hL⟩
  · obtain ⟨⟨v, rfl⟩, hW₂, e2, q2, q3, q4, q5, q6⟩ := id hfe
    have e3 : s₂ = ({ (U.calling g mk a).setFrames s₂.frames with heap := s₂.heap, slotsUsed := s₂.slotsUsed } : State).setVm s₂.vm := by
      have : s₂ = ({ s₂ with vm := (U.calling g mk a).vm } : State).setVm s₂.vm := rfl
      rw [e2] at this
      exact this
    obtain ⟨c₂, i₂, len₂, hc₂, hd₂, hf₂⟩ := hend
    have hW' : U.WarmedH s₂.vm := hW₂
    have hcc : c₂ = c := by
      have h1 : s₂.code? g.method = U.code? g.method := by
        rw [State.code?_eq, State.code?_eq, hW'.alike.method?]
      exact Option.some.inj (hc₂.symm.trans (h1.trans h.code))
    subst hcc
    have hlen : len₂ = len := by rw [hdg] at hd₂; cases hd₂; rfl
    subst hlen
    have hs₂ : s₂ = (({ U with heap := s₂.heap, slotsUsed := s₂.slotsUsed } : State).setVm s₂.vm).setTop { g with pc := g.pc + len₂, stack := v.toList ++ g.stack } := by
      refine e3.trans ?_
      rw [hf₂, State.calling_eq h.top, State.setFrames_setFrames, State.setTop_of_frames _ hr', hr]
      rfl
    have hsame : U.sameButNew ({ U with heap := s₂.heap, slotsUsed := s₂.slotsUsed } : State) L mc ms := by
      refine ⟨?_, q2, q3, q4, q5, q6⟩
      obtain ⟨t, ht, -⟩ := State.frames_cons hr
      show ({ U with heap := s₂.heap, slotsUsed := s₂.slotsUsed } : State) = { U.setFrames U.frames with heap := s₂.heap, slotsUsed := s₂.slotsUsed }
      rw [State.setFrames_self ht]
    subst hg
    refine Or.inl ⟨v, ⟨(({ U with heap := s₂.heap, slotsUsed := s₂.slotsUsed } : State).setVm s₂.vm), Ls ++ L, c0 + mc, s0 + ms⟩,
      ⟨X.admits, X.cas, X.clock, X.frames, X.room, X.hears, X.method, X.code, (X.here.setHeapUsed s₂.heap s₂.slotsUsed).setVm hW'.alike, X.tail, State.WarmedH.trans X.warmed hW', X.limits, X.bytes, X.same.trans (hsame.setVm s.vm)⟩,
      ⟨g, mk, s₂, L, rfl, rfl, hqc, rfl, hL, rfl, rfl⟩, ?_⟩
    show Steps p.tables e below _ ((({ U with heap := s₂.heap, slotsUsed := s₂.slotsUsed } : State).setVm s₂.vm).setTop { g with pc := g.pc + len₂, stack := v.toList ++ g.stack })
    rw [← hs₂]
    exact hsteps
  · obtain ⟨e2, q2, q3, q4, q5, q6⟩ := id hsm
    have e3 : s₂ = ({ (U.calling g mk a).setFrames s₂.frames with heap := s₂.heap, slotsUsed := s₂.slotsUsed } : State).setVm s₂.vm := by
      have : s₂ = ({ s₂ with vm := (U.calling g mk a).vm } : State).setVm s₂.vm := rfl
      rw [e2] at this
      exact this
    have hf₂ : s₂.frames = .throwing q :: .java g :: U.frames.tail := hend
    have hW' : U.WarmedH s₂.vm := hW₂
    have hs₂ : s₂ = ((({ U with heap := s₂.heap, slotsUsed := s₂.slotsUsed } : State).setVm s₂.vm).setTop g).pushFrame (.throwing q) := by
      refine e3.trans ?_
      rw [hf₂, State.calling_eq h.top, State.setFrames_setFrames, State.pushFrame, State.frames_setTop _ hr', State.setTop_of_frames _ hr', State.setFrames_setFrames, hr]
      rfl
    have hsame : U.sameButNew ({ U with heap := s₂.heap, slotsUsed := s₂.slotsUsed } : State) L mc ms := by
      refine ⟨?_, q2, q3, q4, q5, q6⟩
      obtain ⟨t, ht, -⟩ := State.frames_cons hr
      show ({ U with heap := s₂.heap, slotsUsed := s₂.slotsUsed } : State) = { U.setFrames U.frames with heap := s₂.heap, slotsUsed := s₂.slotsUsed }
      rw [State.setFrames_self ht]
    subst hg
    refine Or.inr ⟨q, ⟨(({ U with heap := s₂.heap, slotsUsed := s₂.slotsUsed } : State).setVm s₂.vm), Ls ++ L, c0 + mc, s0 + ms⟩,
      ⟨X.admits, X.cas, X.clock, X.frames, X.room, X.hears, X.method, X.code, (X.here.setHeapUsed s₂.heap s₂.slotsUsed).setVm hW'.alike, X.tail, State.WarmedH.trans X.warmed hW', X.limits, X.bytes, X.same.trans (hsame.setVm s.vm)⟩,
      ⟨g, mk, s₂, L, E, ce, rfl, rfl, hx, hce, hcv, hcl, rfl, hL, rfl, rfl⟩, ?_⟩
    show Steps p.tables e below _ (((({ U with heap := s₂.heap, slotsUsed := s₂.slotsUsed } : State).setVm s₂.vm).setTop g).pushFrame (.throwing q))
    rw [← hs₂]
    exact hsteps
end Payer
section Calls
variable {p : Program} {l : Launch} {e : Env} {R : Room} {s : State} {m : MethodId} {args : Array Value} {below : List Frame} {meth : Method} {c : Code} {T : State} {locs : List Loc} {cells slots : Nat}
theorem vx_callV (X : Stand p l e R s m args below meth c T locs cells slots) (hexec : p.tables.exec = Jvm.exec) {own C : String} {index : Nat} {y : MethodName} {bytes : ByteArray} {maxL : Nat} {ret : Option FieldType}
    (hown : s.vm.findClass own = some m.cls) (hlink : (Cond.methodLink own index y).before args s = true) (hinst : (Cond.instanceMethod y).before args s = true) (hsel : (Cond.selects C y y).before args s = true)
    (hcode : (Cond.code y bytes maxL ret).before args s = true) (hy : y.cls ≠ "java/lang/invoke/MethodHandle" ∧ y.cls ≠ "java/lang/invoke/VarHandle")
    {W9 : Nat} {Pre : Pt → Array Value → Prop} {Post : Pt → Array Value → Option Value → Pt → Prop} {PostX : Pt → Array Value → Addr → Pt → Prop} (hK : vx_Back l R p e below s args y 3 W9 Pre Post PostX)
    {b : Addr} {cellB : Cell} (hcell : T.heap[b]? = some cellB) (hobj : cellB.vm.isStatics = false) (hcls : s.vm.findClass C = some cellB.cls)
    {g : JFrame} (hg : g.method = m) (hsize : g.locals.size = c.maxLocals) {argsL rest : List Value} (hlen : ∀ sig, parseMethodDescriptor y.desc = some sig → argsL.length = sig.parameters.length)
    (hstack : g.stack = argsL.reverse ++ .ref b :: rest) (hW : 2 * g.monitorRoom + (rest.map fun v => v.category).sum ≤ W9) (hdg : decode c.code g.pc = .ok (.invokevirtual index, 3))
    (hpre : ∀ vm₁, s.WarmedH vm₁ → Pre ⟨T.setVm vm₁, locs, cells, slots⟩ (Value.ref b :: argsL).toArray) :
    (∃ (v : Option Value) (vm₁ : Vm) (B : Pt), s.WarmedH vm₁ ∧ Stand p l e R s m args below meth c B.U B.locs B.cells B.slots ∧ Post ⟨T.setVm vm₁, locs, cells, slots⟩ (Value.ref b :: argsL).toArray v B ∧
      ∀ target, Steps p.tables e below (B.U.setTop { g with pc := g.pc + 3, stack := v.toList ++ rest }) target → Steps p.tables e below (T.setTop g) target) ∨
    (∃ (q : Addr) (vm₁ : Vm) (B : Pt), s.WarmedH vm₁ ∧ Stand p l e R s m args below meth c B.U B.locs B.cells B.slots ∧ PostX ⟨T.setVm vm₁, locs, cells, slots⟩ (Value.ref b :: argsL).toArray q B ∧
      Steps p.tables e below (T.setTop g) ((B.U.setTop { g with stack := rest }).pushFrame (.throwing q))) := by
  obtain ⟨mk, methM, hnamed, hmethM, hstM, habM⟩ := Cond.instanceMethod_spec hinst
  obtain ⟨methM', cM, hmethM', -, -, -, -, -, -, hsigM⟩ := Cond.code_spec hnamed hcode
  cases hmethM.symm.trans hmethM'
  obtain ⟨c2, r2, m2, q1, q2, q3, q4, kP, hkP, hkPi⟩ := Cond.selects_spec hsel
  cases hcls.symm.trans q1
  cases (State.methodFound?_of_named hnamed hy).symm.trans q2
  cases hnamed.symm.trans q3
  have hselP : selectMethod e.platform s.vm cellB.cls mk = .method mk := by rw [Launch.admits_selectMethod X.admits]; exact q4
  obtain ⟨vm₁, X₁, hstep₁⟩ := X.invokevirtual hexec hown hlink hnamed hmethM hstM hkP hkPi hy (a := b) (cell := cellB) hcell
    (fun z h => by rw [h] at hobj; cases hobj) hselP hmethM habM hkP hkPi (g := g) hg (argsL := argsL) (rest := rest) (hlen _ hsigM) hstack hdg
  rcases hK m meth c ⟨T.setVm vm₁, locs, cells, slots⟩ { g with stack := rest } (.invokevirtual index) mk (Value.ref b :: argsL).toArray X₁ hg hsize hdg hW (X₁.named hnamed) (hpre vm₁ X₁.warmed) with ⟨v, B, X', hpost, hsteps⟩ | ⟨q, B, X', hpost, hsteps⟩
  · exact Or.inl ⟨v, vm₁, B, X₁.warmed, X', hpost, fun target h => hstep₁ _ fun acts => by rw [doInvoke_state]; exact hsteps.trans h⟩
  · exact Or.inr ⟨q, vm₁, B, X₁.warmed, X', hpost, hstep₁ _ fun acts => by rw [doInvoke_state]; exact hsteps⟩
theorem vx_callS (X : Stand p l e R s m args below meth c T locs cells slots) (hexec : p.tables.exec = Jvm.exec) {own : String} {index : Nat} {y : MethodName} {bytes : ByteArray} {maxL : Nat} {ret : Option FieldType}
    (hown : s.vm.findClass own = some m.cls) (hlink : (Cond.methodLink own index y).before args s = true) (hstat : (Cond.static y).before args s = true) (hinit : (Cond.initialized y.cls).before args s = true)
    (hcode : (Cond.code y bytes maxL ret).before args s = true) (hy : y.cls ≠ "java/lang/invoke/MethodHandle" ∧ y.cls ≠ "java/lang/invoke/VarHandle")
    {W9 : Nat} {Pre : Pt → Array Value → Prop} {Post : Pt → Array Value → Option Value → Pt → Prop} {PostX : Pt → Array Value → Addr → Pt → Prop} (hK : vx_Back l R p e below s args y 3 W9 Pre Post PostX)
    {g : JFrame} (hg : g.method = m) (hsize : g.locals.size = c.maxLocals) {argsL rest : List Value} (hlen : ∀ sig, parseMethodDescriptor y.desc = some sig → argsL.length = sig.parameters.length)
    (hstack : g.stack = argsL.reverse ++ rest) (hW : 2 * g.monitorRoom + (rest.map fun v => v.category).sum ≤ W9) (hdg : decode c.code g.pc = .ok (.invokestatic index, 3))
    (hpre : ∀ vm₁, s.WarmedH vm₁ → Pre ⟨T.setVm vm₁, locs, cells, slots⟩ argsL.toArray) :
    (∃ (v : Option Value) (vm₁ : Vm) (B : Pt), s.WarmedH vm₁ ∧ Stand p l e R s m args below meth c B.U B.locs B.cells B.slots ∧ Post ⟨T.setVm vm₁, locs, cells, slots⟩ argsL.toArray v B ∧
      ∀ target, Steps p.tables e below (B.U.setTop { g with pc := g.pc + 3, stack := v.toList ++ rest }) target → Steps p.tables e below (T.setTop g) target) ∨
    (∃ (q : Addr) (vm₁ : Vm) (B : Pt), s.WarmedH vm₁ ∧ Stand p l e R s m args below meth c B.U B.locs B.cells B.slots ∧ PostX ⟨T.setVm vm₁, locs, cells, slots⟩ argsL.toArray q B ∧
      Steps p.tables e below (T.setTop g) ((B.U.setTop { g with stack := rest }).pushFrame (.throwing q))) := by
  obtain ⟨mk, hnamed⟩ := Cond.code_named hcode
  obtain ⟨methM, cM, hmethM, -, -, -, -, -, -, hsigM⟩ := Cond.code_spec hnamed hcode
  have hstatic : methM.isStatic = true := Cond.static_spec hnamed hmethM hstat
  obtain ⟨kP, hkP, -⟩ := className_of_methodNamed hnamed
  have hinitP : kP.init = .initialized := Cond.initialized_spec (findClass_of_methodNamed hnamed) hkP hinit
  obtain ⟨vm₁, X₁, hstep₁⟩ := X.invokestatic hexec hown hlink hnamed hmethM hstatic hkP hinitP hy (g := g) hg (argsL := argsL) (rest := rest) (hlen _ hsigM) hstack hdg
  rcases hK m meth c ⟨T.setVm vm₁, locs, cells, slots⟩ { g with stack := rest } (.invokestatic index) mk argsL.toArray X₁ hg hsize hdg hW (X₁.named hnamed) (hpre vm₁ X₁.warmed) with ⟨v, B, X', hpost, hsteps⟩ | ⟨q, B, X', hpost, hsteps⟩
  · exact Or.inl ⟨v, vm₁, B, X₁.warmed, X', hpost, fun target h => hstep₁ _ fun acts => by rw [doInvoke_state]; exact hsteps.trans h⟩
  · exact Or.inr ⟨q, vm₁, B, X₁.warmed, X', hpost, hstep₁ _ fun acts => by rw [doInvoke_state]; exact hsteps⟩
end Calls
theorem vx_cls {s : State} {T : State} {vm₁ : Vm} {E : String} {k : ClassId} (hW : s.WarmedH vm₁) (h : (T.setVm vm₁).vm.findClass E = some k) : s.vm.findClass E = some k := by
  have h1 : vm₁.findClass E = some k := h
  rw [hW.alike.findClass] at h1
  exact h1
/-- the method's frame g, with q thrown over it -/
def vx_W (p : Program) (l : Launch) (e : Env) (R : Room) (s : State) (m : MethodId) (args : Array Value) (below : List Frame) (meth : Method) (c : Code) (H : Heap) (locs : List Loc) (cells slots : Nat) (Q : State → Prop) (g : JFrame) (q : Addr) : Prop :=
  ∀ T : State, T.heap = H → Stand p l e R s m args below meth c T locs cells slots → ∃ t, Steps p.tables e below ((T.setTop g).pushFrame (.throwing q)) t ∧ Q t
def vx_Run (p : Program) (l : Launch) (e : Env) (R : Room) (s : State) (m : MethodId) (args : Array Value) (below : List Frame) (meth : Method) (c : Code) (H : Heap) (locs : List Loc) (cells slots mc ms : Nat) (g : JFrame) (rest : List Value) (Qa : State → Outcome → State → Prop) (XC : String → State → State → Prop) (free : Addr → Prop) : Prop :=
  ∀ T : State, T.heap = H → Stand p l e R s m args below meth c T locs cells slots →
    (∃ (v : Option Value) (st₀ t T' : State) (L : List Loc), st₀.heap = H ∧ Stand p l e R s m args below meth c T' (locs ++ L) (cells + mc) (slots + ms) ∧ (∀ q ∈ L, free q.base) ∧ T'.heap = t.heap ∧ T'.vm = t.vm ∧ Qa st₀ (.returned v) t ∧
      Goes p e below T g T' { g with pc := g.pc + 3, stack := v.toList ++ rest }) ∨
    (∃ (q : Addr) (st₀ t T' : State) (L : List Loc) (E : String) (ce : Cell), st₀.heap = H ∧ Stand p l e R s m args below meth c T' (locs ++ L) (cells + mc) (slots + ms) ∧ (∀ z ∈ L, free z.base) ∧ T'.heap = t.heap ∧ T'.vm = t.vm ∧ XC E st₀ t ∧ t.heap[q]? = some ce ∧ ce.vm = .none ∧ s.vm.findClass E = some ce.cls ∧
      Steps p.tables e below (T.setTop g) ((T'.setTop { g with stack := rest }).pushFrame (.throwing q)))
def vx_X {S : Type} (px : S → Prop) (B : String → S → State → Prop) (A : Nat → Prop) : String → State → State → Prop := fun E st t => ∃ u : S, px u ∧ B E u t ∧ va_F A st t
section Runs
variable {p : Program} {l : Launch} {e : Env} {R : Room} {s : State} {m : MethodId} {args : Array Value} {below : List Frame} {meth : Method} {c : Code} {H : Heap} {locs : List Loc} {cells slots : Nat}
variable {y : MethodName} {bytes cc : ByteArray} {maxL nL mc ms n index : Nat} {ret : Option FieldType} {ws : List Cond} {rm : Room} {Pc : Array Value → State → Prop} {Qc : Array Value → State → Outcome → State → Prop} {XC : String → State → State → Prop} {free : Addr → Prop} {Ts : List Cond} {own C : String} {b : Addr} {As rest : List Value} {g : JFrame}
theorem vx_callBack (cb : CallB R s args own index y bytes maxL ret ws rm mc ms n) (hM : vx_Met l y ws rm Pc Qc XC mc ms free) (hbl : FrameBlind Pc) : vx_Back l R p e below s args y 3 8 (PreOf R mc ms Pc) (PostOf Qc mc ms free) (vx_Post XC mc ms free) := by
  obtain ⟨hrc, hrs, hfr, hlo, hws, hcw, -, hini, -⟩ := cb
  exact vx_back (bytes := bytes) (maxL := maxL) (ret := ret) hM hbl hrc hrs hfr hlo hws hcw (fun a' U hW => word_at hW (Or.inl (by first | rfl | simp [Cond.onTables, Cond.keeps, Cond.steady])) hini)
theorem vx_runV (S : CallFix p m c cc nL s args Ts own) (hM : vx_Met l y ws rm Pc Qc XC mc ms free) (cw : CallW R s args own C index y bytes maxL ret ws rm mc ms n) (hp : PreV s H C b Pc As)
    (hg : g.method = m) (hn : As.length = n) (hsize : g.locals.size = nL) (hstack : g.stack = As.reverse ++ .ref b :: rest) (hW : 2 * g.monitorRoom + (rest.map fun v => v.category).sum ≤ 8) (hdg : decode cc g.pc = .ok (.invokevirtual index, 3)) (hf : cells + mc ≤ R.cells ∧ slots + ms ≤ R.slots) :
    vx_Run p l e R s m args below meth c H locs cells slots mc ms g rest (Qc (Value.ref b :: As).toArray) XC free := by
  have hK : vx_Back l R p e below s args y 3 8 (PreOf R mc ms Pc) (PostOf Qc mc ms free) (vx_Post XC mc ms free) := vx_callBack cw.1 hM hp.1
  obtain ⟨⟨-, -, -, -, -, -, hcode, -, hy, hlen, hl⟩, hin, hse⟩ := cw
  obtain ⟨hx, hb, hml, ho, -⟩ := S
  obtain ⟨-, ⟨cellB, hcB, hoB, hclB⟩, hPc⟩ := hp
  intro T hT X
  rcases vx_callV X hx (C := C) (bytes := bytes) (maxL := maxL) (ret := ret) ho hl hin hse hcode hy hK (by rw [hT]; exact hcB) hoB hclB hg (hsize.trans hml.symm) (argsL := As) (rest := rest) (fun sig h => hn.trans (hlen sig h)) hstack hW (by rw [hb]; exact hdg)
    (fun vm₁ hW₁ => ⟨hf.1, hf.2, hPc (T.setVm vm₁) hT hW₁⟩) with ⟨v, vm₁, ⟨U', l2, c2, s2⟩, hW₁, X', ⟨g', mk, t, L, e1, e2, hq, h1, hL, h2, h3⟩, st⟩ | ⟨q, vm₁, ⟨U', l2, c2, s2⟩, hW₁, X', ⟨g', mk, t, L, E, ce, e1, e2, hq, hce, hcv, hcl, h1, hL, h2, h3⟩, st⟩
  · dsimp only [Pt.U, Pt.locs, Pt.cells, Pt.slots] at X' e1 e2 h1 h2 h3 st
    subst h1; subst h2; subst h3
    exact Or.inl ⟨v, (T.setVm vm₁).calling g' mk (Value.ref b :: As).toArray, t, U', L, hT, X', hL, e1, e2, hq, st⟩
  · dsimp only [Pt.U, Pt.locs, Pt.cells, Pt.slots] at X' e1 e2 h1 h2 h3 st hcl
    subst h1; subst h2; subst h3
    exact Or.inr ⟨q, (T.setVm vm₁).calling g' mk (Value.ref b :: As).toArray, t, U', L, E, ce, hT, X', hL, e1, e2, hq, hce, hcv, vx_cls hW₁ hcl, st⟩
theorem vx_runS (S : CallFix p m c cc nL s args Ts own) (hM : vx_Met l y ws rm Pc Qc XC mc ms free) (cw : CallB R s args own index y bytes maxL ret ws rm mc ms n ∧ (Cond.static y).before args s = true) (hp : PreS s H Pc As)
    (hg : g.method = m) (hn : As.length = n) (hsize : g.locals.size = nL) (hstack : g.stack = As.reverse ++ rest) (hW : 2 * g.monitorRoom + (rest.map fun v => v.category).sum ≤ 8) (hdg : decode cc g.pc = .ok (.invokestatic index, 3)) (hf : cells + mc ≤ R.cells ∧ slots + ms ≤ R.slots) :
    vx_Run p l e R s m args below meth c H locs cells slots mc ms g rest (Qc As.toArray) XC free := by
  have hK : vx_Back l R p e below s args y 3 8 (PreOf R mc ms Pc) (PostOf Qc mc ms free) (vx_Post XC mc ms free) := vx_callBack cw.1 hM hp.1
  obtain ⟨⟨-, -, -, -, -, -, hcode, hini, hy, hlen, hl⟩, hstt⟩ := cw
  obtain ⟨hx, hb, hml, ho, -⟩ := S
  intro T hT X
  rcases vx_callS X hx (bytes := bytes) (maxL := maxL) (ret := ret) ho hl hstt hini hcode hy hK hg (hsize.trans hml.symm) (argsL := As) (rest := rest) (fun sig h => hn.trans (hlen sig h)) hstack hW (by rw [hb]; exact hdg)
    (fun vm₁ hW₁ => ⟨hf.1, hf.2, hp.2 (T.setVm vm₁) hT hW₁⟩) with ⟨v, vm₁, ⟨U', l2, c2, s2⟩, hW₁, X', ⟨g', mk, t, L, e1, e2, hq, h1, hL, h2, h3⟩, st⟩ | ⟨q, vm₁, ⟨U', l2, c2, s2⟩, hW₁, X', ⟨g', mk, t, L, E, ce, e1, e2, hq, hce, hcv, hcl, h1, hL, h2, h3⟩, st⟩
  · dsimp only [Pt.U, Pt.locs, Pt.cells, Pt.slots] at X' e1 e2 h1 h2 h3 st
    subst h1; subst h2; subst h3
    exact Or.inl ⟨v, (T.setVm vm₁).calling g' mk As.toArray, t, U', L, hT, X', hL, e1, e2, hq, st⟩
  · dsimp only [Pt.U, Pt.locs, Pt.cells, Pt.slots] at X' e1 e2 h1 h2 h3 st hcl
    subst h1; subst h2; subst h3
    exact Or.inr ⟨q, (T.setVm vm₁).calling g' mk As.toArray, t, U', L, E, ce, hT, X', hL, e1, e2, hq, hce, hcv, vx_cls hW₁ hcl, st⟩
end Runs
section Rows
variable {p : Program} {l : Launch} {e : Env} {R : Room} {s : State} {m : MethodId} {args : Array Value} {below : List Frame} {meth : Method} {c : Code} {H : Heap} {locs : List Loc} {cells slots : Nat} {Q : State → Prop}
variable {mc ms : Nat} {free : Addr → Prop} {A0 A1 : Nat → Prop} {H0 : Heap} {a : Array Value} {pc : Nat} {ls : Array Slot} {st0 rest : List Value}
theorem vx_keep {st₀ t T' : State} {L : List Loc} (h0 : st₀.heap = H) (e1 : T'.heap = t.heap) (hS : va_S A0 H0 H locs) (hA : ∀ q, q < H.size → A1 q → A0 q) (hf : ∀ q, free q → A0 q) (hL : ∀ q ∈ L, free q.base) (hF : va_F A1 st₀ t) :
    H.size ≤ T'.heap.size ∧ (∀ q : Nat, q < H.size → ¬ A1 q → T'.heap[q]? = H[q]?) ∧ va_S A0 H0 T'.heap (locs ++ L) := by
  obtain ⟨hz, hk⟩ := hF
  rw [h0] at hz hk
  exact ⟨by rw [e1]; exact hz, fun q h1 h2 => by rw [e1]; exact hk q h1 h2,
    ⟨Nat.le_trans hS.1 (by rw [e1]; exact hz), fun q h1 h2 => by rw [e1, hk q (Nat.lt_of_lt_of_le h1 hS.1) (fun z => h2 (hA q (Nat.lt_of_lt_of_le h1 hS.1) z))]; exact hS.2.1 q h1 h2, fun q hq => by
      rcases List.mem_append.mp hq with h | h
      · exact hS.2.2 q h
      · exact hf _ (hL q h)⟩⟩
theorem vx_calli {S SX : Type} {post : Int32 → S → Prop} {px : SX → Prop} {B : S → State → Prop} {BX : String → SX → State → Prop} {AX : Nat → Prop} (hr : vx_Run p l e R s m args below meth c H locs cells slots mc ms (F0 m pc ls st0) rest (va_Qi post B A1 a) (vx_X px BX AX) free) (hS : va_S A0 H0 H locs) (hA : ∀ q, q < H.size → A1 q → A0 q) (hf : ∀ q, free q → A0 q) (hAX : ∀ q, q < H.size → AX q → A0 q)
    (kx : ∀ (E : String) (ce : Cell) (q9 : Addr) (u : SX) (t : State) (H1 : Heap) (locs1 : List Loc), t.heap = H1 → s.vm.Alike t.vm → px u → BX E u t → H.size ≤ H1.size → (∀ q : Nat, q < H.size → ¬ AX q → H1[q]? = H[q]?) → va_S A0 H0 H1 locs1 → H1[q9]? = some ce → ce.vm = .none → s.vm.findClass E = some ce.cls → vx_W p l e R s m args below meth c H1 locs1 (cells + mc) (slots + ms) Q (F0 m pc ls rest) q9)
    (kk : ∀ (r : Int32) (u : S) (t : State) (H1 : Heap) (locs1 : List Loc), t.heap = H1 → s.vm.Alike t.vm → post r u → B u t → H.size ≤ H1.size → (∀ q : Nat, q < H.size → ¬ A1 q → H1[q]? = H[q]?) → va_S A0 H0 H1 locs1 → W p l e R s m args below meth c H1 locs1 (cells + mc) (slots + ms) Q (F0 m (pc + 3) ls (.int r :: rest))) : W p l e R s m args below meth c H locs cells slots Q (F0 m pc ls st0) := by
  intro T hT X
  rcases hr T hT X with ⟨v, st₀, t, T', L, h0, X', hL, e1, e2, ⟨⟨r, u, hv, hp, hb⟩, hF⟩, st⟩ | ⟨q, st₀, t, T', L, E, ce, h0, X', hL, e1, e2, ⟨u, hp, hb, hF⟩, hce, hcv, hcl, st⟩
  · cases hv
    obtain ⟨k1, k2, k3⟩ := vx_keep h0 e1 hS hA hf hL hF
    obtain ⟨t2, a1, b1⟩ := kk r u t T'.heap (locs ++ L) e1.symm (by rw [← e2]; exact X'.warmed.alike) hp hb k1 k2 k3 T' rfl X'
    exact ⟨t2, st t2 a1, b1⟩
  · obtain ⟨k1, k2, k3⟩ := vx_keep h0 e1 hS hAX hf hL hF
    obtain ⟨t2, a1, b1⟩ := kx E ce q u t T'.heap (locs ++ L) e1.symm (by rw [← e2]; exact X'.warmed.alike) hp hb k1 k2 k3 (by rw [e1]; exact hce) hcv hcl T' rfl X'
    exact ⟨t2, st.trans a1, b1⟩
theorem vx_calll {S SX : Type} {post : Int64 → S → Prop} {px : SX → Prop} {B : S → State → Prop} {BX : String → SX → State → Prop} {AX : Nat → Prop} (hr : vx_Run p l e R s m args below meth c H locs cells slots mc ms (F0 m pc ls st0) rest (va_Ql post B A1 a) (vx_X px BX AX) free) (hS : va_S A0 H0 H locs) (hA : ∀ q, q < H.size → A1 q → A0 q) (hf : ∀ q, free q → A0 q) (hAX : ∀ q, q < H.size → AX q → A0 q)
    (kx : ∀ (E : String) (ce : Cell) (q9 : Addr) (u : SX) (t : State) (H1 : Heap) (locs1 : List Loc), t.heap = H1 → s.vm.Alike t.vm → px u → BX E u t → H.size ≤ H1.size → (∀ q : Nat, q < H.size → ¬ AX q → H1[q]? = H[q]?) → va_S A0 H0 H1 locs1 → H1[q9]? = some ce → ce.vm = .none → s.vm.findClass E = some ce.cls → vx_W p l e R s m args below meth c H1 locs1 (cells + mc) (slots + ms) Q (F0 m pc ls rest) q9)
    (kk : ∀ (r : Int64) (u : S) (t : State) (H1 : Heap) (locs1 : List Loc), t.heap = H1 → s.vm.Alike t.vm → post r u → B u t → H.size ≤ H1.size → (∀ q : Nat, q < H.size → ¬ A1 q → H1[q]? = H[q]?) → va_S A0 H0 H1 locs1 → W p l e R s m args below meth c H1 locs1 (cells + mc) (slots + ms) Q (F0 m (pc + 3) ls (.long r :: rest))) : W p l e R s m args below meth c H locs cells slots Q (F0 m pc ls st0) := by
  intro T hT X
  rcases hr T hT X with ⟨v, st₀, t, T', L, h0, X', hL, e1, e2, ⟨⟨r, u, hv, hp, hb⟩, hF⟩, st⟩ | ⟨q, st₀, t, T', L, E, ce, h0, X', hL, e1, e2, ⟨u, hp, hb, hF⟩, hce, hcv, hcl, st⟩
  · cases hv
    obtain ⟨k1, k2, k3⟩ := vx_keep h0 e1 hS hA hf hL hF
    obtain ⟨t2, a1, b1⟩ := kk r u t T'.heap (locs ++ L) e1.symm (by rw [← e2]; exact X'.warmed.alike) hp hb k1 k2 k3 T' rfl X'
    exact ⟨t2, st t2 a1, b1⟩
  · obtain ⟨k1, k2, k3⟩ := vx_keep h0 e1 hS hAX hf hL hF
    obtain ⟨t2, a1, b1⟩ := kx E ce q u t T'.heap (locs ++ L) e1.symm (by rw [← e2]; exact X'.warmed.alike) hp hb k1 k2 k3 (by rw [e1]; exact hce) hcv hcl T' rfl X'
    exact ⟨t2, st.trans a1, b1⟩
theorem vx_callf {S SX : Type} {post : UInt32 → S → Prop} {px : SX → Prop} {B : S → State → Prop} {BX : String → SX → State → Prop} {AX : Nat → Prop} (hr : vx_Run p l e R s m args below meth c H locs cells slots mc ms (F0 m pc ls st0) rest (va_Qf post B A1 a) (vx_X px BX AX) free) (hS : va_S A0 H0 H locs) (hA : ∀ q, q < H.size → A1 q → A0 q) (hf : ∀ q, free q → A0 q) (hAX : ∀ q, q < H.size → AX q → A0 q)
    (kx : ∀ (E : String) (ce : Cell) (q9 : Addr) (u : SX) (t : State) (H1 : Heap) (locs1 : List Loc), t.heap = H1 → s.vm.Alike t.vm → px u → BX E u t → H.size ≤ H1.size → (∀ q : Nat, q < H.size → ¬ AX q → H1[q]? = H[q]?) → va_S A0 H0 H1 locs1 → H1[q9]? = some ce → ce.vm = .none → s.vm.findClass E = some ce.cls → vx_W p l e R s m args below meth c H1 locs1 (cells + mc) (slots + ms) Q (F0 m pc ls rest) q9)
    (kk : ∀ (r : UInt32) (u : S) (t : State) (H1 : Heap) (locs1 : List Loc), t.heap = H1 → s.vm.Alike t.vm → post r u → B u t → H.size ≤ H1.size → (∀ q : Nat, q < H.size → ¬ A1 q → H1[q]? = H[q]?) → va_S A0 H0 H1 locs1 → W p l e R s m args below meth c H1 locs1 (cells + mc) (slots + ms) Q (F0 m (pc + 3) ls (.float r :: rest))) : W p l e R s m args below meth c H locs cells slots Q (F0 m pc ls st0) := by
  intro T hT X
  rcases hr T hT X with ⟨v, st₀, t, T', L, h0, X', hL, e1, e2, ⟨⟨r, u, hv, hp, hb⟩, hF⟩, st⟩ | ⟨q, st₀, t, T', L, E, ce, h0, X', hL, e1, e2, ⟨u, hp, hb, hF⟩, hce, hcv, hcl, st⟩
  · cases hv
    obtain ⟨k1, k2, k3⟩ := vx_keep h0 e1 hS hA hf hL hF
    obtain ⟨t2, a1, b1⟩ := kk r u t T'.heap (locs ++ L) e1.symm (by rw [← e2]; exact X'.warmed.alike) hp hb k1 k2 k3 T' rfl X'
    exact ⟨t2, st t2 a1, b1⟩
  · obtain ⟨k1, k2, k3⟩ := vx_keep h0 e1 hS hAX hf hL hF
    obtain ⟨t2, a1, b1⟩ := kx E ce q u t T'.heap (locs ++ L) e1.symm (by rw [← e2]; exact X'.warmed.alike) hp hb k1 k2 k3 (by rw [e1]; exact hce) hcv hcl T' rfl X'
    exact ⟨t2, st.trans a1, b1⟩
theorem vx_calld {S SX : Type} {post : UInt64 → S → Prop} {px : SX → Prop} {B : S → State → Prop} {BX : String → SX → State → Prop} {AX : Nat → Prop} (hr : vx_Run p l e R s m args below meth c H locs cells slots mc ms (F0 m pc ls st0) rest (va_Qd post B A1 a) (vx_X px BX AX) free) (hS : va_S A0 H0 H locs) (hA : ∀ q, q < H.size → A1 q → A0 q) (hf : ∀ q, free q → A0 q) (hAX : ∀ q, q < H.size → AX q → A0 q)
    (kx : ∀ (E : String) (ce : Cell) (q9 : Addr) (u : SX) (t : State) (H1 : Heap) (locs1 : List Loc), t.heap = H1 → s.vm.Alike t.vm → px u → BX E u t → H.size ≤ H1.size → (∀ q : Nat, q < H.size → ¬ AX q → H1[q]? = H[q]?) → va_S A0 H0 H1 locs1 → H1[q9]? = some ce → ce.vm = .none → s.vm.findClass E = some ce.cls → vx_W p l e R s m args below meth c H1 locs1 (cells + mc) (slots + ms) Q (F0 m pc ls rest) q9)
    (kk : ∀ (r : UInt64) (u : S) (t : State) (H1 : Heap) (locs1 : List Loc), t.heap = H1 → s.vm.Alike t.vm → post r u → B u t → H.size ≤ H1.size → (∀ q : Nat, q < H.size → ¬ A1 q → H1[q]? = H[q]?) → va_S A0 H0 H1 locs1 → W p l e R s m args below meth c H1 locs1 (cells + mc) (slots + ms) Q (F0 m (pc + 3) ls (.double r :: rest))) : W p l e R s m args below meth c H locs cells slots Q (F0 m pc ls st0) := by
  intro T hT X
  rcases hr T hT X with ⟨v, st₀, t, T', L, h0, X', hL, e1, e2, ⟨⟨r, u, hv, hp, hb⟩, hF⟩, st⟩ | ⟨q, st₀, t, T', L, E, ce, h0, X', hL, e1, e2, ⟨u, hp, hb, hF⟩, hce, hcv, hcl, st⟩
  · cases hv
    obtain ⟨k1, k2, k3⟩ := vx_keep h0 e1 hS hA hf hL hF
    obtain ⟨t2, a1, b1⟩ := kk r u t T'.heap (locs ++ L) e1.symm (by rw [← e2]; exact X'.warmed.alike) hp hb k1 k2 k3 T' rfl X'
    exact ⟨t2, st t2 a1, b1⟩
  · obtain ⟨k1, k2, k3⟩ := vx_keep h0 e1 hS hAX hf hL hF
    obtain ⟨t2, a1, b1⟩ := kx E ce q u t T'.heap (locs ++ L) e1.symm (by rw [← e2]; exact X'.warmed.alike) hp hb k1 k2 k3 (by rw [e1]; exact hce) hcv hcl T' rfl X'
    exact ⟨t2, st.trans a1, b1⟩
theorem vx_callv {S SX : Type} {post : S → Prop} {px : SX → Prop} {B : S → State → Prop} {BX : String → SX → State → Prop} {AX : Nat → Prop} (hr : vx_Run p l e R s m args below meth c H locs cells slots mc ms (F0 m pc ls st0) rest (va_Qv post B A1 a) (vx_X px BX AX) free) (hS : va_S A0 H0 H locs) (hA : ∀ q, q < H.size → A1 q → A0 q) (hf : ∀ q, free q → A0 q) (hAX : ∀ q, q < H.size → AX q → A0 q)
    (kx : ∀ (E : String) (ce : Cell) (q9 : Addr) (u : SX) (t : State) (H1 : Heap) (locs1 : List Loc), t.heap = H1 → s.vm.Alike t.vm → px u → BX E u t → H.size ≤ H1.size → (∀ q : Nat, q < H.size → ¬ AX q → H1[q]? = H[q]?) → va_S A0 H0 H1 locs1 → H1[q9]? = some ce → ce.vm = .none → s.vm.findClass E = some ce.cls → vx_W p l e R s m args below meth c H1 locs1 (cells + mc) (slots + ms) Q (F0 m pc ls rest) q9)
    (kk : ∀ (u : S) (t : State) (H1 : Heap) (locs1 : List Loc), t.heap = H1 → s.vm.Alike t.vm → post u → B u t → H.size ≤ H1.size → (∀ q : Nat, q < H.size → ¬ A1 q → H1[q]? = H[q]?) → va_S A0 H0 H1 locs1 → W p l e R s m args below meth c H1 locs1 (cells + mc) (slots + ms) Q (F0 m (pc + 3) ls (rest))) : W p l e R s m args below meth c H locs cells slots Q (F0 m pc ls st0) := by
  intro T hT X
  rcases hr T hT X with ⟨v, st₀, t, T', L, h0, X', hL, e1, e2, ⟨⟨u, hv, hp, hb⟩, hF⟩, st⟩ | ⟨q, st₀, t, T', L, E, ce, h0, X', hL, e1, e2, ⟨u, hp, hb, hF⟩, hce, hcv, hcl, st⟩
  · cases hv
    obtain ⟨k1, k2, k3⟩ := vx_keep h0 e1 hS hA hf hL hF
    obtain ⟨t2, a1, b1⟩ := kk u t T'.heap (locs ++ L) e1.symm (by rw [← e2]; exact X'.warmed.alike) hp hb k1 k2 k3 T' rfl X'
    exact ⟨t2, st t2 a1, b1⟩
  · obtain ⟨k1, k2, k3⟩ := vx_keep h0 e1 hS hAX hf hL hF
    obtain ⟨t2, a1, b1⟩ := kx E ce q u t T'.heap (locs ++ L) e1.symm (by rw [← e2]; exact X'.warmed.alike) hp hb k1 k2 k3 (by rw [e1]; exact hce) hcv hcl T' rfl X'
    exact ⟨t2, st.trans a1, b1⟩
/-- caught by the row x of this method's table; the rows ahead don't take it -/
theorem vx_catch {own name : String} {E : String} {ce : Cell} {q : Addr} (hown : s.vm.findClass own = some m.cls) (pre : List ExceptionTableEntry) (x : ExceptionTableEntry) (suf : List ExceptionTableEntry) (hsplit : c.exceptionTable.toList = pre ++ x :: suf)
    (hpass : ∀ z ∈ pre, covers z pc = false ∨ (z.catchType ≠ 0 ∧ ∃ nm : String, (Cond.classLink own z.catchType nm).before args s = true ∧ va_Nc E nm s)) (hx : covers x pc = true) (h0 : x.catchType ≠ 0)
    (hlink : (Cond.classLink own x.catchType name).before args s = true) (hcast : (Cond.castable E name).before args s = true) (hcell : H[q]? = some ce) (hv : ce.vm = .none) (hcl : s.vm.findClass E = some ce.cls)
    (kk : W p l e R s m args below meth c H locs cells slots Q (F0 m x.handlerPc ls [.ref q])) : vx_W p l e R s m args below meth c H locs cells slots Q (F0 m pc ls rest) q := by
  intro T hT X
  have hpl : e.platform.magicAccessors = ({} : Platform).magicAccessors := by rw [X.admits.platform]
  obtain ⟨c3, c4, hc3, hc4, hasg⟩ := Cond.castable_spec hcast
  cases Option.some.inj (hc3.symm.trans hcl)
  obtain ⟨c5, hc5, hcl5⟩ := Cond.classLink_spec hown hlink e.platform hpl
  cases Option.some.inj (hc4.symm.trans hc5)
  obtain ⟨vm', X', st⟩ := X.thenCaughtThrough q (g := F0 m pc ls rest) rfl (Steps.refl _) (by rw [hT]; exact hcell) (by rw [hv]; rfl) (by obtain ⟨k9, h9, -⟩ := Vm.findClass_spec hcl; exact ⟨k9, h9⟩) pre x suf hsplit
    (fun z hz => by
      rcases hpass z hz with h | ⟨hz0, nm, hl1, hn1⟩
      · exact Or.inl h
      · obtain ⟨c6, hc6, hcl6⟩ := Cond.classLink_spec hown hl1 e.platform hpl
        obtain ⟨a8, b8, h1, h2, h3⟩ := hn1
        cases Option.some.inj (h1.symm.trans hcl)
        cases Option.some.inj (h2.symm.trans hc6)
        exact Or.inr ⟨hz0, _, hcl6, h3⟩) hx (Or.inr ⟨h0, c4, hcl5, hasg⟩)
  obtain ⟨t, a1, b1⟩ := kk (T.setVm vm') hT X'
  exact ⟨t, st.trans a1, b1⟩
end Rows
section Ends
variable {p : Program} {l : Launch} {e : Env} {R : Room} {s : State} {m : MethodId} {args : Array Value} {below : List Frame} {meth : Method} {c : Code} {H : Heap} {locs : List Loc} {cells slots : Nat} {Q : State → Prop}
variable {mc ms : Nat} {free : Addr → Prop} {A0 A1 : Nat → Prop} {H0 : Heap} {a : Array Value} {ls : Array Slot} {st0 rest : List Value}
variable {Qc : Array Value → State → Outcome → State → Prop} {XC : String → State → State → Prop}
/-- what a body that may throw owes at its end -/
def vx_MQ (below : List Frame) (Qc : Array Value → State → Outcome → State → Prop) (XC : String → State → State → Prop) (a : Array Value) (s : State) (mc ms : Nat) (free : Addr → Prop) : State → Prop := fun t =>
  ∃ o, t.status = .running ∧ Ended t below o ∧ vx_Q Qc XC mc ms free a s o t
theorem vx_ret {g : JFrame} {mc ms : Nat} (k : W p l e R s m args below meth c H locs cells slots (MQ below Qc args s mc ms free) g) : W p l e R s m args below meth c H locs cells slots (vx_MQ below Qc XC args s mc ms free) g := by
  intro T hT X
  obtain ⟨t, a1, o, b1, b2, b3, b4⟩ := k T hT X
  exact ⟨t, a1, o, b1, b2, Or.inl ⟨b3, b4⟩⟩
/-- not caught here: it goes on to the caller -/
theorem vx_widen {g : JFrame} {q : Addr} {k n : Nat} (h1 : cells ≤ k) (h2 : slots ≤ n) (kk : vx_W p l e R s m args below meth c H locs k n Q g q) : vx_W p l e R s m args below meth c H locs cells slots Q g q := fun T hT X => kk T hT (stand_widen X h1 h2)
theorem vx_out {pc : Nat} {E : String} {ce : Cell} {q : Addr} {mc ms : Nat} (hout : ∀ x ∈ c.exceptionTable.toList, covers x pc = false) (hlocks : meth.locks = false) (hcell : H[q]? = some ce) (hv : ce.vm = .none) (hcl : s.vm.findClass E = some ce.cls)
    (hx : ∀ t : State, t.heap = H → s.vm.Alike t.vm → XC E s t) (hf : ∀ z ∈ locs, free z.base) (hc : cells ≤ mc) (hs : slots ≤ ms) :
    vx_W p l e R s m args below meth c H locs cells slots (vx_MQ below Qc XC args s mc ms free) (F0 m pc ls rest) q := by
  intro T hT X
  obtain ⟨st1, hrun, hend, hW, hsm⟩ := X.leaveThrown q (g := F0 m pc ls rest) rfl rfl rfl hout hlocks
  have hcell9 : (T.setFrames (.throwing q :: below)).heap[q]? = some ce := by
    show T.heap[q]? = some ce
    rw [hT]; exact hcell
  exact ⟨_, st1, .threw q, hrun, hend, Or.inr ⟨q, rfl, E, ce, locs, hx _ hT hW.alike, hcell9, hv, hcl, hW, hsm.mono hc hs, hf⟩⟩
theorem vx_frame {U : State} {k n : Nat} (h : s.sameButNew ({ U with vm := s.vm } : State) locs k n) : s.heap.size ≤ U.heap.size ∧ ∀ q : Nat, q < s.heap.size → (∀ z ∈ locs, z.base ≠ q) → U.heap[q]? = s.heap[q]? := by
  obtain ⟨-, h2, -, -, -, h6⟩ := h
  refine ⟨h2, fun q hq hz => ?_⟩
  obtain ⟨c9, e1, e2, e3, e4⟩ := h6 q _ (Array.getElem?_eq_getElem hq)
  have hs : c9.slots = (s.heap[q]).slots := Array.ext_getElem? fun i => e4 i fun hm => hz _ hm rfl
  have h9 : c9 = s.heap[q] := by
    rw [hs] at e2
    exact e2
  have e5 : U.heap[q]? = some c9 := e1
  rw [e5, h9, Array.getElem?_eq_getElem hq]
/-- the words of a throw but the four that speak of the heap -/
def vx_no (w : Cond) : Bool := decide (w ≠ .isRef (.static Bundle.tN "UNASSIGNED_STACK" Bundle.steD)) && decide (w ≠ .isRef (.static Bundle.tN "SUPPRESSED_SENTINEL" Bundle.listD)) && decide (w ≠ .laysStatic Bundle.tN "UNASSIGNED_STACK" Bundle.steD) && decide (w ≠ .laysStatic Bundle.tN "SUPPRESSED_SENTINEL" Bundle.listD)
def vx_at0 (own : String) (ic : Nat) (X : String) (names : List String) : List Cond := (Bundle.ownAtoms0 own ic X names).filter vx_no
def vx_atS (own : String) (ic : Nat) (X : String) (names : List String) : List Cond := (Bundle.ownAtoms own ic X names).filter vx_no
/-- a word that the tables alone decide, or a good one -/
def vx_ot (w : Cond) : Bool := w.onTables || goodWord w
theorem vx_ot_at {args a' : Array Value} {s U : State} {w : Cond} (hW : s.WarmedH U.vm) (hvm : s.vm = U.vm) (hg : vx_ot w = true) (h : w.before args s = true) : w.before a' U = true := by
  simp only [vx_ot, Bool.or_eq_true] at hg
  rcases hg with hg | hg
  · exact va_tabs hg hvm h
  · exact word_at hW (good_of_word hg) h
/-- a list's words: the good ones out of the method's own list, the others by premises of their own -/
theorem vx_hat {args : Array Value} {s : State} {L B : List Cond} (h1 : ∀ w ∈ L.filter goodWord, w.before args s = true) (h2 : ∀ w ∈ L.filter (fun w => !goodWord w), w ∈ B) (h3 : ∀ w ∈ B, w.before args s = true) : ∀ w ∈ L, w.before args s = true := by
  intro w hw
  by_cases g : goodWord w = true
  · exact h1 w (List.mem_filter.mpr ⟨hw, g⟩)
  · refine h3 w (h2 w (List.mem_filter.mpr ⟨hw, ?_⟩))
    show (!goodWord w) = true
    cases hgw : goodWord w
    · rfl
    · exact absurd hgw g
theorem vx_c {args : Array Value} {s : State} {w : Cond} {B : List Cond} (h : w.before args s = true) (t : ∀ w ∈ B, w.before args s = true) : ∀ w' ∈ w :: B, w'.before args s = true := fun w' h' => (List.mem_cons.mp h').elim (fun e => by rw [e]; exact h) (t w')
theorem vx_n {args : Array Value} {s : State} : ∀ w ∈ ([] : List Cond), w.before args s = true := fun _ h => nomatch h
theorem vx_own {args : Array Value} {s : State} {L : List Cond} (h1 : ∀ w ∈ L.filter vx_no, w.before args s = true)
    (hU : (Cond.isRef (.static Bundle.tN "UNASSIGNED_STACK" Bundle.steD)).before args s = true) (hN : (Cond.isRef (.static Bundle.tN "SUPPRESSED_SENTINEL" Bundle.listD)).before args s = true)
    (lU : (Cond.laysStatic Bundle.tN "UNASSIGNED_STACK" Bundle.steD).before args s = true) (lN : (Cond.laysStatic Bundle.tN "SUPPRESSED_SENTINEL" Bundle.listD).before args s = true) : ∀ w ∈ L, w.before args s = true := by
  intro w hw
  by_cases e1 : w = .isRef (.static Bundle.tN "UNASSIGNED_STACK" Bundle.steD)
  · rw [e1]; exact hU
  · by_cases e2 : w = .isRef (.static Bundle.tN "SUPPRESSED_SENTINEL" Bundle.listD)
    · rw [e2]; exact hN
    · by_cases e3 : w = .laysStatic Bundle.tN "UNASSIGNED_STACK" Bundle.steD
      · rw [e3]; exact lU
      · by_cases e4 : w = .laysStatic Bundle.tN "SUPPRESSED_SENTINEL" Bundle.listD
        · rw [e4]; exact lN
        · exact h1 w (List.mem_filter.mpr ⟨hw, by unfold vx_no; rw [decide_eq_true e1, decide_eq_true e2, decide_eq_true e3, decide_eq_true e4]; rfl⟩)
/-- where a static field lies, its class's statics cell in H -/
def vx_L (C n d : String) (A : Nat → Prop) (U : State) (H : Heap) : Prop := ∃ (c : ClassId) (k : Class) (i : Nat) (f : Field) (a : Nat) (cell : Cell), U.vm.findClass C = some c ∧ U.fieldFound? C n d = some (c, k, i, f) ∧ f.isStatic = true ∧ k.statics = some a ∧ H[a]? = some cell ∧ cell.vm.isStatics = true ∧ cell.cls = c ∧ f.slot < cell.slots.size ∧ k.staticTypes[f.slot]? = some f.type ∧ ¬ A a
theorem vx_L.moved {C n d : String} {A : Nat → Prop} {u U : State} {H : Heap} (hvm : u.vm.Alike U.vm) (h : vx_L C n d A u H) : vx_L C n d A U H := by
  obtain ⟨c, k, i, f, a, cell, h1, h2, h3, h4, h5, h6, h7, h8, h9, h10⟩ := h
  obtain ⟨k', hi', he⟩ := State.fieldFound?_setVm hvm h2
  exact ⟨c, k', i, f, a, cell, by rw [hvm.findClass]; exact h1, hi', h3, by rw [he]; exact h4, h5, h6, h7, h8, by rw [he]; exact h9, h10⟩
theorem vx_L.kept {C n d : String} {A : Nat → Prop} {U : State} {H H1 : Heap} (h : vx_L C n d A U H) (hq : ∀ a : Nat, a < H.size → ¬ A a → H1[a]? = H[a]?) : vx_L C n d A U H1 := by
  obtain ⟨c, k, i, f, a, cell, h1, h2, h3, h4, h5, h6, h7, h8, h9, h10⟩ := h
  exact ⟨c, k, i, f, a, cell, h1, h2, h3, h4, by rw [hq a (Array.getElem?_eq_some_iff.mp h5).1 h10]; exact h5, h6, h7, h8, h9, h10⟩
theorem vx_L.narrow {C n d : String} {A B : Nat → Prop} {U : State} {H : Heap} (h : vx_L C n d A U H) (hAB : ∀ q, B q → A q) : vx_L C n d B U H := by
  obtain ⟨c, k, i, f, a, cell, h1, h2, h3, h4, h5, h6, h7, h8, h9, h10⟩ := h
  exact ⟨c, k, i, f, a, cell, h1, h2, h3, h4, h5, h6, h7, h8, h9, fun z => h10 (hAB _ z)⟩
theorem vx_L.word {C n d : String} {A : Nat → Prop} {s : State} {args : Array Value} (h : vx_L C n d A s s.heap) : (Cond.laysStatic C n d).before args s = true := by
  obtain ⟨c, k, i, f, a, cell, h1, h2, h3, h4, h5, h6, h7, h8, h9, -⟩ := h
  show (Cond.laysStatic C n d).holds args s none s [] = true
  exact Cond.laysStatic_of h1 h2 h3 h4 h5 h6 h7 h8 h9
/-- .. and what it holds: null or some reference -/
def vx_Zq (C n d : String) (A : Nat → Prop) (U : State) (H : Heap) : Prop := va_Zq C n d A U H ∧ vx_L C n d A U H
theorem vx_Zq.moved {C n d : String} {A : Nat → Prop} {u U : State} {H : Heap} (hvm : u.vm.Alike U.vm) (h : vx_Zq C n d A u H) : vx_Zq C n d A U H := ⟨va_Zq.moved hvm h.1, vx_L.moved hvm h.2⟩
theorem vx_Zq.kept {C n d : String} {A : Nat → Prop} {U : State} {H H1 : Heap} (h : vx_Zq C n d A U H) (hq : ∀ a : Nat, a < H.size → ¬ A a → H1[a]? = H[a]?) : vx_Zq C n d A U H1 := ⟨va_Zq.kept h.1 hq, vx_L.kept h.2 hq⟩
theorem vx_Zq.narrow {C n d : String} {A B : Nat → Prop} {U : State} {H : Heap} (h : vx_Zq C n d A U H) (hAB : ∀ q, B q → A q) : vx_Zq C n d B U H := ⟨va_Zq.narrow h.1 hAB, vx_L.narrow h.2 hAB⟩
theorem vx_Zqof {args : Array Value} {s : State} {C n d : String} {A : Nat → Prop} (hl : (Cond.laysStatic C n d).before args s = true) (hini : (Cond.initialized C).before args s = true) (h : (Cond.isRef (.static C n d)).before args s = true) (hA : ∀ a : Nat, a < s.heap.size → ¬ A a) : vx_Zq C n d A s s.heap := by
  refine ⟨va_Zqof hl hini h hA, ?_⟩
  obtain ⟨c, k, i, f, a, cell, h1, h2, h3, h4, h5, h6, h7, h8, h9⟩ := Cond.laysStatic_spec hl
  exact ⟨c, k, i, f, a, cell, h1, h2, h3, h4, h5, h6, h7, h8, h9, hA a (Array.getElem?_eq_some_iff.mp h5).1⟩
theorem vx_isRef {C n d : String} {v : Value} {A : Nat → Prop} {s : State} {args : Array Value} (h : va_Z C n d v A s s.heap) (hv : v.isRef = true) : (Cond.isRef (.static C n d)).before args s = true := by
  obtain ⟨cf, kf, fi, f, a, cell, h1, h2, h3, h4, h5, h6, h7, -⟩ := h
  have he : (Term.static C n d).eval args s none [] s = some v := by
    simp [Term.eval, State.fieldNamed?, h1, h2, h4, h5, h6, h7]
  simp only [Cond.before, Cond.holds, Cond.value, he]
  cases v <;> simp_all [Value.isRef]
theorem vx_isRefq {C n d : String} {A : Nat → Prop} {s : State} {args : Array Value} (h : va_Zq C n d A s s.heap) : (Cond.isRef (.static C n d)).before args s = true := by
  rcases h with h | ⟨t, h⟩
  · exact vx_isRef h rfl
  · exact vx_isRef h rfl
/-- the same frame, seen from here: as if the method were called anew in this heap -/
theorem vx_rebase {T : State} (X : Stand p l e R s m args below meth c T locs cells slots) {R' : Room} (hf : R'.frames ≤ R.frames) (hl : R'.locals ≤ R.locals) (hc : cells + R'.cells ≤ R.cells) (hs : slots + R'.slots ≤ R.slots) :
    Stand p l e R' ((T.setVm s.vm).setFrames (.invoking m args :: below)) m args below meth c T [] 0 0 := by
  have htop : (T.setVm s.vm).topJava?.isSome := X.here.top
  have hF : ((T.setVm s.vm).setFrames (.invoking m args :: below)).frames = .invoking m args :: below := State.frames_setFrames _ (State.cur_lt_of_top htop)
  obtain ⟨g₀, hg0⟩ := Option.isSome_iff_exists.mp htop
  obtain ⟨r, hr⟩ := State.topJava?_eq_some.mp hg0
  have hl9 : e.platform.stackLimits (T.setVm s.vm).me = e.platform.stackLimits s.me := X.limits
  have hb9 : (T.setVm s.vm).me.stackBytes = s.me.stackBytes := X.bytes
  refine ⟨X.admits, X.cas, X.clock, hF, ?_, X.hears, X.method, X.code, X.here, X.tail, X.warmed, ?_, ?_, ?_⟩
  · have h := X.room
    have hU : ((T.setVm s.vm).setFrames (.invoking m args :: below)).localsInUse = s.localsInUse := by
      rw [State.localsInUse_invoking hF (meth := meth) (c := c) X.method X.code, State.localsInUse_invoking X.frames X.method X.code]
    simp only [State.hasRoom, Bool.and_eq_true, decide_eq_true_eq] at h ⊢
    obtain ⟨⟨⟨⟨h1, h2, h3, h4, h5, h6⟩, h7⟩, h8⟩, h9⟩ := h
    rw [X.frames, List.length_cons] at h2 h3
    have q1 := X.heapSize
    have q2 := X.used
    simp only [hF, hU, List.length_cons, State.stackLimits_setFrames, State.stackBytes_setFrames, hl9, hb9]
    refine ⟨⟨⟨⟨by omega, by omega, by omega, by omega, by omega, h6⟩, ?_⟩, ?_⟩, X.book⟩
    · show T.heap.size + R'.cells ≤ e.platform.maxCells
      omega
    · show T.slotsUsed + R'.slots ≤ e.platform.maxSlots
      omega
  · rw [State.stackLimits_setFrames]; rfl
  · rw [State.stackBytes_setFrames]; rfl
  · refine ⟨?_, Nat.le_refl _, Nat.le_refl _, ?_, ?_, fun a c9 h9 => ⟨c9, h9, rfl, rfl, fun _ _ => rfl⟩⟩
    · obtain ⟨t, ht, -⟩ := State.frames_cons hr
      show T.setVm s.vm = { ((T.setVm s.vm).setFrames (.invoking m args :: below)).setFrames (T.setVm s.vm).frames with heap := T.heap, slotsUsed := T.slotsUsed }
      rw [State.setFrames_setFrames, State.setFrames_self ht]
      rfl
    · show T.slotsUsed = T.slotsUsed + ((T.heap.toList.drop T.heap.size).map (·.slots.size)).sum
      rw [List.drop_eq_nil_of_le (Nat.le_of_eq Array.length_toList)]
      rfl
    · show ((T.heap.toList.drop T.heap.size).map (·.slots.size)).sum ≤ 0
      rw [List.drop_eq_nil_of_le (Nat.le_of_eq Array.length_toList)]
      exact Nat.le_refl _
/-- 'throw new E()': new; dup; invokespecial; athrow -/
theorem vx_throw0 {cc : ByteArray} {pc : Nat} (hexec : p.tables.exec = Jvm.exec) (hb : c.code = cc) (hl : l.stackTraces = false) {own cls : String} {names : List String} {ik ic mc ms : Nat} {A : Nat → Prop}
    (hown : s.vm.findClass own = some m.cls) (hcls : Bundle.fit cls = true) (hnames : ∀ n ∈ names, Bundle.fit n = true)
    (hk : (Cond.classLink own ik cls).before args s = true) (hini : (Cond.initialized cls).before args s = true) (hat : ∀ w ∈ vx_at0 own ic cls names, w.before args s = true)
    (hgood : ∀ w ∈ Cond.classLink own ik cls :: Cond.initialized cls :: vx_at0 own ic cls names, vx_ot w = true)
    (hU : vx_Zq Bundle.tN "UNASSIGNED_STACK" Bundle.steD A s s.heap) (hN : vx_Zq Bundle.tN "SUPPRESSED_SENTINEL" Bundle.listD A s s.heap) (hS : va_S A s.heap H locs) (hsize : ls.size = c.maxLocals)
    (d0 : decode cc pc = .ok (.new ik, 3)) (d3 : decode cc (pc + 3) = .ok (.dup, 1)) (d4 : decode cc (pc + 4) = .ok (.invokespecial ic, 3)) (d7 : decode cc (pc + 7) = .ok (.athrow, 1))
    (hout : ∀ x ∈ c.exceptionTable.toList, covers x (pc + 7) = false)
    (hRframes : names.length + 3 < R.frames) (hRlocals : (rest.map fun v => v.category).sum + (13 * (names.length + 1) + 42) ≤ R.locals) (hRcells : cells + 1 ≤ R.cells) (hRslots : slots + 6 ≤ R.slots) (hlocks : meth.locks = false)
    (hx : ∀ t : State, s.vm.Alike t.vm → H.size ≤ t.heap.size → (∀ q : Nat, q < H.size → t.heap[q]? = H[q]?) → XC cls s t)
    (hf : ∀ z ∈ locs, free z.base) (hc : cells + 1 ≤ mc) (hs : slots + 6 ≤ ms) :
    W p l e R s m args below meth c H locs cells slots (vx_MQ below Qc XC args s mc ms free) (F0 m pc ls rest) := by
  intro T hT X
  have htr : e.platform.stackTraces = false := (show e.platform.stackTraces = l.stackTraces by rw [X.admits.platform]).trans hl
  have Y := vx_rebase X (R' := { frames := R.frames, locals := R.locals, cells := 1, slots := 6 }) (Nat.le_refl _) (Nat.le_refl _) hRcells hRslots
  obtain ⟨s', hA⟩ : ∃ z, z = (T.setVm s.vm).setFrames (.invoking m args :: below) := ⟨_, rfl⟩
  rw [← hA] at Y
  have hvm : s'.vm = s.vm := by rw [hA]; rfl
  have hhp : s'.heap = H := by rw [hA]; exact hT
  have hW0 : s.WarmedH s'.vm := by rw [hvm]; exact State.WarmedH.refl s
  have hat' : ∀ w ∈ vx_at0 own ic cls names, w.before args s' = true := fun w hw => vx_ot_at hW0 hvm.symm (hgood w (List.mem_cons_of_mem _ (List.mem_cons_of_mem _ hw))) (hat w hw)
  have hk' : (Cond.classLink own ik cls).before args s' = true := vx_ot_at hW0 hvm.symm (hgood _ List.mem_cons_self) hk
  have hini' : (Cond.initialized cls).before args s' = true := vx_ot_at hW0 hvm.symm (hgood _ (List.mem_cons_of_mem _ List.mem_cons_self)) hini
  have hU' : vx_Zq Bundle.tN "UNASSIGNED_STACK" Bundle.steD A s' s'.heap := by rw [hhp]; exact vx_Zq.moved hW0.alike (hU.kept hS.2.1)
  have hN' : vx_Zq Bundle.tN "SUPPRESSED_SENTINEL" Bundle.listD A s' s'.heap := by rw [hhp]; exact vx_Zq.moved hW0.alike (hN.kept hS.2.1)
  have h : ∀ w ∈ Bundle.ownAtoms0 own ic cls names, w.before args s' = true := vx_own hat' (vx_isRefq hU'.1) (vx_isRefq hN'.1) hU'.2.word hN'.2.word
  have hown' : s'.vm.findClass own = some m.cls := by rw [hvm]; exact hown
  have hins : (Cond.instantiable cls 6).before args s' = true := h _ (by simp [Bundle.ownAtoms0])
  obtain ⟨vm₁, cX, kX, hfX, hkX, -, -, X₁, st1⟩ := Y.newCold hexec (own := own) (C := cls) (index := ik) (n := 6) hown' hk' hins hini'
    (g := F0 m pc ls rest) rfl (by rw [hb]; exact d0) (Nat.le_refl _) (Nat.le_refl _)
  generalize hT1 : (T.setVm vm₁).pushCell { cls := cX, slots := kX.instanceTypes.map defaultValue, vm := .none } = T1 at X₁ st1
  have hcat : (Value.ref T.heap.size).category = 1 := rfl
  have hcellA : T1.heap[T.heap.size]? = some (freshCell cX kX) := by rw [← hT1]; exact State.heap_pushCell_size _ _
  have d3' : decode c.code (pc + 3) = .ok (.dup, 1) := by rw [hb]; exact d3
  obtain ⟨U, hsteps, hrun, hend, hW, hsame, ce, hce, hO⟩ := X₁.ctorThrow0 hexec htr (own := own) (cls := cls) (names := names) (ic := ic) hown' hcls hnames h (fun x hx => nomatch hx) hfX hkX hcellA (by rw [hhp, hT]; exact Nat.le_refl _)
    (g := { method := m, pc := pc + 4, locals := ls, stack := .ref T.heap.size :: .ref T.heap.size :: rest, locked := none }) rfl hsize rfl rfl (rest := rest) rfl
    (by rw [hb]; exact d4) (by rw [hb]; exact d7) hout hRframes (by simp only [List.map_cons, List.sum_cons, hcat]; omega) hlocks
  obtain ⟨f1, f2⟩ := vx_frame hsame
  rw [hhp] at f1 f2
  have hWs : s.WarmedH U.vm := State.WarmedH.trans hW0 hW
  have hcl : s.vm.findClass cls = some ce.cls := by
    have h9 := hO.cls
    rw [hvm] at h9
    exact h9
  have hall : s.sameButNew ({ U with vm := s.vm } : State) locs mc ms := by
    subst hA
    obtain ⟨e1, e2⟩ := hsame
    rw [State.setFrames_setFrames] at e1
    have h2 : (T.setVm s.vm).sameButNew ({ U with vm := s.vm } : State) [] (0 + 1) (0 + 6) := ⟨e1, e2⟩
    have h3 := X.same.trans h2
    rw [List.append_nil] at h3
    exact h3.mono hc hs
  refine ⟨U, ?_, .threw T.heap.size, hrun, hend, Or.inr ⟨T.heap.size, rfl, cls, ce, locs, hx U hWs.alike f1 (fun q hq => f2 q hq (fun z hz => nomatch hz)), hce, hO.vm, hcl, hWs, hall, hf⟩⟩
  refine st1 _ ?_
  show Steps p.tables e below (T1.setTop { method := m, pc := pc + 3, locals := ls, stack := .ref T.heap.size :: rest, locked := none }) _
  jvm_step X₁.here [X₁.here.top, hexec, d3', Value.category]
  exact hsteps
/-- 'throw new E("text")': new; dup; ldc; invokespecial; athrow -/
theorem vx_throwS {cc : ByteArray} {pc : Nat} (hexec : p.tables.exec = Jvm.exec) (hb : c.code = cc) (hl : l.stackTraces = false) {own cls text : String} {names : List String} {ik is ic mc ms sa : Nat} {A : Nat → Prop}
    (hown : s.vm.findClass own = some m.cls) (hcls : Bundle.fit cls = true) (hnames : ∀ n ∈ names, Bundle.fit n = true)
    (hk : (Cond.classLink own ik cls).before args s = true) (hini : (Cond.initialized cls).before args s = true) (hstr : vk_R own is text sa s) (hat : ∀ w ∈ vx_atS own ic cls names, w.before args s = true)
    (hgood : ∀ w ∈ Cond.classLink own ik cls :: Cond.initialized cls :: vx_atS own ic cls names, vx_ot w = true)
    (hU : vx_Zq Bundle.tN "UNASSIGNED_STACK" Bundle.steD A s s.heap) (hN : vx_Zq Bundle.tN "SUPPRESSED_SENTINEL" Bundle.listD A s s.heap) (hS : va_S A s.heap H locs) (hsize : ls.size = c.maxLocals)
    (d0 : decode cc pc = .ok (.new ik, 3)) (d3 : decode cc (pc + 3) = .ok (.dup, 1)) (d4 : decode cc (pc + 4) = .ok (.ldc is, 2)) (d6 : decode cc (pc + 6) = .ok (.invokespecial ic, 3)) (d9 : decode cc (pc + 9) = .ok (.athrow, 1))
    (hout : ∀ x ∈ c.exceptionTable.toList, covers x (pc + 9) = false)
    (hRframes : names.length + 3 < R.frames) (hRlocals : (rest.map fun v => v.category).sum + (13 * (names.length + 1) + 43) ≤ R.locals) (hRcells : cells + 1 ≤ R.cells) (hRslots : slots + 6 ≤ R.slots) (hlocks : meth.locks = false)
    (hx : ∀ t : State, s.vm.Alike t.vm → H.size ≤ t.heap.size → (∀ q : Nat, q < H.size → t.heap[q]? = H[q]?) → XC cls s t)
    (hf : ∀ z ∈ locs, free z.base) (hc : cells + 1 ≤ mc) (hs : slots + 6 ≤ ms) :
    W p l e R s m args below meth c H locs cells slots (vx_MQ below Qc XC args s mc ms free) (F0 m pc ls rest) := by
  intro T hT X
  have htr : e.platform.stackTraces = false := (show e.platform.stackTraces = l.stackTraces by rw [X.admits.platform]).trans hl
  have Y := vx_rebase X (R' := { frames := R.frames, locals := R.locals, cells := 1, slots := 6 }) (Nat.le_refl _) (Nat.le_refl _) hRcells hRslots
  obtain ⟨s', hA⟩ : ∃ z, z = (T.setVm s.vm).setFrames (.invoking m args :: below) := ⟨_, rfl⟩
  rw [← hA] at Y
  have hvm : s'.vm = s.vm := by rw [hA]; rfl
  have hhp : s'.heap = H := by rw [hA]; exact hT
  have hW0 : s.WarmedH s'.vm := by rw [hvm]; exact State.WarmedH.refl s
  have hat' : ∀ w ∈ vx_atS own ic cls names, w.before args s' = true := fun w hw => vx_ot_at hW0 hvm.symm (hgood w (List.mem_cons_of_mem _ (List.mem_cons_of_mem _ hw))) (hat w hw)
  have hk' : (Cond.classLink own ik cls).before args s' = true := vx_ot_at hW0 hvm.symm (hgood _ List.mem_cons_self) hk
  have hini' : (Cond.initialized cls).before args s' = true := vx_ot_at hW0 hvm.symm (hgood _ (List.mem_cons_of_mem _ List.mem_cons_self)) hini
  have hU' : vx_Zq Bundle.tN "UNASSIGNED_STACK" Bundle.steD A s' s'.heap := by rw [hhp]; exact vx_Zq.moved hW0.alike (hU.kept hS.2.1)
  have hN' : vx_Zq Bundle.tN "SUPPRESSED_SENTINEL" Bundle.listD A s' s'.heap := by rw [hhp]; exact vx_Zq.moved hW0.alike (hN.kept hS.2.1)
  have h : ∀ w ∈ Bundle.ownAtoms own ic cls names, w.before args s' = true := vx_own hat' (vx_isRefq hU'.1) (vx_isRefq hN'.1) hU'.2.word hN'.2.word
  have hown' : s'.vm.findClass own = some m.cls := by rw [hvm]; exact hown
  have hins : (Cond.instantiable cls 6).before args s' = true := h _ (by simp [Bundle.ownAtoms])
  obtain ⟨vm₁, cX, kX, hfX, hkX, -, -, X₁, st1⟩ := Y.newCold hexec (own := own) (C := cls) (index := ik) (n := 6) hown' hk' hins hini'
    (g := F0 m pc ls rest) rfl (by rw [hb]; exact d0) (Nat.le_refl _) (Nat.le_refl _)
  generalize hT1 : (T.setVm vm₁).pushCell { cls := cX, slots := kX.instanceTypes.map defaultValue, vm := .none } = T1 at X₁ st1
  have hcat : (Value.ref T.heap.size).category = 1 := rfl
  have hcellA : T1.heap[T.heap.size]? = some (freshCell cX kX) := by rw [← hT1]; exact State.heap_pushCell_size _ _
  have d3' : decode c.code (pc + 3) = .ok (.dup, 1) := by rw [hb]; exact d3
  have d4' : decode c.code (pc + 4) = .ok (.ldc is, 2) := by rw [hb]; exact d4
  have hstr' : vk_R own is text sa s' := vk_R.warm hW0 hstr
  obtain ⟨U, hsteps, hrun, hend, hW, hsame, ce, hce, hO⟩ := X₁.ctorThrowS hexec htr (own := own) (cls := cls) (names := names) (ic := ic) hown' hcls hnames h (fun x hx => nomatch hx) hfX hkX hcellA (by rw [hhp, hT]; exact Nat.le_refl _) (msg := .ref sa) rfl
    (g := { method := m, pc := pc + 6, locals := ls, stack := .ref sa :: .ref T.heap.size :: .ref T.heap.size :: rest, locked := none }) rfl hsize rfl rfl (rest := rest) rfl
    (by rw [hb]; exact d6) (by rw [hb]; exact d9) hout hRframes (by simp only [List.map_cons, List.sum_cons, hcat]; omega) hlocks
  obtain ⟨f1, f2⟩ := vx_frame hsame
  rw [hhp] at f1 f2
  have hWs : s.WarmedH U.vm := State.WarmedH.trans hW0 hW
  have hcl : s.vm.findClass cls = some ce.cls := by
    have h9 := hO.cls
    rw [hvm] at h9
    exact h9
  have hall : s.sameButNew ({ U with vm := s.vm } : State) locs mc ms := by
    subst hA
    obtain ⟨e1, e2⟩ := hsame
    rw [State.setFrames_setFrames] at e1
    have h2 : (T.setVm s.vm).sameButNew ({ U with vm := s.vm } : State) [] (0 + 1) (0 + 6) := ⟨e1, e2⟩
    have h3 := X.same.trans h2
    rw [List.append_nil] at h3
    exact h3.mono hc hs
  refine ⟨U, ?_, .threw T.heap.size, hrun, hend, Or.inr ⟨T.heap.size, rfl, cls, ce, locs, hx U hWs.alike f1 (fun q hq => f2 q hq (fun z hz => nomatch hz)), hce, hO.vm, hcl, hWs, hall, hf⟩⟩
  refine st1 _ ?_
  show Steps p.tables e below (T1.setTop { method := m, pc := pc + 3, locals := ls, stack := .ref T.heap.size :: rest, locked := none }) _
  jvm_step X₁.here [X₁.here.top, hexec, d3', Value.category]
  exact X₁.ldcString hexec (own := own) (text := text) (index := is) (a := sa) hown' hstr'.1 hstr'.2
    (g := { method := m, pc := pc + 4, locals := ls, stack := .ref T.heap.size :: .ref T.heap.size :: rest, locked := none }) rfl d4' _ hsteps
/-- 'throw new E("text")', the text by a wide index -/
theorem vx_throwSW {cc : ByteArray} {pc : Nat} (hexec : p.tables.exec = Jvm.exec) (hb : c.code = cc) (hl : l.stackTraces = false) {own cls text : String} {names : List String} {ik is ic mc ms sa : Nat} {A : Nat → Prop}
    (hown : s.vm.findClass own = some m.cls) (hcls : Bundle.fit cls = true) (hnames : ∀ n ∈ names, Bundle.fit n = true)
    (hk : (Cond.classLink own ik cls).before args s = true) (hini : (Cond.initialized cls).before args s = true) (hstr : vk_R own is text sa s) (hat : ∀ w ∈ vx_atS own ic cls names, w.before args s = true)
    (hgood : ∀ w ∈ Cond.classLink own ik cls :: Cond.initialized cls :: vx_atS own ic cls names, vx_ot w = true)
    (hU : vx_Zq Bundle.tN "UNASSIGNED_STACK" Bundle.steD A s s.heap) (hN : vx_Zq Bundle.tN "SUPPRESSED_SENTINEL" Bundle.listD A s s.heap) (hS : va_S A s.heap H locs) (hsize : ls.size = c.maxLocals)
    (d0 : decode cc pc = .ok (.new ik, 3)) (d3 : decode cc (pc + 3) = .ok (.dup, 1)) (d4 : decode cc (pc + 4) = .ok (.ldc_w is, 3)) (d7 : decode cc (pc + 7) = .ok (.invokespecial ic, 3)) (d10 : decode cc (pc + 10) = .ok (.athrow, 1))
    (hout : ∀ x ∈ c.exceptionTable.toList, covers x (pc + 10) = false)
    (hRframes : names.length + 3 < R.frames) (hRlocals : (rest.map fun v => v.category).sum + (13 * (names.length + 1) + 43) ≤ R.locals) (hRcells : cells + 1 ≤ R.cells) (hRslots : slots + 6 ≤ R.slots) (hlocks : meth.locks = false)
    (hx : ∀ t : State, s.vm.Alike t.vm → H.size ≤ t.heap.size → (∀ q : Nat, q < H.size → t.heap[q]? = H[q]?) → XC cls s t)
    (hf : ∀ z ∈ locs, free z.base) (hc : cells + 1 ≤ mc) (hs : slots + 6 ≤ ms) :
    W p l e R s m args below meth c H locs cells slots (vx_MQ below Qc XC args s mc ms free) (F0 m pc ls rest) := by
  intro T hT X
  have htr : e.platform.stackTraces = false := (show e.platform.stackTraces = l.stackTraces by rw [X.admits.platform]).trans hl
  have Y := vx_rebase X (R' := { frames := R.frames, locals := R.locals, cells := 1, slots := 6 }) (Nat.le_refl _) (Nat.le_refl _) hRcells hRslots
  obtain ⟨s', hA⟩ : ∃ z, z = (T.setVm s.vm).setFrames (.invoking m args :: below) := ⟨_, rfl⟩
  rw [← hA] at Y
  have hvm : s'.vm = s.vm := by rw [hA]; rfl
  have hhp : s'.heap = H := by rw [hA]; exact hT
  have hW0 : s.WarmedH s'.vm := by rw [hvm]; exact State.WarmedH.refl s
  have hat' : ∀ w ∈ vx_atS own ic cls names, w.before args s' = true := fun w hw => vx_ot_at hW0 hvm.symm (hgood w (List.mem_cons_of_mem _ (List.mem_cons_of_mem _ hw))) (hat w hw)
  have hk' : (Cond.classLink own ik cls).before args s' = true := vx_ot_at hW0 hvm.symm (hgood _ List.mem_cons_self) hk
  have hini' : (Cond.initialized cls).before args s' = true := vx_ot_at hW0 hvm.symm (hgood _ (List.mem_cons_of_mem _ List.mem_cons_self)) hini
  have hU' : vx_Zq Bundle.tN "UNASSIGNED_STACK" Bundle.steD A s' s'.heap := by rw [hhp]; exact vx_Zq.moved hW0.alike (hU.kept hS.2.1)
  have hN' : vx_Zq Bundle.tN "SUPPRESSED_SENTINEL" Bundle.listD A s' s'.heap := by rw [hhp]; exact vx_Zq.moved hW0.alike (hN.kept hS.2.1)
  have h : ∀ w ∈ Bundle.ownAtoms own ic cls names, w.before args s' = true := vx_own hat' (vx_isRefq hU'.1) (vx_isRefq hN'.1) hU'.2.word hN'.2.word
  have hown' : s'.vm.findClass own = some m.cls := by rw [hvm]; exact hown
  have hins : (Cond.instantiable cls 6).before args s' = true := h _ (by simp [Bundle.ownAtoms])
  obtain ⟨vm₁, cX, kX, hfX, hkX, -, -, X₁, st1⟩ := Y.newCold hexec (own := own) (C := cls) (index := ik) (n := 6) hown' hk' hins hini'
    (g := F0 m pc ls rest) rfl (by rw [hb]; exact d0) (Nat.le_refl _) (Nat.le_refl _)
  generalize hT1 : (T.setVm vm₁).pushCell { cls := cX, slots := kX.instanceTypes.map defaultValue, vm := .none } = T1 at X₁ st1
  have hcat : (Value.ref T.heap.size).category = 1 := rfl
  have hcellA : T1.heap[T.heap.size]? = some (freshCell cX kX) := by rw [← hT1]; exact State.heap_pushCell_size _ _
  have d3' : decode c.code (pc + 3) = .ok (.dup, 1) := by rw [hb]; exact d3
  have d4' : decode c.code (pc + 4) = .ok (.ldc_w is, 3) := by rw [hb]; exact d4
  have hstr' : vk_R own is text sa s' := vk_R.warm hW0 hstr
  obtain ⟨U, hsteps, hrun, hend, hW, hsame, ce, hce, hO⟩ := X₁.ctorThrowS hexec htr (own := own) (cls := cls) (names := names) (ic := ic) hown' hcls hnames h (fun x hx => nomatch hx) hfX hkX hcellA (by rw [hhp, hT]; exact Nat.le_refl _) (msg := .ref sa) rfl
    (g := { method := m, pc := pc + 7, locals := ls, stack := .ref sa :: .ref T.heap.size :: .ref T.heap.size :: rest, locked := none }) rfl hsize rfl rfl (rest := rest) rfl
    (by rw [hb]; exact d7) (by rw [hb]; exact d10) hout hRframes (by simp only [List.map_cons, List.sum_cons, hcat]; omega) hlocks
  obtain ⟨f1, f2⟩ := vx_frame hsame
  rw [hhp] at f1 f2
  have hWs : s.WarmedH U.vm := State.WarmedH.trans hW0 hW
  have hcl : s.vm.findClass cls = some ce.cls := by
    have h9 := hO.cls
    rw [hvm] at h9
    exact h9
  have hall : s.sameButNew ({ U with vm := s.vm } : State) locs mc ms := by
    subst hA
    obtain ⟨e1, e2⟩ := hsame
    rw [State.setFrames_setFrames] at e1
    have h2 : (T.setVm s.vm).sameButNew ({ U with vm := s.vm } : State) [] (0 + 1) (0 + 6) := ⟨e1, e2⟩
    have h3 := X.same.trans h2
    rw [List.append_nil] at h3
    exact h3.mono hc hs
  refine ⟨U, ?_, .threw T.heap.size, hrun, hend, Or.inr ⟨T.heap.size, rfl, cls, ce, locs, hx U hWs.alike f1 (fun q hq => f2 q hq (fun z hz => nomatch hz)), hce, hO.vm, hcl, hWs, hall, hf⟩⟩
  refine st1 _ ?_
  show Steps p.tables e below (T1.setTop { method := m, pc := pc + 3, locals := ls, stack := .ref T.heap.size :: rest, locked := none }) _
  jvm_step X₁.here [X₁.here.top, hexec, d3', Value.category]
  exact X₁.ldcStringW hexec (own := own) (text := text) (index := is) (a := sa) hown' hstr'.1 hstr'.2
    (g := { method := m, pc := pc + 4, locals := ls, stack := .ref T.heap.size :: .ref T.heap.size :: rest, locked := none }) rfl d4' _ hsteps
end Ends
section Bodies
variable {l : Launch}
theorem vx_ofW {y : MethodName} {ws ws' : List Cond} {rm : Room} {Pc : Array Value → State → Prop} {Qc : Array Value → State → Outcome → State → Prop} {XC : String → State → State → Prop} {mc ms : Nat} {free : Addr → Prop} {cc : ByteArray} {maxL : Nat} {ret : Option FieldType}
    (hy : plainName y.cls = true) (hw : ws = Cond.code y cc maxL ret :: ws')
    (body : ∀ p e s m args below meth c s₁, BodyLoose p l y (headSpec ws rm) cc maxL ret e s m args below meth c s₁ → c.maxLocals = maxL → (∀ x ∈ c.exceptionTable.toList, False) → Pc args s →
      W p l e (headSpec ws rm).room s m args below meth c s.heap [] 0 0 (vx_MQ below Qc XC args s mc ms free) (entryFrame m args maxL)) : vx_Met l y ws rm Pc Qc XC mc ms free := by
  refine MetFree.of_bodyS (code := cc) (maxLocals := maxL) (ret := ret) hy ?_ ?_
  · intro args s m h hn
    obtain ⟨meth, c, h1, h2, h3, h4, h5, h6, -, -⟩ := Cond.code_spec hn (atoms_spec (ws := ws) h _ (by rw [hw]; exact List.mem_cons_self))
    exact ⟨meth, c, h1, h2, h3, h4, h5, h6⟩
  · intro p e s m args below meth c s₁ B hml hP _
    have hh0 : s₁.heap = s.heap := by rw [B.state]; rfl
    have ht : ∀ x ∈ c.exceptionTable.toList, False := by
      obtain ⟨meth9, c9, h1, h2, -, -, -, -, h7, -⟩ := Cond.code_spec B.named (atoms_spec (ws := ws) B.pre _ (by rw [hw]; exact List.mem_cons_self))
      cases Option.some.inj (h1.symm.trans B.method)
      cases Option.some.inj (h2.symm.trans (Stand.of_body B).code)
      intro x hx
      rw [Array.isEmpty_iff.mp h7] at hx
      cases hx
    obtain ⟨t, a1, o, b1, b2, b3⟩ := body p e s m args below meth c s₁ B hml ht hP s₁ hh0 (Stand.of_body B)
    exact ⟨t, o, a1, b1, b2, b3⟩
/-- the table of a body with handlers -/
theorem vx_table {p : Program} {x y : MethodName} {S : Spec} {cc bytes : ByteArray} {maxL maxL' : Nat} {ret ret' : Option FieldType} {e : Env} {s s₁ : State} {m : MethodId} {args : Array Value} {below : List Frame} {meth : Method} {c : Code} {hh : List (Nat × Nat × Nat × Nat)}
    (B : BodyLoose p l y S cc maxL ret e s m args below meth c s₁) (h : (Cond.codeWith y bytes maxL' ret' hh).before args s = true) : c.exceptionTable.toList = tableOf hh := by
  obtain ⟨m9, meth9, c9, hn9, h1, h2, -, -, h6, -⟩ := Cond.codeWith_spec h
  cases Option.some.inj (hn9.symm.trans B.named)
  cases Option.some.inj (h1.symm.trans B.method)
  cases Option.some.inj (h2.symm.trans (Stand.of_body B).code)
  rw [← h6, table_eq]
end Bodies
end VXA
/-! ===== END ===== -/
/-! ===== BEGIN a static call of a method with an exception table ===== -/
section VXS
variable {p : Program} {l : Launch} {e : Env} {R : Room} {s : State} {m : MethodId} {args : Array Value} {below : List Frame} {meth : Method} {c : Code} {T : State} {H : Heap} {locs : List Loc} {cells slots : Nat}
abbrev vx_CSW (R : Room) (s : State) (args : Array Value) (own : String) (index : Nat) (y : MethodName) (bytes : ByteArray) (maxL : Nat) (ret : Option FieldType) (hh : List (Nat × Nat × Nat × Nat)) (ws : List Cond) (rm : Room) (mc ms n : Nat) : Prop :=
  (rm.cells = mc ∧ rm.slots = ms ∧ rm.frames + 1 ≤ R.frames ∧ 8 + (maxL + 11) + rm.locals ≤ R.locals ∧ (∀ w ∈ ws, ∀ (a' : Array Value) (U : State), s.WarmedH U.vm → w.before a' U = true) ∧ Cond.codeWith y bytes maxL ret hh ∈ ws) ∧
  (Cond.codeWith y bytes maxL ret hh).before args s = true ∧ (Cond.initialized y.cls).before args s = true ∧ (y.cls ≠ "java/lang/invoke/MethodHandle" ∧ y.cls ≠ "java/lang/invoke/VarHandle") ∧
  (∀ sig, parseMethodDescriptor y.desc = some sig → n = sig.parameters.length) ∧ (Cond.methodLink own index y).before args s = true ∧ (Cond.static y).before args s = true
theorem vx_cwSW {own : String} {index maxL mc ms : Nat} {y : MethodName} {bytes : ByteArray} {ret : Option FieldType} {hh : List (Nat × Nat × Nat × Nat)} {Ts ws ws' : List Cond} {rm : Room} (n : Nat) (ht : ∀ w ∈ Ts, w.before args s = true) (hT : GoodIn Ts (va_wsS own index y ws)) (hw : ws = Cond.codeWith y bytes maxL ret hh :: ws') (hrc : rm.cells = mc) (hrs : rm.slots = ms)
    (hd : y.cls ≠ "java/lang/invoke/MethodHandle" ∧ y.cls ≠ "java/lang/invoke/VarHandle" ∧ (parseMethodDescriptor y.desc).map (fun d => d.parameters.length) = some n) (hR : rm.frames + 1 ≤ R.frames ∧ 8 + (maxL + 11) + rm.locals ≤ R.locals) :
    vx_CSW R s args own index y bytes maxL ret hh ws rm mc ms n := by
  have ok : ∀ w ∈ va_wsS own index y ws, w.before args s = true := fun w h => ht w (hT w h).1
  have hG : GoodIn Ts ws := fun w h => hT w (by unfold va_wsS; exact List.mem_append_right _ h)
  have hc : Cond.codeWith y bytes maxL ret hh ∈ ws := by rw [hw]; exact List.mem_cons_self
  refine ⟨⟨hrc, hrs, hR.1, hR.2, pay_in ht hG, hc⟩, ht _ (hG _ hc).1, ok _ (by simp [va_wsS]), ⟨hd.1, hd.2.1⟩, fun sig h => ?_, ok _ (by simp [va_wsS]), ok _ (by simp [va_wsS])⟩
  have h2 := hd.2.2
  rw [h] at h2
  exact (Option.some.inj h2).symm
theorem vx_callSW (X : Stand p l e R s m args below meth c T locs cells slots) (hexec : p.tables.exec = Jvm.exec) {own : String} {index : Nat} {y : MethodName} {bytes : ByteArray} {maxL : Nat} {ret : Option FieldType} {hh : List (Nat × Nat × Nat × Nat)}
    (hown : s.vm.findClass own = some m.cls) (hlink : (Cond.methodLink own index y).before args s = true) (hstat : (Cond.static y).before args s = true) (hinit : (Cond.initialized y.cls).before args s = true)
    (hcode : (Cond.codeWith y bytes maxL ret hh).before args s = true) (hy : y.cls ≠ "java/lang/invoke/MethodHandle" ∧ y.cls ≠ "java/lang/invoke/VarHandle")
    {W9 : Nat} {Pre : Pt → Array Value → Prop} {Post : Pt → Array Value → Option Value → Pt → Prop} (hK : Back l R p e below s args y 3 W9 Pre Post)
    {g : JFrame} (hg : g.method = m) (hsize : g.locals.size = c.maxLocals) {argsL rest : List Value} (hlen : ∀ sig, parseMethodDescriptor y.desc = some sig → argsL.length = sig.parameters.length)
    (hstack : g.stack = argsL.reverse ++ rest) (hW : 2 * g.monitorRoom + (rest.map fun v => v.category).sum ≤ W9) (hdg : decode c.code g.pc = .ok (.invokestatic index, 3))
    (hpre : ∀ vm₁, s.WarmedH vm₁ → Pre ⟨T.setVm vm₁, locs, cells, slots⟩ argsL.toArray) :
    ∃ (v : Option Value) (vm₁ : Vm) (B : Pt), s.WarmedH vm₁ ∧ Stand p l e R s m args below meth c B.U B.locs B.cells B.slots ∧ Post ⟨T.setVm vm₁, locs, cells, slots⟩ argsL.toArray v B ∧
      ∀ target, Steps p.tables e below (B.U.setTop { g with pc := g.pc + 3, stack := v.toList ++ rest }) target → Steps p.tables e below (T.setTop g) target := by
  obtain ⟨mk, methM, cM, hnamed, hmethM, -, -, -, -, -, -, hsigM⟩ := Cond.codeWith_spec hcode
  have hstatic : methM.isStatic = true := Cond.static_spec hnamed hmethM hstat
  obtain ⟨kP, hkP, -⟩ := className_of_methodNamed hnamed
  have hinitP : kP.init = .initialized := Cond.initialized_spec (findClass_of_methodNamed hnamed) hkP hinit
  obtain ⟨vm₁, X₁, hstep₁⟩ := X.invokestatic hexec hown hlink hnamed hmethM hstatic hkP hinitP hy (g := g) hg (argsL := argsL) (rest := rest) (hlen _ hsigM) hstack hdg
  obtain ⟨v, B, X', hpost, hsteps⟩ := hK m meth c ⟨T.setVm vm₁, locs, cells, slots⟩ { g with stack := rest } (.invokestatic index) mk argsL.toArray X₁ hg hsize hdg hW (X₁.named hnamed) (hpre vm₁ X₁.warmed)
  exact ⟨v, vm₁, B, X₁.warmed, X', hpost, fun target h => hstep₁ _ fun acts => by rw [doInvoke_state]; exact hsteps.trans h⟩
theorem vx_runSW {y : MethodName} {bytes cc : ByteArray} {maxL nL mc ms n index : Nat} {ret : Option FieldType} {hh : List (Nat × Nat × Nat × Nat)} {ws : List Cond} {rm : Room} {Pc : Array Value → State → Prop} {Qc : Array Value → State → Outcome → State → Prop} {free : Addr → Prop} {Ts : List Cond} {own : String} {As rest : List Value} {g : JFrame}
    (S : CallFix p m c cc nL s args Ts own) (hM : Met l y ws rm Pc Qc mc ms free) (cw : vx_CSW R s args own index y bytes maxL ret hh ws rm mc ms n) (hp : PreS s H Pc As)
    (hg : g.method = m) (hn : As.length = n) (hsize : g.locals.size = nL) (hstack : g.stack = As.reverse ++ rest) (hW : 2 * g.monitorRoom + (rest.map fun v => v.category).sum ≤ 8) (hdg : decode cc g.pc = .ok (.invokestatic index, 3)) (hf : cells + mc ≤ R.cells ∧ slots + ms ≤ R.slots) :
    va_Run p l e R s m args below meth c H locs cells slots mc ms g rest (Qc As.toArray) (free) := by
  obtain ⟨⟨hrc, hrs, hfr, hlo, hws, hcw⟩, hcode, hini, hy, hlen, hl, hstt⟩ := cw
  have hK : Back l R p e below s args y 3 8 (PreOf R mc ms Pc) (PostOf Qc mc ms free) := va_backW (hh := hh) (bytes := bytes) (maxL := maxL) (ret := ret) hM hp.1 hrc hrs hfr hlo hws hcw (fun a' U hW => word_at hW (Or.inl (by first | rfl | simp [Cond.onTables, Cond.keeps, Cond.steady])) hini)
  obtain ⟨hx, hb, hml, ho, -⟩ := S
  intro T hT X
  obtain ⟨v, vm₁, ⟨U', l2, c2, s2⟩, hW₁, X', ⟨g', mk, t, L, e1, e2, hq, h1, hL, h2, h3⟩, st⟩ := vx_callSW X hx (hh := hh) (bytes := bytes) (maxL := maxL) (ret := ret) ho hl hstt hini hcode hy hK hg (hsize.trans hml.symm) (argsL := As) (rest := rest) (fun sig h => hn.trans (hlen sig h)) hstack hW (by rw [hb]; exact hdg)
    (fun vm₁ hW₁ => ⟨hf.1, hf.2, hp.2 (T.setVm vm₁) hT hW₁⟩)
  dsimp only [Pt.U, Pt.locs, Pt.cells, Pt.slots] at X' e1 e2 h1 h2 h3 st
  subst h1; subst h2; subst h3
  exact ⟨v, (T.setVm vm₁).calling g' mk As.toArray, t, U', L, hT, X', hL, e1, e2, hq, st⟩
/-- not caught here, past rows that name other classes: it goes on to the caller -/
theorem vx_outP {p : Program} {l : Launch} {e : Env} {R : Room} {s : State} {m : MethodId} {args : Array Value} {below : List Frame} {meth : Method} {c : Code} {H : Heap} {locs : List Loc} {cells slots : Nat} {free : Addr → Prop} {ls : Array Slot} {rest : List Value} {Qc : Array Value → State → Outcome → State → Prop} {XC : String → State → State → Prop}
    {pc : Nat} {own E : String} {ce : Cell} {q : Addr} {mc ms : Nat} (hown : s.vm.findClass own = some m.cls) (hlocks : meth.locks = false)
    (hpass : ∀ z ∈ c.exceptionTable.toList, covers z pc = false ∨ (z.catchType ≠ 0 ∧ ∃ nm : String, (Cond.classLink own z.catchType nm).before args s = true ∧ va_Nc E nm s)) (hcell : H[q]? = some ce) (hv : ce.vm = .none) (hcl : s.vm.findClass E = some ce.cls)
    (hx : ∀ t : State, t.heap = H → s.vm.Alike t.vm → XC E s t) (hf : ∀ z ∈ locs, free z.base) (hc : cells ≤ mc) (hs : slots ≤ ms) :
    vx_W p l e R s m args below meth c H locs cells slots (vx_MQ below Qc XC args s mc ms free) (F0 m pc ls rest) q := by
  intro T hT X
  have hpl : e.platform.magicAccessors = ({} : Platform).magicAccessors := by rw [X.admits.platform]
  obtain ⟨vm', hW', X', st⟩ := X.outThrough hlocks q (g := F0 m pc ls rest) rfl rfl rfl (cell := ce) (by rw [hT]; exact hcell) (by rw [hv]; rfl)
    (by obtain ⟨k9, h9, -⟩ := Vm.findClass_spec hcl; exact ⟨k9, h9⟩) (fun z hz => by
      rcases hpass z hz with h | ⟨hz0, nm, hl1, hn1⟩
      · exact Or.inl h
      · obtain ⟨c6, hc6, hcl6⟩ := Cond.classLink_spec hown hl1 e.platform hpl
        obtain ⟨a8, b8, h1, h2, h3⟩ := hn1
        cases Option.some.inj (h1.symm.trans hcl)
        cases Option.some.inj (h2.symm.trans hc6)
        exact Or.inr ⟨hz0, _, hcl6, h3⟩)
  obtain ⟨g₀, hfr⟩ := X'.frames_eq
  have hcell9 : ((T.setVm vm').setFrames (.throwing q :: below)).heap[q]? = some ce := by
    show T.heap[q]? = some ce
    rw [hT]; exact hcell
  have hend : Ended ((T.setVm vm').setFrames (.throwing q :: below)) below (.threw q) := State.frames_setFrames _ (State.cur_lt_of_frames hfr)
  refine ⟨(T.setVm vm').setFrames (.throwing q :: below), ?_, .threw q, X'.here.running, hend, Or.inr ⟨q, rfl, E, ce, locs, hx _ hT (X'.ends _).1.alike, hcell9, hv, hcl, (X'.ends _).1, (X'.ends _).2.mono hc hs, hf⟩⟩
  rw [X.pushThrowing_eq]
  exact st
/-- a thing of a world lies in the heap -/
theorem vx_lt {D : va_G} {cl : List vw_C} {ws : va_W} {H1 : Heap} (h : va_P D cl ws H1) {k : Nat} {q : Nat × va_E} (hk : ws[k]? = some q) : q.1 < H1.size := (h k q hk).lt
end VXS
/-! ===== END ===== -/
/-! ===== BEGIN methods with a table of their own: called by a name, returning or throwing ===== -/
section VXH
/-! vx_backW, vx_callVX, vx_callSX, vx_callVW, vx_runVW, vx_runVX, vx_runSX, vx_ofWH follow the same proofs as their sisters above (Free/Laws.lean, Shelf42/LK1.lean); vx_outP calls Shelf42/NT130.lean (outThrough). -/
section
variable {l : Launch} {R : Room} {p : Program} {e : Env} {below : List Frame} {s : State} {sargs : Array Value} {y : MethodName} {len W9 : Nat}
theorem vx_backW {ws : List Cond} {rm : Room} {Pc : Array Value → State → Prop} {Qc : Array Value → State → Outcome → State → Prop} {XC : String → State → State → Prop} {mc ms : Nat} {free : Addr → Prop} {bytes : ByteArray} {maxL : Nat} {ret : Option FieldType} {hh : List (Nat × Nat × Nat × Nat)}
    (hM : vx_Met l y ws rm Pc Qc XC mc ms free) (hblind : FrameBlind Pc) (hrc : rm.cells = mc) (hrs : rm.slots = ms)
    (hframes : rm.frames + 1 ≤ R.frames) (hlocals : W9 + (maxL + 11) + rm.locals ≤ R.locals)
    (hws : ∀ w ∈ ws, ∀ a' U, s.WarmedH U.vm → w.before a' U = true) (hcode : Cond.codeWith y bytes maxL ret hh ∈ ws) (hinit : ∀ a' U, s.WarmedH U.vm → (Cond.initialized y.cls).before a' U = true) :
    vx_Back l R p e below s sargs y len W9 (PreOf R mc ms Pc) (PostOf Qc mc ms free) (vx_Post XC mc ms free) := by
  intro m meth c A g ig mk a X hg hsize hdg hW hn hp
  have h1 : (headSpec ws rm).pre.before a A.U = true := atoms_intro fun w hw => hws w hw _ _ X.warmed
  have h2 : (Cond.codeWith y bytes maxL ret hh).before a A.U = true := hws _ hcode _ _ X.warmed
  have h3 : (Cond.initialized y.cls).before a A.U = true := hinit _ _ X.warmed
  have h4 : A.cells + (headSpec ws rm).room.cells ≤ R.cells := by rw [show (headSpec ws rm).room.cells = mc from hrc]; exact hp.1
  have h5 : A.slots + (headSpec ws rm).room.slots ≤ R.slots := by rw [show (headSpec ws rm).room.slots = ms from hrs]; exact hp.2.1
  have hPc : Pc a (A.U.calling g mk a) := hblind _ _ _ _ hp.2.2
  obtain ⟨U, Ls, c0, s0⟩ := A
  dsimp only [Pt.U, Pt.locs, Pt.cells, Pt.slots] at h1 h2 h3 h4 h5 X hn hPc ⊢
  obtain ⟨m9, methY, cY, hn9, hmY, hcY, -, hlY, -⟩ := Cond.codeWith_spec h2
  cases Option.some.inj (hn9.symm.trans hn)
  obtain ⟨kY, hkY, -⟩ := className_of_methodNamed hn
  have hinitY : kY.init = .initialized := Cond.initialized_spec (findClass_of_methodNamed hn) hkY h3
  have h : At U g.method c below := by rw [hg]; exact X.here
  have hlocals9 : W9 + (maxL + 11) + (headSpec ws rm).room.locals ≤ R.locals := hlocals
  have happ : (headSpec ws rm).appliesLoose y e.platform (U.calling g mk a) = true :=
    Spec.appliesLoose_calling (g := g) h hdg hn hkY hinitY
      (X.room_calling (g := g) (R' := (headSpec ws rm).room) hsize hmY hcY hframes (by rw [hlY]; omega) h4 h5) h1
  obtain ⟨mid, hmid⟩ := h.above
  have hfr : (U.setTop g).frames = (.java g :: mid) ++ below := by rw [State.frames_setTop' g h.top, hmid]; rfl
  obtain ⟨o, s₂, hsteps, -, hend, hq⟩ := Steps.callFree hM p X.admits X.cas X.clock (acts := []) hfr happ hPc trivial
  have hq' : vx_Q Qc XC mc ms free a (U.calling g mk a) o s₂ := hq
  rw [State.frames_setTop' g h.top] at hend
  obtain ⟨g₀, hg0⟩ := Option.isSome_iff_exists.mp h.top
  obtain ⟨r, hr⟩ := State.topJava?_eq_some.mp hg0
  have hr' : (({ U with heap := s₂.heap, slotsUsed := s₂.slotsUsed } : State).setVm s₂.vm).frames = .java g₀ :: r := hr
  rcases hq' with ⟨hqc, L, hfe, hL⟩ | ⟨q, rfl, E, ce, L, hx, hce, hcv, hcl, hW₂, hsm, hL⟩
  · obtain ⟨⟨v, rfl⟩, hW₂, e2, q2, q3, q4, q5, q6⟩ := id hfe
    have e3 : s₂ = ({ (U.calling g mk a).setFrames s₂.frames with heap := s₂.heap, slotsUsed := s₂.slotsUsed } : State).setVm s₂.vm := by
      have : s₂ = ({ s₂ with vm := (U.calling g mk a).vm } : State).setVm s₂.vm := rfl
      rw [e2] at this
      exact this
    obtain ⟨c₂, i₂, len₂, hc₂, hd₂, hf₂⟩ := hend
    have hW' : U.WarmedH s₂.vm := hW₂
    have hcc : c₂ = c := by
      have h1 : s₂.code? g.method = U.code? g.method := by
        rw [State.code?_eq, State.code?_eq, hW'.alike.method?]
      exact Option.some.inj (hc₂.symm.trans (h1.trans h.code))
    subst hcc
    have hlen : len₂ = len := by rw [hdg] at hd₂; cases hd₂; rfl
    subst hlen
    have hs₂ : s₂ = (({ U with heap := s₂.heap, slotsUsed := s₂.slotsUsed } : State).setVm s₂.vm).setTop { g with pc := g.pc + len₂, stack := v.toList ++ g.stack } := by
      refine e3.trans ?_
      rw [hf₂, State.calling_eq h.top, State.setFrames_setFrames, State.setTop_of_frames _ hr', hr]
      rfl
    have hsame : U.sameButNew ({ U with heap := s₂.heap, slotsUsed := s₂.slotsUsed } : State) L mc ms := by
      refine ⟨?_, q2, q3, q4, q5, q6⟩
      obtain ⟨t, ht, -⟩ := State.frames_cons hr
      show ({ U with heap := s₂.heap, slotsUsed := s₂.slotsUsed } : State) = { U.setFrames U.frames with heap := s₂.heap, slotsUsed := s₂.slotsUsed }
      rw [State.setFrames_self ht]
    subst hg
    refine Or.inl ⟨v, ⟨(({ U with heap := s₂.heap, slotsUsed := s₂.slotsUsed } : State).setVm s₂.vm), Ls ++ L, c0 + mc, s0 + ms⟩,
      ⟨X.admits, X.cas, X.clock, X.frames, X.room, X.hears, X.method, X.code, (X.here.setHeapUsed s₂.heap s₂.slotsUsed).setVm hW'.alike, X.tail, State.WarmedH.trans X.warmed hW', X.limits, X.bytes, X.same.trans (hsame.setVm s.vm)⟩,
      ⟨g, mk, s₂, L, rfl, rfl, hqc, rfl, hL, rfl, rfl⟩, ?_⟩
    show Steps p.tables e below _ ((({ U with heap := s₂.heap, slotsUsed := s₂.slotsUsed } : State).setVm s₂.vm).setTop { g with pc := g.pc + len₂, stack := v.toList ++ g.stack })
    rw [← hs₂]
    exact hsteps
  · obtain ⟨e2, q2, q3, q4, q5, q6⟩ := id hsm
    have e3 : s₂ = ({ (U.calling g mk a).setFrames s₂.frames with heap := s₂.heap, slotsUsed := s₂.slotsUsed } : State).setVm s₂.vm := by
      have : s₂ = ({ s₂ with vm := (U.calling g mk a).vm } : State).setVm s₂.vm := rfl
      rw [e2] at this
      exact this
    have hf₂ : s₂.frames = .throwing q :: .java g :: U.frames.tail := hend
    have hW' : U.WarmedH s₂.vm := hW₂
    have hs₂ : s₂ = ((({ U with heap := s₂.heap, slotsUsed := s₂.slotsUsed } : State).setVm s₂.vm).setTop g).pushFrame (.throwing q) := by
      refine e3.trans ?_
      rw [hf₂, State.calling_eq h.top, State.setFrames_setFrames, State.pushFrame, State.frames_setTop _ hr', State.setTop_of_frames _ hr', State.setFrames_setFrames, hr]
      rfl
    have hsame : U.sameButNew ({ U with heap := s₂.heap, slotsUsed := s₂.slotsUsed } : State) L mc ms := by
      refine ⟨?_, q2, q3, q4, q5, q6⟩
      obtain ⟨t, ht, -⟩ := State.frames_cons hr
      show ({ U with heap := s₂.heap, slotsUsed := s₂.slotsUsed } : State) = { U.setFrames U.frames with heap := s₂.heap, slotsUsed := s₂.slotsUsed }
      rw [State.setFrames_self ht]
    subst hg
    refine Or.inr ⟨q, ⟨(({ U with heap := s₂.heap, slotsUsed := s₂.slotsUsed } : State).setVm s₂.vm), Ls ++ L, c0 + mc, s0 + ms⟩,
      ⟨X.admits, X.cas, X.clock, X.frames, X.room, X.hears, X.method, X.code, (X.here.setHeapUsed s₂.heap s₂.slotsUsed).setVm hW'.alike, X.tail, State.WarmedH.trans X.warmed hW', X.limits, X.bytes, X.same.trans (hsame.setVm s.vm)⟩,
      ⟨g, mk, s₂, L, E, ce, rfl, rfl, hx, hce, hcv, hcl, rfl, hL, rfl, rfl⟩, ?_⟩
    show Steps p.tables e below _ (((({ U with heap := s₂.heap, slotsUsed := s₂.slotsUsed } : State).setVm s₂.vm).setTop g).pushFrame (.throwing q))
    rw [← hs₂]
    exact hsteps
end
variable {p : Program} {l : Launch} {e : Env} {R : Room} {s : State} {m : MethodId} {args : Array Value} {below : List Frame} {meth : Method} {c : Code} {T : State} {H : Heap} {locs : List Loc} {cells slots : Nat}
theorem vx_callVX (X : Stand p l e R s m args below meth c T locs cells slots) (hexec : p.tables.exec = Jvm.exec) {own C : String} {index : Nat} {y : MethodName} {bytes : ByteArray} {maxL : Nat} {ret : Option FieldType} {hh : List (Nat × Nat × Nat × Nat)}
    (hown : s.vm.findClass own = some m.cls) (hlink : (Cond.methodLink own index y).before args s = true) (hinst : (Cond.instanceMethod y).before args s = true) (hsel : (Cond.selects C y y).before args s = true)
    (hcode : (Cond.codeWith y bytes maxL ret hh).before args s = true) (hy : y.cls ≠ "java/lang/invoke/MethodHandle" ∧ y.cls ≠ "java/lang/invoke/VarHandle")
    {W9 : Nat} {Pre : Pt → Array Value → Prop} {Post : Pt → Array Value → Option Value → Pt → Prop} {PostX : Pt → Array Value → Addr → Pt → Prop} (hK : vx_Back l R p e below s args y 3 W9 Pre Post PostX)
    {b : Addr} {cellB : Cell} (hcell : T.heap[b]? = some cellB) (hobj : cellB.vm.isStatics = false) (hcls : s.vm.findClass C = some cellB.cls)
    {g : JFrame} (hg : g.method = m) (hsize : g.locals.size = c.maxLocals) {argsL rest : List Value} (hlen : ∀ sig, parseMethodDescriptor y.desc = some sig → argsL.length = sig.parameters.length)
    (hstack : g.stack = argsL.reverse ++ .ref b :: rest) (hW : 2 * g.monitorRoom + (rest.map fun v => v.category).sum ≤ W9) (hdg : decode c.code g.pc = .ok (.invokevirtual index, 3))
    (hpre : ∀ vm₁, s.WarmedH vm₁ → Pre ⟨T.setVm vm₁, locs, cells, slots⟩ (Value.ref b :: argsL).toArray) :
    (∃ (v : Option Value) (vm₁ : Vm) (B : Pt), s.WarmedH vm₁ ∧ Stand p l e R s m args below meth c B.U B.locs B.cells B.slots ∧ Post ⟨T.setVm vm₁, locs, cells, slots⟩ (Value.ref b :: argsL).toArray v B ∧
      ∀ target, Steps p.tables e below (B.U.setTop { g with pc := g.pc + 3, stack := v.toList ++ rest }) target → Steps p.tables e below (T.setTop g) target) ∨
    (∃ (q : Addr) (vm₁ : Vm) (B : Pt), s.WarmedH vm₁ ∧ Stand p l e R s m args below meth c B.U B.locs B.cells B.slots ∧ PostX ⟨T.setVm vm₁, locs, cells, slots⟩ (Value.ref b :: argsL).toArray q B ∧
      Steps p.tables e below (T.setTop g) ((B.U.setTop { g with stack := rest }).pushFrame (.throwing q))) := by
  obtain ⟨mk, methM, hnamed, hmethM, hstM, habM⟩ := Cond.instanceMethod_spec hinst
  obtain ⟨m8, methM', cM, hn8, hmethM', -, -, -, -, -, -, hsigM⟩ := Cond.codeWith_spec hcode
  cases Option.some.inj (hn8.symm.trans hnamed)
  cases hmethM.symm.trans hmethM'
  obtain ⟨c2, r2, m2, q1, q2, q3, q4, kP, hkP, hkPi⟩ := Cond.selects_spec hsel
  cases hcls.symm.trans q1
  cases (State.methodFound?_of_named hnamed hy).symm.trans q2
  cases hnamed.symm.trans q3
  have hselP : selectMethod e.platform s.vm cellB.cls mk = .method mk := by rw [Launch.admits_selectMethod X.admits]; exact q4
  obtain ⟨vm₁, X₁, hstep₁⟩ := X.invokevirtual hexec hown hlink hnamed hmethM hstM hkP hkPi hy (a := b) (cell := cellB) hcell
    (fun z h => by rw [h] at hobj; cases hobj) hselP hmethM habM hkP hkPi (g := g) hg (argsL := argsL) (rest := rest) (hlen _ hsigM) hstack hdg
  rcases hK m meth c ⟨T.setVm vm₁, locs, cells, slots⟩ { g with stack := rest } (.invokevirtual index) mk (Value.ref b :: argsL).toArray X₁ hg hsize hdg hW (X₁.named hnamed) (hpre vm₁ X₁.warmed) with ⟨v, B, X', hpost, hsteps⟩ | ⟨q, B, X', hpost, hsteps⟩
  · exact Or.inl ⟨v, vm₁, B, X₁.warmed, X', hpost, fun target h => hstep₁ _ fun acts => by rw [doInvoke_state]; exact hsteps.trans h⟩
  · exact Or.inr ⟨q, vm₁, B, X₁.warmed, X', hpost, hstep₁ _ fun acts => by rw [doInvoke_state]; exact hsteps⟩
theorem vx_callSX (X : Stand p l e R s m args below meth c T locs cells slots) (hexec : p.tables.exec = Jvm.exec) {own : String} {index : Nat} {y : MethodName} {bytes : ByteArray} {maxL : Nat} {ret : Option FieldType} {hh : List (Nat × Nat × Nat × Nat)}
    (hown : s.vm.findClass own = some m.cls) (hlink : (Cond.methodLink own index y).before args s = true) (hstat : (Cond.static y).before args s = true) (hinit : (Cond.initialized y.cls).before args s = true)
    (hcode : (Cond.codeWith y bytes maxL ret hh).before args s = true) (hy : y.cls ≠ "java/lang/invoke/MethodHandle" ∧ y.cls ≠ "java/lang/invoke/VarHandle")
    {W9 : Nat} {Pre : Pt → Array Value → Prop} {Post : Pt → Array Value → Option Value → Pt → Prop} {PostX : Pt → Array Value → Addr → Pt → Prop} (hK : vx_Back l R p e below s args y 3 W9 Pre Post PostX)
    {g : JFrame} (hg : g.method = m) (hsize : g.locals.size = c.maxLocals) {argsL rest : List Value} (hlen : ∀ sig, parseMethodDescriptor y.desc = some sig → argsL.length = sig.parameters.length)
    (hstack : g.stack = argsL.reverse ++ rest) (hW : 2 * g.monitorRoom + (rest.map fun v => v.category).sum ≤ W9) (hdg : decode c.code g.pc = .ok (.invokestatic index, 3))
    (hpre : ∀ vm₁, s.WarmedH vm₁ → Pre ⟨T.setVm vm₁, locs, cells, slots⟩ argsL.toArray) :
    (∃ (v : Option Value) (vm₁ : Vm) (B : Pt), s.WarmedH vm₁ ∧ Stand p l e R s m args below meth c B.U B.locs B.cells B.slots ∧ Post ⟨T.setVm vm₁, locs, cells, slots⟩ argsL.toArray v B ∧
      ∀ target, Steps p.tables e below (B.U.setTop { g with pc := g.pc + 3, stack := v.toList ++ rest }) target → Steps p.tables e below (T.setTop g) target) ∨
    (∃ (q : Addr) (vm₁ : Vm) (B : Pt), s.WarmedH vm₁ ∧ Stand p l e R s m args below meth c B.U B.locs B.cells B.slots ∧ PostX ⟨T.setVm vm₁, locs, cells, slots⟩ argsL.toArray q B ∧
      Steps p.tables e below (T.setTop g) ((B.U.setTop { g with stack := rest }).pushFrame (.throwing q))) := by
  obtain ⟨mk, methM, cM, hnamed, hmethM, -, -, -, -, -, -, hsigM⟩ := Cond.codeWith_spec hcode
  have hstatic : methM.isStatic = true := Cond.static_spec hnamed hmethM hstat
  obtain ⟨kP, hkP, -⟩ := className_of_methodNamed hnamed
  have hinitP : kP.init = .initialized := Cond.initialized_spec (findClass_of_methodNamed hnamed) hkP hinit
  obtain ⟨vm₁, X₁, hstep₁⟩ := X.invokestatic hexec hown hlink hnamed hmethM hstatic hkP hinitP hy (g := g) hg (argsL := argsL) (rest := rest) (hlen _ hsigM) hstack hdg
  rcases hK m meth c ⟨T.setVm vm₁, locs, cells, slots⟩ { g with stack := rest } (.invokestatic index) mk argsL.toArray X₁ hg hsize hdg hW (X₁.named hnamed) (hpre vm₁ X₁.warmed) with ⟨v, B, X', hpost, hsteps⟩ | ⟨q, B, X', hpost, hsteps⟩
  · exact Or.inl ⟨v, vm₁, B, X₁.warmed, X', hpost, fun target h => hstep₁ _ fun acts => by rw [doInvoke_state]; exact hsteps.trans h⟩
  · exact Or.inr ⟨q, vm₁, B, X₁.warmed, X', hpost, hstep₁ _ fun acts => by rw [doInvoke_state]; exact hsteps⟩
theorem vx_callVW (X : Stand p l e R s m args below meth c T locs cells slots) (hexec : p.tables.exec = Jvm.exec) {own C : String} {index : Nat} {y : MethodName} {bytes : ByteArray} {maxL : Nat} {ret : Option FieldType} {hh : List (Nat × Nat × Nat × Nat)}
    (hown : s.vm.findClass own = some m.cls) (hlink : (Cond.methodLink own index y).before args s = true) (hinst : (Cond.instanceMethod y).before args s = true) (hsel : (Cond.selects C y y).before args s = true)
    (hcode : (Cond.codeWith y bytes maxL ret hh).before args s = true) (hy : y.cls ≠ "java/lang/invoke/MethodHandle" ∧ y.cls ≠ "java/lang/invoke/VarHandle")
    {W9 : Nat} {Pre : Pt → Array Value → Prop} {Post : Pt → Array Value → Option Value → Pt → Prop} (hK : Back l R p e below s args y 3 W9 Pre Post)
    {b : Addr} {cellB : Cell} (hcell : T.heap[b]? = some cellB) (hobj : cellB.vm.isStatics = false) (hcls : s.vm.findClass C = some cellB.cls)
    {g : JFrame} (hg : g.method = m) (hsize : g.locals.size = c.maxLocals) {argsL rest : List Value} (hlen : ∀ sig, parseMethodDescriptor y.desc = some sig → argsL.length = sig.parameters.length)
    (hstack : g.stack = argsL.reverse ++ .ref b :: rest) (hW : 2 * g.monitorRoom + (rest.map fun v => v.category).sum ≤ W9) (hdg : decode c.code g.pc = .ok (.invokevirtual index, 3))
    (hpre : ∀ vm₁, s.WarmedH vm₁ → Pre ⟨T.setVm vm₁, locs, cells, slots⟩ (Value.ref b :: argsL).toArray) :
    ∃ (v : Option Value) (vm₁ : Vm) (B : Pt), s.WarmedH vm₁ ∧ Stand p l e R s m args below meth c B.U B.locs B.cells B.slots ∧ Post ⟨T.setVm vm₁, locs, cells, slots⟩ (Value.ref b :: argsL).toArray v B ∧
      ∀ target, Steps p.tables e below (B.U.setTop { g with pc := g.pc + 3, stack := v.toList ++ rest }) target → Steps p.tables e below (T.setTop g) target := by
  obtain ⟨mk, methM, hnamed, hmethM, hstM, habM⟩ := Cond.instanceMethod_spec hinst
  obtain ⟨m8, methM', cM, hn8, hmethM', -, -, -, -, -, -, hsigM⟩ := Cond.codeWith_spec hcode
  cases Option.some.inj (hn8.symm.trans hnamed)
  cases hmethM.symm.trans hmethM'
  obtain ⟨c2, r2, m2, q1, q2, q3, q4, kP, hkP, hkPi⟩ := Cond.selects_spec hsel
  cases hcls.symm.trans q1
  cases (State.methodFound?_of_named hnamed hy).symm.trans q2
  cases hnamed.symm.trans q3
  have hselP : selectMethod e.platform s.vm cellB.cls mk = .method mk := by rw [Launch.admits_selectMethod X.admits]; exact q4
  obtain ⟨vm₁, X₁, hstep₁⟩ := X.invokevirtual hexec hown hlink hnamed hmethM hstM hkP hkPi hy (a := b) (cell := cellB) hcell
    (fun z h => by rw [h] at hobj; cases hobj) hselP hmethM habM hkP hkPi (g := g) hg (argsL := argsL) (rest := rest) (hlen _ hsigM) hstack hdg
  obtain ⟨v, B, X', hpost, hsteps⟩ := hK m meth c ⟨T.setVm vm₁, locs, cells, slots⟩ { g with stack := rest } (.invokevirtual index) mk (Value.ref b :: argsL).toArray X₁ hg hsize hdg hW (X₁.named hnamed) (hpre vm₁ X₁.warmed)
  exact ⟨v, vm₁, B, X₁.warmed, X', hpost, fun target h => hstep₁ _ fun acts => by rw [doInvoke_state]; exact hsteps.trans h⟩
abbrev vx_CVW (R : Room) (s : State) (args : Array Value) (own C : String) (index : Nat) (y : MethodName) (bytes : ByteArray) (maxL : Nat) (ret : Option FieldType) (hh : List (Nat × Nat × Nat × Nat)) (ws : List Cond) (rm : Room) (mc ms n : Nat) : Prop :=
  (rm.cells = mc ∧ rm.slots = ms ∧ rm.frames + 1 ≤ R.frames ∧ 8 + (maxL + 11) + rm.locals ≤ R.locals ∧ (∀ w ∈ ws, ∀ (a' : Array Value) (U : State), s.WarmedH U.vm → w.before a' U = true) ∧ Cond.codeWith y bytes maxL ret hh ∈ ws) ∧
  (Cond.codeWith y bytes maxL ret hh).before args s = true ∧ (Cond.initialized y.cls).before args s = true ∧ (y.cls ≠ "java/lang/invoke/MethodHandle" ∧ y.cls ≠ "java/lang/invoke/VarHandle") ∧
  (∀ sig, parseMethodDescriptor y.desc = some sig → n = sig.parameters.length) ∧ (Cond.methodLink own index y).before args s = true ∧ (Cond.instanceMethod y).before args s = true ∧ (Cond.selects C y y).before args s = true
theorem vx_cwVW {own C : String} {index maxL mc ms : Nat} {y : MethodName} {bytes : ByteArray} {ret : Option FieldType} {hh : List (Nat × Nat × Nat × Nat)} {Ts ws ws' : List Cond} {rm : Room} (n : Nat) (ht : ∀ w ∈ Ts, w.before args s = true) (hT : GoodIn Ts (wsV own index C y ws)) (hw : ws = Cond.codeWith y bytes maxL ret hh :: ws') (hrc : rm.cells = mc) (hrs : rm.slots = ms)
    (hd : y.cls = C ∧ y.cls ≠ "java/lang/invoke/MethodHandle" ∧ y.cls ≠ "java/lang/invoke/VarHandle" ∧ (parseMethodDescriptor y.desc).map (fun d => d.parameters.length) = some n) (hR : rm.frames + 1 ≤ R.frames ∧ 8 + (maxL + 11) + rm.locals ≤ R.locals) :
    vx_CVW R s args own C index y bytes maxL ret hh ws rm mc ms n := by
  obtain ⟨hC, hd⟩ := hd
  subst hC
  have ok : ∀ w ∈ wsV own index y.cls y ws, w.before args s = true := fun w h => ht w (hT w h).1
  have hG : GoodIn Ts ws := fun w h => hT w (by unfold wsV; exact List.mem_append_right _ h)
  have hc : Cond.codeWith y bytes maxL ret hh ∈ ws := by rw [hw]; exact List.mem_cons_self
  refine ⟨⟨hrc, hrs, hR.1, hR.2, pay_in ht hG, hc⟩, ht _ (hG _ hc).1, ok _ (by simp [wsV]), ⟨hd.1, hd.2.1⟩, fun sig h => ?_, ok _ (by simp [wsV]), ok _ (by simp [wsV]), ok _ (by simp [wsV])⟩
  have h2 := hd.2.2
  rw [h] at h2
  exact (Option.some.inj h2).symm
theorem vx_runVW {y : MethodName} {bytes cc : ByteArray} {maxL nL mc ms n index : Nat} {ret : Option FieldType} {hh : List (Nat × Nat × Nat × Nat)} {ws : List Cond} {rm : Room} {Pc : Array Value → State → Prop} {Qc : Array Value → State → Outcome → State → Prop} {free : Addr → Prop} {Ts : List Cond} {own C : String} {b : Addr} {As rest : List Value} {g : JFrame}
    (S : CallFix p m c cc nL s args Ts own) (hM : Met l y ws rm Pc Qc mc ms free) (cw : vx_CVW R s args own C index y bytes maxL ret hh ws rm mc ms n) (hp : PreV s H C b Pc As)
    (hg : g.method = m) (hn : As.length = n) (hsize : g.locals.size = nL) (hstack : g.stack = As.reverse ++ .ref b :: rest) (hW : 2 * g.monitorRoom + (rest.map fun v => v.category).sum ≤ 8) (hdg : decode cc g.pc = .ok (.invokevirtual index, 3)) (hf : cells + mc ≤ R.cells ∧ slots + ms ≤ R.slots) :
    va_Run p l e R s m args below meth c H locs cells slots mc ms g rest (Qc (Value.ref b :: As).toArray) free := by
  obtain ⟨⟨hrc, hrs, hfr, hlo, hws, hcw⟩, hcode, hini, hy, hlen, hl, hin, hse⟩ := cw
  have hK : Back l R p e below s args y 3 8 (PreOf R mc ms Pc) (PostOf Qc mc ms free) := va_backW (hh := hh) (bytes := bytes) (maxL := maxL) (ret := ret) hM hp.1 hrc hrs hfr hlo hws hcw (fun a' U hW => word_at hW (Or.inl (by first | rfl | simp [Cond.onTables, Cond.keeps, Cond.steady])) hini)
  obtain ⟨hx, hb, hml, ho, -⟩ := S
  obtain ⟨-, ⟨cellB, hcB, hoB, hclB⟩, hPc⟩ := hp
  intro T hT X
  obtain ⟨v, vm₁, ⟨U', l2, c2, s2⟩, hW₁, X', ⟨g', mk, t, L, e1, e2, hq, h1, hL, h2, h3⟩, st⟩ := vx_callVW X hx (C := C) (hh := hh) (bytes := bytes) (maxL := maxL) (ret := ret) ho hl hin hse hcode hy hK (by rw [hT]; exact hcB) hoB hclB hg (hsize.trans hml.symm) (argsL := As) (rest := rest) (fun sig h => hn.trans (hlen sig h)) hstack hW (by rw [hb]; exact hdg)
    (fun vm₁ hW₁ => ⟨hf.1, hf.2, hPc (T.setVm vm₁) hT hW₁⟩)
  dsimp only [Pt.U, Pt.locs, Pt.cells, Pt.slots] at X' e1 e2 h1 h2 h3 st
  subst h1; subst h2; subst h3
  exact ⟨v, (T.setVm vm₁).calling g' mk (Value.ref b :: As).toArray, t, U', L, hT, X', hL, e1, e2, hq, st⟩
section
variable {y : MethodName} {bytes cc : ByteArray} {maxL nL mc ms n index : Nat} {ret : Option FieldType} {ws : List Cond} {rm : Room} {Pc : Array Value → State → Prop} {Qc : Array Value → State → Outcome → State → Prop} {XC : String → State → State → Prop} {free : Addr → Prop} {Ts : List Cond} {own C : String} {b : Addr} {As rest : List Value} {g : JFrame}
theorem vx_runVX {hh : List (Nat × Nat × Nat × Nat)} (S : CallFix p m c cc nL s args Ts own) (hM : vx_Met l y ws rm Pc Qc XC mc ms free) (cw : vx_CVW R s args own C index y bytes maxL ret hh ws rm mc ms n) (hp : PreV s H C b Pc As)
    (hg : g.method = m) (hn : As.length = n) (hsize : g.locals.size = nL) (hstack : g.stack = As.reverse ++ .ref b :: rest) (hW : 2 * g.monitorRoom + (rest.map fun v => v.category).sum ≤ 8) (hdg : decode cc g.pc = .ok (.invokevirtual index, 3)) (hf : cells + mc ≤ R.cells ∧ slots + ms ≤ R.slots) :
    vx_Run p l e R s m args below meth c H locs cells slots mc ms g rest (Qc (Value.ref b :: As).toArray) XC free := by
  obtain ⟨⟨hrc, hrs, hfr, hlo, hws, hcw⟩, hcode, hini, hy, hlen, hl, hin, hse⟩ := cw
  have hK : vx_Back l R p e below s args y 3 8 (PreOf R mc ms Pc) (PostOf Qc mc ms free) (vx_Post XC mc ms free) := vx_backW (hh := hh) (bytes := bytes) (maxL := maxL) (ret := ret) hM hp.1 hrc hrs hfr hlo hws hcw (fun a' U hW => word_at hW (Or.inl (by first | rfl | simp [Cond.onTables, Cond.keeps, Cond.steady])) hini)
  obtain ⟨hx, hb, hml, ho, -⟩ := S
  obtain ⟨-, ⟨cellB, hcB, hoB, hclB⟩, hPc⟩ := hp
  intro T hT X
  rcases vx_callVX X hx (C := C) (hh := hh) (bytes := bytes) (maxL := maxL) (ret := ret) ho hl hin hse hcode hy hK (by rw [hT]; exact hcB) hoB hclB hg (hsize.trans hml.symm) (argsL := As) (rest := rest) (fun sig h => hn.trans (hlen sig h)) hstack hW (by rw [hb]; exact hdg)
    (fun vm₁ hW₁ => ⟨hf.1, hf.2, hPc (T.setVm vm₁) hT hW₁⟩) with ⟨v, vm₁, ⟨U', l2, c2, s2⟩, hW₁, X', ⟨g', mk, t, L, e1, e2, hq, h1, hL, h2, h3⟩, st⟩ | ⟨q, vm₁, ⟨U', l2, c2, s2⟩, hW₁, X', ⟨g', mk, t, L, E, ce, e1, e2, hq, hce, hcv, hcl, h1, hL, h2, h3⟩, st⟩
  · dsimp only [Pt.U, Pt.locs, Pt.cells, Pt.slots] at X' e1 e2 h1 h2 h3 st
    subst h1; subst h2; subst h3
    exact Or.inl ⟨v, (T.setVm vm₁).calling g' mk (Value.ref b :: As).toArray, t, U', L, hT, X', hL, e1, e2, hq, st⟩
  · dsimp only [Pt.U, Pt.locs, Pt.cells, Pt.slots] at X' e1 e2 h1 h2 h3 st hcl
    subst h1; subst h2; subst h3
    exact Or.inr ⟨q, (T.setVm vm₁).calling g' mk (Value.ref b :: As).toArray, t, U', L, E, ce, hT, X', hL, e1, e2, hq, hce, hcv, vx_cls hW₁ hcl, st⟩
theorem vx_runSX {hh : List (Nat × Nat × Nat × Nat)} (S : CallFix p m c cc nL s args Ts own) (hM : vx_Met l y ws rm Pc Qc XC mc ms free) (cw : vx_CSW R s args own index y bytes maxL ret hh ws rm mc ms n) (hp : PreS s H Pc As)
    (hg : g.method = m) (hn : As.length = n) (hsize : g.locals.size = nL) (hstack : g.stack = As.reverse ++ rest) (hW : 2 * g.monitorRoom + (rest.map fun v => v.category).sum ≤ 8) (hdg : decode cc g.pc = .ok (.invokestatic index, 3)) (hf : cells + mc ≤ R.cells ∧ slots + ms ≤ R.slots) :
    vx_Run p l e R s m args below meth c H locs cells slots mc ms g rest (Qc As.toArray) XC free := by
  obtain ⟨⟨hrc, hrs, hfr, hlo, hws, hcw⟩, hcode, hini, hy, hlen, hl, hstt⟩ := cw
  have hK : vx_Back l R p e below s args y 3 8 (PreOf R mc ms Pc) (PostOf Qc mc ms free) (vx_Post XC mc ms free) := vx_backW (hh := hh) (bytes := bytes) (maxL := maxL) (ret := ret) hM hp.1 hrc hrs hfr hlo hws hcw (fun a' U hW => word_at hW (Or.inl (by first | rfl | simp [Cond.onTables, Cond.keeps, Cond.steady])) hini)
  obtain ⟨hx, hb, hml, ho, -⟩ := S
  intro T hT X
  rcases vx_callSX X hx (hh := hh) (bytes := bytes) (maxL := maxL) (ret := ret) ho hl hstt hini hcode hy hK hg (hsize.trans hml.symm) (argsL := As) (rest := rest) (fun sig h => hn.trans (hlen sig h)) hstack hW (by rw [hb]; exact hdg)
    (fun vm₁ hW₁ => ⟨hf.1, hf.2, hp.2 (T.setVm vm₁) hT hW₁⟩) with ⟨v, vm₁, ⟨U', l2, c2, s2⟩, hW₁, X', ⟨g', mk, t, L, e1, e2, hq, h1, hL, h2, h3⟩, st⟩ | ⟨q, vm₁, ⟨U', l2, c2, s2⟩, hW₁, X', ⟨g', mk, t, L, E, ce, e1, e2, hq, hce, hcv, hcl, h1, hL, h2, h3⟩, st⟩
  · dsimp only [Pt.U, Pt.locs, Pt.cells, Pt.slots] at X' e1 e2 h1 h2 h3 st
    subst h1; subst h2; subst h3
    exact Or.inl ⟨v, (T.setVm vm₁).calling g' mk As.toArray, t, U', L, hT, X', hL, e1, e2, hq, st⟩
  · dsimp only [Pt.U, Pt.locs, Pt.cells, Pt.slots] at X' e1 e2 h1 h2 h3 st hcl
    subst h1; subst h2; subst h3
    exact Or.inr ⟨q, (T.setVm vm₁).calling g' mk As.toArray, t, U', L, E, ce, hT, X', hL, e1, e2, hq, hce, hcv, vx_cls hW₁ hcl, st⟩
end
end VXH
theorem vx_ofWH {l : Launch} {y : MethodName} {ws ws' : List Cond} {rm : Room} {Pc : Array Value → State → Prop} {Qc : Array Value → State → Outcome → State → Prop} {XC : String → State → State → Prop} {mc ms : Nat} {free : Addr → Prop} {cc : ByteArray} {maxL : Nat} {ret : Option FieldType} {hh : List (Nat × Nat × Nat × Nat)}
    (hy : plainName y.cls = true) (hw : ws = Cond.codeWith y cc maxL ret hh :: ws')
    (body : ∀ p e s m args below meth c s₁, BodyLoose p l y (headSpec ws rm) cc maxL ret e s m args below meth c s₁ → c.maxLocals = maxL → Pc args s →
      W p l e (headSpec ws rm).room s m args below meth c s.heap [] 0 0 (vx_MQ below Qc XC args s mc ms free) (entryFrame m args maxL)) : vx_Met l y ws rm Pc Qc XC mc ms free := by
  refine MetFree.of_bodyS (code := cc) (maxLocals := maxL) (ret := ret) hy ?_ ?_
  · intro args s m h hn
    obtain ⟨m9, meth, c, hn9, h1, h2, h3, h4, -, h5, h6, -⟩ := Cond.codeWith_spec (atoms_spec (ws := ws) h _ (by rw [hw]; exact List.mem_cons_self))
    cases hn.symm.trans hn9
    exact ⟨meth, c, h1, h2, h3, h4, h5, h6⟩
  · intro p e s m args below meth c s₁ B hml hP _
    have hh0 : s₁.heap = s.heap := by rw [B.state]; rfl
    obtain ⟨t, a1, o, b1, b2, b3⟩ := body p e s m args below meth c s₁ B hml hP s₁ hh0 (Stand.of_body B)
    exact ⟨t, o, a1, b1, b2, b3⟩
/-! ===== END ===== -/
end
section
def RX0 : String := "BacklotPlanner$Orders"
def TX0 : u_T := fun k => match k with
  | 0 => ("BacklotPlanner$Orders", "days", "[I", true)
  | 1 => ("BacklotPlanner$Orders", "scenes", "[LBacklotPlanner$Scene;", true)
  | _ => ("BacklotPlanner$Orders", "count", "I", false)
def tyX0 : Nat → FieldType := fun k => match k with
  | 0 => .array .int
  | 1 => .array (.object "BacklotPlanner$Scene")
  | _ => .int
abbrev wsX00 : List Cond := u_ws RX0 TX0 3
theorem nmX0 : ∀ a, a < 3 → ∀ b, b < 3 → a ≠ b → (TX0 a).2.1 ≠ (TX0 b).2.1 := by decide +kernel
theorem tyX0_ok : ∀ k, k < 3 → parseFieldDescriptor (TX0 k).2.2.1 = some (tyX0 k) := by decide +kernel
abbrev cX0_init : ByteArray := prog_2_method_1_code
def yX0_init : MethodName := ⟨RX0, "<init>", "()V"⟩
abbrev cX0_note : ByteArray := prog_2_method_2_code
def yX0_note : MethodName := ⟨RX0, "note", "([LBacklotPlanner$Scene;)V"⟩
abbrev cX0_countOrders : ByteArray := prog_2_method_3_code
def yX0_countOrders : MethodName := ⟨RX0, "countOrders", "()I"⟩
abbrev cX0_restore : ByteArray := prog_2_method_4_code
def yX0_restore : MethodName := ⟨RX0, "restore", "([LBacklotPlanner$Scene;)V"⟩
abbrev cX0_lay : ByteArray := prog_2_method_5_code
def yX0_lay : MethodName := ⟨RX0, "lay", "([LBacklotPlanner$Scene;I)V"⟩
def RX1 : String := "BacklotPlanner$Permit"
def TX1 : u_T := fun k => match k with
  | 0 => ("BacklotPlanner$Permit", "set", "I", true)
  | 1 => ("BacklotPlanner$Permit", "from", "I", true)
  | 2 => ("BacklotPlanner$Permit", "to", "I", true)
  | 3 => ("BacklotPlanner$Permit", "flames", "I", true)
  | _ => ("BacklotPlanner$Permit", "isRevoked", "Z", false)
def tyX1 : Nat → FieldType := fun k => match k with
  | 0 => .int
  | 1 => .int
  | 2 => .int
  | 3 => .int
  | _ => .boolean
abbrev wsX10 : List Cond := u_ws RX1 TX1 5
theorem nmX1 : ∀ a, a < 5 → ∀ b, b < 5 → a ≠ b → (TX1 a).2.1 ≠ (TX1 b).2.1 := by decide +kernel
theorem tyX1_ok : ∀ k, k < 5 → parseFieldDescriptor (TX1 k).2.2.1 = some (tyX1 k) := by decide +kernel
abbrev cX1_init : ByteArray := prog_3_method_1_code
def yX1_init : MethodName := ⟨RX1, "<init>", "(IIII)V"⟩
abbrev cX1_covers : ByteArray := prog_3_method_2_code
def yX1_covers : MethodName := ⟨RX1, "covers", "(LBacklotPlanner$Scene;I)Z"⟩
def RX2 : String := "BacklotPlanner$Scene"
def TX2 : u_T := fun k => match k with
  | 0 => ("BacklotPlanner$Scene", "number", "I", true)
  | 1 => ("BacklotPlanner$Scene", "set", "I", true)
  | 2 => ("BacklotPlanner$Scene", "flames", "I", true)
  | 3 => ("BacklotPlanner$Scene", "beards", "[I", true)
  | 4 => ("BacklotPlanner$Scene", "from", "[I", true)
  | 5 => ("BacklotPlanner$Scene", "to", "[I", true)
  | 6 => ("BacklotPlanner$Scene", "state", "I", false)
  | _ => ("BacklotPlanner$Scene", "shotOn", "I", false)
def tyX2 : Nat → FieldType := fun k => match k with
  | 0 => .int
  | 1 => .int
  | 2 => .int
  | 3 => .array .int
  | 4 => .array .int
  | 5 => .array .int
  | 6 => .int
  | _ => .int
abbrev wsX20 : List Cond := u_ws RX2 TX2 8
theorem nmX2 : ∀ a, a < 8 → ∀ b, b < 8 → a ≠ b → (TX2 a).2.1 ≠ (TX2 b).2.1 := by decide +kernel
theorem tyX2_ok : ∀ k, k < 8 → parseFieldDescriptor (TX2 k).2.2.1 = some (tyX2 k) := by decide +kernel
abbrev cX2_init : ByteArray := prog_4_method_1_code
def yX2_init : MethodName := ⟨RX2, "<init>", "(III)V"⟩
abbrev cX2_countActors : ByteArray := prog_4_method_2_code
def yX2_countActors : MethodName := ⟨RX2, "countActors", "()I"⟩
abbrev cX2_countProps : ByteArray := prog_4_method_3_code
def yX2_countProps : MethodName := ⟨RX2, "countProps", "()I"⟩
abbrev cX2_ages : ByteArray := prog_4_method_4_code
def yX2_ages : MethodName := ⟨RX2, "ages", "(I)Z"⟩
def RX3 : String := "BacklotPlanner$Studio"
def TX3 : u_T := fun k => match k with
  | 0 => ("BacklotPlanner$Studio", "stock", "[[I", true)
  | 1 => ("BacklotPlanner$Studio", "beards", "[I", true)
  | _ => ("BacklotPlanner$Studio", "lastSet", "I", false)
def tyX3 : Nat → FieldType := fun k => match k with
  | 0 => .array (.array .int)
  | 1 => .array .int
  | _ => .int
abbrev wsX30 : List Cond := u_ws RX3 TX3 3
theorem nmX3 : ∀ a, a < 3 → ∀ b, b < 3 → a ≠ b → (TX3 a).2.1 ≠ (TX3 b).2.1 := by decide +kernel
theorem tyX3_ok : ∀ k, k < 3 → parseFieldDescriptor (TX3 k).2.2.1 = some (tyX3 k) := by decide +kernel
abbrev cX3_init : ByteArray := prog_5_method_1_code
def yX3_init : MethodName := ⟨RX3, "<init>", "()V"⟩
abbrev cX3_copy : ByteArray := prog_5_method_2_code
def yX3_copy : MethodName := ⟨RX3, "copy", "(LBacklotPlanner$Studio;)V"⟩
abbrev cX3_countCopies : ByteArray := prog_5_method_3_code
def yX3_countCopies : MethodName := ⟨RX3, "countCopies", "(I)I"⟩
abbrev cX3_growBeards : ByteArray := prog_5_method_4_code
def yX3_growBeards : MethodName := ⟨RX3, "growBeards", "(I)V"⟩
abbrev cX3_film : ByteArray := prog_5_method_5_code
def yX3_film : MethodName := ⟨RX3, "film", "(LBacklotPlanner$Scene;)I"⟩
abbrev cX3_dress : ByteArray := prog_5_method_6_code
def yX3_dress : MethodName := ⟨RX3, "dress", "(II)I"⟩
abbrev cX3_serve : ByteArray := prog_5_method_7_code
def yX3_serve : MethodName := ⟨RX3, "serve", "(III)I"⟩
def RX4 : String := "BacklotPlanner"
def TX4 : u_T := fun k => match k with
  | 0 => ("BacklotPlanner", "told", "[LBacklotPlanner$Scene;", true)
  | 1 => ("BacklotPlanner", "plan", "[LBacklotPlanner$Scene;", true)
  | 2 => ("BacklotPlanner", "permits", "[LBacklotPlanner$Permit;", true)
  | 3 => ("BacklotPlanner", "awayDays", "[I", true)
  | 4 => ("BacklotPlanner", "studio", "LBacklotPlanner$Studio;", true)
  | 5 => ("BacklotPlanner", "trial", "LBacklotPlanner$Studio;", true)
  | 6 => ("BacklotPlanner", "orders", "LBacklotPlanner$Orders;", true)
  | 7 => ("BacklotPlanner", "toldCount", "I", false)
  | 8 => ("BacklotPlanner", "permitCount", "I", false)
  | 9 => ("BacklotPlanner", "now", "I", false)
  | _ => ("BacklotPlanner", "paid", "I", false)
def tyX4 : Nat → FieldType := fun k => match k with
  | 0 => .array (.object "BacklotPlanner$Scene")
  | 1 => .array (.object "BacklotPlanner$Scene")
  | 2 => .array (.object "BacklotPlanner$Permit")
  | 3 => .array .int
  | 4 => .object "BacklotPlanner$Studio"
  | 5 => .object "BacklotPlanner$Studio"
  | 6 => .object "BacklotPlanner$Orders"
  | 7 => .int
  | 8 => .int
  | 9 => .int
  | _ => .int
abbrev wsX40 : List Cond := u_ws RX4 TX4 11
theorem nmX4 : ∀ a, a < 11 → ∀ b, b < 11 → a ≠ b → (TX4 a).2.1 ≠ (TX4 b).2.1 := by decide +kernel
theorem tyX4_ok : ∀ k, k < 11 → parseFieldDescriptor (TX4 k).2.2.1 = some (tyX4 k) := by decide +kernel
abbrev cX4_init : ByteArray := prog_1_method_1_code
def yX4_init : MethodName := ⟨RX4, "<init>", "()V"⟩
abbrev cX4_scene : ByteArray := prog_1_method_2_code
def yX4_scene : MethodName := ⟨RX4, "scene", "(II)I"⟩
abbrev cX4_plays : ByteArray := prog_1_method_3_code
def yX4_plays : MethodName := ⟨RX4, "plays", "(III)I"⟩
abbrev cX4_uses : ByteArray := prog_1_method_4_code
def yX4_uses : MethodName := ⟨RX4, "uses", "(IIII)I"⟩
abbrev cX4_cut : ByteArray := prog_1_method_5_code
def yX4_cut : MethodName := ⟨RX4, "cut", "(I)I"⟩
abbrev cX4_swap : ByteArray := prog_1_method_6_code
def yX4_swap : MethodName := ⟨RX4, "swap", "(II)I"⟩
abbrev cX4_permit : ByteArray := prog_1_method_7_code
def yX4_permit : MethodName := ⟨RX4, "permit", "(IIII)I"⟩
abbrev cX4_revoke : ByteArray := prog_1_method_8_code
def yX4_revoke : MethodName := ⟨RX4, "revoke", "(I)I"⟩
abbrev cX4_away : ByteArray := prog_1_method_9_code
def yX4_away : MethodName := ⟨RX4, "away", "(IIZ)Z"⟩
abbrev cX4_buy : ByteArray := prog_1_method_10_code
def yX4_buy : MethodName := ⟨RX4, "buy", "(I)I"⟩
abbrev cX4_clear : ByteArray := prog_1_method_11_code
def yX4_clear : MethodName := ⟨RX4, "clear", "()I"⟩
abbrev cX4_mishap : ByteArray := prog_1_method_12_code
def yX4_mishap : MethodName := ⟨RX4, "mishap", "(II)I"⟩
abbrev cX4_shoot : ByteArray := prog_1_method_13_code
def yX4_shoot : MethodName := ⟨RX4, "shoot", "()I"⟩
abbrev cX4_mend : ByteArray := prog_1_method_14_code
def yX4_mend : MethodName := ⟨RX4, "mend", "()I"⟩
abbrev cX4_better : ByteArray := prog_1_method_15_code
def yX4_better : MethodName := ⟨RX4, "better", "()I"⟩
abbrev cX4_least : ByteArray := prog_1_method_16_code
def yX4_least : MethodName := ⟨RX4, "least", "()I"⟩
abbrev cX4_today : ByteArray := prog_1_method_17_code
def yX4_today : MethodName := ⟨RX4, "today", "()I"⟩
abbrev cX4_spent : ByteArray := prog_1_method_18_code
def yX4_spent : MethodName := ⟨RX4, "spent", "()I"⟩
abbrev cX4_cost : ByteArray := prog_1_method_19_code
def yX4_cost : MethodName := ⟨RX4, "cost", "()I"⟩
abbrev cX4_scenes : ByteArray := prog_1_method_20_code
def yX4_scenes : MethodName := ⟨RX4, "scenes", "()I"⟩
abbrev cX4_stateOf : ByteArray := prog_1_method_21_code
def yX4_stateOf : MethodName := ⟨RX4, "stateOf", "(I)I"⟩
abbrev cX4_dayOf : ByteArray := prog_1_method_22_code
def yX4_dayOf : MethodName := ⟨RX4, "dayOf", "(I)I"⟩
abbrev cX4_sceneOn : ByteArray := prog_1_method_23_code
def yX4_sceneOn : MethodName := ⟨RX4, "sceneOn", "(I)I"⟩
abbrev cX4_refused : ByteArray := prog_1_method_24_code
def yX4_refused : MethodName := ⟨RX4, "refused", "()I"⟩
abbrev cX4_isAllowed : ByteArray := prog_1_method_25_code
def yX4_isAllowed : MethodName := ⟨RX4, "isAllowed", "(II)Z"⟩
abbrev cX4_ahead : ByteArray := prog_1_method_26_code
def yX4_ahead : MethodName := ⟨RX4, "ahead", "(II)I"⟩
abbrev cX4_copies : ByteArray := prog_1_method_27_code
def yX4_copies : MethodName := ⟨RX4, "copies", "(II)I"⟩
abbrev cX4_growth : ByteArray := prog_1_method_28_code
def yX4_growth : MethodName := ⟨RX4, "growth", "(I)I"⟩
abbrev cX4_sceneNumbered : ByteArray := prog_1_method_29_code
def yX4_sceneNumbered : MethodName := ⟨RX4, "sceneNumbered", "(I)LBacklotPlanner$Scene;"⟩
abbrev cX4_permitNumbered : ByteArray := prog_1_method_30_code
def yX4_permitNumbered : MethodName := ⟨RX4, "permitNumbered", "(I)LBacklotPlanner$Permit;"⟩
abbrev cX4_requireActor : ByteArray := prog_1_method_31_code
def yX4_requireActor : MethodName := ⟨RX4, "requireActor", "(I)V"⟩
abbrev cX4_requireProp : ByteArray := prog_1_method_32_code
def yX4_requireProp : MethodName := ⟨RX4, "requireProp", "(I)V"⟩
abbrev cX4_requireDay : ByteArray := prog_1_method_33_code
def yX4_requireDay : MethodName := ⟨RX4, "requireDay", "(I)V"⟩
abbrev cX4_requirePlanned : ByteArray := prog_1_method_34_code
def yX4_requirePlanned : MethodName := ⟨RX4, "requirePlanned", "(LBacklotPlanner$Scene;)V"⟩
abbrev cX4_agesForwards : ByteArray := prog_1_method_35_code
def yX4_agesForwards : MethodName := ⟨RX4, "agesForwards", "(IIII)Z"⟩
abbrev cX4_dayBehindPlan : ByteArray := prog_1_method_36_code
def yX4_dayBehindPlan : MethodName := ⟨RX4, "dayBehindPlan", "()I"⟩
abbrev cX4_plannedDay : ByteArray := prog_1_method_37_code
def yX4_plannedDay : MethodName := ⟨RX4, "plannedDay", "(LBacklotPlanner$Scene;)I"⟩
abbrev cX4_putOff : ByteArray := prog_1_method_38_code
def yX4_putOff : MethodName := ⟨RX4, "putOff", "(LBacklotPlanner$Scene;)V"⟩
abbrev cX4_swapDays : ByteArray := prog_1_method_39_code
def yX4_swapDays : MethodName := ⟨RX4, "swapDays", "(II)V"⟩
abbrev cX4_put : ByteArray := prog_1_method_40_code
def yX4_put : MethodName := ⟨RX4, "put", "([LBacklotPlanner$Scene;ILBacklotPlanner$Scene;)V"⟩
abbrev cX4_exchange : ByteArray := prog_1_method_41_code
def yX4_exchange : MethodName := ⟨RX4, "exchange", "([LBacklotPlanner$Scene;II)V"⟩
abbrev cX4_planCost : ByteArray := prog_1_method_42_code
def yX4_planCost : MethodName := ⟨RX4, "planCost", "()I"⟩
abbrev cX4_costAfterSwap : ByteArray := prog_1_method_43_code
def yX4_costAfterSwap : MethodName := ⟨RX4, "costAfterSwap", "(II)I"⟩
abbrev cX4_mendingDay : ByteArray := prog_1_method_44_code
def yX4_mendingDay : MethodName := ⟨RX4, "mendingDay", "(I)I"⟩
abbrev cX4_wouldMend : ByteArray := prog_1_method_45_code
def yX4_wouldMend : MethodName := ⟨RX4, "wouldMend", "(II)Z"⟩
abbrev cX4_isFree : ByteArray := prog_1_method_46_code
def yX4_isFree : MethodName := ⟨RX4, "isFree", "(LBacklotPlanner$Scene;I)Z"⟩
abbrev cX4_makeBestSwap : ByteArray := prog_1_method_47_code
def yX4_makeBestSwap : MethodName := ⟨RX4, "makeBestSwap", "()Z"⟩
abbrev cX4_countRefused : ByteArray := prog_1_method_48_code
def yX4_countRefused : MethodName := ⟨RX4, "countRefused", "()I"⟩
abbrev cX4_isRefusedOn : ByteArray := prog_1_method_49_code
def yX4_isRefusedOn : MethodName := ⟨RX4, "isRefusedOn", "(I)Z"⟩
abbrev cX4_allows : ByteArray := prog_1_method_50_code
def yX4_allows : MethodName := ⟨RX4, "allows", "(LBacklotPlanner$Scene;I)Z"⟩
abbrev cX4_isPermitted : ByteArray := prog_1_method_51_code
def yX4_isPermitted : MethodName := ⟨RX4, "isPermitted", "(LBacklotPlanner$Scene;I)Z"⟩
abbrev cX4_isCastThere : ByteArray := prog_1_method_52_code
def yX4_isCastThere : MethodName := ⟨RX4, "isCastThere", "(LBacklotPlanner$Scene;I)Z"⟩
abbrev cX4_isAwayOn : ByteArray := prog_1_method_53_code
def yX4_isAwayOn : MethodName := ⟨RX4, "isAwayOn", "(II)Z"⟩
def RX5 : String := "BacklotPlannerModel"
def TX5 : u_T := fun k => match k with
  | 0 => ("BacklotPlannerModel", "today", "I", false)
  | 1 => ("BacklotPlannerModel", "spent", "I", false)
  | 2 => ("BacklotPlannerModel", "last", "I", false)
  | 3 => ("BacklotPlannerModel", "scenes", "I", false)
  | 4 => ("BacklotPlannerModel", "set", "[I", true)
  | 5 => ("BacklotPlannerModel", "flames", "[I", true)
  | 6 => ("BacklotPlannerModel", "state", "[I", true)
  | 7 => ("BacklotPlannerModel", "day", "[I", true)
  | 8 => ("BacklotPlannerModel", "beard", "[I", true)
  | 9 => ("BacklotPlannerModel", "from", "[I", true)
  | 10 => ("BacklotPlannerModel", "to", "[I", true)
  | 11 => ("BacklotPlannerModel", "plan", "[I", true)
  | 12 => ("BacklotPlannerModel", "permits", "I", false)
  | 13 => ("BacklotPlannerModel", "where", "[I", true)
  | 14 => ("BacklotPlannerModel", "begin", "[I", true)
  | 15 => ("BacklotPlannerModel", "end", "[I", true)
  | 16 => ("BacklotPlannerModel", "fire", "[I", true)
  | 17 => ("BacklotPlannerModel", "revoked", "[Z", true)
  | 18 => ("BacklotPlannerModel", "away", "[Z", true)
  | 19 => ("BacklotPlannerModel", "growth", "[I", true)
  | 20 => ("BacklotPlannerModel", "copies", "[I", true)
  | 21 => ("BacklotPlannerModel", "grown", "[I", true)
  | 22 => ("BacklotPlannerModel", "has", "[I", true)
  | 23 => ("BacklotPlannerModel", "open", "[I", true)
  | 24 => ("BacklotPlannerModel", "held", "[I", true)
  | _ => ("BacklotPlannerModel", "thrown", "I", false)
def tyX5 : Nat → FieldType := fun k => match k with
  | 0 => .int
  | 1 => .int
  | 2 => .int
  | 3 => .int
  | 4 => .array .int
  | 5 => .array .int
  | 6 => .array .int
  | 7 => .array .int
  | 8 => .array .int
  | 9 => .array .int
  | 10 => .array .int
  | 11 => .array .int
  | 12 => .int
  | 13 => .array .int
  | 14 => .array .int
  | 15 => .array .int
  | 16 => .array .int
  | 17 => .array .boolean
  | 18 => .array .boolean
  | 19 => .array .int
  | 20 => .array .int
  | 21 => .array .int
  | 22 => .array .int
  | 23 => .array .int
  | 24 => .array .int
  | _ => .int
abbrev wsX50 : List Cond := u_ws RX5 TX5 26
theorem nmX5 : ∀ a, a < 26 → ∀ b, b < 26 → a ≠ b → (TX5 a).2.1 ≠ (TX5 b).2.1 := by decide +kernel
theorem tyX5_ok : ∀ k, k < 26 → parseFieldDescriptor (TX5 k).2.2.1 = some (tyX5 k) := by decide +kernel
abbrev cX5_init : ByteArray := prog_7_method_1_code
def yX5_init : MethodName := ⟨RX5, "<init>", "()V"⟩
abbrev cX5_thrown : ByteArray := prog_7_method_2_code
def yX5_thrown : MethodName := ⟨RX5, "thrown", "()I"⟩
abbrev cX5_in : ByteArray := prog_7_method_3_code
def yX5_in : MethodName := ⟨RX5, "in", "(III)Z"⟩
abbrev cX5_goes : ByteArray := prog_7_method_4_code
def yX5_goes : MethodName := ⟨RX5, "goes", "(ZZZ)Z"⟩
abbrev cX5_told : ByteArray := prog_7_method_5_code
def yX5_told : MethodName := ⟨RX5, "told", "(I)I"⟩
abbrev cX5_isScene : ByteArray := prog_7_method_6_code
def yX5_isScene : MethodName := ⟨RX5, "isScene", "(I)Z"⟩
abbrev cX5_isActor : ByteArray := prog_7_method_7_code
def yX5_isActor : MethodName := ⟨RX5, "isActor", "(I)Z"⟩
abbrev cX5_isProp : ByteArray := prog_7_method_8_code
def yX5_isProp : MethodName := ⟨RX5, "isProp", "(I)Z"⟩
abbrev cX5_isDay : ByteArray := prog_7_method_9_code
def yX5_isDay : MethodName := ⟨RX5, "isDay", "(I)Z"⟩
abbrev cX5_isAhead : ByteArray := prog_7_method_10_code
def yX5_isAhead : MethodName := ⟨RX5, "isAhead", "(I)Z"⟩
abbrev cX5_lays : ByteArray := prog_7_method_11_code
def yX5_lays : MethodName := ⟨RX5, "lays", "()V"⟩
abbrev cX5_keeps : ByteArray := prog_7_method_12_code
def yX5_keeps : MethodName := ⟨RX5, "keeps", "()V"⟩
abbrev cX5_grows : ByteArray := prog_7_method_13_code
def yX5_grows : MethodName := ⟨RX5, "grows", "()V"⟩
abbrev cX5_servesActor : ByteArray := prog_7_method_14_code
def yX5_servesActor : MethodName := ⟨RX5, "servesActor", "(II)I"⟩
abbrev cX5_servesProp : ByteArray := prog_7_method_15_code
def yX5_servesProp : MethodName := ⟨RX5, "servesProp", "(II)I"⟩
abbrev cX5_serves : ByteArray := prog_7_method_16_code
def yX5_serves : MethodName := ⟨RX5, "serves", "(II)I"⟩
abbrev cX5_allows : ByteArray := prog_7_method_17_code
def yX5_allows : MethodName := ⟨RX5, "allows", "(II)Z"⟩
abbrev cX5_costs : ByteArray := prog_7_method_18_code
def yX5_costs : MethodName := ⟨RX5, "costs", "()I"⟩
abbrev cX5_lastPlanned : ByteArray := prog_7_method_19_code
def yX5_lastPlanned : MethodName := ⟨RX5, "lastPlanned", "()I"⟩
abbrev cX5_plans : ByteArray := prog_7_method_20_code
def yX5_plans : MethodName := ⟨RX5, "plans", "(II)V"⟩
abbrev cX5_scene : ByteArray := prog_7_method_21_code
def yX5_scene : MethodName := ⟨RX5, "scene", "(II)I"⟩
abbrev cX5_plays : ByteArray := prog_7_method_22_code
def yX5_plays : MethodName := ⟨RX5, "plays", "(III)I"⟩
abbrev cX5_isUsed : ByteArray := prog_7_method_23_code
def yX5_isUsed : MethodName := ⟨RX5, "isUsed", "(II)Z"⟩
abbrev cX5_ages : ByteArray := prog_7_method_24_code
def yX5_ages : MethodName := ⟨RX5, "ages", "(IIII)Z"⟩
abbrev cX5_uses : ByteArray := prog_7_method_25_code
def yX5_uses : MethodName := ⟨RX5, "uses", "(IIII)I"⟩
abbrev cX5_cut : ByteArray := prog_7_method_26_code
def yX5_cut : MethodName := ⟨RX5, "cut", "(I)I"⟩
abbrev cX5_swaps : ByteArray := prog_7_method_27_code
def yX5_swaps : MethodName := ⟨RX5, "swaps", "(II)V"⟩
abbrev cX5_swap : ByteArray := prog_7_method_28_code
def yX5_swap : MethodName := ⟨RX5, "swap", "(II)I"⟩
abbrev cX5_permit : ByteArray := prog_7_method_29_code
def yX5_permit : MethodName := ⟨RX5, "permit", "(IIII)I"⟩
abbrev cX5_refusals : ByteArray := prog_7_method_30_code
def yX5_refusals : MethodName := ⟨RX5, "refusals", "()I"⟩
abbrev cX5_revoke : ByteArray := prog_7_method_31_code
def yX5_revoke : MethodName := ⟨RX5, "revoke", "(I)I"⟩
abbrev cX5_away : ByteArray := prog_7_method_32_code
def yX5_away : MethodName := ⟨RX5, "away", "(IIZ)Z"⟩
abbrev cX5_allOf : ByteArray := prog_7_method_33_code
def yX5_allOf : MethodName := ⟨RX5, "allOf", "(I)I"⟩
abbrev cX5_buy : ByteArray := prog_7_method_34_code
def yX5_buy : MethodName := ⟨RX5, "buy", "(I)I"⟩
abbrev cX5_clear : ByteArray := prog_7_method_35_code
def yX5_clear : MethodName := ⟨RX5, "clear", "()I"⟩
abbrev cX5_mishap : ByteArray := prog_7_method_36_code
def yX5_mishap : MethodName := ⟨RX5, "mishap", "(II)I"⟩
abbrev cX5_putsOff : ByteArray := prog_7_method_37_code
def yX5_putsOff : MethodName := ⟨RX5, "putsOff", "(I)V"⟩
abbrev cX5_shoot : ByteArray := prog_7_method_38_code
def yX5_shoot : MethodName := ⟨RX5, "shoot", "()I"⟩
abbrev cX5_isRefused : ByteArray := prog_7_method_39_code
def yX5_isRefused : MethodName := ⟨RX5, "isRefused", "(I)Z"⟩
abbrev cX5_bestFor : ByteArray := prog_7_method_40_code
def yX5_bestFor : MethodName := ⟨RX5, "bestFor", "(I)I"⟩
abbrev cX5_mend : ByteArray := prog_7_method_41_code
def yX5_mend : MethodName := ⟨RX5, "mend", "()I"⟩
abbrev cX5_bestSwap : ByteArray := prog_7_method_42_code
def yX5_bestSwap : MethodName := ⟨RX5, "bestSwap", "()I"⟩
abbrev cX5_better : ByteArray := prog_7_method_43_code
def yX5_better : MethodName := ⟨RX5, "better", "()I"⟩
abbrev cX5_planned : ByteArray := prog_7_method_44_code
def yX5_planned : MethodName := ⟨RX5, "planned", "()I"⟩
abbrev cX5_orders : ByteArray := prog_7_method_45_code
def yX5_orders : MethodName := ⟨RX5, "orders", "(II)V"⟩
abbrev cX5_least : ByteArray := prog_7_method_46_code
def yX5_least : MethodName := ⟨RX5, "least", "()I"⟩
abbrev cX5_today : ByteArray := prog_7_method_47_code
def yX5_today : MethodName := ⟨RX5, "today", "()I"⟩
abbrev cX5_spent : ByteArray := prog_7_method_48_code
def yX5_spent : MethodName := ⟨RX5, "spent", "()I"⟩
abbrev cX5_cost : ByteArray := prog_7_method_49_code
def yX5_cost : MethodName := ⟨RX5, "cost", "()I"⟩
abbrev cX5_scenes : ByteArray := prog_7_method_50_code
def yX5_scenes : MethodName := ⟨RX5, "scenes", "()I"⟩
abbrev cX5_stateOf : ByteArray := prog_7_method_51_code
def yX5_stateOf : MethodName := ⟨RX5, "stateOf", "(I)I"⟩
abbrev cX5_dayOf : ByteArray := prog_7_method_52_code
def yX5_dayOf : MethodName := ⟨RX5, "dayOf", "(I)I"⟩
abbrev cX5_sceneOn : ByteArray := prog_7_method_53_code
def yX5_sceneOn : MethodName := ⟨RX5, "sceneOn", "(I)I"⟩
abbrev cX5_refused : ByteArray := prog_7_method_54_code
def yX5_refused : MethodName := ⟨RX5, "refused", "()I"⟩
abbrev cX5_isAllowed : ByteArray := prog_7_method_55_code
def yX5_isAllowed : MethodName := ⟨RX5, "isAllowed", "(II)Z"⟩
abbrev cX5_ahead : ByteArray := prog_7_method_56_code
def yX5_ahead : MethodName := ⟨RX5, "ahead", "(II)I"⟩
abbrev cX5_copies : ByteArray := prog_7_method_57_code
def yX5_copies : MethodName := ⟨RX5, "copies", "(II)I"⟩
abbrev cX5_growth : ByteArray := prog_7_method_58_code
def yX5_growth : MethodName := ⟨RX5, "growth", "(I)I"⟩
def RJx145de : String := "java/io/Serializable"
def TJx145de : u_T := fun k => match k with
  | _ => ("", "", "", false)
def tyJx145de : Nat → FieldType := fun k => match k with
  | _ => .int
abbrev wsJx145de0 : List Cond := u_ws RJx145de TJx145de 0
theorem nmJx145de : ∀ a, a < 0 → ∀ b, b < 0 → a ≠ b → (TJx145de a).2.1 ≠ (TJx145de b).2.1 := by decide +kernel
theorem tyJx145de_ok : ∀ k, k < 0 → parseFieldDescriptor (TJx145de k).2.2.1 = some (tyJx145de k) := by decide +kernel
def RJ9 : String := "java/lang/Math"
def TJ9 : u_T := fun k => match k with
  | _ => ("", "", "", false)
def tyJ9 : Nat → FieldType := fun k => match k with
  | _ => .int
abbrev wsJ90 : List Cond := u_ws RJ9 TJ9 0
theorem nmJ9 : ∀ a, a < 0 → ∀ b, b < 0 → a ≠ b → (TJ9 a).2.1 ≠ (TJ9 b).2.1 := by decide +kernel
theorem tyJ9_ok : ∀ k, k < 0 → parseFieldDescriptor (TJ9 k).2.2.1 = some (tyJ9 k) := by decide +kernel
abbrev cJ9_min_7cf53 : ByteArray := prog_12_method_69_code
def yJ9_min_7cf53 : MethodName := ⟨RJ9, "min", "(II)I"⟩
def RJ0 : String := "java/lang/String"
def TJ0 : u_T := fun k => match k with
  | _ => ("", "", "", false)
def tyJ0 : Nat → FieldType := fun k => match k with
  | _ => .int
abbrev wsJ00 : List Cond := u_ws RJ0 TJ0 0
theorem nmJ0 : ∀ a, a < 0 → ∀ b, b < 0 → a ≠ b → (TJ0 a).2.1 ≠ (TJ0 b).2.1 := by decide +kernel
theorem tyJ0_ok : ∀ k, k < 0 → parseFieldDescriptor (TJ0 k).2.2.1 = some (tyJ0 k) := by decide +kernel
def RJ10 : String := "java/lang/System"
def TJ10 : u_T := fun k => match k with
  | _ => ("", "", "", false)
def tyJ10 : Nat → FieldType := fun k => match k with
  | _ => .int
abbrev wsJ100 : List Cond := u_ws RJ10 TJ10 0
theorem nmJ10 : ∀ a, a < 0 → ∀ b, b < 0 → a ≠ b → (TJ10 a).2.1 ≠ (TJ10 b).2.1 := by decide +kernel
theorem tyJ10_ok : ∀ k, k < 0 → parseFieldDescriptor (TJ10 k).2.2.1 = some (tyJ10 k) := by decide +kernel
def RJ7 : String := "java/util/Arrays"
def TJ7 : u_T := fun k => match k with
  | _ => ("", "", "", false)
def tyJ7 : Nat → FieldType := fun k => match k with
  | _ => .int
abbrev wsJ70 : List Cond := u_ws RJ7 TJ7 0
theorem nmJ7 : ∀ a, a < 0 → ∀ b, b < 0 → a ≠ b → (TJ7 a).2.1 ≠ (TJ7 b).2.1 := by decide +kernel
theorem tyJ7_ok : ∀ k, k < 0 → parseFieldDescriptor (TJ7 k).2.2.1 = some (tyJ7 k) := by decide +kernel
abbrev cJ7_fill_53178 : ByteArray := prog_17_method_103_code
def yJ7_fill_53178 : MethodName := ⟨RJ7, "fill", "([II)V"⟩
def RL : String := "BacklotPlannerLaw"
abbrev cL_scene : ByteArray := method_3_code
def yL_scene : MethodName := ⟨RL, "scene", "(LBacklotPlanner;II[J)I"⟩
abbrev cL_plays : ByteArray := method_4_code
def yL_plays : MethodName := ⟨RL, "plays", "(LBacklotPlanner;III[J)I"⟩
abbrev cL_uses : ByteArray := method_5_code
def yL_uses : MethodName := ⟨RL, "uses", "(LBacklotPlanner;IIII[J)I"⟩
abbrev cL_cut : ByteArray := method_6_code
def yL_cut : MethodName := ⟨RL, "cut", "(LBacklotPlanner;I[J)I"⟩
abbrev cL_swap : ByteArray := method_7_code
def yL_swap : MethodName := ⟨RL, "swap", "(LBacklotPlanner;II[J)I"⟩
abbrev cL_permit : ByteArray := method_8_code
def yL_permit : MethodName := ⟨RL, "permit", "(LBacklotPlanner;IIII[J)I"⟩
abbrev cL_revoke : ByteArray := method_9_code
def yL_revoke : MethodName := ⟨RL, "revoke", "(LBacklotPlanner;I[J)I"⟩
abbrev cL_away : ByteArray := method_10_code
def yL_away : MethodName := ⟨RL, "away", "(LBacklotPlanner;IIZ[J)I"⟩
abbrev cL_buy : ByteArray := method_11_code
def yL_buy : MethodName := ⟨RL, "buy", "(LBacklotPlanner;I[J)I"⟩
abbrev cL_mishap : ByteArray := method_12_code
def yL_mishap : MethodName := ⟨RL, "mishap", "(LBacklotPlanner;II[J)I"⟩
abbrev cL_shoot : ByteArray := method_13_code
def yL_shoot : MethodName := ⟨RL, "shoot", "(LBacklotPlanner;[J)I"⟩
abbrev cL_least : ByteArray := method_14_code
def yL_least : MethodName := ⟨RL, "least", "(LBacklotPlanner;[J)I"⟩
abbrev cL_stateOf : ByteArray := method_15_code
def yL_stateOf : MethodName := ⟨RL, "stateOf", "(LBacklotPlanner;I[J)I"⟩
abbrev cL_dayOf : ByteArray := method_16_code
def yL_dayOf : MethodName := ⟨RL, "dayOf", "(LBacklotPlanner;I[J)I"⟩
abbrev cL_sceneOn : ByteArray := method_17_code
def yL_sceneOn : MethodName := ⟨RL, "sceneOn", "(LBacklotPlanner;I[J)I"⟩
abbrev cL_isAllowed : ByteArray := method_18_code
def yL_isAllowed : MethodName := ⟨RL, "isAllowed", "(LBacklotPlanner;II[J)I"⟩
abbrev cL_ahead : ByteArray := method_19_code
def yL_ahead : MethodName := ⟨RL, "ahead", "(LBacklotPlanner;II[J)I"⟩
abbrev cL_copies : ByteArray := method_20_code
def yL_copies : MethodName := ⟨RL, "copies", "(LBacklotPlanner;II[J)I"⟩
abbrev cL_growth : ByteArray := method_21_code
def yL_growth : MethodName := ⟨RL, "growth", "(LBacklotPlanner;I[J)I"⟩
abbrev cL_law : ByteArray := code
def yL_law : MethodName := ⟨RL, "law", "([I)Z"⟩
end
section
theorem dX0_init_0 : decode cX0_init 0 = .ok (.aload_n 0, 1) := by decide +kernel
theorem dX0_init_1 : decode cX0_init 1 = .ok (.invokespecial 3, 3) := by decide +kernel
theorem dX0_init_4 : decode cX0_init 4 = .ok (.aload_n 0, 1) := by decide +kernel
theorem dX0_init_5 : decode cX0_init 5 = .ok (.bipush 10, 2) := by decide +kernel
theorem dX0_init_7 : decode cX0_init 7 = .ok (.newarray .int, 2) := by decide +kernel
theorem dX0_init_9 : decode cX0_init 9 = .ok (.putfield 9, 3) := by decide +kernel
theorem dX0_init_12 : decode cX0_init 12 = .ok (.aload_n 0, 1) := by decide +kernel
theorem dX0_init_13 : decode cX0_init 13 = .ok (.bipush 10, 2) := by decide +kernel
theorem dX0_init_15 : decode cX0_init 15 = .ok (.anewarray 15, 3) := by decide +kernel
theorem dX0_init_18 : decode cX0_init 18 = .ok (.putfield 17, 3) := by decide +kernel
theorem dX0_init_21 : decode cX0_init 21 = .ok (.aload_n 0, 1) := by decide +kernel
theorem dX0_init_22 : decode cX0_init 22 = .ok (.iconst 0, 1) := by decide +kernel
theorem dX0_init_23 : decode cX0_init 23 = .ok (.putfield 21, 3) := by decide +kernel
theorem dX0_init_26 : decode cX0_init 26 = .ok (.return_, 1) := by decide +kernel
theorem dX0_note_0 : decode cX0_note 0 = .ok (.aload_n 0, 1) := by decide +kernel
theorem dX0_note_1 : decode cX0_note 1 = .ok (.iconst 0, 1) := by decide +kernel
theorem dX0_note_2 : decode cX0_note 2 = .ok (.putfield 21, 3) := by decide +kernel
theorem dX0_note_5 : decode cX0_note 5 = .ok (.iconst 0, 1) := by decide +kernel
theorem dX0_note_6 : decode cX0_note 6 = .ok (.istore_n 2, 1) := by decide +kernel
theorem dX0_note_7 : decode cX0_note 7 = .ok (.iload_n 2, 1) := by decide +kernel
theorem dX0_note_8 : decode cX0_note 8 = .ok (.aload_n 1, 1) := by decide +kernel
theorem dX0_note_9 : decode cX0_note 9 = .ok (.arraylength, 1) := by decide +kernel
theorem dX0_note_10 : decode cX0_note 10 = .ok (.if_icmp .ge 56, 3) := by decide +kernel
theorem dX0_note_13 : decode cX0_note 13 = .ok (.aload_n 0, 1) := by decide +kernel
theorem dX0_note_14 : decode cX0_note 14 = .ok (.getfield 21, 3) := by decide +kernel
theorem dX0_note_17 : decode cX0_note 17 = .ok (.bipush 10, 2) := by decide +kernel
theorem dX0_note_19 : decode cX0_note 19 = .ok (.if_icmp .ge 47, 3) := by decide +kernel
theorem dX0_note_22 : decode cX0_note 22 = .ok (.aload_n 1, 1) := by decide +kernel
theorem dX0_note_23 : decode cX0_note 23 = .ok (.iload_n 2, 1) := by decide +kernel
theorem dX0_note_24 : decode cX0_note 24 = .ok (.aaload, 1) := by decide +kernel
theorem dX0_note_25 : decode cX0_note 25 = .ok (.ifnull 35, 3) := by decide +kernel
theorem dX0_note_28 : decode cX0_note 28 = .ok (.aload_n 0, 1) := by decide +kernel
theorem dX0_note_29 : decode cX0_note 29 = .ok (.getfield 9, 3) := by decide +kernel
theorem dX0_note_32 : decode cX0_note 32 = .ok (.aload_n 0, 1) := by decide +kernel
theorem dX0_note_33 : decode cX0_note 33 = .ok (.getfield 21, 3) := by decide +kernel
theorem dX0_note_36 : decode cX0_note 36 = .ok (.iload_n 2, 1) := by decide +kernel
theorem dX0_note_37 : decode cX0_note 37 = .ok (.iastore, 1) := by decide +kernel
theorem dX0_note_38 : decode cX0_note 38 = .ok (.aload_n 0, 1) := by decide +kernel
theorem dX0_note_39 : decode cX0_note 39 = .ok (.getfield 17, 3) := by decide +kernel
theorem dX0_note_42 : decode cX0_note 42 = .ok (.aload_n 0, 1) := by decide +kernel
theorem dX0_note_43 : decode cX0_note 43 = .ok (.getfield 21, 3) := by decide +kernel
theorem dX0_note_46 : decode cX0_note 46 = .ok (.aload_n 1, 1) := by decide +kernel
theorem dX0_note_47 : decode cX0_note 47 = .ok (.iload_n 2, 1) := by decide +kernel
theorem dX0_note_48 : decode cX0_note 48 = .ok (.aaload, 1) := by decide +kernel
theorem dX0_note_49 : decode cX0_note 49 = .ok (.aastore, 1) := by decide +kernel
theorem dX0_note_50 : decode cX0_note 50 = .ok (.aload_n 0, 1) := by decide +kernel
theorem dX0_note_51 : decode cX0_note 51 = .ok (.dup, 1) := by decide +kernel
theorem dX0_note_52 : decode cX0_note 52 = .ok (.getfield 21, 3) := by decide +kernel
theorem dX0_note_55 : decode cX0_note 55 = .ok (.iconst 1, 1) := by decide +kernel
theorem dX0_note_56 : decode cX0_note 56 = .ok (.iadd, 1) := by decide +kernel
theorem dX0_note_57 : decode cX0_note 57 = .ok (.putfield 21, 3) := by decide +kernel
theorem dX0_note_60 : decode cX0_note 60 = .ok (.iinc 2 1, 3) := by decide +kernel
theorem dX0_note_63 : decode cX0_note 63 = .ok (.goto (-56), 3) := by decide +kernel
theorem dX0_note_66 : decode cX0_note 66 = .ok (.return_, 1) := by decide +kernel
theorem dX0_countOrders_0 : decode cX0_countOrders 0 = .ok (.iconst 1, 1) := by decide +kernel
theorem dX0_countOrders_1 : decode cX0_countOrders 1 = .ok (.istore_n 1, 1) := by decide +kernel
theorem dX0_countOrders_2 : decode cX0_countOrders 2 = .ok (.iconst 2, 1) := by decide +kernel
theorem dX0_countOrders_3 : decode cX0_countOrders 3 = .ok (.istore_n 2, 1) := by decide +kernel
theorem dX0_countOrders_4 : decode cX0_countOrders 4 = .ok (.iload_n 2, 1) := by decide +kernel
theorem dX0_countOrders_5 : decode cX0_countOrders 5 = .ok (.aload_n 0, 1) := by decide +kernel
theorem dX0_countOrders_6 : decode cX0_countOrders 6 = .ok (.getfield 21, 3) := by decide +kernel
theorem dX0_countOrders_9 : decode cX0_countOrders 9 = .ok (.if_icmp .gt 19, 3) := by decide +kernel
theorem dX0_countOrders_12 : decode cX0_countOrders 12 = .ok (.iload_n 2, 1) := by decide +kernel
theorem dX0_countOrders_13 : decode cX0_countOrders 13 = .ok (.bipush 10, 2) := by decide +kernel
theorem dX0_countOrders_15 : decode cX0_countOrders 15 = .ok (.if_icmp .gt 13, 3) := by decide +kernel
theorem dX0_countOrders_18 : decode cX0_countOrders 18 = .ok (.iload_n 1, 1) := by decide +kernel
theorem dX0_countOrders_19 : decode cX0_countOrders 19 = .ok (.iload_n 2, 1) := by decide +kernel
theorem dX0_countOrders_20 : decode cX0_countOrders 20 = .ok (.imul, 1) := by decide +kernel
theorem dX0_countOrders_21 : decode cX0_countOrders 21 = .ok (.istore_n 1, 1) := by decide +kernel
theorem dX0_countOrders_22 : decode cX0_countOrders 22 = .ok (.iinc 2 1, 3) := by decide +kernel
theorem dX0_countOrders_25 : decode cX0_countOrders 25 = .ok (.goto (-21), 3) := by decide +kernel
theorem dX0_countOrders_28 : decode cX0_countOrders 28 = .ok (.iload_n 1, 1) := by decide +kernel
theorem dX0_countOrders_29 : decode cX0_countOrders 29 = .ok (.ireturn, 1) := by decide +kernel
theorem dX0_restore_0 : decode cX0_restore 0 = .ok (.iconst 0, 1) := by decide +kernel
theorem dX0_restore_1 : decode cX0_restore 1 = .ok (.istore_n 2, 1) := by decide +kernel
theorem dX0_restore_2 : decode cX0_restore 2 = .ok (.iload_n 2, 1) := by decide +kernel
theorem dX0_restore_3 : decode cX0_restore 3 = .ok (.aload_n 0, 1) := by decide +kernel
theorem dX0_restore_4 : decode cX0_restore 4 = .ok (.getfield 21, 3) := by decide +kernel
theorem dX0_restore_7 : decode cX0_restore 7 = .ok (.if_icmp .ge 31, 3) := by decide +kernel
theorem dX0_restore_10 : decode cX0_restore 10 = .ok (.iload_n 2, 1) := by decide +kernel
theorem dX0_restore_11 : decode cX0_restore 11 = .ok (.bipush 10, 2) := by decide +kernel
theorem dX0_restore_13 : decode cX0_restore 13 = .ok (.if_icmp .ge 25, 3) := by decide +kernel
theorem dX0_restore_16 : decode cX0_restore 16 = .ok (.aload_n 1, 1) := by decide +kernel
theorem dX0_restore_17 : decode cX0_restore 17 = .ok (.aload_n 0, 1) := by decide +kernel
theorem dX0_restore_18 : decode cX0_restore 18 = .ok (.getfield 9, 3) := by decide +kernel
theorem dX0_restore_21 : decode cX0_restore 21 = .ok (.iload_n 2, 1) := by decide +kernel
theorem dX0_restore_22 : decode cX0_restore 22 = .ok (.iaload, 1) := by decide +kernel
theorem dX0_restore_23 : decode cX0_restore 23 = .ok (.aload_n 0, 1) := by decide +kernel
theorem dX0_restore_24 : decode cX0_restore 24 = .ok (.getfield 17, 3) := by decide +kernel
theorem dX0_restore_27 : decode cX0_restore 27 = .ok (.iload_n 2, 1) := by decide +kernel
theorem dX0_restore_28 : decode cX0_restore 28 = .ok (.aaload, 1) := by decide +kernel
theorem dX0_restore_29 : decode cX0_restore 29 = .ok (.invokestatic 25, 3) := by decide +kernel
theorem dX0_restore_32 : decode cX0_restore 32 = .ok (.iinc 2 1, 3) := by decide +kernel
theorem dX0_restore_35 : decode cX0_restore 35 = .ok (.goto (-33), 3) := by decide +kernel
theorem dX0_restore_38 : decode cX0_restore 38 = .ok (.return_, 1) := by decide +kernel
theorem dX0_lay_0 : decode cX0_lay 0 = .ok (.aload_n 0, 1) := by decide +kernel
theorem dX0_lay_1 : decode cX0_lay 1 = .ok (.aload_n 1, 1) := by decide +kernel
theorem dX0_lay_2 : decode cX0_lay 2 = .ok (.invokevirtual 29, 3) := by decide +kernel
theorem dX0_lay_5 : decode cX0_lay 5 = .ok (.iload_n 2, 1) := by decide +kernel
theorem dX0_lay_6 : decode cX0_lay 6 = .ok (.istore_n 3, 1) := by decide +kernel
theorem dX0_lay_7 : decode cX0_lay 7 = .ok (.aload_n 0, 1) := by decide +kernel
theorem dX0_lay_8 : decode cX0_lay 8 = .ok (.getfield 21, 3) := by decide +kernel
theorem dX0_lay_11 : decode cX0_lay 11 = .ok (.bipush 10, 2) := by decide +kernel
theorem dX0_lay_13 : decode cX0_lay 13 = .ok (.invokestatic 33, 3) := by decide +kernel
theorem dX0_lay_16 : decode cX0_lay 16 = .ok (.istore 4, 2) := by decide +kernel
theorem dX0_lay_18 : decode cX0_lay 18 = .ok (.iload 4, 2) := by decide +kernel
theorem dX0_lay_20 : decode cX0_lay 20 = .ok (.iconst 1, 1) := by decide +kernel
theorem dX0_lay_21 : decode cX0_lay 21 = .ok (.if_icmp .le 36, 3) := by decide +kernel
theorem dX0_lay_24 : decode cX0_lay 24 = .ok (.aload_n 1, 1) := by decide +kernel
theorem dX0_lay_25 : decode cX0_lay 25 = .ok (.aload_n 0, 1) := by decide +kernel
theorem dX0_lay_26 : decode cX0_lay 26 = .ok (.getfield 9, 3) := by decide +kernel
theorem dX0_lay_29 : decode cX0_lay 29 = .ok (.iload 4, 2) := by decide +kernel
theorem dX0_lay_31 : decode cX0_lay 31 = .ok (.iconst 1, 1) := by decide +kernel
theorem dX0_lay_32 : decode cX0_lay 32 = .ok (.isub, 1) := by decide +kernel
theorem dX0_lay_33 : decode cX0_lay 33 = .ok (.iaload, 1) := by decide +kernel
theorem dX0_lay_34 : decode cX0_lay 34 = .ok (.aload_n 0, 1) := by decide +kernel
theorem dX0_lay_35 : decode cX0_lay 35 = .ok (.getfield 9, 3) := by decide +kernel
theorem dX0_lay_38 : decode cX0_lay 38 = .ok (.iload_n 3, 1) := by decide +kernel
theorem dX0_lay_39 : decode cX0_lay 39 = .ok (.iload 4, 2) := by decide +kernel
theorem dX0_lay_41 : decode cX0_lay 41 = .ok (.irem, 1) := by decide +kernel
theorem dX0_lay_42 : decode cX0_lay 42 = .ok (.iaload, 1) := by decide +kernel
theorem dX0_lay_43 : decode cX0_lay 43 = .ok (.invokestatic 39, 3) := by decide +kernel
theorem dX0_lay_46 : decode cX0_lay 46 = .ok (.iload_n 3, 1) := by decide +kernel
theorem dX0_lay_47 : decode cX0_lay 47 = .ok (.iload 4, 2) := by decide +kernel
theorem dX0_lay_49 : decode cX0_lay 49 = .ok (.idiv, 1) := by decide +kernel
theorem dX0_lay_50 : decode cX0_lay 50 = .ok (.istore_n 3, 1) := by decide +kernel
theorem dX0_lay_51 : decode cX0_lay 51 = .ok (.iinc 4 (-1), 3) := by decide +kernel
theorem dX0_lay_54 : decode cX0_lay 54 = .ok (.goto (-36), 3) := by decide +kernel
theorem dX0_lay_57 : decode cX0_lay 57 = .ok (.return_, 1) := by decide +kernel
theorem dX1_init_0 : decode cX1_init 0 = .ok (.aload_n 0, 1) := by decide +kernel
theorem dX1_init_1 : decode cX1_init 1 = .ok (.invokespecial 1, 3) := by decide +kernel
theorem dX1_init_4 : decode cX1_init 4 = .ok (.aload_n 0, 1) := by decide +kernel
theorem dX1_init_5 : decode cX1_init 5 = .ok (.iconst 0, 1) := by decide +kernel
theorem dX1_init_6 : decode cX1_init 6 = .ok (.putfield 7, 3) := by decide +kernel
theorem dX1_init_9 : decode cX1_init 9 = .ok (.aload_n 0, 1) := by decide +kernel
theorem dX1_init_10 : decode cX1_init 10 = .ok (.iload_n 1, 1) := by decide +kernel
theorem dX1_init_11 : decode cX1_init 11 = .ok (.putfield 13, 3) := by decide +kernel
theorem dX1_init_14 : decode cX1_init 14 = .ok (.aload_n 0, 1) := by decide +kernel
theorem dX1_init_15 : decode cX1_init 15 = .ok (.iload_n 2, 1) := by decide +kernel
theorem dX1_init_16 : decode cX1_init 16 = .ok (.putfield 17, 3) := by decide +kernel
theorem dX1_init_19 : decode cX1_init 19 = .ok (.aload_n 0, 1) := by decide +kernel
theorem dX1_init_20 : decode cX1_init 20 = .ok (.iload_n 3, 1) := by decide +kernel
theorem dX1_init_21 : decode cX1_init 21 = .ok (.putfield 20, 3) := by decide +kernel
theorem dX1_init_24 : decode cX1_init 24 = .ok (.aload_n 0, 1) := by decide +kernel
theorem dX1_init_25 : decode cX1_init 25 = .ok (.iload 4, 2) := by decide +kernel
theorem dX1_init_27 : decode cX1_init 27 = .ok (.putfield 23, 3) := by decide +kernel
theorem dX1_init_30 : decode cX1_init 30 = .ok (.return_, 1) := by decide +kernel
theorem dX1_covers_0 : decode cX1_covers 0 = .ok (.aload_n 0, 1) := by decide +kernel
theorem dX1_covers_1 : decode cX1_covers 1 = .ok (.getfield 7, 3) := by decide +kernel
theorem dX1_covers_4 : decode cX1_covers 4 = .ok (.ifCond .ne 45, 3) := by decide +kernel
theorem dX1_covers_7 : decode cX1_covers 7 = .ok (.aload_n 0, 1) := by decide +kernel
theorem dX1_covers_8 : decode cX1_covers 8 = .ok (.getfield 13, 3) := by decide +kernel
theorem dX1_covers_11 : decode cX1_covers 11 = .ok (.aload_n 1, 1) := by decide +kernel
theorem dX1_covers_12 : decode cX1_covers 12 = .ok (.getfield 26, 3) := by decide +kernel
theorem dX1_covers_15 : decode cX1_covers 15 = .ok (.if_icmp .ne 34, 3) := by decide +kernel
theorem dX1_covers_18 : decode cX1_covers 18 = .ok (.aload_n 0, 1) := by decide +kernel
theorem dX1_covers_19 : decode cX1_covers 19 = .ok (.getfield 17, 3) := by decide +kernel
theorem dX1_covers_22 : decode cX1_covers 22 = .ok (.iload_n 2, 1) := by decide +kernel
theorem dX1_covers_23 : decode cX1_covers 23 = .ok (.if_icmp .gt 26, 3) := by decide +kernel
theorem dX1_covers_26 : decode cX1_covers 26 = .ok (.iload_n 2, 1) := by decide +kernel
theorem dX1_covers_27 : decode cX1_covers 27 = .ok (.aload_n 0, 1) := by decide +kernel
theorem dX1_covers_28 : decode cX1_covers 28 = .ok (.getfield 20, 3) := by decide +kernel
theorem dX1_covers_31 : decode cX1_covers 31 = .ok (.if_icmp .gt 18, 3) := by decide +kernel
theorem dX1_covers_34 : decode cX1_covers 34 = .ok (.aload_n 0, 1) := by decide +kernel
theorem dX1_covers_35 : decode cX1_covers 35 = .ok (.getfield 23, 3) := by decide +kernel
theorem dX1_covers_38 : decode cX1_covers 38 = .ok (.aload_n 1, 1) := by decide +kernel
theorem dX1_covers_39 : decode cX1_covers 39 = .ok (.getfield 29, 3) := by decide +kernel
theorem dX1_covers_42 : decode cX1_covers 42 = .ok (.if_icmp .lt 7, 3) := by decide +kernel
theorem dX1_covers_45 : decode cX1_covers 45 = .ok (.iconst 1, 1) := by decide +kernel
theorem dX1_covers_46 : decode cX1_covers 46 = .ok (.goto 4, 3) := by decide +kernel
theorem dX1_covers_49 : decode cX1_covers 49 = .ok (.iconst 0, 1) := by decide +kernel
theorem dX1_covers_50 : decode cX1_covers 50 = .ok (.ireturn, 1) := by decide +kernel
theorem dX2_init_0 : decode cX2_init 0 = .ok (.aload_n 0, 1) := by decide +kernel
theorem dX2_init_1 : decode cX2_init 1 = .ok (.invokespecial 3, 3) := by decide +kernel
theorem dX2_init_4 : decode cX2_init 4 = .ok (.aload_n 0, 1) := by decide +kernel
theorem dX2_init_5 : decode cX2_init 5 = .ok (.iconst 5, 1) := by decide +kernel
theorem dX2_init_6 : decode cX2_init 6 = .ok (.newarray .int, 2) := by decide +kernel
theorem dX2_init_8 : decode cX2_init 8 = .ok (.putfield 9, 3) := by decide +kernel
theorem dX2_init_11 : decode cX2_init 11 = .ok (.aload_n 0, 1) := by decide +kernel
theorem dX2_init_12 : decode cX2_init 12 = .ok (.iconst 5, 1) := by decide +kernel
theorem dX2_init_13 : decode cX2_init 13 = .ok (.newarray .int, 2) := by decide +kernel
theorem dX2_init_15 : decode cX2_init 15 = .ok (.putfield 15, 3) := by decide +kernel
theorem dX2_init_18 : decode cX2_init 18 = .ok (.aload_n 0, 1) := by decide +kernel
theorem dX2_init_19 : decode cX2_init 19 = .ok (.iconst 5, 1) := by decide +kernel
theorem dX2_init_20 : decode cX2_init 20 = .ok (.newarray .int, 2) := by decide +kernel
theorem dX2_init_22 : decode cX2_init 22 = .ok (.putfield 18, 3) := by decide +kernel
theorem dX2_init_25 : decode cX2_init 25 = .ok (.aload_n 0, 1) := by decide +kernel
theorem dX2_init_26 : decode cX2_init 26 = .ok (.iconst 0, 1) := by decide +kernel
theorem dX2_init_27 : decode cX2_init 27 = .ok (.putfield 21, 3) := by decide +kernel
theorem dX2_init_30 : decode cX2_init 30 = .ok (.aload_n 0, 1) := by decide +kernel
theorem dX2_init_31 : decode cX2_init 31 = .ok (.iconst (-1), 1) := by decide +kernel
theorem dX2_init_32 : decode cX2_init 32 = .ok (.putfield 25, 3) := by decide +kernel
theorem dX2_init_35 : decode cX2_init 35 = .ok (.aload_n 0, 1) := by decide +kernel
theorem dX2_init_36 : decode cX2_init 36 = .ok (.iload_n 1, 1) := by decide +kernel
theorem dX2_init_37 : decode cX2_init 37 = .ok (.putfield 28, 3) := by decide +kernel
theorem dX2_init_40 : decode cX2_init 40 = .ok (.aload_n 0, 1) := by decide +kernel
theorem dX2_init_41 : decode cX2_init 41 = .ok (.iload_n 2, 1) := by decide +kernel
theorem dX2_init_42 : decode cX2_init 42 = .ok (.putfield 31, 3) := by decide +kernel
theorem dX2_init_45 : decode cX2_init 45 = .ok (.aload_n 0, 1) := by decide +kernel
theorem dX2_init_46 : decode cX2_init 46 = .ok (.iload_n 3, 1) := by decide +kernel
theorem dX2_init_47 : decode cX2_init 47 = .ok (.putfield 34, 3) := by decide +kernel
theorem dX2_init_50 : decode cX2_init 50 = .ok (.aload_n 0, 1) := by decide +kernel
theorem dX2_init_51 : decode cX2_init 51 = .ok (.getfield 9, 3) := by decide +kernel
theorem dX2_init_54 : decode cX2_init 54 = .ok (.bipush (-2), 2) := by decide +kernel
theorem dX2_init_56 : decode cX2_init 56 = .ok (.invokestatic 37, 3) := by decide +kernel
theorem dX2_init_59 : decode cX2_init 59 = .ok (.aload_n 0, 1) := by decide +kernel
theorem dX2_init_60 : decode cX2_init 60 = .ok (.getfield 15, 3) := by decide +kernel
theorem dX2_init_63 : decode cX2_init 63 = .ok (.iconst (-1), 1) := by decide +kernel
theorem dX2_init_64 : decode cX2_init 64 = .ok (.invokestatic 37, 3) := by decide +kernel
theorem dX2_init_67 : decode cX2_init 67 = .ok (.aload_n 0, 1) := by decide +kernel
theorem dX2_init_68 : decode cX2_init 68 = .ok (.getfield 18, 3) := by decide +kernel
theorem dX2_init_71 : decode cX2_init 71 = .ok (.iconst (-1), 1) := by decide +kernel
theorem dX2_init_72 : decode cX2_init 72 = .ok (.invokestatic 37, 3) := by decide +kernel
theorem dX2_init_75 : decode cX2_init 75 = .ok (.return_, 1) := by decide +kernel
theorem dX2_countActors_0 : decode cX2_countActors 0 = .ok (.iconst 0, 1) := by decide +kernel
theorem dX2_countActors_1 : decode cX2_countActors 1 = .ok (.istore_n 1, 1) := by decide +kernel
theorem dX2_countActors_2 : decode cX2_countActors 2 = .ok (.aload_n 0, 1) := by decide +kernel
theorem dX2_countActors_3 : decode cX2_countActors 3 = .ok (.getfield 9, 3) := by decide +kernel
theorem dX2_countActors_6 : decode cX2_countActors 6 = .ok (.astore_n 2, 1) := by decide +kernel
theorem dX2_countActors_7 : decode cX2_countActors 7 = .ok (.aload_n 2, 1) := by decide +kernel
theorem dX2_countActors_8 : decode cX2_countActors 8 = .ok (.arraylength, 1) := by decide +kernel
theorem dX2_countActors_9 : decode cX2_countActors 9 = .ok (.istore_n 3, 1) := by decide +kernel
theorem dX2_countActors_10 : decode cX2_countActors 10 = .ok (.iconst 0, 1) := by decide +kernel
theorem dX2_countActors_11 : decode cX2_countActors 11 = .ok (.istore 4, 2) := by decide +kernel
theorem dX2_countActors_13 : decode cX2_countActors 13 = .ok (.iload 4, 2) := by decide +kernel
theorem dX2_countActors_15 : decode cX2_countActors 15 = .ok (.iload_n 3, 1) := by decide +kernel
theorem dX2_countActors_16 : decode cX2_countActors 16 = .ok (.if_icmp .ge 30, 3) := by decide +kernel
theorem dX2_countActors_19 : decode cX2_countActors 19 = .ok (.aload_n 2, 1) := by decide +kernel
theorem dX2_countActors_20 : decode cX2_countActors 20 = .ok (.iload 4, 2) := by decide +kernel
theorem dX2_countActors_22 : decode cX2_countActors 22 = .ok (.iaload, 1) := by decide +kernel
theorem dX2_countActors_23 : decode cX2_countActors 23 = .ok (.istore 5, 2) := by decide +kernel
theorem dX2_countActors_25 : decode cX2_countActors 25 = .ok (.iload_n 1, 1) := by decide +kernel
theorem dX2_countActors_26 : decode cX2_countActors 26 = .ok (.iload 5, 2) := by decide +kernel
theorem dX2_countActors_28 : decode cX2_countActors 28 = .ok (.bipush (-2), 2) := by decide +kernel
theorem dX2_countActors_30 : decode cX2_countActors 30 = .ok (.if_icmp .ne 7, 3) := by decide +kernel
theorem dX2_countActors_33 : decode cX2_countActors 33 = .ok (.iconst 0, 1) := by decide +kernel
theorem dX2_countActors_34 : decode cX2_countActors 34 = .ok (.goto 4, 3) := by decide +kernel
theorem dX2_countActors_37 : decode cX2_countActors 37 = .ok (.iconst 1, 1) := by decide +kernel
theorem dX2_countActors_38 : decode cX2_countActors 38 = .ok (.iadd, 1) := by decide +kernel
theorem dX2_countActors_39 : decode cX2_countActors 39 = .ok (.istore_n 1, 1) := by decide +kernel
theorem dX2_countActors_40 : decode cX2_countActors 40 = .ok (.iinc 4 1, 3) := by decide +kernel
theorem dX2_countActors_43 : decode cX2_countActors 43 = .ok (.goto (-30), 3) := by decide +kernel
theorem dX2_countActors_46 : decode cX2_countActors 46 = .ok (.iload_n 1, 1) := by decide +kernel
theorem dX2_countActors_47 : decode cX2_countActors 47 = .ok (.ireturn, 1) := by decide +kernel
theorem dX2_countProps_0 : decode cX2_countProps 0 = .ok (.iconst 0, 1) := by decide +kernel
theorem dX2_countProps_1 : decode cX2_countProps 1 = .ok (.istore_n 1, 1) := by decide +kernel
theorem dX2_countProps_2 : decode cX2_countProps 2 = .ok (.aload_n 0, 1) := by decide +kernel
theorem dX2_countProps_3 : decode cX2_countProps 3 = .ok (.getfield 15, 3) := by decide +kernel
theorem dX2_countProps_6 : decode cX2_countProps 6 = .ok (.astore_n 2, 1) := by decide +kernel
theorem dX2_countProps_7 : decode cX2_countProps 7 = .ok (.aload_n 2, 1) := by decide +kernel
theorem dX2_countProps_8 : decode cX2_countProps 8 = .ok (.arraylength, 1) := by decide +kernel
theorem dX2_countProps_9 : decode cX2_countProps 9 = .ok (.istore_n 3, 1) := by decide +kernel
theorem dX2_countProps_10 : decode cX2_countProps 10 = .ok (.iconst 0, 1) := by decide +kernel
theorem dX2_countProps_11 : decode cX2_countProps 11 = .ok (.istore 4, 2) := by decide +kernel
theorem dX2_countProps_13 : decode cX2_countProps 13 = .ok (.iload 4, 2) := by decide +kernel
theorem dX2_countProps_15 : decode cX2_countProps 15 = .ok (.iload_n 3, 1) := by decide +kernel
theorem dX2_countProps_16 : decode cX2_countProps 16 = .ok (.if_icmp .ge 29, 3) := by decide +kernel
theorem dX2_countProps_19 : decode cX2_countProps 19 = .ok (.aload_n 2, 1) := by decide +kernel
theorem dX2_countProps_20 : decode cX2_countProps 20 = .ok (.iload 4, 2) := by decide +kernel
theorem dX2_countProps_22 : decode cX2_countProps 22 = .ok (.iaload, 1) := by decide +kernel
theorem dX2_countProps_23 : decode cX2_countProps 23 = .ok (.istore 5, 2) := by decide +kernel
theorem dX2_countProps_25 : decode cX2_countProps 25 = .ok (.iload_n 1, 1) := by decide +kernel
theorem dX2_countProps_26 : decode cX2_countProps 26 = .ok (.iload 5, 2) := by decide +kernel
theorem dX2_countProps_28 : decode cX2_countProps 28 = .ok (.iconst (-1), 1) := by decide +kernel
theorem dX2_countProps_29 : decode cX2_countProps 29 = .ok (.if_icmp .ne 7, 3) := by decide +kernel
theorem dX2_countProps_32 : decode cX2_countProps 32 = .ok (.iconst 0, 1) := by decide +kernel
theorem dX2_countProps_33 : decode cX2_countProps 33 = .ok (.goto 4, 3) := by decide +kernel
theorem dX2_countProps_36 : decode cX2_countProps 36 = .ok (.iconst 1, 1) := by decide +kernel
theorem dX2_countProps_37 : decode cX2_countProps 37 = .ok (.iadd, 1) := by decide +kernel
theorem dX2_countProps_38 : decode cX2_countProps 38 = .ok (.istore_n 1, 1) := by decide +kernel
theorem dX2_countProps_39 : decode cX2_countProps 39 = .ok (.iinc 4 1, 3) := by decide +kernel
theorem dX2_countProps_42 : decode cX2_countProps 42 = .ok (.goto (-29), 3) := by decide +kernel
theorem dX2_countProps_45 : decode cX2_countProps 45 = .ok (.iload_n 1, 1) := by decide +kernel
theorem dX2_countProps_46 : decode cX2_countProps 46 = .ok (.ireturn, 1) := by decide +kernel
theorem dX2_ages_0 : decode cX2_ages 0 = .ok (.aload_n 0, 1) := by decide +kernel
theorem dX2_ages_1 : decode cX2_ages 1 = .ok (.getfield 21, 3) := by decide +kernel
theorem dX2_ages_4 : decode cX2_ages 4 = .ok (.iconst 2, 1) := by decide +kernel
theorem dX2_ages_5 : decode cX2_ages 5 = .ok (.if_icmp .eq 26, 3) := by decide +kernel
theorem dX2_ages_8 : decode cX2_ages 8 = .ok (.iload_n 1, 1) := by decide +kernel
theorem dX2_ages_9 : decode cX2_ages 9 = .ok (.ifCond .lt 22, 3) := by decide +kernel
theorem dX2_ages_12 : decode cX2_ages 12 = .ok (.iload_n 1, 1) := by decide +kernel
theorem dX2_ages_13 : decode cX2_ages 13 = .ok (.iconst 5, 1) := by decide +kernel
theorem dX2_ages_14 : decode cX2_ages 14 = .ok (.if_icmp .ge 17, 3) := by decide +kernel
theorem dX2_ages_17 : decode cX2_ages 17 = .ok (.aload_n 0, 1) := by decide +kernel
theorem dX2_ages_18 : decode cX2_ages 18 = .ok (.getfield 15, 3) := by decide +kernel
theorem dX2_ages_21 : decode cX2_ages 21 = .ok (.iload_n 1, 1) := by decide +kernel
theorem dX2_ages_22 : decode cX2_ages 22 = .ok (.iaload, 1) := by decide +kernel
theorem dX2_ages_23 : decode cX2_ages 23 = .ok (.iconst (-1), 1) := by decide +kernel
theorem dX2_ages_24 : decode cX2_ages 24 = .ok (.if_icmp .eq 7, 3) := by decide +kernel
theorem dX2_ages_27 : decode cX2_ages 27 = .ok (.iconst 1, 1) := by decide +kernel
theorem dX2_ages_28 : decode cX2_ages 28 = .ok (.goto 4, 3) := by decide +kernel
theorem dX2_ages_31 : decode cX2_ages 31 = .ok (.iconst 0, 1) := by decide +kernel
theorem dX2_ages_32 : decode cX2_ages 32 = .ok (.ireturn, 1) := by decide +kernel
theorem dX3_init_0 : decode cX3_init 0 = .ok (.aload_n 0, 1) := by decide +kernel
theorem dX3_init_1 : decode cX3_init 1 = .ok (.invokespecial 3, 3) := by decide +kernel
theorem dX3_init_4 : decode cX3_init 4 = .ok (.aload_n 0, 1) := by decide +kernel
theorem dX3_init_5 : decode cX3_init 5 = .ok (.iconst 5, 1) := by decide +kernel
theorem dX3_init_6 : decode cX3_init 6 = .ok (.iconst 4, 1) := by decide +kernel
theorem dX3_init_7 : decode cX3_init 7 = .ok (.multianewarray 9 2, 4) := by decide +kernel
theorem dX3_init_11 : decode cX3_init 11 = .ok (.putfield 11, 3) := by decide +kernel
theorem dX3_init_14 : decode cX3_init 14 = .ok (.aload_n 0, 1) := by decide +kernel
theorem dX3_init_15 : decode cX3_init 15 = .ok (.iconst 5, 1) := by decide +kernel
theorem dX3_init_16 : decode cX3_init 16 = .ok (.newarray .int, 2) := by decide +kernel
theorem dX3_init_18 : decode cX3_init 18 = .ok (.putfield 16, 3) := by decide +kernel
theorem dX3_init_21 : decode cX3_init 21 = .ok (.aload_n 0, 1) := by decide +kernel
theorem dX3_init_22 : decode cX3_init 22 = .ok (.iconst (-1), 1) := by decide +kernel
theorem dX3_init_23 : decode cX3_init 23 = .ok (.putfield 20, 3) := by decide +kernel
theorem dX3_init_26 : decode cX3_init 26 = .ok (.return_, 1) := by decide +kernel
theorem dX3_copy_0 : decode cX3_copy 0 = .ok (.iconst 0, 1) := by decide +kernel
theorem dX3_copy_1 : decode cX3_copy 1 = .ok (.istore_n 2, 1) := by decide +kernel
theorem dX3_copy_2 : decode cX3_copy 2 = .ok (.iload_n 2, 1) := by decide +kernel
theorem dX3_copy_3 : decode cX3_copy 3 = .ok (.iconst 5, 1) := by decide +kernel
theorem dX3_copy_4 : decode cX3_copy 4 = .ok (.if_icmp .ge 27, 3) := by decide +kernel
theorem dX3_copy_7 : decode cX3_copy 7 = .ok (.aload_n 1, 1) := by decide +kernel
theorem dX3_copy_8 : decode cX3_copy 8 = .ok (.getfield 11, 3) := by decide +kernel
theorem dX3_copy_11 : decode cX3_copy 11 = .ok (.iload_n 2, 1) := by decide +kernel
theorem dX3_copy_12 : decode cX3_copy 12 = .ok (.aaload, 1) := by decide +kernel
theorem dX3_copy_13 : decode cX3_copy 13 = .ok (.iconst 0, 1) := by decide +kernel
theorem dX3_copy_14 : decode cX3_copy 14 = .ok (.aload_n 0, 1) := by decide +kernel
theorem dX3_copy_15 : decode cX3_copy 15 = .ok (.getfield 11, 3) := by decide +kernel
theorem dX3_copy_18 : decode cX3_copy 18 = .ok (.iload_n 2, 1) := by decide +kernel
theorem dX3_copy_19 : decode cX3_copy 19 = .ok (.aaload, 1) := by decide +kernel
theorem dX3_copy_20 : decode cX3_copy 20 = .ok (.iconst 0, 1) := by decide +kernel
theorem dX3_copy_21 : decode cX3_copy 21 = .ok (.iconst 4, 1) := by decide +kernel
theorem dX3_copy_22 : decode cX3_copy 22 = .ok (.invokestatic 24, 3) := by decide +kernel
theorem dX3_copy_25 : decode cX3_copy 25 = .ok (.iinc 2 1, 3) := by decide +kernel
theorem dX3_copy_28 : decode cX3_copy 28 = .ok (.goto (-26), 3) := by decide +kernel
theorem dX3_copy_31 : decode cX3_copy 31 = .ok (.aload_n 1, 1) := by decide +kernel
theorem dX3_copy_32 : decode cX3_copy 32 = .ok (.getfield 16, 3) := by decide +kernel
theorem dX3_copy_35 : decode cX3_copy 35 = .ok (.iconst 0, 1) := by decide +kernel
theorem dX3_copy_36 : decode cX3_copy 36 = .ok (.aload_n 0, 1) := by decide +kernel
theorem dX3_copy_37 : decode cX3_copy 37 = .ok (.getfield 16, 3) := by decide +kernel
theorem dX3_copy_40 : decode cX3_copy 40 = .ok (.iconst 0, 1) := by decide +kernel
theorem dX3_copy_41 : decode cX3_copy 41 = .ok (.iconst 5, 1) := by decide +kernel
theorem dX3_copy_42 : decode cX3_copy 42 = .ok (.invokestatic 24, 3) := by decide +kernel
theorem dX3_copy_45 : decode cX3_copy 45 = .ok (.aload_n 0, 1) := by decide +kernel
theorem dX3_copy_46 : decode cX3_copy 46 = .ok (.aload_n 1, 1) := by decide +kernel
theorem dX3_copy_47 : decode cX3_copy 47 = .ok (.getfield 20, 3) := by decide +kernel
theorem dX3_copy_50 : decode cX3_copy 50 = .ok (.putfield 20, 3) := by decide +kernel
theorem dX3_copy_53 : decode cX3_copy 53 = .ok (.return_, 1) := by decide +kernel
theorem dX3_countCopies_0 : decode cX3_countCopies 0 = .ok (.iconst 0, 1) := by decide +kernel
theorem dX3_countCopies_1 : decode cX3_countCopies 1 = .ok (.istore_n 2, 1) := by decide +kernel
theorem dX3_countCopies_2 : decode cX3_countCopies 2 = .ok (.iconst 0, 1) := by decide +kernel
theorem dX3_countCopies_3 : decode cX3_countCopies 3 = .ok (.istore_n 3, 1) := by decide +kernel
theorem dX3_countCopies_4 : decode cX3_countCopies 4 = .ok (.iload_n 3, 1) := by decide +kernel
theorem dX3_countCopies_5 : decode cX3_countCopies 5 = .ok (.iconst 4, 1) := by decide +kernel
theorem dX3_countCopies_6 : decode cX3_countCopies 6 = .ok (.if_icmp .ge 20, 3) := by decide +kernel
theorem dX3_countCopies_9 : decode cX3_countCopies 9 = .ok (.iload_n 2, 1) := by decide +kernel
theorem dX3_countCopies_10 : decode cX3_countCopies 10 = .ok (.aload_n 0, 1) := by decide +kernel
theorem dX3_countCopies_11 : decode cX3_countCopies 11 = .ok (.getfield 11, 3) := by decide +kernel
theorem dX3_countCopies_14 : decode cX3_countCopies 14 = .ok (.iload_n 1, 1) := by decide +kernel
theorem dX3_countCopies_15 : decode cX3_countCopies 15 = .ok (.aaload, 1) := by decide +kernel
theorem dX3_countCopies_16 : decode cX3_countCopies 16 = .ok (.iload_n 3, 1) := by decide +kernel
theorem dX3_countCopies_17 : decode cX3_countCopies 17 = .ok (.iaload, 1) := by decide +kernel
theorem dX3_countCopies_18 : decode cX3_countCopies 18 = .ok (.iadd, 1) := by decide +kernel
theorem dX3_countCopies_19 : decode cX3_countCopies 19 = .ok (.istore_n 2, 1) := by decide +kernel
theorem dX3_countCopies_20 : decode cX3_countCopies 20 = .ok (.iinc 3 1, 3) := by decide +kernel
theorem dX3_countCopies_23 : decode cX3_countCopies 23 = .ok (.goto (-19), 3) := by decide +kernel
theorem dX3_countCopies_26 : decode cX3_countCopies 26 = .ok (.iload_n 2, 1) := by decide +kernel
theorem dX3_countCopies_27 : decode cX3_countCopies 27 = .ok (.ireturn, 1) := by decide +kernel
theorem dX3_growBeards_0 : decode cX3_growBeards 0 = .ok (.iconst 0, 1) := by decide +kernel
theorem dX3_growBeards_1 : decode cX3_growBeards 1 = .ok (.istore_n 2, 1) := by decide +kernel
theorem dX3_growBeards_2 : decode cX3_growBeards 2 = .ok (.iload_n 2, 1) := by decide +kernel
theorem dX3_growBeards_3 : decode cX3_growBeards 3 = .ok (.iconst 5, 1) := by decide +kernel
theorem dX3_growBeards_4 : decode cX3_growBeards 4 = .ok (.if_icmp .ge 28, 3) := by decide +kernel
theorem dX3_growBeards_7 : decode cX3_growBeards 7 = .ok (.aload_n 0, 1) := by decide +kernel
theorem dX3_growBeards_8 : decode cX3_growBeards 8 = .ok (.getfield 16, 3) := by decide +kernel
theorem dX3_growBeards_11 : decode cX3_growBeards 11 = .ok (.iload_n 2, 1) := by decide +kernel
theorem dX3_growBeards_12 : decode cX3_growBeards 12 = .ok (.bipush 20, 2) := by decide +kernel
theorem dX3_growBeards_14 : decode cX3_growBeards 14 = .ok (.aload_n 0, 1) := by decide +kernel
theorem dX3_growBeards_15 : decode cX3_growBeards 15 = .ok (.getfield 16, 3) := by decide +kernel
theorem dX3_growBeards_18 : decode cX3_growBeards 18 = .ok (.iload_n 2, 1) := by decide +kernel
theorem dX3_growBeards_19 : decode cX3_growBeards 19 = .ok (.iaload, 1) := by decide +kernel
theorem dX3_growBeards_20 : decode cX3_growBeards 20 = .ok (.iload_n 1, 1) := by decide +kernel
theorem dX3_growBeards_21 : decode cX3_growBeards 21 = .ok (.iadd, 1) := by decide +kernel
theorem dX3_growBeards_22 : decode cX3_growBeards 22 = .ok (.invokestatic 30, 3) := by decide +kernel
theorem dX3_growBeards_25 : decode cX3_growBeards 25 = .ok (.iastore, 1) := by decide +kernel
theorem dX3_growBeards_26 : decode cX3_growBeards 26 = .ok (.iinc 2 1, 3) := by decide +kernel
theorem dX3_growBeards_29 : decode cX3_growBeards 29 = .ok (.goto (-27), 3) := by decide +kernel
theorem dX3_growBeards_32 : decode cX3_growBeards 32 = .ok (.return_, 1) := by decide +kernel
theorem dX3_film_0 : decode cX3_film 0 = .ok (.aload_n 0, 1) := by decide +kernel
theorem dX3_film_1 : decode cX3_film 1 = .ok (.getfield 20, 3) := by decide +kernel
theorem dX3_film_4 : decode cX3_film 4 = .ok (.iconst (-1), 1) := by decide +kernel
theorem dX3_film_5 : decode cX3_film 5 = .ok (.if_icmp .eq 14, 3) := by decide +kernel
theorem dX3_film_8 : decode cX3_film 8 = .ok (.aload_n 0, 1) := by decide +kernel
theorem dX3_film_9 : decode cX3_film 9 = .ok (.getfield 20, 3) := by decide +kernel
theorem dX3_film_12 : decode cX3_film 12 = .ok (.aload_n 1, 1) := by decide +kernel
theorem dX3_film_13 : decode cX3_film 13 = .ok (.getfield 36, 3) := by decide +kernel
theorem dX3_film_16 : decode cX3_film 16 = .ok (.if_icmp .ne 7, 3) := by decide +kernel
theorem dX3_film_19 : decode cX3_film 19 = .ok (.iconst 0, 1) := by decide +kernel
theorem dX3_film_20 : decode cX3_film 20 = .ok (.goto 4, 3) := by decide +kernel
theorem dX3_film_23 : decode cX3_film 23 = .ok (.iconst 2, 1) := by decide +kernel
theorem dX3_film_24 : decode cX3_film 24 = .ok (.istore_n 2, 1) := by decide +kernel
theorem dX3_film_25 : decode cX3_film 25 = .ok (.aload_n 0, 1) := by decide +kernel
theorem dX3_film_26 : decode cX3_film 26 = .ok (.aload_n 1, 1) := by decide +kernel
theorem dX3_film_27 : decode cX3_film 27 = .ok (.getfield 36, 3) := by decide +kernel
theorem dX3_film_30 : decode cX3_film 30 = .ok (.putfield 20, 3) := by decide +kernel
theorem dX3_film_33 : decode cX3_film 33 = .ok (.iconst 0, 1) := by decide +kernel
theorem dX3_film_34 : decode cX3_film 34 = .ok (.istore_n 3, 1) := by decide +kernel
theorem dX3_film_35 : decode cX3_film 35 = .ok (.iload_n 3, 1) := by decide +kernel
theorem dX3_film_36 : decode cX3_film 36 = .ok (.iconst 5, 1) := by decide +kernel
theorem dX3_film_37 : decode cX3_film 37 = .ok (.if_icmp .ge 23, 3) := by decide +kernel
theorem dX3_film_40 : decode cX3_film 40 = .ok (.iload_n 2, 1) := by decide +kernel
theorem dX3_film_41 : decode cX3_film 41 = .ok (.aload_n 0, 1) := by decide +kernel
theorem dX3_film_42 : decode cX3_film 42 = .ok (.iload_n 3, 1) := by decide +kernel
theorem dX3_film_43 : decode cX3_film 43 = .ok (.aload_n 1, 1) := by decide +kernel
theorem dX3_film_44 : decode cX3_film 44 = .ok (.getfield 41, 3) := by decide +kernel
theorem dX3_film_47 : decode cX3_film 47 = .ok (.iload_n 3, 1) := by decide +kernel
theorem dX3_film_48 : decode cX3_film 48 = .ok (.iaload, 1) := by decide +kernel
theorem dX3_film_49 : decode cX3_film 49 = .ok (.invokevirtual 42, 3) := by decide +kernel
theorem dX3_film_52 : decode cX3_film 52 = .ok (.iadd, 1) := by decide +kernel
theorem dX3_film_53 : decode cX3_film 53 = .ok (.istore_n 2, 1) := by decide +kernel
theorem dX3_film_54 : decode cX3_film 54 = .ok (.iinc 3 1, 3) := by decide +kernel
theorem dX3_film_57 : decode cX3_film 57 = .ok (.goto (-22), 3) := by decide +kernel
theorem dX3_film_60 : decode cX3_film 60 = .ok (.iconst 0, 1) := by decide +kernel
theorem dX3_film_61 : decode cX3_film 61 = .ok (.istore_n 3, 1) := by decide +kernel
theorem dX3_film_62 : decode cX3_film 62 = .ok (.iload_n 3, 1) := by decide +kernel
theorem dX3_film_63 : decode cX3_film 63 = .ok (.iconst 5, 1) := by decide +kernel
theorem dX3_film_64 : decode cX3_film 64 = .ok (.if_icmp .ge 39, 3) := by decide +kernel
theorem dX3_film_67 : decode cX3_film 67 = .ok (.aload_n 1, 1) := by decide +kernel
theorem dX3_film_68 : decode cX3_film 68 = .ok (.getfield 45, 3) := by decide +kernel
theorem dX3_film_71 : decode cX3_film 71 = .ok (.iload_n 3, 1) := by decide +kernel
theorem dX3_film_72 : decode cX3_film 72 = .ok (.iaload, 1) := by decide +kernel
theorem dX3_film_73 : decode cX3_film 73 = .ok (.iconst (-1), 1) := by decide +kernel
theorem dX3_film_74 : decode cX3_film 74 = .ok (.if_icmp .eq 23, 3) := by decide +kernel
theorem dX3_film_77 : decode cX3_film 77 = .ok (.iload_n 2, 1) := by decide +kernel
theorem dX3_film_78 : decode cX3_film 78 = .ok (.aload_n 0, 1) := by decide +kernel
theorem dX3_film_79 : decode cX3_film 79 = .ok (.iload_n 3, 1) := by decide +kernel
theorem dX3_film_80 : decode cX3_film 80 = .ok (.aload_n 1, 1) := by decide +kernel
theorem dX3_film_81 : decode cX3_film 81 = .ok (.getfield 45, 3) := by decide +kernel
theorem dX3_film_84 : decode cX3_film 84 = .ok (.iload_n 3, 1) := by decide +kernel
theorem dX3_film_85 : decode cX3_film 85 = .ok (.iaload, 1) := by decide +kernel
theorem dX3_film_86 : decode cX3_film 86 = .ok (.aload_n 1, 1) := by decide +kernel
theorem dX3_film_87 : decode cX3_film 87 = .ok (.getfield 48, 3) := by decide +kernel
theorem dX3_film_90 : decode cX3_film 90 = .ok (.iload_n 3, 1) := by decide +kernel
theorem dX3_film_91 : decode cX3_film 91 = .ok (.iaload, 1) := by decide +kernel
theorem dX3_film_92 : decode cX3_film 92 = .ok (.invokevirtual 51, 3) := by decide +kernel
theorem dX3_film_95 : decode cX3_film 95 = .ok (.iadd, 1) := by decide +kernel
theorem dX3_film_96 : decode cX3_film 96 = .ok (.istore_n 2, 1) := by decide +kernel
theorem dX3_film_97 : decode cX3_film 97 = .ok (.iinc 3 1, 3) := by decide +kernel
theorem dX3_film_100 : decode cX3_film 100 = .ok (.goto (-38), 3) := by decide +kernel
theorem dX3_film_103 : decode cX3_film 103 = .ok (.iload_n 2, 1) := by decide +kernel
theorem dX3_film_104 : decode cX3_film 104 = .ok (.ireturn, 1) := by decide +kernel
theorem dX3_dress_0 : decode cX3_dress 0 = .ok (.iload_n 2, 1) := by decide +kernel
theorem dX3_dress_1 : decode cX3_dress 1 = .ok (.ifCond .ne 10, 3) := by decide +kernel
theorem dX3_dress_4 : decode cX3_dress 4 = .ok (.aload_n 0, 1) := by decide +kernel
theorem dX3_dress_5 : decode cX3_dress 5 = .ok (.getfield 16, 3) := by decide +kernel
theorem dX3_dress_8 : decode cX3_dress 8 = .ok (.iload_n 1, 1) := by decide +kernel
theorem dX3_dress_9 : decode cX3_dress 9 = .ok (.iconst 0, 1) := by decide +kernel
theorem dX3_dress_10 : decode cX3_dress 10 = .ok (.iastore, 1) := by decide +kernel
theorem dX3_dress_11 : decode cX3_dress 11 = .ok (.iload_n 2, 1) := by decide +kernel
theorem dX3_dress_12 : decode cX3_dress 12 = .ok (.aload_n 0, 1) := by decide +kernel
theorem dX3_dress_13 : decode cX3_dress 13 = .ok (.getfield 16, 3) := by decide +kernel
theorem dX3_dress_16 : decode cX3_dress 16 = .ok (.iload_n 1, 1) := by decide +kernel
theorem dX3_dress_17 : decode cX3_dress 17 = .ok (.iaload, 1) := by decide +kernel
theorem dX3_dress_18 : decode cX3_dress 18 = .ok (.if_icmp .le 7, 3) := by decide +kernel
theorem dX3_dress_21 : decode cX3_dress 21 = .ok (.iconst 3, 1) := by decide +kernel
theorem dX3_dress_22 : decode cX3_dress 22 = .ok (.goto 4, 3) := by decide +kernel
theorem dX3_dress_25 : decode cX3_dress 25 = .ok (.iconst 0, 1) := by decide +kernel
theorem dX3_dress_26 : decode cX3_dress 26 = .ok (.ireturn, 1) := by decide +kernel
theorem dX3_serve_0 : decode cX3_serve 0 = .ok (.aload_n 0, 1) := by decide +kernel
theorem dX3_serve_1 : decode cX3_serve 1 = .ok (.getfield 11, 3) := by decide +kernel
theorem dX3_serve_4 : decode cX3_serve 4 = .ok (.iload_n 1, 1) := by decide +kernel
theorem dX3_serve_5 : decode cX3_serve 5 = .ok (.aaload, 1) := by decide +kernel
theorem dX3_serve_6 : decode cX3_serve 6 = .ok (.astore 4, 2) := by decide +kernel
theorem dX3_serve_8 : decode cX3_serve 8 = .ok (.iconst (-1), 1) := by decide +kernel
theorem dX3_serve_9 : decode cX3_serve 9 = .ok (.istore 5, 2) := by decide +kernel
theorem dX3_serve_11 : decode cX3_serve 11 = .ok (.iconst 0, 1) := by decide +kernel
theorem dX3_serve_12 : decode cX3_serve 12 = .ok (.istore 6, 2) := by decide +kernel
theorem dX3_serve_14 : decode cX3_serve 14 = .ok (.iload 6, 2) := by decide +kernel
theorem dX3_serve_16 : decode cX3_serve 16 = .ok (.iconst 4, 1) := by decide +kernel
theorem dX3_serve_17 : decode cX3_serve 17 = .ok (.if_icmp .ge 27, 3) := by decide +kernel
theorem dX3_serve_20 : decode cX3_serve 20 = .ok (.iload 6, 2) := by decide +kernel
theorem dX3_serve_22 : decode cX3_serve 22 = .ok (.iload_n 2, 1) := by decide +kernel
theorem dX3_serve_23 : decode cX3_serve 23 = .ok (.if_icmp .gt 21, 3) := by decide +kernel
theorem dX3_serve_26 : decode cX3_serve 26 = .ok (.aload 4, 2) := by decide +kernel
theorem dX3_serve_28 : decode cX3_serve 28 = .ok (.iload 6, 2) := by decide +kernel
theorem dX3_serve_30 : decode cX3_serve 30 = .ok (.iaload, 1) := by decide +kernel
theorem dX3_serve_31 : decode cX3_serve 31 = .ok (.ifCond .le 7, 3) := by decide +kernel
theorem dX3_serve_34 : decode cX3_serve 34 = .ok (.iload 6, 2) := by decide +kernel
theorem dX3_serve_36 : decode cX3_serve 36 = .ok (.istore 5, 2) := by decide +kernel
theorem dX3_serve_38 : decode cX3_serve 38 = .ok (.iinc 6 1, 3) := by decide +kernel
theorem dX3_serve_41 : decode cX3_serve 41 = .ok (.goto (-27), 3) := by decide +kernel
theorem dX3_serve_44 : decode cX3_serve 44 = .ok (.iload_n 3, 1) := by decide +kernel
theorem dX3_serve_45 : decode cX3_serve 45 = .ok (.ifCond .lt 16, 3) := by decide +kernel
theorem dX3_serve_48 : decode cX3_serve 48 = .ok (.iload_n 3, 1) := by decide +kernel
theorem dX3_serve_49 : decode cX3_serve 49 = .ok (.iconst 4, 1) := by decide +kernel
theorem dX3_serve_50 : decode cX3_serve 50 = .ok (.if_icmp .ge 11, 3) := by decide +kernel
theorem dX3_serve_53 : decode cX3_serve 53 = .ok (.aload 4, 2) := by decide +kernel
theorem dX3_serve_55 : decode cX3_serve 55 = .ok (.iload_n 3, 1) := by decide +kernel
theorem dX3_serve_56 : decode cX3_serve 56 = .ok (.dup2, 1) := by decide +kernel
theorem dX3_serve_57 : decode cX3_serve 57 = .ok (.iaload, 1) := by decide +kernel
theorem dX3_serve_58 : decode cX3_serve 58 = .ok (.iconst 1, 1) := by decide +kernel
theorem dX3_serve_59 : decode cX3_serve 59 = .ok (.iadd, 1) := by decide +kernel
theorem dX3_serve_60 : decode cX3_serve 60 = .ok (.iastore, 1) := by decide +kernel
theorem dX3_serve_61 : decode cX3_serve 61 = .ok (.iload 5, 2) := by decide +kernel
theorem dX3_serve_63 : decode cX3_serve 63 = .ok (.iconst (-1), 1) := by decide +kernel
theorem dX3_serve_64 : decode cX3_serve 64 = .ok (.if_icmp .ne 7, 3) := by decide +kernel
theorem dX3_serve_67 : decode cX3_serve 67 = .ok (.iconst 5, 1) := by decide +kernel
theorem dX3_serve_68 : decode cX3_serve 68 = .ok (.iload_n 2, 1) := by decide +kernel
theorem dX3_serve_69 : decode cX3_serve 69 = .ok (.iadd, 1) := by decide +kernel
theorem dX3_serve_70 : decode cX3_serve 70 = .ok (.ireturn, 1) := by decide +kernel
theorem dX3_serve_71 : decode cX3_serve 71 = .ok (.aload 4, 2) := by decide +kernel
theorem dX3_serve_73 : decode cX3_serve 73 = .ok (.iload 5, 2) := by decide +kernel
theorem dX3_serve_75 : decode cX3_serve 75 = .ok (.dup2, 1) := by decide +kernel
theorem dX3_serve_76 : decode cX3_serve 76 = .ok (.iaload, 1) := by decide +kernel
theorem dX3_serve_77 : decode cX3_serve 77 = .ok (.iconst 1, 1) := by decide +kernel
theorem dX3_serve_78 : decode cX3_serve 78 = .ok (.isub, 1) := by decide +kernel
theorem dX3_serve_79 : decode cX3_serve 79 = .ok (.iastore, 1) := by decide +kernel
theorem dX3_serve_80 : decode cX3_serve 80 = .ok (.iload_n 2, 1) := by decide +kernel
theorem dX3_serve_81 : decode cX3_serve 81 = .ok (.iload 5, 2) := by decide +kernel
theorem dX3_serve_83 : decode cX3_serve 83 = .ok (.isub, 1) := by decide +kernel
theorem dX3_serve_84 : decode cX3_serve 84 = .ok (.ireturn, 1) := by decide +kernel
theorem dX4_init_0 : decode cX4_init 0 = .ok (.aload_n 0, 1) := by decide +kernel
theorem dX4_init_1 : decode cX4_init 1 = .ok (.invokespecial 1, 3) := by decide +kernel
theorem dX4_init_4 : decode cX4_init 4 = .ok (.aload_n 0, 1) := by decide +kernel
theorem dX4_init_5 : decode cX4_init 5 = .ok (.bipush 10, 2) := by decide +kernel
theorem dX4_init_7 : decode cX4_init 7 = .ok (.anewarray 9, 3) := by decide +kernel
theorem dX4_init_10 : decode cX4_init 10 = .ok (.putfield 11, 3) := by decide +kernel
theorem dX4_init_13 : decode cX4_init 13 = .ok (.aload_n 0, 1) := by decide +kernel
theorem dX4_init_14 : decode cX4_init 14 = .ok (.bipush 30, 2) := by decide +kernel
theorem dX4_init_16 : decode cX4_init 16 = .ok (.anewarray 9, 3) := by decide +kernel
theorem dX4_init_19 : decode cX4_init 19 = .ok (.putfield 15, 3) := by decide +kernel
theorem dX4_init_22 : decode cX4_init 22 = .ok (.aload_n 0, 1) := by decide +kernel
theorem dX4_init_23 : decode cX4_init 23 = .ok (.bipush 20, 2) := by decide +kernel
theorem dX4_init_25 : decode cX4_init 25 = .ok (.anewarray 18, 3) := by decide +kernel
theorem dX4_init_28 : decode cX4_init 28 = .ok (.putfield 20, 3) := by decide +kernel
theorem dX4_init_31 : decode cX4_init 31 = .ok (.aload_n 0, 1) := by decide +kernel
theorem dX4_init_32 : decode cX4_init 32 = .ok (.iconst 5, 1) := by decide +kernel
theorem dX4_init_33 : decode cX4_init 33 = .ok (.newarray .int, 2) := by decide +kernel
theorem dX4_init_35 : decode cX4_init 35 = .ok (.putfield 24, 3) := by decide +kernel
theorem dX4_init_38 : decode cX4_init 38 = .ok (.aload_n 0, 1) := by decide +kernel
theorem dX4_init_39 : decode cX4_init 39 = .ok (.new 28, 3) := by decide +kernel
theorem dX4_init_42 : decode cX4_init 42 = .ok (.dup, 1) := by decide +kernel
theorem dX4_init_43 : decode cX4_init 43 = .ok (.invokespecial 30, 3) := by decide +kernel
theorem dX4_init_46 : decode cX4_init 46 = .ok (.putfield 31, 3) := by decide +kernel
theorem dX4_init_49 : decode cX4_init 49 = .ok (.aload_n 0, 1) := by decide +kernel
theorem dX4_init_50 : decode cX4_init 50 = .ok (.new 28, 3) := by decide +kernel
theorem dX4_init_53 : decode cX4_init 53 = .ok (.dup, 1) := by decide +kernel
theorem dX4_init_54 : decode cX4_init 54 = .ok (.invokespecial 30, 3) := by decide +kernel
theorem dX4_init_57 : decode cX4_init 57 = .ok (.putfield 35, 3) := by decide +kernel
theorem dX4_init_60 : decode cX4_init 60 = .ok (.aload_n 0, 1) := by decide +kernel
theorem dX4_init_61 : decode cX4_init 61 = .ok (.new 38, 3) := by decide +kernel
theorem dX4_init_64 : decode cX4_init 64 = .ok (.dup, 1) := by decide +kernel
theorem dX4_init_65 : decode cX4_init 65 = .ok (.invokespecial 40, 3) := by decide +kernel
theorem dX4_init_68 : decode cX4_init 68 = .ok (.putfield 41, 3) := by decide +kernel
theorem dX4_init_71 : decode cX4_init 71 = .ok (.aload_n 0, 1) := by decide +kernel
theorem dX4_init_72 : decode cX4_init 72 = .ok (.iconst 0, 1) := by decide +kernel
theorem dX4_init_73 : decode cX4_init 73 = .ok (.putfield 45, 3) := by decide +kernel
theorem dX4_init_76 : decode cX4_init 76 = .ok (.aload_n 0, 1) := by decide +kernel
theorem dX4_init_77 : decode cX4_init 77 = .ok (.iconst 0, 1) := by decide +kernel
theorem dX4_init_78 : decode cX4_init 78 = .ok (.putfield 49, 3) := by decide +kernel
theorem dX4_init_81 : decode cX4_init 81 = .ok (.aload_n 0, 1) := by decide +kernel
theorem dX4_init_82 : decode cX4_init 82 = .ok (.iconst 0, 1) := by decide +kernel
theorem dX4_init_83 : decode cX4_init 83 = .ok (.putfield 52, 3) := by decide +kernel
theorem dX4_init_86 : decode cX4_init 86 = .ok (.aload_n 0, 1) := by decide +kernel
theorem dX4_init_87 : decode cX4_init 87 = .ok (.iconst 0, 1) := by decide +kernel
theorem dX4_init_88 : decode cX4_init 88 = .ok (.putfield 55, 3) := by decide +kernel
theorem dX4_init_91 : decode cX4_init 91 = .ok (.return_, 1) := by decide +kernel
theorem dX4_scene_0 : decode cX4_scene 0 = .ok (.iload_n 1, 1) := by decide +kernel
theorem dX4_scene_1 : decode cX4_scene 1 = .ok (.ifCond .lt 18, 3) := by decide +kernel
theorem dX4_scene_4 : decode cX4_scene 4 = .ok (.iload_n 1, 1) := by decide +kernel
theorem dX4_scene_5 : decode cX4_scene 5 = .ok (.iconst 4, 1) := by decide +kernel
theorem dX4_scene_6 : decode cX4_scene 6 = .ok (.if_icmp .ge 13, 3) := by decide +kernel
theorem dX4_scene_9 : decode cX4_scene 9 = .ok (.iload_n 2, 1) := by decide +kernel
theorem dX4_scene_10 : decode cX4_scene 10 = .ok (.ifCond .lt 9, 3) := by decide +kernel
theorem dX4_scene_13 : decode cX4_scene 13 = .ok (.iload_n 2, 1) := by decide +kernel
theorem dX4_scene_14 : decode cX4_scene 14 = .ok (.bipush 9, 2) := by decide +kernel
theorem dX4_scene_16 : decode cX4_scene 16 = .ok (.if_icmp .le 13, 3) := by decide +kernel
theorem dX4_scene_19 : decode cX4_scene 19 = .ok (.new 58, 3) := by decide +kernel
theorem dX4_scene_22 : decode cX4_scene 22 = .ok (.dup, 1) := by decide +kernel
theorem dX4_scene_23 : decode cX4_scene 23 = .ok (.ldc 60, 2) := by decide +kernel
theorem dX4_scene_25 : decode cX4_scene 25 = .ok (.invokespecial 62, 3) := by decide +kernel
theorem dX4_scene_28 : decode cX4_scene 28 = .ok (.athrow, 1) := by decide +kernel
theorem dX4_scene_29 : decode cX4_scene 29 = .ok (.aload_n 0, 1) := by decide +kernel
theorem dX4_scene_30 : decode cX4_scene 30 = .ok (.invokevirtual 65, 3) := by decide +kernel
theorem dX4_scene_33 : decode cX4_scene 33 = .ok (.istore_n 3, 1) := by decide +kernel
theorem dX4_scene_34 : decode cX4_scene 34 = .ok (.aload_n 0, 1) := by decide +kernel
theorem dX4_scene_35 : decode cX4_scene 35 = .ok (.getfield 45, 3) := by decide +kernel
theorem dX4_scene_38 : decode cX4_scene 38 = .ok (.aload_n 0, 1) := by decide +kernel
theorem dX4_scene_39 : decode cX4_scene 39 = .ok (.getfield 11, 3) := by decide +kernel
theorem dX4_scene_42 : decode cX4_scene 42 = .ok (.arraylength, 1) := by decide +kernel
theorem dX4_scene_43 : decode cX4_scene 43 = .ok (.if_icmp .ge 12, 3) := by decide +kernel
theorem dX4_scene_46 : decode cX4_scene 46 = .ok (.iload_n 3, 1) := by decide +kernel
theorem dX4_scene_47 : decode cX4_scene 47 = .ok (.aload_n 0, 1) := by decide +kernel
theorem dX4_scene_48 : decode cX4_scene 48 = .ok (.getfield 15, 3) := by decide +kernel
theorem dX4_scene_51 : decode cX4_scene 51 = .ok (.arraylength, 1) := by decide +kernel
theorem dX4_scene_52 : decode cX4_scene 52 = .ok (.if_icmp .lt 13, 3) := by decide +kernel
theorem dX4_scene_55 : decode cX4_scene 55 = .ok (.new 69, 3) := by decide +kernel
theorem dX4_scene_58 : decode cX4_scene 58 = .ok (.dup, 1) := by decide +kernel
theorem dX4_scene_59 : decode cX4_scene 59 = .ok (.ldc 71, 2) := by decide +kernel
theorem dX4_scene_61 : decode cX4_scene 61 = .ok (.invokespecial 73, 3) := by decide +kernel
theorem dX4_scene_64 : decode cX4_scene 64 = .ok (.athrow, 1) := by decide +kernel
theorem dX4_scene_65 : decode cX4_scene 65 = .ok (.new 9, 3) := by decide +kernel
theorem dX4_scene_68 : decode cX4_scene 68 = .ok (.dup, 1) := by decide +kernel
theorem dX4_scene_69 : decode cX4_scene 69 = .ok (.aload_n 0, 1) := by decide +kernel
theorem dX4_scene_70 : decode cX4_scene 70 = .ok (.getfield 45, 3) := by decide +kernel
theorem dX4_scene_73 : decode cX4_scene 73 = .ok (.iload_n 1, 1) := by decide +kernel
theorem dX4_scene_74 : decode cX4_scene 74 = .ok (.iload_n 2, 1) := by decide +kernel
theorem dX4_scene_75 : decode cX4_scene 75 = .ok (.invokespecial 74, 3) := by decide +kernel
theorem dX4_scene_78 : decode cX4_scene 78 = .ok (.astore 4, 2) := by decide +kernel
theorem dX4_scene_80 : decode cX4_scene 80 = .ok (.aload_n 0, 1) := by decide +kernel
theorem dX4_scene_81 : decode cX4_scene 81 = .ok (.getfield 11, 3) := by decide +kernel
theorem dX4_scene_84 : decode cX4_scene 84 = .ok (.aload_n 0, 1) := by decide +kernel
theorem dX4_scene_85 : decode cX4_scene 85 = .ok (.getfield 45, 3) := by decide +kernel
theorem dX4_scene_88 : decode cX4_scene 88 = .ok (.aload 4, 2) := by decide +kernel
theorem dX4_scene_90 : decode cX4_scene 90 = .ok (.aastore, 1) := by decide +kernel
theorem dX4_scene_91 : decode cX4_scene 91 = .ok (.aload_n 0, 1) := by decide +kernel
theorem dX4_scene_92 : decode cX4_scene 92 = .ok (.dup, 1) := by decide +kernel
theorem dX4_scene_93 : decode cX4_scene 93 = .ok (.getfield 45, 3) := by decide +kernel
theorem dX4_scene_96 : decode cX4_scene 96 = .ok (.iconst 1, 1) := by decide +kernel
theorem dX4_scene_97 : decode cX4_scene 97 = .ok (.iadd, 1) := by decide +kernel
theorem dX4_scene_98 : decode cX4_scene 98 = .ok (.putfield 45, 3) := by decide +kernel
theorem dX4_scene_101 : decode cX4_scene 101 = .ok (.aload_n 0, 1) := by decide +kernel
theorem dX4_scene_102 : decode cX4_scene 102 = .ok (.getfield 15, 3) := by decide +kernel
theorem dX4_scene_105 : decode cX4_scene 105 = .ok (.iload_n 3, 1) := by decide +kernel
theorem dX4_scene_106 : decode cX4_scene 106 = .ok (.aload 4, 2) := by decide +kernel
theorem dX4_scene_108 : decode cX4_scene 108 = .ok (.aastore, 1) := by decide +kernel
theorem dX4_scene_109 : decode cX4_scene 109 = .ok (.aload 4, 2) := by decide +kernel
theorem dX4_scene_111 : decode cX4_scene 111 = .ok (.getfield 77, 3) := by decide +kernel
theorem dX4_scene_114 : decode cX4_scene 114 = .ok (.ireturn, 1) := by decide +kernel
theorem dX4_plays_0 : decode cX4_plays 0 = .ok (.aload_n 0, 1) := by decide +kernel
theorem dX4_plays_1 : decode cX4_plays 1 = .ok (.iload_n 1, 1) := by decide +kernel
theorem dX4_plays_2 : decode cX4_plays 2 = .ok (.invokevirtual 80, 3) := by decide +kernel
theorem dX4_plays_5 : decode cX4_plays 5 = .ok (.astore 4, 2) := by decide +kernel
theorem dX4_plays_7 : decode cX4_plays 7 = .ok (.iload_n 2, 1) := by decide +kernel
theorem dX4_plays_8 : decode cX4_plays 8 = .ok (.invokestatic 84, 3) := by decide +kernel
theorem dX4_plays_11 : decode cX4_plays 11 = .ok (.iload_n 3, 1) := by decide +kernel
theorem dX4_plays_12 : decode cX4_plays 12 = .ok (.iconst (-1), 1) := by decide +kernel
theorem dX4_plays_13 : decode cX4_plays 13 = .ok (.if_icmp .lt 9, 3) := by decide +kernel
theorem dX4_plays_16 : decode cX4_plays 16 = .ok (.iload_n 3, 1) := by decide +kernel
theorem dX4_plays_17 : decode cX4_plays 17 = .ok (.bipush 20, 2) := by decide +kernel
theorem dX4_plays_19 : decode cX4_plays 19 = .ok (.if_icmp .le 13, 3) := by decide +kernel
theorem dX4_plays_22 : decode cX4_plays 22 = .ok (.new 58, 3) := by decide +kernel
theorem dX4_plays_25 : decode cX4_plays 25 = .ok (.dup, 1) := by decide +kernel
theorem dX4_plays_26 : decode cX4_plays 26 = .ok (.ldc 88, 2) := by decide +kernel
theorem dX4_plays_28 : decode cX4_plays 28 = .ok (.invokespecial 62, 3) := by decide +kernel
theorem dX4_plays_31 : decode cX4_plays 31 = .ok (.athrow, 1) := by decide +kernel
theorem dX4_plays_32 : decode cX4_plays 32 = .ok (.aload 4, 2) := by decide +kernel
theorem dX4_plays_34 : decode cX4_plays 34 = .ok (.invokestatic 90, 3) := by decide +kernel
theorem dX4_plays_37 : decode cX4_plays 37 = .ok (.aload 4, 2) := by decide +kernel
theorem dX4_plays_39 : decode cX4_plays 39 = .ok (.getfield 94, 3) := by decide +kernel
theorem dX4_plays_42 : decode cX4_plays 42 = .ok (.iload_n 2, 1) := by decide +kernel
theorem dX4_plays_43 : decode cX4_plays 43 = .ok (.iload_n 3, 1) := by decide +kernel
theorem dX4_plays_44 : decode cX4_plays 44 = .ok (.iastore, 1) := by decide +kernel
theorem dX4_plays_45 : decode cX4_plays 45 = .ok (.aload 4, 2) := by decide +kernel
theorem dX4_plays_47 : decode cX4_plays 47 = .ok (.invokevirtual 97, 3) := by decide +kernel
theorem dX4_plays_50 : decode cX4_plays 50 = .ok (.ireturn, 1) := by decide +kernel
theorem dX4_uses_0 : decode cX4_uses 0 = .ok (.aload_n 0, 1) := by decide +kernel
theorem dX4_uses_1 : decode cX4_uses 1 = .ok (.iload_n 1, 1) := by decide +kernel
theorem dX4_uses_2 : decode cX4_uses 2 = .ok (.invokevirtual 80, 3) := by decide +kernel
theorem dX4_uses_5 : decode cX4_uses 5 = .ok (.astore 5, 2) := by decide +kernel
theorem dX4_uses_7 : decode cX4_uses 7 = .ok (.iload_n 2, 1) := by decide +kernel
theorem dX4_uses_8 : decode cX4_uses 8 = .ok (.invokestatic 100, 3) := by decide +kernel
theorem dX4_uses_11 : decode cX4_uses 11 = .ok (.iload_n 3, 1) := by decide +kernel
theorem dX4_uses_12 : decode cX4_uses 12 = .ok (.ifCond .lt 20, 3) := by decide +kernel
theorem dX4_uses_15 : decode cX4_uses 15 = .ok (.iload_n 3, 1) := by decide +kernel
theorem dX4_uses_16 : decode cX4_uses 16 = .ok (.iconst 4, 1) := by decide +kernel
theorem dX4_uses_17 : decode cX4_uses 17 = .ok (.if_icmp .ge 15, 3) := by decide +kernel
theorem dX4_uses_20 : decode cX4_uses 20 = .ok (.iload 4, 2) := by decide +kernel
theorem dX4_uses_22 : decode cX4_uses 22 = .ok (.iload_n 3, 1) := by decide +kernel
theorem dX4_uses_23 : decode cX4_uses 23 = .ok (.if_icmp .lt 9, 3) := by decide +kernel
theorem dX4_uses_26 : decode cX4_uses 26 = .ok (.iload 4, 2) := by decide +kernel
theorem dX4_uses_28 : decode cX4_uses 28 = .ok (.iconst 4, 1) := by decide +kernel
theorem dX4_uses_29 : decode cX4_uses 29 = .ok (.if_icmp .lt 13, 3) := by decide +kernel
theorem dX4_uses_32 : decode cX4_uses 32 = .ok (.new 58, 3) := by decide +kernel
theorem dX4_uses_35 : decode cX4_uses 35 = .ok (.dup, 1) := by decide +kernel
theorem dX4_uses_36 : decode cX4_uses 36 = .ok (.ldc 103, 2) := by decide +kernel
theorem dX4_uses_38 : decode cX4_uses 38 = .ok (.invokespecial 62, 3) := by decide +kernel
theorem dX4_uses_41 : decode cX4_uses 41 = .ok (.athrow, 1) := by decide +kernel
theorem dX4_uses_42 : decode cX4_uses 42 = .ok (.aload 5, 2) := by decide +kernel
theorem dX4_uses_44 : decode cX4_uses 44 = .ok (.invokestatic 90, 3) := by decide +kernel
theorem dX4_uses_47 : decode cX4_uses 47 = .ok (.aload_n 0, 1) := by decide +kernel
theorem dX4_uses_48 : decode cX4_uses 48 = .ok (.iload_n 1, 1) := by decide +kernel
theorem dX4_uses_49 : decode cX4_uses 49 = .ok (.iload_n 2, 1) := by decide +kernel
theorem dX4_uses_50 : decode cX4_uses 50 = .ok (.iload_n 3, 1) := by decide +kernel
theorem dX4_uses_51 : decode cX4_uses 51 = .ok (.iload 4, 2) := by decide +kernel
theorem dX4_uses_53 : decode cX4_uses 53 = .ok (.invokevirtual 105, 3) := by decide +kernel
theorem dX4_uses_56 : decode cX4_uses 56 = .ok (.ifCond .ne 13, 3) := by decide +kernel
theorem dX4_uses_59 : decode cX4_uses 59 = .ok (.new 69, 3) := by decide +kernel
theorem dX4_uses_62 : decode cX4_uses 62 = .ok (.dup, 1) := by decide +kernel
theorem dX4_uses_63 : decode cX4_uses 63 = .ok (.ldc 109, 2) := by decide +kernel
theorem dX4_uses_65 : decode cX4_uses 65 = .ok (.invokespecial 73, 3) := by decide +kernel
theorem dX4_uses_68 : decode cX4_uses 68 = .ok (.athrow, 1) := by decide +kernel
theorem dX4_uses_69 : decode cX4_uses 69 = .ok (.aload 5, 2) := by decide +kernel
theorem dX4_uses_71 : decode cX4_uses 71 = .ok (.getfield 111, 3) := by decide +kernel
theorem dX4_uses_74 : decode cX4_uses 74 = .ok (.iload_n 2, 1) := by decide +kernel
theorem dX4_uses_75 : decode cX4_uses 75 = .ok (.iload_n 3, 1) := by decide +kernel
theorem dX4_uses_76 : decode cX4_uses 76 = .ok (.iastore, 1) := by decide +kernel
theorem dX4_uses_77 : decode cX4_uses 77 = .ok (.aload 5, 2) := by decide +kernel
theorem dX4_uses_79 : decode cX4_uses 79 = .ok (.getfield 114, 3) := by decide +kernel
theorem dX4_uses_82 : decode cX4_uses 82 = .ok (.iload_n 2, 1) := by decide +kernel
theorem dX4_uses_83 : decode cX4_uses 83 = .ok (.iload 4, 2) := by decide +kernel
theorem dX4_uses_85 : decode cX4_uses 85 = .ok (.iastore, 1) := by decide +kernel
theorem dX4_uses_86 : decode cX4_uses 86 = .ok (.aload 5, 2) := by decide +kernel
theorem dX4_uses_88 : decode cX4_uses 88 = .ok (.invokevirtual 117, 3) := by decide +kernel
theorem dX4_uses_91 : decode cX4_uses 91 = .ok (.ireturn, 1) := by decide +kernel
theorem dX4_cut_0 : decode cX4_cut 0 = .ok (.aload_n 0, 1) := by decide +kernel
theorem dX4_cut_1 : decode cX4_cut 1 = .ok (.iload_n 1, 1) := by decide +kernel
theorem dX4_cut_2 : decode cX4_cut 2 = .ok (.invokevirtual 80, 3) := by decide +kernel
theorem dX4_cut_5 : decode cX4_cut 5 = .ok (.astore_n 2, 1) := by decide +kernel
theorem dX4_cut_6 : decode cX4_cut 6 = .ok (.aload_n 2, 1) := by decide +kernel
theorem dX4_cut_7 : decode cX4_cut 7 = .ok (.invokestatic 90, 3) := by decide +kernel
theorem dX4_cut_10 : decode cX4_cut 10 = .ok (.aload_n 0, 1) := by decide +kernel
theorem dX4_cut_11 : decode cX4_cut 11 = .ok (.aload_n 2, 1) := by decide +kernel
theorem dX4_cut_12 : decode cX4_cut 12 = .ok (.invokevirtual 120, 3) := by decide +kernel
theorem dX4_cut_15 : decode cX4_cut 15 = .ok (.istore_n 3, 1) := by decide +kernel
theorem dX4_cut_16 : decode cX4_cut 16 = .ok (.aload_n 0, 1) := by decide +kernel
theorem dX4_cut_17 : decode cX4_cut 17 = .ok (.getfield 15, 3) := by decide +kernel
theorem dX4_cut_20 : decode cX4_cut 20 = .ok (.iload_n 3, 1) := by decide +kernel
theorem dX4_cut_21 : decode cX4_cut 21 = .ok (.aconst_null, 1) := by decide +kernel
theorem dX4_cut_22 : decode cX4_cut 22 = .ok (.invokestatic 124, 3) := by decide +kernel
theorem dX4_cut_25 : decode cX4_cut 25 = .ok (.aload_n 2, 1) := by decide +kernel
theorem dX4_cut_26 : decode cX4_cut 26 = .ok (.iconst 2, 1) := by decide +kernel
theorem dX4_cut_27 : decode cX4_cut 27 = .ok (.putfield 128, 3) := by decide +kernel
theorem dX4_cut_30 : decode cX4_cut 30 = .ok (.iload_n 3, 1) := by decide +kernel
theorem dX4_cut_31 : decode cX4_cut 31 = .ok (.ireturn, 1) := by decide +kernel
theorem dX4_swap_0 : decode cX4_swap 0 = .ok (.iload_n 1, 1) := by decide +kernel
theorem dX4_swap_1 : decode cX4_swap 1 = .ok (.aload_n 0, 1) := by decide +kernel
theorem dX4_swap_2 : decode cX4_swap 2 = .ok (.getfield 52, 3) := by decide +kernel
theorem dX4_swap_5 : decode cX4_swap 5 = .ok (.if_icmp .lt 23, 3) := by decide +kernel
theorem dX4_swap_8 : decode cX4_swap 8 = .ok (.iload_n 1, 1) := by decide +kernel
theorem dX4_swap_9 : decode cX4_swap 9 = .ok (.bipush 30, 2) := by decide +kernel
theorem dX4_swap_11 : decode cX4_swap 11 = .ok (.if_icmp .ge 17, 3) := by decide +kernel
theorem dX4_swap_14 : decode cX4_swap 14 = .ok (.iload_n 2, 1) := by decide +kernel
theorem dX4_swap_15 : decode cX4_swap 15 = .ok (.aload_n 0, 1) := by decide +kernel
theorem dX4_swap_16 : decode cX4_swap 16 = .ok (.getfield 52, 3) := by decide +kernel
theorem dX4_swap_19 : decode cX4_swap 19 = .ok (.if_icmp .lt 9, 3) := by decide +kernel
theorem dX4_swap_22 : decode cX4_swap 22 = .ok (.iload_n 2, 1) := by decide +kernel
theorem dX4_swap_23 : decode cX4_swap 23 = .ok (.bipush 30, 2) := by decide +kernel
theorem dX4_swap_25 : decode cX4_swap 25 = .ok (.if_icmp .lt 13, 3) := by decide +kernel
theorem dX4_swap_28 : decode cX4_swap 28 = .ok (.new 58, 3) := by decide +kernel
theorem dX4_swap_31 : decode cX4_swap 31 = .ok (.dup, 1) := by decide +kernel
theorem dX4_swap_32 : decode cX4_swap 32 = .ok (.ldc 131, 2) := by decide +kernel
theorem dX4_swap_34 : decode cX4_swap 34 = .ok (.invokespecial 62, 3) := by decide +kernel
theorem dX4_swap_37 : decode cX4_swap 37 = .ok (.athrow, 1) := by decide +kernel
theorem dX4_swap_38 : decode cX4_swap 38 = .ok (.aload_n 0, 1) := by decide +kernel
theorem dX4_swap_39 : decode cX4_swap 39 = .ok (.iload_n 1, 1) := by decide +kernel
theorem dX4_swap_40 : decode cX4_swap 40 = .ok (.iload_n 2, 1) := by decide +kernel
theorem dX4_swap_41 : decode cX4_swap 41 = .ok (.invokevirtual 133, 3) := by decide +kernel
theorem dX4_swap_44 : decode cX4_swap 44 = .ok (.aload_n 0, 1) := by decide +kernel
theorem dX4_swap_45 : decode cX4_swap 45 = .ok (.invokevirtual 137, 3) := by decide +kernel
theorem dX4_swap_48 : decode cX4_swap 48 = .ok (.ireturn, 1) := by decide +kernel
theorem dX4_permit_0 : decode cX4_permit 0 = .ok (.iload_n 1, 1) := by decide +kernel
theorem dX4_permit_1 : decode cX4_permit 1 = .ok (.ifCond .lt 21, 3) := by decide +kernel
theorem dX4_permit_4 : decode cX4_permit 4 = .ok (.iload_n 1, 1) := by decide +kernel
theorem dX4_permit_5 : decode cX4_permit 5 = .ok (.iconst 4, 1) := by decide +kernel
theorem dX4_permit_6 : decode cX4_permit 6 = .ok (.if_icmp .ge 16, 3) := by decide +kernel
theorem dX4_permit_9 : decode cX4_permit 9 = .ok (.iload 4, 2) := by decide +kernel
theorem dX4_permit_11 : decode cX4_permit 11 = .ok (.iconst 1, 1) := by decide +kernel
theorem dX4_permit_12 : decode cX4_permit 12 = .ok (.if_icmp .lt 10, 3) := by decide +kernel
theorem dX4_permit_15 : decode cX4_permit 15 = .ok (.iload 4, 2) := by decide +kernel
theorem dX4_permit_17 : decode cX4_permit 17 = .ok (.bipush 9, 2) := by decide +kernel
theorem dX4_permit_19 : decode cX4_permit 19 = .ok (.if_icmp .le 13, 3) := by decide +kernel
theorem dX4_permit_22 : decode cX4_permit 22 = .ok (.new 58, 3) := by decide +kernel
theorem dX4_permit_25 : decode cX4_permit 25 = .ok (.dup, 1) := by decide +kernel
theorem dX4_permit_26 : decode cX4_permit 26 = .ok (.ldc 60, 2) := by decide +kernel
theorem dX4_permit_28 : decode cX4_permit 28 = .ok (.invokespecial 62, 3) := by decide +kernel
theorem dX4_permit_31 : decode cX4_permit 31 = .ok (.athrow, 1) := by decide +kernel
theorem dX4_permit_32 : decode cX4_permit 32 = .ok (.iload_n 2, 1) := by decide +kernel
theorem dX4_permit_33 : decode cX4_permit 33 = .ok (.ifCond .lt 20, 3) := by decide +kernel
theorem dX4_permit_36 : decode cX4_permit 36 = .ok (.iload_n 2, 1) := by decide +kernel
theorem dX4_permit_37 : decode cX4_permit 37 = .ok (.bipush 30, 2) := by decide +kernel
theorem dX4_permit_39 : decode cX4_permit 39 = .ok (.if_icmp .ge 14, 3) := by decide +kernel
theorem dX4_permit_42 : decode cX4_permit 42 = .ok (.iload_n 3, 1) := by decide +kernel
theorem dX4_permit_43 : decode cX4_permit 43 = .ok (.iload_n 2, 1) := by decide +kernel
theorem dX4_permit_44 : decode cX4_permit 44 = .ok (.if_icmp .lt 9, 3) := by decide +kernel
theorem dX4_permit_47 : decode cX4_permit 47 = .ok (.iload_n 3, 1) := by decide +kernel
theorem dX4_permit_48 : decode cX4_permit 48 = .ok (.bipush 30, 2) := by decide +kernel
theorem dX4_permit_50 : decode cX4_permit 50 = .ok (.if_icmp .lt 13, 3) := by decide +kernel
theorem dX4_permit_53 : decode cX4_permit 53 = .ok (.new 58, 3) := by decide +kernel
theorem dX4_permit_56 : decode cX4_permit 56 = .ok (.dup, 1) := by decide +kernel
theorem dX4_permit_57 : decode cX4_permit 57 = .ok (.ldc 140, 2) := by decide +kernel
theorem dX4_permit_59 : decode cX4_permit 59 = .ok (.invokespecial 62, 3) := by decide +kernel
theorem dX4_permit_62 : decode cX4_permit 62 = .ok (.athrow, 1) := by decide +kernel
theorem dX4_permit_63 : decode cX4_permit 63 = .ok (.aload_n 0, 1) := by decide +kernel
theorem dX4_permit_64 : decode cX4_permit 64 = .ok (.getfield 49, 3) := by decide +kernel
theorem dX4_permit_67 : decode cX4_permit 67 = .ok (.aload_n 0, 1) := by decide +kernel
theorem dX4_permit_68 : decode cX4_permit 68 = .ok (.getfield 20, 3) := by decide +kernel
theorem dX4_permit_71 : decode cX4_permit 71 = .ok (.arraylength, 1) := by decide +kernel
theorem dX4_permit_72 : decode cX4_permit 72 = .ok (.if_icmp .lt 13, 3) := by decide +kernel
theorem dX4_permit_75 : decode cX4_permit 75 = .ok (.new 69, 3) := by decide +kernel
theorem dX4_permit_78 : decode cX4_permit 78 = .ok (.dup, 1) := by decide +kernel
theorem dX4_permit_79 : decode cX4_permit 79 = .ok (.ldc 142, 2) := by decide +kernel
theorem dX4_permit_81 : decode cX4_permit 81 = .ok (.invokespecial 73, 3) := by decide +kernel
theorem dX4_permit_84 : decode cX4_permit 84 = .ok (.athrow, 1) := by decide +kernel
theorem dX4_permit_85 : decode cX4_permit 85 = .ok (.aload_n 0, 1) := by decide +kernel
theorem dX4_permit_86 : decode cX4_permit 86 = .ok (.getfield 49, 3) := by decide +kernel
theorem dX4_permit_89 : decode cX4_permit 89 = .ok (.istore 5, 2) := by decide +kernel
theorem dX4_permit_91 : decode cX4_permit 91 = .ok (.aload_n 0, 1) := by decide +kernel
theorem dX4_permit_92 : decode cX4_permit 92 = .ok (.getfield 20, 3) := by decide +kernel
theorem dX4_permit_95 : decode cX4_permit 95 = .ok (.iload 5, 2) := by decide +kernel
theorem dX4_permit_97 : decode cX4_permit 97 = .ok (.new 18, 3) := by decide +kernel
theorem dX4_permit_100 : decode cX4_permit 100 = .ok (.dup, 1) := by decide +kernel
theorem dX4_permit_101 : decode cX4_permit 101 = .ok (.iload_n 1, 1) := by decide +kernel
theorem dX4_permit_102 : decode cX4_permit 102 = .ok (.iload_n 2, 1) := by decide +kernel
theorem dX4_permit_103 : decode cX4_permit 103 = .ok (.iload_n 3, 1) := by decide +kernel
theorem dX4_permit_104 : decode cX4_permit 104 = .ok (.iload 4, 2) := by decide +kernel
theorem dX4_permit_106 : decode cX4_permit 106 = .ok (.invokespecial 144, 3) := by decide +kernel
theorem dX4_permit_109 : decode cX4_permit 109 = .ok (.aastore, 1) := by decide +kernel
theorem dX4_permit_110 : decode cX4_permit 110 = .ok (.aload_n 0, 1) := by decide +kernel
theorem dX4_permit_111 : decode cX4_permit 111 = .ok (.dup, 1) := by decide +kernel
theorem dX4_permit_112 : decode cX4_permit 112 = .ok (.getfield 49, 3) := by decide +kernel
theorem dX4_permit_115 : decode cX4_permit 115 = .ok (.iconst 1, 1) := by decide +kernel
theorem dX4_permit_116 : decode cX4_permit 116 = .ok (.iadd, 1) := by decide +kernel
theorem dX4_permit_117 : decode cX4_permit 117 = .ok (.putfield 49, 3) := by decide +kernel
theorem dX4_permit_120 : decode cX4_permit 120 = .ok (.iload 5, 2) := by decide +kernel
theorem dX4_permit_122 : decode cX4_permit 122 = .ok (.ireturn, 1) := by decide +kernel
theorem dX4_revoke_0 : decode cX4_revoke 0 = .ok (.aload_n 0, 1) := by decide +kernel
theorem dX4_revoke_1 : decode cX4_revoke 1 = .ok (.iload_n 1, 1) := by decide +kernel
theorem dX4_revoke_2 : decode cX4_revoke 2 = .ok (.invokevirtual 147, 3) := by decide +kernel
theorem dX4_revoke_5 : decode cX4_revoke 5 = .ok (.astore_n 2, 1) := by decide +kernel
theorem dX4_revoke_6 : decode cX4_revoke 6 = .ok (.aload_n 2, 1) := by decide +kernel
theorem dX4_revoke_7 : decode cX4_revoke 7 = .ok (.getfield 151, 3) := by decide +kernel
theorem dX4_revoke_10 : decode cX4_revoke 10 = .ok (.ifCond .eq 13, 3) := by decide +kernel
theorem dX4_revoke_13 : decode cX4_revoke 13 = .ok (.new 69, 3) := by decide +kernel
theorem dX4_revoke_16 : decode cX4_revoke 16 = .ok (.dup, 1) := by decide +kernel
theorem dX4_revoke_17 : decode cX4_revoke 17 = .ok (.ldc 155, 2) := by decide +kernel
theorem dX4_revoke_19 : decode cX4_revoke 19 = .ok (.invokespecial 73, 3) := by decide +kernel
theorem dX4_revoke_22 : decode cX4_revoke 22 = .ok (.athrow, 1) := by decide +kernel
theorem dX4_revoke_23 : decode cX4_revoke 23 = .ok (.aload_n 0, 1) := by decide +kernel
theorem dX4_revoke_24 : decode cX4_revoke 24 = .ok (.invokevirtual 157, 3) := by decide +kernel
theorem dX4_revoke_27 : decode cX4_revoke 27 = .ok (.istore_n 3, 1) := by decide +kernel
theorem dX4_revoke_28 : decode cX4_revoke 28 = .ok (.aload_n 2, 1) := by decide +kernel
theorem dX4_revoke_29 : decode cX4_revoke 29 = .ok (.iconst 1, 1) := by decide +kernel
theorem dX4_revoke_30 : decode cX4_revoke 30 = .ok (.putfield 151, 3) := by decide +kernel
theorem dX4_revoke_33 : decode cX4_revoke 33 = .ok (.aload_n 0, 1) := by decide +kernel
theorem dX4_revoke_34 : decode cX4_revoke 34 = .ok (.invokevirtual 157, 3) := by decide +kernel
theorem dX4_revoke_37 : decode cX4_revoke 37 = .ok (.iload_n 3, 1) := by decide +kernel
theorem dX4_revoke_38 : decode cX4_revoke 38 = .ok (.isub, 1) := by decide +kernel
theorem dX4_revoke_39 : decode cX4_revoke 39 = .ok (.ireturn, 1) := by decide +kernel
theorem dX4_away_0 : decode cX4_away 0 = .ok (.iload_n 1, 1) := by decide +kernel
theorem dX4_away_1 : decode cX4_away 1 = .ok (.invokestatic 84, 3) := by decide +kernel
theorem dX4_away_4 : decode cX4_away 4 = .ok (.iload_n 2, 1) := by decide +kernel
theorem dX4_away_5 : decode cX4_away 5 = .ok (.invokestatic 160, 3) := by decide +kernel
theorem dX4_away_8 : decode cX4_away 8 = .ok (.aload_n 0, 1) := by decide +kernel
theorem dX4_away_9 : decode cX4_away 9 = .ok (.iload_n 1, 1) := by decide +kernel
theorem dX4_away_10 : decode cX4_away 10 = .ok (.iload_n 2, 1) := by decide +kernel
theorem dX4_away_11 : decode cX4_away 11 = .ok (.invokevirtual 163, 3) := by decide +kernel
theorem dX4_away_14 : decode cX4_away 14 = .ok (.istore 4, 2) := by decide +kernel
theorem dX4_away_16 : decode cX4_away 16 = .ok (.iload 4, 2) := by decide +kernel
theorem dX4_away_18 : decode cX4_away 18 = .ok (.iload_n 3, 1) := by decide +kernel
theorem dX4_away_19 : decode cX4_away 19 = .ok (.if_icmp .eq 15, 3) := by decide +kernel
theorem dX4_away_22 : decode cX4_away 22 = .ok (.aload_n 0, 1) := by decide +kernel
theorem dX4_away_23 : decode cX4_away 23 = .ok (.getfield 24, 3) := by decide +kernel
theorem dX4_away_26 : decode cX4_away 26 = .ok (.iload_n 1, 1) := by decide +kernel
theorem dX4_away_27 : decode cX4_away 27 = .ok (.dup2, 1) := by decide +kernel
theorem dX4_away_28 : decode cX4_away 28 = .ok (.iaload, 1) := by decide +kernel
theorem dX4_away_29 : decode cX4_away 29 = .ok (.iconst 1, 1) := by decide +kernel
theorem dX4_away_30 : decode cX4_away 30 = .ok (.iload_n 2, 1) := by decide +kernel
theorem dX4_away_31 : decode cX4_away 31 = .ok (.ishl, 1) := by decide +kernel
theorem dX4_away_32 : decode cX4_away 32 = .ok (.ixor, 1) := by decide +kernel
theorem dX4_away_33 : decode cX4_away 33 = .ok (.iastore, 1) := by decide +kernel
theorem dX4_away_34 : decode cX4_away 34 = .ok (.iload 4, 2) := by decide +kernel
theorem dX4_away_36 : decode cX4_away 36 = .ok (.ireturn, 1) := by decide +kernel
theorem dX4_buy_0 : decode cX4_buy 0 = .ok (.iload_n 1, 1) := by decide +kernel
theorem dX4_buy_1 : decode cX4_buy 1 = .ok (.invokestatic 100, 3) := by decide +kernel
theorem dX4_buy_4 : decode cX4_buy 4 = .ok (.aload_n 0, 1) := by decide +kernel
theorem dX4_buy_5 : decode cX4_buy 5 = .ok (.getfield 31, 3) := by decide +kernel
theorem dX4_buy_8 : decode cX4_buy 8 = .ok (.iload_n 1, 1) := by decide +kernel
theorem dX4_buy_9 : decode cX4_buy 9 = .ok (.invokevirtual 167, 3) := by decide +kernel
theorem dX4_buy_12 : decode cX4_buy 12 = .ok (.istore_n 2, 1) := by decide +kernel
theorem dX4_buy_13 : decode cX4_buy 13 = .ok (.iload_n 2, 1) := by decide +kernel
theorem dX4_buy_14 : decode cX4_buy 14 = .ok (.bipush 20, 2) := by decide +kernel
theorem dX4_buy_16 : decode cX4_buy 16 = .ok (.if_icmp .lt 13, 3) := by decide +kernel
theorem dX4_buy_19 : decode cX4_buy 19 = .ok (.new 69, 3) := by decide +kernel
theorem dX4_buy_22 : decode cX4_buy 22 = .ok (.dup, 1) := by decide +kernel
theorem dX4_buy_23 : decode cX4_buy 23 = .ok (.ldc 171, 2) := by decide +kernel
theorem dX4_buy_25 : decode cX4_buy 25 = .ok (.invokespecial 73, 3) := by decide +kernel
theorem dX4_buy_28 : decode cX4_buy 28 = .ok (.athrow, 1) := by decide +kernel
theorem dX4_buy_29 : decode cX4_buy 29 = .ok (.aload_n 0, 1) := by decide +kernel
theorem dX4_buy_30 : decode cX4_buy 30 = .ok (.getfield 31, 3) := by decide +kernel
theorem dX4_buy_33 : decode cX4_buy 33 = .ok (.getfield 173, 3) := by decide +kernel
theorem dX4_buy_36 : decode cX4_buy 36 = .ok (.iload_n 1, 1) := by decide +kernel
theorem dX4_buy_37 : decode cX4_buy 37 = .ok (.aaload, 1) := by decide +kernel
theorem dX4_buy_38 : decode cX4_buy 38 = .ok (.iconst 0, 1) := by decide +kernel
theorem dX4_buy_39 : decode cX4_buy 39 = .ok (.dup2, 1) := by decide +kernel
theorem dX4_buy_40 : decode cX4_buy 40 = .ok (.iaload, 1) := by decide +kernel
theorem dX4_buy_41 : decode cX4_buy 41 = .ok (.iconst 1, 1) := by decide +kernel
theorem dX4_buy_42 : decode cX4_buy 42 = .ok (.iadd, 1) := by decide +kernel
theorem dX4_buy_43 : decode cX4_buy 43 = .ok (.iastore, 1) := by decide +kernel
theorem dX4_buy_44 : decode cX4_buy 44 = .ok (.aload_n 0, 1) := by decide +kernel
theorem dX4_buy_45 : decode cX4_buy 45 = .ok (.dup, 1) := by decide +kernel
theorem dX4_buy_46 : decode cX4_buy 46 = .ok (.getfield 55, 3) := by decide +kernel
theorem dX4_buy_49 : decode cX4_buy 49 = .ok (.iconst 5, 1) := by decide +kernel
theorem dX4_buy_50 : decode cX4_buy 50 = .ok (.iadd, 1) := by decide +kernel
theorem dX4_buy_51 : decode cX4_buy 51 = .ok (.putfield 55, 3) := by decide +kernel
theorem dX4_buy_54 : decode cX4_buy 54 = .ok (.iload_n 2, 1) := by decide +kernel
theorem dX4_buy_55 : decode cX4_buy 55 = .ok (.iconst 1, 1) := by decide +kernel
theorem dX4_buy_56 : decode cX4_buy 56 = .ok (.iadd, 1) := by decide +kernel
theorem dX4_buy_57 : decode cX4_buy 57 = .ok (.ireturn, 1) := by decide +kernel
theorem dX4_clear_0 : decode cX4_clear 0 = .ok (.iconst 0, 1) := by decide +kernel
theorem dX4_clear_1 : decode cX4_clear 1 = .ok (.istore_n 1, 1) := by decide +kernel
theorem dX4_clear_2 : decode cX4_clear 2 = .ok (.iconst 0, 1) := by decide +kernel
theorem dX4_clear_3 : decode cX4_clear 3 = .ok (.istore_n 2, 1) := by decide +kernel
theorem dX4_clear_4 : decode cX4_clear 4 = .ok (.iload_n 2, 1) := by decide +kernel
theorem dX4_clear_5 : decode cX4_clear 5 = .ok (.iconst 5, 1) := by decide +kernel
theorem dX4_clear_6 : decode cX4_clear 6 = .ok (.if_icmp .ge 35, 3) := by decide +kernel
theorem dX4_clear_9 : decode cX4_clear 9 = .ok (.iload_n 1, 1) := by decide +kernel
theorem dX4_clear_10 : decode cX4_clear 10 = .ok (.aload_n 0, 1) := by decide +kernel
theorem dX4_clear_11 : decode cX4_clear 11 = .ok (.getfield 31, 3) := by decide +kernel
theorem dX4_clear_14 : decode cX4_clear 14 = .ok (.getfield 173, 3) := by decide +kernel
theorem dX4_clear_17 : decode cX4_clear 17 = .ok (.iload_n 2, 1) := by decide +kernel
theorem dX4_clear_18 : decode cX4_clear 18 = .ok (.aaload, 1) := by decide +kernel
theorem dX4_clear_19 : decode cX4_clear 19 = .ok (.iconst 3, 1) := by decide +kernel
theorem dX4_clear_20 : decode cX4_clear 20 = .ok (.iaload, 1) := by decide +kernel
theorem dX4_clear_21 : decode cX4_clear 21 = .ok (.iadd, 1) := by decide +kernel
theorem dX4_clear_22 : decode cX4_clear 22 = .ok (.istore_n 1, 1) := by decide +kernel
theorem dX4_clear_23 : decode cX4_clear 23 = .ok (.aload_n 0, 1) := by decide +kernel
theorem dX4_clear_24 : decode cX4_clear 24 = .ok (.getfield 31, 3) := by decide +kernel
theorem dX4_clear_27 : decode cX4_clear 27 = .ok (.getfield 173, 3) := by decide +kernel
theorem dX4_clear_30 : decode cX4_clear 30 = .ok (.iload_n 2, 1) := by decide +kernel
theorem dX4_clear_31 : decode cX4_clear 31 = .ok (.aaload, 1) := by decide +kernel
theorem dX4_clear_32 : decode cX4_clear 32 = .ok (.iconst 3, 1) := by decide +kernel
theorem dX4_clear_33 : decode cX4_clear 33 = .ok (.iconst 0, 1) := by decide +kernel
theorem dX4_clear_34 : decode cX4_clear 34 = .ok (.iastore, 1) := by decide +kernel
theorem dX4_clear_35 : decode cX4_clear 35 = .ok (.iinc 2 1, 3) := by decide +kernel
theorem dX4_clear_38 : decode cX4_clear 38 = .ok (.goto (-34), 3) := by decide +kernel
theorem dX4_clear_41 : decode cX4_clear 41 = .ok (.iload_n 1, 1) := by decide +kernel
theorem dX4_clear_42 : decode cX4_clear 42 = .ok (.ireturn, 1) := by decide +kernel
theorem dX4_mishap_0 : decode cX4_mishap 0 = .ok (.iload_n 1, 1) := by decide +kernel
theorem dX4_mishap_1 : decode cX4_mishap 1 = .ok (.invokestatic 100, 3) := by decide +kernel
theorem dX4_mishap_4 : decode cX4_mishap 4 = .ok (.iload_n 2, 1) := by decide +kernel
theorem dX4_mishap_5 : decode cX4_mishap 5 = .ok (.ifCond .lt 8, 3) := by decide +kernel
theorem dX4_mishap_8 : decode cX4_mishap 8 = .ok (.iload_n 2, 1) := by decide +kernel
theorem dX4_mishap_9 : decode cX4_mishap 9 = .ok (.iconst 3, 1) := by decide +kernel
theorem dX4_mishap_10 : decode cX4_mishap 10 = .ok (.if_icmp .lt 13, 3) := by decide +kernel
theorem dX4_mishap_13 : decode cX4_mishap 13 = .ok (.new 58, 3) := by decide +kernel
theorem dX4_mishap_16 : decode cX4_mishap 16 = .ok (.dup, 1) := by decide +kernel
theorem dX4_mishap_17 : decode cX4_mishap 17 = .ok (.ldc 177, 2) := by decide +kernel
theorem dX4_mishap_19 : decode cX4_mishap 19 = .ok (.invokespecial 62, 3) := by decide +kernel
theorem dX4_mishap_22 : decode cX4_mishap 22 = .ok (.athrow, 1) := by decide +kernel
theorem dX4_mishap_23 : decode cX4_mishap 23 = .ok (.aload_n 0, 1) := by decide +kernel
theorem dX4_mishap_24 : decode cX4_mishap 24 = .ok (.getfield 31, 3) := by decide +kernel
theorem dX4_mishap_27 : decode cX4_mishap 27 = .ok (.getfield 173, 3) := by decide +kernel
theorem dX4_mishap_30 : decode cX4_mishap 30 = .ok (.iload_n 1, 1) := by decide +kernel
theorem dX4_mishap_31 : decode cX4_mishap 31 = .ok (.aaload, 1) := by decide +kernel
theorem dX4_mishap_32 : decode cX4_mishap 32 = .ok (.astore_n 3, 1) := by decide +kernel
theorem dX4_mishap_33 : decode cX4_mishap 33 = .ok (.aload_n 3, 1) := by decide +kernel
theorem dX4_mishap_34 : decode cX4_mishap 34 = .ok (.iload_n 2, 1) := by decide +kernel
theorem dX4_mishap_35 : decode cX4_mishap 35 = .ok (.iaload, 1) := by decide +kernel
theorem dX4_mishap_36 : decode cX4_mishap 36 = .ok (.ifCond .gt 13, 3) := by decide +kernel
theorem dX4_mishap_39 : decode cX4_mishap 39 = .ok (.new 69, 3) := by decide +kernel
theorem dX4_mishap_42 : decode cX4_mishap 42 = .ok (.dup, 1) := by decide +kernel
theorem dX4_mishap_43 : decode cX4_mishap 43 = .ok (.ldc 179, 2) := by decide +kernel
theorem dX4_mishap_45 : decode cX4_mishap 45 = .ok (.invokespecial 73, 3) := by decide +kernel
theorem dX4_mishap_48 : decode cX4_mishap 48 = .ok (.athrow, 1) := by decide +kernel
theorem dX4_mishap_49 : decode cX4_mishap 49 = .ok (.aload_n 3, 1) := by decide +kernel
theorem dX4_mishap_50 : decode cX4_mishap 50 = .ok (.iload_n 2, 1) := by decide +kernel
theorem dX4_mishap_51 : decode cX4_mishap 51 = .ok (.dup2, 1) := by decide +kernel
theorem dX4_mishap_52 : decode cX4_mishap 52 = .ok (.iaload, 1) := by decide +kernel
theorem dX4_mishap_53 : decode cX4_mishap 53 = .ok (.iconst 1, 1) := by decide +kernel
theorem dX4_mishap_54 : decode cX4_mishap 54 = .ok (.isub, 1) := by decide +kernel
theorem dX4_mishap_55 : decode cX4_mishap 55 = .ok (.iastore, 1) := by decide +kernel
theorem dX4_mishap_56 : decode cX4_mishap 56 = .ok (.aload_n 3, 1) := by decide +kernel
theorem dX4_mishap_57 : decode cX4_mishap 57 = .ok (.iconst 3, 1) := by decide +kernel
theorem dX4_mishap_58 : decode cX4_mishap 58 = .ok (.dup2, 1) := by decide +kernel
theorem dX4_mishap_59 : decode cX4_mishap 59 = .ok (.iaload, 1) := by decide +kernel
theorem dX4_mishap_60 : decode cX4_mishap 60 = .ok (.iconst 1, 1) := by decide +kernel
theorem dX4_mishap_61 : decode cX4_mishap 61 = .ok (.iadd, 1) := by decide +kernel
theorem dX4_mishap_62 : decode cX4_mishap 62 = .ok (.iastore, 1) := by decide +kernel
theorem dX4_mishap_63 : decode cX4_mishap 63 = .ok (.aload_n 3, 1) := by decide +kernel
theorem dX4_mishap_64 : decode cX4_mishap 64 = .ok (.iconst 3, 1) := by decide +kernel
theorem dX4_mishap_65 : decode cX4_mishap 65 = .ok (.iaload, 1) := by decide +kernel
theorem dX4_mishap_66 : decode cX4_mishap 66 = .ok (.ireturn, 1) := by decide +kernel
theorem dX4_shoot_0 : decode cX4_shoot 0 = .ok (.aload_n 0, 1) := by decide +kernel
theorem dX4_shoot_1 : decode cX4_shoot 1 = .ok (.getfield 52, 3) := by decide +kernel
theorem dX4_shoot_4 : decode cX4_shoot 4 = .ok (.bipush 30, 2) := by decide +kernel
theorem dX4_shoot_6 : decode cX4_shoot 6 = .ok (.if_icmp .lt 13, 3) := by decide +kernel
theorem dX4_shoot_9 : decode cX4_shoot 9 = .ok (.new 69, 3) := by decide +kernel
theorem dX4_shoot_12 : decode cX4_shoot 12 = .ok (.dup, 1) := by decide +kernel
theorem dX4_shoot_13 : decode cX4_shoot 13 = .ok (.ldc 181, 2) := by decide +kernel
theorem dX4_shoot_15 : decode cX4_shoot 15 = .ok (.invokespecial 73, 3) := by decide +kernel
theorem dX4_shoot_18 : decode cX4_shoot 18 = .ok (.athrow, 1) := by decide +kernel
theorem dX4_shoot_19 : decode cX4_shoot 19 = .ok (.aload_n 0, 1) := by decide +kernel
theorem dX4_shoot_20 : decode cX4_shoot 20 = .ok (.getfield 15, 3) := by decide +kernel
theorem dX4_shoot_23 : decode cX4_shoot 23 = .ok (.aload_n 0, 1) := by decide +kernel
theorem dX4_shoot_24 : decode cX4_shoot 24 = .ok (.getfield 52, 3) := by decide +kernel
theorem dX4_shoot_27 : decode cX4_shoot 27 = .ok (.aaload, 1) := by decide +kernel
theorem dX4_shoot_28 : decode cX4_shoot 28 = .ok (.astore_n 1, 1) := by decide +kernel
theorem dX4_shoot_29 : decode cX4_shoot 29 = .ok (.aload_n 0, 1) := by decide +kernel
theorem dX4_shoot_30 : decode cX4_shoot 30 = .ok (.getfield 15, 3) := by decide +kernel
theorem dX4_shoot_33 : decode cX4_shoot 33 = .ok (.aload_n 0, 1) := by decide +kernel
theorem dX4_shoot_34 : decode cX4_shoot 34 = .ok (.getfield 52, 3) := by decide +kernel
theorem dX4_shoot_37 : decode cX4_shoot 37 = .ok (.aconst_null, 1) := by decide +kernel
theorem dX4_shoot_38 : decode cX4_shoot 38 = .ok (.aastore, 1) := by decide +kernel
theorem dX4_shoot_39 : decode cX4_shoot 39 = .ok (.iconst (-1), 1) := by decide +kernel
theorem dX4_shoot_40 : decode cX4_shoot 40 = .ok (.istore_n 2, 1) := by decide +kernel
theorem dX4_shoot_41 : decode cX4_shoot 41 = .ok (.aload_n 1, 1) := by decide +kernel
theorem dX4_shoot_42 : decode cX4_shoot 42 = .ok (.ifnull 53, 3) := by decide +kernel
theorem dX4_shoot_45 : decode cX4_shoot 45 = .ok (.aload_n 0, 1) := by decide +kernel
theorem dX4_shoot_46 : decode cX4_shoot 46 = .ok (.aload_n 1, 1) := by decide +kernel
theorem dX4_shoot_47 : decode cX4_shoot 47 = .ok (.aload_n 0, 1) := by decide +kernel
theorem dX4_shoot_48 : decode cX4_shoot 48 = .ok (.getfield 52, 3) := by decide +kernel
theorem dX4_shoot_51 : decode cX4_shoot 51 = .ok (.invokevirtual 183, 3) := by decide +kernel
theorem dX4_shoot_54 : decode cX4_shoot 54 = .ok (.ifCond .eq 41, 3) := by decide +kernel
theorem dX4_shoot_57 : decode cX4_shoot 57 = .ok (.aload_n 0, 1) := by decide +kernel
theorem dX4_shoot_58 : decode cX4_shoot 58 = .ok (.dup, 1) := by decide +kernel
theorem dX4_shoot_59 : decode cX4_shoot 59 = .ok (.getfield 55, 3) := by decide +kernel
theorem dX4_shoot_62 : decode cX4_shoot 62 = .ok (.aload_n 0, 1) := by decide +kernel
theorem dX4_shoot_63 : decode cX4_shoot 63 = .ok (.getfield 31, 3) := by decide +kernel
theorem dX4_shoot_66 : decode cX4_shoot 66 = .ok (.aload_n 1, 1) := by decide +kernel
theorem dX4_shoot_67 : decode cX4_shoot 67 = .ok (.invokevirtual 187, 3) := by decide +kernel
theorem dX4_shoot_70 : decode cX4_shoot 70 = .ok (.iadd, 1) := by decide +kernel
theorem dX4_shoot_71 : decode cX4_shoot 71 = .ok (.putfield 55, 3) := by decide +kernel
theorem dX4_shoot_74 : decode cX4_shoot 74 = .ok (.aload_n 1, 1) := by decide +kernel
theorem dX4_shoot_75 : decode cX4_shoot 75 = .ok (.iconst 1, 1) := by decide +kernel
theorem dX4_shoot_76 : decode cX4_shoot 76 = .ok (.putfield 128, 3) := by decide +kernel
theorem dX4_shoot_79 : decode cX4_shoot 79 = .ok (.aload_n 1, 1) := by decide +kernel
theorem dX4_shoot_80 : decode cX4_shoot 80 = .ok (.aload_n 0, 1) := by decide +kernel
theorem dX4_shoot_81 : decode cX4_shoot 81 = .ok (.getfield 52, 3) := by decide +kernel
theorem dX4_shoot_84 : decode cX4_shoot 84 = .ok (.putfield 190, 3) := by decide +kernel
theorem dX4_shoot_87 : decode cX4_shoot 87 = .ok (.aload_n 1, 1) := by decide +kernel
theorem dX4_shoot_88 : decode cX4_shoot 88 = .ok (.getfield 77, 3) := by decide +kernel
theorem dX4_shoot_91 : decode cX4_shoot 91 = .ok (.istore_n 2, 1) := by decide +kernel
theorem dX4_shoot_92 : decode cX4_shoot 92 = .ok (.goto 12, 3) := by decide +kernel
theorem dX4_shoot_95 : decode cX4_shoot 95 = .ok (.aload_n 1, 1) := by decide +kernel
theorem dX4_shoot_96 : decode cX4_shoot 96 = .ok (.ifnull 8, 3) := by decide +kernel
theorem dX4_shoot_99 : decode cX4_shoot 99 = .ok (.aload_n 0, 1) := by decide +kernel
theorem dX4_shoot_100 : decode cX4_shoot 100 = .ok (.aload_n 1, 1) := by decide +kernel
theorem dX4_shoot_101 : decode cX4_shoot 101 = .ok (.invokevirtual 193, 3) := by decide +kernel
theorem dX4_shoot_104 : decode cX4_shoot 104 = .ok (.aload_n 0, 1) := by decide +kernel
theorem dX4_shoot_105 : decode cX4_shoot 105 = .ok (.getfield 31, 3) := by decide +kernel
theorem dX4_shoot_108 : decode cX4_shoot 108 = .ok (.iconst 1, 1) := by decide +kernel
theorem dX4_shoot_109 : decode cX4_shoot 109 = .ok (.invokevirtual 196, 3) := by decide +kernel
theorem dX4_shoot_112 : decode cX4_shoot 112 = .ok (.aload_n 0, 1) := by decide +kernel
theorem dX4_shoot_113 : decode cX4_shoot 113 = .ok (.dup, 1) := by decide +kernel
theorem dX4_shoot_114 : decode cX4_shoot 114 = .ok (.getfield 52, 3) := by decide +kernel
theorem dX4_shoot_117 : decode cX4_shoot 117 = .ok (.iconst 1, 1) := by decide +kernel
theorem dX4_shoot_118 : decode cX4_shoot 118 = .ok (.iadd, 1) := by decide +kernel
theorem dX4_shoot_119 : decode cX4_shoot 119 = .ok (.putfield 52, 3) := by decide +kernel
theorem dX4_shoot_122 : decode cX4_shoot 122 = .ok (.iload_n 2, 1) := by decide +kernel
theorem dX4_shoot_123 : decode cX4_shoot 123 = .ok (.ireturn, 1) := by decide +kernel
theorem dX4_mend_0 : decode cX4_mend 0 = .ok (.iconst 0, 1) := by decide +kernel
theorem dX4_mend_1 : decode cX4_mend 1 = .ok (.istore_n 1, 1) := by decide +kernel
theorem dX4_mend_2 : decode cX4_mend 2 = .ok (.aload_n 0, 1) := by decide +kernel
theorem dX4_mend_3 : decode cX4_mend 3 = .ok (.getfield 52, 3) := by decide +kernel
theorem dX4_mend_6 : decode cX4_mend 6 = .ok (.istore_n 2, 1) := by decide +kernel
theorem dX4_mend_7 : decode cX4_mend 7 = .ok (.iload_n 2, 1) := by decide +kernel
theorem dX4_mend_8 : decode cX4_mend 8 = .ok (.bipush 30, 2) := by decide +kernel
theorem dX4_mend_10 : decode cX4_mend 10 = .ok (.if_icmp .ge 41, 3) := by decide +kernel
theorem dX4_mend_13 : decode cX4_mend 13 = .ok (.aload_n 0, 1) := by decide +kernel
theorem dX4_mend_14 : decode cX4_mend 14 = .ok (.iload_n 2, 1) := by decide +kernel
theorem dX4_mend_15 : decode cX4_mend 15 = .ok (.invokevirtual 199, 3) := by decide +kernel
theorem dX4_mend_18 : decode cX4_mend 18 = .ok (.ifCond .eq 11, 3) := by decide +kernel
theorem dX4_mend_21 : decode cX4_mend 21 = .ok (.aload_n 0, 1) := by decide +kernel
theorem dX4_mend_22 : decode cX4_mend 22 = .ok (.iload_n 2, 1) := by decide +kernel
theorem dX4_mend_23 : decode cX4_mend 23 = .ok (.invokevirtual 203, 3) := by decide +kernel
theorem dX4_mend_26 : decode cX4_mend 26 = .ok (.goto 4, 3) := by decide +kernel
theorem dX4_mend_29 : decode cX4_mend 29 = .ok (.iconst (-1), 1) := by decide +kernel
theorem dX4_mend_30 : decode cX4_mend 30 = .ok (.istore_n 3, 1) := by decide +kernel
theorem dX4_mend_31 : decode cX4_mend 31 = .ok (.iload_n 3, 1) := by decide +kernel
theorem dX4_mend_32 : decode cX4_mend 32 = .ok (.iconst (-1), 1) := by decide +kernel
theorem dX4_mend_33 : decode cX4_mend 33 = .ok (.if_icmp .eq 12, 3) := by decide +kernel
theorem dX4_mend_36 : decode cX4_mend 36 = .ok (.aload_n 0, 1) := by decide +kernel
theorem dX4_mend_37 : decode cX4_mend 37 = .ok (.iload_n 2, 1) := by decide +kernel
theorem dX4_mend_38 : decode cX4_mend 38 = .ok (.iload_n 3, 1) := by decide +kernel
theorem dX4_mend_39 : decode cX4_mend 39 = .ok (.invokevirtual 133, 3) := by decide +kernel
theorem dX4_mend_42 : decode cX4_mend 42 = .ok (.iinc 1 1, 3) := by decide +kernel
theorem dX4_mend_45 : decode cX4_mend 45 = .ok (.iinc 2 1, 3) := by decide +kernel
theorem dX4_mend_48 : decode cX4_mend 48 = .ok (.goto (-41), 3) := by decide +kernel
theorem dX4_mend_51 : decode cX4_mend 51 = .ok (.iload_n 1, 1) := by decide +kernel
theorem dX4_mend_52 : decode cX4_mend 52 = .ok (.ireturn, 1) := by decide +kernel
theorem dX4_better_0 : decode cX4_better 0 = .ok (.iconst 0, 1) := by decide +kernel
theorem dX4_better_1 : decode cX4_better 1 = .ok (.istore_n 1, 1) := by decide +kernel
theorem dX4_better_2 : decode cX4_better 2 = .ok (.iload_n 1, 1) := by decide +kernel
theorem dX4_better_3 : decode cX4_better 3 = .ok (.ldc 206, 2) := by decide +kernel
theorem dX4_better_5 : decode cX4_better 5 = .ok (.if_icmp .ge 16, 3) := by decide +kernel
theorem dX4_better_8 : decode cX4_better 8 = .ok (.aload_n 0, 1) := by decide +kernel
theorem dX4_better_9 : decode cX4_better 9 = .ok (.invokevirtual 207, 3) := by decide +kernel
theorem dX4_better_12 : decode cX4_better 12 = .ok (.ifCond .eq 9, 3) := by decide +kernel
theorem dX4_better_15 : decode cX4_better 15 = .ok (.iinc 1 1, 3) := by decide +kernel
theorem dX4_better_18 : decode cX4_better 18 = .ok (.goto (-16), 3) := by decide +kernel
theorem dX4_better_21 : decode cX4_better 21 = .ok (.iload_n 1, 1) := by decide +kernel
theorem dX4_better_22 : decode cX4_better 22 = .ok (.ireturn, 1) := by decide +kernel
theorem dX4_least_0 : decode cX4_least 0 = .ok (.aload_n 0, 1) := by decide +kernel
theorem dX4_least_1 : decode cX4_least 1 = .ok (.getfield 41, 3) := by decide +kernel
theorem dX4_least_4 : decode cX4_least 4 = .ok (.aload_n 0, 1) := by decide +kernel
theorem dX4_least_5 : decode cX4_least 5 = .ok (.getfield 15, 3) := by decide +kernel
theorem dX4_least_8 : decode cX4_least 8 = .ok (.invokevirtual 211, 3) := by decide +kernel
theorem dX4_least_11 : decode cX4_least 11 = .ok (.aload_n 0, 1) := by decide +kernel
theorem dX4_least_12 : decode cX4_least 12 = .ok (.getfield 41, 3) := by decide +kernel
theorem dX4_least_15 : decode cX4_least 15 = .ok (.getfield 215, 3) := by decide +kernel
theorem dX4_least_18 : decode cX4_least 18 = .ok (.iconst 5, 1) := by decide +kernel
theorem dX4_least_19 : decode cX4_least 19 = .ok (.if_icmp .le 13, 3) := by decide +kernel
theorem dX4_least_22 : decode cX4_least 22 = .ok (.new 69, 3) := by decide +kernel
theorem dX4_least_25 : decode cX4_least 25 = .ok (.dup, 1) := by decide +kernel
theorem dX4_least_26 : decode cX4_least 26 = .ok (.ldc 218, 2) := by decide +kernel
theorem dX4_least_28 : decode cX4_least 28 = .ok (.invokespecial 73, 3) := by decide +kernel
theorem dX4_least_31 : decode cX4_least 31 = .ok (.athrow, 1) := by decide +kernel
theorem dX4_least_32 : decode cX4_least 32 = .ok (.aload_n 0, 1) := by decide +kernel
theorem dX4_least_33 : decode cX4_least 33 = .ok (.invokevirtual 137, 3) := by decide +kernel
theorem dX4_least_36 : decode cX4_least 36 = .ok (.istore_n 1, 1) := by decide +kernel
theorem dX4_least_37 : decode cX4_least 37 = .ok (.aload_n 0, 1) := by decide +kernel
theorem dX4_least_38 : decode cX4_least 38 = .ok (.getfield 41, 3) := by decide +kernel
theorem dX4_least_41 : decode cX4_least 41 = .ok (.invokevirtual 220, 3) := by decide +kernel
theorem dX4_least_44 : decode cX4_least 44 = .ok (.istore_n 2, 1) := by decide +kernel
theorem dX4_least_45 : decode cX4_least 45 = .ok (.iconst 0, 1) := by decide +kernel
theorem dX4_least_46 : decode cX4_least 46 = .ok (.istore_n 3, 1) := by decide +kernel
theorem dX4_least_47 : decode cX4_least 47 = .ok (.iload_n 3, 1) := by decide +kernel
theorem dX4_least_48 : decode cX4_least 48 = .ok (.iload_n 2, 1) := by decide +kernel
theorem dX4_least_49 : decode cX4_least 49 = .ok (.if_icmp .ge 30, 3) := by decide +kernel
theorem dX4_least_52 : decode cX4_least 52 = .ok (.aload_n 0, 1) := by decide +kernel
theorem dX4_least_53 : decode cX4_least 53 = .ok (.getfield 41, 3) := by decide +kernel
theorem dX4_least_56 : decode cX4_least 56 = .ok (.aload_n 0, 1) := by decide +kernel
theorem dX4_least_57 : decode cX4_least 57 = .ok (.getfield 15, 3) := by decide +kernel
theorem dX4_least_60 : decode cX4_least 60 = .ok (.iload_n 3, 1) := by decide +kernel
theorem dX4_least_61 : decode cX4_least 61 = .ok (.invokevirtual 223, 3) := by decide +kernel
theorem dX4_least_64 : decode cX4_least 64 = .ok (.iload_n 1, 1) := by decide +kernel
theorem dX4_least_65 : decode cX4_least 65 = .ok (.aload_n 0, 1) := by decide +kernel
theorem dX4_least_66 : decode cX4_least 66 = .ok (.invokevirtual 137, 3) := by decide +kernel
theorem dX4_least_69 : decode cX4_least 69 = .ok (.invokestatic 227, 3) := by decide +kernel
theorem dX4_least_72 : decode cX4_least 72 = .ok (.istore_n 1, 1) := by decide +kernel
theorem dX4_least_73 : decode cX4_least 73 = .ok (.iinc 3 1, 3) := by decide +kernel
theorem dX4_least_76 : decode cX4_least 76 = .ok (.goto (-29), 3) := by decide +kernel
theorem dX4_least_79 : decode cX4_least 79 = .ok (.aload_n 0, 1) := by decide +kernel
theorem dX4_least_80 : decode cX4_least 80 = .ok (.getfield 41, 3) := by decide +kernel
theorem dX4_least_83 : decode cX4_least 83 = .ok (.aload_n 0, 1) := by decide +kernel
theorem dX4_least_84 : decode cX4_least 84 = .ok (.getfield 15, 3) := by decide +kernel
theorem dX4_least_87 : decode cX4_least 87 = .ok (.invokevirtual 233, 3) := by decide +kernel
theorem dX4_least_90 : decode cX4_least 90 = .ok (.iload_n 1, 1) := by decide +kernel
theorem dX4_least_91 : decode cX4_least 91 = .ok (.ireturn, 1) := by decide +kernel
theorem dX4_today_0 : decode cX4_today 0 = .ok (.aload_n 0, 1) := by decide +kernel
theorem dX4_today_1 : decode cX4_today 1 = .ok (.getfield 52, 3) := by decide +kernel
theorem dX4_today_4 : decode cX4_today 4 = .ok (.ireturn, 1) := by decide +kernel
theorem dX4_spent_0 : decode cX4_spent 0 = .ok (.aload_n 0, 1) := by decide +kernel
theorem dX4_spent_1 : decode cX4_spent 1 = .ok (.getfield 55, 3) := by decide +kernel
theorem dX4_spent_4 : decode cX4_spent 4 = .ok (.ireturn, 1) := by decide +kernel
theorem dX4_cost_0 : decode cX4_cost 0 = .ok (.aload_n 0, 1) := by decide +kernel
theorem dX4_cost_1 : decode cX4_cost 1 = .ok (.invokevirtual 137, 3) := by decide +kernel
theorem dX4_cost_4 : decode cX4_cost 4 = .ok (.ireturn, 1) := by decide +kernel
theorem dX4_scenes_0 : decode cX4_scenes 0 = .ok (.aload_n 0, 1) := by decide +kernel
theorem dX4_scenes_1 : decode cX4_scenes 1 = .ok (.getfield 45, 3) := by decide +kernel
theorem dX4_scenes_4 : decode cX4_scenes 4 = .ok (.ireturn, 1) := by decide +kernel
theorem dX4_stateOf_0 : decode cX4_stateOf 0 = .ok (.aload_n 0, 1) := by decide +kernel
theorem dX4_stateOf_1 : decode cX4_stateOf 1 = .ok (.iload_n 1, 1) := by decide +kernel
theorem dX4_stateOf_2 : decode cX4_stateOf 2 = .ok (.invokevirtual 80, 3) := by decide +kernel
theorem dX4_stateOf_5 : decode cX4_stateOf 5 = .ok (.getfield 128, 3) := by decide +kernel
theorem dX4_stateOf_8 : decode cX4_stateOf 8 = .ok (.ireturn, 1) := by decide +kernel
theorem dX4_dayOf_0 : decode cX4_dayOf 0 = .ok (.aload_n 0, 1) := by decide +kernel
theorem dX4_dayOf_1 : decode cX4_dayOf 1 = .ok (.iload_n 1, 1) := by decide +kernel
theorem dX4_dayOf_2 : decode cX4_dayOf 2 = .ok (.invokevirtual 80, 3) := by decide +kernel
theorem dX4_dayOf_5 : decode cX4_dayOf 5 = .ok (.astore_n 2, 1) := by decide +kernel
theorem dX4_dayOf_6 : decode cX4_dayOf 6 = .ok (.aload_n 2, 1) := by decide +kernel
theorem dX4_dayOf_7 : decode cX4_dayOf 7 = .ok (.getfield 128, 3) := by decide +kernel
theorem dX4_dayOf_10 : decode cX4_dayOf 10 = .ok (.iconst 1, 1) := by decide +kernel
theorem dX4_dayOf_11 : decode cX4_dayOf 11 = .ok (.if_icmp .ne 10, 3) := by decide +kernel
theorem dX4_dayOf_14 : decode cX4_dayOf 14 = .ok (.aload_n 2, 1) := by decide +kernel
theorem dX4_dayOf_15 : decode cX4_dayOf 15 = .ok (.getfield 190, 3) := by decide +kernel
theorem dX4_dayOf_18 : decode cX4_dayOf 18 = .ok (.goto 8, 3) := by decide +kernel
theorem dX4_dayOf_21 : decode cX4_dayOf 21 = .ok (.aload_n 0, 1) := by decide +kernel
theorem dX4_dayOf_22 : decode cX4_dayOf 22 = .ok (.aload_n 2, 1) := by decide +kernel
theorem dX4_dayOf_23 : decode cX4_dayOf 23 = .ok (.invokevirtual 120, 3) := by decide +kernel
theorem dX4_dayOf_26 : decode cX4_dayOf 26 = .ok (.ireturn, 1) := by decide +kernel
theorem dX4_sceneOn_0 : decode cX4_sceneOn 0 = .ok (.iload_n 1, 1) := by decide +kernel
theorem dX4_sceneOn_1 : decode cX4_sceneOn 1 = .ok (.invokestatic 160, 3) := by decide +kernel
theorem dX4_sceneOn_4 : decode cX4_sceneOn 4 = .ok (.aload_n 0, 1) := by decide +kernel
theorem dX4_sceneOn_5 : decode cX4_sceneOn 5 = .ok (.getfield 15, 3) := by decide +kernel
theorem dX4_sceneOn_8 : decode cX4_sceneOn 8 = .ok (.iload_n 1, 1) := by decide +kernel
theorem dX4_sceneOn_9 : decode cX4_sceneOn 9 = .ok (.aaload, 1) := by decide +kernel
theorem dX4_sceneOn_10 : decode cX4_sceneOn 10 = .ok (.astore_n 2, 1) := by decide +kernel
theorem dX4_sceneOn_11 : decode cX4_sceneOn 11 = .ok (.aload_n 2, 1) := by decide +kernel
theorem dX4_sceneOn_12 : decode cX4_sceneOn 12 = .ok (.ifnonnull 7, 3) := by decide +kernel
theorem dX4_sceneOn_15 : decode cX4_sceneOn 15 = .ok (.iconst (-1), 1) := by decide +kernel
theorem dX4_sceneOn_16 : decode cX4_sceneOn 16 = .ok (.goto 7, 3) := by decide +kernel
theorem dX4_sceneOn_19 : decode cX4_sceneOn 19 = .ok (.aload_n 2, 1) := by decide +kernel
theorem dX4_sceneOn_20 : decode cX4_sceneOn 20 = .ok (.getfield 77, 3) := by decide +kernel
theorem dX4_sceneOn_23 : decode cX4_sceneOn 23 = .ok (.ireturn, 1) := by decide +kernel
theorem dX4_refused_0 : decode cX4_refused 0 = .ok (.aload_n 0, 1) := by decide +kernel
theorem dX4_refused_1 : decode cX4_refused 1 = .ok (.invokevirtual 157, 3) := by decide +kernel
theorem dX4_refused_4 : decode cX4_refused 4 = .ok (.ireturn, 1) := by decide +kernel
theorem dX4_isAllowed_0 : decode cX4_isAllowed 0 = .ok (.aload_n 0, 1) := by decide +kernel
theorem dX4_isAllowed_1 : decode cX4_isAllowed 1 = .ok (.iload_n 1, 1) := by decide +kernel
theorem dX4_isAllowed_2 : decode cX4_isAllowed 2 = .ok (.invokevirtual 80, 3) := by decide +kernel
theorem dX4_isAllowed_5 : decode cX4_isAllowed 5 = .ok (.astore_n 3, 1) := by decide +kernel
theorem dX4_isAllowed_6 : decode cX4_isAllowed 6 = .ok (.iload_n 2, 1) := by decide +kernel
theorem dX4_isAllowed_7 : decode cX4_isAllowed 7 = .ok (.invokestatic 160, 3) := by decide +kernel
theorem dX4_isAllowed_10 : decode cX4_isAllowed 10 = .ok (.aload_n 0, 1) := by decide +kernel
theorem dX4_isAllowed_11 : decode cX4_isAllowed 11 = .ok (.aload_n 3, 1) := by decide +kernel
theorem dX4_isAllowed_12 : decode cX4_isAllowed 12 = .ok (.iload_n 2, 1) := by decide +kernel
theorem dX4_isAllowed_13 : decode cX4_isAllowed 13 = .ok (.invokevirtual 183, 3) := by decide +kernel
theorem dX4_isAllowed_16 : decode cX4_isAllowed 16 = .ok (.ireturn, 1) := by decide +kernel
theorem dX4_ahead_0 : decode cX4_ahead 0 = .ok (.aload_n 0, 1) := by decide +kernel
theorem dX4_ahead_1 : decode cX4_ahead 1 = .ok (.iload_n 1, 1) := by decide +kernel
theorem dX4_ahead_2 : decode cX4_ahead 2 = .ok (.invokevirtual 80, 3) := by decide +kernel
theorem dX4_ahead_5 : decode cX4_ahead 5 = .ok (.pop, 1) := by decide +kernel
theorem dX4_ahead_6 : decode cX4_ahead 6 = .ok (.iload_n 2, 1) := by decide +kernel
theorem dX4_ahead_7 : decode cX4_ahead 7 = .ok (.invokestatic 100, 3) := by decide +kernel
theorem dX4_ahead_10 : decode cX4_ahead 10 = .ok (.iconst 0, 1) := by decide +kernel
theorem dX4_ahead_11 : decode cX4_ahead 11 = .ok (.istore_n 3, 1) := by decide +kernel
theorem dX4_ahead_12 : decode cX4_ahead 12 = .ok (.aload_n 0, 1) := by decide +kernel
theorem dX4_ahead_13 : decode cX4_ahead 13 = .ok (.getfield 11, 3) := by decide +kernel
theorem dX4_ahead_16 : decode cX4_ahead 16 = .ok (.astore 4, 2) := by decide +kernel
theorem dX4_ahead_18 : decode cX4_ahead 18 = .ok (.aload 4, 2) := by decide +kernel
theorem dX4_ahead_20 : decode cX4_ahead 20 = .ok (.arraylength, 1) := by decide +kernel
theorem dX4_ahead_21 : decode cX4_ahead 21 = .ok (.istore 5, 2) := by decide +kernel
theorem dX4_ahead_23 : decode cX4_ahead 23 = .ok (.iconst 0, 1) := by decide +kernel
theorem dX4_ahead_24 : decode cX4_ahead 24 = .ok (.istore 6, 2) := by decide +kernel
theorem dX4_ahead_26 : decode cX4_ahead 26 = .ok (.iload 6, 2) := by decide +kernel
theorem dX4_ahead_28 : decode cX4_ahead 28 = .ok (.iload 5, 2) := by decide +kernel
theorem dX4_ahead_30 : decode cX4_ahead 30 = .ok (.if_icmp .ge 47, 3) := by decide +kernel
theorem dX4_ahead_33 : decode cX4_ahead 33 = .ok (.aload 4, 2) := by decide +kernel
theorem dX4_ahead_35 : decode cX4_ahead 35 = .ok (.iload 6, 2) := by decide +kernel
theorem dX4_ahead_37 : decode cX4_ahead 37 = .ok (.aaload, 1) := by decide +kernel
theorem dX4_ahead_38 : decode cX4_ahead 38 = .ok (.astore 7, 2) := by decide +kernel
theorem dX4_ahead_40 : decode cX4_ahead 40 = .ok (.aload 7, 2) := by decide +kernel
theorem dX4_ahead_42 : decode cX4_ahead 42 = .ok (.ifnull 29, 3) := by decide +kernel
theorem dX4_ahead_45 : decode cX4_ahead 45 = .ok (.aload 7, 2) := by decide +kernel
theorem dX4_ahead_47 : decode cX4_ahead 47 = .ok (.getfield 77, 3) := by decide +kernel
theorem dX4_ahead_50 : decode cX4_ahead 50 = .ok (.iload_n 1, 1) := by decide +kernel
theorem dX4_ahead_51 : decode cX4_ahead 51 = .ok (.if_icmp .ge 20, 3) := by decide +kernel
theorem dX4_ahead_54 : decode cX4_ahead 54 = .ok (.aload 7, 2) := by decide +kernel
theorem dX4_ahead_56 : decode cX4_ahead 56 = .ok (.iload_n 2, 1) := by decide +kernel
theorem dX4_ahead_57 : decode cX4_ahead 57 = .ok (.invokevirtual 236, 3) := by decide +kernel
theorem dX4_ahead_60 : decode cX4_ahead 60 = .ok (.ifCond .eq 11, 3) := by decide +kernel
theorem dX4_ahead_63 : decode cX4_ahead 63 = .ok (.aload 7, 2) := by decide +kernel
theorem dX4_ahead_65 : decode cX4_ahead 65 = .ok (.getfield 114, 3) := by decide +kernel
theorem dX4_ahead_68 : decode cX4_ahead 68 = .ok (.iload_n 2, 1) := by decide +kernel
theorem dX4_ahead_69 : decode cX4_ahead 69 = .ok (.iaload, 1) := by decide +kernel
theorem dX4_ahead_70 : decode cX4_ahead 70 = .ok (.istore_n 3, 1) := by decide +kernel
theorem dX4_ahead_71 : decode cX4_ahead 71 = .ok (.iinc 6 1, 3) := by decide +kernel
theorem dX4_ahead_74 : decode cX4_ahead 74 = .ok (.goto (-48), 3) := by decide +kernel
theorem dX4_ahead_77 : decode cX4_ahead 77 = .ok (.iload_n 3, 1) := by decide +kernel
theorem dX4_ahead_78 : decode cX4_ahead 78 = .ok (.ireturn, 1) := by decide +kernel
theorem dX4_copies_0 : decode cX4_copies 0 = .ok (.iload_n 1, 1) := by decide +kernel
theorem dX4_copies_1 : decode cX4_copies 1 = .ok (.invokestatic 100, 3) := by decide +kernel
theorem dX4_copies_4 : decode cX4_copies 4 = .ok (.iload_n 2, 1) := by decide +kernel
theorem dX4_copies_5 : decode cX4_copies 5 = .ok (.ifCond .lt 8, 3) := by decide +kernel
theorem dX4_copies_8 : decode cX4_copies 8 = .ok (.iload_n 2, 1) := by decide +kernel
theorem dX4_copies_9 : decode cX4_copies 9 = .ok (.iconst 4, 1) := by decide +kernel
theorem dX4_copies_10 : decode cX4_copies 10 = .ok (.if_icmp .lt 13, 3) := by decide +kernel
theorem dX4_copies_13 : decode cX4_copies 13 = .ok (.new 58, 3) := by decide +kernel
theorem dX4_copies_16 : decode cX4_copies 16 = .ok (.dup, 1) := by decide +kernel
theorem dX4_copies_17 : decode cX4_copies 17 = .ok (.ldc 239, 2) := by decide +kernel
theorem dX4_copies_19 : decode cX4_copies 19 = .ok (.invokespecial 62, 3) := by decide +kernel
theorem dX4_copies_22 : decode cX4_copies 22 = .ok (.athrow, 1) := by decide +kernel
theorem dX4_copies_23 : decode cX4_copies 23 = .ok (.aload_n 0, 1) := by decide +kernel
theorem dX4_copies_24 : decode cX4_copies 24 = .ok (.getfield 31, 3) := by decide +kernel
theorem dX4_copies_27 : decode cX4_copies 27 = .ok (.getfield 173, 3) := by decide +kernel
theorem dX4_copies_30 : decode cX4_copies 30 = .ok (.iload_n 1, 1) := by decide +kernel
theorem dX4_copies_31 : decode cX4_copies 31 = .ok (.aaload, 1) := by decide +kernel
theorem dX4_copies_32 : decode cX4_copies 32 = .ok (.iload_n 2, 1) := by decide +kernel
theorem dX4_copies_33 : decode cX4_copies 33 = .ok (.iaload, 1) := by decide +kernel
theorem dX4_copies_34 : decode cX4_copies 34 = .ok (.ireturn, 1) := by decide +kernel
theorem dX4_growth_0 : decode cX4_growth 0 = .ok (.iload_n 1, 1) := by decide +kernel
theorem dX4_growth_1 : decode cX4_growth 1 = .ok (.invokestatic 84, 3) := by decide +kernel
theorem dX4_growth_4 : decode cX4_growth 4 = .ok (.aload_n 0, 1) := by decide +kernel
theorem dX4_growth_5 : decode cX4_growth 5 = .ok (.getfield 31, 3) := by decide +kernel
theorem dX4_growth_8 : decode cX4_growth 8 = .ok (.getfield 241, 3) := by decide +kernel
theorem dX4_growth_11 : decode cX4_growth 11 = .ok (.iload_n 1, 1) := by decide +kernel
theorem dX4_growth_12 : decode cX4_growth 12 = .ok (.iaload, 1) := by decide +kernel
theorem dX4_growth_13 : decode cX4_growth 13 = .ok (.ireturn, 1) := by decide +kernel
theorem dX4_sceneNumbered_0 : decode cX4_sceneNumbered 0 = .ok (.iload_n 1, 1) := by decide +kernel
theorem dX4_sceneNumbered_1 : decode cX4_sceneNumbered 1 = .ok (.ifCond .lt 21, 3) := by decide +kernel
theorem dX4_sceneNumbered_4 : decode cX4_sceneNumbered 4 = .ok (.iload_n 1, 1) := by decide +kernel
end
section
theorem dX4_sceneNumbered_5 : decode cX4_sceneNumbered 5 = .ok (.aload_n 0, 1) := by decide +kernel
theorem dX4_sceneNumbered_6 : decode cX4_sceneNumbered 6 = .ok (.getfield 11, 3) := by decide +kernel
theorem dX4_sceneNumbered_9 : decode cX4_sceneNumbered 9 = .ok (.arraylength, 1) := by decide +kernel
theorem dX4_sceneNumbered_10 : decode cX4_sceneNumbered 10 = .ok (.if_icmp .ge 12, 3) := by decide +kernel
theorem dX4_sceneNumbered_13 : decode cX4_sceneNumbered 13 = .ok (.aload_n 0, 1) := by decide +kernel
theorem dX4_sceneNumbered_14 : decode cX4_sceneNumbered 14 = .ok (.getfield 11, 3) := by decide +kernel
theorem dX4_sceneNumbered_17 : decode cX4_sceneNumbered 17 = .ok (.iload_n 1, 1) := by decide +kernel
theorem dX4_sceneNumbered_18 : decode cX4_sceneNumbered 18 = .ok (.aaload, 1) := by decide +kernel
theorem dX4_sceneNumbered_19 : decode cX4_sceneNumbered 19 = .ok (.ifnonnull 13, 3) := by decide +kernel
theorem dX4_sceneNumbered_22 : decode cX4_sceneNumbered 22 = .ok (.new 242, 3) := by decide +kernel
theorem dX4_sceneNumbered_25 : decode cX4_sceneNumbered 25 = .ok (.dup, 1) := by decide +kernel
theorem dX4_sceneNumbered_26 : decode cX4_sceneNumbered 26 = .ok (.ldc 244, 2) := by decide +kernel
theorem dX4_sceneNumbered_28 : decode cX4_sceneNumbered 28 = .ok (.invokespecial 246, 3) := by decide +kernel
theorem dX4_sceneNumbered_31 : decode cX4_sceneNumbered 31 = .ok (.athrow, 1) := by decide +kernel
theorem dX4_sceneNumbered_32 : decode cX4_sceneNumbered 32 = .ok (.aload_n 0, 1) := by decide +kernel
theorem dX4_sceneNumbered_33 : decode cX4_sceneNumbered 33 = .ok (.getfield 11, 3) := by decide +kernel
theorem dX4_sceneNumbered_36 : decode cX4_sceneNumbered 36 = .ok (.iload_n 1, 1) := by decide +kernel
theorem dX4_sceneNumbered_37 : decode cX4_sceneNumbered 37 = .ok (.aaload, 1) := by decide +kernel
theorem dX4_sceneNumbered_38 : decode cX4_sceneNumbered 38 = .ok (.areturn, 1) := by decide +kernel
theorem dX4_permitNumbered_0 : decode cX4_permitNumbered 0 = .ok (.iload_n 1, 1) := by decide +kernel
theorem dX4_permitNumbered_1 : decode cX4_permitNumbered 1 = .ok (.ifCond .lt 21, 3) := by decide +kernel
theorem dX4_permitNumbered_4 : decode cX4_permitNumbered 4 = .ok (.iload_n 1, 1) := by decide +kernel
theorem dX4_permitNumbered_5 : decode cX4_permitNumbered 5 = .ok (.aload_n 0, 1) := by decide +kernel
theorem dX4_permitNumbered_6 : decode cX4_permitNumbered 6 = .ok (.getfield 20, 3) := by decide +kernel
theorem dX4_permitNumbered_9 : decode cX4_permitNumbered 9 = .ok (.arraylength, 1) := by decide +kernel
theorem dX4_permitNumbered_10 : decode cX4_permitNumbered 10 = .ok (.if_icmp .ge 12, 3) := by decide +kernel
theorem dX4_permitNumbered_13 : decode cX4_permitNumbered 13 = .ok (.aload_n 0, 1) := by decide +kernel
theorem dX4_permitNumbered_14 : decode cX4_permitNumbered 14 = .ok (.getfield 20, 3) := by decide +kernel
theorem dX4_permitNumbered_17 : decode cX4_permitNumbered 17 = .ok (.iload_n 1, 1) := by decide +kernel
theorem dX4_permitNumbered_18 : decode cX4_permitNumbered 18 = .ok (.aaload, 1) := by decide +kernel
theorem dX4_permitNumbered_19 : decode cX4_permitNumbered 19 = .ok (.ifnonnull 13, 3) := by decide +kernel
theorem dX4_permitNumbered_22 : decode cX4_permitNumbered 22 = .ok (.new 242, 3) := by decide +kernel
theorem dX4_permitNumbered_25 : decode cX4_permitNumbered 25 = .ok (.dup, 1) := by decide +kernel
theorem dX4_permitNumbered_26 : decode cX4_permitNumbered 26 = .ok (.ldc 247, 2) := by decide +kernel
theorem dX4_permitNumbered_28 : decode cX4_permitNumbered 28 = .ok (.invokespecial 246, 3) := by decide +kernel
theorem dX4_permitNumbered_31 : decode cX4_permitNumbered 31 = .ok (.athrow, 1) := by decide +kernel
theorem dX4_permitNumbered_32 : decode cX4_permitNumbered 32 = .ok (.aload_n 0, 1) := by decide +kernel
theorem dX4_permitNumbered_33 : decode cX4_permitNumbered 33 = .ok (.getfield 20, 3) := by decide +kernel
theorem dX4_permitNumbered_36 : decode cX4_permitNumbered 36 = .ok (.iload_n 1, 1) := by decide +kernel
theorem dX4_permitNumbered_37 : decode cX4_permitNumbered 37 = .ok (.aaload, 1) := by decide +kernel
theorem dX4_permitNumbered_38 : decode cX4_permitNumbered 38 = .ok (.areturn, 1) := by decide +kernel
theorem dX4_requireActor_0 : decode cX4_requireActor 0 = .ok (.iload_n 0, 1) := by decide +kernel
theorem dX4_requireActor_1 : decode cX4_requireActor 1 = .ok (.ifCond .lt 8, 3) := by decide +kernel
theorem dX4_requireActor_4 : decode cX4_requireActor 4 = .ok (.iload_n 0, 1) := by decide +kernel
theorem dX4_requireActor_5 : decode cX4_requireActor 5 = .ok (.iconst 5, 1) := by decide +kernel
theorem dX4_requireActor_6 : decode cX4_requireActor 6 = .ok (.if_icmp .lt 13, 3) := by decide +kernel
theorem dX4_requireActor_9 : decode cX4_requireActor 9 = .ok (.new 242, 3) := by decide +kernel
theorem dX4_requireActor_12 : decode cX4_requireActor 12 = .ok (.dup, 1) := by decide +kernel
theorem dX4_requireActor_13 : decode cX4_requireActor 13 = .ok (.ldc 249, 2) := by decide +kernel
theorem dX4_requireActor_15 : decode cX4_requireActor 15 = .ok (.invokespecial 246, 3) := by decide +kernel
theorem dX4_requireActor_18 : decode cX4_requireActor 18 = .ok (.athrow, 1) := by decide +kernel
theorem dX4_requireActor_19 : decode cX4_requireActor 19 = .ok (.return_, 1) := by decide +kernel
theorem dX4_requireProp_0 : decode cX4_requireProp 0 = .ok (.iload_n 0, 1) := by decide +kernel
theorem dX4_requireProp_1 : decode cX4_requireProp 1 = .ok (.ifCond .lt 8, 3) := by decide +kernel
theorem dX4_requireProp_4 : decode cX4_requireProp 4 = .ok (.iload_n 0, 1) := by decide +kernel
theorem dX4_requireProp_5 : decode cX4_requireProp 5 = .ok (.iconst 5, 1) := by decide +kernel
theorem dX4_requireProp_6 : decode cX4_requireProp 6 = .ok (.if_icmp .lt 13, 3) := by decide +kernel
theorem dX4_requireProp_9 : decode cX4_requireProp 9 = .ok (.new 242, 3) := by decide +kernel
theorem dX4_requireProp_12 : decode cX4_requireProp 12 = .ok (.dup, 1) := by decide +kernel
theorem dX4_requireProp_13 : decode cX4_requireProp 13 = .ok (.ldc 251, 2) := by decide +kernel
theorem dX4_requireProp_15 : decode cX4_requireProp 15 = .ok (.invokespecial 246, 3) := by decide +kernel
theorem dX4_requireProp_18 : decode cX4_requireProp 18 = .ok (.athrow, 1) := by decide +kernel
theorem dX4_requireProp_19 : decode cX4_requireProp 19 = .ok (.return_, 1) := by decide +kernel
theorem dX4_requireDay_0 : decode cX4_requireDay 0 = .ok (.iload_n 0, 1) := by decide +kernel
theorem dX4_requireDay_1 : decode cX4_requireDay 1 = .ok (.ifCond .lt 9, 3) := by decide +kernel
theorem dX4_requireDay_4 : decode cX4_requireDay 4 = .ok (.iload_n 0, 1) := by decide +kernel
theorem dX4_requireDay_5 : decode cX4_requireDay 5 = .ok (.bipush 30, 2) := by decide +kernel
theorem dX4_requireDay_7 : decode cX4_requireDay 7 = .ok (.if_icmp .lt 13, 3) := by decide +kernel
theorem dX4_requireDay_10 : decode cX4_requireDay 10 = .ok (.new 58, 3) := by decide +kernel
theorem dX4_requireDay_13 : decode cX4_requireDay 13 = .ok (.dup, 1) := by decide +kernel
theorem dX4_requireDay_14 : decode cX4_requireDay 14 = .ok (.ldc 253, 2) := by decide +kernel
theorem dX4_requireDay_16 : decode cX4_requireDay 16 = .ok (.invokespecial 62, 3) := by decide +kernel
theorem dX4_requireDay_19 : decode cX4_requireDay 19 = .ok (.athrow, 1) := by decide +kernel
theorem dX4_requireDay_20 : decode cX4_requireDay 20 = .ok (.return_, 1) := by decide +kernel
theorem dX4_requirePlanned_0 : decode cX4_requirePlanned 0 = .ok (.aload_n 0, 1) := by decide +kernel
theorem dX4_requirePlanned_1 : decode cX4_requirePlanned 1 = .ok (.getfield 128, 3) := by decide +kernel
theorem dX4_requirePlanned_4 : decode cX4_requirePlanned 4 = .ok (.ifCond .eq 13, 3) := by decide +kernel
theorem dX4_requirePlanned_7 : decode cX4_requirePlanned 7 = .ok (.new 69, 3) := by decide +kernel
theorem dX4_requirePlanned_10 : decode cX4_requirePlanned 10 = .ok (.dup, 1) := by decide +kernel
theorem dX4_requirePlanned_11 : decode cX4_requirePlanned 11 = .ok (.ldc 255, 2) := by decide +kernel
theorem dX4_requirePlanned_13 : decode cX4_requirePlanned 13 = .ok (.invokespecial 73, 3) := by decide +kernel
theorem dX4_requirePlanned_16 : decode cX4_requirePlanned 16 = .ok (.athrow, 1) := by decide +kernel
theorem dX4_requirePlanned_17 : decode cX4_requirePlanned 17 = .ok (.return_, 1) := by decide +kernel
theorem dX4_agesForwards_0 : decode cX4_agesForwards 0 = .ok (.aload_n 0, 1) := by decide +kernel
theorem dX4_agesForwards_1 : decode cX4_agesForwards 1 = .ok (.getfield 11, 3) := by decide +kernel
theorem dX4_agesForwards_4 : decode cX4_agesForwards 4 = .ok (.astore 5, 2) := by decide +kernel
theorem dX4_agesForwards_6 : decode cX4_agesForwards 6 = .ok (.aload 5, 2) := by decide +kernel
theorem dX4_agesForwards_8 : decode cX4_agesForwards 8 = .ok (.arraylength, 1) := by decide +kernel
theorem dX4_agesForwards_9 : decode cX4_agesForwards 9 = .ok (.istore 6, 2) := by decide +kernel
theorem dX4_agesForwards_11 : decode cX4_agesForwards 11 = .ok (.iconst 0, 1) := by decide +kernel
theorem dX4_agesForwards_12 : decode cX4_agesForwards 12 = .ok (.istore 7, 2) := by decide +kernel
theorem dX4_agesForwards_14 : decode cX4_agesForwards 14 = .ok (.iload 7, 2) := by decide +kernel
theorem dX4_agesForwards_16 : decode cX4_agesForwards 16 = .ok (.iload 6, 2) := by decide +kernel
theorem dX4_agesForwards_18 : decode cX4_agesForwards 18 = .ok (.if_icmp .ge 79, 3) := by decide +kernel
theorem dX4_agesForwards_21 : decode cX4_agesForwards 21 = .ok (.aload 5, 2) := by decide +kernel
theorem dX4_agesForwards_23 : decode cX4_agesForwards 23 = .ok (.iload 7, 2) := by decide +kernel
theorem dX4_agesForwards_25 : decode cX4_agesForwards 25 = .ok (.aaload, 1) := by decide +kernel
theorem dX4_agesForwards_26 : decode cX4_agesForwards 26 = .ok (.astore 8, 2) := by decide +kernel
theorem dX4_agesForwards_28 : decode cX4_agesForwards 28 = .ok (.aload 8, 2) := by decide +kernel
theorem dX4_agesForwards_30 : decode cX4_agesForwards 30 = .ok (.ifnull 61, 3) := by decide +kernel
theorem dX4_agesForwards_33 : decode cX4_agesForwards 33 = .ok (.aload 8, 2) := by decide +kernel
theorem dX4_agesForwards_35 : decode cX4_agesForwards 35 = .ok (.getfield 77, 3) := by decide +kernel
theorem dX4_agesForwards_38 : decode cX4_agesForwards 38 = .ok (.iload_n 1, 1) := by decide +kernel
theorem dX4_agesForwards_39 : decode cX4_agesForwards 39 = .ok (.if_icmp .eq 52, 3) := by decide +kernel
theorem dX4_agesForwards_42 : decode cX4_agesForwards 42 = .ok (.aload 8, 2) := by decide +kernel
theorem dX4_agesForwards_44 : decode cX4_agesForwards 44 = .ok (.iload_n 2, 1) := by decide +kernel
theorem dX4_agesForwards_45 : decode cX4_agesForwards 45 = .ok (.invokevirtual 236, 3) := by decide +kernel
theorem dX4_agesForwards_48 : decode cX4_agesForwards 48 = .ok (.ifCond .ne 6, 3) := by decide +kernel
theorem dX4_agesForwards_51 : decode cX4_agesForwards 51 = .ok (.goto 40, 3) := by decide +kernel
theorem dX4_agesForwards_54 : decode cX4_agesForwards 54 = .ok (.aload 8, 2) := by decide +kernel
theorem dX4_agesForwards_56 : decode cX4_agesForwards 56 = .ok (.getfield 77, 3) := by decide +kernel
theorem dX4_agesForwards_59 : decode cX4_agesForwards 59 = .ok (.iload_n 1, 1) := by decide +kernel
theorem dX4_agesForwards_60 : decode cX4_agesForwards 60 = .ok (.if_icmp .ge 17, 3) := by decide +kernel
theorem dX4_agesForwards_63 : decode cX4_agesForwards 63 = .ok (.aload 8, 2) := by decide +kernel
theorem dX4_agesForwards_65 : decode cX4_agesForwards 65 = .ok (.getfield 114, 3) := by decide +kernel
theorem dX4_agesForwards_68 : decode cX4_agesForwards 68 = .ok (.iload_n 2, 1) := by decide +kernel
theorem dX4_agesForwards_69 : decode cX4_agesForwards 69 = .ok (.iaload, 1) := by decide +kernel
theorem dX4_agesForwards_70 : decode cX4_agesForwards 70 = .ok (.iload_n 3, 1) := by decide +kernel
theorem dX4_agesForwards_71 : decode cX4_agesForwards 71 = .ok (.if_icmp .le 20, 3) := by decide +kernel
theorem dX4_agesForwards_74 : decode cX4_agesForwards 74 = .ok (.goto 15, 3) := by decide +kernel
theorem dX4_agesForwards_77 : decode cX4_agesForwards 77 = .ok (.aload 8, 2) := by decide +kernel
theorem dX4_agesForwards_79 : decode cX4_agesForwards 79 = .ok (.getfield 111, 3) := by decide +kernel
theorem dX4_agesForwards_82 : decode cX4_agesForwards 82 = .ok (.iload_n 2, 1) := by decide +kernel
theorem dX4_agesForwards_83 : decode cX4_agesForwards 83 = .ok (.iaload, 1) := by decide +kernel
theorem dX4_agesForwards_84 : decode cX4_agesForwards 84 = .ok (.iload 4, 2) := by decide +kernel
theorem dX4_agesForwards_86 : decode cX4_agesForwards 86 = .ok (.if_icmp .ge 5, 3) := by decide +kernel
theorem dX4_agesForwards_89 : decode cX4_agesForwards 89 = .ok (.iconst 0, 1) := by decide +kernel
theorem dX4_agesForwards_90 : decode cX4_agesForwards 90 = .ok (.ireturn, 1) := by decide +kernel
theorem dX4_agesForwards_91 : decode cX4_agesForwards 91 = .ok (.iinc 7 1, 3) := by decide +kernel
theorem dX4_agesForwards_94 : decode cX4_agesForwards 94 = .ok (.goto (-80), 3) := by decide +kernel
theorem dX4_agesForwards_97 : decode cX4_agesForwards 97 = .ok (.iconst 1, 1) := by decide +kernel
theorem dX4_agesForwards_98 : decode cX4_agesForwards 98 = .ok (.ireturn, 1) := by decide +kernel
theorem dX4_dayBehindPlan_0 : decode cX4_dayBehindPlan 0 = .ok (.aload_n 0, 1) := by decide +kernel
theorem dX4_dayBehindPlan_1 : decode cX4_dayBehindPlan 1 = .ok (.getfield 52, 3) := by decide +kernel
theorem dX4_dayBehindPlan_4 : decode cX4_dayBehindPlan 4 = .ok (.istore_n 1, 1) := by decide +kernel
theorem dX4_dayBehindPlan_5 : decode cX4_dayBehindPlan 5 = .ok (.aload_n 0, 1) := by decide +kernel
theorem dX4_dayBehindPlan_6 : decode cX4_dayBehindPlan 6 = .ok (.getfield 52, 3) := by decide +kernel
theorem dX4_dayBehindPlan_9 : decode cX4_dayBehindPlan 9 = .ok (.istore_n 2, 1) := by decide +kernel
theorem dX4_dayBehindPlan_10 : decode cX4_dayBehindPlan 10 = .ok (.iload_n 2, 1) := by decide +kernel
theorem dX4_dayBehindPlan_11 : decode cX4_dayBehindPlan 11 = .ok (.bipush 30, 2) := by decide +kernel
theorem dX4_dayBehindPlan_13 : decode cX4_dayBehindPlan 13 = .ok (.if_icmp .ge 22, 3) := by decide +kernel
theorem dX4_dayBehindPlan_16 : decode cX4_dayBehindPlan 16 = .ok (.aload_n 0, 1) := by decide +kernel
theorem dX4_dayBehindPlan_17 : decode cX4_dayBehindPlan 17 = .ok (.getfield 15, 3) := by decide +kernel
theorem dX4_dayBehindPlan_20 : decode cX4_dayBehindPlan 20 = .ok (.iload_n 2, 1) := by decide +kernel
theorem dX4_dayBehindPlan_21 : decode cX4_dayBehindPlan 21 = .ok (.aaload, 1) := by decide +kernel
theorem dX4_dayBehindPlan_22 : decode cX4_dayBehindPlan 22 = .ok (.ifnull 7, 3) := by decide +kernel
theorem dX4_dayBehindPlan_25 : decode cX4_dayBehindPlan 25 = .ok (.iload_n 2, 1) := by decide +kernel
theorem dX4_dayBehindPlan_26 : decode cX4_dayBehindPlan 26 = .ok (.iconst 1, 1) := by decide +kernel
theorem dX4_dayBehindPlan_27 : decode cX4_dayBehindPlan 27 = .ok (.iadd, 1) := by decide +kernel
theorem dX4_dayBehindPlan_28 : decode cX4_dayBehindPlan 28 = .ok (.istore_n 1, 1) := by decide +kernel
theorem dX4_dayBehindPlan_29 : decode cX4_dayBehindPlan 29 = .ok (.iinc 2 1, 3) := by decide +kernel
theorem dX4_dayBehindPlan_32 : decode cX4_dayBehindPlan 32 = .ok (.goto (-22), 3) := by decide +kernel
theorem dX4_dayBehindPlan_35 : decode cX4_dayBehindPlan 35 = .ok (.iload_n 1, 1) := by decide +kernel
theorem dX4_dayBehindPlan_36 : decode cX4_dayBehindPlan 36 = .ok (.ireturn, 1) := by decide +kernel
theorem dX4_plannedDay_0 : decode cX4_plannedDay 0 = .ok (.iconst 0, 1) := by decide +kernel
theorem dX4_plannedDay_1 : decode cX4_plannedDay 1 = .ok (.istore_n 2, 1) := by decide +kernel
theorem dX4_plannedDay_2 : decode cX4_plannedDay 2 = .ok (.iload_n 2, 1) := by decide +kernel
theorem dX4_plannedDay_3 : decode cX4_plannedDay 3 = .ok (.bipush 30, 2) := by decide +kernel
theorem dX4_plannedDay_5 : decode cX4_plannedDay 5 = .ok (.if_icmp .ge 21, 3) := by decide +kernel
theorem dX4_plannedDay_8 : decode cX4_plannedDay 8 = .ok (.aload_n 0, 1) := by decide +kernel
theorem dX4_plannedDay_9 : decode cX4_plannedDay 9 = .ok (.getfield 15, 3) := by decide +kernel
theorem dX4_plannedDay_12 : decode cX4_plannedDay 12 = .ok (.iload_n 2, 1) := by decide +kernel
theorem dX4_plannedDay_13 : decode cX4_plannedDay 13 = .ok (.aaload, 1) := by decide +kernel
theorem dX4_plannedDay_14 : decode cX4_plannedDay 14 = .ok (.aload_n 1, 1) := by decide +kernel
theorem dX4_plannedDay_15 : decode cX4_plannedDay 15 = .ok (.if_acmp .ne 5, 3) := by decide +kernel
theorem dX4_plannedDay_18 : decode cX4_plannedDay 18 = .ok (.iload_n 2, 1) := by decide +kernel
theorem dX4_plannedDay_19 : decode cX4_plannedDay 19 = .ok (.ireturn, 1) := by decide +kernel
theorem dX4_plannedDay_20 : decode cX4_plannedDay 20 = .ok (.iinc 2 1, 3) := by decide +kernel
theorem dX4_plannedDay_23 : decode cX4_plannedDay 23 = .ok (.goto (-21), 3) := by decide +kernel
theorem dX4_plannedDay_26 : decode cX4_plannedDay 26 = .ok (.iconst (-1), 1) := by decide +kernel
theorem dX4_plannedDay_27 : decode cX4_plannedDay 27 = .ok (.ireturn, 1) := by decide +kernel
theorem dX4_putOff_0 : decode cX4_putOff 0 = .ok (.aload_n 0, 1) := by decide +kernel
theorem dX4_putOff_1 : decode cX4_putOff 1 = .ok (.getfield 52, 3) := by decide +kernel
theorem dX4_putOff_4 : decode cX4_putOff 4 = .ok (.iconst 1, 1) := by decide +kernel
theorem dX4_putOff_5 : decode cX4_putOff 5 = .ok (.iadd, 1) := by decide +kernel
theorem dX4_putOff_6 : decode cX4_putOff 6 = .ok (.istore_n 2, 1) := by decide +kernel
theorem dX4_putOff_7 : decode cX4_putOff 7 = .ok (.iload_n 2, 1) := by decide +kernel
theorem dX4_putOff_8 : decode cX4_putOff 8 = .ok (.bipush 30, 2) := by decide +kernel
theorem dX4_putOff_10 : decode cX4_putOff 10 = .ok (.if_icmp .ge 26, 3) := by decide +kernel
theorem dX4_putOff_13 : decode cX4_putOff 13 = .ok (.aload_n 0, 1) := by decide +kernel
theorem dX4_putOff_14 : decode cX4_putOff 14 = .ok (.getfield 15, 3) := by decide +kernel
theorem dX4_putOff_17 : decode cX4_putOff 17 = .ok (.iload_n 2, 1) := by decide +kernel
theorem dX4_putOff_18 : decode cX4_putOff 18 = .ok (.aaload, 1) := by decide +kernel
theorem dX4_putOff_19 : decode cX4_putOff 19 = .ok (.ifnonnull 11, 3) := by decide +kernel
theorem dX4_putOff_22 : decode cX4_putOff 22 = .ok (.aload_n 0, 1) := by decide +kernel
theorem dX4_putOff_23 : decode cX4_putOff 23 = .ok (.getfield 15, 3) := by decide +kernel
theorem dX4_putOff_26 : decode cX4_putOff 26 = .ok (.iload_n 2, 1) := by decide +kernel
theorem dX4_putOff_27 : decode cX4_putOff 27 = .ok (.aload_n 1, 1) := by decide +kernel
theorem dX4_putOff_28 : decode cX4_putOff 28 = .ok (.aastore, 1) := by decide +kernel
theorem dX4_putOff_29 : decode cX4_putOff 29 = .ok (.return_, 1) := by decide +kernel
theorem dX4_putOff_30 : decode cX4_putOff 30 = .ok (.iinc 2 1, 3) := by decide +kernel
theorem dX4_putOff_33 : decode cX4_putOff 33 = .ok (.goto (-26), 3) := by decide +kernel
theorem dX4_putOff_36 : decode cX4_putOff 36 = .ok (.aload_n 1, 1) := by decide +kernel
theorem dX4_putOff_37 : decode cX4_putOff 37 = .ok (.iconst 2, 1) := by decide +kernel
theorem dX4_putOff_38 : decode cX4_putOff 38 = .ok (.putfield 128, 3) := by decide +kernel
theorem dX4_putOff_41 : decode cX4_putOff 41 = .ok (.return_, 1) := by decide +kernel
theorem dX4_swapDays_0 : decode cX4_swapDays 0 = .ok (.aload_n 0, 1) := by decide +kernel
theorem dX4_swapDays_1 : decode cX4_swapDays 1 = .ok (.getfield 15, 3) := by decide +kernel
theorem dX4_swapDays_4 : decode cX4_swapDays 4 = .ok (.iload_n 1, 1) := by decide +kernel
theorem dX4_swapDays_5 : decode cX4_swapDays 5 = .ok (.iload_n 2, 1) := by decide +kernel
theorem dX4_swapDays_6 : decode cX4_swapDays 6 = .ok (.invokestatic 257, 3) := by decide +kernel
theorem dX4_swapDays_9 : decode cX4_swapDays 9 = .ok (.return_, 1) := by decide +kernel
theorem dX4_put_0 : decode cX4_put 0 = .ok (.iload_n 1, 1) := by decide +kernel
theorem dX4_put_1 : decode cX4_put 1 = .ok (.ifCond .lt 13, 3) := by decide +kernel
theorem dX4_put_4 : decode cX4_put 4 = .ok (.iload_n 1, 1) := by decide +kernel
theorem dX4_put_5 : decode cX4_put 5 = .ok (.aload_n 0, 1) := by decide +kernel
theorem dX4_put_6 : decode cX4_put 6 = .ok (.arraylength, 1) := by decide +kernel
theorem dX4_put_7 : decode cX4_put 7 = .ok (.if_icmp .ge 7, 3) := by decide +kernel
theorem dX4_put_10 : decode cX4_put 10 = .ok (.aload_n 0, 1) := by decide +kernel
theorem dX4_put_11 : decode cX4_put 11 = .ok (.iload_n 1, 1) := by decide +kernel
theorem dX4_put_12 : decode cX4_put 12 = .ok (.aload_n 2, 1) := by decide +kernel
theorem dX4_put_13 : decode cX4_put 13 = .ok (.aastore, 1) := by decide +kernel
theorem dX4_put_14 : decode cX4_put 14 = .ok (.return_, 1) := by decide +kernel
theorem dX4_exchange_0 : decode cX4_exchange 0 = .ok (.iload_n 1, 1) := by decide +kernel
theorem dX4_exchange_1 : decode cX4_exchange 1 = .ok (.ifCond .lt 19, 3) := by decide +kernel
theorem dX4_exchange_4 : decode cX4_exchange 4 = .ok (.iload_n 1, 1) := by decide +kernel
theorem dX4_exchange_5 : decode cX4_exchange 5 = .ok (.aload_n 0, 1) := by decide +kernel
theorem dX4_exchange_6 : decode cX4_exchange 6 = .ok (.arraylength, 1) := by decide +kernel
theorem dX4_exchange_7 : decode cX4_exchange 7 = .ok (.if_icmp .ge 13, 3) := by decide +kernel
theorem dX4_exchange_10 : decode cX4_exchange 10 = .ok (.iload_n 2, 1) := by decide +kernel
theorem dX4_exchange_11 : decode cX4_exchange 11 = .ok (.ifCond .lt 9, 3) := by decide +kernel
theorem dX4_exchange_14 : decode cX4_exchange 14 = .ok (.iload_n 2, 1) := by decide +kernel
theorem dX4_exchange_15 : decode cX4_exchange 15 = .ok (.aload_n 0, 1) := by decide +kernel
theorem dX4_exchange_16 : decode cX4_exchange 16 = .ok (.arraylength, 1) := by decide +kernel
theorem dX4_exchange_17 : decode cX4_exchange 17 = .ok (.if_icmp .lt 4, 3) := by decide +kernel
theorem dX4_exchange_20 : decode cX4_exchange 20 = .ok (.return_, 1) := by decide +kernel
theorem dX4_exchange_21 : decode cX4_exchange 21 = .ok (.aload_n 0, 1) := by decide +kernel
theorem dX4_exchange_22 : decode cX4_exchange 22 = .ok (.iload_n 1, 1) := by decide +kernel
theorem dX4_exchange_23 : decode cX4_exchange 23 = .ok (.aaload, 1) := by decide +kernel
theorem dX4_exchange_24 : decode cX4_exchange 24 = .ok (.astore_n 3, 1) := by decide +kernel
theorem dX4_exchange_25 : decode cX4_exchange 25 = .ok (.aload_n 0, 1) := by decide +kernel
theorem dX4_exchange_26 : decode cX4_exchange 26 = .ok (.iload_n 1, 1) := by decide +kernel
theorem dX4_exchange_27 : decode cX4_exchange 27 = .ok (.aload_n 0, 1) := by decide +kernel
theorem dX4_exchange_28 : decode cX4_exchange 28 = .ok (.iload_n 2, 1) := by decide +kernel
theorem dX4_exchange_29 : decode cX4_exchange 29 = .ok (.aaload, 1) := by decide +kernel
theorem dX4_exchange_30 : decode cX4_exchange 30 = .ok (.aastore, 1) := by decide +kernel
theorem dX4_exchange_31 : decode cX4_exchange 31 = .ok (.aload_n 0, 1) := by decide +kernel
theorem dX4_exchange_32 : decode cX4_exchange 32 = .ok (.iload_n 2, 1) := by decide +kernel
theorem dX4_exchange_33 : decode cX4_exchange 33 = .ok (.aload_n 3, 1) := by decide +kernel
theorem dX4_exchange_34 : decode cX4_exchange 34 = .ok (.aastore, 1) := by decide +kernel
theorem dX4_exchange_35 : decode cX4_exchange 35 = .ok (.return_, 1) := by decide +kernel
theorem dX4_planCost_0 : decode cX4_planCost 0 = .ok (.aload_n 0, 1) := by decide +kernel
theorem dX4_planCost_1 : decode cX4_planCost 1 = .ok (.getfield 35, 3) := by decide +kernel
theorem dX4_planCost_4 : decode cX4_planCost 4 = .ok (.aload_n 0, 1) := by decide +kernel
theorem dX4_planCost_5 : decode cX4_planCost 5 = .ok (.getfield 31, 3) := by decide +kernel
theorem dX4_planCost_8 : decode cX4_planCost 8 = .ok (.invokevirtual 261, 3) := by decide +kernel
theorem dX4_planCost_11 : decode cX4_planCost 11 = .ok (.iconst 0, 1) := by decide +kernel
theorem dX4_planCost_12 : decode cX4_planCost 12 = .ok (.istore_n 1, 1) := by decide +kernel
theorem dX4_planCost_13 : decode cX4_planCost 13 = .ok (.aload_n 0, 1) := by decide +kernel
theorem dX4_planCost_14 : decode cX4_planCost 14 = .ok (.getfield 52, 3) := by decide +kernel
theorem dX4_planCost_17 : decode cX4_planCost 17 = .ok (.istore_n 2, 1) := by decide +kernel
theorem dX4_planCost_18 : decode cX4_planCost 18 = .ok (.aload_n 0, 1) := by decide +kernel
theorem dX4_planCost_19 : decode cX4_planCost 19 = .ok (.getfield 52, 3) := by decide +kernel
theorem dX4_planCost_22 : decode cX4_planCost 22 = .ok (.istore_n 3, 1) := by decide +kernel
theorem dX4_planCost_23 : decode cX4_planCost 23 = .ok (.iload_n 3, 1) := by decide +kernel
theorem dX4_planCost_24 : decode cX4_planCost 24 = .ok (.bipush 30, 2) := by decide +kernel
theorem dX4_planCost_26 : decode cX4_planCost 26 = .ok (.if_icmp .ge 62, 3) := by decide +kernel
theorem dX4_planCost_29 : decode cX4_planCost 29 = .ok (.aload_n 0, 1) := by decide +kernel
theorem dX4_planCost_30 : decode cX4_planCost 30 = .ok (.getfield 15, 3) := by decide +kernel
theorem dX4_planCost_33 : decode cX4_planCost 33 = .ok (.iload_n 3, 1) := by decide +kernel
theorem dX4_planCost_34 : decode cX4_planCost 34 = .ok (.aaload, 1) := by decide +kernel
theorem dX4_planCost_35 : decode cX4_planCost 35 = .ok (.astore 4, 2) := by decide +kernel
theorem dX4_planCost_37 : decode cX4_planCost 37 = .ok (.aload 4, 2) := by decide +kernel
theorem dX4_planCost_39 : decode cX4_planCost 39 = .ok (.ifnonnull 6, 3) := by decide +kernel
theorem dX4_planCost_42 : decode cX4_planCost 42 = .ok (.goto 40, 3) := by decide +kernel
theorem dX4_planCost_45 : decode cX4_planCost 45 = .ok (.aload_n 0, 1) := by decide +kernel
theorem dX4_planCost_46 : decode cX4_planCost 46 = .ok (.getfield 35, 3) := by decide +kernel
theorem dX4_planCost_49 : decode cX4_planCost 49 = .ok (.iload_n 3, 1) := by decide +kernel
theorem dX4_planCost_50 : decode cX4_planCost 50 = .ok (.iload_n 2, 1) := by decide +kernel
theorem dX4_planCost_51 : decode cX4_planCost 51 = .ok (.isub, 1) := by decide +kernel
theorem dX4_planCost_52 : decode cX4_planCost 52 = .ok (.invokevirtual 196, 3) := by decide +kernel
theorem dX4_planCost_55 : decode cX4_planCost 55 = .ok (.iload_n 3, 1) := by decide +kernel
theorem dX4_planCost_56 : decode cX4_planCost 56 = .ok (.istore_n 2, 1) := by decide +kernel
theorem dX4_planCost_57 : decode cX4_planCost 57 = .ok (.iload_n 1, 1) := by decide +kernel
theorem dX4_planCost_58 : decode cX4_planCost 58 = .ok (.aload_n 0, 1) := by decide +kernel
theorem dX4_planCost_59 : decode cX4_planCost 59 = .ok (.getfield 35, 3) := by decide +kernel
theorem dX4_planCost_62 : decode cX4_planCost 62 = .ok (.aload 4, 2) := by decide +kernel
theorem dX4_planCost_64 : decode cX4_planCost 64 = .ok (.invokevirtual 187, 3) := by decide +kernel
theorem dX4_planCost_67 : decode cX4_planCost 67 = .ok (.iadd, 1) := by decide +kernel
theorem dX4_planCost_68 : decode cX4_planCost 68 = .ok (.istore_n 1, 1) := by decide +kernel
theorem dX4_planCost_69 : decode cX4_planCost 69 = .ok (.aload_n 0, 1) := by decide +kernel
theorem dX4_planCost_70 : decode cX4_planCost 70 = .ok (.aload 4, 2) := by decide +kernel
theorem dX4_planCost_72 : decode cX4_planCost 72 = .ok (.iload_n 3, 1) := by decide +kernel
theorem dX4_planCost_73 : decode cX4_planCost 73 = .ok (.invokevirtual 183, 3) := by decide +kernel
theorem dX4_planCost_76 : decode cX4_planCost 76 = .ok (.ifCond .ne 6, 3) := by decide +kernel
theorem dX4_planCost_79 : decode cX4_planCost 79 = .ok (.iinc 1 20, 3) := by decide +kernel
theorem dX4_planCost_82 : decode cX4_planCost 82 = .ok (.iinc 3 1, 3) := by decide +kernel
theorem dX4_planCost_85 : decode cX4_planCost 85 = .ok (.goto (-62), 3) := by decide +kernel
theorem dX4_planCost_88 : decode cX4_planCost 88 = .ok (.iload_n 1, 1) := by decide +kernel
theorem dX4_planCost_89 : decode cX4_planCost 89 = .ok (.ireturn, 1) := by decide +kernel
theorem dX4_costAfterSwap_0 : decode cX4_costAfterSwap 0 = .ok (.aload_n 0, 1) := by decide +kernel
theorem dX4_costAfterSwap_1 : decode cX4_costAfterSwap 1 = .ok (.iload_n 1, 1) := by decide +kernel
theorem dX4_costAfterSwap_2 : decode cX4_costAfterSwap 2 = .ok (.iload_n 2, 1) := by decide +kernel
theorem dX4_costAfterSwap_3 : decode cX4_costAfterSwap 3 = .ok (.invokevirtual 133, 3) := by decide +kernel
theorem dX4_costAfterSwap_6 : decode cX4_costAfterSwap 6 = .ok (.aload_n 0, 1) := by decide +kernel
theorem dX4_costAfterSwap_7 : decode cX4_costAfterSwap 7 = .ok (.invokevirtual 137, 3) := by decide +kernel
theorem dX4_costAfterSwap_10 : decode cX4_costAfterSwap 10 = .ok (.istore_n 3, 1) := by decide +kernel
theorem dX4_costAfterSwap_11 : decode cX4_costAfterSwap 11 = .ok (.aload_n 0, 1) := by decide +kernel
theorem dX4_costAfterSwap_12 : decode cX4_costAfterSwap 12 = .ok (.iload_n 1, 1) := by decide +kernel
theorem dX4_costAfterSwap_13 : decode cX4_costAfterSwap 13 = .ok (.iload_n 2, 1) := by decide +kernel
theorem dX4_costAfterSwap_14 : decode cX4_costAfterSwap 14 = .ok (.invokevirtual 133, 3) := by decide +kernel
theorem dX4_costAfterSwap_17 : decode cX4_costAfterSwap 17 = .ok (.iload_n 3, 1) := by decide +kernel
theorem dX4_costAfterSwap_18 : decode cX4_costAfterSwap 18 = .ok (.ireturn, 1) := by decide +kernel
theorem dX4_mendingDay_0 : decode cX4_mendingDay 0 = .ok (.iconst (-1), 1) := by decide +kernel
theorem dX4_mendingDay_1 : decode cX4_mendingDay 1 = .ok (.istore_n 2, 1) := by decide +kernel
theorem dX4_mendingDay_2 : decode cX4_mendingDay 2 = .ok (.iconst 0, 1) := by decide +kernel
theorem dX4_mendingDay_3 : decode cX4_mendingDay 3 = .ok (.istore_n 3, 1) := by decide +kernel
theorem dX4_mendingDay_4 : decode cX4_mendingDay 4 = .ok (.aload_n 0, 1) := by decide +kernel
theorem dX4_mendingDay_5 : decode cX4_mendingDay 5 = .ok (.getfield 52, 3) := by decide +kernel
theorem dX4_mendingDay_8 : decode cX4_mendingDay 8 = .ok (.istore 4, 2) := by decide +kernel
theorem dX4_mendingDay_10 : decode cX4_mendingDay 10 = .ok (.iload 4, 2) := by decide +kernel
theorem dX4_mendingDay_12 : decode cX4_mendingDay 12 = .ok (.bipush 30, 2) := by decide +kernel
theorem dX4_mendingDay_14 : decode cX4_mendingDay 14 = .ok (.if_icmp .ge 54, 3) := by decide +kernel
theorem dX4_mendingDay_17 : decode cX4_mendingDay 17 = .ok (.iload 4, 2) := by decide +kernel
theorem dX4_mendingDay_19 : decode cX4_mendingDay 19 = .ok (.iload_n 1, 1) := by decide +kernel
theorem dX4_mendingDay_20 : decode cX4_mendingDay 20 = .ok (.if_icmp .eq 42, 3) := by decide +kernel
theorem dX4_mendingDay_23 : decode cX4_mendingDay 23 = .ok (.aload_n 0, 1) := by decide +kernel
theorem dX4_mendingDay_24 : decode cX4_mendingDay 24 = .ok (.iload_n 1, 1) := by decide +kernel
theorem dX4_mendingDay_25 : decode cX4_mendingDay 25 = .ok (.iload 4, 2) := by decide +kernel
theorem dX4_mendingDay_27 : decode cX4_mendingDay 27 = .ok (.invokevirtual 265, 3) := by decide +kernel
theorem dX4_mendingDay_30 : decode cX4_mendingDay 30 = .ok (.ifCond .ne 6, 3) := by decide +kernel
theorem dX4_mendingDay_33 : decode cX4_mendingDay 33 = .ok (.goto 29, 3) := by decide +kernel
theorem dX4_mendingDay_36 : decode cX4_mendingDay 36 = .ok (.aload_n 0, 1) := by decide +kernel
theorem dX4_mendingDay_37 : decode cX4_mendingDay 37 = .ok (.iload_n 1, 1) := by decide +kernel
theorem dX4_mendingDay_38 : decode cX4_mendingDay 38 = .ok (.iload 4, 2) := by decide +kernel
theorem dX4_mendingDay_40 : decode cX4_mendingDay 40 = .ok (.invokevirtual 268, 3) := by decide +kernel
theorem dX4_mendingDay_43 : decode cX4_mendingDay 43 = .ok (.istore 5, 2) := by decide +kernel
theorem dX4_mendingDay_45 : decode cX4_mendingDay 45 = .ok (.iload_n 2, 1) := by decide +kernel
theorem dX4_mendingDay_46 : decode cX4_mendingDay 46 = .ok (.iconst (-1), 1) := by decide +kernel
theorem dX4_mendingDay_47 : decode cX4_mendingDay 47 = .ok (.if_icmp .eq 9, 3) := by decide +kernel
theorem dX4_mendingDay_50 : decode cX4_mendingDay 50 = .ok (.iload 5, 2) := by decide +kernel
theorem dX4_mendingDay_52 : decode cX4_mendingDay 52 = .ok (.iload_n 3, 1) := by decide +kernel
theorem dX4_mendingDay_53 : decode cX4_mendingDay 53 = .ok (.if_icmp .ge 9, 3) := by decide +kernel
theorem dX4_mendingDay_56 : decode cX4_mendingDay 56 = .ok (.iload 4, 2) := by decide +kernel
theorem dX4_mendingDay_58 : decode cX4_mendingDay 58 = .ok (.istore_n 2, 1) := by decide +kernel
theorem dX4_mendingDay_59 : decode cX4_mendingDay 59 = .ok (.iload 5, 2) := by decide +kernel
theorem dX4_mendingDay_61 : decode cX4_mendingDay 61 = .ok (.istore_n 3, 1) := by decide +kernel
theorem dX4_mendingDay_62 : decode cX4_mendingDay 62 = .ok (.iinc 4 1, 3) := by decide +kernel
theorem dX4_mendingDay_65 : decode cX4_mendingDay 65 = .ok (.goto (-55), 3) := by decide +kernel
theorem dX4_mendingDay_68 : decode cX4_mendingDay 68 = .ok (.iload_n 2, 1) := by decide +kernel
theorem dX4_mendingDay_69 : decode cX4_mendingDay 69 = .ok (.ireturn, 1) := by decide +kernel
theorem dX4_wouldMend_0 : decode cX4_wouldMend 0 = .ok (.aload_n 0, 1) := by decide +kernel
theorem dX4_wouldMend_1 : decode cX4_wouldMend 1 = .ok (.aload_n 0, 1) := by decide +kernel
theorem dX4_wouldMend_2 : decode cX4_wouldMend 2 = .ok (.getfield 15, 3) := by decide +kernel
theorem dX4_wouldMend_5 : decode cX4_wouldMend 5 = .ok (.iload_n 1, 1) := by decide +kernel
theorem dX4_wouldMend_6 : decode cX4_wouldMend 6 = .ok (.aaload, 1) := by decide +kernel
theorem dX4_wouldMend_7 : decode cX4_wouldMend 7 = .ok (.iload_n 2, 1) := by decide +kernel
theorem dX4_wouldMend_8 : decode cX4_wouldMend 8 = .ok (.invokevirtual 271, 3) := by decide +kernel
theorem dX4_wouldMend_11 : decode cX4_wouldMend 11 = .ok (.ifCond .eq 21, 3) := by decide +kernel
theorem dX4_wouldMend_14 : decode cX4_wouldMend 14 = .ok (.aload_n 0, 1) := by decide +kernel
theorem dX4_wouldMend_15 : decode cX4_wouldMend 15 = .ok (.aload_n 0, 1) := by decide +kernel
theorem dX4_wouldMend_16 : decode cX4_wouldMend 16 = .ok (.getfield 15, 3) := by decide +kernel
theorem dX4_wouldMend_19 : decode cX4_wouldMend 19 = .ok (.iload_n 2, 1) := by decide +kernel
theorem dX4_wouldMend_20 : decode cX4_wouldMend 20 = .ok (.aaload, 1) := by decide +kernel
theorem dX4_wouldMend_21 : decode cX4_wouldMend 21 = .ok (.iload_n 1, 1) := by decide +kernel
theorem dX4_wouldMend_22 : decode cX4_wouldMend 22 = .ok (.invokevirtual 271, 3) := by decide +kernel
theorem dX4_wouldMend_25 : decode cX4_wouldMend 25 = .ok (.ifCond .eq 7, 3) := by decide +kernel
theorem dX4_wouldMend_28 : decode cX4_wouldMend 28 = .ok (.iconst 1, 1) := by decide +kernel
theorem dX4_wouldMend_29 : decode cX4_wouldMend 29 = .ok (.goto 4, 3) := by decide +kernel
theorem dX4_wouldMend_32 : decode cX4_wouldMend 32 = .ok (.iconst 0, 1) := by decide +kernel
theorem dX4_wouldMend_33 : decode cX4_wouldMend 33 = .ok (.ireturn, 1) := by decide +kernel
theorem dX4_isFree_0 : decode cX4_isFree 0 = .ok (.aload_n 1, 1) := by decide +kernel
theorem dX4_isFree_1 : decode cX4_isFree 1 = .ok (.ifnull 12, 3) := by decide +kernel
theorem dX4_isFree_4 : decode cX4_isFree 4 = .ok (.aload_n 0, 1) := by decide +kernel
theorem dX4_isFree_5 : decode cX4_isFree 5 = .ok (.aload_n 1, 1) := by decide +kernel
theorem dX4_isFree_6 : decode cX4_isFree 6 = .ok (.iload_n 2, 1) := by decide +kernel
theorem dX4_isFree_7 : decode cX4_isFree 7 = .ok (.invokevirtual 183, 3) := by decide +kernel
theorem dX4_isFree_10 : decode cX4_isFree 10 = .ok (.ifCond .eq 7, 3) := by decide +kernel
theorem dX4_isFree_13 : decode cX4_isFree 13 = .ok (.iconst 1, 1) := by decide +kernel
theorem dX4_isFree_14 : decode cX4_isFree 14 = .ok (.goto 4, 3) := by decide +kernel
theorem dX4_isFree_17 : decode cX4_isFree 17 = .ok (.iconst 0, 1) := by decide +kernel
theorem dX4_isFree_18 : decode cX4_isFree 18 = .ok (.ireturn, 1) := by decide +kernel
theorem dX4_makeBestSwap_0 : decode cX4_makeBestSwap 0 = .ok (.aload_n 0, 1) := by decide +kernel
theorem dX4_makeBestSwap_1 : decode cX4_makeBestSwap 1 = .ok (.invokevirtual 137, 3) := by decide +kernel
theorem dX4_makeBestSwap_4 : decode cX4_makeBestSwap 4 = .ok (.istore_n 1, 1) := by decide +kernel
theorem dX4_makeBestSwap_5 : decode cX4_makeBestSwap 5 = .ok (.iconst (-1), 1) := by decide +kernel
theorem dX4_makeBestSwap_6 : decode cX4_makeBestSwap 6 = .ok (.istore_n 2, 1) := by decide +kernel
theorem dX4_makeBestSwap_7 : decode cX4_makeBestSwap 7 = .ok (.iconst (-1), 1) := by decide +kernel
theorem dX4_makeBestSwap_8 : decode cX4_makeBestSwap 8 = .ok (.istore_n 3, 1) := by decide +kernel
theorem dX4_makeBestSwap_9 : decode cX4_makeBestSwap 9 = .ok (.aload_n 0, 1) := by decide +kernel
theorem dX4_makeBestSwap_10 : decode cX4_makeBestSwap 10 = .ok (.getfield 52, 3) := by decide +kernel
theorem dX4_makeBestSwap_13 : decode cX4_makeBestSwap 13 = .ok (.istore 4, 2) := by decide +kernel
theorem dX4_makeBestSwap_15 : decode cX4_makeBestSwap 15 = .ok (.iload 4, 2) := by decide +kernel
theorem dX4_makeBestSwap_17 : decode cX4_makeBestSwap 17 = .ok (.bipush 30, 2) := by decide +kernel
theorem dX4_makeBestSwap_19 : decode cX4_makeBestSwap 19 = .ok (.if_icmp .ge 76, 3) := by decide +kernel
theorem dX4_makeBestSwap_22 : decode cX4_makeBestSwap 22 = .ok (.iload 4, 2) := by decide +kernel
theorem dX4_makeBestSwap_24 : decode cX4_makeBestSwap 24 = .ok (.iconst 1, 1) := by decide +kernel
theorem dX4_makeBestSwap_25 : decode cX4_makeBestSwap 25 = .ok (.iadd, 1) := by decide +kernel
theorem dX4_makeBestSwap_26 : decode cX4_makeBestSwap 26 = .ok (.istore 5, 2) := by decide +kernel
theorem dX4_makeBestSwap_28 : decode cX4_makeBestSwap 28 = .ok (.iload 5, 2) := by decide +kernel
theorem dX4_makeBestSwap_30 : decode cX4_makeBestSwap 30 = .ok (.bipush 30, 2) := by decide +kernel
theorem dX4_makeBestSwap_32 : decode cX4_makeBestSwap 32 = .ok (.if_icmp .ge 57, 3) := by decide +kernel
theorem dX4_makeBestSwap_35 : decode cX4_makeBestSwap 35 = .ok (.aload_n 0, 1) := by decide +kernel
theorem dX4_makeBestSwap_36 : decode cX4_makeBestSwap 36 = .ok (.getfield 15, 3) := by decide +kernel
theorem dX4_makeBestSwap_39 : decode cX4_makeBestSwap 39 = .ok (.iload 4, 2) := by decide +kernel
theorem dX4_makeBestSwap_41 : decode cX4_makeBestSwap 41 = .ok (.aaload, 1) := by decide +kernel
theorem dX4_makeBestSwap_42 : decode cX4_makeBestSwap 42 = .ok (.ifnonnull 16, 3) := by decide +kernel
theorem dX4_makeBestSwap_45 : decode cX4_makeBestSwap 45 = .ok (.aload_n 0, 1) := by decide +kernel
theorem dX4_makeBestSwap_46 : decode cX4_makeBestSwap 46 = .ok (.getfield 15, 3) := by decide +kernel
theorem dX4_makeBestSwap_49 : decode cX4_makeBestSwap 49 = .ok (.iload 5, 2) := by decide +kernel
theorem dX4_makeBestSwap_51 : decode cX4_makeBestSwap 51 = .ok (.aaload, 1) := by decide +kernel
theorem dX4_makeBestSwap_52 : decode cX4_makeBestSwap 52 = .ok (.ifnonnull 6, 3) := by decide +kernel
theorem dX4_makeBestSwap_55 : decode cX4_makeBestSwap 55 = .ok (.goto 28, 3) := by decide +kernel
theorem dX4_makeBestSwap_58 : decode cX4_makeBestSwap 58 = .ok (.aload_n 0, 1) := by decide +kernel
theorem dX4_makeBestSwap_59 : decode cX4_makeBestSwap 59 = .ok (.iload 4, 2) := by decide +kernel
theorem dX4_makeBestSwap_61 : decode cX4_makeBestSwap 61 = .ok (.iload 5, 2) := by decide +kernel
theorem dX4_makeBestSwap_63 : decode cX4_makeBestSwap 63 = .ok (.invokevirtual 268, 3) := by decide +kernel
theorem dX4_makeBestSwap_66 : decode cX4_makeBestSwap 66 = .ok (.istore 6, 2) := by decide +kernel
theorem dX4_makeBestSwap_68 : decode cX4_makeBestSwap 68 = .ok (.iload 6, 2) := by decide +kernel
theorem dX4_makeBestSwap_70 : decode cX4_makeBestSwap 70 = .ok (.iload_n 1, 1) := by decide +kernel
theorem dX4_makeBestSwap_71 : decode cX4_makeBestSwap 71 = .ok (.if_icmp .ge 12, 3) := by decide +kernel
theorem dX4_makeBestSwap_74 : decode cX4_makeBestSwap 74 = .ok (.iload 6, 2) := by decide +kernel
theorem dX4_makeBestSwap_76 : decode cX4_makeBestSwap 76 = .ok (.istore_n 1, 1) := by decide +kernel
theorem dX4_makeBestSwap_77 : decode cX4_makeBestSwap 77 = .ok (.iload 4, 2) := by decide +kernel
theorem dX4_makeBestSwap_79 : decode cX4_makeBestSwap 79 = .ok (.istore_n 2, 1) := by decide +kernel
theorem dX4_makeBestSwap_80 : decode cX4_makeBestSwap 80 = .ok (.iload 5, 2) := by decide +kernel
theorem dX4_makeBestSwap_82 : decode cX4_makeBestSwap 82 = .ok (.istore_n 3, 1) := by decide +kernel
theorem dX4_makeBestSwap_83 : decode cX4_makeBestSwap 83 = .ok (.iinc 5 1, 3) := by decide +kernel
theorem dX4_makeBestSwap_86 : decode cX4_makeBestSwap 86 = .ok (.goto (-58), 3) := by decide +kernel
theorem dX4_makeBestSwap_89 : decode cX4_makeBestSwap 89 = .ok (.iinc 4 1, 3) := by decide +kernel
theorem dX4_makeBestSwap_92 : decode cX4_makeBestSwap 92 = .ok (.goto (-77), 3) := by decide +kernel
theorem dX4_makeBestSwap_95 : decode cX4_makeBestSwap 95 = .ok (.aload_n 0, 1) := by decide +kernel
theorem dX4_makeBestSwap_96 : decode cX4_makeBestSwap 96 = .ok (.iload_n 2, 1) := by decide +kernel
theorem dX4_makeBestSwap_97 : decode cX4_makeBestSwap 97 = .ok (.iload_n 3, 1) := by decide +kernel
theorem dX4_makeBestSwap_98 : decode cX4_makeBestSwap 98 = .ok (.invokevirtual 133, 3) := by decide +kernel
theorem dX4_makeBestSwap_101 : decode cX4_makeBestSwap 101 = .ok (.iload_n 2, 1) := by decide +kernel
theorem dX4_makeBestSwap_102 : decode cX4_makeBestSwap 102 = .ok (.iconst (-1), 1) := by decide +kernel
theorem dX4_makeBestSwap_103 : decode cX4_makeBestSwap 103 = .ok (.if_icmp .eq 7, 3) := by decide +kernel
theorem dX4_makeBestSwap_106 : decode cX4_makeBestSwap 106 = .ok (.iconst 1, 1) := by decide +kernel
theorem dX4_makeBestSwap_107 : decode cX4_makeBestSwap 107 = .ok (.goto 4, 3) := by decide +kernel
theorem dX4_makeBestSwap_110 : decode cX4_makeBestSwap 110 = .ok (.iconst 0, 1) := by decide +kernel
theorem dX4_makeBestSwap_111 : decode cX4_makeBestSwap 111 = .ok (.ireturn, 1) := by decide +kernel
theorem dX4_countRefused_0 : decode cX4_countRefused 0 = .ok (.iconst 0, 1) := by decide +kernel
theorem dX4_countRefused_1 : decode cX4_countRefused 1 = .ok (.istore_n 1, 1) := by decide +kernel
theorem dX4_countRefused_2 : decode cX4_countRefused 2 = .ok (.aload_n 0, 1) := by decide +kernel
theorem dX4_countRefused_3 : decode cX4_countRefused 3 = .ok (.getfield 52, 3) := by decide +kernel
theorem dX4_countRefused_6 : decode cX4_countRefused 6 = .ok (.istore_n 2, 1) := by decide +kernel
theorem dX4_countRefused_7 : decode cX4_countRefused 7 = .ok (.iload_n 2, 1) := by decide +kernel
theorem dX4_countRefused_8 : decode cX4_countRefused 8 = .ok (.bipush 30, 2) := by decide +kernel
theorem dX4_countRefused_10 : decode cX4_countRefused 10 = .ok (.if_icmp .ge 20, 3) := by decide +kernel
theorem dX4_countRefused_13 : decode cX4_countRefused 13 = .ok (.aload_n 0, 1) := by decide +kernel
theorem dX4_countRefused_14 : decode cX4_countRefused 14 = .ok (.iload_n 2, 1) := by decide +kernel
theorem dX4_countRefused_15 : decode cX4_countRefused 15 = .ok (.invokevirtual 199, 3) := by decide +kernel
theorem dX4_countRefused_18 : decode cX4_countRefused 18 = .ok (.ifCond .eq 6, 3) := by decide +kernel
theorem dX4_countRefused_21 : decode cX4_countRefused 21 = .ok (.iinc 1 1, 3) := by decide +kernel
theorem dX4_countRefused_24 : decode cX4_countRefused 24 = .ok (.iinc 2 1, 3) := by decide +kernel
theorem dX4_countRefused_27 : decode cX4_countRefused 27 = .ok (.goto (-20), 3) := by decide +kernel
theorem dX4_countRefused_30 : decode cX4_countRefused 30 = .ok (.iload_n 1, 1) := by decide +kernel
theorem dX4_countRefused_31 : decode cX4_countRefused 31 = .ok (.ireturn, 1) := by decide +kernel
theorem dX4_isRefusedOn_0 : decode cX4_isRefusedOn 0 = .ok (.aload_n 0, 1) := by decide +kernel
theorem dX4_isRefusedOn_1 : decode cX4_isRefusedOn 1 = .ok (.aload_n 0, 1) := by decide +kernel
theorem dX4_isRefusedOn_2 : decode cX4_isRefusedOn 2 = .ok (.getfield 15, 3) := by decide +kernel
theorem dX4_isRefusedOn_5 : decode cX4_isRefusedOn 5 = .ok (.iload_n 1, 1) := by decide +kernel
theorem dX4_isRefusedOn_6 : decode cX4_isRefusedOn 6 = .ok (.aaload, 1) := by decide +kernel
theorem dX4_isRefusedOn_7 : decode cX4_isRefusedOn 7 = .ok (.iload_n 1, 1) := by decide +kernel
theorem dX4_isRefusedOn_8 : decode cX4_isRefusedOn 8 = .ok (.invokevirtual 271, 3) := by decide +kernel
theorem dX4_isRefusedOn_11 : decode cX4_isRefusedOn 11 = .ok (.ifCond .ne 7, 3) := by decide +kernel
theorem dX4_isRefusedOn_14 : decode cX4_isRefusedOn 14 = .ok (.iconst 1, 1) := by decide +kernel
theorem dX4_isRefusedOn_15 : decode cX4_isRefusedOn 15 = .ok (.goto 4, 3) := by decide +kernel
theorem dX4_isRefusedOn_18 : decode cX4_isRefusedOn 18 = .ok (.iconst 0, 1) := by decide +kernel
theorem dX4_isRefusedOn_19 : decode cX4_isRefusedOn 19 = .ok (.ireturn, 1) := by decide +kernel
theorem dX4_allows_0 : decode cX4_allows 0 = .ok (.aload_n 0, 1) := by decide +kernel
theorem dX4_allows_1 : decode cX4_allows 1 = .ok (.aload_n 1, 1) := by decide +kernel
theorem dX4_allows_2 : decode cX4_allows 2 = .ok (.iload_n 2, 1) := by decide +kernel
theorem dX4_allows_3 : decode cX4_allows 3 = .ok (.invokevirtual 274, 3) := by decide +kernel
theorem dX4_allows_6 : decode cX4_allows 6 = .ok (.ifCond .eq 16, 3) := by decide +kernel
theorem dX4_allows_9 : decode cX4_allows 9 = .ok (.aload_n 0, 1) := by decide +kernel
theorem dX4_allows_10 : decode cX4_allows 10 = .ok (.aload_n 1, 1) := by decide +kernel
theorem dX4_allows_11 : decode cX4_allows 11 = .ok (.iload_n 2, 1) := by decide +kernel
theorem dX4_allows_12 : decode cX4_allows 12 = .ok (.invokevirtual 277, 3) := by decide +kernel
theorem dX4_allows_15 : decode cX4_allows 15 = .ok (.ifCond .eq 7, 3) := by decide +kernel
theorem dX4_allows_18 : decode cX4_allows 18 = .ok (.iconst 1, 1) := by decide +kernel
theorem dX4_allows_19 : decode cX4_allows 19 = .ok (.goto 4, 3) := by decide +kernel
theorem dX4_allows_22 : decode cX4_allows 22 = .ok (.iconst 0, 1) := by decide +kernel
theorem dX4_allows_23 : decode cX4_allows 23 = .ok (.ireturn, 1) := by decide +kernel
theorem dX4_isPermitted_0 : decode cX4_isPermitted 0 = .ok (.aload_n 1, 1) := by decide +kernel
theorem dX4_isPermitted_1 : decode cX4_isPermitted 1 = .ok (.getfield 280, 3) := by decide +kernel
theorem dX4_isPermitted_4 : decode cX4_isPermitted 4 = .ok (.ifCond .ne 5, 3) := by decide +kernel
theorem dX4_isPermitted_7 : decode cX4_isPermitted 7 = .ok (.iconst 1, 1) := by decide +kernel
theorem dX4_isPermitted_8 : decode cX4_isPermitted 8 = .ok (.ireturn, 1) := by decide +kernel
theorem dX4_isPermitted_9 : decode cX4_isPermitted 9 = .ok (.aload_n 0, 1) := by decide +kernel
theorem dX4_isPermitted_10 : decode cX4_isPermitted 10 = .ok (.getfield 20, 3) := by decide +kernel
theorem dX4_isPermitted_13 : decode cX4_isPermitted 13 = .ok (.astore_n 3, 1) := by decide +kernel
theorem dX4_isPermitted_14 : decode cX4_isPermitted 14 = .ok (.aload_n 3, 1) := by decide +kernel
theorem dX4_isPermitted_15 : decode cX4_isPermitted 15 = .ok (.arraylength, 1) := by decide +kernel
theorem dX4_isPermitted_16 : decode cX4_isPermitted 16 = .ok (.istore 4, 2) := by decide +kernel
theorem dX4_isPermitted_18 : decode cX4_isPermitted 18 = .ok (.iconst 0, 1) := by decide +kernel
theorem dX4_isPermitted_19 : decode cX4_isPermitted 19 = .ok (.istore 5, 2) := by decide +kernel
theorem dX4_isPermitted_21 : decode cX4_isPermitted 21 = .ok (.iload 5, 2) := by decide +kernel
theorem dX4_isPermitted_23 : decode cX4_isPermitted 23 = .ok (.iload 4, 2) := by decide +kernel
theorem dX4_isPermitted_25 : decode cX4_isPermitted 25 = .ok (.if_icmp .ge 32, 3) := by decide +kernel
theorem dX4_isPermitted_28 : decode cX4_isPermitted 28 = .ok (.aload_n 3, 1) := by decide +kernel
theorem dX4_isPermitted_29 : decode cX4_isPermitted 29 = .ok (.iload 5, 2) := by decide +kernel
theorem dX4_isPermitted_31 : decode cX4_isPermitted 31 = .ok (.aaload, 1) := by decide +kernel
theorem dX4_isPermitted_32 : decode cX4_isPermitted 32 = .ok (.astore 6, 2) := by decide +kernel
theorem dX4_isPermitted_34 : decode cX4_isPermitted 34 = .ok (.aload 6, 2) := by decide +kernel
theorem dX4_isPermitted_36 : decode cX4_isPermitted 36 = .ok (.ifnull 15, 3) := by decide +kernel
theorem dX4_isPermitted_39 : decode cX4_isPermitted 39 = .ok (.aload 6, 2) := by decide +kernel
theorem dX4_isPermitted_41 : decode cX4_isPermitted 41 = .ok (.aload_n 1, 1) := by decide +kernel
theorem dX4_isPermitted_42 : decode cX4_isPermitted 42 = .ok (.iload_n 2, 1) := by decide +kernel
theorem dX4_isPermitted_43 : decode cX4_isPermitted 43 = .ok (.invokevirtual 283, 3) := by decide +kernel
theorem dX4_isPermitted_46 : decode cX4_isPermitted 46 = .ok (.ifCond .eq 5, 3) := by decide +kernel
theorem dX4_isPermitted_49 : decode cX4_isPermitted 49 = .ok (.iconst 1, 1) := by decide +kernel
theorem dX4_isPermitted_50 : decode cX4_isPermitted 50 = .ok (.ireturn, 1) := by decide +kernel
theorem dX4_isPermitted_51 : decode cX4_isPermitted 51 = .ok (.iinc 5 1, 3) := by decide +kernel
theorem dX4_isPermitted_54 : decode cX4_isPermitted 54 = .ok (.goto (-33), 3) := by decide +kernel
theorem dX4_isPermitted_57 : decode cX4_isPermitted 57 = .ok (.iconst 0, 1) := by decide +kernel
theorem dX4_isPermitted_58 : decode cX4_isPermitted 58 = .ok (.ireturn, 1) := by decide +kernel
theorem dX4_isCastThere_0 : decode cX4_isCastThere 0 = .ok (.iconst 0, 1) := by decide +kernel
theorem dX4_isCastThere_1 : decode cX4_isCastThere 1 = .ok (.istore_n 3, 1) := by decide +kernel
theorem dX4_isCastThere_2 : decode cX4_isCastThere 2 = .ok (.iload_n 3, 1) := by decide +kernel
theorem dX4_isCastThere_3 : decode cX4_isCastThere 3 = .ok (.iconst 5, 1) := by decide +kernel
theorem dX4_isCastThere_4 : decode cX4_isCastThere 4 = .ok (.if_icmp .ge 31, 3) := by decide +kernel
theorem dX4_isCastThere_7 : decode cX4_isCastThere 7 = .ok (.aload_n 1, 1) := by decide +kernel
theorem dX4_isCastThere_8 : decode cX4_isCastThere 8 = .ok (.getfield 94, 3) := by decide +kernel
theorem dX4_isCastThere_11 : decode cX4_isCastThere 11 = .ok (.iload_n 3, 1) := by decide +kernel
theorem dX4_isCastThere_12 : decode cX4_isCastThere 12 = .ok (.iaload, 1) := by decide +kernel
theorem dX4_isCastThere_13 : decode cX4_isCastThere 13 = .ok (.bipush (-2), 2) := by decide +kernel
theorem dX4_isCastThere_15 : decode cX4_isCastThere 15 = .ok (.if_icmp .eq 14, 3) := by decide +kernel
theorem dX4_isCastThere_18 : decode cX4_isCastThere 18 = .ok (.aload_n 0, 1) := by decide +kernel
theorem dX4_isCastThere_19 : decode cX4_isCastThere 19 = .ok (.iload_n 3, 1) := by decide +kernel
theorem dX4_isCastThere_20 : decode cX4_isCastThere 20 = .ok (.iload_n 2, 1) := by decide +kernel
theorem dX4_isCastThere_21 : decode cX4_isCastThere 21 = .ok (.invokevirtual 163, 3) := by decide +kernel
theorem dX4_isCastThere_24 : decode cX4_isCastThere 24 = .ok (.ifCond .eq 5, 3) := by decide +kernel
theorem dX4_isCastThere_27 : decode cX4_isCastThere 27 = .ok (.iconst 0, 1) := by decide +kernel
theorem dX4_isCastThere_28 : decode cX4_isCastThere 28 = .ok (.ireturn, 1) := by decide +kernel
theorem dX4_isCastThere_29 : decode cX4_isCastThere 29 = .ok (.iinc 3 1, 3) := by decide +kernel
theorem dX4_isCastThere_32 : decode cX4_isCastThere 32 = .ok (.goto (-30), 3) := by decide +kernel
theorem dX4_isCastThere_35 : decode cX4_isCastThere 35 = .ok (.iconst 1, 1) := by decide +kernel
theorem dX4_isCastThere_36 : decode cX4_isCastThere 36 = .ok (.ireturn, 1) := by decide +kernel
theorem dX4_isAwayOn_0 : decode cX4_isAwayOn 0 = .ok (.aload_n 0, 1) := by decide +kernel
theorem dX4_isAwayOn_1 : decode cX4_isAwayOn 1 = .ok (.getfield 24, 3) := by decide +kernel
theorem dX4_isAwayOn_4 : decode cX4_isAwayOn 4 = .ok (.iload_n 1, 1) := by decide +kernel
theorem dX4_isAwayOn_5 : decode cX4_isAwayOn 5 = .ok (.iaload, 1) := by decide +kernel
theorem dX4_isAwayOn_6 : decode cX4_isAwayOn 6 = .ok (.iload_n 2, 1) := by decide +kernel
theorem dX4_isAwayOn_7 : decode cX4_isAwayOn 7 = .ok (.ishr, 1) := by decide +kernel
theorem dX4_isAwayOn_8 : decode cX4_isAwayOn 8 = .ok (.iconst 1, 1) := by decide +kernel
theorem dX4_isAwayOn_9 : decode cX4_isAwayOn 9 = .ok (.iand, 1) := by decide +kernel
theorem dX4_isAwayOn_10 : decode cX4_isAwayOn 10 = .ok (.ifCond .eq 7, 3) := by decide +kernel
theorem dX4_isAwayOn_13 : decode cX4_isAwayOn 13 = .ok (.iconst 1, 1) := by decide +kernel
theorem dX4_isAwayOn_14 : decode cX4_isAwayOn 14 = .ok (.goto 4, 3) := by decide +kernel
theorem dX4_isAwayOn_17 : decode cX4_isAwayOn 17 = .ok (.iconst 0, 1) := by decide +kernel
theorem dX4_isAwayOn_18 : decode cX4_isAwayOn 18 = .ok (.ireturn, 1) := by decide +kernel
theorem dX5_init_0 : decode cX5_init 0 = .ok (.aload_n 0, 1) := by decide +kernel
theorem dX5_init_1 : decode cX5_init 1 = .ok (.invokespecial 1, 3) := by decide +kernel
theorem dX5_init_4 : decode cX5_init 4 = .ok (.aload_n 0, 1) := by decide +kernel
theorem dX5_init_5 : decode cX5_init 5 = .ok (.iconst (-1), 1) := by decide +kernel
theorem dX5_init_6 : decode cX5_init 6 = .ok (.putfield 9, 3) := by decide +kernel
theorem dX5_init_9 : decode cX5_init 9 = .ok (.aload_n 0, 1) := by decide +kernel
theorem dX5_init_10 : decode cX5_init 10 = .ok (.bipush 10, 2) := by decide +kernel
theorem dX5_init_12 : decode cX5_init 12 = .ok (.newarray .int, 2) := by decide +kernel
theorem dX5_init_14 : decode cX5_init 14 = .ok (.putfield 13, 3) := by decide +kernel
theorem dX5_init_17 : decode cX5_init 17 = .ok (.aload_n 0, 1) := by decide +kernel
theorem dX5_init_18 : decode cX5_init 18 = .ok (.bipush 10, 2) := by decide +kernel
theorem dX5_init_20 : decode cX5_init 20 = .ok (.newarray .int, 2) := by decide +kernel
theorem dX5_init_22 : decode cX5_init 22 = .ok (.putfield 17, 3) := by decide +kernel
theorem dX5_init_25 : decode cX5_init 25 = .ok (.aload_n 0, 1) := by decide +kernel
theorem dX5_init_26 : decode cX5_init 26 = .ok (.bipush 10, 2) := by decide +kernel
theorem dX5_init_28 : decode cX5_init 28 = .ok (.newarray .int, 2) := by decide +kernel
theorem dX5_init_30 : decode cX5_init 30 = .ok (.putfield 20, 3) := by decide +kernel
theorem dX5_init_33 : decode cX5_init 33 = .ok (.aload_n 0, 1) := by decide +kernel
theorem dX5_init_34 : decode cX5_init 34 = .ok (.bipush 10, 2) := by decide +kernel
theorem dX5_init_36 : decode cX5_init 36 = .ok (.newarray .int, 2) := by decide +kernel
theorem dX5_init_38 : decode cX5_init 38 = .ok (.putfield 23, 3) := by decide +kernel
theorem dX5_init_41 : decode cX5_init 41 = .ok (.aload_n 0, 1) := by decide +kernel
theorem dX5_init_42 : decode cX5_init 42 = .ok (.bipush 50, 2) := by decide +kernel
theorem dX5_init_44 : decode cX5_init 44 = .ok (.newarray .int, 2) := by decide +kernel
theorem dX5_init_46 : decode cX5_init 46 = .ok (.putfield 26, 3) := by decide +kernel
theorem dX5_init_49 : decode cX5_init 49 = .ok (.aload_n 0, 1) := by decide +kernel
theorem dX5_init_50 : decode cX5_init 50 = .ok (.bipush 50, 2) := by decide +kernel
theorem dX5_init_52 : decode cX5_init 52 = .ok (.newarray .int, 2) := by decide +kernel
theorem dX5_init_54 : decode cX5_init 54 = .ok (.putfield 29, 3) := by decide +kernel
theorem dX5_init_57 : decode cX5_init 57 = .ok (.aload_n 0, 1) := by decide +kernel
theorem dX5_init_58 : decode cX5_init 58 = .ok (.bipush 50, 2) := by decide +kernel
theorem dX5_init_60 : decode cX5_init 60 = .ok (.newarray .int, 2) := by decide +kernel
theorem dX5_init_62 : decode cX5_init 62 = .ok (.putfield 32, 3) := by decide +kernel
theorem dX5_init_65 : decode cX5_init 65 = .ok (.aload_n 0, 1) := by decide +kernel
theorem dX5_init_66 : decode cX5_init 66 = .ok (.bipush 30, 2) := by decide +kernel
theorem dX5_init_68 : decode cX5_init 68 = .ok (.newarray .int, 2) := by decide +kernel
theorem dX5_init_70 : decode cX5_init 70 = .ok (.putfield 35, 3) := by decide +kernel
theorem dX5_init_73 : decode cX5_init 73 = .ok (.aload_n 0, 1) := by decide +kernel
theorem dX5_init_74 : decode cX5_init 74 = .ok (.bipush 20, 2) := by decide +kernel
theorem dX5_init_76 : decode cX5_init 76 = .ok (.newarray .int, 2) := by decide +kernel
theorem dX5_init_78 : decode cX5_init 78 = .ok (.putfield 38, 3) := by decide +kernel
theorem dX5_init_81 : decode cX5_init 81 = .ok (.aload_n 0, 1) := by decide +kernel
theorem dX5_init_82 : decode cX5_init 82 = .ok (.bipush 20, 2) := by decide +kernel
theorem dX5_init_84 : decode cX5_init 84 = .ok (.newarray .int, 2) := by decide +kernel
theorem dX5_init_86 : decode cX5_init 86 = .ok (.putfield 41, 3) := by decide +kernel
theorem dX5_init_89 : decode cX5_init 89 = .ok (.aload_n 0, 1) := by decide +kernel
theorem dX5_init_90 : decode cX5_init 90 = .ok (.bipush 20, 2) := by decide +kernel
theorem dX5_init_92 : decode cX5_init 92 = .ok (.newarray .int, 2) := by decide +kernel
theorem dX5_init_94 : decode cX5_init 94 = .ok (.putfield 44, 3) := by decide +kernel
theorem dX5_init_97 : decode cX5_init 97 = .ok (.aload_n 0, 1) := by decide +kernel
theorem dX5_init_98 : decode cX5_init 98 = .ok (.bipush 20, 2) := by decide +kernel
theorem dX5_init_100 : decode cX5_init 100 = .ok (.newarray .int, 2) := by decide +kernel
theorem dX5_init_102 : decode cX5_init 102 = .ok (.putfield 47, 3) := by decide +kernel
theorem dX5_init_105 : decode cX5_init 105 = .ok (.aload_n 0, 1) := by decide +kernel
theorem dX5_init_106 : decode cX5_init 106 = .ok (.bipush 20, 2) := by decide +kernel
theorem dX5_init_108 : decode cX5_init 108 = .ok (.newarray .boolean, 2) := by decide +kernel
theorem dX5_init_110 : decode cX5_init 110 = .ok (.putfield 50, 3) := by decide +kernel
theorem dX5_init_113 : decode cX5_init 113 = .ok (.aload_n 0, 1) := by decide +kernel
theorem dX5_init_114 : decode cX5_init 114 = .ok (.sipush 150, 3) := by decide +kernel
theorem dX5_init_117 : decode cX5_init 117 = .ok (.newarray .boolean, 2) := by decide +kernel
theorem dX5_init_119 : decode cX5_init 119 = .ok (.putfield 54, 3) := by decide +kernel
theorem dX5_init_122 : decode cX5_init 122 = .ok (.aload_n 0, 1) := by decide +kernel
theorem dX5_init_123 : decode cX5_init 123 = .ok (.iconst 5, 1) := by decide +kernel
theorem dX5_init_124 : decode cX5_init 124 = .ok (.newarray .int, 2) := by decide +kernel
theorem dX5_init_126 : decode cX5_init 126 = .ok (.putfield 57, 3) := by decide +kernel
theorem dX5_init_129 : decode cX5_init 129 = .ok (.aload_n 0, 1) := by decide +kernel
theorem dX5_init_130 : decode cX5_init 130 = .ok (.bipush 20, 2) := by decide +kernel
theorem dX5_init_132 : decode cX5_init 132 = .ok (.newarray .int, 2) := by decide +kernel
theorem dX5_init_134 : decode cX5_init 134 = .ok (.putfield 60, 3) := by decide +kernel
theorem dX5_init_137 : decode cX5_init 137 = .ok (.aload_n 0, 1) := by decide +kernel
theorem dX5_init_138 : decode cX5_init 138 = .ok (.iconst 5, 1) := by decide +kernel
theorem dX5_init_139 : decode cX5_init 139 = .ok (.newarray .int, 2) := by decide +kernel
theorem dX5_init_141 : decode cX5_init 141 = .ok (.putfield 63, 3) := by decide +kernel
theorem dX5_init_144 : decode cX5_init 144 = .ok (.aload_n 0, 1) := by decide +kernel
theorem dX5_init_145 : decode cX5_init 145 = .ok (.bipush 20, 2) := by decide +kernel
theorem dX5_init_147 : decode cX5_init 147 = .ok (.newarray .int, 2) := by decide +kernel
theorem dX5_init_149 : decode cX5_init 149 = .ok (.putfield 66, 3) := by decide +kernel
theorem dX5_init_152 : decode cX5_init 152 = .ok (.aload_n 0, 1) := by decide +kernel
theorem dX5_init_153 : decode cX5_init 153 = .ok (.bipush 10, 2) := by decide +kernel
theorem dX5_init_155 : decode cX5_init 155 = .ok (.newarray .int, 2) := by decide +kernel
theorem dX5_init_157 : decode cX5_init 157 = .ok (.putfield 69, 3) := by decide +kernel
theorem dX5_init_160 : decode cX5_init 160 = .ok (.aload_n 0, 1) := by decide +kernel
theorem dX5_init_161 : decode cX5_init 161 = .ok (.bipush 10, 2) := by decide +kernel
theorem dX5_init_163 : decode cX5_init 163 = .ok (.newarray .int, 2) := by decide +kernel
theorem dX5_init_165 : decode cX5_init 165 = .ok (.putfield 72, 3) := by decide +kernel
theorem dX5_init_168 : decode cX5_init 168 = .ok (.iconst 0, 1) := by decide +kernel
theorem dX5_init_169 : decode cX5_init 169 = .ok (.istore_n 1, 1) := by decide +kernel
theorem dX5_init_170 : decode cX5_init 170 = .ok (.iload_n 1, 1) := by decide +kernel
theorem dX5_init_171 : decode cX5_init 171 = .ok (.bipush 30, 2) := by decide +kernel
theorem dX5_init_173 : decode cX5_init 173 = .ok (.if_icmp .ge 16, 3) := by decide +kernel
theorem dX5_init_176 : decode cX5_init 176 = .ok (.aload_n 0, 1) := by decide +kernel
theorem dX5_init_177 : decode cX5_init 177 = .ok (.getfield 35, 3) := by decide +kernel
theorem dX5_init_180 : decode cX5_init 180 = .ok (.iload_n 1, 1) := by decide +kernel
theorem dX5_init_181 : decode cX5_init 181 = .ok (.iconst (-1), 1) := by decide +kernel
theorem dX5_init_182 : decode cX5_init 182 = .ok (.iastore, 1) := by decide +kernel
theorem dX5_init_183 : decode cX5_init 183 = .ok (.iinc 1 1, 3) := by decide +kernel
theorem dX5_init_186 : decode cX5_init 186 = .ok (.goto (-16), 3) := by decide +kernel
theorem dX5_init_189 : decode cX5_init 189 = .ok (.return_, 1) := by decide +kernel
theorem dX5_thrown_0 : decode cX5_thrown 0 = .ok (.aload_n 0, 1) := by decide +kernel
theorem dX5_thrown_1 : decode cX5_thrown 1 = .ok (.getfield 75, 3) := by decide +kernel
theorem dX5_thrown_4 : decode cX5_thrown 4 = .ok (.ireturn, 1) := by decide +kernel
theorem dX5_in_0 : decode cX5_in 0 = .ok (.iload_n 0, 1) := by decide +kernel
theorem dX5_in_1 : decode cX5_in 1 = .ok (.iload_n 1, 1) := by decide +kernel
theorem dX5_in_2 : decode cX5_in 2 = .ok (.if_icmp .lt 12, 3) := by decide +kernel
theorem dX5_in_5 : decode cX5_in 5 = .ok (.iload_n 0, 1) := by decide +kernel
theorem dX5_in_6 : decode cX5_in 6 = .ok (.iload_n 2, 1) := by decide +kernel
theorem dX5_in_7 : decode cX5_in 7 = .ok (.if_icmp .gt 7, 3) := by decide +kernel
theorem dX5_in_10 : decode cX5_in 10 = .ok (.iconst 1, 1) := by decide +kernel
theorem dX5_in_11 : decode cX5_in 11 = .ok (.goto 4, 3) := by decide +kernel
theorem dX5_in_14 : decode cX5_in 14 = .ok (.iconst 0, 1) := by decide +kernel
theorem dX5_in_15 : decode cX5_in 15 = .ok (.ireturn, 1) := by decide +kernel
theorem dX5_goes_0 : decode cX5_goes 0 = .ok (.aload_n 0, 1) := by decide +kernel
theorem dX5_goes_1 : decode cX5_goes 1 = .ok (.iload_n 1, 1) := by decide +kernel
theorem dX5_goes_2 : decode cX5_goes 2 = .ok (.ifCond .ne 7, 3) := by decide +kernel
theorem dX5_goes_5 : decode cX5_goes 5 = .ok (.iconst 1, 1) := by decide +kernel
theorem dX5_goes_6 : decode cX5_goes 6 = .ok (.goto 20, 3) := by decide +kernel
theorem dX5_goes_9 : decode cX5_goes 9 = .ok (.iload_n 2, 1) := by decide +kernel
theorem dX5_goes_10 : decode cX5_goes 10 = .ok (.ifCond .ne 7, 3) := by decide +kernel
theorem dX5_goes_13 : decode cX5_goes 13 = .ok (.iconst 2, 1) := by decide +kernel
theorem dX5_goes_14 : decode cX5_goes 14 = .ok (.goto 12, 3) := by decide +kernel
theorem dX5_goes_17 : decode cX5_goes 17 = .ok (.iload_n 3, 1) := by decide +kernel
theorem dX5_goes_18 : decode cX5_goes 18 = .ok (.ifCond .ne 7, 3) := by decide +kernel
theorem dX5_goes_21 : decode cX5_goes 21 = .ok (.iconst 3, 1) := by decide +kernel
theorem dX5_goes_22 : decode cX5_goes 22 = .ok (.goto 4, 3) := by decide +kernel
theorem dX5_goes_25 : decode cX5_goes 25 = .ok (.iconst 0, 1) := by decide +kernel
theorem dX5_goes_26 : decode cX5_goes 26 = .ok (.putfield 75, 3) := by decide +kernel
theorem dX5_goes_29 : decode cX5_goes 29 = .ok (.aload_n 0, 1) := by decide +kernel
theorem dX5_goes_30 : decode cX5_goes 30 = .ok (.getfield 75, 3) := by decide +kernel
theorem dX5_goes_33 : decode cX5_goes 33 = .ok (.ifCond .ne 7, 3) := by decide +kernel
theorem dX5_goes_36 : decode cX5_goes 36 = .ok (.iconst 1, 1) := by decide +kernel
theorem dX5_goes_37 : decode cX5_goes 37 = .ok (.goto 4, 3) := by decide +kernel
theorem dX5_goes_40 : decode cX5_goes 40 = .ok (.iconst 0, 1) := by decide +kernel
theorem dX5_goes_41 : decode cX5_goes 41 = .ok (.ireturn, 1) := by decide +kernel
theorem dX5_told_0 : decode cX5_told 0 = .ok (.aload_n 0, 1) := by decide +kernel
theorem dX5_told_1 : decode cX5_told 1 = .ok (.iconst 0, 1) := by decide +kernel
theorem dX5_told_2 : decode cX5_told 2 = .ok (.putfield 75, 3) := by decide +kernel
theorem dX5_told_5 : decode cX5_told 5 = .ok (.iload_n 1, 1) := by decide +kernel
theorem dX5_told_6 : decode cX5_told 6 = .ok (.ireturn, 1) := by decide +kernel
theorem dX5_isScene_0 : decode cX5_isScene 0 = .ok (.iload_n 1, 1) := by decide +kernel
theorem dX5_isScene_1 : decode cX5_isScene 1 = .ok (.iconst 0, 1) := by decide +kernel
theorem dX5_isScene_2 : decode cX5_isScene 2 = .ok (.aload_n 0, 1) := by decide +kernel
theorem dX5_isScene_3 : decode cX5_isScene 3 = .ok (.getfield 78, 3) := by decide +kernel
theorem dX5_isScene_6 : decode cX5_isScene 6 = .ok (.iconst 1, 1) := by decide +kernel
theorem dX5_isScene_7 : decode cX5_isScene 7 = .ok (.isub, 1) := by decide +kernel
theorem dX5_isScene_8 : decode cX5_isScene 8 = .ok (.invokestatic 81, 3) := by decide +kernel
theorem dX5_isScene_11 : decode cX5_isScene 11 = .ok (.ireturn, 1) := by decide +kernel
theorem dX5_isActor_0 : decode cX5_isActor 0 = .ok (.iload_n 0, 1) := by decide +kernel
theorem dX5_isActor_1 : decode cX5_isActor 1 = .ok (.iconst 0, 1) := by decide +kernel
theorem dX5_isActor_2 : decode cX5_isActor 2 = .ok (.iconst 4, 1) := by decide +kernel
theorem dX5_isActor_3 : decode cX5_isActor 3 = .ok (.invokestatic 81, 3) := by decide +kernel
theorem dX5_isActor_6 : decode cX5_isActor 6 = .ok (.ireturn, 1) := by decide +kernel
theorem dX5_isProp_0 : decode cX5_isProp 0 = .ok (.iload_n 0, 1) := by decide +kernel
theorem dX5_isProp_1 : decode cX5_isProp 1 = .ok (.iconst 0, 1) := by decide +kernel
theorem dX5_isProp_2 : decode cX5_isProp 2 = .ok (.iconst 4, 1) := by decide +kernel
theorem dX5_isProp_3 : decode cX5_isProp 3 = .ok (.invokestatic 81, 3) := by decide +kernel
theorem dX5_isProp_6 : decode cX5_isProp 6 = .ok (.ireturn, 1) := by decide +kernel
theorem dX5_isDay_0 : decode cX5_isDay 0 = .ok (.iload_n 0, 1) := by decide +kernel
theorem dX5_isDay_1 : decode cX5_isDay 1 = .ok (.iconst 0, 1) := by decide +kernel
theorem dX5_isDay_2 : decode cX5_isDay 2 = .ok (.bipush 29, 2) := by decide +kernel
theorem dX5_isDay_4 : decode cX5_isDay 4 = .ok (.invokestatic 81, 3) := by decide +kernel
theorem dX5_isDay_7 : decode cX5_isDay 7 = .ok (.ireturn, 1) := by decide +kernel
theorem dX5_isAhead_0 : decode cX5_isAhead 0 = .ok (.iload_n 1, 1) := by decide +kernel
theorem dX5_isAhead_1 : decode cX5_isAhead 1 = .ok (.aload_n 0, 1) := by decide +kernel
theorem dX5_isAhead_2 : decode cX5_isAhead 2 = .ok (.getfield 85, 3) := by decide +kernel
theorem dX5_isAhead_5 : decode cX5_isAhead 5 = .ok (.bipush 29, 2) := by decide +kernel
theorem dX5_isAhead_7 : decode cX5_isAhead 7 = .ok (.invokestatic 81, 3) := by decide +kernel
theorem dX5_isAhead_10 : decode cX5_isAhead 10 = .ok (.ireturn, 1) := by decide +kernel
theorem dX5_lays_0 : decode cX5_lays 0 = .ok (.iconst 0, 1) := by decide +kernel
theorem dX5_lays_1 : decode cX5_lays 1 = .ok (.istore_n 1, 1) := by decide +kernel
theorem dX5_lays_2 : decode cX5_lays 2 = .ok (.iload_n 1, 1) := by decide +kernel
theorem dX5_lays_3 : decode cX5_lays 3 = .ok (.iconst 5, 1) := by decide +kernel
theorem dX5_lays_4 : decode cX5_lays 4 = .ok (.if_icmp .ge 21, 3) := by decide +kernel
theorem dX5_lays_7 : decode cX5_lays 7 = .ok (.aload_n 0, 1) := by decide +kernel
theorem dX5_lays_8 : decode cX5_lays 8 = .ok (.getfield 63, 3) := by decide +kernel
theorem dX5_lays_11 : decode cX5_lays 11 = .ok (.iload_n 1, 1) := by decide +kernel
theorem dX5_lays_12 : decode cX5_lays 12 = .ok (.aload_n 0, 1) := by decide +kernel
theorem dX5_lays_13 : decode cX5_lays 13 = .ok (.getfield 57, 3) := by decide +kernel
theorem dX5_lays_16 : decode cX5_lays 16 = .ok (.iload_n 1, 1) := by decide +kernel
theorem dX5_lays_17 : decode cX5_lays 17 = .ok (.iaload, 1) := by decide +kernel
theorem dX5_lays_18 : decode cX5_lays 18 = .ok (.iastore, 1) := by decide +kernel
theorem dX5_lays_19 : decode cX5_lays 19 = .ok (.iinc 1 1, 3) := by decide +kernel
theorem dX5_lays_22 : decode cX5_lays 22 = .ok (.goto (-20), 3) := by decide +kernel
theorem dX5_lays_25 : decode cX5_lays 25 = .ok (.iconst 0, 1) := by decide +kernel
theorem dX5_lays_26 : decode cX5_lays 26 = .ok (.istore_n 1, 1) := by decide +kernel
theorem dX5_lays_27 : decode cX5_lays 27 = .ok (.iload_n 1, 1) := by decide +kernel
theorem dX5_lays_28 : decode cX5_lays 28 = .ok (.bipush 20, 2) := by decide +kernel
theorem dX5_lays_30 : decode cX5_lays 30 = .ok (.if_icmp .ge 21, 3) := by decide +kernel
theorem dX5_lays_33 : decode cX5_lays 33 = .ok (.aload_n 0, 1) := by decide +kernel
theorem dX5_lays_34 : decode cX5_lays 34 = .ok (.getfield 66, 3) := by decide +kernel
theorem dX5_lays_37 : decode cX5_lays 37 = .ok (.iload_n 1, 1) := by decide +kernel
theorem dX5_lays_38 : decode cX5_lays 38 = .ok (.aload_n 0, 1) := by decide +kernel
theorem dX5_lays_39 : decode cX5_lays 39 = .ok (.getfield 60, 3) := by decide +kernel
theorem dX5_lays_42 : decode cX5_lays 42 = .ok (.iload_n 1, 1) := by decide +kernel
theorem dX5_lays_43 : decode cX5_lays 43 = .ok (.iaload, 1) := by decide +kernel
theorem dX5_lays_44 : decode cX5_lays 44 = .ok (.iastore, 1) := by decide +kernel
theorem dX5_lays_45 : decode cX5_lays 45 = .ok (.iinc 1 1, 3) := by decide +kernel
theorem dX5_lays_48 : decode cX5_lays 48 = .ok (.goto (-21), 3) := by decide +kernel
theorem dX5_lays_51 : decode cX5_lays 51 = .ok (.return_, 1) := by decide +kernel
theorem dX5_keeps_0 : decode cX5_keeps 0 = .ok (.iconst 0, 1) := by decide +kernel
theorem dX5_keeps_1 : decode cX5_keeps 1 = .ok (.istore_n 1, 1) := by decide +kernel
theorem dX5_keeps_2 : decode cX5_keeps 2 = .ok (.iload_n 1, 1) := by decide +kernel
theorem dX5_keeps_3 : decode cX5_keeps 3 = .ok (.iconst 5, 1) := by decide +kernel
theorem dX5_keeps_4 : decode cX5_keeps 4 = .ok (.if_icmp .ge 21, 3) := by decide +kernel
theorem dX5_keeps_7 : decode cX5_keeps 7 = .ok (.aload_n 0, 1) := by decide +kernel
theorem dX5_keeps_8 : decode cX5_keeps 8 = .ok (.getfield 57, 3) := by decide +kernel
theorem dX5_keeps_11 : decode cX5_keeps 11 = .ok (.iload_n 1, 1) := by decide +kernel
theorem dX5_keeps_12 : decode cX5_keeps 12 = .ok (.aload_n 0, 1) := by decide +kernel
theorem dX5_keeps_13 : decode cX5_keeps 13 = .ok (.getfield 63, 3) := by decide +kernel
theorem dX5_keeps_16 : decode cX5_keeps 16 = .ok (.iload_n 1, 1) := by decide +kernel
theorem dX5_keeps_17 : decode cX5_keeps 17 = .ok (.iaload, 1) := by decide +kernel
theorem dX5_keeps_18 : decode cX5_keeps 18 = .ok (.iastore, 1) := by decide +kernel
theorem dX5_keeps_19 : decode cX5_keeps 19 = .ok (.iinc 1 1, 3) := by decide +kernel
theorem dX5_keeps_22 : decode cX5_keeps 22 = .ok (.goto (-20), 3) := by decide +kernel
theorem dX5_keeps_25 : decode cX5_keeps 25 = .ok (.iconst 0, 1) := by decide +kernel
theorem dX5_keeps_26 : decode cX5_keeps 26 = .ok (.istore_n 1, 1) := by decide +kernel
theorem dX5_keeps_27 : decode cX5_keeps 27 = .ok (.iload_n 1, 1) := by decide +kernel
theorem dX5_keeps_28 : decode cX5_keeps 28 = .ok (.bipush 20, 2) := by decide +kernel
theorem dX5_keeps_30 : decode cX5_keeps 30 = .ok (.if_icmp .ge 21, 3) := by decide +kernel
theorem dX5_keeps_33 : decode cX5_keeps 33 = .ok (.aload_n 0, 1) := by decide +kernel
theorem dX5_keeps_34 : decode cX5_keeps 34 = .ok (.getfield 60, 3) := by decide +kernel
theorem dX5_keeps_37 : decode cX5_keeps 37 = .ok (.iload_n 1, 1) := by decide +kernel
theorem dX5_keeps_38 : decode cX5_keeps 38 = .ok (.aload_n 0, 1) := by decide +kernel
theorem dX5_keeps_39 : decode cX5_keeps 39 = .ok (.getfield 66, 3) := by decide +kernel
theorem dX5_keeps_42 : decode cX5_keeps 42 = .ok (.iload_n 1, 1) := by decide +kernel
theorem dX5_keeps_43 : decode cX5_keeps 43 = .ok (.iaload, 1) := by decide +kernel
theorem dX5_keeps_44 : decode cX5_keeps 44 = .ok (.iastore, 1) := by decide +kernel
theorem dX5_keeps_45 : decode cX5_keeps 45 = .ok (.iinc 1 1, 3) := by decide +kernel
theorem dX5_keeps_48 : decode cX5_keeps 48 = .ok (.goto (-21), 3) := by decide +kernel
theorem dX5_keeps_51 : decode cX5_keeps 51 = .ok (.return_, 1) := by decide +kernel
theorem dX5_grows_0 : decode cX5_grows 0 = .ok (.iconst 0, 1) := by decide +kernel
theorem dX5_grows_1 : decode cX5_grows 1 = .ok (.istore_n 1, 1) := by decide +kernel
theorem dX5_grows_2 : decode cX5_grows 2 = .ok (.iload_n 1, 1) := by decide +kernel
theorem dX5_grows_3 : decode cX5_grows 3 = .ok (.iconst 5, 1) := by decide +kernel
theorem dX5_grows_4 : decode cX5_grows 4 = .ok (.if_icmp .ge 34, 3) := by decide +kernel
theorem dX5_grows_7 : decode cX5_grows 7 = .ok (.aload_n 0, 1) := by decide +kernel
theorem dX5_grows_8 : decode cX5_grows 8 = .ok (.getfield 63, 3) := by decide +kernel
theorem dX5_grows_11 : decode cX5_grows 11 = .ok (.iload_n 1, 1) := by decide +kernel
theorem dX5_grows_12 : decode cX5_grows 12 = .ok (.dup2, 1) := by decide +kernel
theorem dX5_grows_13 : decode cX5_grows 13 = .ok (.iaload, 1) := by decide +kernel
theorem dX5_grows_14 : decode cX5_grows 14 = .ok (.aload_n 0, 1) := by decide +kernel
theorem dX5_grows_15 : decode cX5_grows 15 = .ok (.getfield 63, 3) := by decide +kernel
theorem dX5_grows_18 : decode cX5_grows 18 = .ok (.iload_n 1, 1) := by decide +kernel
theorem dX5_grows_19 : decode cX5_grows 19 = .ok (.iaload, 1) := by decide +kernel
theorem dX5_grows_20 : decode cX5_grows 20 = .ok (.bipush 20, 2) := by decide +kernel
theorem dX5_grows_22 : decode cX5_grows 22 = .ok (.if_icmp .ge 7, 3) := by decide +kernel
theorem dX5_grows_25 : decode cX5_grows 25 = .ok (.iconst 1, 1) := by decide +kernel
theorem dX5_grows_26 : decode cX5_grows 26 = .ok (.goto 4, 3) := by decide +kernel
theorem dX5_grows_29 : decode cX5_grows 29 = .ok (.iconst 0, 1) := by decide +kernel
theorem dX5_grows_30 : decode cX5_grows 30 = .ok (.iadd, 1) := by decide +kernel
theorem dX5_grows_31 : decode cX5_grows 31 = .ok (.iastore, 1) := by decide +kernel
theorem dX5_grows_32 : decode cX5_grows 32 = .ok (.iinc 1 1, 3) := by decide +kernel
theorem dX5_grows_35 : decode cX5_grows 35 = .ok (.goto (-33), 3) := by decide +kernel
theorem dX5_grows_38 : decode cX5_grows 38 = .ok (.return_, 1) := by decide +kernel
theorem dX5_servesActor_0 : decode cX5_servesActor 0 = .ok (.aload_n 0, 1) := by decide +kernel
theorem dX5_servesActor_1 : decode cX5_servesActor 1 = .ok (.getfield 26, 3) := by decide +kernel
theorem dX5_servesActor_4 : decode cX5_servesActor 4 = .ok (.iconst 5, 1) := by decide +kernel
theorem dX5_servesActor_5 : decode cX5_servesActor 5 = .ok (.iload_n 1, 1) := by decide +kernel
theorem dX5_servesActor_6 : decode cX5_servesActor 6 = .ok (.imul, 1) := by decide +kernel
theorem dX5_servesActor_7 : decode cX5_servesActor 7 = .ok (.iload_n 2, 1) := by decide +kernel
theorem dX5_servesActor_8 : decode cX5_servesActor 8 = .ok (.iadd, 1) := by decide +kernel
theorem dX5_servesActor_9 : decode cX5_servesActor 9 = .ok (.iaload, 1) := by decide +kernel
theorem dX5_servesActor_10 : decode cX5_servesActor 10 = .ok (.istore_n 3, 1) := by decide +kernel
theorem dX5_servesActor_11 : decode cX5_servesActor 11 = .ok (.aload_n 0, 1) := by decide +kernel
theorem dX5_servesActor_12 : decode cX5_servesActor 12 = .ok (.getfield 63, 3) := by decide +kernel
theorem dX5_servesActor_15 : decode cX5_servesActor 15 = .ok (.iload_n 2, 1) := by decide +kernel
theorem dX5_servesActor_16 : decode cX5_servesActor 16 = .ok (.iload_n 3, 1) := by decide +kernel
theorem dX5_servesActor_17 : decode cX5_servesActor 17 = .ok (.ifCond .ne 7, 3) := by decide +kernel
theorem dX5_servesActor_20 : decode cX5_servesActor 20 = .ok (.iconst 0, 1) := by decide +kernel
theorem dX5_servesActor_21 : decode cX5_servesActor 21 = .ok (.goto 9, 3) := by decide +kernel
theorem dX5_servesActor_24 : decode cX5_servesActor 24 = .ok (.aload_n 0, 1) := by decide +kernel
theorem dX5_servesActor_25 : decode cX5_servesActor 25 = .ok (.getfield 63, 3) := by decide +kernel
theorem dX5_servesActor_28 : decode cX5_servesActor 28 = .ok (.iload_n 2, 1) := by decide +kernel
theorem dX5_servesActor_29 : decode cX5_servesActor 29 = .ok (.iaload, 1) := by decide +kernel
theorem dX5_servesActor_30 : decode cX5_servesActor 30 = .ok (.iastore, 1) := by decide +kernel
theorem dX5_servesActor_31 : decode cX5_servesActor 31 = .ok (.iload_n 3, 1) := by decide +kernel
theorem dX5_servesActor_32 : decode cX5_servesActor 32 = .ok (.aload_n 0, 1) := by decide +kernel
theorem dX5_servesActor_33 : decode cX5_servesActor 33 = .ok (.getfield 63, 3) := by decide +kernel
theorem dX5_servesActor_36 : decode cX5_servesActor 36 = .ok (.iload_n 2, 1) := by decide +kernel
theorem dX5_servesActor_37 : decode cX5_servesActor 37 = .ok (.iaload, 1) := by decide +kernel
theorem dX5_servesActor_38 : decode cX5_servesActor 38 = .ok (.if_icmp .le 7, 3) := by decide +kernel
theorem dX5_servesActor_41 : decode cX5_servesActor 41 = .ok (.iconst 3, 1) := by decide +kernel
theorem dX5_servesActor_42 : decode cX5_servesActor 42 = .ok (.goto 4, 3) := by decide +kernel
theorem dX5_servesActor_45 : decode cX5_servesActor 45 = .ok (.iconst 0, 1) := by decide +kernel
theorem dX5_servesActor_46 : decode cX5_servesActor 46 = .ok (.ireturn, 1) := by decide +kernel
theorem dX5_servesProp_0 : decode cX5_servesProp 0 = .ok (.aload_n 0, 1) := by decide +kernel
theorem dX5_servesProp_1 : decode cX5_servesProp 1 = .ok (.getfield 29, 3) := by decide +kernel
theorem dX5_servesProp_4 : decode cX5_servesProp 4 = .ok (.iconst 5, 1) := by decide +kernel
theorem dX5_servesProp_5 : decode cX5_servesProp 5 = .ok (.iload_n 1, 1) := by decide +kernel
theorem dX5_servesProp_6 : decode cX5_servesProp 6 = .ok (.imul, 1) := by decide +kernel
theorem dX5_servesProp_7 : decode cX5_servesProp 7 = .ok (.iload_n 2, 1) := by decide +kernel
theorem dX5_servesProp_8 : decode cX5_servesProp 8 = .ok (.iadd, 1) := by decide +kernel
theorem dX5_servesProp_9 : decode cX5_servesProp 9 = .ok (.iaload, 1) := by decide +kernel
theorem dX5_servesProp_10 : decode cX5_servesProp 10 = .ok (.istore_n 3, 1) := by decide +kernel
theorem dX5_servesProp_11 : decode cX5_servesProp 11 = .ok (.iload_n 3, 1) := by decide +kernel
theorem dX5_servesProp_12 : decode cX5_servesProp 12 = .ok (.iconst (-1), 1) := by decide +kernel
theorem dX5_servesProp_13 : decode cX5_servesProp 13 = .ok (.if_icmp .ne 5, 3) := by decide +kernel
theorem dX5_servesProp_16 : decode cX5_servesProp 16 = .ok (.iconst 0, 1) := by decide +kernel
theorem dX5_servesProp_17 : decode cX5_servesProp 17 = .ok (.ireturn, 1) := by decide +kernel
theorem dX5_servesProp_18 : decode cX5_servesProp 18 = .ok (.iload_n 3, 1) := by decide +kernel
theorem dX5_servesProp_19 : decode cX5_servesProp 19 = .ok (.istore 4, 2) := by decide +kernel
theorem dX5_servesProp_21 : decode cX5_servesProp 21 = .ok (.iload 4, 2) := by decide +kernel
theorem dX5_servesProp_23 : decode cX5_servesProp 23 = .ok (.ifCond .lt 23, 3) := by decide +kernel
theorem dX5_servesProp_26 : decode cX5_servesProp 26 = .ok (.aload_n 0, 1) := by decide +kernel
theorem dX5_servesProp_27 : decode cX5_servesProp 27 = .ok (.getfield 66, 3) := by decide +kernel
theorem dX5_servesProp_30 : decode cX5_servesProp 30 = .ok (.iconst 4, 1) := by decide +kernel
theorem dX5_servesProp_31 : decode cX5_servesProp 31 = .ok (.iload_n 2, 1) := by decide +kernel
theorem dX5_servesProp_32 : decode cX5_servesProp 32 = .ok (.imul, 1) := by decide +kernel
theorem dX5_servesProp_33 : decode cX5_servesProp 33 = .ok (.iload 4, 2) := by decide +kernel
theorem dX5_servesProp_35 : decode cX5_servesProp 35 = .ok (.iadd, 1) := by decide +kernel
theorem dX5_servesProp_36 : decode cX5_servesProp 36 = .ok (.iaload, 1) := by decide +kernel
theorem dX5_servesProp_37 : decode cX5_servesProp 37 = .ok (.ifCond .ne 9, 3) := by decide +kernel
theorem dX5_servesProp_40 : decode cX5_servesProp 40 = .ok (.iinc 4 (-1), 3) := by decide +kernel
theorem dX5_servesProp_43 : decode cX5_servesProp 43 = .ok (.goto (-22), 3) := by decide +kernel
theorem dX5_servesProp_46 : decode cX5_servesProp 46 = .ok (.iload 4, 2) := by decide +kernel
theorem dX5_servesProp_48 : decode cX5_servesProp 48 = .ok (.ifCond .ge 9, 3) := by decide +kernel
theorem dX5_servesProp_51 : decode cX5_servesProp 51 = .ok (.iconst 5, 1) := by decide +kernel
theorem dX5_servesProp_52 : decode cX5_servesProp 52 = .ok (.iload_n 3, 1) := by decide +kernel
theorem dX5_servesProp_53 : decode cX5_servesProp 53 = .ok (.iadd, 1) := by decide +kernel
theorem dX5_servesProp_54 : decode cX5_servesProp 54 = .ok (.goto 7, 3) := by decide +kernel
theorem dX5_servesProp_57 : decode cX5_servesProp 57 = .ok (.iload_n 3, 1) := by decide +kernel
theorem dX5_servesProp_58 : decode cX5_servesProp 58 = .ok (.iload 4, 2) := by decide +kernel
theorem dX5_servesProp_60 : decode cX5_servesProp 60 = .ok (.isub, 1) := by decide +kernel
theorem dX5_servesProp_61 : decode cX5_servesProp 61 = .ok (.istore 5, 2) := by decide +kernel
theorem dX5_servesProp_63 : decode cX5_servesProp 63 = .ok (.iload 4, 2) := by decide +kernel
theorem dX5_servesProp_65 : decode cX5_servesProp 65 = .ok (.ifCond .lt 18, 3) := by decide +kernel
theorem dX5_servesProp_68 : decode cX5_servesProp 68 = .ok (.aload_n 0, 1) := by decide +kernel
theorem dX5_servesProp_69 : decode cX5_servesProp 69 = .ok (.getfield 66, 3) := by decide +kernel
theorem dX5_servesProp_72 : decode cX5_servesProp 72 = .ok (.iconst 4, 1) := by decide +kernel
theorem dX5_servesProp_73 : decode cX5_servesProp 73 = .ok (.iload_n 2, 1) := by decide +kernel
theorem dX5_servesProp_74 : decode cX5_servesProp 74 = .ok (.imul, 1) := by decide +kernel
theorem dX5_servesProp_75 : decode cX5_servesProp 75 = .ok (.iload 4, 2) := by decide +kernel
theorem dX5_servesProp_77 : decode cX5_servesProp 77 = .ok (.iadd, 1) := by decide +kernel
theorem dX5_servesProp_78 : decode cX5_servesProp 78 = .ok (.dup2, 1) := by decide +kernel
theorem dX5_servesProp_79 : decode cX5_servesProp 79 = .ok (.iaload, 1) := by decide +kernel
theorem dX5_servesProp_80 : decode cX5_servesProp 80 = .ok (.iconst 1, 1) := by decide +kernel
theorem dX5_servesProp_81 : decode cX5_servesProp 81 = .ok (.isub, 1) := by decide +kernel
theorem dX5_servesProp_82 : decode cX5_servesProp 82 = .ok (.iastore, 1) := by decide +kernel
theorem dX5_servesProp_83 : decode cX5_servesProp 83 = .ok (.aload_n 0, 1) := by decide +kernel
theorem dX5_servesProp_84 : decode cX5_servesProp 84 = .ok (.getfield 66, 3) := by decide +kernel
theorem dX5_servesProp_87 : decode cX5_servesProp 87 = .ok (.iconst 4, 1) := by decide +kernel
theorem dX5_servesProp_88 : decode cX5_servesProp 88 = .ok (.iload_n 2, 1) := by decide +kernel
theorem dX5_servesProp_89 : decode cX5_servesProp 89 = .ok (.imul, 1) := by decide +kernel
theorem dX5_servesProp_90 : decode cX5_servesProp 90 = .ok (.aload_n 0, 1) := by decide +kernel
theorem dX5_servesProp_91 : decode cX5_servesProp 91 = .ok (.getfield 32, 3) := by decide +kernel
theorem dX5_servesProp_94 : decode cX5_servesProp 94 = .ok (.iconst 5, 1) := by decide +kernel
theorem dX5_servesProp_95 : decode cX5_servesProp 95 = .ok (.iload_n 1, 1) := by decide +kernel
theorem dX5_servesProp_96 : decode cX5_servesProp 96 = .ok (.imul, 1) := by decide +kernel
theorem dX5_servesProp_97 : decode cX5_servesProp 97 = .ok (.iload_n 2, 1) := by decide +kernel
theorem dX5_servesProp_98 : decode cX5_servesProp 98 = .ok (.iadd, 1) := by decide +kernel
theorem dX5_servesProp_99 : decode cX5_servesProp 99 = .ok (.iaload, 1) := by decide +kernel
theorem dX5_servesProp_100 : decode cX5_servesProp 100 = .ok (.iadd, 1) := by decide +kernel
theorem dX5_servesProp_101 : decode cX5_servesProp 101 = .ok (.dup2, 1) := by decide +kernel
theorem dX5_servesProp_102 : decode cX5_servesProp 102 = .ok (.iaload, 1) := by decide +kernel
theorem dX5_servesProp_103 : decode cX5_servesProp 103 = .ok (.iconst 1, 1) := by decide +kernel
theorem dX5_servesProp_104 : decode cX5_servesProp 104 = .ok (.iadd, 1) := by decide +kernel
theorem dX5_servesProp_105 : decode cX5_servesProp 105 = .ok (.iastore, 1) := by decide +kernel
theorem dX5_servesProp_106 : decode cX5_servesProp 106 = .ok (.iload 5, 2) := by decide +kernel
theorem dX5_servesProp_108 : decode cX5_servesProp 108 = .ok (.ireturn, 1) := by decide +kernel
theorem dX5_serves_0 : decode cX5_serves 0 = .ok (.iload_n 2, 1) := by decide +kernel
theorem dX5_serves_1 : decode cX5_serves 1 = .ok (.iconst (-1), 1) := by decide +kernel
theorem dX5_serves_2 : decode cX5_serves 2 = .ok (.if_icmp .eq 17, 3) := by decide +kernel
theorem dX5_serves_5 : decode cX5_serves 5 = .ok (.iload_n 2, 1) := by decide +kernel
theorem dX5_serves_6 : decode cX5_serves 6 = .ok (.aload_n 0, 1) := by decide +kernel
theorem dX5_serves_7 : decode cX5_serves 7 = .ok (.getfield 13, 3) := by decide +kernel
theorem dX5_serves_10 : decode cX5_serves 10 = .ok (.iload_n 1, 1) := by decide +kernel
theorem dX5_serves_11 : decode cX5_serves 11 = .ok (.iaload, 1) := by decide +kernel
theorem dX5_serves_12 : decode cX5_serves 12 = .ok (.if_icmp .eq 7, 3) := by decide +kernel
theorem dX5_serves_15 : decode cX5_serves 15 = .ok (.iconst 2, 1) := by decide +kernel
theorem dX5_serves_16 : decode cX5_serves 16 = .ok (.goto 4, 3) := by decide +kernel
theorem dX5_serves_19 : decode cX5_serves 19 = .ok (.iconst 0, 1) := by decide +kernel
theorem dX5_serves_20 : decode cX5_serves 20 = .ok (.istore_n 3, 1) := by decide +kernel
theorem dX5_serves_21 : decode cX5_serves 21 = .ok (.iconst 0, 1) := by decide +kernel
theorem dX5_serves_22 : decode cX5_serves 22 = .ok (.istore 4, 2) := by decide +kernel
theorem dX5_serves_24 : decode cX5_serves 24 = .ok (.iload 4, 2) := by decide +kernel
theorem dX5_serves_26 : decode cX5_serves 26 = .ok (.iconst 5, 1) := by decide +kernel
theorem dX5_serves_27 : decode cX5_serves 27 = .ok (.if_icmp .ge 19, 3) := by decide +kernel
theorem dX5_serves_30 : decode cX5_serves 30 = .ok (.iload_n 3, 1) := by decide +kernel
theorem dX5_serves_31 : decode cX5_serves 31 = .ok (.aload_n 0, 1) := by decide +kernel
theorem dX5_serves_32 : decode cX5_serves 32 = .ok (.iload_n 1, 1) := by decide +kernel
theorem dX5_serves_33 : decode cX5_serves 33 = .ok (.iload 4, 2) := by decide +kernel
theorem dX5_serves_35 : decode cX5_serves 35 = .ok (.invokevirtual 88, 3) := by decide +kernel
theorem dX5_serves_38 : decode cX5_serves 38 = .ok (.iadd, 1) := by decide +kernel
theorem dX5_serves_39 : decode cX5_serves 39 = .ok (.istore_n 3, 1) := by decide +kernel
theorem dX5_serves_40 : decode cX5_serves 40 = .ok (.iinc 4 1, 3) := by decide +kernel
theorem dX5_serves_43 : decode cX5_serves 43 = .ok (.goto (-19), 3) := by decide +kernel
theorem dX5_serves_46 : decode cX5_serves 46 = .ok (.iconst 0, 1) := by decide +kernel
theorem dX5_serves_47 : decode cX5_serves 47 = .ok (.istore 4, 2) := by decide +kernel
theorem dX5_serves_49 : decode cX5_serves 49 = .ok (.iload 4, 2) := by decide +kernel
theorem dX5_serves_51 : decode cX5_serves 51 = .ok (.iconst 5, 1) := by decide +kernel
theorem dX5_serves_52 : decode cX5_serves 52 = .ok (.if_icmp .ge 19, 3) := by decide +kernel
theorem dX5_serves_55 : decode cX5_serves 55 = .ok (.iload_n 3, 1) := by decide +kernel
theorem dX5_serves_56 : decode cX5_serves 56 = .ok (.aload_n 0, 1) := by decide +kernel
theorem dX5_serves_57 : decode cX5_serves 57 = .ok (.iload_n 1, 1) := by decide +kernel
theorem dX5_serves_58 : decode cX5_serves 58 = .ok (.iload 4, 2) := by decide +kernel
theorem dX5_serves_60 : decode cX5_serves 60 = .ok (.invokevirtual 92, 3) := by decide +kernel
theorem dX5_serves_63 : decode cX5_serves 63 = .ok (.iadd, 1) := by decide +kernel
theorem dX5_serves_64 : decode cX5_serves 64 = .ok (.istore_n 3, 1) := by decide +kernel
theorem dX5_serves_65 : decode cX5_serves 65 = .ok (.iinc 4 1, 3) := by decide +kernel
theorem dX5_serves_68 : decode cX5_serves 68 = .ok (.goto (-19), 3) := by decide +kernel
theorem dX5_serves_71 : decode cX5_serves 71 = .ok (.iload_n 3, 1) := by decide +kernel
theorem dX5_serves_72 : decode cX5_serves 72 = .ok (.ireturn, 1) := by decide +kernel
theorem dX5_allows_0 : decode cX5_allows 0 = .ok (.aload_n 0, 1) := by decide +kernel
theorem dX5_allows_1 : decode cX5_allows 1 = .ok (.getfield 17, 3) := by decide +kernel
theorem dX5_allows_4 : decode cX5_allows 4 = .ok (.iload_n 1, 1) := by decide +kernel
theorem dX5_allows_5 : decode cX5_allows 5 = .ok (.iaload, 1) := by decide +kernel
theorem dX5_allows_6 : decode cX5_allows 6 = .ok (.ifCond .ne 7, 3) := by decide +kernel
theorem dX5_allows_9 : decode cX5_allows 9 = .ok (.iconst 1, 1) := by decide +kernel
theorem dX5_allows_10 : decode cX5_allows 10 = .ok (.goto 4, 3) := by decide +kernel
theorem dX5_allows_13 : decode cX5_allows 13 = .ok (.iconst 0, 1) := by decide +kernel
theorem dX5_allows_14 : decode cX5_allows 14 = .ok (.istore_n 3, 1) := by decide +kernel
theorem dX5_allows_15 : decode cX5_allows 15 = .ok (.iconst 0, 1) := by decide +kernel
theorem dX5_allows_16 : decode cX5_allows 16 = .ok (.istore 4, 2) := by decide +kernel
theorem dX5_allows_18 : decode cX5_allows 18 = .ok (.iload 4, 2) := by decide +kernel
theorem dX5_allows_20 : decode cX5_allows 20 = .ok (.aload_n 0, 1) := by decide +kernel
theorem dX5_allows_21 : decode cX5_allows 21 = .ok (.getfield 95, 3) := by decide +kernel
theorem dX5_allows_24 : decode cX5_allows 24 = .ok (.if_icmp .ge 82, 3) := by decide +kernel
theorem dX5_allows_27 : decode cX5_allows 27 = .ok (.iload_n 3, 1) := by decide +kernel
theorem dX5_allows_28 : decode cX5_allows 28 = .ok (.ifCond .ne 66, 3) := by decide +kernel
theorem dX5_allows_31 : decode cX5_allows 31 = .ok (.aload_n 0, 1) := by decide +kernel
theorem dX5_allows_32 : decode cX5_allows 32 = .ok (.getfield 50, 3) := by decide +kernel
theorem dX5_allows_35 : decode cX5_allows 35 = .ok (.iload 4, 2) := by decide +kernel
theorem dX5_allows_37 : decode cX5_allows 37 = .ok (.baload, 1) := by decide +kernel
theorem dX5_allows_38 : decode cX5_allows 38 = .ok (.ifCond .ne 60, 3) := by decide +kernel
theorem dX5_allows_41 : decode cX5_allows 41 = .ok (.aload_n 0, 1) := by decide +kernel
theorem dX5_allows_42 : decode cX5_allows 42 = .ok (.getfield 38, 3) := by decide +kernel
theorem dX5_allows_45 : decode cX5_allows 45 = .ok (.iload 4, 2) := by decide +kernel
theorem dX5_allows_47 : decode cX5_allows 47 = .ok (.iaload, 1) := by decide +kernel
theorem dX5_allows_48 : decode cX5_allows 48 = .ok (.aload_n 0, 1) := by decide +kernel
theorem dX5_allows_49 : decode cX5_allows 49 = .ok (.getfield 13, 3) := by decide +kernel
theorem dX5_allows_52 : decode cX5_allows 52 = .ok (.iload_n 1, 1) := by decide +kernel
theorem dX5_allows_53 : decode cX5_allows 53 = .ok (.iaload, 1) := by decide +kernel
theorem dX5_allows_54 : decode cX5_allows 54 = .ok (.if_icmp .ne 44, 3) := by decide +kernel
theorem dX5_allows_57 : decode cX5_allows 57 = .ok (.iload_n 2, 1) := by decide +kernel
theorem dX5_allows_58 : decode cX5_allows 58 = .ok (.aload_n 0, 1) := by decide +kernel
theorem dX5_allows_59 : decode cX5_allows 59 = .ok (.getfield 41, 3) := by decide +kernel
theorem dX5_allows_62 : decode cX5_allows 62 = .ok (.iload 4, 2) := by decide +kernel
theorem dX5_allows_64 : decode cX5_allows 64 = .ok (.iaload, 1) := by decide +kernel
theorem dX5_allows_65 : decode cX5_allows 65 = .ok (.aload_n 0, 1) := by decide +kernel
theorem dX5_allows_66 : decode cX5_allows 66 = .ok (.getfield 44, 3) := by decide +kernel
theorem dX5_allows_69 : decode cX5_allows 69 = .ok (.iload 4, 2) := by decide +kernel
theorem dX5_allows_71 : decode cX5_allows 71 = .ok (.iaload, 1) := by decide +kernel
theorem dX5_allows_72 : decode cX5_allows 72 = .ok (.invokestatic 81, 3) := by decide +kernel
theorem dX5_allows_75 : decode cX5_allows 75 = .ok (.ifCond .eq 23, 3) := by decide +kernel
theorem dX5_allows_78 : decode cX5_allows 78 = .ok (.aload_n 0, 1) := by decide +kernel
theorem dX5_allows_79 : decode cX5_allows 79 = .ok (.getfield 47, 3) := by decide +kernel
theorem dX5_allows_82 : decode cX5_allows 82 = .ok (.iload 4, 2) := by decide +kernel
theorem dX5_allows_84 : decode cX5_allows 84 = .ok (.iaload, 1) := by decide +kernel
theorem dX5_allows_85 : decode cX5_allows 85 = .ok (.aload_n 0, 1) := by decide +kernel
theorem dX5_allows_86 : decode cX5_allows 86 = .ok (.getfield 17, 3) := by decide +kernel
theorem dX5_allows_89 : decode cX5_allows 89 = .ok (.iload_n 1, 1) := by decide +kernel
theorem dX5_allows_90 : decode cX5_allows 90 = .ok (.iaload, 1) := by decide +kernel
theorem dX5_allows_91 : decode cX5_allows 91 = .ok (.if_icmp .lt 7, 3) := by decide +kernel
theorem dX5_allows_94 : decode cX5_allows 94 = .ok (.iconst 1, 1) := by decide +kernel
theorem dX5_allows_95 : decode cX5_allows 95 = .ok (.goto 4, 3) := by decide +kernel
theorem dX5_allows_98 : decode cX5_allows 98 = .ok (.iconst 0, 1) := by decide +kernel
theorem dX5_allows_99 : decode cX5_allows 99 = .ok (.istore_n 3, 1) := by decide +kernel
theorem dX5_allows_100 : decode cX5_allows 100 = .ok (.iinc 4 1, 3) := by decide +kernel
theorem dX5_allows_103 : decode cX5_allows 103 = .ok (.goto (-85), 3) := by decide +kernel
theorem dX5_allows_106 : decode cX5_allows 106 = .ok (.iconst 0, 1) := by decide +kernel
theorem dX5_allows_107 : decode cX5_allows 107 = .ok (.istore 4, 2) := by decide +kernel
theorem dX5_allows_109 : decode cX5_allows 109 = .ok (.iload 4, 2) := by decide +kernel
theorem dX5_allows_111 : decode cX5_allows 111 = .ok (.iconst 5, 1) := by decide +kernel
theorem dX5_allows_112 : decode cX5_allows 112 = .ok (.if_icmp .ge 50, 3) := by decide +kernel
theorem dX5_allows_115 : decode cX5_allows 115 = .ok (.iload_n 3, 1) := by decide +kernel
theorem dX5_allows_116 : decode cX5_allows 116 = .ok (.ifCond .eq 38, 3) := by decide +kernel
theorem dX5_allows_119 : decode cX5_allows 119 = .ok (.aload_n 0, 1) := by decide +kernel
theorem dX5_allows_120 : decode cX5_allows 120 = .ok (.getfield 26, 3) := by decide +kernel
theorem dX5_allows_123 : decode cX5_allows 123 = .ok (.iconst 5, 1) := by decide +kernel
theorem dX5_allows_124 : decode cX5_allows 124 = .ok (.iload_n 1, 1) := by decide +kernel
theorem dX5_allows_125 : decode cX5_allows 125 = .ok (.imul, 1) := by decide +kernel
theorem dX5_allows_126 : decode cX5_allows 126 = .ok (.iload 4, 2) := by decide +kernel
theorem dX5_allows_128 : decode cX5_allows 128 = .ok (.iadd, 1) := by decide +kernel
theorem dX5_allows_129 : decode cX5_allows 129 = .ok (.iaload, 1) := by decide +kernel
theorem dX5_allows_130 : decode cX5_allows 130 = .ok (.bipush (-2), 2) := by decide +kernel
theorem dX5_allows_132 : decode cX5_allows 132 = .ok (.if_icmp .eq 18, 3) := by decide +kernel
theorem dX5_allows_135 : decode cX5_allows 135 = .ok (.aload_n 0, 1) := by decide +kernel
theorem dX5_allows_136 : decode cX5_allows 136 = .ok (.getfield 54, 3) := by decide +kernel
theorem dX5_allows_139 : decode cX5_allows 139 = .ok (.bipush 30, 2) := by decide +kernel
theorem dX5_allows_141 : decode cX5_allows 141 = .ok (.iload 4, 2) := by decide +kernel
theorem dX5_allows_143 : decode cX5_allows 143 = .ok (.imul, 1) := by decide +kernel
theorem dX5_allows_144 : decode cX5_allows 144 = .ok (.iload_n 2, 1) := by decide +kernel
theorem dX5_allows_145 : decode cX5_allows 145 = .ok (.iadd, 1) := by decide +kernel
theorem dX5_allows_146 : decode cX5_allows 146 = .ok (.baload, 1) := by decide +kernel
theorem dX5_allows_147 : decode cX5_allows 147 = .ok (.ifCond .ne 7, 3) := by decide +kernel
theorem dX5_allows_150 : decode cX5_allows 150 = .ok (.iconst 1, 1) := by decide +kernel
theorem dX5_allows_151 : decode cX5_allows 151 = .ok (.goto 4, 3) := by decide +kernel
theorem dX5_allows_154 : decode cX5_allows 154 = .ok (.iconst 0, 1) := by decide +kernel
theorem dX5_allows_155 : decode cX5_allows 155 = .ok (.istore_n 3, 1) := by decide +kernel
theorem dX5_allows_156 : decode cX5_allows 156 = .ok (.iinc 4 1, 3) := by decide +kernel
theorem dX5_allows_159 : decode cX5_allows 159 = .ok (.goto (-50), 3) := by decide +kernel
theorem dX5_allows_162 : decode cX5_allows 162 = .ok (.iload_n 3, 1) := by decide +kernel
theorem dX5_allows_163 : decode cX5_allows 163 = .ok (.ireturn, 1) := by decide +kernel
theorem dX5_costs_0 : decode cX5_costs 0 = .ok (.aload_n 0, 1) := by decide +kernel
theorem dX5_costs_1 : decode cX5_costs 1 = .ok (.invokevirtual 98, 3) := by decide +kernel
theorem dX5_costs_4 : decode cX5_costs 4 = .ok (.iconst 0, 1) := by decide +kernel
theorem dX5_costs_5 : decode cX5_costs 5 = .ok (.istore_n 1, 1) := by decide +kernel
theorem dX5_costs_6 : decode cX5_costs 6 = .ok (.aload_n 0, 1) := by decide +kernel
theorem dX5_costs_7 : decode cX5_costs 7 = .ok (.getfield 9, 3) := by decide +kernel
theorem dX5_costs_10 : decode cX5_costs 10 = .ok (.istore_n 2, 1) := by decide +kernel
theorem dX5_costs_11 : decode cX5_costs 11 = .ok (.aload_n 0, 1) := by decide +kernel
theorem dX5_costs_12 : decode cX5_costs 12 = .ok (.getfield 85, 3) := by decide +kernel
theorem dX5_costs_15 : decode cX5_costs 15 = .ok (.istore_n 3, 1) := by decide +kernel
theorem dX5_costs_16 : decode cX5_costs 16 = .ok (.iload_n 3, 1) := by decide +kernel
theorem dX5_costs_17 : decode cX5_costs 17 = .ok (.bipush 30, 2) := by decide +kernel
theorem dX5_costs_19 : decode cX5_costs 19 = .ok (.if_icmp .ge 62, 3) := by decide +kernel
theorem dX5_costs_22 : decode cX5_costs 22 = .ok (.aload_n 0, 1) := by decide +kernel
theorem dX5_costs_23 : decode cX5_costs 23 = .ok (.getfield 35, 3) := by decide +kernel
theorem dX5_costs_26 : decode cX5_costs 26 = .ok (.iload_n 3, 1) := by decide +kernel
theorem dX5_costs_27 : decode cX5_costs 27 = .ok (.iaload, 1) := by decide +kernel
theorem dX5_costs_28 : decode cX5_costs 28 = .ok (.istore 4, 2) := by decide +kernel
theorem dX5_costs_30 : decode cX5_costs 30 = .ok (.iload 4, 2) := by decide +kernel
theorem dX5_costs_32 : decode cX5_costs 32 = .ok (.iconst (-1), 1) := by decide +kernel
theorem dX5_costs_33 : decode cX5_costs 33 = .ok (.if_icmp .eq 38, 3) := by decide +kernel
theorem dX5_costs_36 : decode cX5_costs 36 = .ok (.iload_n 1, 1) := by decide +kernel
theorem dX5_costs_37 : decode cX5_costs 37 = .ok (.aload_n 0, 1) := by decide +kernel
theorem dX5_costs_38 : decode cX5_costs 38 = .ok (.iload 4, 2) := by decide +kernel
theorem dX5_costs_40 : decode cX5_costs 40 = .ok (.iload_n 2, 1) := by decide +kernel
theorem dX5_costs_41 : decode cX5_costs 41 = .ok (.invokevirtual 101, 3) := by decide +kernel
theorem dX5_costs_44 : decode cX5_costs 44 = .ok (.aload_n 0, 1) := by decide +kernel
theorem dX5_costs_45 : decode cX5_costs 45 = .ok (.iload 4, 2) := by decide +kernel
theorem dX5_costs_47 : decode cX5_costs 47 = .ok (.iload_n 3, 1) := by decide +kernel
theorem dX5_costs_48 : decode cX5_costs 48 = .ok (.invokevirtual 104, 3) := by decide +kernel
theorem dX5_costs_51 : decode cX5_costs 51 = .ok (.ifCond .eq 7, 3) := by decide +kernel
theorem dX5_costs_54 : decode cX5_costs 54 = .ok (.iconst 0, 1) := by decide +kernel
theorem dX5_costs_55 : decode cX5_costs 55 = .ok (.goto 5, 3) := by decide +kernel
theorem dX5_costs_58 : decode cX5_costs 58 = .ok (.bipush 20, 2) := by decide +kernel
theorem dX5_costs_60 : decode cX5_costs 60 = .ok (.iadd, 1) := by decide +kernel
theorem dX5_costs_61 : decode cX5_costs 61 = .ok (.iadd, 1) := by decide +kernel
theorem dX5_costs_62 : decode cX5_costs 62 = .ok (.istore_n 1, 1) := by decide +kernel
theorem dX5_costs_63 : decode cX5_costs 63 = .ok (.aload_n 0, 1) := by decide +kernel
theorem dX5_costs_64 : decode cX5_costs 64 = .ok (.getfield 13, 3) := by decide +kernel
theorem dX5_costs_67 : decode cX5_costs 67 = .ok (.iload 4, 2) := by decide +kernel
theorem dX5_costs_69 : decode cX5_costs 69 = .ok (.iaload, 1) := by decide +kernel
theorem dX5_costs_70 : decode cX5_costs 70 = .ok (.istore_n 2, 1) := by decide +kernel
theorem dX5_costs_71 : decode cX5_costs 71 = .ok (.aload_n 0, 1) := by decide +kernel
theorem dX5_costs_72 : decode cX5_costs 72 = .ok (.invokevirtual 108, 3) := by decide +kernel
theorem dX5_costs_75 : decode cX5_costs 75 = .ok (.iinc 3 1, 3) := by decide +kernel
theorem dX5_costs_78 : decode cX5_costs 78 = .ok (.goto (-62), 3) := by decide +kernel
theorem dX5_costs_81 : decode cX5_costs 81 = .ok (.iload_n 1, 1) := by decide +kernel
theorem dX5_costs_82 : decode cX5_costs 82 = .ok (.ireturn, 1) := by decide +kernel
theorem dX5_lastPlanned_0 : decode cX5_lastPlanned 0 = .ok (.iconst (-1), 1) := by decide +kernel
theorem dX5_lastPlanned_1 : decode cX5_lastPlanned 1 = .ok (.istore_n 1, 1) := by decide +kernel
theorem dX5_lastPlanned_2 : decode cX5_lastPlanned 2 = .ok (.iconst 0, 1) := by decide +kernel
theorem dX5_lastPlanned_3 : decode cX5_lastPlanned 3 = .ok (.istore_n 2, 1) := by decide +kernel
theorem dX5_lastPlanned_4 : decode cX5_lastPlanned 4 = .ok (.iload_n 2, 1) := by decide +kernel
theorem dX5_lastPlanned_5 : decode cX5_lastPlanned 5 = .ok (.bipush 30, 2) := by decide +kernel
theorem dX5_lastPlanned_7 : decode cX5_lastPlanned 7 = .ok (.if_icmp .ge 25, 3) := by decide +kernel
theorem dX5_lastPlanned_10 : decode cX5_lastPlanned 10 = .ok (.aload_n 0, 1) := by decide +kernel
theorem dX5_lastPlanned_11 : decode cX5_lastPlanned 11 = .ok (.getfield 35, 3) := by decide +kernel
theorem dX5_lastPlanned_14 : decode cX5_lastPlanned 14 = .ok (.iload_n 2, 1) := by decide +kernel
theorem dX5_lastPlanned_15 : decode cX5_lastPlanned 15 = .ok (.iaload, 1) := by decide +kernel
theorem dX5_lastPlanned_16 : decode cX5_lastPlanned 16 = .ok (.iconst (-1), 1) := by decide +kernel
theorem dX5_lastPlanned_17 : decode cX5_lastPlanned 17 = .ok (.if_icmp .eq 7, 3) := by decide +kernel
theorem dX5_lastPlanned_20 : decode cX5_lastPlanned 20 = .ok (.iload_n 2, 1) := by decide +kernel
theorem dX5_lastPlanned_21 : decode cX5_lastPlanned 21 = .ok (.goto 4, 3) := by decide +kernel
theorem dX5_lastPlanned_24 : decode cX5_lastPlanned 24 = .ok (.iload_n 1, 1) := by decide +kernel
theorem dX5_lastPlanned_25 : decode cX5_lastPlanned 25 = .ok (.istore_n 1, 1) := by decide +kernel
theorem dX5_lastPlanned_26 : decode cX5_lastPlanned 26 = .ok (.iinc 2 1, 3) := by decide +kernel
theorem dX5_lastPlanned_29 : decode cX5_lastPlanned 29 = .ok (.goto (-25), 3) := by decide +kernel
theorem dX5_lastPlanned_32 : decode cX5_lastPlanned 32 = .ok (.iload_n 1, 1) := by decide +kernel
theorem dX5_lastPlanned_33 : decode cX5_lastPlanned 33 = .ok (.ireturn, 1) := by decide +kernel
theorem dX5_plans_0 : decode cX5_plans 0 = .ok (.aload_n 0, 1) := by decide +kernel
theorem dX5_plans_1 : decode cX5_plans 1 = .ok (.getfield 35, 3) := by decide +kernel
theorem dX5_plans_4 : decode cX5_plans 4 = .ok (.iload_n 2, 1) := by decide +kernel
theorem dX5_plans_5 : decode cX5_plans 5 = .ok (.iload_n 1, 1) := by decide +kernel
theorem dX5_plans_6 : decode cX5_plans 6 = .ok (.iastore, 1) := by decide +kernel
theorem dX5_plans_7 : decode cX5_plans 7 = .ok (.iload_n 1, 1) := by decide +kernel
theorem dX5_plans_8 : decode cX5_plans 8 = .ok (.iconst (-1), 1) := by decide +kernel
theorem dX5_plans_9 : decode cX5_plans 9 = .ok (.if_icmp .eq 10, 3) := by decide +kernel
theorem dX5_plans_12 : decode cX5_plans 12 = .ok (.aload_n 0, 1) := by decide +kernel
theorem dX5_plans_13 : decode cX5_plans 13 = .ok (.getfield 23, 3) := by decide +kernel
theorem dX5_plans_16 : decode cX5_plans 16 = .ok (.iload_n 1, 1) := by decide +kernel
theorem dX5_plans_17 : decode cX5_plans 17 = .ok (.iload_n 2, 1) := by decide +kernel
theorem dX5_plans_18 : decode cX5_plans 18 = .ok (.iastore, 1) := by decide +kernel
theorem dX5_plans_19 : decode cX5_plans 19 = .ok (.return_, 1) := by decide +kernel
theorem dX5_scene_0 : decode cX5_scene 0 = .ok (.aload_n 0, 1) := by decide +kernel
theorem dX5_scene_1 : decode cX5_scene 1 = .ok (.invokevirtual 111, 3) := by decide +kernel
theorem dX5_scene_4 : decode cX5_scene 4 = .ok (.iconst (-1), 1) := by decide +kernel
theorem dX5_scene_5 : decode cX5_scene 5 = .ok (.if_icmp .ne 10, 3) := by decide +kernel
theorem dX5_scene_8 : decode cX5_scene 8 = .ok (.aload_n 0, 1) := by decide +kernel
theorem dX5_scene_9 : decode cX5_scene 9 = .ok (.getfield 85, 3) := by decide +kernel
theorem dX5_scene_12 : decode cX5_scene 12 = .ok (.goto 9, 3) := by decide +kernel
theorem dX5_scene_15 : decode cX5_scene 15 = .ok (.aload_n 0, 1) := by decide +kernel
theorem dX5_scene_16 : decode cX5_scene 16 = .ok (.invokevirtual 111, 3) := by decide +kernel
theorem dX5_scene_19 : decode cX5_scene 19 = .ok (.iconst 1, 1) := by decide +kernel
theorem dX5_scene_20 : decode cX5_scene 20 = .ok (.iadd, 1) := by decide +kernel
theorem dX5_scene_21 : decode cX5_scene 21 = .ok (.istore_n 3, 1) := by decide +kernel
theorem dX5_scene_22 : decode cX5_scene 22 = .ok (.aload_n 0, 1) := by decide +kernel
theorem dX5_scene_23 : decode cX5_scene 23 = .ok (.iload_n 1, 1) := by decide +kernel
theorem dX5_scene_24 : decode cX5_scene 24 = .ok (.iconst 0, 1) := by decide +kernel
theorem dX5_scene_25 : decode cX5_scene 25 = .ok (.iconst 3, 1) := by decide +kernel
theorem dX5_scene_26 : decode cX5_scene 26 = .ok (.invokestatic 81, 3) := by decide +kernel
theorem dX5_scene_29 : decode cX5_scene 29 = .ok (.ifCond .eq 17, 3) := by decide +kernel
theorem dX5_scene_32 : decode cX5_scene 32 = .ok (.iload_n 2, 1) := by decide +kernel
theorem dX5_scene_33 : decode cX5_scene 33 = .ok (.iconst 0, 1) := by decide +kernel
theorem dX5_scene_34 : decode cX5_scene 34 = .ok (.bipush 9, 2) := by decide +kernel
theorem dX5_scene_36 : decode cX5_scene 36 = .ok (.invokestatic 81, 3) := by decide +kernel
theorem dX5_scene_39 : decode cX5_scene 39 = .ok (.ifCond .eq 7, 3) := by decide +kernel
theorem dX5_scene_42 : decode cX5_scene 42 = .ok (.iconst 1, 1) := by decide +kernel
theorem dX5_scene_43 : decode cX5_scene 43 = .ok (.goto 4, 3) := by decide +kernel
theorem dX5_scene_46 : decode cX5_scene 46 = .ok (.iconst 0, 1) := by decide +kernel
theorem dX5_scene_47 : decode cX5_scene 47 = .ok (.aload_n 0, 1) := by decide +kernel
theorem dX5_scene_48 : decode cX5_scene 48 = .ok (.getfield 78, 3) := by decide +kernel
theorem dX5_scene_51 : decode cX5_scene 51 = .ok (.bipush 10, 2) := by decide +kernel
theorem dX5_scene_53 : decode cX5_scene 53 = .ok (.if_icmp .ge 13, 3) := by decide +kernel
theorem dX5_scene_56 : decode cX5_scene 56 = .ok (.iload_n 3, 1) := by decide +kernel
theorem dX5_scene_57 : decode cX5_scene 57 = .ok (.bipush 30, 2) := by decide +kernel
theorem dX5_scene_59 : decode cX5_scene 59 = .ok (.if_icmp .ge 7, 3) := by decide +kernel
theorem dX5_scene_62 : decode cX5_scene 62 = .ok (.iconst 1, 1) := by decide +kernel
theorem dX5_scene_63 : decode cX5_scene 63 = .ok (.goto 4, 3) := by decide +kernel
theorem dX5_scene_66 : decode cX5_scene 66 = .ok (.iconst 0, 1) := by decide +kernel
theorem dX5_scene_67 : decode cX5_scene 67 = .ok (.iconst 1, 1) := by decide +kernel
theorem dX5_scene_68 : decode cX5_scene 68 = .ok (.invokevirtual 115, 3) := by decide +kernel
theorem dX5_scene_71 : decode cX5_scene 71 = .ok (.ifCond .ne 5, 3) := by decide +kernel
theorem dX5_scene_74 : decode cX5_scene 74 = .ok (.iconst 0, 1) := by decide +kernel
theorem dX5_scene_75 : decode cX5_scene 75 = .ok (.ireturn, 1) := by decide +kernel
theorem dX5_scene_76 : decode cX5_scene 76 = .ok (.aload_n 0, 1) := by decide +kernel
theorem dX5_scene_77 : decode cX5_scene 77 = .ok (.getfield 13, 3) := by decide +kernel
theorem dX5_scene_80 : decode cX5_scene 80 = .ok (.aload_n 0, 1) := by decide +kernel
theorem dX5_scene_81 : decode cX5_scene 81 = .ok (.getfield 78, 3) := by decide +kernel
theorem dX5_scene_84 : decode cX5_scene 84 = .ok (.iload_n 1, 1) := by decide +kernel
theorem dX5_scene_85 : decode cX5_scene 85 = .ok (.iastore, 1) := by decide +kernel
theorem dX5_scene_86 : decode cX5_scene 86 = .ok (.aload_n 0, 1) := by decide +kernel
theorem dX5_scene_87 : decode cX5_scene 87 = .ok (.getfield 17, 3) := by decide +kernel
theorem dX5_scene_90 : decode cX5_scene 90 = .ok (.aload_n 0, 1) := by decide +kernel
theorem dX5_scene_91 : decode cX5_scene 91 = .ok (.getfield 78, 3) := by decide +kernel
theorem dX5_scene_94 : decode cX5_scene 94 = .ok (.iload_n 2, 1) := by decide +kernel
theorem dX5_scene_95 : decode cX5_scene 95 = .ok (.iastore, 1) := by decide +kernel
theorem dX5_scene_96 : decode cX5_scene 96 = .ok (.aload_n 0, 1) := by decide +kernel
theorem dX5_scene_97 : decode cX5_scene 97 = .ok (.getfield 20, 3) := by decide +kernel
theorem dX5_scene_100 : decode cX5_scene 100 = .ok (.aload_n 0, 1) := by decide +kernel
theorem dX5_scene_101 : decode cX5_scene 101 = .ok (.getfield 78, 3) := by decide +kernel
theorem dX5_scene_104 : decode cX5_scene 104 = .ok (.iconst 0, 1) := by decide +kernel
theorem dX5_scene_105 : decode cX5_scene 105 = .ok (.iastore, 1) := by decide +kernel
theorem dX5_scene_106 : decode cX5_scene 106 = .ok (.iconst 0, 1) := by decide +kernel
theorem dX5_scene_107 : decode cX5_scene 107 = .ok (.istore 4, 2) := by decide +kernel
theorem dX5_scene_109 : decode cX5_scene 109 = .ok (.iload 4, 2) := by decide +kernel
theorem dX5_scene_111 : decode cX5_scene 111 = .ok (.iconst 5, 1) := by decide +kernel
theorem dX5_scene_112 : decode cX5_scene 112 = .ok (.if_icmp .ge 40, 3) := by decide +kernel
theorem dX5_scene_115 : decode cX5_scene 115 = .ok (.aload_n 0, 1) := by decide +kernel
theorem dX5_scene_116 : decode cX5_scene 116 = .ok (.getfield 26, 3) := by decide +kernel
theorem dX5_scene_119 : decode cX5_scene 119 = .ok (.iconst 5, 1) := by decide +kernel
theorem dX5_scene_120 : decode cX5_scene 120 = .ok (.aload_n 0, 1) := by decide +kernel
theorem dX5_scene_121 : decode cX5_scene 121 = .ok (.getfield 78, 3) := by decide +kernel
theorem dX5_scene_124 : decode cX5_scene 124 = .ok (.imul, 1) := by decide +kernel
theorem dX5_scene_125 : decode cX5_scene 125 = .ok (.iload 4, 2) := by decide +kernel
theorem dX5_scene_127 : decode cX5_scene 127 = .ok (.iadd, 1) := by decide +kernel
theorem dX5_scene_128 : decode cX5_scene 128 = .ok (.bipush (-2), 2) := by decide +kernel
theorem dX5_scene_130 : decode cX5_scene 130 = .ok (.iastore, 1) := by decide +kernel
theorem dX5_scene_131 : decode cX5_scene 131 = .ok (.aload_n 0, 1) := by decide +kernel
theorem dX5_scene_132 : decode cX5_scene 132 = .ok (.getfield 29, 3) := by decide +kernel
theorem dX5_scene_135 : decode cX5_scene 135 = .ok (.iconst 5, 1) := by decide +kernel
theorem dX5_scene_136 : decode cX5_scene 136 = .ok (.aload_n 0, 1) := by decide +kernel
theorem dX5_scene_137 : decode cX5_scene 137 = .ok (.getfield 78, 3) := by decide +kernel
theorem dX5_scene_140 : decode cX5_scene 140 = .ok (.imul, 1) := by decide +kernel
theorem dX5_scene_141 : decode cX5_scene 141 = .ok (.iload 4, 2) := by decide +kernel
theorem dX5_scene_143 : decode cX5_scene 143 = .ok (.iadd, 1) := by decide +kernel
theorem dX5_scene_144 : decode cX5_scene 144 = .ok (.iconst (-1), 1) := by decide +kernel
theorem dX5_scene_145 : decode cX5_scene 145 = .ok (.iastore, 1) := by decide +kernel
theorem dX5_scene_146 : decode cX5_scene 146 = .ok (.iinc 4 1, 3) := by decide +kernel
theorem dX5_scene_149 : decode cX5_scene 149 = .ok (.goto (-40), 3) := by decide +kernel
theorem dX5_scene_152 : decode cX5_scene 152 = .ok (.aload_n 0, 1) := by decide +kernel
theorem dX5_scene_153 : decode cX5_scene 153 = .ok (.aload_n 0, 1) := by decide +kernel
theorem dX5_scene_154 : decode cX5_scene 154 = .ok (.getfield 78, 3) := by decide +kernel
theorem dX5_scene_157 : decode cX5_scene 157 = .ok (.iload_n 3, 1) := by decide +kernel
theorem dX5_scene_158 : decode cX5_scene 158 = .ok (.invokevirtual 119, 3) := by decide +kernel
theorem dX5_scene_161 : decode cX5_scene 161 = .ok (.aload_n 0, 1) := by decide +kernel
theorem dX5_scene_162 : decode cX5_scene 162 = .ok (.dup, 1) := by decide +kernel
theorem dX5_scene_163 : decode cX5_scene 163 = .ok (.getfield 78, 3) := by decide +kernel
theorem dX5_scene_166 : decode cX5_scene 166 = .ok (.iconst 1, 1) := by decide +kernel
theorem dX5_scene_167 : decode cX5_scene 167 = .ok (.iadd, 1) := by decide +kernel
theorem dX5_scene_168 : decode cX5_scene 168 = .ok (.putfield 78, 3) := by decide +kernel
theorem dX5_scene_171 : decode cX5_scene 171 = .ok (.aload_n 0, 1) := by decide +kernel
theorem dX5_scene_172 : decode cX5_scene 172 = .ok (.getfield 78, 3) := by decide +kernel
theorem dX5_scene_175 : decode cX5_scene 175 = .ok (.iconst 1, 1) := by decide +kernel
theorem dX5_scene_176 : decode cX5_scene 176 = .ok (.isub, 1) := by decide +kernel
theorem dX5_scene_177 : decode cX5_scene 177 = .ok (.ireturn, 1) := by decide +kernel
theorem dX5_plays_0 : decode cX5_plays 0 = .ok (.aload_n 0, 1) := by decide +kernel
theorem dX5_plays_1 : decode cX5_plays 1 = .ok (.iload_n 1, 1) := by decide +kernel
theorem dX5_plays_2 : decode cX5_plays 2 = .ok (.invokevirtual 123, 3) := by decide +kernel
theorem dX5_plays_5 : decode cX5_plays 5 = .ok (.ifCond .eq 14, 3) := by decide +kernel
theorem dX5_plays_8 : decode cX5_plays 8 = .ok (.iload_n 2, 1) := by decide +kernel
theorem dX5_plays_9 : decode cX5_plays 9 = .ok (.invokestatic 127, 3) := by decide +kernel
theorem dX5_plays_12 : decode cX5_plays 12 = .ok (.ifCond .eq 7, 3) := by decide +kernel
theorem dX5_plays_15 : decode cX5_plays 15 = .ok (.iconst 1, 1) := by decide +kernel
theorem dX5_plays_16 : decode cX5_plays 16 = .ok (.goto 4, 3) := by decide +kernel
theorem dX5_plays_19 : decode cX5_plays 19 = .ok (.iconst 0, 1) := by decide +kernel
theorem dX5_plays_20 : decode cX5_plays 20 = .ok (.istore 4, 2) := by decide +kernel
theorem dX5_plays_22 : decode cX5_plays 22 = .ok (.aload_n 0, 1) := by decide +kernel
theorem dX5_plays_23 : decode cX5_plays 23 = .ok (.iload 4, 2) := by decide +kernel
theorem dX5_plays_25 : decode cX5_plays 25 = .ok (.iload_n 3, 1) := by decide +kernel
theorem dX5_plays_26 : decode cX5_plays 26 = .ok (.iconst (-1), 1) := by decide +kernel
theorem dX5_plays_27 : decode cX5_plays 27 = .ok (.bipush 20, 2) := by decide +kernel
theorem dX5_plays_29 : decode cX5_plays 29 = .ok (.invokestatic 81, 3) := by decide +kernel
theorem dX5_plays_32 : decode cX5_plays 32 = .ok (.iload 4, 2) := by decide +kernel
theorem dX5_plays_34 : decode cX5_plays 34 = .ok (.ifCond .eq 16, 3) := by decide +kernel
theorem dX5_plays_37 : decode cX5_plays 37 = .ok (.aload_n 0, 1) := by decide +kernel
theorem dX5_plays_38 : decode cX5_plays 38 = .ok (.getfield 20, 3) := by decide +kernel
theorem dX5_plays_41 : decode cX5_plays 41 = .ok (.iload_n 1, 1) := by decide +kernel
theorem dX5_plays_42 : decode cX5_plays 42 = .ok (.iaload, 1) := by decide +kernel
theorem dX5_plays_43 : decode cX5_plays 43 = .ok (.ifCond .ne 7, 3) := by decide +kernel
theorem dX5_plays_46 : decode cX5_plays 46 = .ok (.iconst 1, 1) := by decide +kernel
theorem dX5_plays_47 : decode cX5_plays 47 = .ok (.goto 4, 3) := by decide +kernel
theorem dX5_plays_50 : decode cX5_plays 50 = .ok (.iconst 0, 1) := by decide +kernel
theorem dX5_plays_51 : decode cX5_plays 51 = .ok (.invokevirtual 115, 3) := by decide +kernel
theorem dX5_plays_54 : decode cX5_plays 54 = .ok (.ifCond .ne 5, 3) := by decide +kernel
theorem dX5_plays_57 : decode cX5_plays 57 = .ok (.iconst 0, 1) := by decide +kernel
theorem dX5_plays_58 : decode cX5_plays 58 = .ok (.ireturn, 1) := by decide +kernel
theorem dX5_plays_59 : decode cX5_plays 59 = .ok (.aload_n 0, 1) := by decide +kernel
theorem dX5_plays_60 : decode cX5_plays 60 = .ok (.getfield 26, 3) := by decide +kernel
theorem dX5_plays_63 : decode cX5_plays 63 = .ok (.iconst 5, 1) := by decide +kernel
theorem dX5_plays_64 : decode cX5_plays 64 = .ok (.iload_n 1, 1) := by decide +kernel
end
section
theorem dX5_plays_65 : decode cX5_plays 65 = .ok (.imul, 1) := by decide +kernel
theorem dX5_plays_66 : decode cX5_plays 66 = .ok (.iload_n 2, 1) := by decide +kernel
theorem dX5_plays_67 : decode cX5_plays 67 = .ok (.iadd, 1) := by decide +kernel
theorem dX5_plays_68 : decode cX5_plays 68 = .ok (.iload_n 3, 1) := by decide +kernel
theorem dX5_plays_69 : decode cX5_plays 69 = .ok (.iastore, 1) := by decide +kernel
theorem dX5_plays_70 : decode cX5_plays 70 = .ok (.iconst 0, 1) := by decide +kernel
theorem dX5_plays_71 : decode cX5_plays 71 = .ok (.istore 5, 2) := by decide +kernel
theorem dX5_plays_73 : decode cX5_plays 73 = .ok (.iconst 0, 1) := by decide +kernel
theorem dX5_plays_74 : decode cX5_plays 74 = .ok (.istore 6, 2) := by decide +kernel
theorem dX5_plays_76 : decode cX5_plays 76 = .ok (.iload 6, 2) := by decide +kernel
theorem dX5_plays_78 : decode cX5_plays 78 = .ok (.iconst 5, 1) := by decide +kernel
theorem dX5_plays_79 : decode cX5_plays 79 = .ok (.if_icmp .ge 35, 3) := by decide +kernel
theorem dX5_plays_82 : decode cX5_plays 82 = .ok (.iload 5, 2) := by decide +kernel
theorem dX5_plays_84 : decode cX5_plays 84 = .ok (.aload_n 0, 1) := by decide +kernel
theorem dX5_plays_85 : decode cX5_plays 85 = .ok (.getfield 26, 3) := by decide +kernel
theorem dX5_plays_88 : decode cX5_plays 88 = .ok (.iconst 5, 1) := by decide +kernel
theorem dX5_plays_89 : decode cX5_plays 89 = .ok (.iload_n 1, 1) := by decide +kernel
theorem dX5_plays_90 : decode cX5_plays 90 = .ok (.imul, 1) := by decide +kernel
theorem dX5_plays_91 : decode cX5_plays 91 = .ok (.iload 6, 2) := by decide +kernel
theorem dX5_plays_93 : decode cX5_plays 93 = .ok (.iadd, 1) := by decide +kernel
theorem dX5_plays_94 : decode cX5_plays 94 = .ok (.iaload, 1) := by decide +kernel
theorem dX5_plays_95 : decode cX5_plays 95 = .ok (.bipush (-2), 2) := by decide +kernel
theorem dX5_plays_97 : decode cX5_plays 97 = .ok (.if_icmp .ne 7, 3) := by decide +kernel
theorem dX5_plays_100 : decode cX5_plays 100 = .ok (.iconst 0, 1) := by decide +kernel
theorem dX5_plays_101 : decode cX5_plays 101 = .ok (.goto 4, 3) := by decide +kernel
theorem dX5_plays_104 : decode cX5_plays 104 = .ok (.iconst 1, 1) := by decide +kernel
theorem dX5_plays_105 : decode cX5_plays 105 = .ok (.iadd, 1) := by decide +kernel
theorem dX5_plays_106 : decode cX5_plays 106 = .ok (.istore 5, 2) := by decide +kernel
theorem dX5_plays_108 : decode cX5_plays 108 = .ok (.iinc 6 1, 3) := by decide +kernel
theorem dX5_plays_111 : decode cX5_plays 111 = .ok (.goto (-35), 3) := by decide +kernel
theorem dX5_plays_114 : decode cX5_plays 114 = .ok (.iload 5, 2) := by decide +kernel
theorem dX5_plays_116 : decode cX5_plays 116 = .ok (.ireturn, 1) := by decide +kernel
theorem dX5_isUsed_0 : decode cX5_isUsed 0 = .ok (.aload_n 0, 1) := by decide +kernel
theorem dX5_isUsed_1 : decode cX5_isUsed 1 = .ok (.getfield 20, 3) := by decide +kernel
theorem dX5_isUsed_4 : decode cX5_isUsed 4 = .ok (.iload_n 1, 1) := by decide +kernel
theorem dX5_isUsed_5 : decode cX5_isUsed 5 = .ok (.iaload, 1) := by decide +kernel
theorem dX5_isUsed_6 : decode cX5_isUsed 6 = .ok (.iconst 2, 1) := by decide +kernel
theorem dX5_isUsed_7 : decode cX5_isUsed 7 = .ok (.if_icmp .eq 21, 3) := by decide +kernel
theorem dX5_isUsed_10 : decode cX5_isUsed 10 = .ok (.aload_n 0, 1) := by decide +kernel
theorem dX5_isUsed_11 : decode cX5_isUsed 11 = .ok (.getfield 29, 3) := by decide +kernel
theorem dX5_isUsed_14 : decode cX5_isUsed 14 = .ok (.iconst 5, 1) := by decide +kernel
theorem dX5_isUsed_15 : decode cX5_isUsed 15 = .ok (.iload_n 1, 1) := by decide +kernel
theorem dX5_isUsed_16 : decode cX5_isUsed 16 = .ok (.imul, 1) := by decide +kernel
theorem dX5_isUsed_17 : decode cX5_isUsed 17 = .ok (.iload_n 2, 1) := by decide +kernel
theorem dX5_isUsed_18 : decode cX5_isUsed 18 = .ok (.iadd, 1) := by decide +kernel
theorem dX5_isUsed_19 : decode cX5_isUsed 19 = .ok (.iaload, 1) := by decide +kernel
theorem dX5_isUsed_20 : decode cX5_isUsed 20 = .ok (.iconst (-1), 1) := by decide +kernel
theorem dX5_isUsed_21 : decode cX5_isUsed 21 = .ok (.if_icmp .eq 7, 3) := by decide +kernel
theorem dX5_isUsed_24 : decode cX5_isUsed 24 = .ok (.iconst 1, 1) := by decide +kernel
theorem dX5_isUsed_25 : decode cX5_isUsed 25 = .ok (.goto 4, 3) := by decide +kernel
theorem dX5_isUsed_28 : decode cX5_isUsed 28 = .ok (.iconst 0, 1) := by decide +kernel
theorem dX5_isUsed_29 : decode cX5_isUsed 29 = .ok (.ireturn, 1) := by decide +kernel
theorem dX5_ages_0 : decode cX5_ages 0 = .ok (.iconst 1, 1) := by decide +kernel
theorem dX5_ages_1 : decode cX5_ages 1 = .ok (.istore 5, 2) := by decide +kernel
theorem dX5_ages_3 : decode cX5_ages 3 = .ok (.iconst 0, 1) := by decide +kernel
theorem dX5_ages_4 : decode cX5_ages 4 = .ok (.istore 6, 2) := by decide +kernel
theorem dX5_ages_6 : decode cX5_ages 6 = .ok (.iload 6, 2) := by decide +kernel
theorem dX5_ages_8 : decode cX5_ages 8 = .ok (.aload_n 0, 1) := by decide +kernel
theorem dX5_ages_9 : decode cX5_ages 9 = .ok (.getfield 78, 3) := by decide +kernel
theorem dX5_ages_12 : decode cX5_ages 12 = .ok (.if_icmp .ge 94, 3) := by decide +kernel
theorem dX5_ages_15 : decode cX5_ages 15 = .ok (.iload 6, 2) := by decide +kernel
theorem dX5_ages_17 : decode cX5_ages 17 = .ok (.iload_n 1, 1) := by decide +kernel
theorem dX5_ages_18 : decode cX5_ages 18 = .ok (.if_icmp .ge 26, 3) := by decide +kernel
theorem dX5_ages_21 : decode cX5_ages 21 = .ok (.aload_n 0, 1) := by decide +kernel
theorem dX5_ages_22 : decode cX5_ages 22 = .ok (.getfield 32, 3) := by decide +kernel
theorem dX5_ages_25 : decode cX5_ages 25 = .ok (.iconst 5, 1) := by decide +kernel
theorem dX5_ages_26 : decode cX5_ages 26 = .ok (.iload 6, 2) := by decide +kernel
theorem dX5_ages_28 : decode cX5_ages 28 = .ok (.imul, 1) := by decide +kernel
theorem dX5_ages_29 : decode cX5_ages 29 = .ok (.iload_n 2, 1) := by decide +kernel
theorem dX5_ages_30 : decode cX5_ages 30 = .ok (.iadd, 1) := by decide +kernel
theorem dX5_ages_31 : decode cX5_ages 31 = .ok (.iaload, 1) := by decide +kernel
theorem dX5_ages_32 : decode cX5_ages 32 = .ok (.iload_n 3, 1) := by decide +kernel
theorem dX5_ages_33 : decode cX5_ages 33 = .ok (.if_icmp .gt 7, 3) := by decide +kernel
theorem dX5_ages_36 : decode cX5_ages 36 = .ok (.iconst 1, 1) := by decide +kernel
theorem dX5_ages_37 : decode cX5_ages 37 = .ok (.goto 28, 3) := by decide +kernel
theorem dX5_ages_40 : decode cX5_ages 40 = .ok (.iconst 0, 1) := by decide +kernel
theorem dX5_ages_41 : decode cX5_ages 41 = .ok (.goto 24, 3) := by decide +kernel
theorem dX5_ages_44 : decode cX5_ages 44 = .ok (.iload 4, 2) := by decide +kernel
theorem dX5_ages_46 : decode cX5_ages 46 = .ok (.aload_n 0, 1) := by decide +kernel
theorem dX5_ages_47 : decode cX5_ages 47 = .ok (.getfield 29, 3) := by decide +kernel
theorem dX5_ages_50 : decode cX5_ages 50 = .ok (.iconst 5, 1) := by decide +kernel
theorem dX5_ages_51 : decode cX5_ages 51 = .ok (.iload 6, 2) := by decide +kernel
theorem dX5_ages_53 : decode cX5_ages 53 = .ok (.imul, 1) := by decide +kernel
theorem dX5_ages_54 : decode cX5_ages 54 = .ok (.iload_n 2, 1) := by decide +kernel
theorem dX5_ages_55 : decode cX5_ages 55 = .ok (.iadd, 1) := by decide +kernel
theorem dX5_ages_56 : decode cX5_ages 56 = .ok (.iaload, 1) := by decide +kernel
theorem dX5_ages_57 : decode cX5_ages 57 = .ok (.if_icmp .gt 7, 3) := by decide +kernel
theorem dX5_ages_60 : decode cX5_ages 60 = .ok (.iconst 1, 1) := by decide +kernel
theorem dX5_ages_61 : decode cX5_ages 61 = .ok (.goto 4, 3) := by decide +kernel
theorem dX5_ages_64 : decode cX5_ages 64 = .ok (.iconst 0, 1) := by decide +kernel
theorem dX5_ages_65 : decode cX5_ages 65 = .ok (.istore 7, 2) := by decide +kernel
theorem dX5_ages_67 : decode cX5_ages 67 = .ok (.iload 5, 2) := by decide +kernel
theorem dX5_ages_69 : decode cX5_ages 69 = .ok (.ifCond .eq 28, 3) := by decide +kernel
theorem dX5_ages_72 : decode cX5_ages 72 = .ok (.iload 6, 2) := by decide +kernel
theorem dX5_ages_74 : decode cX5_ages 74 = .ok (.iload_n 1, 1) := by decide +kernel
theorem dX5_ages_75 : decode cX5_ages 75 = .ok (.if_icmp .eq 18, 3) := by decide +kernel
theorem dX5_ages_78 : decode cX5_ages 78 = .ok (.aload_n 0, 1) := by decide +kernel
theorem dX5_ages_79 : decode cX5_ages 79 = .ok (.iload 6, 2) := by decide +kernel
theorem dX5_ages_81 : decode cX5_ages 81 = .ok (.iload_n 2, 1) := by decide +kernel
theorem dX5_ages_82 : decode cX5_ages 82 = .ok (.invokevirtual 130, 3) := by decide +kernel
theorem dX5_ages_85 : decode cX5_ages 85 = .ok (.ifCond .eq 8, 3) := by decide +kernel
theorem dX5_ages_88 : decode cX5_ages 88 = .ok (.iload 7, 2) := by decide +kernel
theorem dX5_ages_90 : decode cX5_ages 90 = .ok (.ifCond .eq 7, 3) := by decide +kernel
theorem dX5_ages_93 : decode cX5_ages 93 = .ok (.iconst 1, 1) := by decide +kernel
theorem dX5_ages_94 : decode cX5_ages 94 = .ok (.goto 4, 3) := by decide +kernel
theorem dX5_ages_97 : decode cX5_ages 97 = .ok (.iconst 0, 1) := by decide +kernel
theorem dX5_ages_98 : decode cX5_ages 98 = .ok (.istore 5, 2) := by decide +kernel
theorem dX5_ages_100 : decode cX5_ages 100 = .ok (.iinc 6 1, 3) := by decide +kernel
theorem dX5_ages_103 : decode cX5_ages 103 = .ok (.goto (-97), 3) := by decide +kernel
theorem dX5_ages_106 : decode cX5_ages 106 = .ok (.iload 5, 2) := by decide +kernel
theorem dX5_ages_108 : decode cX5_ages 108 = .ok (.ireturn, 1) := by decide +kernel
theorem dX5_uses_0 : decode cX5_uses 0 = .ok (.aload_n 0, 1) := by decide +kernel
theorem dX5_uses_1 : decode cX5_uses 1 = .ok (.iload_n 1, 1) := by decide +kernel
theorem dX5_uses_2 : decode cX5_uses 2 = .ok (.invokevirtual 123, 3) := by decide +kernel
theorem dX5_uses_5 : decode cX5_uses 5 = .ok (.ifCond .eq 14, 3) := by decide +kernel
theorem dX5_uses_8 : decode cX5_uses 8 = .ok (.iload_n 2, 1) := by decide +kernel
theorem dX5_uses_9 : decode cX5_uses 9 = .ok (.invokestatic 133, 3) := by decide +kernel
theorem dX5_uses_12 : decode cX5_uses 12 = .ok (.ifCond .eq 7, 3) := by decide +kernel
theorem dX5_uses_15 : decode cX5_uses 15 = .ok (.iconst 1, 1) := by decide +kernel
theorem dX5_uses_16 : decode cX5_uses 16 = .ok (.goto 4, 3) := by decide +kernel
theorem dX5_uses_19 : decode cX5_uses 19 = .ok (.iconst 0, 1) := by decide +kernel
theorem dX5_uses_20 : decode cX5_uses 20 = .ok (.istore 5, 2) := by decide +kernel
theorem dX5_uses_22 : decode cX5_uses 22 = .ok (.iload_n 3, 1) := by decide +kernel
theorem dX5_uses_23 : decode cX5_uses 23 = .ok (.iconst 0, 1) := by decide +kernel
theorem dX5_uses_24 : decode cX5_uses 24 = .ok (.iconst 3, 1) := by decide +kernel
theorem dX5_uses_25 : decode cX5_uses 25 = .ok (.invokestatic 81, 3) := by decide +kernel
theorem dX5_uses_28 : decode cX5_uses 28 = .ok (.ifCond .eq 17, 3) := by decide +kernel
theorem dX5_uses_31 : decode cX5_uses 31 = .ok (.iload 4, 2) := by decide +kernel
theorem dX5_uses_33 : decode cX5_uses 33 = .ok (.iload_n 3, 1) := by decide +kernel
theorem dX5_uses_34 : decode cX5_uses 34 = .ok (.iconst 3, 1) := by decide +kernel
theorem dX5_uses_35 : decode cX5_uses 35 = .ok (.invokestatic 81, 3) := by decide +kernel
theorem dX5_uses_38 : decode cX5_uses 38 = .ok (.ifCond .eq 7, 3) := by decide +kernel
theorem dX5_uses_41 : decode cX5_uses 41 = .ok (.iconst 1, 1) := by decide +kernel
theorem dX5_uses_42 : decode cX5_uses 42 = .ok (.goto 4, 3) := by decide +kernel
theorem dX5_uses_45 : decode cX5_uses 45 = .ok (.iconst 0, 1) := by decide +kernel
theorem dX5_uses_46 : decode cX5_uses 46 = .ok (.istore 6, 2) := by decide +kernel
theorem dX5_uses_48 : decode cX5_uses 48 = .ok (.aload_n 0, 1) := by decide +kernel
theorem dX5_uses_49 : decode cX5_uses 49 = .ok (.iload 5, 2) := by decide +kernel
theorem dX5_uses_51 : decode cX5_uses 51 = .ok (.iload 6, 2) := by decide +kernel
theorem dX5_uses_53 : decode cX5_uses 53 = .ok (.iload 5, 2) := by decide +kernel
theorem dX5_uses_55 : decode cX5_uses 55 = .ok (.ifCond .eq 33, 3) := by decide +kernel
theorem dX5_uses_58 : decode cX5_uses 58 = .ok (.iload 6, 2) := by decide +kernel
theorem dX5_uses_60 : decode cX5_uses 60 = .ok (.ifCond .eq 28, 3) := by decide +kernel
theorem dX5_uses_63 : decode cX5_uses 63 = .ok (.aload_n 0, 1) := by decide +kernel
theorem dX5_uses_64 : decode cX5_uses 64 = .ok (.getfield 20, 3) := by decide +kernel
theorem dX5_uses_67 : decode cX5_uses 67 = .ok (.iload_n 1, 1) := by decide +kernel
theorem dX5_uses_68 : decode cX5_uses 68 = .ok (.iaload, 1) := by decide +kernel
theorem dX5_uses_69 : decode cX5_uses 69 = .ok (.ifCond .ne 19, 3) := by decide +kernel
theorem dX5_uses_72 : decode cX5_uses 72 = .ok (.aload_n 0, 1) := by decide +kernel
theorem dX5_uses_73 : decode cX5_uses 73 = .ok (.iload_n 1, 1) := by decide +kernel
theorem dX5_uses_74 : decode cX5_uses 74 = .ok (.iload_n 2, 1) := by decide +kernel
theorem dX5_uses_75 : decode cX5_uses 75 = .ok (.iload_n 3, 1) := by decide +kernel
theorem dX5_uses_76 : decode cX5_uses 76 = .ok (.iload 4, 2) := by decide +kernel
theorem dX5_uses_78 : decode cX5_uses 78 = .ok (.invokevirtual 136, 3) := by decide +kernel
theorem dX5_uses_81 : decode cX5_uses 81 = .ok (.ifCond .eq 7, 3) := by decide +kernel
theorem dX5_uses_84 : decode cX5_uses 84 = .ok (.iconst 1, 1) := by decide +kernel
theorem dX5_uses_85 : decode cX5_uses 85 = .ok (.goto 4, 3) := by decide +kernel
theorem dX5_uses_88 : decode cX5_uses 88 = .ok (.iconst 0, 1) := by decide +kernel
theorem dX5_uses_89 : decode cX5_uses 89 = .ok (.invokevirtual 115, 3) := by decide +kernel
theorem dX5_uses_92 : decode cX5_uses 92 = .ok (.ifCond .ne 5, 3) := by decide +kernel
theorem dX5_uses_95 : decode cX5_uses 95 = .ok (.iconst 0, 1) := by decide +kernel
theorem dX5_uses_96 : decode cX5_uses 96 = .ok (.ireturn, 1) := by decide +kernel
theorem dX5_uses_97 : decode cX5_uses 97 = .ok (.aload_n 0, 1) := by decide +kernel
theorem dX5_uses_98 : decode cX5_uses 98 = .ok (.getfield 29, 3) := by decide +kernel
theorem dX5_uses_101 : decode cX5_uses 101 = .ok (.iconst 5, 1) := by decide +kernel
theorem dX5_uses_102 : decode cX5_uses 102 = .ok (.iload_n 1, 1) := by decide +kernel
theorem dX5_uses_103 : decode cX5_uses 103 = .ok (.imul, 1) := by decide +kernel
theorem dX5_uses_104 : decode cX5_uses 104 = .ok (.iload_n 2, 1) := by decide +kernel
theorem dX5_uses_105 : decode cX5_uses 105 = .ok (.iadd, 1) := by decide +kernel
theorem dX5_uses_106 : decode cX5_uses 106 = .ok (.iload_n 3, 1) := by decide +kernel
theorem dX5_uses_107 : decode cX5_uses 107 = .ok (.iastore, 1) := by decide +kernel
theorem dX5_uses_108 : decode cX5_uses 108 = .ok (.aload_n 0, 1) := by decide +kernel
theorem dX5_uses_109 : decode cX5_uses 109 = .ok (.getfield 32, 3) := by decide +kernel
theorem dX5_uses_112 : decode cX5_uses 112 = .ok (.iconst 5, 1) := by decide +kernel
theorem dX5_uses_113 : decode cX5_uses 113 = .ok (.iload_n 1, 1) := by decide +kernel
theorem dX5_uses_114 : decode cX5_uses 114 = .ok (.imul, 1) := by decide +kernel
theorem dX5_uses_115 : decode cX5_uses 115 = .ok (.iload_n 2, 1) := by decide +kernel
theorem dX5_uses_116 : decode cX5_uses 116 = .ok (.iadd, 1) := by decide +kernel
theorem dX5_uses_117 : decode cX5_uses 117 = .ok (.iload 4, 2) := by decide +kernel
theorem dX5_uses_119 : decode cX5_uses 119 = .ok (.iastore, 1) := by decide +kernel
theorem dX5_uses_120 : decode cX5_uses 120 = .ok (.iconst 0, 1) := by decide +kernel
theorem dX5_uses_121 : decode cX5_uses 121 = .ok (.istore 7, 2) := by decide +kernel
theorem dX5_uses_123 : decode cX5_uses 123 = .ok (.iconst 0, 1) := by decide +kernel
theorem dX5_uses_124 : decode cX5_uses 124 = .ok (.istore 8, 2) := by decide +kernel
theorem dX5_uses_126 : decode cX5_uses 126 = .ok (.iload 8, 2) := by decide +kernel
theorem dX5_uses_128 : decode cX5_uses 128 = .ok (.iconst 5, 1) := by decide +kernel
theorem dX5_uses_129 : decode cX5_uses 129 = .ok (.if_icmp .ge 34, 3) := by decide +kernel
theorem dX5_uses_132 : decode cX5_uses 132 = .ok (.iload 7, 2) := by decide +kernel
theorem dX5_uses_134 : decode cX5_uses 134 = .ok (.aload_n 0, 1) := by decide +kernel
theorem dX5_uses_135 : decode cX5_uses 135 = .ok (.getfield 29, 3) := by decide +kernel
theorem dX5_uses_138 : decode cX5_uses 138 = .ok (.iconst 5, 1) := by decide +kernel
theorem dX5_uses_139 : decode cX5_uses 139 = .ok (.iload_n 1, 1) := by decide +kernel
theorem dX5_uses_140 : decode cX5_uses 140 = .ok (.imul, 1) := by decide +kernel
theorem dX5_uses_141 : decode cX5_uses 141 = .ok (.iload 8, 2) := by decide +kernel
theorem dX5_uses_143 : decode cX5_uses 143 = .ok (.iadd, 1) := by decide +kernel
theorem dX5_uses_144 : decode cX5_uses 144 = .ok (.iaload, 1) := by decide +kernel
theorem dX5_uses_145 : decode cX5_uses 145 = .ok (.iconst (-1), 1) := by decide +kernel
theorem dX5_uses_146 : decode cX5_uses 146 = .ok (.if_icmp .ne 7, 3) := by decide +kernel
theorem dX5_uses_149 : decode cX5_uses 149 = .ok (.iconst 0, 1) := by decide +kernel
theorem dX5_uses_150 : decode cX5_uses 150 = .ok (.goto 4, 3) := by decide +kernel
theorem dX5_uses_153 : decode cX5_uses 153 = .ok (.iconst 1, 1) := by decide +kernel
theorem dX5_uses_154 : decode cX5_uses 154 = .ok (.iadd, 1) := by decide +kernel
theorem dX5_uses_155 : decode cX5_uses 155 = .ok (.istore 7, 2) := by decide +kernel
theorem dX5_uses_157 : decode cX5_uses 157 = .ok (.iinc 8 1, 3) := by decide +kernel
theorem dX5_uses_160 : decode cX5_uses 160 = .ok (.goto (-34), 3) := by decide +kernel
theorem dX5_uses_163 : decode cX5_uses 163 = .ok (.iload 7, 2) := by decide +kernel
theorem dX5_uses_165 : decode cX5_uses 165 = .ok (.ireturn, 1) := by decide +kernel
theorem dX5_cut_0 : decode cX5_cut 0 = .ok (.aload_n 0, 1) := by decide +kernel
theorem dX5_cut_1 : decode cX5_cut 1 = .ok (.iload_n 1, 1) := by decide +kernel
theorem dX5_cut_2 : decode cX5_cut 2 = .ok (.invokevirtual 123, 3) := by decide +kernel
theorem dX5_cut_5 : decode cX5_cut 5 = .ok (.istore_n 2, 1) := by decide +kernel
theorem dX5_cut_6 : decode cX5_cut 6 = .ok (.aload_n 0, 1) := by decide +kernel
theorem dX5_cut_7 : decode cX5_cut 7 = .ok (.iload_n 2, 1) := by decide +kernel
theorem dX5_cut_8 : decode cX5_cut 8 = .ok (.iload_n 2, 1) := by decide +kernel
theorem dX5_cut_9 : decode cX5_cut 9 = .ok (.ifCond .eq 16, 3) := by decide +kernel
theorem dX5_cut_12 : decode cX5_cut 12 = .ok (.aload_n 0, 1) := by decide +kernel
theorem dX5_cut_13 : decode cX5_cut 13 = .ok (.getfield 20, 3) := by decide +kernel
theorem dX5_cut_16 : decode cX5_cut 16 = .ok (.iload_n 1, 1) := by decide +kernel
theorem dX5_cut_17 : decode cX5_cut 17 = .ok (.iaload, 1) := by decide +kernel
theorem dX5_cut_18 : decode cX5_cut 18 = .ok (.ifCond .ne 7, 3) := by decide +kernel
theorem dX5_cut_21 : decode cX5_cut 21 = .ok (.iconst 1, 1) := by decide +kernel
theorem dX5_cut_22 : decode cX5_cut 22 = .ok (.goto 4, 3) := by decide +kernel
theorem dX5_cut_25 : decode cX5_cut 25 = .ok (.iconst 0, 1) := by decide +kernel
theorem dX5_cut_26 : decode cX5_cut 26 = .ok (.iconst 1, 1) := by decide +kernel
theorem dX5_cut_27 : decode cX5_cut 27 = .ok (.invokevirtual 115, 3) := by decide +kernel
theorem dX5_cut_30 : decode cX5_cut 30 = .ok (.ifCond .ne 5, 3) := by decide +kernel
theorem dX5_cut_33 : decode cX5_cut 33 = .ok (.iconst 0, 1) := by decide +kernel
theorem dX5_cut_34 : decode cX5_cut 34 = .ok (.ireturn, 1) := by decide +kernel
theorem dX5_cut_35 : decode cX5_cut 35 = .ok (.aload_n 0, 1) := by decide +kernel
theorem dX5_cut_36 : decode cX5_cut 36 = .ok (.getfield 20, 3) := by decide +kernel
theorem dX5_cut_39 : decode cX5_cut 39 = .ok (.iload_n 1, 1) := by decide +kernel
theorem dX5_cut_40 : decode cX5_cut 40 = .ok (.iconst 2, 1) := by decide +kernel
theorem dX5_cut_41 : decode cX5_cut 41 = .ok (.iastore, 1) := by decide +kernel
theorem dX5_cut_42 : decode cX5_cut 42 = .ok (.aload_n 0, 1) := by decide +kernel
theorem dX5_cut_43 : decode cX5_cut 43 = .ok (.getfield 35, 3) := by decide +kernel
theorem dX5_cut_46 : decode cX5_cut 46 = .ok (.aload_n 0, 1) := by decide +kernel
theorem dX5_cut_47 : decode cX5_cut 47 = .ok (.getfield 23, 3) := by decide +kernel
theorem dX5_cut_50 : decode cX5_cut 50 = .ok (.iload_n 1, 1) := by decide +kernel
theorem dX5_cut_51 : decode cX5_cut 51 = .ok (.iaload, 1) := by decide +kernel
theorem dX5_cut_52 : decode cX5_cut 52 = .ok (.iconst (-1), 1) := by decide +kernel
theorem dX5_cut_53 : decode cX5_cut 53 = .ok (.iastore, 1) := by decide +kernel
theorem dX5_cut_54 : decode cX5_cut 54 = .ok (.aload_n 0, 1) := by decide +kernel
theorem dX5_cut_55 : decode cX5_cut 55 = .ok (.getfield 23, 3) := by decide +kernel
theorem dX5_cut_58 : decode cX5_cut 58 = .ok (.iload_n 1, 1) := by decide +kernel
theorem dX5_cut_59 : decode cX5_cut 59 = .ok (.iaload, 1) := by decide +kernel
theorem dX5_cut_60 : decode cX5_cut 60 = .ok (.ireturn, 1) := by decide +kernel
theorem dX5_swaps_0 : decode cX5_swaps 0 = .ok (.aload_n 0, 1) := by decide +kernel
theorem dX5_swaps_1 : decode cX5_swaps 1 = .ok (.getfield 35, 3) := by decide +kernel
theorem dX5_swaps_4 : decode cX5_swaps 4 = .ok (.iload_n 1, 1) := by decide +kernel
theorem dX5_swaps_5 : decode cX5_swaps 5 = .ok (.iaload, 1) := by decide +kernel
theorem dX5_swaps_6 : decode cX5_swaps 6 = .ok (.istore_n 3, 1) := by decide +kernel
theorem dX5_swaps_7 : decode cX5_swaps 7 = .ok (.aload_n 0, 1) := by decide +kernel
theorem dX5_swaps_8 : decode cX5_swaps 8 = .ok (.aload_n 0, 1) := by decide +kernel
theorem dX5_swaps_9 : decode cX5_swaps 9 = .ok (.getfield 35, 3) := by decide +kernel
theorem dX5_swaps_12 : decode cX5_swaps 12 = .ok (.iload_n 2, 1) := by decide +kernel
theorem dX5_swaps_13 : decode cX5_swaps 13 = .ok (.iaload, 1) := by decide +kernel
theorem dX5_swaps_14 : decode cX5_swaps 14 = .ok (.iload_n 1, 1) := by decide +kernel
theorem dX5_swaps_15 : decode cX5_swaps 15 = .ok (.invokevirtual 119, 3) := by decide +kernel
theorem dX5_swaps_18 : decode cX5_swaps 18 = .ok (.aload_n 0, 1) := by decide +kernel
theorem dX5_swaps_19 : decode cX5_swaps 19 = .ok (.iload_n 3, 1) := by decide +kernel
theorem dX5_swaps_20 : decode cX5_swaps 20 = .ok (.iload_n 2, 1) := by decide +kernel
theorem dX5_swaps_21 : decode cX5_swaps 21 = .ok (.invokevirtual 119, 3) := by decide +kernel
theorem dX5_swaps_24 : decode cX5_swaps 24 = .ok (.return_, 1) := by decide +kernel
theorem dX5_swap_0 : decode cX5_swap 0 = .ok (.aload_n 0, 1) := by decide +kernel
theorem dX5_swap_1 : decode cX5_swap 1 = .ok (.aload_n 0, 1) := by decide +kernel
theorem dX5_swap_2 : decode cX5_swap 2 = .ok (.iload_n 1, 1) := by decide +kernel
theorem dX5_swap_3 : decode cX5_swap 3 = .ok (.invokevirtual 140, 3) := by decide +kernel
theorem dX5_swap_6 : decode cX5_swap 6 = .ok (.ifCond .eq 15, 3) := by decide +kernel
theorem dX5_swap_9 : decode cX5_swap 9 = .ok (.aload_n 0, 1) := by decide +kernel
theorem dX5_swap_10 : decode cX5_swap 10 = .ok (.iload_n 2, 1) := by decide +kernel
theorem dX5_swap_11 : decode cX5_swap 11 = .ok (.invokevirtual 140, 3) := by decide +kernel
theorem dX5_swap_14 : decode cX5_swap 14 = .ok (.ifCond .eq 7, 3) := by decide +kernel
theorem dX5_swap_17 : decode cX5_swap 17 = .ok (.iconst 1, 1) := by decide +kernel
theorem dX5_swap_18 : decode cX5_swap 18 = .ok (.goto 4, 3) := by decide +kernel
theorem dX5_swap_21 : decode cX5_swap 21 = .ok (.iconst 0, 1) := by decide +kernel
theorem dX5_swap_22 : decode cX5_swap 22 = .ok (.iconst 1, 1) := by decide +kernel
theorem dX5_swap_23 : decode cX5_swap 23 = .ok (.iconst 1, 1) := by decide +kernel
theorem dX5_swap_24 : decode cX5_swap 24 = .ok (.invokevirtual 115, 3) := by decide +kernel
theorem dX5_swap_27 : decode cX5_swap 27 = .ok (.ifCond .ne 5, 3) := by decide +kernel
theorem dX5_swap_30 : decode cX5_swap 30 = .ok (.iconst 0, 1) := by decide +kernel
theorem dX5_swap_31 : decode cX5_swap 31 = .ok (.ireturn, 1) := by decide +kernel
theorem dX5_swap_32 : decode cX5_swap 32 = .ok (.aload_n 0, 1) := by decide +kernel
theorem dX5_swap_33 : decode cX5_swap 33 = .ok (.iload_n 1, 1) := by decide +kernel
theorem dX5_swap_34 : decode cX5_swap 34 = .ok (.iload_n 2, 1) := by decide +kernel
theorem dX5_swap_35 : decode cX5_swap 35 = .ok (.invokevirtual 143, 3) := by decide +kernel
theorem dX5_swap_38 : decode cX5_swap 38 = .ok (.aload_n 0, 1) := by decide +kernel
theorem dX5_swap_39 : decode cX5_swap 39 = .ok (.invokevirtual 146, 3) := by decide +kernel
theorem dX5_swap_42 : decode cX5_swap 42 = .ok (.ireturn, 1) := by decide +kernel
theorem dX5_permit_0 : decode cX5_permit 0 = .ok (.iload_n 1, 1) := by decide +kernel
theorem dX5_permit_1 : decode cX5_permit 1 = .ok (.iconst 0, 1) := by decide +kernel
theorem dX5_permit_2 : decode cX5_permit 2 = .ok (.iconst 3, 1) := by decide +kernel
theorem dX5_permit_3 : decode cX5_permit 3 = .ok (.invokestatic 81, 3) := by decide +kernel
theorem dX5_permit_6 : decode cX5_permit 6 = .ok (.ifCond .eq 35, 3) := by decide +kernel
theorem dX5_permit_9 : decode cX5_permit 9 = .ok (.iload_n 2, 1) := by decide +kernel
theorem dX5_permit_10 : decode cX5_permit 10 = .ok (.invokestatic 149, 3) := by decide +kernel
theorem dX5_permit_13 : decode cX5_permit 13 = .ok (.ifCond .eq 28, 3) := by decide +kernel
theorem dX5_permit_16 : decode cX5_permit 16 = .ok (.iload_n 3, 1) := by decide +kernel
theorem dX5_permit_17 : decode cX5_permit 17 = .ok (.iload_n 2, 1) := by decide +kernel
theorem dX5_permit_18 : decode cX5_permit 18 = .ok (.bipush 29, 2) := by decide +kernel
theorem dX5_permit_20 : decode cX5_permit 20 = .ok (.invokestatic 81, 3) := by decide +kernel
theorem dX5_permit_23 : decode cX5_permit 23 = .ok (.ifCond .eq 18, 3) := by decide +kernel
theorem dX5_permit_26 : decode cX5_permit 26 = .ok (.iload 4, 2) := by decide +kernel
theorem dX5_permit_28 : decode cX5_permit 28 = .ok (.iconst 1, 1) := by decide +kernel
theorem dX5_permit_29 : decode cX5_permit 29 = .ok (.bipush 9, 2) := by decide +kernel
theorem dX5_permit_31 : decode cX5_permit 31 = .ok (.invokestatic 81, 3) := by decide +kernel
theorem dX5_permit_34 : decode cX5_permit 34 = .ok (.ifCond .eq 7, 3) := by decide +kernel
theorem dX5_permit_37 : decode cX5_permit 37 = .ok (.iconst 1, 1) := by decide +kernel
theorem dX5_permit_38 : decode cX5_permit 38 = .ok (.goto 4, 3) := by decide +kernel
theorem dX5_permit_41 : decode cX5_permit 41 = .ok (.iconst 0, 1) := by decide +kernel
theorem dX5_permit_42 : decode cX5_permit 42 = .ok (.istore 5, 2) := by decide +kernel
theorem dX5_permit_44 : decode cX5_permit 44 = .ok (.aload_n 0, 1) := by decide +kernel
theorem dX5_permit_45 : decode cX5_permit 45 = .ok (.iload 5, 2) := by decide +kernel
theorem dX5_permit_47 : decode cX5_permit 47 = .ok (.aload_n 0, 1) := by decide +kernel
theorem dX5_permit_48 : decode cX5_permit 48 = .ok (.getfield 95, 3) := by decide +kernel
theorem dX5_permit_51 : decode cX5_permit 51 = .ok (.bipush 20, 2) := by decide +kernel
theorem dX5_permit_53 : decode cX5_permit 53 = .ok (.if_icmp .ge 7, 3) := by decide +kernel
theorem dX5_permit_56 : decode cX5_permit 56 = .ok (.iconst 1, 1) := by decide +kernel
theorem dX5_permit_57 : decode cX5_permit 57 = .ok (.goto 4, 3) := by decide +kernel
theorem dX5_permit_60 : decode cX5_permit 60 = .ok (.iconst 0, 1) := by decide +kernel
theorem dX5_permit_61 : decode cX5_permit 61 = .ok (.iconst 1, 1) := by decide +kernel
theorem dX5_permit_62 : decode cX5_permit 62 = .ok (.invokevirtual 115, 3) := by decide +kernel
theorem dX5_permit_65 : decode cX5_permit 65 = .ok (.ifCond .ne 5, 3) := by decide +kernel
theorem dX5_permit_68 : decode cX5_permit 68 = .ok (.iconst 0, 1) := by decide +kernel
theorem dX5_permit_69 : decode cX5_permit 69 = .ok (.ireturn, 1) := by decide +kernel
theorem dX5_permit_70 : decode cX5_permit 70 = .ok (.aload_n 0, 1) := by decide +kernel
theorem dX5_permit_71 : decode cX5_permit 71 = .ok (.getfield 38, 3) := by decide +kernel
theorem dX5_permit_74 : decode cX5_permit 74 = .ok (.aload_n 0, 1) := by decide +kernel
theorem dX5_permit_75 : decode cX5_permit 75 = .ok (.getfield 95, 3) := by decide +kernel
theorem dX5_permit_78 : decode cX5_permit 78 = .ok (.iload_n 1, 1) := by decide +kernel
theorem dX5_permit_79 : decode cX5_permit 79 = .ok (.iastore, 1) := by decide +kernel
theorem dX5_permit_80 : decode cX5_permit 80 = .ok (.aload_n 0, 1) := by decide +kernel
theorem dX5_permit_81 : decode cX5_permit 81 = .ok (.getfield 41, 3) := by decide +kernel
theorem dX5_permit_84 : decode cX5_permit 84 = .ok (.aload_n 0, 1) := by decide +kernel
theorem dX5_permit_85 : decode cX5_permit 85 = .ok (.getfield 95, 3) := by decide +kernel
theorem dX5_permit_88 : decode cX5_permit 88 = .ok (.iload_n 2, 1) := by decide +kernel
theorem dX5_permit_89 : decode cX5_permit 89 = .ok (.iastore, 1) := by decide +kernel
theorem dX5_permit_90 : decode cX5_permit 90 = .ok (.aload_n 0, 1) := by decide +kernel
theorem dX5_permit_91 : decode cX5_permit 91 = .ok (.getfield 44, 3) := by decide +kernel
theorem dX5_permit_94 : decode cX5_permit 94 = .ok (.aload_n 0, 1) := by decide +kernel
theorem dX5_permit_95 : decode cX5_permit 95 = .ok (.getfield 95, 3) := by decide +kernel
theorem dX5_permit_98 : decode cX5_permit 98 = .ok (.iload_n 3, 1) := by decide +kernel
theorem dX5_permit_99 : decode cX5_permit 99 = .ok (.iastore, 1) := by decide +kernel
theorem dX5_permit_100 : decode cX5_permit 100 = .ok (.aload_n 0, 1) := by decide +kernel
theorem dX5_permit_101 : decode cX5_permit 101 = .ok (.getfield 47, 3) := by decide +kernel
theorem dX5_permit_104 : decode cX5_permit 104 = .ok (.aload_n 0, 1) := by decide +kernel
theorem dX5_permit_105 : decode cX5_permit 105 = .ok (.getfield 95, 3) := by decide +kernel
theorem dX5_permit_108 : decode cX5_permit 108 = .ok (.iload 4, 2) := by decide +kernel
theorem dX5_permit_110 : decode cX5_permit 110 = .ok (.iastore, 1) := by decide +kernel
theorem dX5_permit_111 : decode cX5_permit 111 = .ok (.aload_n 0, 1) := by decide +kernel
theorem dX5_permit_112 : decode cX5_permit 112 = .ok (.dup, 1) := by decide +kernel
theorem dX5_permit_113 : decode cX5_permit 113 = .ok (.getfield 95, 3) := by decide +kernel
theorem dX5_permit_116 : decode cX5_permit 116 = .ok (.iconst 1, 1) := by decide +kernel
theorem dX5_permit_117 : decode cX5_permit 117 = .ok (.iadd, 1) := by decide +kernel
theorem dX5_permit_118 : decode cX5_permit 118 = .ok (.putfield 95, 3) := by decide +kernel
theorem dX5_permit_121 : decode cX5_permit 121 = .ok (.aload_n 0, 1) := by decide +kernel
theorem dX5_permit_122 : decode cX5_permit 122 = .ok (.getfield 95, 3) := by decide +kernel
theorem dX5_permit_125 : decode cX5_permit 125 = .ok (.iconst 1, 1) := by decide +kernel
theorem dX5_permit_126 : decode cX5_permit 126 = .ok (.isub, 1) := by decide +kernel
theorem dX5_permit_127 : decode cX5_permit 127 = .ok (.ireturn, 1) := by decide +kernel
theorem dX5_refusals_0 : decode cX5_refusals 0 = .ok (.iconst 0, 1) := by decide +kernel
theorem dX5_refusals_1 : decode cX5_refusals 1 = .ok (.istore_n 1, 1) := by decide +kernel
theorem dX5_refusals_2 : decode cX5_refusals 2 = .ok (.iconst 0, 1) := by decide +kernel
theorem dX5_refusals_3 : decode cX5_refusals 3 = .ok (.istore_n 2, 1) := by decide +kernel
theorem dX5_refusals_4 : decode cX5_refusals 4 = .ok (.iload_n 2, 1) := by decide +kernel
theorem dX5_refusals_5 : decode cX5_refusals 5 = .ok (.aload_n 0, 1) := by decide +kernel
theorem dX5_refusals_6 : decode cX5_refusals 6 = .ok (.getfield 78, 3) := by decide +kernel
theorem dX5_refusals_9 : decode cX5_refusals 9 = .ok (.if_icmp .ge 40, 3) := by decide +kernel
theorem dX5_refusals_12 : decode cX5_refusals 12 = .ok (.iload_n 1, 1) := by decide +kernel
theorem dX5_refusals_13 : decode cX5_refusals 13 = .ok (.aload_n 0, 1) := by decide +kernel
theorem dX5_refusals_14 : decode cX5_refusals 14 = .ok (.getfield 20, 3) := by decide +kernel
theorem dX5_refusals_17 : decode cX5_refusals 17 = .ok (.iload_n 2, 1) := by decide +kernel
theorem dX5_refusals_18 : decode cX5_refusals 18 = .ok (.iaload, 1) := by decide +kernel
theorem dX5_refusals_19 : decode cX5_refusals 19 = .ok (.ifCond .ne 21, 3) := by decide +kernel
theorem dX5_refusals_22 : decode cX5_refusals 22 = .ok (.aload_n 0, 1) := by decide +kernel
theorem dX5_refusals_23 : decode cX5_refusals 23 = .ok (.iload_n 2, 1) := by decide +kernel
theorem dX5_refusals_24 : decode cX5_refusals 24 = .ok (.aload_n 0, 1) := by decide +kernel
theorem dX5_refusals_25 : decode cX5_refusals 25 = .ok (.getfield 23, 3) := by decide +kernel
theorem dX5_refusals_28 : decode cX5_refusals 28 = .ok (.iload_n 2, 1) := by decide +kernel
theorem dX5_refusals_29 : decode cX5_refusals 29 = .ok (.iaload, 1) := by decide +kernel
theorem dX5_refusals_30 : decode cX5_refusals 30 = .ok (.invokevirtual 104, 3) := by decide +kernel
theorem dX5_refusals_33 : decode cX5_refusals 33 = .ok (.ifCond .ne 7, 3) := by decide +kernel
theorem dX5_refusals_36 : decode cX5_refusals 36 = .ok (.iconst 1, 1) := by decide +kernel
theorem dX5_refusals_37 : decode cX5_refusals 37 = .ok (.goto 4, 3) := by decide +kernel
theorem dX5_refusals_40 : decode cX5_refusals 40 = .ok (.iconst 0, 1) := by decide +kernel
theorem dX5_refusals_41 : decode cX5_refusals 41 = .ok (.iadd, 1) := by decide +kernel
theorem dX5_refusals_42 : decode cX5_refusals 42 = .ok (.istore_n 1, 1) := by decide +kernel
theorem dX5_refusals_43 : decode cX5_refusals 43 = .ok (.iinc 2 1, 3) := by decide +kernel
theorem dX5_refusals_46 : decode cX5_refusals 46 = .ok (.goto (-42), 3) := by decide +kernel
theorem dX5_refusals_49 : decode cX5_refusals 49 = .ok (.iload_n 1, 1) := by decide +kernel
theorem dX5_refusals_50 : decode cX5_refusals 50 = .ok (.ireturn, 1) := by decide +kernel
theorem dX5_revoke_0 : decode cX5_revoke 0 = .ok (.iload_n 1, 1) := by decide +kernel
theorem dX5_revoke_1 : decode cX5_revoke 1 = .ok (.iconst 0, 1) := by decide +kernel
theorem dX5_revoke_2 : decode cX5_revoke 2 = .ok (.aload_n 0, 1) := by decide +kernel
theorem dX5_revoke_3 : decode cX5_revoke 3 = .ok (.getfield 95, 3) := by decide +kernel
theorem dX5_revoke_6 : decode cX5_revoke 6 = .ok (.iconst 1, 1) := by decide +kernel
theorem dX5_revoke_7 : decode cX5_revoke 7 = .ok (.isub, 1) := by decide +kernel
theorem dX5_revoke_8 : decode cX5_revoke 8 = .ok (.invokestatic 81, 3) := by decide +kernel
theorem dX5_revoke_11 : decode cX5_revoke 11 = .ok (.istore_n 2, 1) := by decide +kernel
theorem dX5_revoke_12 : decode cX5_revoke 12 = .ok (.aload_n 0, 1) := by decide +kernel
theorem dX5_revoke_13 : decode cX5_revoke 13 = .ok (.iload_n 2, 1) := by decide +kernel
theorem dX5_revoke_14 : decode cX5_revoke 14 = .ok (.iload_n 2, 1) := by decide +kernel
theorem dX5_revoke_15 : decode cX5_revoke 15 = .ok (.ifCond .eq 16, 3) := by decide +kernel
theorem dX5_revoke_18 : decode cX5_revoke 18 = .ok (.aload_n 0, 1) := by decide +kernel
theorem dX5_revoke_19 : decode cX5_revoke 19 = .ok (.getfield 50, 3) := by decide +kernel
theorem dX5_revoke_22 : decode cX5_revoke 22 = .ok (.iload_n 1, 1) := by decide +kernel
theorem dX5_revoke_23 : decode cX5_revoke 23 = .ok (.baload, 1) := by decide +kernel
theorem dX5_revoke_24 : decode cX5_revoke 24 = .ok (.ifCond .ne 7, 3) := by decide +kernel
theorem dX5_revoke_27 : decode cX5_revoke 27 = .ok (.iconst 1, 1) := by decide +kernel
theorem dX5_revoke_28 : decode cX5_revoke 28 = .ok (.goto 4, 3) := by decide +kernel
theorem dX5_revoke_31 : decode cX5_revoke 31 = .ok (.iconst 0, 1) := by decide +kernel
theorem dX5_revoke_32 : decode cX5_revoke 32 = .ok (.iconst 1, 1) := by decide +kernel
theorem dX5_revoke_33 : decode cX5_revoke 33 = .ok (.invokevirtual 115, 3) := by decide +kernel
theorem dX5_revoke_36 : decode cX5_revoke 36 = .ok (.ifCond .ne 5, 3) := by decide +kernel
theorem dX5_revoke_39 : decode cX5_revoke 39 = .ok (.iconst 0, 1) := by decide +kernel
theorem dX5_revoke_40 : decode cX5_revoke 40 = .ok (.ireturn, 1) := by decide +kernel
theorem dX5_revoke_41 : decode cX5_revoke 41 = .ok (.aload_n 0, 1) := by decide +kernel
theorem dX5_revoke_42 : decode cX5_revoke 42 = .ok (.invokevirtual 152, 3) := by decide +kernel
theorem dX5_revoke_45 : decode cX5_revoke 45 = .ok (.istore_n 3, 1) := by decide +kernel
theorem dX5_revoke_46 : decode cX5_revoke 46 = .ok (.aload_n 0, 1) := by decide +kernel
theorem dX5_revoke_47 : decode cX5_revoke 47 = .ok (.getfield 50, 3) := by decide +kernel
theorem dX5_revoke_50 : decode cX5_revoke 50 = .ok (.iload_n 1, 1) := by decide +kernel
theorem dX5_revoke_51 : decode cX5_revoke 51 = .ok (.iconst 1, 1) := by decide +kernel
theorem dX5_revoke_52 : decode cX5_revoke 52 = .ok (.bastore, 1) := by decide +kernel
theorem dX5_revoke_53 : decode cX5_revoke 53 = .ok (.aload_n 0, 1) := by decide +kernel
theorem dX5_revoke_54 : decode cX5_revoke 54 = .ok (.invokevirtual 152, 3) := by decide +kernel
theorem dX5_revoke_57 : decode cX5_revoke 57 = .ok (.iload_n 3, 1) := by decide +kernel
theorem dX5_revoke_58 : decode cX5_revoke 58 = .ok (.isub, 1) := by decide +kernel
theorem dX5_revoke_59 : decode cX5_revoke 59 = .ok (.ireturn, 1) := by decide +kernel
theorem dX5_away_0 : decode cX5_away 0 = .ok (.aload_n 0, 1) := by decide +kernel
theorem dX5_away_1 : decode cX5_away 1 = .ok (.iload_n 1, 1) := by decide +kernel
theorem dX5_away_2 : decode cX5_away 2 = .ok (.invokestatic 127, 3) := by decide +kernel
theorem dX5_away_5 : decode cX5_away 5 = .ok (.iload_n 2, 1) := by decide +kernel
theorem dX5_away_6 : decode cX5_away 6 = .ok (.invokestatic 149, 3) := by decide +kernel
theorem dX5_away_9 : decode cX5_away 9 = .ok (.iconst 1, 1) := by decide +kernel
theorem dX5_away_10 : decode cX5_away 10 = .ok (.invokevirtual 115, 3) := by decide +kernel
theorem dX5_away_13 : decode cX5_away 13 = .ok (.ifCond .ne 5, 3) := by decide +kernel
theorem dX5_away_16 : decode cX5_away 16 = .ok (.iconst 0, 1) := by decide +kernel
theorem dX5_away_17 : decode cX5_away 17 = .ok (.ireturn, 1) := by decide +kernel
theorem dX5_away_18 : decode cX5_away 18 = .ok (.aload_n 0, 1) := by decide +kernel
theorem dX5_away_19 : decode cX5_away 19 = .ok (.getfield 54, 3) := by decide +kernel
theorem dX5_away_22 : decode cX5_away 22 = .ok (.bipush 30, 2) := by decide +kernel
theorem dX5_away_24 : decode cX5_away 24 = .ok (.iload_n 1, 1) := by decide +kernel
theorem dX5_away_25 : decode cX5_away 25 = .ok (.imul, 1) := by decide +kernel
theorem dX5_away_26 : decode cX5_away 26 = .ok (.iload_n 2, 1) := by decide +kernel
theorem dX5_away_27 : decode cX5_away 27 = .ok (.iadd, 1) := by decide +kernel
theorem dX5_away_28 : decode cX5_away 28 = .ok (.baload, 1) := by decide +kernel
theorem dX5_away_29 : decode cX5_away 29 = .ok (.istore 4, 2) := by decide +kernel
theorem dX5_away_31 : decode cX5_away 31 = .ok (.aload_n 0, 1) := by decide +kernel
theorem dX5_away_32 : decode cX5_away 32 = .ok (.getfield 54, 3) := by decide +kernel
theorem dX5_away_35 : decode cX5_away 35 = .ok (.bipush 30, 2) := by decide +kernel
theorem dX5_away_37 : decode cX5_away 37 = .ok (.iload_n 1, 1) := by decide +kernel
theorem dX5_away_38 : decode cX5_away 38 = .ok (.imul, 1) := by decide +kernel
theorem dX5_away_39 : decode cX5_away 39 = .ok (.iload_n 2, 1) := by decide +kernel
theorem dX5_away_40 : decode cX5_away 40 = .ok (.iadd, 1) := by decide +kernel
theorem dX5_away_41 : decode cX5_away 41 = .ok (.iload_n 3, 1) := by decide +kernel
theorem dX5_away_42 : decode cX5_away 42 = .ok (.bastore, 1) := by decide +kernel
theorem dX5_away_43 : decode cX5_away 43 = .ok (.iload 4, 2) := by decide +kernel
theorem dX5_away_45 : decode cX5_away 45 = .ok (.ireturn, 1) := by decide +kernel
theorem dX5_allOf_0 : decode cX5_allOf 0 = .ok (.iconst 0, 1) := by decide +kernel
theorem dX5_allOf_1 : decode cX5_allOf 1 = .ok (.istore_n 2, 1) := by decide +kernel
theorem dX5_allOf_2 : decode cX5_allOf 2 = .ok (.iconst 0, 1) := by decide +kernel
theorem dX5_allOf_3 : decode cX5_allOf 3 = .ok (.istore_n 3, 1) := by decide +kernel
theorem dX5_allOf_4 : decode cX5_allOf 4 = .ok (.iload_n 3, 1) := by decide +kernel
theorem dX5_allOf_5 : decode cX5_allOf 5 = .ok (.iconst 4, 1) := by decide +kernel
theorem dX5_allOf_6 : decode cX5_allOf 6 = .ok (.if_icmp .ge 22, 3) := by decide +kernel
theorem dX5_allOf_9 : decode cX5_allOf 9 = .ok (.iload_n 2, 1) := by decide +kernel
theorem dX5_allOf_10 : decode cX5_allOf 10 = .ok (.aload_n 0, 1) := by decide +kernel
theorem dX5_allOf_11 : decode cX5_allOf 11 = .ok (.getfield 60, 3) := by decide +kernel
theorem dX5_allOf_14 : decode cX5_allOf 14 = .ok (.iconst 4, 1) := by decide +kernel
theorem dX5_allOf_15 : decode cX5_allOf 15 = .ok (.iload_n 1, 1) := by decide +kernel
theorem dX5_allOf_16 : decode cX5_allOf 16 = .ok (.imul, 1) := by decide +kernel
theorem dX5_allOf_17 : decode cX5_allOf 17 = .ok (.iload_n 3, 1) := by decide +kernel
theorem dX5_allOf_18 : decode cX5_allOf 18 = .ok (.iadd, 1) := by decide +kernel
theorem dX5_allOf_19 : decode cX5_allOf 19 = .ok (.iaload, 1) := by decide +kernel
theorem dX5_allOf_20 : decode cX5_allOf 20 = .ok (.iadd, 1) := by decide +kernel
theorem dX5_allOf_21 : decode cX5_allOf 21 = .ok (.istore_n 2, 1) := by decide +kernel
theorem dX5_allOf_22 : decode cX5_allOf 22 = .ok (.iinc 3 1, 3) := by decide +kernel
theorem dX5_allOf_25 : decode cX5_allOf 25 = .ok (.goto (-21), 3) := by decide +kernel
theorem dX5_allOf_28 : decode cX5_allOf 28 = .ok (.iload_n 2, 1) := by decide +kernel
theorem dX5_allOf_29 : decode cX5_allOf 29 = .ok (.ireturn, 1) := by decide +kernel
theorem dX5_buy_0 : decode cX5_buy 0 = .ok (.iload_n 1, 1) := by decide +kernel
theorem dX5_buy_1 : decode cX5_buy 1 = .ok (.invokestatic 133, 3) := by decide +kernel
theorem dX5_buy_4 : decode cX5_buy 4 = .ok (.istore_n 2, 1) := by decide +kernel
theorem dX5_buy_5 : decode cX5_buy 5 = .ok (.aload_n 0, 1) := by decide +kernel
theorem dX5_buy_6 : decode cX5_buy 6 = .ok (.iload_n 2, 1) := by decide +kernel
theorem dX5_buy_7 : decode cX5_buy 7 = .ok (.iload_n 2, 1) := by decide +kernel
theorem dX5_buy_8 : decode cX5_buy 8 = .ok (.ifCond .eq 17, 3) := by decide +kernel
theorem dX5_buy_11 : decode cX5_buy 11 = .ok (.aload_n 0, 1) := by decide +kernel
theorem dX5_buy_12 : decode cX5_buy 12 = .ok (.iload_n 1, 1) := by decide +kernel
theorem dX5_buy_13 : decode cX5_buy 13 = .ok (.invokevirtual 155, 3) := by decide +kernel
theorem dX5_buy_16 : decode cX5_buy 16 = .ok (.bipush 20, 2) := by decide +kernel
theorem dX5_buy_18 : decode cX5_buy 18 = .ok (.if_icmp .ge 7, 3) := by decide +kernel
theorem dX5_buy_21 : decode cX5_buy 21 = .ok (.iconst 1, 1) := by decide +kernel
theorem dX5_buy_22 : decode cX5_buy 22 = .ok (.goto 4, 3) := by decide +kernel
theorem dX5_buy_25 : decode cX5_buy 25 = .ok (.iconst 0, 1) := by decide +kernel
theorem dX5_buy_26 : decode cX5_buy 26 = .ok (.iconst 1, 1) := by decide +kernel
theorem dX5_buy_27 : decode cX5_buy 27 = .ok (.invokevirtual 115, 3) := by decide +kernel
theorem dX5_buy_30 : decode cX5_buy 30 = .ok (.ifCond .ne 5, 3) := by decide +kernel
theorem dX5_buy_33 : decode cX5_buy 33 = .ok (.iconst 0, 1) := by decide +kernel
theorem dX5_buy_34 : decode cX5_buy 34 = .ok (.ireturn, 1) := by decide +kernel
theorem dX5_buy_35 : decode cX5_buy 35 = .ok (.aload_n 0, 1) := by decide +kernel
theorem dX5_buy_36 : decode cX5_buy 36 = .ok (.getfield 60, 3) := by decide +kernel
theorem dX5_buy_39 : decode cX5_buy 39 = .ok (.iconst 4, 1) := by decide +kernel
theorem dX5_buy_40 : decode cX5_buy 40 = .ok (.iload_n 1, 1) := by decide +kernel
theorem dX5_buy_41 : decode cX5_buy 41 = .ok (.imul, 1) := by decide +kernel
theorem dX5_buy_42 : decode cX5_buy 42 = .ok (.dup2, 1) := by decide +kernel
theorem dX5_buy_43 : decode cX5_buy 43 = .ok (.iaload, 1) := by decide +kernel
theorem dX5_buy_44 : decode cX5_buy 44 = .ok (.iconst 1, 1) := by decide +kernel
theorem dX5_buy_45 : decode cX5_buy 45 = .ok (.iadd, 1) := by decide +kernel
theorem dX5_buy_46 : decode cX5_buy 46 = .ok (.iastore, 1) := by decide +kernel
theorem dX5_buy_47 : decode cX5_buy 47 = .ok (.aload_n 0, 1) := by decide +kernel
theorem dX5_buy_48 : decode cX5_buy 48 = .ok (.dup, 1) := by decide +kernel
theorem dX5_buy_49 : decode cX5_buy 49 = .ok (.getfield 159, 3) := by decide +kernel
theorem dX5_buy_52 : decode cX5_buy 52 = .ok (.iconst 5, 1) := by decide +kernel
theorem dX5_buy_53 : decode cX5_buy 53 = .ok (.iadd, 1) := by decide +kernel
theorem dX5_buy_54 : decode cX5_buy 54 = .ok (.putfield 159, 3) := by decide +kernel
theorem dX5_buy_57 : decode cX5_buy 57 = .ok (.aload_n 0, 1) := by decide +kernel
theorem dX5_buy_58 : decode cX5_buy 58 = .ok (.iload_n 1, 1) := by decide +kernel
theorem dX5_buy_59 : decode cX5_buy 59 = .ok (.invokevirtual 155, 3) := by decide +kernel
theorem dX5_buy_62 : decode cX5_buy 62 = .ok (.ireturn, 1) := by decide +kernel
theorem dX5_clear_0 : decode cX5_clear 0 = .ok (.iconst 0, 1) := by decide +kernel
theorem dX5_clear_1 : decode cX5_clear 1 = .ok (.istore_n 1, 1) := by decide +kernel
theorem dX5_clear_2 : decode cX5_clear 2 = .ok (.iconst 0, 1) := by decide +kernel
theorem dX5_clear_3 : decode cX5_clear 3 = .ok (.istore_n 2, 1) := by decide +kernel
theorem dX5_clear_4 : decode cX5_clear 4 = .ok (.iload_n 2, 1) := by decide +kernel
theorem dX5_clear_5 : decode cX5_clear 5 = .ok (.iconst 5, 1) := by decide +kernel
theorem dX5_clear_6 : decode cX5_clear 6 = .ok (.if_icmp .ge 33, 3) := by decide +kernel
theorem dX5_clear_9 : decode cX5_clear 9 = .ok (.iload_n 1, 1) := by decide +kernel
theorem dX5_clear_10 : decode cX5_clear 10 = .ok (.aload_n 0, 1) := by decide +kernel
theorem dX5_clear_11 : decode cX5_clear 11 = .ok (.getfield 60, 3) := by decide +kernel
theorem dX5_clear_14 : decode cX5_clear 14 = .ok (.iconst 4, 1) := by decide +kernel
theorem dX5_clear_15 : decode cX5_clear 15 = .ok (.iload_n 2, 1) := by decide +kernel
theorem dX5_clear_16 : decode cX5_clear 16 = .ok (.imul, 1) := by decide +kernel
theorem dX5_clear_17 : decode cX5_clear 17 = .ok (.iconst 3, 1) := by decide +kernel
theorem dX5_clear_18 : decode cX5_clear 18 = .ok (.iadd, 1) := by decide +kernel
theorem dX5_clear_19 : decode cX5_clear 19 = .ok (.iaload, 1) := by decide +kernel
theorem dX5_clear_20 : decode cX5_clear 20 = .ok (.iadd, 1) := by decide +kernel
theorem dX5_clear_21 : decode cX5_clear 21 = .ok (.istore_n 1, 1) := by decide +kernel
theorem dX5_clear_22 : decode cX5_clear 22 = .ok (.aload_n 0, 1) := by decide +kernel
theorem dX5_clear_23 : decode cX5_clear 23 = .ok (.getfield 60, 3) := by decide +kernel
theorem dX5_clear_26 : decode cX5_clear 26 = .ok (.iconst 4, 1) := by decide +kernel
theorem dX5_clear_27 : decode cX5_clear 27 = .ok (.iload_n 2, 1) := by decide +kernel
theorem dX5_clear_28 : decode cX5_clear 28 = .ok (.imul, 1) := by decide +kernel
theorem dX5_clear_29 : decode cX5_clear 29 = .ok (.iconst 3, 1) := by decide +kernel
theorem dX5_clear_30 : decode cX5_clear 30 = .ok (.iadd, 1) := by decide +kernel
theorem dX5_clear_31 : decode cX5_clear 31 = .ok (.iconst 0, 1) := by decide +kernel
theorem dX5_clear_32 : decode cX5_clear 32 = .ok (.iastore, 1) := by decide +kernel
theorem dX5_clear_33 : decode cX5_clear 33 = .ok (.iinc 2 1, 3) := by decide +kernel
theorem dX5_clear_36 : decode cX5_clear 36 = .ok (.goto (-32), 3) := by decide +kernel
theorem dX5_clear_39 : decode cX5_clear 39 = .ok (.aload_n 0, 1) := by decide +kernel
theorem dX5_clear_40 : decode cX5_clear 40 = .ok (.iload_n 1, 1) := by decide +kernel
theorem dX5_clear_41 : decode cX5_clear 41 = .ok (.invokevirtual 162, 3) := by decide +kernel
theorem dX5_clear_44 : decode cX5_clear 44 = .ok (.ireturn, 1) := by decide +kernel
theorem dX5_mishap_0 : decode cX5_mishap 0 = .ok (.iload_n 1, 1) := by decide +kernel
theorem dX5_mishap_1 : decode cX5_mishap 1 = .ok (.invokestatic 133, 3) := by decide +kernel
theorem dX5_mishap_4 : decode cX5_mishap 4 = .ok (.istore_n 3, 1) := by decide +kernel
theorem dX5_mishap_5 : decode cX5_mishap 5 = .ok (.iload_n 2, 1) := by decide +kernel
theorem dX5_mishap_6 : decode cX5_mishap 6 = .ok (.iconst 0, 1) := by decide +kernel
theorem dX5_mishap_7 : decode cX5_mishap 7 = .ok (.iconst 2, 1) := by decide +kernel
theorem dX5_mishap_8 : decode cX5_mishap 8 = .ok (.invokestatic 81, 3) := by decide +kernel
theorem dX5_mishap_11 : decode cX5_mishap 11 = .ok (.istore 4, 2) := by decide +kernel
theorem dX5_mishap_13 : decode cX5_mishap 13 = .ok (.aload_n 0, 1) := by decide +kernel
theorem dX5_mishap_14 : decode cX5_mishap 14 = .ok (.iload_n 3, 1) := by decide +kernel
theorem dX5_mishap_15 : decode cX5_mishap 15 = .ok (.iload 4, 2) := by decide +kernel
theorem dX5_mishap_17 : decode cX5_mishap 17 = .ok (.iload_n 3, 1) := by decide +kernel
theorem dX5_mishap_18 : decode cX5_mishap 18 = .ok (.ifCond .eq 25, 3) := by decide +kernel
theorem dX5_mishap_21 : decode cX5_mishap 21 = .ok (.iload 4, 2) := by decide +kernel
theorem dX5_mishap_23 : decode cX5_mishap 23 = .ok (.ifCond .eq 20, 3) := by decide +kernel
theorem dX5_mishap_26 : decode cX5_mishap 26 = .ok (.aload_n 0, 1) := by decide +kernel
theorem dX5_mishap_27 : decode cX5_mishap 27 = .ok (.getfield 60, 3) := by decide +kernel
theorem dX5_mishap_30 : decode cX5_mishap 30 = .ok (.iconst 4, 1) := by decide +kernel
theorem dX5_mishap_31 : decode cX5_mishap 31 = .ok (.iload_n 1, 1) := by decide +kernel
theorem dX5_mishap_32 : decode cX5_mishap 32 = .ok (.imul, 1) := by decide +kernel
theorem dX5_mishap_33 : decode cX5_mishap 33 = .ok (.iload_n 2, 1) := by decide +kernel
theorem dX5_mishap_34 : decode cX5_mishap 34 = .ok (.iadd, 1) := by decide +kernel
theorem dX5_mishap_35 : decode cX5_mishap 35 = .ok (.iaload, 1) := by decide +kernel
theorem dX5_mishap_36 : decode cX5_mishap 36 = .ok (.ifCond .le 7, 3) := by decide +kernel
theorem dX5_mishap_39 : decode cX5_mishap 39 = .ok (.iconst 1, 1) := by decide +kernel
theorem dX5_mishap_40 : decode cX5_mishap 40 = .ok (.goto 4, 3) := by decide +kernel
theorem dX5_mishap_43 : decode cX5_mishap 43 = .ok (.iconst 0, 1) := by decide +kernel
theorem dX5_mishap_44 : decode cX5_mishap 44 = .ok (.invokevirtual 115, 3) := by decide +kernel
theorem dX5_mishap_47 : decode cX5_mishap 47 = .ok (.ifCond .ne 5, 3) := by decide +kernel
theorem dX5_mishap_50 : decode cX5_mishap 50 = .ok (.iconst 0, 1) := by decide +kernel
theorem dX5_mishap_51 : decode cX5_mishap 51 = .ok (.ireturn, 1) := by decide +kernel
theorem dX5_mishap_52 : decode cX5_mishap 52 = .ok (.aload_n 0, 1) := by decide +kernel
theorem dX5_mishap_53 : decode cX5_mishap 53 = .ok (.getfield 60, 3) := by decide +kernel
theorem dX5_mishap_56 : decode cX5_mishap 56 = .ok (.iconst 4, 1) := by decide +kernel
theorem dX5_mishap_57 : decode cX5_mishap 57 = .ok (.iload_n 1, 1) := by decide +kernel
theorem dX5_mishap_58 : decode cX5_mishap 58 = .ok (.imul, 1) := by decide +kernel
theorem dX5_mishap_59 : decode cX5_mishap 59 = .ok (.iload_n 2, 1) := by decide +kernel
theorem dX5_mishap_60 : decode cX5_mishap 60 = .ok (.iadd, 1) := by decide +kernel
theorem dX5_mishap_61 : decode cX5_mishap 61 = .ok (.dup2, 1) := by decide +kernel
theorem dX5_mishap_62 : decode cX5_mishap 62 = .ok (.iaload, 1) := by decide +kernel
theorem dX5_mishap_63 : decode cX5_mishap 63 = .ok (.iconst 1, 1) := by decide +kernel
theorem dX5_mishap_64 : decode cX5_mishap 64 = .ok (.isub, 1) := by decide +kernel
theorem dX5_mishap_65 : decode cX5_mishap 65 = .ok (.iastore, 1) := by decide +kernel
theorem dX5_mishap_66 : decode cX5_mishap 66 = .ok (.aload_n 0, 1) := by decide +kernel
theorem dX5_mishap_67 : decode cX5_mishap 67 = .ok (.getfield 60, 3) := by decide +kernel
theorem dX5_mishap_70 : decode cX5_mishap 70 = .ok (.iconst 4, 1) := by decide +kernel
theorem dX5_mishap_71 : decode cX5_mishap 71 = .ok (.iload_n 1, 1) := by decide +kernel
theorem dX5_mishap_72 : decode cX5_mishap 72 = .ok (.imul, 1) := by decide +kernel
theorem dX5_mishap_73 : decode cX5_mishap 73 = .ok (.iconst 3, 1) := by decide +kernel
theorem dX5_mishap_74 : decode cX5_mishap 74 = .ok (.iadd, 1) := by decide +kernel
theorem dX5_mishap_75 : decode cX5_mishap 75 = .ok (.dup2, 1) := by decide +kernel
theorem dX5_mishap_76 : decode cX5_mishap 76 = .ok (.iaload, 1) := by decide +kernel
theorem dX5_mishap_77 : decode cX5_mishap 77 = .ok (.iconst 1, 1) := by decide +kernel
theorem dX5_mishap_78 : decode cX5_mishap 78 = .ok (.iadd, 1) := by decide +kernel
theorem dX5_mishap_79 : decode cX5_mishap 79 = .ok (.iastore, 1) := by decide +kernel
theorem dX5_mishap_80 : decode cX5_mishap 80 = .ok (.aload_n 0, 1) := by decide +kernel
theorem dX5_mishap_81 : decode cX5_mishap 81 = .ok (.getfield 60, 3) := by decide +kernel
theorem dX5_mishap_84 : decode cX5_mishap 84 = .ok (.iconst 4, 1) := by decide +kernel
theorem dX5_mishap_85 : decode cX5_mishap 85 = .ok (.iload_n 1, 1) := by decide +kernel
theorem dX5_mishap_86 : decode cX5_mishap 86 = .ok (.imul, 1) := by decide +kernel
theorem dX5_mishap_87 : decode cX5_mishap 87 = .ok (.iconst 3, 1) := by decide +kernel
theorem dX5_mishap_88 : decode cX5_mishap 88 = .ok (.iadd, 1) := by decide +kernel
theorem dX5_mishap_89 : decode cX5_mishap 89 = .ok (.iaload, 1) := by decide +kernel
theorem dX5_mishap_90 : decode cX5_mishap 90 = .ok (.ireturn, 1) := by decide +kernel
theorem dX5_putsOff_0 : decode cX5_putsOff 0 = .ok (.aload_n 0, 1) := by decide +kernel
theorem dX5_putsOff_1 : decode cX5_putsOff 1 = .ok (.getfield 85, 3) := by decide +kernel
theorem dX5_putsOff_4 : decode cX5_putsOff 4 = .ok (.iconst 1, 1) := by decide +kernel
theorem dX5_putsOff_5 : decode cX5_putsOff 5 = .ok (.iadd, 1) := by decide +kernel
theorem dX5_putsOff_6 : decode cX5_putsOff 6 = .ok (.istore_n 2, 1) := by decide +kernel
theorem dX5_putsOff_7 : decode cX5_putsOff 7 = .ok (.iload_n 2, 1) := by decide +kernel
theorem dX5_putsOff_8 : decode cX5_putsOff 8 = .ok (.bipush 30, 2) := by decide +kernel
theorem dX5_putsOff_10 : decode cX5_putsOff 10 = .ok (.if_icmp .ge 19, 3) := by decide +kernel
theorem dX5_putsOff_13 : decode cX5_putsOff 13 = .ok (.aload_n 0, 1) := by decide +kernel
theorem dX5_putsOff_14 : decode cX5_putsOff 14 = .ok (.getfield 35, 3) := by decide +kernel
theorem dX5_putsOff_17 : decode cX5_putsOff 17 = .ok (.iload_n 2, 1) := by decide +kernel
theorem dX5_putsOff_18 : decode cX5_putsOff 18 = .ok (.iaload, 1) := by decide +kernel
theorem dX5_putsOff_19 : decode cX5_putsOff 19 = .ok (.iconst (-1), 1) := by decide +kernel
theorem dX5_putsOff_20 : decode cX5_putsOff 20 = .ok (.if_icmp .eq 9, 3) := by decide +kernel
theorem dX5_putsOff_23 : decode cX5_putsOff 23 = .ok (.iinc 2 1, 3) := by decide +kernel
theorem dX5_putsOff_26 : decode cX5_putsOff 26 = .ok (.goto (-19), 3) := by decide +kernel
theorem dX5_putsOff_29 : decode cX5_putsOff 29 = .ok (.iload_n 2, 1) := by decide +kernel
theorem dX5_putsOff_30 : decode cX5_putsOff 30 = .ok (.bipush 30, 2) := by decide +kernel
theorem dX5_putsOff_32 : decode cX5_putsOff 32 = .ok (.if_icmp .ge 12, 3) := by decide +kernel
theorem dX5_putsOff_35 : decode cX5_putsOff 35 = .ok (.aload_n 0, 1) := by decide +kernel
theorem dX5_putsOff_36 : decode cX5_putsOff 36 = .ok (.iload_n 1, 1) := by decide +kernel
theorem dX5_putsOff_37 : decode cX5_putsOff 37 = .ok (.iload_n 2, 1) := by decide +kernel
theorem dX5_putsOff_38 : decode cX5_putsOff 38 = .ok (.invokevirtual 119, 3) := by decide +kernel
theorem dX5_putsOff_41 : decode cX5_putsOff 41 = .ok (.goto 10, 3) := by decide +kernel
theorem dX5_putsOff_44 : decode cX5_putsOff 44 = .ok (.aload_n 0, 1) := by decide +kernel
theorem dX5_putsOff_45 : decode cX5_putsOff 45 = .ok (.getfield 20, 3) := by decide +kernel
theorem dX5_putsOff_48 : decode cX5_putsOff 48 = .ok (.iload_n 1, 1) := by decide +kernel
theorem dX5_putsOff_49 : decode cX5_putsOff 49 = .ok (.iconst 2, 1) := by decide +kernel
theorem dX5_putsOff_50 : decode cX5_putsOff 50 = .ok (.iastore, 1) := by decide +kernel
theorem dX5_putsOff_51 : decode cX5_putsOff 51 = .ok (.return_, 1) := by decide +kernel
theorem dX5_shoot_0 : decode cX5_shoot 0 = .ok (.aload_n 0, 1) := by decide +kernel
theorem dX5_shoot_1 : decode cX5_shoot 1 = .ok (.aload_n 0, 1) := by decide +kernel
theorem dX5_shoot_2 : decode cX5_shoot 2 = .ok (.getfield 85, 3) := by decide +kernel
theorem dX5_shoot_5 : decode cX5_shoot 5 = .ok (.bipush 30, 2) := by decide +kernel
theorem dX5_shoot_7 : decode cX5_shoot 7 = .ok (.if_icmp .ge 7, 3) := by decide +kernel
theorem dX5_shoot_10 : decode cX5_shoot 10 = .ok (.iconst 1, 1) := by decide +kernel
theorem dX5_shoot_11 : decode cX5_shoot 11 = .ok (.goto 4, 3) := by decide +kernel
theorem dX5_shoot_14 : decode cX5_shoot 14 = .ok (.iconst 0, 1) := by decide +kernel
theorem dX5_shoot_15 : decode cX5_shoot 15 = .ok (.iconst 1, 1) := by decide +kernel
theorem dX5_shoot_16 : decode cX5_shoot 16 = .ok (.iconst 1, 1) := by decide +kernel
theorem dX5_shoot_17 : decode cX5_shoot 17 = .ok (.invokevirtual 115, 3) := by decide +kernel
theorem dX5_shoot_20 : decode cX5_shoot 20 = .ok (.ifCond .ne 5, 3) := by decide +kernel
theorem dX5_shoot_23 : decode cX5_shoot 23 = .ok (.iconst 0, 1) := by decide +kernel
theorem dX5_shoot_24 : decode cX5_shoot 24 = .ok (.ireturn, 1) := by decide +kernel
theorem dX5_shoot_25 : decode cX5_shoot 25 = .ok (.aload_n 0, 1) := by decide +kernel
theorem dX5_shoot_26 : decode cX5_shoot 26 = .ok (.getfield 35, 3) := by decide +kernel
theorem dX5_shoot_29 : decode cX5_shoot 29 = .ok (.aload_n 0, 1) := by decide +kernel
theorem dX5_shoot_30 : decode cX5_shoot 30 = .ok (.getfield 85, 3) := by decide +kernel
theorem dX5_shoot_33 : decode cX5_shoot 33 = .ok (.iaload, 1) := by decide +kernel
theorem dX5_shoot_34 : decode cX5_shoot 34 = .ok (.istore_n 1, 1) := by decide +kernel
theorem dX5_shoot_35 : decode cX5_shoot 35 = .ok (.iload_n 1, 1) := by decide +kernel
theorem dX5_shoot_36 : decode cX5_shoot 36 = .ok (.iconst (-1), 1) := by decide +kernel
theorem dX5_shoot_37 : decode cX5_shoot 37 = .ok (.if_icmp .eq 19, 3) := by decide +kernel
theorem dX5_shoot_40 : decode cX5_shoot 40 = .ok (.aload_n 0, 1) := by decide +kernel
theorem dX5_shoot_41 : decode cX5_shoot 41 = .ok (.iload_n 1, 1) := by decide +kernel
theorem dX5_shoot_42 : decode cX5_shoot 42 = .ok (.aload_n 0, 1) := by decide +kernel
theorem dX5_shoot_43 : decode cX5_shoot 43 = .ok (.getfield 85, 3) := by decide +kernel
theorem dX5_shoot_46 : decode cX5_shoot 46 = .ok (.invokevirtual 104, 3) := by decide +kernel
theorem dX5_shoot_49 : decode cX5_shoot 49 = .ok (.ifCond .eq 7, 3) := by decide +kernel
theorem dX5_shoot_52 : decode cX5_shoot 52 = .ok (.iload_n 1, 1) := by decide +kernel
theorem dX5_shoot_53 : decode cX5_shoot 53 = .ok (.goto 4, 3) := by decide +kernel
theorem dX5_shoot_56 : decode cX5_shoot 56 = .ok (.iconst (-1), 1) := by decide +kernel
theorem dX5_shoot_57 : decode cX5_shoot 57 = .ok (.istore_n 2, 1) := by decide +kernel
theorem dX5_shoot_58 : decode cX5_shoot 58 = .ok (.aload_n 0, 1) := by decide +kernel
theorem dX5_shoot_59 : decode cX5_shoot 59 = .ok (.getfield 35, 3) := by decide +kernel
theorem dX5_shoot_62 : decode cX5_shoot 62 = .ok (.aload_n 0, 1) := by decide +kernel
theorem dX5_shoot_63 : decode cX5_shoot 63 = .ok (.getfield 85, 3) := by decide +kernel
theorem dX5_shoot_66 : decode cX5_shoot 66 = .ok (.iconst (-1), 1) := by decide +kernel
theorem dX5_shoot_67 : decode cX5_shoot 67 = .ok (.iastore, 1) := by decide +kernel
theorem dX5_shoot_68 : decode cX5_shoot 68 = .ok (.aload_n 0, 1) := by decide +kernel
theorem dX5_shoot_69 : decode cX5_shoot 69 = .ok (.invokevirtual 98, 3) := by decide +kernel
theorem dX5_shoot_72 : decode cX5_shoot 72 = .ok (.iload_n 2, 1) := by decide +kernel
theorem dX5_shoot_73 : decode cX5_shoot 73 = .ok (.iconst (-1), 1) := by decide +kernel
theorem dX5_shoot_74 : decode cX5_shoot 74 = .ok (.if_icmp .eq 41, 3) := by decide +kernel
theorem dX5_shoot_77 : decode cX5_shoot 77 = .ok (.aload_n 0, 1) := by decide +kernel
theorem dX5_shoot_78 : decode cX5_shoot 78 = .ok (.dup, 1) := by decide +kernel
theorem dX5_shoot_79 : decode cX5_shoot 79 = .ok (.getfield 159, 3) := by decide +kernel
theorem dX5_shoot_82 : decode cX5_shoot 82 = .ok (.aload_n 0, 1) := by decide +kernel
theorem dX5_shoot_83 : decode cX5_shoot 83 = .ok (.iload_n 1, 1) := by decide +kernel
theorem dX5_shoot_84 : decode cX5_shoot 84 = .ok (.aload_n 0, 1) := by decide +kernel
theorem dX5_shoot_85 : decode cX5_shoot 85 = .ok (.getfield 9, 3) := by decide +kernel
theorem dX5_shoot_88 : decode cX5_shoot 88 = .ok (.invokevirtual 101, 3) := by decide +kernel
theorem dX5_shoot_91 : decode cX5_shoot 91 = .ok (.iadd, 1) := by decide +kernel
theorem dX5_shoot_92 : decode cX5_shoot 92 = .ok (.putfield 159, 3) := by decide +kernel
theorem dX5_shoot_95 : decode cX5_shoot 95 = .ok (.aload_n 0, 1) := by decide +kernel
theorem dX5_shoot_96 : decode cX5_shoot 96 = .ok (.aload_n 0, 1) := by decide +kernel
theorem dX5_shoot_97 : decode cX5_shoot 97 = .ok (.getfield 13, 3) := by decide +kernel
theorem dX5_shoot_100 : decode cX5_shoot 100 = .ok (.iload_n 1, 1) := by decide +kernel
theorem dX5_shoot_101 : decode cX5_shoot 101 = .ok (.iaload, 1) := by decide +kernel
theorem dX5_shoot_102 : decode cX5_shoot 102 = .ok (.putfield 9, 3) := by decide +kernel
theorem dX5_shoot_105 : decode cX5_shoot 105 = .ok (.aload_n 0, 1) := by decide +kernel
theorem dX5_shoot_106 : decode cX5_shoot 106 = .ok (.getfield 20, 3) := by decide +kernel
theorem dX5_shoot_109 : decode cX5_shoot 109 = .ok (.iload_n 1, 1) := by decide +kernel
theorem dX5_shoot_110 : decode cX5_shoot 110 = .ok (.iconst 1, 1) := by decide +kernel
theorem dX5_shoot_111 : decode cX5_shoot 111 = .ok (.iastore, 1) := by decide +kernel
theorem dX5_shoot_112 : decode cX5_shoot 112 = .ok (.goto 13, 3) := by decide +kernel
theorem dX5_shoot_115 : decode cX5_shoot 115 = .ok (.iload_n 1, 1) := by decide +kernel
theorem dX5_shoot_116 : decode cX5_shoot 116 = .ok (.iconst (-1), 1) := by decide +kernel
theorem dX5_shoot_117 : decode cX5_shoot 117 = .ok (.if_icmp .eq 8, 3) := by decide +kernel
theorem dX5_shoot_120 : decode cX5_shoot 120 = .ok (.aload_n 0, 1) := by decide +kernel
theorem dX5_shoot_121 : decode cX5_shoot 121 = .ok (.iload_n 1, 1) := by decide +kernel
theorem dX5_shoot_122 : decode cX5_shoot 122 = .ok (.invokevirtual 165, 3) := by decide +kernel
theorem dX5_shoot_125 : decode cX5_shoot 125 = .ok (.aload_n 0, 1) := by decide +kernel
theorem dX5_shoot_126 : decode cX5_shoot 126 = .ok (.invokevirtual 108, 3) := by decide +kernel
theorem dX5_shoot_129 : decode cX5_shoot 129 = .ok (.aload_n 0, 1) := by decide +kernel
theorem dX5_shoot_130 : decode cX5_shoot 130 = .ok (.invokevirtual 169, 3) := by decide +kernel
theorem dX5_shoot_133 : decode cX5_shoot 133 = .ok (.aload_n 0, 1) := by decide +kernel
theorem dX5_shoot_134 : decode cX5_shoot 134 = .ok (.dup, 1) := by decide +kernel
theorem dX5_shoot_135 : decode cX5_shoot 135 = .ok (.getfield 85, 3) := by decide +kernel
theorem dX5_shoot_138 : decode cX5_shoot 138 = .ok (.iconst 1, 1) := by decide +kernel
theorem dX5_shoot_139 : decode cX5_shoot 139 = .ok (.iadd, 1) := by decide +kernel
theorem dX5_shoot_140 : decode cX5_shoot 140 = .ok (.putfield 85, 3) := by decide +kernel
theorem dX5_shoot_143 : decode cX5_shoot 143 = .ok (.iload_n 2, 1) := by decide +kernel
theorem dX5_shoot_144 : decode cX5_shoot 144 = .ok (.ireturn, 1) := by decide +kernel
theorem dX5_isRefused_0 : decode cX5_isRefused 0 = .ok (.aload_n 0, 1) := by decide +kernel
theorem dX5_isRefused_1 : decode cX5_isRefused 1 = .ok (.getfield 35, 3) := by decide +kernel
theorem dX5_isRefused_4 : decode cX5_isRefused 4 = .ok (.iload_n 1, 1) := by decide +kernel
theorem dX5_isRefused_5 : decode cX5_isRefused 5 = .ok (.iaload, 1) := by decide +kernel
theorem dX5_isRefused_6 : decode cX5_isRefused 6 = .ok (.iconst (-1), 1) := by decide +kernel
theorem dX5_isRefused_7 : decode cX5_isRefused 7 = .ok (.if_icmp .eq 21, 3) := by decide +kernel
theorem dX5_isRefused_10 : decode cX5_isRefused 10 = .ok (.aload_n 0, 1) := by decide +kernel
theorem dX5_isRefused_11 : decode cX5_isRefused 11 = .ok (.aload_n 0, 1) := by decide +kernel
theorem dX5_isRefused_12 : decode cX5_isRefused 12 = .ok (.getfield 35, 3) := by decide +kernel
theorem dX5_isRefused_15 : decode cX5_isRefused 15 = .ok (.iload_n 1, 1) := by decide +kernel
theorem dX5_isRefused_16 : decode cX5_isRefused 16 = .ok (.iaload, 1) := by decide +kernel
theorem dX5_isRefused_17 : decode cX5_isRefused 17 = .ok (.iload_n 1, 1) := by decide +kernel
theorem dX5_isRefused_18 : decode cX5_isRefused 18 = .ok (.invokevirtual 104, 3) := by decide +kernel
theorem dX5_isRefused_21 : decode cX5_isRefused 21 = .ok (.ifCond .ne 7, 3) := by decide +kernel
theorem dX5_isRefused_24 : decode cX5_isRefused 24 = .ok (.iconst 1, 1) := by decide +kernel
theorem dX5_isRefused_25 : decode cX5_isRefused 25 = .ok (.goto 4, 3) := by decide +kernel
theorem dX5_isRefused_28 : decode cX5_isRefused 28 = .ok (.iconst 0, 1) := by decide +kernel
theorem dX5_isRefused_29 : decode cX5_isRefused 29 = .ok (.ireturn, 1) := by decide +kernel
theorem dX5_bestFor_0 : decode cX5_bestFor 0 = .ok (.iconst (-1), 1) := by decide +kernel
theorem dX5_bestFor_1 : decode cX5_bestFor 1 = .ok (.istore_n 2, 1) := by decide +kernel
theorem dX5_bestFor_2 : decode cX5_bestFor 2 = .ok (.iconst 0, 1) := by decide +kernel
theorem dX5_bestFor_3 : decode cX5_bestFor 3 = .ok (.istore_n 3, 1) := by decide +kernel
theorem dX5_bestFor_4 : decode cX5_bestFor 4 = .ok (.aload_n 0, 1) := by decide +kernel
theorem dX5_bestFor_5 : decode cX5_bestFor 5 = .ok (.getfield 85, 3) := by decide +kernel
theorem dX5_bestFor_8 : decode cX5_bestFor 8 = .ok (.istore 4, 2) := by decide +kernel
theorem dX5_bestFor_10 : decode cX5_bestFor 10 = .ok (.iload 4, 2) := by decide +kernel
theorem dX5_bestFor_12 : decode cX5_bestFor 12 = .ok (.bipush 30, 2) := by decide +kernel
theorem dX5_bestFor_14 : decode cX5_bestFor 14 = .ok (.if_icmp .ge 94, 3) := by decide +kernel
theorem dX5_bestFor_17 : decode cX5_bestFor 17 = .ok (.iload 4, 2) := by decide +kernel
theorem dX5_bestFor_19 : decode cX5_bestFor 19 = .ok (.iload_n 1, 1) := by decide +kernel
theorem dX5_bestFor_20 : decode cX5_bestFor 20 = .ok (.if_icmp .eq 82, 3) := by decide +kernel
theorem dX5_bestFor_23 : decode cX5_bestFor 23 = .ok (.aload_n 0, 1) := by decide +kernel
theorem dX5_bestFor_24 : decode cX5_bestFor 24 = .ok (.iload_n 1, 1) := by decide +kernel
theorem dX5_bestFor_25 : decode cX5_bestFor 25 = .ok (.iload 4, 2) := by decide +kernel
theorem dX5_bestFor_27 : decode cX5_bestFor 27 = .ok (.invokevirtual 143, 3) := by decide +kernel
theorem dX5_bestFor_30 : decode cX5_bestFor 30 = .ok (.aload_n 0, 1) := by decide +kernel
theorem dX5_bestFor_31 : decode cX5_bestFor 31 = .ok (.invokevirtual 146, 3) := by decide +kernel
theorem dX5_bestFor_34 : decode cX5_bestFor 34 = .ok (.istore 5, 2) := by decide +kernel
theorem dX5_bestFor_36 : decode cX5_bestFor 36 = .ok (.aload_n 0, 1) := by decide +kernel
theorem dX5_bestFor_37 : decode cX5_bestFor 37 = .ok (.iload_n 1, 1) := by decide +kernel
theorem dX5_bestFor_38 : decode cX5_bestFor 38 = .ok (.invokevirtual 172, 3) := by decide +kernel
theorem dX5_bestFor_41 : decode cX5_bestFor 41 = .ok (.ifCond .ne 27, 3) := by decide +kernel
theorem dX5_bestFor_44 : decode cX5_bestFor 44 = .ok (.aload_n 0, 1) := by decide +kernel
theorem dX5_bestFor_45 : decode cX5_bestFor 45 = .ok (.iload 4, 2) := by decide +kernel
theorem dX5_bestFor_47 : decode cX5_bestFor 47 = .ok (.invokevirtual 172, 3) := by decide +kernel
theorem dX5_bestFor_50 : decode cX5_bestFor 50 = .ok (.ifCond .ne 18, 3) := by decide +kernel
theorem dX5_bestFor_53 : decode cX5_bestFor 53 = .ok (.iload_n 2, 1) := by decide +kernel
theorem dX5_bestFor_54 : decode cX5_bestFor 54 = .ok (.iconst (-1), 1) := by decide +kernel
theorem dX5_bestFor_55 : decode cX5_bestFor 55 = .ok (.if_icmp .eq 9, 3) := by decide +kernel
theorem dX5_bestFor_58 : decode cX5_bestFor 58 = .ok (.iload 5, 2) := by decide +kernel
theorem dX5_bestFor_60 : decode cX5_bestFor 60 = .ok (.iload_n 3, 1) := by decide +kernel
theorem dX5_bestFor_61 : decode cX5_bestFor 61 = .ok (.if_icmp .ge 7, 3) := by decide +kernel
theorem dX5_bestFor_64 : decode cX5_bestFor 64 = .ok (.iconst 1, 1) := by decide +kernel
theorem dX5_bestFor_65 : decode cX5_bestFor 65 = .ok (.goto 4, 3) := by decide +kernel
theorem dX5_bestFor_68 : decode cX5_bestFor 68 = .ok (.iconst 0, 1) := by decide +kernel
theorem dX5_bestFor_69 : decode cX5_bestFor 69 = .ok (.istore 6, 2) := by decide +kernel
theorem dX5_bestFor_71 : decode cX5_bestFor 71 = .ok (.iload 6, 2) := by decide +kernel
theorem dX5_bestFor_73 : decode cX5_bestFor 73 = .ok (.ifCond .eq 8, 3) := by decide +kernel
theorem dX5_bestFor_76 : decode cX5_bestFor 76 = .ok (.iload 4, 2) := by decide +kernel
theorem dX5_bestFor_78 : decode cX5_bestFor 78 = .ok (.goto 4, 3) := by decide +kernel
theorem dX5_bestFor_81 : decode cX5_bestFor 81 = .ok (.iload_n 2, 1) := by decide +kernel
theorem dX5_bestFor_82 : decode cX5_bestFor 82 = .ok (.istore_n 2, 1) := by decide +kernel
theorem dX5_bestFor_83 : decode cX5_bestFor 83 = .ok (.iload 6, 2) := by decide +kernel
theorem dX5_bestFor_85 : decode cX5_bestFor 85 = .ok (.ifCond .eq 8, 3) := by decide +kernel
theorem dX5_bestFor_88 : decode cX5_bestFor 88 = .ok (.iload 5, 2) := by decide +kernel
theorem dX5_bestFor_90 : decode cX5_bestFor 90 = .ok (.goto 4, 3) := by decide +kernel
theorem dX5_bestFor_93 : decode cX5_bestFor 93 = .ok (.iload_n 3, 1) := by decide +kernel
theorem dX5_bestFor_94 : decode cX5_bestFor 94 = .ok (.istore_n 3, 1) := by decide +kernel
theorem dX5_bestFor_95 : decode cX5_bestFor 95 = .ok (.aload_n 0, 1) := by decide +kernel
theorem dX5_bestFor_96 : decode cX5_bestFor 96 = .ok (.iload_n 1, 1) := by decide +kernel
theorem dX5_bestFor_97 : decode cX5_bestFor 97 = .ok (.iload 4, 2) := by decide +kernel
theorem dX5_bestFor_99 : decode cX5_bestFor 99 = .ok (.invokevirtual 143, 3) := by decide +kernel
theorem dX5_bestFor_102 : decode cX5_bestFor 102 = .ok (.iinc 4 1, 3) := by decide +kernel
theorem dX5_bestFor_105 : decode cX5_bestFor 105 = .ok (.goto (-95), 3) := by decide +kernel
theorem dX5_bestFor_108 : decode cX5_bestFor 108 = .ok (.iload_n 2, 1) := by decide +kernel
theorem dX5_bestFor_109 : decode cX5_bestFor 109 = .ok (.ireturn, 1) := by decide +kernel
theorem dX5_mend_0 : decode cX5_mend 0 = .ok (.iconst 0, 1) := by decide +kernel
theorem dX5_mend_1 : decode cX5_mend 1 = .ok (.istore_n 1, 1) := by decide +kernel
theorem dX5_mend_2 : decode cX5_mend 2 = .ok (.aload_n 0, 1) := by decide +kernel
theorem dX5_mend_3 : decode cX5_mend 3 = .ok (.getfield 85, 3) := by decide +kernel
theorem dX5_mend_6 : decode cX5_mend 6 = .ok (.istore_n 2, 1) := by decide +kernel
theorem dX5_mend_7 : decode cX5_mend 7 = .ok (.iload_n 2, 1) := by decide +kernel
theorem dX5_mend_8 : decode cX5_mend 8 = .ok (.bipush 30, 2) := by decide +kernel
theorem dX5_mend_10 : decode cX5_mend 10 = .ok (.if_icmp .ge 41, 3) := by decide +kernel
theorem dX5_mend_13 : decode cX5_mend 13 = .ok (.aload_n 0, 1) := by decide +kernel
theorem dX5_mend_14 : decode cX5_mend 14 = .ok (.iload_n 2, 1) := by decide +kernel
theorem dX5_mend_15 : decode cX5_mend 15 = .ok (.invokevirtual 172, 3) := by decide +kernel
theorem dX5_mend_18 : decode cX5_mend 18 = .ok (.ifCond .eq 11, 3) := by decide +kernel
theorem dX5_mend_21 : decode cX5_mend 21 = .ok (.aload_n 0, 1) := by decide +kernel
theorem dX5_mend_22 : decode cX5_mend 22 = .ok (.iload_n 2, 1) := by decide +kernel
theorem dX5_mend_23 : decode cX5_mend 23 = .ok (.invokevirtual 175, 3) := by decide +kernel
theorem dX5_mend_26 : decode cX5_mend 26 = .ok (.goto 4, 3) := by decide +kernel
theorem dX5_mend_29 : decode cX5_mend 29 = .ok (.iconst (-1), 1) := by decide +kernel
theorem dX5_mend_30 : decode cX5_mend 30 = .ok (.istore_n 3, 1) := by decide +kernel
theorem dX5_mend_31 : decode cX5_mend 31 = .ok (.iload_n 3, 1) := by decide +kernel
theorem dX5_mend_32 : decode cX5_mend 32 = .ok (.iconst (-1), 1) := by decide +kernel
theorem dX5_mend_33 : decode cX5_mend 33 = .ok (.if_icmp .eq 12, 3) := by decide +kernel
theorem dX5_mend_36 : decode cX5_mend 36 = .ok (.aload_n 0, 1) := by decide +kernel
theorem dX5_mend_37 : decode cX5_mend 37 = .ok (.iload_n 2, 1) := by decide +kernel
theorem dX5_mend_38 : decode cX5_mend 38 = .ok (.iload_n 3, 1) := by decide +kernel
theorem dX5_mend_39 : decode cX5_mend 39 = .ok (.invokevirtual 143, 3) := by decide +kernel
theorem dX5_mend_42 : decode cX5_mend 42 = .ok (.iinc 1 1, 3) := by decide +kernel
theorem dX5_mend_45 : decode cX5_mend 45 = .ok (.iinc 2 1, 3) := by decide +kernel
theorem dX5_mend_48 : decode cX5_mend 48 = .ok (.goto (-41), 3) := by decide +kernel
theorem dX5_mend_51 : decode cX5_mend 51 = .ok (.aload_n 0, 1) := by decide +kernel
theorem dX5_mend_52 : decode cX5_mend 52 = .ok (.iload_n 1, 1) := by decide +kernel
theorem dX5_mend_53 : decode cX5_mend 53 = .ok (.invokevirtual 162, 3) := by decide +kernel
theorem dX5_mend_56 : decode cX5_mend 56 = .ok (.ireturn, 1) := by decide +kernel
theorem dX5_bestSwap_0 : decode cX5_bestSwap 0 = .ok (.aload_n 0, 1) := by decide +kernel
theorem dX5_bestSwap_1 : decode cX5_bestSwap 1 = .ok (.invokevirtual 146, 3) := by decide +kernel
theorem dX5_bestSwap_4 : decode cX5_bestSwap 4 = .ok (.istore_n 1, 1) := by decide +kernel
theorem dX5_bestSwap_5 : decode cX5_bestSwap 5 = .ok (.iconst (-1), 1) := by decide +kernel
theorem dX5_bestSwap_6 : decode cX5_bestSwap 6 = .ok (.istore_n 2, 1) := by decide +kernel
theorem dX5_bestSwap_7 : decode cX5_bestSwap 7 = .ok (.aload_n 0, 1) := by decide +kernel
theorem dX5_bestSwap_8 : decode cX5_bestSwap 8 = .ok (.getfield 85, 3) := by decide +kernel
theorem dX5_bestSwap_11 : decode cX5_bestSwap 11 = .ok (.istore_n 3, 1) := by decide +kernel
theorem dX5_bestSwap_12 : decode cX5_bestSwap 12 = .ok (.iload_n 3, 1) := by decide +kernel
theorem dX5_bestSwap_13 : decode cX5_bestSwap 13 = .ok (.bipush 30, 2) := by decide +kernel
theorem dX5_bestSwap_15 : decode cX5_bestSwap 15 = .ok (.if_icmp .ge 94, 3) := by decide +kernel
theorem dX5_bestSwap_18 : decode cX5_bestSwap 18 = .ok (.iload_n 3, 1) := by decide +kernel
theorem dX5_bestSwap_19 : decode cX5_bestSwap 19 = .ok (.iconst 1, 1) := by decide +kernel
theorem dX5_bestSwap_20 : decode cX5_bestSwap 20 = .ok (.iadd, 1) := by decide +kernel
theorem dX5_bestSwap_21 : decode cX5_bestSwap 21 = .ok (.istore 4, 2) := by decide +kernel
theorem dX5_bestSwap_23 : decode cX5_bestSwap 23 = .ok (.iload 4, 2) := by decide +kernel
theorem dX5_bestSwap_25 : decode cX5_bestSwap 25 = .ok (.bipush 30, 2) := by decide +kernel
theorem dX5_bestSwap_27 : decode cX5_bestSwap 27 = .ok (.if_icmp .ge 76, 3) := by decide +kernel
theorem dX5_bestSwap_30 : decode cX5_bestSwap 30 = .ok (.aload_n 0, 1) := by decide +kernel
theorem dX5_bestSwap_31 : decode cX5_bestSwap 31 = .ok (.getfield 35, 3) := by decide +kernel
theorem dX5_bestSwap_34 : decode cX5_bestSwap 34 = .ok (.iload_n 3, 1) := by decide +kernel
theorem dX5_bestSwap_35 : decode cX5_bestSwap 35 = .ok (.iaload, 1) := by decide +kernel
theorem dX5_bestSwap_36 : decode cX5_bestSwap 36 = .ok (.aload_n 0, 1) := by decide +kernel
theorem dX5_bestSwap_37 : decode cX5_bestSwap 37 = .ok (.getfield 35, 3) := by decide +kernel
theorem dX5_bestSwap_40 : decode cX5_bestSwap 40 = .ok (.iload 4, 2) := by decide +kernel
theorem dX5_bestSwap_42 : decode cX5_bestSwap 42 = .ok (.iaload, 1) := by decide +kernel
theorem dX5_bestSwap_43 : decode cX5_bestSwap 43 = .ok (.if_icmp .eq 54, 3) := by decide +kernel
theorem dX5_bestSwap_46 : decode cX5_bestSwap 46 = .ok (.aload_n 0, 1) := by decide +kernel
theorem dX5_bestSwap_47 : decode cX5_bestSwap 47 = .ok (.iload_n 3, 1) := by decide +kernel
theorem dX5_bestSwap_48 : decode cX5_bestSwap 48 = .ok (.iload 4, 2) := by decide +kernel
theorem dX5_bestSwap_50 : decode cX5_bestSwap 50 = .ok (.invokevirtual 143, 3) := by decide +kernel
theorem dX5_bestSwap_53 : decode cX5_bestSwap 53 = .ok (.aload_n 0, 1) := by decide +kernel
theorem dX5_bestSwap_54 : decode cX5_bestSwap 54 = .ok (.invokevirtual 146, 3) := by decide +kernel
theorem dX5_bestSwap_57 : decode cX5_bestSwap 57 = .ok (.istore 5, 2) := by decide +kernel
theorem dX5_bestSwap_59 : decode cX5_bestSwap 59 = .ok (.iload 5, 2) := by decide +kernel
theorem dX5_bestSwap_61 : decode cX5_bestSwap 61 = .ok (.iload_n 1, 1) := by decide +kernel
theorem dX5_bestSwap_62 : decode cX5_bestSwap 62 = .ok (.if_icmp .ge 13, 3) := by decide +kernel
theorem dX5_bestSwap_65 : decode cX5_bestSwap 65 = .ok (.bipush 30, 2) := by decide +kernel
theorem dX5_bestSwap_67 : decode cX5_bestSwap 67 = .ok (.iload_n 3, 1) := by decide +kernel
theorem dX5_bestSwap_68 : decode cX5_bestSwap 68 = .ok (.imul, 1) := by decide +kernel
theorem dX5_bestSwap_69 : decode cX5_bestSwap 69 = .ok (.iload 4, 2) := by decide +kernel
theorem dX5_bestSwap_71 : decode cX5_bestSwap 71 = .ok (.iadd, 1) := by decide +kernel
theorem dX5_bestSwap_72 : decode cX5_bestSwap 72 = .ok (.goto 4, 3) := by decide +kernel
theorem dX5_bestSwap_75 : decode cX5_bestSwap 75 = .ok (.iload_n 2, 1) := by decide +kernel
theorem dX5_bestSwap_76 : decode cX5_bestSwap 76 = .ok (.istore_n 2, 1) := by decide +kernel
theorem dX5_bestSwap_77 : decode cX5_bestSwap 77 = .ok (.iload 5, 2) := by decide +kernel
theorem dX5_bestSwap_79 : decode cX5_bestSwap 79 = .ok (.iload_n 1, 1) := by decide +kernel
theorem dX5_bestSwap_80 : decode cX5_bestSwap 80 = .ok (.if_icmp .ge 8, 3) := by decide +kernel
theorem dX5_bestSwap_83 : decode cX5_bestSwap 83 = .ok (.iload 5, 2) := by decide +kernel
theorem dX5_bestSwap_85 : decode cX5_bestSwap 85 = .ok (.goto 4, 3) := by decide +kernel
theorem dX5_bestSwap_88 : decode cX5_bestSwap 88 = .ok (.iload_n 1, 1) := by decide +kernel
theorem dX5_bestSwap_89 : decode cX5_bestSwap 89 = .ok (.istore_n 1, 1) := by decide +kernel
theorem dX5_bestSwap_90 : decode cX5_bestSwap 90 = .ok (.aload_n 0, 1) := by decide +kernel
theorem dX5_bestSwap_91 : decode cX5_bestSwap 91 = .ok (.iload_n 3, 1) := by decide +kernel
theorem dX5_bestSwap_92 : decode cX5_bestSwap 92 = .ok (.iload 4, 2) := by decide +kernel
theorem dX5_bestSwap_94 : decode cX5_bestSwap 94 = .ok (.invokevirtual 143, 3) := by decide +kernel
theorem dX5_bestSwap_97 : decode cX5_bestSwap 97 = .ok (.iinc 4 1, 3) := by decide +kernel
theorem dX5_bestSwap_100 : decode cX5_bestSwap 100 = .ok (.goto (-77), 3) := by decide +kernel
theorem dX5_bestSwap_103 : decode cX5_bestSwap 103 = .ok (.iinc 3 1, 3) := by decide +kernel
theorem dX5_bestSwap_106 : decode cX5_bestSwap 106 = .ok (.goto (-94), 3) := by decide +kernel
theorem dX5_bestSwap_109 : decode cX5_bestSwap 109 = .ok (.iload_n 2, 1) := by decide +kernel
theorem dX5_bestSwap_110 : decode cX5_bestSwap 110 = .ok (.ireturn, 1) := by decide +kernel
theorem dX5_better_0 : decode cX5_better 0 = .ok (.iconst 0, 1) := by decide +kernel
theorem dX5_better_1 : decode cX5_better 1 = .ok (.istore_n 1, 1) := by decide +kernel
theorem dX5_better_2 : decode cX5_better 2 = .ok (.aload_n 0, 1) := by decide +kernel
theorem dX5_better_3 : decode cX5_better 3 = .ok (.invokevirtual 178, 3) := by decide +kernel
theorem dX5_better_6 : decode cX5_better 6 = .ok (.istore_n 2, 1) := by decide +kernel
theorem dX5_better_7 : decode cX5_better 7 = .ok (.iload_n 2, 1) := by decide +kernel
theorem dX5_better_8 : decode cX5_better 8 = .ok (.iconst (-1), 1) := by decide +kernel
theorem dX5_better_9 : decode cX5_better 9 = .ok (.if_icmp .eq 26, 3) := by decide +kernel
theorem dX5_better_12 : decode cX5_better 12 = .ok (.aload_n 0, 1) := by decide +kernel
theorem dX5_better_13 : decode cX5_better 13 = .ok (.iload_n 2, 1) := by decide +kernel
theorem dX5_better_14 : decode cX5_better 14 = .ok (.bipush 30, 2) := by decide +kernel
theorem dX5_better_16 : decode cX5_better 16 = .ok (.idiv, 1) := by decide +kernel
theorem dX5_better_17 : decode cX5_better 17 = .ok (.iload_n 2, 1) := by decide +kernel
theorem dX5_better_18 : decode cX5_better 18 = .ok (.bipush 30, 2) := by decide +kernel
theorem dX5_better_20 : decode cX5_better 20 = .ok (.irem, 1) := by decide +kernel
theorem dX5_better_21 : decode cX5_better 21 = .ok (.invokevirtual 143, 3) := by decide +kernel
theorem dX5_better_24 : decode cX5_better 24 = .ok (.iinc 1 1, 3) := by decide +kernel
theorem dX5_better_27 : decode cX5_better 27 = .ok (.aload_n 0, 1) := by decide +kernel
theorem dX5_better_28 : decode cX5_better 28 = .ok (.invokevirtual 178, 3) := by decide +kernel
theorem dX5_better_31 : decode cX5_better 31 = .ok (.istore_n 2, 1) := by decide +kernel
theorem dX5_better_32 : decode cX5_better 32 = .ok (.goto (-25), 3) := by decide +kernel
theorem dX5_better_35 : decode cX5_better 35 = .ok (.aload_n 0, 1) := by decide +kernel
theorem dX5_better_36 : decode cX5_better 36 = .ok (.iload_n 1, 1) := by decide +kernel
theorem dX5_better_37 : decode cX5_better 37 = .ok (.invokevirtual 162, 3) := by decide +kernel
theorem dX5_better_40 : decode cX5_better 40 = .ok (.ireturn, 1) := by decide +kernel
theorem dX5_planned_0 : decode cX5_planned 0 = .ok (.iconst 0, 1) := by decide +kernel
theorem dX5_planned_1 : decode cX5_planned 1 = .ok (.istore_n 1, 1) := by decide +kernel
theorem dX5_planned_2 : decode cX5_planned 2 = .ok (.aload_n 0, 1) := by decide +kernel
theorem dX5_planned_3 : decode cX5_planned 3 = .ok (.getfield 85, 3) := by decide +kernel
theorem dX5_planned_6 : decode cX5_planned 6 = .ok (.istore_n 2, 1) := by decide +kernel
theorem dX5_planned_7 : decode cX5_planned 7 = .ok (.iload_n 2, 1) := by decide +kernel
theorem dX5_planned_8 : decode cX5_planned 8 = .ok (.bipush 30, 2) := by decide +kernel
theorem dX5_planned_10 : decode cX5_planned 10 = .ok (.if_icmp .ge 41, 3) := by decide +kernel
theorem dX5_planned_13 : decode cX5_planned 13 = .ok (.aload_n 0, 1) := by decide +kernel
theorem dX5_planned_14 : decode cX5_planned 14 = .ok (.getfield 35, 3) := by decide +kernel
theorem dX5_planned_17 : decode cX5_planned 17 = .ok (.iload_n 2, 1) := by decide +kernel
theorem dX5_planned_18 : decode cX5_planned 18 = .ok (.iaload, 1) := by decide +kernel
theorem dX5_planned_19 : decode cX5_planned 19 = .ok (.iconst (-1), 1) := by decide +kernel
theorem dX5_planned_20 : decode cX5_planned 20 = .ok (.if_icmp .eq 25, 3) := by decide +kernel
theorem dX5_planned_23 : decode cX5_planned 23 = .ok (.aload_n 0, 1) := by decide +kernel
theorem dX5_planned_24 : decode cX5_planned 24 = .ok (.getfield 69, 3) := by decide +kernel
theorem dX5_planned_27 : decode cX5_planned 27 = .ok (.iload_n 1, 1) := by decide +kernel
theorem dX5_planned_28 : decode cX5_planned 28 = .ok (.iload_n 2, 1) := by decide +kernel
theorem dX5_planned_29 : decode cX5_planned 29 = .ok (.iastore, 1) := by decide +kernel
theorem dX5_planned_30 : decode cX5_planned 30 = .ok (.aload_n 0, 1) := by decide +kernel
theorem dX5_planned_31 : decode cX5_planned 31 = .ok (.getfield 72, 3) := by decide +kernel
theorem dX5_planned_34 : decode cX5_planned 34 = .ok (.iload_n 1, 1) := by decide +kernel
theorem dX5_planned_35 : decode cX5_planned 35 = .ok (.aload_n 0, 1) := by decide +kernel
theorem dX5_planned_36 : decode cX5_planned 36 = .ok (.getfield 35, 3) := by decide +kernel
theorem dX5_planned_39 : decode cX5_planned 39 = .ok (.iload_n 2, 1) := by decide +kernel
theorem dX5_planned_40 : decode cX5_planned 40 = .ok (.iaload, 1) := by decide +kernel
theorem dX5_planned_41 : decode cX5_planned 41 = .ok (.iastore, 1) := by decide +kernel
theorem dX5_planned_42 : decode cX5_planned 42 = .ok (.iinc 1 1, 3) := by decide +kernel
theorem dX5_planned_45 : decode cX5_planned 45 = .ok (.iinc 2 1, 3) := by decide +kernel
theorem dX5_planned_48 : decode cX5_planned 48 = .ok (.goto (-41), 3) := by decide +kernel
theorem dX5_planned_51 : decode cX5_planned 51 = .ok (.iload_n 1, 1) := by decide +kernel
theorem dX5_planned_52 : decode cX5_planned 52 = .ok (.ireturn, 1) := by decide +kernel
theorem dX5_orders_0 : decode cX5_orders 0 = .ok (.iload_n 2, 1) := by decide +kernel
theorem dX5_orders_1 : decode cX5_orders 1 = .ok (.istore_n 3, 1) := by decide +kernel
theorem dX5_orders_2 : decode cX5_orders 2 = .ok (.iconst 1, 1) := by decide +kernel
theorem dX5_orders_3 : decode cX5_orders 3 = .ok (.iload_n 1, 1) := by decide +kernel
theorem dX5_orders_4 : decode cX5_orders 4 = .ok (.ishl, 1) := by decide +kernel
theorem dX5_orders_5 : decode cX5_orders 5 = .ok (.iconst 1, 1) := by decide +kernel
theorem dX5_orders_6 : decode cX5_orders 6 = .ok (.isub, 1) := by decide +kernel
theorem dX5_orders_7 : decode cX5_orders 7 = .ok (.istore 4, 2) := by decide +kernel
theorem dX5_orders_9 : decode cX5_orders 9 = .ok (.iconst 0, 1) := by decide +kernel
theorem dX5_orders_10 : decode cX5_orders 10 = .ok (.istore 5, 2) := by decide +kernel
theorem dX5_orders_12 : decode cX5_orders 12 = .ok (.iload 5, 2) := by decide +kernel
theorem dX5_orders_14 : decode cX5_orders 14 = .ok (.iload_n 1, 1) := by decide +kernel
theorem dX5_orders_15 : decode cX5_orders 15 = .ok (.if_icmp .ge 90, 3) := by decide +kernel
theorem dX5_orders_18 : decode cX5_orders 18 = .ok (.iload_n 3, 1) := by decide +kernel
theorem dX5_orders_19 : decode cX5_orders 19 = .ok (.iload_n 1, 1) := by decide +kernel
theorem dX5_orders_20 : decode cX5_orders 20 = .ok (.iload 5, 2) := by decide +kernel
theorem dX5_orders_22 : decode cX5_orders 22 = .ok (.isub, 1) := by decide +kernel
theorem dX5_orders_23 : decode cX5_orders 23 = .ok (.irem, 1) := by decide +kernel
theorem dX5_orders_24 : decode cX5_orders 24 = .ok (.istore 6, 2) := by decide +kernel
theorem dX5_orders_26 : decode cX5_orders 26 = .ok (.iload_n 3, 1) := by decide +kernel
theorem dX5_orders_27 : decode cX5_orders 27 = .ok (.iload_n 1, 1) := by decide +kernel
theorem dX5_orders_28 : decode cX5_orders 28 = .ok (.iload 5, 2) := by decide +kernel
theorem dX5_orders_30 : decode cX5_orders 30 = .ok (.isub, 1) := by decide +kernel
theorem dX5_orders_31 : decode cX5_orders 31 = .ok (.idiv, 1) := by decide +kernel
theorem dX5_orders_32 : decode cX5_orders 32 = .ok (.istore_n 3, 1) := by decide +kernel
theorem dX5_orders_33 : decode cX5_orders 33 = .ok (.iconst 0, 1) := by decide +kernel
theorem dX5_orders_34 : decode cX5_orders 34 = .ok (.istore 7, 2) := by decide +kernel
theorem dX5_orders_36 : decode cX5_orders 36 = .ok (.iload 4, 2) := by decide +kernel
theorem dX5_orders_38 : decode cX5_orders 38 = .ok (.iload 7, 2) := by decide +kernel
theorem dX5_orders_40 : decode cX5_orders 40 = .ok (.ishr, 1) := by decide +kernel
theorem dX5_orders_41 : decode cX5_orders 41 = .ok (.iconst 1, 1) := by decide +kernel
theorem dX5_orders_42 : decode cX5_orders 42 = .ok (.iand, 1) := by decide +kernel
theorem dX5_orders_43 : decode cX5_orders 43 = .ok (.ifCond .eq 8, 3) := by decide +kernel
theorem dX5_orders_46 : decode cX5_orders 46 = .ok (.iload 6, 2) := by decide +kernel
theorem dX5_orders_48 : decode cX5_orders 48 = .ok (.ifCond .le 21, 3) := by decide +kernel
theorem dX5_orders_51 : decode cX5_orders 51 = .ok (.iload 6, 2) := by decide +kernel
theorem dX5_orders_53 : decode cX5_orders 53 = .ok (.iload 4, 2) := by decide +kernel
theorem dX5_orders_55 : decode cX5_orders 55 = .ok (.iload 7, 2) := by decide +kernel
theorem dX5_orders_57 : decode cX5_orders 57 = .ok (.ishr, 1) := by decide +kernel
theorem dX5_orders_58 : decode cX5_orders 58 = .ok (.iconst 1, 1) := by decide +kernel
theorem dX5_orders_59 : decode cX5_orders 59 = .ok (.iand, 1) := by decide +kernel
theorem dX5_orders_60 : decode cX5_orders 60 = .ok (.isub, 1) := by decide +kernel
theorem dX5_orders_61 : decode cX5_orders 61 = .ok (.istore 6, 2) := by decide +kernel
theorem dX5_orders_63 : decode cX5_orders 63 = .ok (.iinc 7 1, 3) := by decide +kernel
theorem dX5_orders_66 : decode cX5_orders 66 = .ok (.goto (-30), 3) := by decide +kernel
theorem dX5_orders_69 : decode cX5_orders 69 = .ok (.iload 4, 2) := by decide +kernel
theorem dX5_orders_71 : decode cX5_orders 71 = .ok (.iconst 1, 1) := by decide +kernel
theorem dX5_orders_72 : decode cX5_orders 72 = .ok (.iload 7, 2) := by decide +kernel
theorem dX5_orders_74 : decode cX5_orders 74 = .ok (.ishl, 1) := by decide +kernel
theorem dX5_orders_75 : decode cX5_orders 75 = .ok (.iconst (-1), 1) := by decide +kernel
theorem dX5_orders_76 : decode cX5_orders 76 = .ok (.ixor, 1) := by decide +kernel
theorem dX5_orders_77 : decode cX5_orders 77 = .ok (.iand, 1) := by decide +kernel
theorem dX5_orders_78 : decode cX5_orders 78 = .ok (.istore 4, 2) := by decide +kernel
theorem dX5_orders_80 : decode cX5_orders 80 = .ok (.aload_n 0, 1) := by decide +kernel
theorem dX5_orders_81 : decode cX5_orders 81 = .ok (.getfield 35, 3) := by decide +kernel
theorem dX5_orders_84 : decode cX5_orders 84 = .ok (.aload_n 0, 1) := by decide +kernel
theorem dX5_orders_85 : decode cX5_orders 85 = .ok (.getfield 69, 3) := by decide +kernel
theorem dX5_orders_88 : decode cX5_orders 88 = .ok (.iload 5, 2) := by decide +kernel
theorem dX5_orders_90 : decode cX5_orders 90 = .ok (.iaload, 1) := by decide +kernel
theorem dX5_orders_91 : decode cX5_orders 91 = .ok (.aload_n 0, 1) := by decide +kernel
theorem dX5_orders_92 : decode cX5_orders 92 = .ok (.getfield 72, 3) := by decide +kernel
theorem dX5_orders_95 : decode cX5_orders 95 = .ok (.iload 7, 2) := by decide +kernel
theorem dX5_orders_97 : decode cX5_orders 97 = .ok (.iaload, 1) := by decide +kernel
theorem dX5_orders_98 : decode cX5_orders 98 = .ok (.iastore, 1) := by decide +kernel
theorem dX5_orders_99 : decode cX5_orders 99 = .ok (.iinc 5 1, 3) := by decide +kernel
theorem dX5_orders_102 : decode cX5_orders 102 = .ok (.goto (-90), 3) := by decide +kernel
theorem dX5_orders_105 : decode cX5_orders 105 = .ok (.return_, 1) := by decide +kernel
theorem dX5_least_0 : decode cX5_least 0 = .ok (.aload_n 0, 1) := by decide +kernel
theorem dX5_least_1 : decode cX5_least 1 = .ok (.invokevirtual 181, 3) := by decide +kernel
theorem dX5_least_4 : decode cX5_least 4 = .ok (.istore_n 1, 1) := by decide +kernel
theorem dX5_least_5 : decode cX5_least 5 = .ok (.aload_n 0, 1) := by decide +kernel
theorem dX5_least_6 : decode cX5_least 6 = .ok (.iload_n 1, 1) := by decide +kernel
theorem dX5_least_7 : decode cX5_least 7 = .ok (.iconst 5, 1) := by decide +kernel
theorem dX5_least_8 : decode cX5_least 8 = .ok (.if_icmp .gt 7, 3) := by decide +kernel
theorem dX5_least_11 : decode cX5_least 11 = .ok (.iconst 1, 1) := by decide +kernel
theorem dX5_least_12 : decode cX5_least 12 = .ok (.goto 4, 3) := by decide +kernel
theorem dX5_least_15 : decode cX5_least 15 = .ok (.iconst 0, 1) := by decide +kernel
theorem dX5_least_16 : decode cX5_least 16 = .ok (.iconst 1, 1) := by decide +kernel
theorem dX5_least_17 : decode cX5_least 17 = .ok (.iconst 1, 1) := by decide +kernel
theorem dX5_least_18 : decode cX5_least 18 = .ok (.invokevirtual 115, 3) := by decide +kernel
theorem dX5_least_21 : decode cX5_least 21 = .ok (.ifCond .ne 5, 3) := by decide +kernel
theorem dX5_least_24 : decode cX5_least 24 = .ok (.iconst 0, 1) := by decide +kernel
theorem dX5_least_25 : decode cX5_least 25 = .ok (.ireturn, 1) := by decide +kernel
theorem dX5_least_26 : decode cX5_least 26 = .ok (.iconst 1, 1) := by decide +kernel
theorem dX5_least_27 : decode cX5_least 27 = .ok (.istore_n 2, 1) := by decide +kernel
theorem dX5_least_28 : decode cX5_least 28 = .ok (.iconst 2, 1) := by decide +kernel
theorem dX5_least_29 : decode cX5_least 29 = .ok (.istore_n 3, 1) := by decide +kernel
theorem dX5_least_30 : decode cX5_least 30 = .ok (.iload_n 3, 1) := by decide +kernel
theorem dX5_least_31 : decode cX5_least 31 = .ok (.iload_n 1, 1) := by decide +kernel
theorem dX5_least_32 : decode cX5_least 32 = .ok (.if_icmp .gt 13, 3) := by decide +kernel
theorem dX5_least_35 : decode cX5_least 35 = .ok (.iload_n 2, 1) := by decide +kernel
theorem dX5_least_36 : decode cX5_least 36 = .ok (.iload_n 3, 1) := by decide +kernel
theorem dX5_least_37 : decode cX5_least 37 = .ok (.imul, 1) := by decide +kernel
theorem dX5_least_38 : decode cX5_least 38 = .ok (.istore_n 2, 1) := by decide +kernel
theorem dX5_least_39 : decode cX5_least 39 = .ok (.iinc 3 1, 3) := by decide +kernel
theorem dX5_least_42 : decode cX5_least 42 = .ok (.goto (-12), 3) := by decide +kernel
theorem dX5_least_45 : decode cX5_least 45 = .ok (.aload_n 0, 1) := by decide +kernel
theorem dX5_least_46 : decode cX5_least 46 = .ok (.invokevirtual 146, 3) := by decide +kernel
theorem dX5_least_49 : decode cX5_least 49 = .ok (.istore_n 3, 1) := by decide +kernel
theorem dX5_least_50 : decode cX5_least 50 = .ok (.iconst 0, 1) := by decide +kernel
theorem dX5_least_51 : decode cX5_least 51 = .ok (.istore 4, 2) := by decide +kernel
theorem dX5_least_53 : decode cX5_least 53 = .ok (.iload 4, 2) := by decide +kernel
theorem dX5_least_55 : decode cX5_least 55 = .ok (.iload_n 2, 1) := by decide +kernel
theorem dX5_least_56 : decode cX5_least 56 = .ok (.if_icmp .ge 35, 3) := by decide +kernel
theorem dX5_least_59 : decode cX5_least 59 = .ok (.aload_n 0, 1) := by decide +kernel
theorem dX5_least_60 : decode cX5_least 60 = .ok (.iload_n 1, 1) := by decide +kernel
theorem dX5_least_61 : decode cX5_least 61 = .ok (.iload 4, 2) := by decide +kernel
theorem dX5_least_63 : decode cX5_least 63 = .ok (.invokevirtual 184, 3) := by decide +kernel
theorem dX5_least_66 : decode cX5_least 66 = .ok (.aload_n 0, 1) := by decide +kernel
theorem dX5_least_67 : decode cX5_least 67 = .ok (.invokevirtual 146, 3) := by decide +kernel
theorem dX5_least_70 : decode cX5_least 70 = .ok (.istore 5, 2) := by decide +kernel
theorem dX5_least_72 : decode cX5_least 72 = .ok (.iload 5, 2) := by decide +kernel
theorem dX5_least_74 : decode cX5_least 74 = .ok (.iload_n 3, 1) := by decide +kernel
theorem dX5_least_75 : decode cX5_least 75 = .ok (.if_icmp .ge 8, 3) := by decide +kernel
theorem dX5_least_78 : decode cX5_least 78 = .ok (.iload 5, 2) := by decide +kernel
theorem dX5_least_80 : decode cX5_least 80 = .ok (.goto 4, 3) := by decide +kernel
theorem dX5_least_83 : decode cX5_least 83 = .ok (.iload_n 3, 1) := by decide +kernel
theorem dX5_least_84 : decode cX5_least 84 = .ok (.istore_n 3, 1) := by decide +kernel
theorem dX5_least_85 : decode cX5_least 85 = .ok (.iinc 4 1, 3) := by decide +kernel
theorem dX5_least_88 : decode cX5_least 88 = .ok (.goto (-35), 3) := by decide +kernel
theorem dX5_least_91 : decode cX5_least 91 = .ok (.iconst 0, 1) := by decide +kernel
theorem dX5_least_92 : decode cX5_least 92 = .ok (.istore 4, 2) := by decide +kernel
theorem dX5_least_94 : decode cX5_least 94 = .ok (.iload 4, 2) := by decide +kernel
theorem dX5_least_96 : decode cX5_least 96 = .ok (.iload_n 1, 1) := by decide +kernel
theorem dX5_least_97 : decode cX5_least 97 = .ok (.if_icmp .ge 28, 3) := by decide +kernel
theorem dX5_least_100 : decode cX5_least 100 = .ok (.aload_n 0, 1) := by decide +kernel
theorem dX5_least_101 : decode cX5_least 101 = .ok (.getfield 35, 3) := by decide +kernel
theorem dX5_least_104 : decode cX5_least 104 = .ok (.aload_n 0, 1) := by decide +kernel
theorem dX5_least_105 : decode cX5_least 105 = .ok (.getfield 69, 3) := by decide +kernel
theorem dX5_least_108 : decode cX5_least 108 = .ok (.iload 4, 2) := by decide +kernel
theorem dX5_least_110 : decode cX5_least 110 = .ok (.iaload, 1) := by decide +kernel
theorem dX5_least_111 : decode cX5_least 111 = .ok (.aload_n 0, 1) := by decide +kernel
theorem dX5_least_112 : decode cX5_least 112 = .ok (.getfield 72, 3) := by decide +kernel
theorem dX5_least_115 : decode cX5_least 115 = .ok (.iload 4, 2) := by decide +kernel
theorem dX5_least_117 : decode cX5_least 117 = .ok (.iaload, 1) := by decide +kernel
theorem dX5_least_118 : decode cX5_least 118 = .ok (.iastore, 1) := by decide +kernel
theorem dX5_least_119 : decode cX5_least 119 = .ok (.iinc 4 1, 3) := by decide +kernel
theorem dX5_least_122 : decode cX5_least 122 = .ok (.goto (-28), 3) := by decide +kernel
theorem dX5_least_125 : decode cX5_least 125 = .ok (.iload_n 3, 1) := by decide +kernel
theorem dX5_least_126 : decode cX5_least 126 = .ok (.ireturn, 1) := by decide +kernel
theorem dX5_today_0 : decode cX5_today 0 = .ok (.aload_n 0, 1) := by decide +kernel
theorem dX5_today_1 : decode cX5_today 1 = .ok (.aload_n 0, 1) := by decide +kernel
theorem dX5_today_2 : decode cX5_today 2 = .ok (.getfield 85, 3) := by decide +kernel
theorem dX5_today_5 : decode cX5_today 5 = .ok (.invokevirtual 162, 3) := by decide +kernel
theorem dX5_today_8 : decode cX5_today 8 = .ok (.ireturn, 1) := by decide +kernel
theorem dX5_spent_0 : decode cX5_spent 0 = .ok (.aload_n 0, 1) := by decide +kernel
theorem dX5_spent_1 : decode cX5_spent 1 = .ok (.aload_n 0, 1) := by decide +kernel
theorem dX5_spent_2 : decode cX5_spent 2 = .ok (.getfield 159, 3) := by decide +kernel
theorem dX5_spent_5 : decode cX5_spent 5 = .ok (.invokevirtual 162, 3) := by decide +kernel
theorem dX5_spent_8 : decode cX5_spent 8 = .ok (.ireturn, 1) := by decide +kernel
theorem dX5_cost_0 : decode cX5_cost 0 = .ok (.aload_n 0, 1) := by decide +kernel
theorem dX5_cost_1 : decode cX5_cost 1 = .ok (.aload_n 0, 1) := by decide +kernel
theorem dX5_cost_2 : decode cX5_cost 2 = .ok (.invokevirtual 146, 3) := by decide +kernel
theorem dX5_cost_5 : decode cX5_cost 5 = .ok (.invokevirtual 162, 3) := by decide +kernel
theorem dX5_cost_8 : decode cX5_cost 8 = .ok (.ireturn, 1) := by decide +kernel
theorem dX5_scenes_0 : decode cX5_scenes 0 = .ok (.aload_n 0, 1) := by decide +kernel
theorem dX5_scenes_1 : decode cX5_scenes 1 = .ok (.aload_n 0, 1) := by decide +kernel
theorem dX5_scenes_2 : decode cX5_scenes 2 = .ok (.getfield 78, 3) := by decide +kernel
theorem dX5_scenes_5 : decode cX5_scenes 5 = .ok (.invokevirtual 162, 3) := by decide +kernel
theorem dX5_scenes_8 : decode cX5_scenes 8 = .ok (.ireturn, 1) := by decide +kernel
theorem dX5_stateOf_0 : decode cX5_stateOf 0 = .ok (.aload_n 0, 1) := by decide +kernel
theorem dX5_stateOf_1 : decode cX5_stateOf 1 = .ok (.aload_n 0, 1) := by decide +kernel
theorem dX5_stateOf_2 : decode cX5_stateOf 2 = .ok (.iload_n 1, 1) := by decide +kernel
theorem dX5_stateOf_3 : decode cX5_stateOf 3 = .ok (.invokevirtual 123, 3) := by decide +kernel
theorem dX5_stateOf_6 : decode cX5_stateOf 6 = .ok (.iconst 1, 1) := by decide +kernel
theorem dX5_stateOf_7 : decode cX5_stateOf 7 = .ok (.iconst 1, 1) := by decide +kernel
theorem dX5_stateOf_8 : decode cX5_stateOf 8 = .ok (.invokevirtual 115, 3) := by decide +kernel
theorem dX5_stateOf_11 : decode cX5_stateOf 11 = .ok (.ifCond .eq 12, 3) := by decide +kernel
theorem dX5_stateOf_14 : decode cX5_stateOf 14 = .ok (.aload_n 0, 1) := by decide +kernel
theorem dX5_stateOf_15 : decode cX5_stateOf 15 = .ok (.getfield 20, 3) := by decide +kernel
theorem dX5_stateOf_18 : decode cX5_stateOf 18 = .ok (.iload_n 1, 1) := by decide +kernel
theorem dX5_stateOf_19 : decode cX5_stateOf 19 = .ok (.iaload, 1) := by decide +kernel
theorem dX5_stateOf_20 : decode cX5_stateOf 20 = .ok (.goto 4, 3) := by decide +kernel
theorem dX5_stateOf_23 : decode cX5_stateOf 23 = .ok (.iconst 0, 1) := by decide +kernel
theorem dX5_stateOf_24 : decode cX5_stateOf 24 = .ok (.ireturn, 1) := by decide +kernel
theorem dX5_dayOf_0 : decode cX5_dayOf 0 = .ok (.aload_n 0, 1) := by decide +kernel
theorem dX5_dayOf_1 : decode cX5_dayOf 1 = .ok (.aload_n 0, 1) := by decide +kernel
theorem dX5_dayOf_2 : decode cX5_dayOf 2 = .ok (.iload_n 1, 1) := by decide +kernel
theorem dX5_dayOf_3 : decode cX5_dayOf 3 = .ok (.invokevirtual 123, 3) := by decide +kernel
theorem dX5_dayOf_6 : decode cX5_dayOf 6 = .ok (.iconst 1, 1) := by decide +kernel
theorem dX5_dayOf_7 : decode cX5_dayOf 7 = .ok (.iconst 1, 1) := by decide +kernel
theorem dX5_dayOf_8 : decode cX5_dayOf 8 = .ok (.invokevirtual 115, 3) := by decide +kernel
theorem dX5_dayOf_11 : decode cX5_dayOf 11 = .ok (.ifCond .eq 26, 3) := by decide +kernel
theorem dX5_dayOf_14 : decode cX5_dayOf 14 = .ok (.aload_n 0, 1) := by decide +kernel
theorem dX5_dayOf_15 : decode cX5_dayOf 15 = .ok (.getfield 20, 3) := by decide +kernel
theorem dX5_dayOf_18 : decode cX5_dayOf 18 = .ok (.iload_n 1, 1) := by decide +kernel
theorem dX5_dayOf_19 : decode cX5_dayOf 19 = .ok (.iaload, 1) := by decide +kernel
theorem dX5_dayOf_20 : decode cX5_dayOf 20 = .ok (.iconst 2, 1) := by decide +kernel
theorem dX5_dayOf_21 : decode cX5_dayOf 21 = .ok (.if_icmp .ne 7, 3) := by decide +kernel
theorem dX5_dayOf_24 : decode cX5_dayOf 24 = .ok (.iconst (-1), 1) := by decide +kernel
theorem dX5_dayOf_25 : decode cX5_dayOf 25 = .ok (.goto 13, 3) := by decide +kernel
theorem dX5_dayOf_28 : decode cX5_dayOf 28 = .ok (.aload_n 0, 1) := by decide +kernel
theorem dX5_dayOf_29 : decode cX5_dayOf 29 = .ok (.getfield 23, 3) := by decide +kernel
theorem dX5_dayOf_32 : decode cX5_dayOf 32 = .ok (.iload_n 1, 1) := by decide +kernel
theorem dX5_dayOf_33 : decode cX5_dayOf 33 = .ok (.iaload, 1) := by decide +kernel
theorem dX5_dayOf_34 : decode cX5_dayOf 34 = .ok (.goto 4, 3) := by decide +kernel
theorem dX5_dayOf_37 : decode cX5_dayOf 37 = .ok (.iconst 0, 1) := by decide +kernel
theorem dX5_dayOf_38 : decode cX5_dayOf 38 = .ok (.ireturn, 1) := by decide +kernel
theorem dX5_sceneOn_0 : decode cX5_sceneOn 0 = .ok (.aload_n 0, 1) := by decide +kernel
theorem dX5_sceneOn_1 : decode cX5_sceneOn 1 = .ok (.iload_n 1, 1) := by decide +kernel
theorem dX5_sceneOn_2 : decode cX5_sceneOn 2 = .ok (.invokestatic 149, 3) := by decide +kernel
theorem dX5_sceneOn_5 : decode cX5_sceneOn 5 = .ok (.iconst 1, 1) := by decide +kernel
theorem dX5_sceneOn_6 : decode cX5_sceneOn 6 = .ok (.iconst 1, 1) := by decide +kernel
theorem dX5_sceneOn_7 : decode cX5_sceneOn 7 = .ok (.invokevirtual 115, 3) := by decide +kernel
theorem dX5_sceneOn_10 : decode cX5_sceneOn 10 = .ok (.ifCond .eq 12, 3) := by decide +kernel
theorem dX5_sceneOn_13 : decode cX5_sceneOn 13 = .ok (.aload_n 0, 1) := by decide +kernel
theorem dX5_sceneOn_14 : decode cX5_sceneOn 14 = .ok (.getfield 35, 3) := by decide +kernel
theorem dX5_sceneOn_17 : decode cX5_sceneOn 17 = .ok (.iload_n 1, 1) := by decide +kernel
theorem dX5_sceneOn_18 : decode cX5_sceneOn 18 = .ok (.iaload, 1) := by decide +kernel
theorem dX5_sceneOn_19 : decode cX5_sceneOn 19 = .ok (.goto 4, 3) := by decide +kernel
theorem dX5_sceneOn_22 : decode cX5_sceneOn 22 = .ok (.iconst 0, 1) := by decide +kernel
theorem dX5_sceneOn_23 : decode cX5_sceneOn 23 = .ok (.ireturn, 1) := by decide +kernel
theorem dX5_refused_0 : decode cX5_refused 0 = .ok (.aload_n 0, 1) := by decide +kernel
theorem dX5_refused_1 : decode cX5_refused 1 = .ok (.aload_n 0, 1) := by decide +kernel
theorem dX5_refused_2 : decode cX5_refused 2 = .ok (.invokevirtual 152, 3) := by decide +kernel
theorem dX5_refused_5 : decode cX5_refused 5 = .ok (.invokevirtual 162, 3) := by decide +kernel
theorem dX5_refused_8 : decode cX5_refused 8 = .ok (.ireturn, 1) := by decide +kernel
theorem dX5_isAllowed_0 : decode cX5_isAllowed 0 = .ok (.aload_n 0, 1) := by decide +kernel
theorem dX5_isAllowed_1 : decode cX5_isAllowed 1 = .ok (.aload_n 0, 1) := by decide +kernel
theorem dX5_isAllowed_2 : decode cX5_isAllowed 2 = .ok (.iload_n 1, 1) := by decide +kernel
theorem dX5_isAllowed_3 : decode cX5_isAllowed 3 = .ok (.invokevirtual 123, 3) := by decide +kernel
theorem dX5_isAllowed_6 : decode cX5_isAllowed 6 = .ok (.iload_n 2, 1) := by decide +kernel
theorem dX5_isAllowed_7 : decode cX5_isAllowed 7 = .ok (.invokestatic 149, 3) := by decide +kernel
theorem dX5_isAllowed_10 : decode cX5_isAllowed 10 = .ok (.iconst 1, 1) := by decide +kernel
theorem dX5_isAllowed_11 : decode cX5_isAllowed 11 = .ok (.invokevirtual 115, 3) := by decide +kernel
theorem dX5_isAllowed_14 : decode cX5_isAllowed 14 = .ok (.ifCond .eq 16, 3) := by decide +kernel
theorem dX5_isAllowed_17 : decode cX5_isAllowed 17 = .ok (.aload_n 0, 1) := by decide +kernel
theorem dX5_isAllowed_18 : decode cX5_isAllowed 18 = .ok (.iload_n 1, 1) := by decide +kernel
theorem dX5_isAllowed_19 : decode cX5_isAllowed 19 = .ok (.iload_n 2, 1) := by decide +kernel
theorem dX5_isAllowed_20 : decode cX5_isAllowed 20 = .ok (.invokevirtual 104, 3) := by decide +kernel
theorem dX5_isAllowed_23 : decode cX5_isAllowed 23 = .ok (.ifCond .eq 7, 3) := by decide +kernel
theorem dX5_isAllowed_26 : decode cX5_isAllowed 26 = .ok (.iconst 1, 1) := by decide +kernel
theorem dX5_isAllowed_27 : decode cX5_isAllowed 27 = .ok (.goto 4, 3) := by decide +kernel
theorem dX5_isAllowed_30 : decode cX5_isAllowed 30 = .ok (.iconst 0, 1) := by decide +kernel
theorem dX5_isAllowed_31 : decode cX5_isAllowed 31 = .ok (.ireturn, 1) := by decide +kernel
theorem dX5_ahead_0 : decode cX5_ahead 0 = .ok (.aload_n 0, 1) := by decide +kernel
theorem dX5_ahead_1 : decode cX5_ahead 1 = .ok (.aload_n 0, 1) := by decide +kernel
theorem dX5_ahead_2 : decode cX5_ahead 2 = .ok (.iload_n 1, 1) := by decide +kernel
theorem dX5_ahead_3 : decode cX5_ahead 3 = .ok (.invokevirtual 123, 3) := by decide +kernel
theorem dX5_ahead_6 : decode cX5_ahead 6 = .ok (.ifCond .eq 14, 3) := by decide +kernel
theorem dX5_ahead_9 : decode cX5_ahead 9 = .ok (.iload_n 2, 1) := by decide +kernel
theorem dX5_ahead_10 : decode cX5_ahead 10 = .ok (.invokestatic 133, 3) := by decide +kernel
theorem dX5_ahead_13 : decode cX5_ahead 13 = .ok (.ifCond .eq 7, 3) := by decide +kernel
theorem dX5_ahead_16 : decode cX5_ahead 16 = .ok (.iconst 1, 1) := by decide +kernel
theorem dX5_ahead_17 : decode cX5_ahead 17 = .ok (.goto 4, 3) := by decide +kernel
theorem dX5_ahead_20 : decode cX5_ahead 20 = .ok (.iconst 0, 1) := by decide +kernel
theorem dX5_ahead_21 : decode cX5_ahead 21 = .ok (.iconst 1, 1) := by decide +kernel
theorem dX5_ahead_22 : decode cX5_ahead 22 = .ok (.iconst 1, 1) := by decide +kernel
theorem dX5_ahead_23 : decode cX5_ahead 23 = .ok (.invokevirtual 115, 3) := by decide +kernel
theorem dX5_ahead_26 : decode cX5_ahead 26 = .ok (.ifCond .ne 5, 3) := by decide +kernel
theorem dX5_ahead_29 : decode cX5_ahead 29 = .ok (.iconst 0, 1) := by decide +kernel
theorem dX5_ahead_30 : decode cX5_ahead 30 = .ok (.ireturn, 1) := by decide +kernel
theorem dX5_ahead_31 : decode cX5_ahead 31 = .ok (.iconst 0, 1) := by decide +kernel
theorem dX5_ahead_32 : decode cX5_ahead 32 = .ok (.istore_n 3, 1) := by decide +kernel
theorem dX5_ahead_33 : decode cX5_ahead 33 = .ok (.iconst 0, 1) := by decide +kernel
theorem dX5_ahead_34 : decode cX5_ahead 34 = .ok (.istore 4, 2) := by decide +kernel
theorem dX5_ahead_36 : decode cX5_ahead 36 = .ok (.iload 4, 2) := by decide +kernel
theorem dX5_ahead_38 : decode cX5_ahead 38 = .ok (.iload_n 1, 1) := by decide +kernel
theorem dX5_ahead_39 : decode cX5_ahead 39 = .ok (.if_icmp .ge 35, 3) := by decide +kernel
theorem dX5_ahead_42 : decode cX5_ahead 42 = .ok (.aload_n 0, 1) := by decide +kernel
theorem dX5_ahead_43 : decode cX5_ahead 43 = .ok (.iload 4, 2) := by decide +kernel
theorem dX5_ahead_45 : decode cX5_ahead 45 = .ok (.iload_n 2, 1) := by decide +kernel
theorem dX5_ahead_46 : decode cX5_ahead 46 = .ok (.invokevirtual 130, 3) := by decide +kernel
theorem dX5_ahead_49 : decode cX5_ahead 49 = .ok (.ifCond .eq 17, 3) := by decide +kernel
theorem dX5_ahead_52 : decode cX5_ahead 52 = .ok (.aload_n 0, 1) := by decide +kernel
theorem dX5_ahead_53 : decode cX5_ahead 53 = .ok (.getfield 32, 3) := by decide +kernel
theorem dX5_ahead_56 : decode cX5_ahead 56 = .ok (.iconst 5, 1) := by decide +kernel
theorem dX5_ahead_57 : decode cX5_ahead 57 = .ok (.iload 4, 2) := by decide +kernel
theorem dX5_ahead_59 : decode cX5_ahead 59 = .ok (.imul, 1) := by decide +kernel
theorem dX5_ahead_60 : decode cX5_ahead 60 = .ok (.iload_n 2, 1) := by decide +kernel
theorem dX5_ahead_61 : decode cX5_ahead 61 = .ok (.iadd, 1) := by decide +kernel
theorem dX5_ahead_62 : decode cX5_ahead 62 = .ok (.iaload, 1) := by decide +kernel
theorem dX5_ahead_63 : decode cX5_ahead 63 = .ok (.goto 4, 3) := by decide +kernel
theorem dX5_ahead_66 : decode cX5_ahead 66 = .ok (.iload_n 3, 1) := by decide +kernel
theorem dX5_ahead_67 : decode cX5_ahead 67 = .ok (.istore_n 3, 1) := by decide +kernel
theorem dX5_ahead_68 : decode cX5_ahead 68 = .ok (.iinc 4 1, 3) := by decide +kernel
theorem dX5_ahead_71 : decode cX5_ahead 71 = .ok (.goto (-35), 3) := by decide +kernel
theorem dX5_ahead_74 : decode cX5_ahead 74 = .ok (.iload_n 3, 1) := by decide +kernel
theorem dX5_ahead_75 : decode cX5_ahead 75 = .ok (.ireturn, 1) := by decide +kernel
theorem dX5_copies_0 : decode cX5_copies 0 = .ok (.aload_n 0, 1) := by decide +kernel
theorem dX5_copies_1 : decode cX5_copies 1 = .ok (.iload_n 1, 1) := by decide +kernel
theorem dX5_copies_2 : decode cX5_copies 2 = .ok (.invokestatic 133, 3) := by decide +kernel
theorem dX5_copies_5 : decode cX5_copies 5 = .ok (.iload_n 2, 1) := by decide +kernel
theorem dX5_copies_6 : decode cX5_copies 6 = .ok (.iconst 0, 1) := by decide +kernel
theorem dX5_copies_7 : decode cX5_copies 7 = .ok (.iconst 3, 1) := by decide +kernel
theorem dX5_copies_8 : decode cX5_copies 8 = .ok (.invokestatic 81, 3) := by decide +kernel
theorem dX5_copies_11 : decode cX5_copies 11 = .ok (.iconst 1, 1) := by decide +kernel
theorem dX5_copies_12 : decode cX5_copies 12 = .ok (.invokevirtual 115, 3) := by decide +kernel
theorem dX5_copies_15 : decode cX5_copies 15 = .ok (.ifCond .eq 16, 3) := by decide +kernel
theorem dX5_copies_18 : decode cX5_copies 18 = .ok (.aload_n 0, 1) := by decide +kernel
theorem dX5_copies_19 : decode cX5_copies 19 = .ok (.getfield 60, 3) := by decide +kernel
theorem dX5_copies_22 : decode cX5_copies 22 = .ok (.iconst 4, 1) := by decide +kernel
theorem dX5_copies_23 : decode cX5_copies 23 = .ok (.iload_n 1, 1) := by decide +kernel
theorem dX5_copies_24 : decode cX5_copies 24 = .ok (.imul, 1) := by decide +kernel
theorem dX5_copies_25 : decode cX5_copies 25 = .ok (.iload_n 2, 1) := by decide +kernel
theorem dX5_copies_26 : decode cX5_copies 26 = .ok (.iadd, 1) := by decide +kernel
theorem dX5_copies_27 : decode cX5_copies 27 = .ok (.iaload, 1) := by decide +kernel
end
section
theorem dX5_copies_28 : decode cX5_copies 28 = .ok (.goto 4, 3) := by decide +kernel
theorem dX5_copies_31 : decode cX5_copies 31 = .ok (.iconst 0, 1) := by decide +kernel
theorem dX5_copies_32 : decode cX5_copies 32 = .ok (.ireturn, 1) := by decide +kernel
theorem dX5_growth_0 : decode cX5_growth 0 = .ok (.aload_n 0, 1) := by decide +kernel
theorem dX5_growth_1 : decode cX5_growth 1 = .ok (.iload_n 1, 1) := by decide +kernel
theorem dX5_growth_2 : decode cX5_growth 2 = .ok (.invokestatic 127, 3) := by decide +kernel
theorem dX5_growth_5 : decode cX5_growth 5 = .ok (.iconst 1, 1) := by decide +kernel
theorem dX5_growth_6 : decode cX5_growth 6 = .ok (.iconst 1, 1) := by decide +kernel
theorem dX5_growth_7 : decode cX5_growth 7 = .ok (.invokevirtual 115, 3) := by decide +kernel
theorem dX5_growth_10 : decode cX5_growth 10 = .ok (.ifCond .eq 12, 3) := by decide +kernel
theorem dX5_growth_13 : decode cX5_growth 13 = .ok (.aload_n 0, 1) := by decide +kernel
theorem dX5_growth_14 : decode cX5_growth 14 = .ok (.getfield 57, 3) := by decide +kernel
theorem dX5_growth_17 : decode cX5_growth 17 = .ok (.iload_n 1, 1) := by decide +kernel
theorem dX5_growth_18 : decode cX5_growth 18 = .ok (.iaload, 1) := by decide +kernel
theorem dX5_growth_19 : decode cX5_growth 19 = .ok (.goto 4, 3) := by decide +kernel
theorem dX5_growth_22 : decode cX5_growth 22 = .ok (.iconst 0, 1) := by decide +kernel
theorem dX5_growth_23 : decode cX5_growth 23 = .ok (.ireturn, 1) := by decide +kernel
theorem dJ9_min_7cf53_0 : decode cJ9_min_7cf53 0 = .ok (.iload_n 0, 1) := by decide +kernel
theorem dJ9_min_7cf53_1 : decode cJ9_min_7cf53 1 = .ok (.iload_n 1, 1) := by decide +kernel
theorem dJ9_min_7cf53_2 : decode cJ9_min_7cf53 2 = .ok (.if_icmp .gt 7, 3) := by decide +kernel
theorem dJ9_min_7cf53_5 : decode cJ9_min_7cf53 5 = .ok (.iload_n 0, 1) := by decide +kernel
theorem dJ9_min_7cf53_6 : decode cJ9_min_7cf53 6 = .ok (.goto 4, 3) := by decide +kernel
theorem dJ9_min_7cf53_9 : decode cJ9_min_7cf53 9 = .ok (.iload_n 1, 1) := by decide +kernel
theorem dJ9_min_7cf53_10 : decode cJ9_min_7cf53 10 = .ok (.ireturn, 1) := by decide +kernel
theorem dJ7_fill_53178_0 : decode cJ7_fill_53178 0 = .ok (.iconst 0, 1) := by decide +kernel
theorem dJ7_fill_53178_1 : decode cJ7_fill_53178 1 = .ok (.istore_n 2, 1) := by decide +kernel
theorem dJ7_fill_53178_2 : decode cJ7_fill_53178 2 = .ok (.aload_n 0, 1) := by decide +kernel
theorem dJ7_fill_53178_3 : decode cJ7_fill_53178 3 = .ok (.arraylength, 1) := by decide +kernel
theorem dJ7_fill_53178_4 : decode cJ7_fill_53178 4 = .ok (.istore_n 3, 1) := by decide +kernel
theorem dJ7_fill_53178_5 : decode cJ7_fill_53178 5 = .ok (.iload_n 2, 1) := by decide +kernel
theorem dJ7_fill_53178_6 : decode cJ7_fill_53178 6 = .ok (.iload_n 3, 1) := by decide +kernel
theorem dJ7_fill_53178_7 : decode cJ7_fill_53178 7 = .ok (.if_icmp .ge 13, 3) := by decide +kernel
theorem dJ7_fill_53178_10 : decode cJ7_fill_53178 10 = .ok (.aload_n 0, 1) := by decide +kernel
theorem dJ7_fill_53178_11 : decode cJ7_fill_53178 11 = .ok (.iload_n 2, 1) := by decide +kernel
theorem dJ7_fill_53178_12 : decode cJ7_fill_53178 12 = .ok (.iload_n 1, 1) := by decide +kernel
theorem dJ7_fill_53178_13 : decode cJ7_fill_53178 13 = .ok (.iastore, 1) := by decide +kernel
theorem dJ7_fill_53178_14 : decode cJ7_fill_53178 14 = .ok (.iinc 2 1, 3) := by decide +kernel
theorem dJ7_fill_53178_17 : decode cJ7_fill_53178 17 = .ok (.goto (-12), 3) := by decide +kernel
theorem dJ7_fill_53178_20 : decode cJ7_fill_53178 20 = .ok (.return_, 1) := by decide +kernel
theorem dL_scene_0 : decode cL_scene 0 = .ok (.aload_n 3, 1) := by decide +kernel
theorem dL_scene_1 : decode cL_scene 1 = .ok (.iconst 0, 1) := by decide +kernel
theorem dL_scene_2 : decode cL_scene 2 = .ok (.aload_n 0, 1) := by decide +kernel
theorem dL_scene_3 : decode cL_scene 3 = .ok (.iload_n 1, 1) := by decide +kernel
theorem dL_scene_4 : decode cL_scene 4 = .ok (.iload_n 2, 1) := by decide +kernel
theorem dL_scene_5 : decode cL_scene 5 = .ok (.invokevirtual 7, 3) := by decide +kernel
theorem dL_scene_8 : decode cL_scene 8 = .ok (.i2l, 1) := by decide +kernel
theorem dL_scene_9 : decode cL_scene 9 = .ok (.lastore, 1) := by decide +kernel
theorem dL_scene_10 : decode cL_scene 10 = .ok (.goto 11, 3) := by decide +kernel
theorem dL_scene_13 : decode cL_scene 13 = .ok (.astore 4, 2) := by decide +kernel
theorem dL_scene_15 : decode cL_scene 15 = .ok (.iconst 1, 1) := by decide +kernel
theorem dL_scene_16 : decode cL_scene 16 = .ok (.ireturn, 1) := by decide +kernel
theorem dL_scene_17 : decode cL_scene 17 = .ok (.astore 4, 2) := by decide +kernel
theorem dL_scene_19 : decode cL_scene 19 = .ok (.iconst 2, 1) := by decide +kernel
theorem dL_scene_20 : decode cL_scene 20 = .ok (.ireturn, 1) := by decide +kernel
theorem dL_scene_21 : decode cL_scene 21 = .ok (.iconst 0, 1) := by decide +kernel
theorem dL_scene_22 : decode cL_scene 22 = .ok (.ireturn, 1) := by decide +kernel
theorem dL_plays_0 : decode cL_plays 0 = .ok (.aload 4, 2) := by decide +kernel
theorem dL_plays_2 : decode cL_plays 2 = .ok (.iconst 0, 1) := by decide +kernel
theorem dL_plays_3 : decode cL_plays 3 = .ok (.aload_n 0, 1) := by decide +kernel
theorem dL_plays_4 : decode cL_plays 4 = .ok (.iload_n 1, 1) := by decide +kernel
theorem dL_plays_5 : decode cL_plays 5 = .ok (.iload_n 2, 1) := by decide +kernel
theorem dL_plays_6 : decode cL_plays 6 = .ok (.iload_n 3, 1) := by decide +kernel
theorem dL_plays_7 : decode cL_plays 7 = .ok (.invokevirtual 17, 3) := by decide +kernel
theorem dL_plays_10 : decode cL_plays 10 = .ok (.i2l, 1) := by decide +kernel
theorem dL_plays_11 : decode cL_plays 11 = .ok (.lastore, 1) := by decide +kernel
theorem dL_plays_12 : decode cL_plays 12 = .ok (.goto 15, 3) := by decide +kernel
theorem dL_plays_15 : decode cL_plays 15 = .ok (.astore 5, 2) := by decide +kernel
theorem dL_plays_17 : decode cL_plays 17 = .ok (.iconst 1, 1) := by decide +kernel
theorem dL_plays_18 : decode cL_plays 18 = .ok (.ireturn, 1) := by decide +kernel
theorem dL_plays_19 : decode cL_plays 19 = .ok (.astore 5, 2) := by decide +kernel
theorem dL_plays_21 : decode cL_plays 21 = .ok (.iconst 2, 1) := by decide +kernel
theorem dL_plays_22 : decode cL_plays 22 = .ok (.ireturn, 1) := by decide +kernel
theorem dL_plays_23 : decode cL_plays 23 = .ok (.astore 5, 2) := by decide +kernel
theorem dL_plays_25 : decode cL_plays 25 = .ok (.iconst 3, 1) := by decide +kernel
theorem dL_plays_26 : decode cL_plays 26 = .ok (.ireturn, 1) := by decide +kernel
theorem dL_plays_27 : decode cL_plays 27 = .ok (.iconst 0, 1) := by decide +kernel
theorem dL_plays_28 : decode cL_plays 28 = .ok (.ireturn, 1) := by decide +kernel
theorem dL_uses_0 : decode cL_uses 0 = .ok (.aload 5, 2) := by decide +kernel
theorem dL_uses_2 : decode cL_uses 2 = .ok (.iconst 0, 1) := by decide +kernel
theorem dL_uses_3 : decode cL_uses 3 = .ok (.aload_n 0, 1) := by decide +kernel
theorem dL_uses_4 : decode cL_uses 4 = .ok (.iload_n 1, 1) := by decide +kernel
theorem dL_uses_5 : decode cL_uses 5 = .ok (.iload_n 2, 1) := by decide +kernel
theorem dL_uses_6 : decode cL_uses 6 = .ok (.iload_n 3, 1) := by decide +kernel
theorem dL_uses_7 : decode cL_uses 7 = .ok (.iload 4, 2) := by decide +kernel
theorem dL_uses_9 : decode cL_uses 9 = .ok (.invokevirtual 23, 3) := by decide +kernel
theorem dL_uses_12 : decode cL_uses 12 = .ok (.i2l, 1) := by decide +kernel
theorem dL_uses_13 : decode cL_uses 13 = .ok (.lastore, 1) := by decide +kernel
theorem dL_uses_14 : decode cL_uses 14 = .ok (.goto 15, 3) := by decide +kernel
theorem dL_uses_17 : decode cL_uses 17 = .ok (.astore 6, 2) := by decide +kernel
theorem dL_uses_19 : decode cL_uses 19 = .ok (.iconst 1, 1) := by decide +kernel
theorem dL_uses_20 : decode cL_uses 20 = .ok (.ireturn, 1) := by decide +kernel
theorem dL_uses_21 : decode cL_uses 21 = .ok (.astore 6, 2) := by decide +kernel
theorem dL_uses_23 : decode cL_uses 23 = .ok (.iconst 2, 1) := by decide +kernel
theorem dL_uses_24 : decode cL_uses 24 = .ok (.ireturn, 1) := by decide +kernel
theorem dL_uses_25 : decode cL_uses 25 = .ok (.astore 6, 2) := by decide +kernel
theorem dL_uses_27 : decode cL_uses 27 = .ok (.iconst 3, 1) := by decide +kernel
theorem dL_uses_28 : decode cL_uses 28 = .ok (.ireturn, 1) := by decide +kernel
theorem dL_uses_29 : decode cL_uses 29 = .ok (.iconst 0, 1) := by decide +kernel
theorem dL_uses_30 : decode cL_uses 30 = .ok (.ireturn, 1) := by decide +kernel
theorem dL_cut_0 : decode cL_cut 0 = .ok (.aload_n 2, 1) := by decide +kernel
theorem dL_cut_1 : decode cL_cut 1 = .ok (.iconst 0, 1) := by decide +kernel
theorem dL_cut_2 : decode cL_cut 2 = .ok (.aload_n 0, 1) := by decide +kernel
theorem dL_cut_3 : decode cL_cut 3 = .ok (.iload_n 1, 1) := by decide +kernel
theorem dL_cut_4 : decode cL_cut 4 = .ok (.invokevirtual 27, 3) := by decide +kernel
theorem dL_cut_7 : decode cL_cut 7 = .ok (.i2l, 1) := by decide +kernel
theorem dL_cut_8 : decode cL_cut 8 = .ok (.lastore, 1) := by decide +kernel
theorem dL_cut_9 : decode cL_cut 9 = .ok (.goto 9, 3) := by decide +kernel
theorem dL_cut_12 : decode cL_cut 12 = .ok (.astore_n 3, 1) := by decide +kernel
theorem dL_cut_13 : decode cL_cut 13 = .ok (.iconst 1, 1) := by decide +kernel
theorem dL_cut_14 : decode cL_cut 14 = .ok (.ireturn, 1) := by decide +kernel
theorem dL_cut_15 : decode cL_cut 15 = .ok (.astore_n 3, 1) := by decide +kernel
theorem dL_cut_16 : decode cL_cut 16 = .ok (.iconst 2, 1) := by decide +kernel
theorem dL_cut_17 : decode cL_cut 17 = .ok (.ireturn, 1) := by decide +kernel
theorem dL_cut_18 : decode cL_cut 18 = .ok (.iconst 0, 1) := by decide +kernel
theorem dL_cut_19 : decode cL_cut 19 = .ok (.ireturn, 1) := by decide +kernel
theorem dL_swap_0 : decode cL_swap 0 = .ok (.aload_n 3, 1) := by decide +kernel
theorem dL_swap_1 : decode cL_swap 1 = .ok (.iconst 0, 1) := by decide +kernel
theorem dL_swap_2 : decode cL_swap 2 = .ok (.aload_n 0, 1) := by decide +kernel
theorem dL_swap_3 : decode cL_swap 3 = .ok (.iload_n 1, 1) := by decide +kernel
theorem dL_swap_4 : decode cL_swap 4 = .ok (.iload_n 2, 1) := by decide +kernel
theorem dL_swap_5 : decode cL_swap 5 = .ok (.invokevirtual 31, 3) := by decide +kernel
theorem dL_swap_8 : decode cL_swap 8 = .ok (.i2l, 1) := by decide +kernel
theorem dL_swap_9 : decode cL_swap 9 = .ok (.lastore, 1) := by decide +kernel
theorem dL_swap_10 : decode cL_swap 10 = .ok (.goto 7, 3) := by decide +kernel
theorem dL_swap_13 : decode cL_swap 13 = .ok (.astore 4, 2) := by decide +kernel
theorem dL_swap_15 : decode cL_swap 15 = .ok (.iconst 1, 1) := by decide +kernel
theorem dL_swap_16 : decode cL_swap 16 = .ok (.ireturn, 1) := by decide +kernel
theorem dL_swap_17 : decode cL_swap 17 = .ok (.iconst 0, 1) := by decide +kernel
theorem dL_swap_18 : decode cL_swap 18 = .ok (.ireturn, 1) := by decide +kernel
theorem dL_permit_0 : decode cL_permit 0 = .ok (.aload 5, 2) := by decide +kernel
theorem dL_permit_2 : decode cL_permit 2 = .ok (.iconst 0, 1) := by decide +kernel
theorem dL_permit_3 : decode cL_permit 3 = .ok (.aload_n 0, 1) := by decide +kernel
theorem dL_permit_4 : decode cL_permit 4 = .ok (.iload_n 1, 1) := by decide +kernel
theorem dL_permit_5 : decode cL_permit 5 = .ok (.iload_n 2, 1) := by decide +kernel
theorem dL_permit_6 : decode cL_permit 6 = .ok (.iload_n 3, 1) := by decide +kernel
theorem dL_permit_7 : decode cL_permit 7 = .ok (.iload 4, 2) := by decide +kernel
theorem dL_permit_9 : decode cL_permit 9 = .ok (.invokevirtual 34, 3) := by decide +kernel
theorem dL_permit_12 : decode cL_permit 12 = .ok (.i2l, 1) := by decide +kernel
theorem dL_permit_13 : decode cL_permit 13 = .ok (.lastore, 1) := by decide +kernel
theorem dL_permit_14 : decode cL_permit 14 = .ok (.goto 11, 3) := by decide +kernel
theorem dL_permit_17 : decode cL_permit 17 = .ok (.astore 6, 2) := by decide +kernel
theorem dL_permit_19 : decode cL_permit 19 = .ok (.iconst 1, 1) := by decide +kernel
theorem dL_permit_20 : decode cL_permit 20 = .ok (.ireturn, 1) := by decide +kernel
theorem dL_permit_21 : decode cL_permit 21 = .ok (.astore 6, 2) := by decide +kernel
theorem dL_permit_23 : decode cL_permit 23 = .ok (.iconst 2, 1) := by decide +kernel
theorem dL_permit_24 : decode cL_permit 24 = .ok (.ireturn, 1) := by decide +kernel
theorem dL_permit_25 : decode cL_permit 25 = .ok (.iconst 0, 1) := by decide +kernel
theorem dL_permit_26 : decode cL_permit 26 = .ok (.ireturn, 1) := by decide +kernel
theorem dL_revoke_0 : decode cL_revoke 0 = .ok (.aload_n 2, 1) := by decide +kernel
theorem dL_revoke_1 : decode cL_revoke 1 = .ok (.iconst 0, 1) := by decide +kernel
theorem dL_revoke_2 : decode cL_revoke 2 = .ok (.aload_n 0, 1) := by decide +kernel
theorem dL_revoke_3 : decode cL_revoke 3 = .ok (.iload_n 1, 1) := by decide +kernel
theorem dL_revoke_4 : decode cL_revoke 4 = .ok (.invokevirtual 37, 3) := by decide +kernel
theorem dL_revoke_7 : decode cL_revoke 7 = .ok (.i2l, 1) := by decide +kernel
theorem dL_revoke_8 : decode cL_revoke 8 = .ok (.lastore, 1) := by decide +kernel
theorem dL_revoke_9 : decode cL_revoke 9 = .ok (.goto 9, 3) := by decide +kernel
theorem dL_revoke_12 : decode cL_revoke 12 = .ok (.astore_n 3, 1) := by decide +kernel
theorem dL_revoke_13 : decode cL_revoke 13 = .ok (.iconst 1, 1) := by decide +kernel
theorem dL_revoke_14 : decode cL_revoke 14 = .ok (.ireturn, 1) := by decide +kernel
theorem dL_revoke_15 : decode cL_revoke 15 = .ok (.astore_n 3, 1) := by decide +kernel
theorem dL_revoke_16 : decode cL_revoke 16 = .ok (.iconst 2, 1) := by decide +kernel
theorem dL_revoke_17 : decode cL_revoke 17 = .ok (.ireturn, 1) := by decide +kernel
theorem dL_revoke_18 : decode cL_revoke 18 = .ok (.iconst 0, 1) := by decide +kernel
theorem dL_revoke_19 : decode cL_revoke 19 = .ok (.ireturn, 1) := by decide +kernel
theorem dL_away_0 : decode cL_away 0 = .ok (.aload 4, 2) := by decide +kernel
theorem dL_away_2 : decode cL_away 2 = .ok (.iconst 0, 1) := by decide +kernel
theorem dL_away_3 : decode cL_away 3 = .ok (.aload_n 0, 1) := by decide +kernel
theorem dL_away_4 : decode cL_away 4 = .ok (.iload_n 1, 1) := by decide +kernel
theorem dL_away_5 : decode cL_away 5 = .ok (.iload_n 2, 1) := by decide +kernel
theorem dL_away_6 : decode cL_away 6 = .ok (.iload_n 3, 1) := by decide +kernel
theorem dL_away_7 : decode cL_away 7 = .ok (.invokevirtual 40, 3) := by decide +kernel
theorem dL_away_10 : decode cL_away 10 = .ok (.ifCond .eq 7, 3) := by decide +kernel
theorem dL_away_13 : decode cL_away 13 = .ok (.lconst 1, 1) := by decide +kernel
theorem dL_away_14 : decode cL_away 14 = .ok (.goto 4, 3) := by decide +kernel
theorem dL_away_17 : decode cL_away 17 = .ok (.lconst 0, 1) := by decide +kernel
theorem dL_away_18 : decode cL_away 18 = .ok (.lastore, 1) := by decide +kernel
theorem dL_away_19 : decode cL_away 19 = .ok (.goto 11, 3) := by decide +kernel
theorem dL_away_22 : decode cL_away 22 = .ok (.astore 5, 2) := by decide +kernel
theorem dL_away_24 : decode cL_away 24 = .ok (.iconst 1, 1) := by decide +kernel
theorem dL_away_25 : decode cL_away 25 = .ok (.ireturn, 1) := by decide +kernel
theorem dL_away_26 : decode cL_away 26 = .ok (.astore 5, 2) := by decide +kernel
theorem dL_away_28 : decode cL_away 28 = .ok (.iconst 2, 1) := by decide +kernel
theorem dL_away_29 : decode cL_away 29 = .ok (.ireturn, 1) := by decide +kernel
theorem dL_away_30 : decode cL_away 30 = .ok (.iconst 0, 1) := by decide +kernel
theorem dL_away_31 : decode cL_away 31 = .ok (.ireturn, 1) := by decide +kernel
theorem dL_buy_0 : decode cL_buy 0 = .ok (.aload_n 2, 1) := by decide +kernel
theorem dL_buy_1 : decode cL_buy 1 = .ok (.iconst 0, 1) := by decide +kernel
theorem dL_buy_2 : decode cL_buy 2 = .ok (.aload_n 0, 1) := by decide +kernel
theorem dL_buy_3 : decode cL_buy 3 = .ok (.iload_n 1, 1) := by decide +kernel
theorem dL_buy_4 : decode cL_buy 4 = .ok (.invokevirtual 44, 3) := by decide +kernel
theorem dL_buy_7 : decode cL_buy 7 = .ok (.i2l, 1) := by decide +kernel
theorem dL_buy_8 : decode cL_buy 8 = .ok (.lastore, 1) := by decide +kernel
theorem dL_buy_9 : decode cL_buy 9 = .ok (.goto 9, 3) := by decide +kernel
theorem dL_buy_12 : decode cL_buy 12 = .ok (.astore_n 3, 1) := by decide +kernel
theorem dL_buy_13 : decode cL_buy 13 = .ok (.iconst 1, 1) := by decide +kernel
theorem dL_buy_14 : decode cL_buy 14 = .ok (.ireturn, 1) := by decide +kernel
theorem dL_buy_15 : decode cL_buy 15 = .ok (.astore_n 3, 1) := by decide +kernel
theorem dL_buy_16 : decode cL_buy 16 = .ok (.iconst 2, 1) := by decide +kernel
theorem dL_buy_17 : decode cL_buy 17 = .ok (.ireturn, 1) := by decide +kernel
theorem dL_buy_18 : decode cL_buy 18 = .ok (.iconst 0, 1) := by decide +kernel
theorem dL_buy_19 : decode cL_buy 19 = .ok (.ireturn, 1) := by decide +kernel
theorem dL_mishap_0 : decode cL_mishap 0 = .ok (.aload_n 3, 1) := by decide +kernel
theorem dL_mishap_1 : decode cL_mishap 1 = .ok (.iconst 0, 1) := by decide +kernel
theorem dL_mishap_2 : decode cL_mishap 2 = .ok (.aload_n 0, 1) := by decide +kernel
theorem dL_mishap_3 : decode cL_mishap 3 = .ok (.iload_n 1, 1) := by decide +kernel
theorem dL_mishap_4 : decode cL_mishap 4 = .ok (.iload_n 2, 1) := by decide +kernel
theorem dL_mishap_5 : decode cL_mishap 5 = .ok (.invokevirtual 47, 3) := by decide +kernel
theorem dL_mishap_8 : decode cL_mishap 8 = .ok (.i2l, 1) := by decide +kernel
theorem dL_mishap_9 : decode cL_mishap 9 = .ok (.lastore, 1) := by decide +kernel
theorem dL_mishap_10 : decode cL_mishap 10 = .ok (.goto 15, 3) := by decide +kernel
theorem dL_mishap_13 : decode cL_mishap 13 = .ok (.astore 4, 2) := by decide +kernel
theorem dL_mishap_15 : decode cL_mishap 15 = .ok (.iconst 1, 1) := by decide +kernel
theorem dL_mishap_16 : decode cL_mishap 16 = .ok (.ireturn, 1) := by decide +kernel
theorem dL_mishap_17 : decode cL_mishap 17 = .ok (.astore 4, 2) := by decide +kernel
theorem dL_mishap_19 : decode cL_mishap 19 = .ok (.iconst 2, 1) := by decide +kernel
theorem dL_mishap_20 : decode cL_mishap 20 = .ok (.ireturn, 1) := by decide +kernel
theorem dL_mishap_21 : decode cL_mishap 21 = .ok (.astore 4, 2) := by decide +kernel
theorem dL_mishap_23 : decode cL_mishap 23 = .ok (.iconst 3, 1) := by decide +kernel
theorem dL_mishap_24 : decode cL_mishap 24 = .ok (.ireturn, 1) := by decide +kernel
theorem dL_mishap_25 : decode cL_mishap 25 = .ok (.iconst 0, 1) := by decide +kernel
theorem dL_mishap_26 : decode cL_mishap 26 = .ok (.ireturn, 1) := by decide +kernel
theorem dL_shoot_0 : decode cL_shoot 0 = .ok (.aload_n 1, 1) := by decide +kernel
theorem dL_shoot_1 : decode cL_shoot 1 = .ok (.iconst 0, 1) := by decide +kernel
theorem dL_shoot_2 : decode cL_shoot 2 = .ok (.aload_n 0, 1) := by decide +kernel
theorem dL_shoot_3 : decode cL_shoot 3 = .ok (.invokevirtual 50, 3) := by decide +kernel
theorem dL_shoot_6 : decode cL_shoot 6 = .ok (.i2l, 1) := by decide +kernel
theorem dL_shoot_7 : decode cL_shoot 7 = .ok (.lastore, 1) := by decide +kernel
theorem dL_shoot_8 : decode cL_shoot 8 = .ok (.goto 6, 3) := by decide +kernel
theorem dL_shoot_11 : decode cL_shoot 11 = .ok (.astore_n 2, 1) := by decide +kernel
theorem dL_shoot_12 : decode cL_shoot 12 = .ok (.iconst 1, 1) := by decide +kernel
theorem dL_shoot_13 : decode cL_shoot 13 = .ok (.ireturn, 1) := by decide +kernel
theorem dL_shoot_14 : decode cL_shoot 14 = .ok (.iconst 0, 1) := by decide +kernel
theorem dL_shoot_15 : decode cL_shoot 15 = .ok (.ireturn, 1) := by decide +kernel
theorem dL_least_0 : decode cL_least 0 = .ok (.aload_n 1, 1) := by decide +kernel
theorem dL_least_1 : decode cL_least 1 = .ok (.iconst 0, 1) := by decide +kernel
theorem dL_least_2 : decode cL_least 2 = .ok (.aload_n 0, 1) := by decide +kernel
theorem dL_least_3 : decode cL_least 3 = .ok (.invokevirtual 54, 3) := by decide +kernel
theorem dL_least_6 : decode cL_least 6 = .ok (.i2l, 1) := by decide +kernel
theorem dL_least_7 : decode cL_least 7 = .ok (.lastore, 1) := by decide +kernel
theorem dL_least_8 : decode cL_least 8 = .ok (.goto 6, 3) := by decide +kernel
theorem dL_least_11 : decode cL_least 11 = .ok (.astore_n 2, 1) := by decide +kernel
theorem dL_least_12 : decode cL_least 12 = .ok (.iconst 1, 1) := by decide +kernel
theorem dL_least_13 : decode cL_least 13 = .ok (.ireturn, 1) := by decide +kernel
theorem dL_least_14 : decode cL_least 14 = .ok (.iconst 0, 1) := by decide +kernel
theorem dL_least_15 : decode cL_least 15 = .ok (.ireturn, 1) := by decide +kernel
theorem dL_stateOf_0 : decode cL_stateOf 0 = .ok (.aload_n 2, 1) := by decide +kernel
theorem dL_stateOf_1 : decode cL_stateOf 1 = .ok (.iconst 0, 1) := by decide +kernel
theorem dL_stateOf_2 : decode cL_stateOf 2 = .ok (.aload_n 0, 1) := by decide +kernel
theorem dL_stateOf_3 : decode cL_stateOf 3 = .ok (.iload_n 1, 1) := by decide +kernel
theorem dL_stateOf_4 : decode cL_stateOf 4 = .ok (.invokevirtual 57, 3) := by decide +kernel
theorem dL_stateOf_7 : decode cL_stateOf 7 = .ok (.i2l, 1) := by decide +kernel
theorem dL_stateOf_8 : decode cL_stateOf 8 = .ok (.lastore, 1) := by decide +kernel
theorem dL_stateOf_9 : decode cL_stateOf 9 = .ok (.goto 6, 3) := by decide +kernel
theorem dL_stateOf_12 : decode cL_stateOf 12 = .ok (.astore_n 3, 1) := by decide +kernel
theorem dL_stateOf_13 : decode cL_stateOf 13 = .ok (.iconst 1, 1) := by decide +kernel
theorem dL_stateOf_14 : decode cL_stateOf 14 = .ok (.ireturn, 1) := by decide +kernel
theorem dL_stateOf_15 : decode cL_stateOf 15 = .ok (.iconst 0, 1) := by decide +kernel
theorem dL_stateOf_16 : decode cL_stateOf 16 = .ok (.ireturn, 1) := by decide +kernel
theorem dL_dayOf_0 : decode cL_dayOf 0 = .ok (.aload_n 2, 1) := by decide +kernel
theorem dL_dayOf_1 : decode cL_dayOf 1 = .ok (.iconst 0, 1) := by decide +kernel
theorem dL_dayOf_2 : decode cL_dayOf 2 = .ok (.aload_n 0, 1) := by decide +kernel
theorem dL_dayOf_3 : decode cL_dayOf 3 = .ok (.iload_n 1, 1) := by decide +kernel
theorem dL_dayOf_4 : decode cL_dayOf 4 = .ok (.invokevirtual 60, 3) := by decide +kernel
theorem dL_dayOf_7 : decode cL_dayOf 7 = .ok (.i2l, 1) := by decide +kernel
theorem dL_dayOf_8 : decode cL_dayOf 8 = .ok (.lastore, 1) := by decide +kernel
theorem dL_dayOf_9 : decode cL_dayOf 9 = .ok (.goto 6, 3) := by decide +kernel
theorem dL_dayOf_12 : decode cL_dayOf 12 = .ok (.astore_n 3, 1) := by decide +kernel
theorem dL_dayOf_13 : decode cL_dayOf 13 = .ok (.iconst 1, 1) := by decide +kernel
theorem dL_dayOf_14 : decode cL_dayOf 14 = .ok (.ireturn, 1) := by decide +kernel
theorem dL_dayOf_15 : decode cL_dayOf 15 = .ok (.iconst 0, 1) := by decide +kernel
theorem dL_dayOf_16 : decode cL_dayOf 16 = .ok (.ireturn, 1) := by decide +kernel
theorem dL_sceneOn_0 : decode cL_sceneOn 0 = .ok (.aload_n 2, 1) := by decide +kernel
theorem dL_sceneOn_1 : decode cL_sceneOn 1 = .ok (.iconst 0, 1) := by decide +kernel
theorem dL_sceneOn_2 : decode cL_sceneOn 2 = .ok (.aload_n 0, 1) := by decide +kernel
theorem dL_sceneOn_3 : decode cL_sceneOn 3 = .ok (.iload_n 1, 1) := by decide +kernel
theorem dL_sceneOn_4 : decode cL_sceneOn 4 = .ok (.invokevirtual 63, 3) := by decide +kernel
theorem dL_sceneOn_7 : decode cL_sceneOn 7 = .ok (.i2l, 1) := by decide +kernel
theorem dL_sceneOn_8 : decode cL_sceneOn 8 = .ok (.lastore, 1) := by decide +kernel
theorem dL_sceneOn_9 : decode cL_sceneOn 9 = .ok (.goto 6, 3) := by decide +kernel
theorem dL_sceneOn_12 : decode cL_sceneOn 12 = .ok (.astore_n 3, 1) := by decide +kernel
theorem dL_sceneOn_13 : decode cL_sceneOn 13 = .ok (.iconst 1, 1) := by decide +kernel
theorem dL_sceneOn_14 : decode cL_sceneOn 14 = .ok (.ireturn, 1) := by decide +kernel
theorem dL_sceneOn_15 : decode cL_sceneOn 15 = .ok (.iconst 0, 1) := by decide +kernel
theorem dL_sceneOn_16 : decode cL_sceneOn 16 = .ok (.ireturn, 1) := by decide +kernel
theorem dL_isAllowed_0 : decode cL_isAllowed 0 = .ok (.aload_n 3, 1) := by decide +kernel
theorem dL_isAllowed_1 : decode cL_isAllowed 1 = .ok (.iconst 0, 1) := by decide +kernel
theorem dL_isAllowed_2 : decode cL_isAllowed 2 = .ok (.aload_n 0, 1) := by decide +kernel
theorem dL_isAllowed_3 : decode cL_isAllowed 3 = .ok (.iload_n 1, 1) := by decide +kernel
theorem dL_isAllowed_4 : decode cL_isAllowed 4 = .ok (.iload_n 2, 1) := by decide +kernel
theorem dL_isAllowed_5 : decode cL_isAllowed 5 = .ok (.invokevirtual 66, 3) := by decide +kernel
theorem dL_isAllowed_8 : decode cL_isAllowed 8 = .ok (.ifCond .eq 7, 3) := by decide +kernel
theorem dL_isAllowed_11 : decode cL_isAllowed 11 = .ok (.lconst 1, 1) := by decide +kernel
theorem dL_isAllowed_12 : decode cL_isAllowed 12 = .ok (.goto 4, 3) := by decide +kernel
theorem dL_isAllowed_15 : decode cL_isAllowed 15 = .ok (.lconst 0, 1) := by decide +kernel
theorem dL_isAllowed_16 : decode cL_isAllowed 16 = .ok (.lastore, 1) := by decide +kernel
theorem dL_isAllowed_17 : decode cL_isAllowed 17 = .ok (.goto 11, 3) := by decide +kernel
theorem dL_isAllowed_20 : decode cL_isAllowed 20 = .ok (.astore 4, 2) := by decide +kernel
theorem dL_isAllowed_22 : decode cL_isAllowed 22 = .ok (.iconst 1, 1) := by decide +kernel
theorem dL_isAllowed_23 : decode cL_isAllowed 23 = .ok (.ireturn, 1) := by decide +kernel
theorem dL_isAllowed_24 : decode cL_isAllowed 24 = .ok (.astore 4, 2) := by decide +kernel
theorem dL_isAllowed_26 : decode cL_isAllowed 26 = .ok (.iconst 2, 1) := by decide +kernel
theorem dL_isAllowed_27 : decode cL_isAllowed 27 = .ok (.ireturn, 1) := by decide +kernel
theorem dL_isAllowed_28 : decode cL_isAllowed 28 = .ok (.iconst 0, 1) := by decide +kernel
theorem dL_isAllowed_29 : decode cL_isAllowed 29 = .ok (.ireturn, 1) := by decide +kernel
theorem dL_ahead_0 : decode cL_ahead 0 = .ok (.aload_n 3, 1) := by decide +kernel
theorem dL_ahead_1 : decode cL_ahead 1 = .ok (.iconst 0, 1) := by decide +kernel
theorem dL_ahead_2 : decode cL_ahead 2 = .ok (.aload_n 0, 1) := by decide +kernel
theorem dL_ahead_3 : decode cL_ahead 3 = .ok (.iload_n 1, 1) := by decide +kernel
theorem dL_ahead_4 : decode cL_ahead 4 = .ok (.iload_n 2, 1) := by decide +kernel
theorem dL_ahead_5 : decode cL_ahead 5 = .ok (.invokevirtual 70, 3) := by decide +kernel
theorem dL_ahead_8 : decode cL_ahead 8 = .ok (.i2l, 1) := by decide +kernel
theorem dL_ahead_9 : decode cL_ahead 9 = .ok (.lastore, 1) := by decide +kernel
theorem dL_ahead_10 : decode cL_ahead 10 = .ok (.goto 7, 3) := by decide +kernel
theorem dL_ahead_13 : decode cL_ahead 13 = .ok (.astore 4, 2) := by decide +kernel
theorem dL_ahead_15 : decode cL_ahead 15 = .ok (.iconst 1, 1) := by decide +kernel
theorem dL_ahead_16 : decode cL_ahead 16 = .ok (.ireturn, 1) := by decide +kernel
theorem dL_ahead_17 : decode cL_ahead 17 = .ok (.iconst 0, 1) := by decide +kernel
theorem dL_ahead_18 : decode cL_ahead 18 = .ok (.ireturn, 1) := by decide +kernel
theorem dL_copies_0 : decode cL_copies 0 = .ok (.aload_n 3, 1) := by decide +kernel
theorem dL_copies_1 : decode cL_copies 1 = .ok (.iconst 0, 1) := by decide +kernel
theorem dL_copies_2 : decode cL_copies 2 = .ok (.aload_n 0, 1) := by decide +kernel
theorem dL_copies_3 : decode cL_copies 3 = .ok (.iload_n 1, 1) := by decide +kernel
theorem dL_copies_4 : decode cL_copies 4 = .ok (.iload_n 2, 1) := by decide +kernel
theorem dL_copies_5 : decode cL_copies 5 = .ok (.invokevirtual 73, 3) := by decide +kernel
theorem dL_copies_8 : decode cL_copies 8 = .ok (.i2l, 1) := by decide +kernel
theorem dL_copies_9 : decode cL_copies 9 = .ok (.lastore, 1) := by decide +kernel
theorem dL_copies_10 : decode cL_copies 10 = .ok (.goto 11, 3) := by decide +kernel
theorem dL_copies_13 : decode cL_copies 13 = .ok (.astore 4, 2) := by decide +kernel
theorem dL_copies_15 : decode cL_copies 15 = .ok (.iconst 1, 1) := by decide +kernel
theorem dL_copies_16 : decode cL_copies 16 = .ok (.ireturn, 1) := by decide +kernel
theorem dL_copies_17 : decode cL_copies 17 = .ok (.astore 4, 2) := by decide +kernel
theorem dL_copies_19 : decode cL_copies 19 = .ok (.iconst 2, 1) := by decide +kernel
theorem dL_copies_20 : decode cL_copies 20 = .ok (.ireturn, 1) := by decide +kernel
theorem dL_copies_21 : decode cL_copies 21 = .ok (.iconst 0, 1) := by decide +kernel
theorem dL_copies_22 : decode cL_copies 22 = .ok (.ireturn, 1) := by decide +kernel
theorem dL_growth_0 : decode cL_growth 0 = .ok (.aload_n 2, 1) := by decide +kernel
theorem dL_growth_1 : decode cL_growth 1 = .ok (.iconst 0, 1) := by decide +kernel
theorem dL_growth_2 : decode cL_growth 2 = .ok (.aload_n 0, 1) := by decide +kernel
theorem dL_growth_3 : decode cL_growth 3 = .ok (.iload_n 1, 1) := by decide +kernel
theorem dL_growth_4 : decode cL_growth 4 = .ok (.invokevirtual 76, 3) := by decide +kernel
theorem dL_growth_7 : decode cL_growth 7 = .ok (.i2l, 1) := by decide +kernel
theorem dL_growth_8 : decode cL_growth 8 = .ok (.lastore, 1) := by decide +kernel
theorem dL_growth_9 : decode cL_growth 9 = .ok (.goto 6, 3) := by decide +kernel
theorem dL_growth_12 : decode cL_growth 12 = .ok (.astore_n 3, 1) := by decide +kernel
theorem dL_growth_13 : decode cL_growth 13 = .ok (.iconst 1, 1) := by decide +kernel
theorem dL_growth_14 : decode cL_growth 14 = .ok (.ireturn, 1) := by decide +kernel
theorem dL_growth_15 : decode cL_growth 15 = .ok (.iconst 0, 1) := by decide +kernel
theorem dL_growth_16 : decode cL_growth 16 = .ok (.ireturn, 1) := by decide +kernel
theorem dL_law_0 : decode cL_law 0 = .ok (.new 8, 3) := by decide +kernel
theorem dL_law_3 : decode cL_law 3 = .ok (.dup, 1) := by decide +kernel
theorem dL_law_4 : decode cL_law 4 = .ok (.invokespecial 79, 3) := by decide +kernel
theorem dL_law_7 : decode cL_law 7 = .ok (.astore_n 1, 1) := by decide +kernel
theorem dL_law_8 : decode cL_law 8 = .ok (.new 80, 3) := by decide +kernel
theorem dL_law_11 : decode cL_law 11 = .ok (.dup, 1) := by decide +kernel
theorem dL_law_12 : decode cL_law 12 = .ok (.invokespecial 82, 3) := by decide +kernel
theorem dL_law_15 : decode cL_law 15 = .ok (.astore_n 2, 1) := by decide +kernel
theorem dL_law_16 : decode cL_law 16 = .ok (.iconst 1, 1) := by decide +kernel
theorem dL_law_17 : decode cL_law 17 = .ok (.newarray .long, 2) := by decide +kernel
theorem dL_law_19 : decode cL_law 19 = .ok (.astore_n 3, 1) := by decide +kernel
theorem dL_law_20 : decode cL_law 20 = .ok (.iconst 0, 1) := by decide +kernel
theorem dL_law_21 : decode cL_law 21 = .ok (.istore 4, 2) := by decide +kernel
theorem dL_law_23 : decode cL_law 23 = .ok (.iload 4, 2) := by decide +kernel
theorem dL_law_25 : decode cL_law 25 = .ok (.aload_n 0, 1) := by decide +kernel
theorem dL_law_26 : decode cL_law 26 = .ok (.arraylength, 1) := by decide +kernel
theorem dL_law_27 : decode cL_law 27 = .ok (.iconst 5, 1) := by decide +kernel
theorem dL_law_28 : decode cL_law 28 = .ok (.isub, 1) := by decide +kernel
theorem dL_law_29 : decode cL_law 29 = .ok (.if_icmp .gt 1503, 3) := by decide +kernel
theorem dL_law_32 : decode cL_law 32 = .ok (.aload_n 0, 1) := by decide +kernel
theorem dL_law_33 : decode cL_law 33 = .ok (.iload 4, 2) := by decide +kernel
theorem dL_law_35 : decode cL_law 35 = .ok (.iaload, 1) := by decide +kernel
theorem dL_law_36 : decode cL_law 36 = .ok (.bipush 31, 2) := by decide +kernel
theorem dL_law_38 : decode cL_law 38 = .ok (.iand, 1) := by decide +kernel
theorem dL_law_39 : decode cL_law 39 = .ok (.tableswitch 1487 0 26 #[121, 189, 269, 361, 417, 485, 577, 633, 736, 792, 805, 873, 917, 930, 943, 987, 1000, 1013, 1026, 1039, 1095, 1151, 1207, 1220, 1295, 1363, 1431], 121) := by decide +kernel
theorem dL_law_160 : decode cL_law 160 = .ok (.aload_n 1, 1) := by decide +kernel
theorem dL_law_161 : decode cL_law 161 = .ok (.aload_n 0, 1) := by decide +kernel
theorem dL_law_162 : decode cL_law 162 = .ok (.iload 4, 2) := by decide +kernel
theorem dL_law_164 : decode cL_law 164 = .ok (.iconst 1, 1) := by decide +kernel
theorem dL_law_165 : decode cL_law 165 = .ok (.iadd, 1) := by decide +kernel
theorem dL_law_166 : decode cL_law 166 = .ok (.iaload, 1) := by decide +kernel
theorem dL_law_167 : decode cL_law 167 = .ok (.aload_n 0, 1) := by decide +kernel
theorem dL_law_168 : decode cL_law 168 = .ok (.iload 4, 2) := by decide +kernel
theorem dL_law_170 : decode cL_law 170 = .ok (.iconst 2, 1) := by decide +kernel
theorem dL_law_171 : decode cL_law 171 = .ok (.iadd, 1) := by decide +kernel
theorem dL_law_172 : decode cL_law 172 = .ok (.iaload, 1) := by decide +kernel
theorem dL_law_173 : decode cL_law 173 = .ok (.aload_n 3, 1) := by decide +kernel
theorem dL_law_174 : decode cL_law 174 = .ok (.invokestatic 83, 3) := by decide +kernel
theorem dL_law_177 : decode cL_law 177 = .ok (.istore 5, 2) := by decide +kernel
theorem dL_law_179 : decode cL_law 179 = .ok (.aload_n 2, 1) := by decide +kernel
theorem dL_law_180 : decode cL_law 180 = .ok (.aload_n 0, 1) := by decide +kernel
theorem dL_law_181 : decode cL_law 181 = .ok (.iload 4, 2) := by decide +kernel
theorem dL_law_183 : decode cL_law 183 = .ok (.iconst 1, 1) := by decide +kernel
theorem dL_law_184 : decode cL_law 184 = .ok (.iadd, 1) := by decide +kernel
theorem dL_law_185 : decode cL_law 185 = .ok (.iaload, 1) := by decide +kernel
theorem dL_law_186 : decode cL_law 186 = .ok (.aload_n 0, 1) := by decide +kernel
theorem dL_law_187 : decode cL_law 187 = .ok (.iload 4, 2) := by decide +kernel
theorem dL_law_189 : decode cL_law 189 = .ok (.iconst 2, 1) := by decide +kernel
theorem dL_law_190 : decode cL_law 190 = .ok (.iadd, 1) := by decide +kernel
theorem dL_law_191 : decode cL_law 191 = .ok (.iaload, 1) := by decide +kernel
theorem dL_law_192 : decode cL_law 192 = .ok (.invokevirtual 88, 3) := by decide +kernel
theorem dL_law_195 : decode cL_law 195 = .ok (.istore 6, 2) := by decide +kernel
theorem dL_law_197 : decode cL_law 197 = .ok (.aload_n 2, 1) := by decide +kernel
theorem dL_law_198 : decode cL_law 198 = .ok (.invokevirtual 89, 3) := by decide +kernel
theorem dL_law_201 : decode cL_law 201 = .ok (.iload 5, 2) := by decide +kernel
theorem dL_law_203 : decode cL_law 203 = .ok (.if_icmp .eq 5, 3) := by decide +kernel
theorem dL_law_206 : decode cL_law 206 = .ok (.iconst 0, 1) := by decide +kernel
theorem dL_law_207 : decode cL_law 207 = .ok (.ireturn, 1) := by decide +kernel
theorem dL_law_208 : decode cL_law 208 = .ok (.iload 5, 2) := by decide +kernel
theorem dL_law_210 : decode cL_law 210 = .ok (.ifCond .ne 15, 3) := by decide +kernel
theorem dL_law_213 : decode cL_law 213 = .ok (.aload_n 3, 1) := by decide +kernel
theorem dL_law_214 : decode cL_law 214 = .ok (.iconst 0, 1) := by decide +kernel
theorem dL_law_215 : decode cL_law 215 = .ok (.laload, 1) := by decide +kernel
theorem dL_law_216 : decode cL_law 216 = .ok (.iload 6, 2) := by decide +kernel
theorem dL_law_218 : decode cL_law 218 = .ok (.i2l, 1) := by decide +kernel
theorem dL_law_219 : decode cL_law 219 = .ok (.lcmp, 1) := by decide +kernel
theorem dL_law_220 : decode cL_law 220 = .ok (.ifCond .eq 5, 3) := by decide +kernel
theorem dL_law_223 : decode cL_law 223 = .ok (.iconst 0, 1) := by decide +kernel
theorem dL_law_224 : decode cL_law 224 = .ok (.ireturn, 1) := by decide +kernel
theorem dL_law_225 : decode cL_law 225 = .ok (.goto 1301, 3) := by decide +kernel
theorem dL_law_228 : decode cL_law 228 = .ok (.aload_n 1, 1) := by decide +kernel
theorem dL_law_229 : decode cL_law 229 = .ok (.aload_n 0, 1) := by decide +kernel
theorem dL_law_230 : decode cL_law 230 = .ok (.iload 4, 2) := by decide +kernel
theorem dL_law_232 : decode cL_law 232 = .ok (.iconst 1, 1) := by decide +kernel
theorem dL_law_233 : decode cL_law 233 = .ok (.iadd, 1) := by decide +kernel
theorem dL_law_234 : decode cL_law 234 = .ok (.iaload, 1) := by decide +kernel
theorem dL_law_235 : decode cL_law 235 = .ok (.aload_n 0, 1) := by decide +kernel
theorem dL_law_236 : decode cL_law 236 = .ok (.iload 4, 2) := by decide +kernel
theorem dL_law_238 : decode cL_law 238 = .ok (.iconst 2, 1) := by decide +kernel
theorem dL_law_239 : decode cL_law 239 = .ok (.iadd, 1) := by decide +kernel
theorem dL_law_240 : decode cL_law 240 = .ok (.iaload, 1) := by decide +kernel
theorem dL_law_241 : decode cL_law 241 = .ok (.aload_n 0, 1) := by decide +kernel
theorem dL_law_242 : decode cL_law 242 = .ok (.iload 4, 2) := by decide +kernel
theorem dL_law_244 : decode cL_law 244 = .ok (.iconst 3, 1) := by decide +kernel
theorem dL_law_245 : decode cL_law 245 = .ok (.iadd, 1) := by decide +kernel
theorem dL_law_246 : decode cL_law 246 = .ok (.iaload, 1) := by decide +kernel
theorem dL_law_247 : decode cL_law 247 = .ok (.aload_n 3, 1) := by decide +kernel
theorem dL_law_248 : decode cL_law 248 = .ok (.invokestatic 92, 3) := by decide +kernel
theorem dL_law_251 : decode cL_law 251 = .ok (.istore 5, 2) := by decide +kernel
theorem dL_law_253 : decode cL_law 253 = .ok (.aload_n 2, 1) := by decide +kernel
theorem dL_law_254 : decode cL_law 254 = .ok (.aload_n 0, 1) := by decide +kernel
theorem dL_law_255 : decode cL_law 255 = .ok (.iload 4, 2) := by decide +kernel
theorem dL_law_257 : decode cL_law 257 = .ok (.iconst 1, 1) := by decide +kernel
theorem dL_law_258 : decode cL_law 258 = .ok (.iadd, 1) := by decide +kernel
theorem dL_law_259 : decode cL_law 259 = .ok (.iaload, 1) := by decide +kernel
theorem dL_law_260 : decode cL_law 260 = .ok (.aload_n 0, 1) := by decide +kernel
theorem dL_law_261 : decode cL_law 261 = .ok (.iload 4, 2) := by decide +kernel
theorem dL_law_263 : decode cL_law 263 = .ok (.iconst 2, 1) := by decide +kernel
theorem dL_law_264 : decode cL_law 264 = .ok (.iadd, 1) := by decide +kernel
theorem dL_law_265 : decode cL_law 265 = .ok (.iaload, 1) := by decide +kernel
theorem dL_law_266 : decode cL_law 266 = .ok (.aload_n 0, 1) := by decide +kernel
theorem dL_law_267 : decode cL_law 267 = .ok (.iload 4, 2) := by decide +kernel
theorem dL_law_269 : decode cL_law 269 = .ok (.iconst 3, 1) := by decide +kernel
theorem dL_law_270 : decode cL_law 270 = .ok (.iadd, 1) := by decide +kernel
theorem dL_law_271 : decode cL_law 271 = .ok (.iaload, 1) := by decide +kernel
theorem dL_law_272 : decode cL_law 272 = .ok (.invokevirtual 95, 3) := by decide +kernel
theorem dL_law_275 : decode cL_law 275 = .ok (.istore 6, 2) := by decide +kernel
theorem dL_law_277 : decode cL_law 277 = .ok (.aload_n 2, 1) := by decide +kernel
theorem dL_law_278 : decode cL_law 278 = .ok (.invokevirtual 89, 3) := by decide +kernel
theorem dL_law_281 : decode cL_law 281 = .ok (.iload 5, 2) := by decide +kernel
theorem dL_law_283 : decode cL_law 283 = .ok (.if_icmp .eq 5, 3) := by decide +kernel
theorem dL_law_286 : decode cL_law 286 = .ok (.iconst 0, 1) := by decide +kernel
theorem dL_law_287 : decode cL_law 287 = .ok (.ireturn, 1) := by decide +kernel
theorem dL_law_288 : decode cL_law 288 = .ok (.iload 5, 2) := by decide +kernel
theorem dL_law_290 : decode cL_law 290 = .ok (.ifCond .ne 15, 3) := by decide +kernel
theorem dL_law_293 : decode cL_law 293 = .ok (.aload_n 3, 1) := by decide +kernel
theorem dL_law_294 : decode cL_law 294 = .ok (.iconst 0, 1) := by decide +kernel
theorem dL_law_295 : decode cL_law 295 = .ok (.laload, 1) := by decide +kernel
theorem dL_law_296 : decode cL_law 296 = .ok (.iload 6, 2) := by decide +kernel
theorem dL_law_298 : decode cL_law 298 = .ok (.i2l, 1) := by decide +kernel
theorem dL_law_299 : decode cL_law 299 = .ok (.lcmp, 1) := by decide +kernel
theorem dL_law_300 : decode cL_law 300 = .ok (.ifCond .eq 5, 3) := by decide +kernel
theorem dL_law_303 : decode cL_law 303 = .ok (.iconst 0, 1) := by decide +kernel
theorem dL_law_304 : decode cL_law 304 = .ok (.ireturn, 1) := by decide +kernel
theorem dL_law_305 : decode cL_law 305 = .ok (.goto 1221, 3) := by decide +kernel
theorem dL_law_308 : decode cL_law 308 = .ok (.aload_n 1, 1) := by decide +kernel
theorem dL_law_309 : decode cL_law 309 = .ok (.aload_n 0, 1) := by decide +kernel
theorem dL_law_310 : decode cL_law 310 = .ok (.iload 4, 2) := by decide +kernel
theorem dL_law_312 : decode cL_law 312 = .ok (.iconst 1, 1) := by decide +kernel
theorem dL_law_313 : decode cL_law 313 = .ok (.iadd, 1) := by decide +kernel
theorem dL_law_314 : decode cL_law 314 = .ok (.iaload, 1) := by decide +kernel
theorem dL_law_315 : decode cL_law 315 = .ok (.aload_n 0, 1) := by decide +kernel
theorem dL_law_316 : decode cL_law 316 = .ok (.iload 4, 2) := by decide +kernel
theorem dL_law_318 : decode cL_law 318 = .ok (.iconst 2, 1) := by decide +kernel
theorem dL_law_319 : decode cL_law 319 = .ok (.iadd, 1) := by decide +kernel
theorem dL_law_320 : decode cL_law 320 = .ok (.iaload, 1) := by decide +kernel
theorem dL_law_321 : decode cL_law 321 = .ok (.aload_n 0, 1) := by decide +kernel
theorem dL_law_322 : decode cL_law 322 = .ok (.iload 4, 2) := by decide +kernel
theorem dL_law_324 : decode cL_law 324 = .ok (.iconst 3, 1) := by decide +kernel
theorem dL_law_325 : decode cL_law 325 = .ok (.iadd, 1) := by decide +kernel
theorem dL_law_326 : decode cL_law 326 = .ok (.iaload, 1) := by decide +kernel
theorem dL_law_327 : decode cL_law 327 = .ok (.aload_n 0, 1) := by decide +kernel
theorem dL_law_328 : decode cL_law 328 = .ok (.iload 4, 2) := by decide +kernel
theorem dL_law_330 : decode cL_law 330 = .ok (.iconst 4, 1) := by decide +kernel
theorem dL_law_331 : decode cL_law 331 = .ok (.iadd, 1) := by decide +kernel
theorem dL_law_332 : decode cL_law 332 = .ok (.iaload, 1) := by decide +kernel
theorem dL_law_333 : decode cL_law 333 = .ok (.aload_n 3, 1) := by decide +kernel
theorem dL_law_334 : decode cL_law 334 = .ok (.invokestatic 96, 3) := by decide +kernel
theorem dL_law_337 : decode cL_law 337 = .ok (.istore 5, 2) := by decide +kernel
theorem dL_law_339 : decode cL_law 339 = .ok (.aload_n 2, 1) := by decide +kernel
theorem dL_law_340 : decode cL_law 340 = .ok (.aload_n 0, 1) := by decide +kernel
theorem dL_law_341 : decode cL_law 341 = .ok (.iload 4, 2) := by decide +kernel
theorem dL_law_343 : decode cL_law 343 = .ok (.iconst 1, 1) := by decide +kernel
theorem dL_law_344 : decode cL_law 344 = .ok (.iadd, 1) := by decide +kernel
theorem dL_law_345 : decode cL_law 345 = .ok (.iaload, 1) := by decide +kernel
theorem dL_law_346 : decode cL_law 346 = .ok (.aload_n 0, 1) := by decide +kernel
theorem dL_law_347 : decode cL_law 347 = .ok (.iload 4, 2) := by decide +kernel
theorem dL_law_349 : decode cL_law 349 = .ok (.iconst 2, 1) := by decide +kernel
theorem dL_law_350 : decode cL_law 350 = .ok (.iadd, 1) := by decide +kernel
theorem dL_law_351 : decode cL_law 351 = .ok (.iaload, 1) := by decide +kernel
theorem dL_law_352 : decode cL_law 352 = .ok (.aload_n 0, 1) := by decide +kernel
theorem dL_law_353 : decode cL_law 353 = .ok (.iload 4, 2) := by decide +kernel
theorem dL_law_355 : decode cL_law 355 = .ok (.iconst 3, 1) := by decide +kernel
theorem dL_law_356 : decode cL_law 356 = .ok (.iadd, 1) := by decide +kernel
theorem dL_law_357 : decode cL_law 357 = .ok (.iaload, 1) := by decide +kernel
theorem dL_law_358 : decode cL_law 358 = .ok (.aload_n 0, 1) := by decide +kernel
theorem dL_law_359 : decode cL_law 359 = .ok (.iload 4, 2) := by decide +kernel
theorem dL_law_361 : decode cL_law 361 = .ok (.iconst 4, 1) := by decide +kernel
theorem dL_law_362 : decode cL_law 362 = .ok (.iadd, 1) := by decide +kernel
theorem dL_law_363 : decode cL_law 363 = .ok (.iaload, 1) := by decide +kernel
theorem dL_law_364 : decode cL_law 364 = .ok (.invokevirtual 99, 3) := by decide +kernel
theorem dL_law_367 : decode cL_law 367 = .ok (.istore 6, 2) := by decide +kernel
theorem dL_law_369 : decode cL_law 369 = .ok (.aload_n 2, 1) := by decide +kernel
theorem dL_law_370 : decode cL_law 370 = .ok (.invokevirtual 89, 3) := by decide +kernel
theorem dL_law_373 : decode cL_law 373 = .ok (.iload 5, 2) := by decide +kernel
theorem dL_law_375 : decode cL_law 375 = .ok (.if_icmp .eq 5, 3) := by decide +kernel
theorem dL_law_378 : decode cL_law 378 = .ok (.iconst 0, 1) := by decide +kernel
theorem dL_law_379 : decode cL_law 379 = .ok (.ireturn, 1) := by decide +kernel
theorem dL_law_380 : decode cL_law 380 = .ok (.iload 5, 2) := by decide +kernel
theorem dL_law_382 : decode cL_law 382 = .ok (.ifCond .ne 15, 3) := by decide +kernel
theorem dL_law_385 : decode cL_law 385 = .ok (.aload_n 3, 1) := by decide +kernel
theorem dL_law_386 : decode cL_law 386 = .ok (.iconst 0, 1) := by decide +kernel
theorem dL_law_387 : decode cL_law 387 = .ok (.laload, 1) := by decide +kernel
theorem dL_law_388 : decode cL_law 388 = .ok (.iload 6, 2) := by decide +kernel
theorem dL_law_390 : decode cL_law 390 = .ok (.i2l, 1) := by decide +kernel
theorem dL_law_391 : decode cL_law 391 = .ok (.lcmp, 1) := by decide +kernel
theorem dL_law_392 : decode cL_law 392 = .ok (.ifCond .eq 5, 3) := by decide +kernel
theorem dL_law_395 : decode cL_law 395 = .ok (.iconst 0, 1) := by decide +kernel
theorem dL_law_396 : decode cL_law 396 = .ok (.ireturn, 1) := by decide +kernel
theorem dL_law_397 : decode cL_law 397 = .ok (.goto 1129, 3) := by decide +kernel
theorem dL_law_400 : decode cL_law 400 = .ok (.aload_n 1, 1) := by decide +kernel
theorem dL_law_401 : decode cL_law 401 = .ok (.aload_n 0, 1) := by decide +kernel
theorem dL_law_402 : decode cL_law 402 = .ok (.iload 4, 2) := by decide +kernel
theorem dL_law_404 : decode cL_law 404 = .ok (.iconst 1, 1) := by decide +kernel
theorem dL_law_405 : decode cL_law 405 = .ok (.iadd, 1) := by decide +kernel
theorem dL_law_406 : decode cL_law 406 = .ok (.iaload, 1) := by decide +kernel
theorem dL_law_407 : decode cL_law 407 = .ok (.aload_n 3, 1) := by decide +kernel
theorem dL_law_408 : decode cL_law 408 = .ok (.invokestatic 100, 3) := by decide +kernel
theorem dL_law_411 : decode cL_law 411 = .ok (.istore 5, 2) := by decide +kernel
theorem dL_law_413 : decode cL_law 413 = .ok (.aload_n 2, 1) := by decide +kernel
theorem dL_law_414 : decode cL_law 414 = .ok (.aload_n 0, 1) := by decide +kernel
theorem dL_law_415 : decode cL_law 415 = .ok (.iload 4, 2) := by decide +kernel
theorem dL_law_417 : decode cL_law 417 = .ok (.iconst 1, 1) := by decide +kernel
theorem dL_law_418 : decode cL_law 418 = .ok (.iadd, 1) := by decide +kernel
theorem dL_law_419 : decode cL_law 419 = .ok (.iaload, 1) := by decide +kernel
theorem dL_law_420 : decode cL_law 420 = .ok (.invokevirtual 103, 3) := by decide +kernel
theorem dL_law_423 : decode cL_law 423 = .ok (.istore 6, 2) := by decide +kernel
theorem dL_law_425 : decode cL_law 425 = .ok (.aload_n 2, 1) := by decide +kernel
theorem dL_law_426 : decode cL_law 426 = .ok (.invokevirtual 89, 3) := by decide +kernel
theorem dL_law_429 : decode cL_law 429 = .ok (.iload 5, 2) := by decide +kernel
theorem dL_law_431 : decode cL_law 431 = .ok (.if_icmp .eq 5, 3) := by decide +kernel
theorem dL_law_434 : decode cL_law 434 = .ok (.iconst 0, 1) := by decide +kernel
theorem dL_law_435 : decode cL_law 435 = .ok (.ireturn, 1) := by decide +kernel
theorem dL_law_436 : decode cL_law 436 = .ok (.iload 5, 2) := by decide +kernel
theorem dL_law_438 : decode cL_law 438 = .ok (.ifCond .ne 15, 3) := by decide +kernel
theorem dL_law_441 : decode cL_law 441 = .ok (.aload_n 3, 1) := by decide +kernel
theorem dL_law_442 : decode cL_law 442 = .ok (.iconst 0, 1) := by decide +kernel
theorem dL_law_443 : decode cL_law 443 = .ok (.laload, 1) := by decide +kernel
theorem dL_law_444 : decode cL_law 444 = .ok (.iload 6, 2) := by decide +kernel
theorem dL_law_446 : decode cL_law 446 = .ok (.i2l, 1) := by decide +kernel
theorem dL_law_447 : decode cL_law 447 = .ok (.lcmp, 1) := by decide +kernel
theorem dL_law_448 : decode cL_law 448 = .ok (.ifCond .eq 5, 3) := by decide +kernel
theorem dL_law_451 : decode cL_law 451 = .ok (.iconst 0, 1) := by decide +kernel
theorem dL_law_452 : decode cL_law 452 = .ok (.ireturn, 1) := by decide +kernel
theorem dL_law_453 : decode cL_law 453 = .ok (.goto 1073, 3) := by decide +kernel
theorem dL_law_456 : decode cL_law 456 = .ok (.aload_n 1, 1) := by decide +kernel
theorem dL_law_457 : decode cL_law 457 = .ok (.aload_n 0, 1) := by decide +kernel
theorem dL_law_458 : decode cL_law 458 = .ok (.iload 4, 2) := by decide +kernel
theorem dL_law_460 : decode cL_law 460 = .ok (.iconst 1, 1) := by decide +kernel
theorem dL_law_461 : decode cL_law 461 = .ok (.iadd, 1) := by decide +kernel
theorem dL_law_462 : decode cL_law 462 = .ok (.iaload, 1) := by decide +kernel
theorem dL_law_463 : decode cL_law 463 = .ok (.aload_n 0, 1) := by decide +kernel
theorem dL_law_464 : decode cL_law 464 = .ok (.iload 4, 2) := by decide +kernel
theorem dL_law_466 : decode cL_law 466 = .ok (.iconst 2, 1) := by decide +kernel
theorem dL_law_467 : decode cL_law 467 = .ok (.iadd, 1) := by decide +kernel
theorem dL_law_468 : decode cL_law 468 = .ok (.iaload, 1) := by decide +kernel
theorem dL_law_469 : decode cL_law 469 = .ok (.aload_n 3, 1) := by decide +kernel
theorem dL_law_470 : decode cL_law 470 = .ok (.invokestatic 104, 3) := by decide +kernel
theorem dL_law_473 : decode cL_law 473 = .ok (.istore 5, 2) := by decide +kernel
theorem dL_law_475 : decode cL_law 475 = .ok (.aload_n 2, 1) := by decide +kernel
theorem dL_law_476 : decode cL_law 476 = .ok (.aload_n 0, 1) := by decide +kernel
theorem dL_law_477 : decode cL_law 477 = .ok (.iload 4, 2) := by decide +kernel
theorem dL_law_479 : decode cL_law 479 = .ok (.iconst 1, 1) := by decide +kernel
theorem dL_law_480 : decode cL_law 480 = .ok (.iadd, 1) := by decide +kernel
theorem dL_law_481 : decode cL_law 481 = .ok (.iaload, 1) := by decide +kernel
theorem dL_law_482 : decode cL_law 482 = .ok (.aload_n 0, 1) := by decide +kernel
theorem dL_law_483 : decode cL_law 483 = .ok (.iload 4, 2) := by decide +kernel
theorem dL_law_485 : decode cL_law 485 = .ok (.iconst 2, 1) := by decide +kernel
theorem dL_law_486 : decode cL_law 486 = .ok (.iadd, 1) := by decide +kernel
theorem dL_law_487 : decode cL_law 487 = .ok (.iaload, 1) := by decide +kernel
theorem dL_law_488 : decode cL_law 488 = .ok (.invokevirtual 106, 3) := by decide +kernel
theorem dL_law_491 : decode cL_law 491 = .ok (.istore 6, 2) := by decide +kernel
theorem dL_law_493 : decode cL_law 493 = .ok (.aload_n 2, 1) := by decide +kernel
theorem dL_law_494 : decode cL_law 494 = .ok (.invokevirtual 89, 3) := by decide +kernel
theorem dL_law_497 : decode cL_law 497 = .ok (.iload 5, 2) := by decide +kernel
theorem dL_law_499 : decode cL_law 499 = .ok (.if_icmp .eq 5, 3) := by decide +kernel
theorem dL_law_502 : decode cL_law 502 = .ok (.iconst 0, 1) := by decide +kernel
theorem dL_law_503 : decode cL_law 503 = .ok (.ireturn, 1) := by decide +kernel
theorem dL_law_504 : decode cL_law 504 = .ok (.iload 5, 2) := by decide +kernel
theorem dL_law_506 : decode cL_law 506 = .ok (.ifCond .ne 15, 3) := by decide +kernel
theorem dL_law_509 : decode cL_law 509 = .ok (.aload_n 3, 1) := by decide +kernel
theorem dL_law_510 : decode cL_law 510 = .ok (.iconst 0, 1) := by decide +kernel
theorem dL_law_511 : decode cL_law 511 = .ok (.laload, 1) := by decide +kernel
theorem dL_law_512 : decode cL_law 512 = .ok (.iload 6, 2) := by decide +kernel
theorem dL_law_514 : decode cL_law 514 = .ok (.i2l, 1) := by decide +kernel
theorem dL_law_515 : decode cL_law 515 = .ok (.lcmp, 1) := by decide +kernel
theorem dL_law_516 : decode cL_law 516 = .ok (.ifCond .eq 5, 3) := by decide +kernel
theorem dL_law_519 : decode cL_law 519 = .ok (.iconst 0, 1) := by decide +kernel
theorem dL_law_520 : decode cL_law 520 = .ok (.ireturn, 1) := by decide +kernel
theorem dL_law_521 : decode cL_law 521 = .ok (.goto 1005, 3) := by decide +kernel
theorem dL_law_524 : decode cL_law 524 = .ok (.aload_n 1, 1) := by decide +kernel
theorem dL_law_525 : decode cL_law 525 = .ok (.aload_n 0, 1) := by decide +kernel
theorem dL_law_526 : decode cL_law 526 = .ok (.iload 4, 2) := by decide +kernel
theorem dL_law_528 : decode cL_law 528 = .ok (.iconst 1, 1) := by decide +kernel
theorem dL_law_529 : decode cL_law 529 = .ok (.iadd, 1) := by decide +kernel
theorem dL_law_530 : decode cL_law 530 = .ok (.iaload, 1) := by decide +kernel
theorem dL_law_531 : decode cL_law 531 = .ok (.aload_n 0, 1) := by decide +kernel
theorem dL_law_532 : decode cL_law 532 = .ok (.iload 4, 2) := by decide +kernel
theorem dL_law_534 : decode cL_law 534 = .ok (.iconst 2, 1) := by decide +kernel
theorem dL_law_535 : decode cL_law 535 = .ok (.iadd, 1) := by decide +kernel
theorem dL_law_536 : decode cL_law 536 = .ok (.iaload, 1) := by decide +kernel
theorem dL_law_537 : decode cL_law 537 = .ok (.aload_n 0, 1) := by decide +kernel
theorem dL_law_538 : decode cL_law 538 = .ok (.iload 4, 2) := by decide +kernel
theorem dL_law_540 : decode cL_law 540 = .ok (.iconst 3, 1) := by decide +kernel
theorem dL_law_541 : decode cL_law 541 = .ok (.iadd, 1) := by decide +kernel
theorem dL_law_542 : decode cL_law 542 = .ok (.iaload, 1) := by decide +kernel
theorem dL_law_543 : decode cL_law 543 = .ok (.aload_n 0, 1) := by decide +kernel
theorem dL_law_544 : decode cL_law 544 = .ok (.iload 4, 2) := by decide +kernel
theorem dL_law_546 : decode cL_law 546 = .ok (.iconst 4, 1) := by decide +kernel
theorem dL_law_547 : decode cL_law 547 = .ok (.iadd, 1) := by decide +kernel
theorem dL_law_548 : decode cL_law 548 = .ok (.iaload, 1) := by decide +kernel
theorem dL_law_549 : decode cL_law 549 = .ok (.aload_n 3, 1) := by decide +kernel
theorem dL_law_550 : decode cL_law 550 = .ok (.invokestatic 107, 3) := by decide +kernel
theorem dL_law_553 : decode cL_law 553 = .ok (.istore 5, 2) := by decide +kernel
theorem dL_law_555 : decode cL_law 555 = .ok (.aload_n 2, 1) := by decide +kernel
theorem dL_law_556 : decode cL_law 556 = .ok (.aload_n 0, 1) := by decide +kernel
theorem dL_law_557 : decode cL_law 557 = .ok (.iload 4, 2) := by decide +kernel
theorem dL_law_559 : decode cL_law 559 = .ok (.iconst 1, 1) := by decide +kernel
theorem dL_law_560 : decode cL_law 560 = .ok (.iadd, 1) := by decide +kernel
theorem dL_law_561 : decode cL_law 561 = .ok (.iaload, 1) := by decide +kernel
theorem dL_law_562 : decode cL_law 562 = .ok (.aload_n 0, 1) := by decide +kernel
theorem dL_law_563 : decode cL_law 563 = .ok (.iload 4, 2) := by decide +kernel
theorem dL_law_565 : decode cL_law 565 = .ok (.iconst 2, 1) := by decide +kernel
theorem dL_law_566 : decode cL_law 566 = .ok (.iadd, 1) := by decide +kernel
theorem dL_law_567 : decode cL_law 567 = .ok (.iaload, 1) := by decide +kernel
theorem dL_law_568 : decode cL_law 568 = .ok (.aload_n 0, 1) := by decide +kernel
theorem dL_law_569 : decode cL_law 569 = .ok (.iload 4, 2) := by decide +kernel
theorem dL_law_571 : decode cL_law 571 = .ok (.iconst 3, 1) := by decide +kernel
theorem dL_law_572 : decode cL_law 572 = .ok (.iadd, 1) := by decide +kernel
theorem dL_law_573 : decode cL_law 573 = .ok (.iaload, 1) := by decide +kernel
theorem dL_law_574 : decode cL_law 574 = .ok (.aload_n 0, 1) := by decide +kernel
theorem dL_law_575 : decode cL_law 575 = .ok (.iload 4, 2) := by decide +kernel
theorem dL_law_577 : decode cL_law 577 = .ok (.iconst 4, 1) := by decide +kernel
theorem dL_law_578 : decode cL_law 578 = .ok (.iadd, 1) := by decide +kernel
theorem dL_law_579 : decode cL_law 579 = .ok (.iaload, 1) := by decide +kernel
theorem dL_law_580 : decode cL_law 580 = .ok (.invokevirtual 109, 3) := by decide +kernel
theorem dL_law_583 : decode cL_law 583 = .ok (.istore 6, 2) := by decide +kernel
theorem dL_law_585 : decode cL_law 585 = .ok (.aload_n 2, 1) := by decide +kernel
theorem dL_law_586 : decode cL_law 586 = .ok (.invokevirtual 89, 3) := by decide +kernel
theorem dL_law_589 : decode cL_law 589 = .ok (.iload 5, 2) := by decide +kernel
theorem dL_law_591 : decode cL_law 591 = .ok (.if_icmp .eq 5, 3) := by decide +kernel
theorem dL_law_594 : decode cL_law 594 = .ok (.iconst 0, 1) := by decide +kernel
theorem dL_law_595 : decode cL_law 595 = .ok (.ireturn, 1) := by decide +kernel
theorem dL_law_596 : decode cL_law 596 = .ok (.iload 5, 2) := by decide +kernel
theorem dL_law_598 : decode cL_law 598 = .ok (.ifCond .ne 15, 3) := by decide +kernel
theorem dL_law_601 : decode cL_law 601 = .ok (.aload_n 3, 1) := by decide +kernel
theorem dL_law_602 : decode cL_law 602 = .ok (.iconst 0, 1) := by decide +kernel
theorem dL_law_603 : decode cL_law 603 = .ok (.laload, 1) := by decide +kernel
theorem dL_law_604 : decode cL_law 604 = .ok (.iload 6, 2) := by decide +kernel
theorem dL_law_606 : decode cL_law 606 = .ok (.i2l, 1) := by decide +kernel
theorem dL_law_607 : decode cL_law 607 = .ok (.lcmp, 1) := by decide +kernel
theorem dL_law_608 : decode cL_law 608 = .ok (.ifCond .eq 5, 3) := by decide +kernel
theorem dL_law_611 : decode cL_law 611 = .ok (.iconst 0, 1) := by decide +kernel
theorem dL_law_612 : decode cL_law 612 = .ok (.ireturn, 1) := by decide +kernel
theorem dL_law_613 : decode cL_law 613 = .ok (.goto 913, 3) := by decide +kernel
theorem dL_law_616 : decode cL_law 616 = .ok (.aload_n 1, 1) := by decide +kernel
theorem dL_law_617 : decode cL_law 617 = .ok (.aload_n 0, 1) := by decide +kernel
theorem dL_law_618 : decode cL_law 618 = .ok (.iload 4, 2) := by decide +kernel
theorem dL_law_620 : decode cL_law 620 = .ok (.iconst 1, 1) := by decide +kernel
theorem dL_law_621 : decode cL_law 621 = .ok (.iadd, 1) := by decide +kernel
theorem dL_law_622 : decode cL_law 622 = .ok (.iaload, 1) := by decide +kernel
theorem dL_law_623 : decode cL_law 623 = .ok (.aload_n 3, 1) := by decide +kernel
theorem dL_law_624 : decode cL_law 624 = .ok (.invokestatic 110, 3) := by decide +kernel
theorem dL_law_627 : decode cL_law 627 = .ok (.istore 5, 2) := by decide +kernel
theorem dL_law_629 : decode cL_law 629 = .ok (.aload_n 2, 1) := by decide +kernel
theorem dL_law_630 : decode cL_law 630 = .ok (.aload_n 0, 1) := by decide +kernel
theorem dL_law_631 : decode cL_law 631 = .ok (.iload 4, 2) := by decide +kernel
theorem dL_law_633 : decode cL_law 633 = .ok (.iconst 1, 1) := by decide +kernel
theorem dL_law_634 : decode cL_law 634 = .ok (.iadd, 1) := by decide +kernel
theorem dL_law_635 : decode cL_law 635 = .ok (.iaload, 1) := by decide +kernel
theorem dL_law_636 : decode cL_law 636 = .ok (.invokevirtual 112, 3) := by decide +kernel
theorem dL_law_639 : decode cL_law 639 = .ok (.istore 6, 2) := by decide +kernel
theorem dL_law_641 : decode cL_law 641 = .ok (.aload_n 2, 1) := by decide +kernel
theorem dL_law_642 : decode cL_law 642 = .ok (.invokevirtual 89, 3) := by decide +kernel
theorem dL_law_645 : decode cL_law 645 = .ok (.iload 5, 2) := by decide +kernel
theorem dL_law_647 : decode cL_law 647 = .ok (.if_icmp .eq 5, 3) := by decide +kernel
theorem dL_law_650 : decode cL_law 650 = .ok (.iconst 0, 1) := by decide +kernel
theorem dL_law_651 : decode cL_law 651 = .ok (.ireturn, 1) := by decide +kernel
theorem dL_law_652 : decode cL_law 652 = .ok (.iload 5, 2) := by decide +kernel
theorem dL_law_654 : decode cL_law 654 = .ok (.ifCond .ne 15, 3) := by decide +kernel
theorem dL_law_657 : decode cL_law 657 = .ok (.aload_n 3, 1) := by decide +kernel
theorem dL_law_658 : decode cL_law 658 = .ok (.iconst 0, 1) := by decide +kernel
theorem dL_law_659 : decode cL_law 659 = .ok (.laload, 1) := by decide +kernel
theorem dL_law_660 : decode cL_law 660 = .ok (.iload 6, 2) := by decide +kernel
theorem dL_law_662 : decode cL_law 662 = .ok (.i2l, 1) := by decide +kernel
theorem dL_law_663 : decode cL_law 663 = .ok (.lcmp, 1) := by decide +kernel
theorem dL_law_664 : decode cL_law 664 = .ok (.ifCond .eq 5, 3) := by decide +kernel
theorem dL_law_667 : decode cL_law 667 = .ok (.iconst 0, 1) := by decide +kernel
theorem dL_law_668 : decode cL_law 668 = .ok (.ireturn, 1) := by decide +kernel
theorem dL_law_669 : decode cL_law 669 = .ok (.goto 857, 3) := by decide +kernel
theorem dL_law_672 : decode cL_law 672 = .ok (.aload_n 1, 1) := by decide +kernel
theorem dL_law_673 : decode cL_law 673 = .ok (.aload_n 0, 1) := by decide +kernel
theorem dL_law_674 : decode cL_law 674 = .ok (.iload 4, 2) := by decide +kernel
theorem dL_law_676 : decode cL_law 676 = .ok (.iconst 1, 1) := by decide +kernel
theorem dL_law_677 : decode cL_law 677 = .ok (.iadd, 1) := by decide +kernel
theorem dL_law_678 : decode cL_law 678 = .ok (.iaload, 1) := by decide +kernel
theorem dL_law_679 : decode cL_law 679 = .ok (.aload_n 0, 1) := by decide +kernel
theorem dL_law_680 : decode cL_law 680 = .ok (.iload 4, 2) := by decide +kernel
theorem dL_law_682 : decode cL_law 682 = .ok (.iconst 2, 1) := by decide +kernel
theorem dL_law_683 : decode cL_law 683 = .ok (.iadd, 1) := by decide +kernel
theorem dL_law_684 : decode cL_law 684 = .ok (.iaload, 1) := by decide +kernel
theorem dL_law_685 : decode cL_law 685 = .ok (.aload_n 0, 1) := by decide +kernel
theorem dL_law_686 : decode cL_law 686 = .ok (.iload 4, 2) := by decide +kernel
theorem dL_law_688 : decode cL_law 688 = .ok (.iconst 3, 1) := by decide +kernel
theorem dL_law_689 : decode cL_law 689 = .ok (.iadd, 1) := by decide +kernel
theorem dL_law_690 : decode cL_law 690 = .ok (.iaload, 1) := by decide +kernel
theorem dL_law_691 : decode cL_law 691 = .ok (.ifCond .eq 7, 3) := by decide +kernel
theorem dL_law_694 : decode cL_law 694 = .ok (.iconst 1, 1) := by decide +kernel
theorem dL_law_695 : decode cL_law 695 = .ok (.goto 4, 3) := by decide +kernel
theorem dL_law_698 : decode cL_law 698 = .ok (.iconst 0, 1) := by decide +kernel
theorem dL_law_699 : decode cL_law 699 = .ok (.aload_n 3, 1) := by decide +kernel
theorem dL_law_700 : decode cL_law 700 = .ok (.invokestatic 113, 3) := by decide +kernel
theorem dL_law_703 : decode cL_law 703 = .ok (.istore 5, 2) := by decide +kernel
theorem dL_law_705 : decode cL_law 705 = .ok (.aload_n 2, 1) := by decide +kernel
theorem dL_law_706 : decode cL_law 706 = .ok (.aload_n 0, 1) := by decide +kernel
theorem dL_law_707 : decode cL_law 707 = .ok (.iload 4, 2) := by decide +kernel
theorem dL_law_709 : decode cL_law 709 = .ok (.iconst 1, 1) := by decide +kernel
theorem dL_law_710 : decode cL_law 710 = .ok (.iadd, 1) := by decide +kernel
theorem dL_law_711 : decode cL_law 711 = .ok (.iaload, 1) := by decide +kernel
theorem dL_law_712 : decode cL_law 712 = .ok (.aload_n 0, 1) := by decide +kernel
theorem dL_law_713 : decode cL_law 713 = .ok (.iload 4, 2) := by decide +kernel
theorem dL_law_715 : decode cL_law 715 = .ok (.iconst 2, 1) := by decide +kernel
theorem dL_law_716 : decode cL_law 716 = .ok (.iadd, 1) := by decide +kernel
theorem dL_law_717 : decode cL_law 717 = .ok (.iaload, 1) := by decide +kernel
theorem dL_law_718 : decode cL_law 718 = .ok (.aload_n 0, 1) := by decide +kernel
theorem dL_law_719 : decode cL_law 719 = .ok (.iload 4, 2) := by decide +kernel
theorem dL_law_721 : decode cL_law 721 = .ok (.iconst 3, 1) := by decide +kernel
theorem dL_law_722 : decode cL_law 722 = .ok (.iadd, 1) := by decide +kernel
theorem dL_law_723 : decode cL_law 723 = .ok (.iaload, 1) := by decide +kernel
theorem dL_law_724 : decode cL_law 724 = .ok (.ifCond .eq 7, 3) := by decide +kernel
theorem dL_law_727 : decode cL_law 727 = .ok (.iconst 1, 1) := by decide +kernel
theorem dL_law_728 : decode cL_law 728 = .ok (.goto 4, 3) := by decide +kernel
theorem dL_law_731 : decode cL_law 731 = .ok (.iconst 0, 1) := by decide +kernel
theorem dL_law_732 : decode cL_law 732 = .ok (.invokevirtual 116, 3) := by decide +kernel
theorem dL_law_735 : decode cL_law 735 = .ok (.istore 6, 2) := by decide +kernel
theorem dL_law_737 : decode cL_law 737 = .ok (.aload_n 2, 1) := by decide +kernel
theorem dL_law_738 : decode cL_law 738 = .ok (.invokevirtual 89, 3) := by decide +kernel
theorem dL_law_741 : decode cL_law 741 = .ok (.iload 5, 2) := by decide +kernel
theorem dL_law_743 : decode cL_law 743 = .ok (.if_icmp .eq 5, 3) := by decide +kernel
theorem dL_law_746 : decode cL_law 746 = .ok (.iconst 0, 1) := by decide +kernel
theorem dL_law_747 : decode cL_law 747 = .ok (.ireturn, 1) := by decide +kernel
theorem dL_law_748 : decode cL_law 748 = .ok (.iload 5, 2) := by decide +kernel
theorem dL_law_750 : decode cL_law 750 = .ok (.ifCond .ne 22, 3) := by decide +kernel
theorem dL_law_753 : decode cL_law 753 = .ok (.aload_n 3, 1) := by decide +kernel
theorem dL_law_754 : decode cL_law 754 = .ok (.iconst 0, 1) := by decide +kernel
theorem dL_law_755 : decode cL_law 755 = .ok (.laload, 1) := by decide +kernel
theorem dL_law_756 : decode cL_law 756 = .ok (.iload 6, 2) := by decide +kernel
theorem dL_law_758 : decode cL_law 758 = .ok (.ifCond .eq 7, 3) := by decide +kernel
theorem dL_law_761 : decode cL_law 761 = .ok (.lconst 1, 1) := by decide +kernel
theorem dL_law_762 : decode cL_law 762 = .ok (.goto 4, 3) := by decide +kernel
theorem dL_law_765 : decode cL_law 765 = .ok (.lconst 0, 1) := by decide +kernel
theorem dL_law_766 : decode cL_law 766 = .ok (.lcmp, 1) := by decide +kernel
theorem dL_law_767 : decode cL_law 767 = .ok (.ifCond .eq 5, 3) := by decide +kernel
theorem dL_law_770 : decode cL_law 770 = .ok (.iconst 0, 1) := by decide +kernel
theorem dL_law_771 : decode cL_law 771 = .ok (.ireturn, 1) := by decide +kernel
theorem dL_law_772 : decode cL_law 772 = .ok (.goto 754, 3) := by decide +kernel
theorem dL_law_775 : decode cL_law 775 = .ok (.aload_n 1, 1) := by decide +kernel
theorem dL_law_776 : decode cL_law 776 = .ok (.aload_n 0, 1) := by decide +kernel
theorem dL_law_777 : decode cL_law 777 = .ok (.iload 4, 2) := by decide +kernel
theorem dL_law_779 : decode cL_law 779 = .ok (.iconst 1, 1) := by decide +kernel
theorem dL_law_780 : decode cL_law 780 = .ok (.iadd, 1) := by decide +kernel
theorem dL_law_781 : decode cL_law 781 = .ok (.iaload, 1) := by decide +kernel
theorem dL_law_782 : decode cL_law 782 = .ok (.aload_n 3, 1) := by decide +kernel
theorem dL_law_783 : decode cL_law 783 = .ok (.invokestatic 117, 3) := by decide +kernel
theorem dL_law_786 : decode cL_law 786 = .ok (.istore 5, 2) := by decide +kernel
theorem dL_law_788 : decode cL_law 788 = .ok (.aload_n 2, 1) := by decide +kernel
theorem dL_law_789 : decode cL_law 789 = .ok (.aload_n 0, 1) := by decide +kernel
theorem dL_law_790 : decode cL_law 790 = .ok (.iload 4, 2) := by decide +kernel
theorem dL_law_792 : decode cL_law 792 = .ok (.iconst 1, 1) := by decide +kernel
theorem dL_law_793 : decode cL_law 793 = .ok (.iadd, 1) := by decide +kernel
theorem dL_law_794 : decode cL_law 794 = .ok (.iaload, 1) := by decide +kernel
theorem dL_law_795 : decode cL_law 795 = .ok (.invokevirtual 119, 3) := by decide +kernel
theorem dL_law_798 : decode cL_law 798 = .ok (.istore 6, 2) := by decide +kernel
theorem dL_law_800 : decode cL_law 800 = .ok (.aload_n 2, 1) := by decide +kernel
theorem dL_law_801 : decode cL_law 801 = .ok (.invokevirtual 89, 3) := by decide +kernel
theorem dL_law_804 : decode cL_law 804 = .ok (.iload 5, 2) := by decide +kernel
theorem dL_law_806 : decode cL_law 806 = .ok (.if_icmp .eq 5, 3) := by decide +kernel
theorem dL_law_809 : decode cL_law 809 = .ok (.iconst 0, 1) := by decide +kernel
theorem dL_law_810 : decode cL_law 810 = .ok (.ireturn, 1) := by decide +kernel
theorem dL_law_811 : decode cL_law 811 = .ok (.iload 5, 2) := by decide +kernel
theorem dL_law_813 : decode cL_law 813 = .ok (.ifCond .ne 15, 3) := by decide +kernel
theorem dL_law_816 : decode cL_law 816 = .ok (.aload_n 3, 1) := by decide +kernel
theorem dL_law_817 : decode cL_law 817 = .ok (.iconst 0, 1) := by decide +kernel
theorem dL_law_818 : decode cL_law 818 = .ok (.laload, 1) := by decide +kernel
theorem dL_law_819 : decode cL_law 819 = .ok (.iload 6, 2) := by decide +kernel
theorem dL_law_821 : decode cL_law 821 = .ok (.i2l, 1) := by decide +kernel
theorem dL_law_822 : decode cL_law 822 = .ok (.lcmp, 1) := by decide +kernel
theorem dL_law_823 : decode cL_law 823 = .ok (.ifCond .eq 5, 3) := by decide +kernel
theorem dL_law_826 : decode cL_law 826 = .ok (.iconst 0, 1) := by decide +kernel
theorem dL_law_827 : decode cL_law 827 = .ok (.ireturn, 1) := by decide +kernel
theorem dL_law_828 : decode cL_law 828 = .ok (.goto 698, 3) := by decide +kernel
theorem dL_law_831 : decode cL_law 831 = .ok (.aload_n 1, 1) := by decide +kernel
theorem dL_law_832 : decode cL_law 832 = .ok (.invokevirtual 120, 3) := by decide +kernel
theorem dL_law_835 : decode cL_law 835 = .ok (.aload_n 2, 1) := by decide +kernel
theorem dL_law_836 : decode cL_law 836 = .ok (.invokevirtual 123, 3) := by decide +kernel
theorem dL_law_839 : decode cL_law 839 = .ok (.if_icmp .eq 687, 3) := by decide +kernel
theorem dL_law_842 : decode cL_law 842 = .ok (.iconst 0, 1) := by decide +kernel
theorem dL_law_843 : decode cL_law 843 = .ok (.ireturn, 1) := by decide +kernel
theorem dL_law_844 : decode cL_law 844 = .ok (.aload_n 1, 1) := by decide +kernel
theorem dL_law_845 : decode cL_law 845 = .ok (.aload_n 0, 1) := by decide +kernel
theorem dL_law_846 : decode cL_law 846 = .ok (.iload 4, 2) := by decide +kernel
theorem dL_law_848 : decode cL_law 848 = .ok (.iconst 1, 1) := by decide +kernel
theorem dL_law_849 : decode cL_law 849 = .ok (.iadd, 1) := by decide +kernel
theorem dL_law_850 : decode cL_law 850 = .ok (.iaload, 1) := by decide +kernel
theorem dL_law_851 : decode cL_law 851 = .ok (.aload_n 0, 1) := by decide +kernel
theorem dL_law_852 : decode cL_law 852 = .ok (.iload 4, 2) := by decide +kernel
theorem dL_law_854 : decode cL_law 854 = .ok (.iconst 2, 1) := by decide +kernel
theorem dL_law_855 : decode cL_law 855 = .ok (.iadd, 1) := by decide +kernel
theorem dL_law_856 : decode cL_law 856 = .ok (.iaload, 1) := by decide +kernel
theorem dL_law_857 : decode cL_law 857 = .ok (.aload_n 3, 1) := by decide +kernel
theorem dL_law_858 : decode cL_law 858 = .ok (.invokestatic 124, 3) := by decide +kernel
theorem dL_law_861 : decode cL_law 861 = .ok (.istore 5, 2) := by decide +kernel
theorem dL_law_863 : decode cL_law 863 = .ok (.aload_n 2, 1) := by decide +kernel
theorem dL_law_864 : decode cL_law 864 = .ok (.aload_n 0, 1) := by decide +kernel
theorem dL_law_865 : decode cL_law 865 = .ok (.iload 4, 2) := by decide +kernel
theorem dL_law_867 : decode cL_law 867 = .ok (.iconst 1, 1) := by decide +kernel
theorem dL_law_868 : decode cL_law 868 = .ok (.iadd, 1) := by decide +kernel
theorem dL_law_869 : decode cL_law 869 = .ok (.iaload, 1) := by decide +kernel
theorem dL_law_870 : decode cL_law 870 = .ok (.aload_n 0, 1) := by decide +kernel
theorem dL_law_871 : decode cL_law 871 = .ok (.iload 4, 2) := by decide +kernel
theorem dL_law_873 : decode cL_law 873 = .ok (.iconst 2, 1) := by decide +kernel
theorem dL_law_874 : decode cL_law 874 = .ok (.iadd, 1) := by decide +kernel
theorem dL_law_875 : decode cL_law 875 = .ok (.iaload, 1) := by decide +kernel
theorem dL_law_876 : decode cL_law 876 = .ok (.invokevirtual 126, 3) := by decide +kernel
theorem dL_law_879 : decode cL_law 879 = .ok (.istore 6, 2) := by decide +kernel
theorem dL_law_881 : decode cL_law 881 = .ok (.aload_n 2, 1) := by decide +kernel
theorem dL_law_882 : decode cL_law 882 = .ok (.invokevirtual 89, 3) := by decide +kernel
theorem dL_law_885 : decode cL_law 885 = .ok (.iload 5, 2) := by decide +kernel
theorem dL_law_887 : decode cL_law 887 = .ok (.if_icmp .eq 5, 3) := by decide +kernel
theorem dL_law_890 : decode cL_law 890 = .ok (.iconst 0, 1) := by decide +kernel
theorem dL_law_891 : decode cL_law 891 = .ok (.ireturn, 1) := by decide +kernel
theorem dL_law_892 : decode cL_law 892 = .ok (.iload 5, 2) := by decide +kernel
theorem dL_law_894 : decode cL_law 894 = .ok (.ifCond .ne 15, 3) := by decide +kernel
theorem dL_law_897 : decode cL_law 897 = .ok (.aload_n 3, 1) := by decide +kernel
theorem dL_law_898 : decode cL_law 898 = .ok (.iconst 0, 1) := by decide +kernel
theorem dL_law_899 : decode cL_law 899 = .ok (.laload, 1) := by decide +kernel
theorem dL_law_900 : decode cL_law 900 = .ok (.iload 6, 2) := by decide +kernel
theorem dL_law_902 : decode cL_law 902 = .ok (.i2l, 1) := by decide +kernel
theorem dL_law_903 : decode cL_law 903 = .ok (.lcmp, 1) := by decide +kernel
theorem dL_law_904 : decode cL_law 904 = .ok (.ifCond .eq 5, 3) := by decide +kernel
theorem dL_law_907 : decode cL_law 907 = .ok (.iconst 0, 1) := by decide +kernel
theorem dL_law_908 : decode cL_law 908 = .ok (.ireturn, 1) := by decide +kernel
theorem dL_law_909 : decode cL_law 909 = .ok (.goto 617, 3) := by decide +kernel
theorem dL_law_912 : decode cL_law 912 = .ok (.aload_n 1, 1) := by decide +kernel
theorem dL_law_913 : decode cL_law 913 = .ok (.aload_n 3, 1) := by decide +kernel
theorem dL_law_914 : decode cL_law 914 = .ok (.invokestatic 127, 3) := by decide +kernel
theorem dL_law_917 : decode cL_law 917 = .ok (.istore 5, 2) := by decide +kernel
theorem dL_law_919 : decode cL_law 919 = .ok (.aload_n 2, 1) := by decide +kernel
theorem dL_law_920 : decode cL_law 920 = .ok (.invokevirtual 130, 3) := by decide +kernel
theorem dL_law_923 : decode cL_law 923 = .ok (.istore 6, 2) := by decide +kernel
theorem dL_law_925 : decode cL_law 925 = .ok (.aload_n 2, 1) := by decide +kernel
theorem dL_law_926 : decode cL_law 926 = .ok (.invokevirtual 89, 3) := by decide +kernel
theorem dL_law_929 : decode cL_law 929 = .ok (.iload 5, 2) := by decide +kernel
theorem dL_law_931 : decode cL_law 931 = .ok (.if_icmp .eq 5, 3) := by decide +kernel
theorem dL_law_934 : decode cL_law 934 = .ok (.iconst 0, 1) := by decide +kernel
theorem dL_law_935 : decode cL_law 935 = .ok (.ireturn, 1) := by decide +kernel
theorem dL_law_936 : decode cL_law 936 = .ok (.iload 5, 2) := by decide +kernel
theorem dL_law_938 : decode cL_law 938 = .ok (.ifCond .ne 15, 3) := by decide +kernel
theorem dL_law_941 : decode cL_law 941 = .ok (.aload_n 3, 1) := by decide +kernel
theorem dL_law_942 : decode cL_law 942 = .ok (.iconst 0, 1) := by decide +kernel
theorem dL_law_943 : decode cL_law 943 = .ok (.laload, 1) := by decide +kernel
theorem dL_law_944 : decode cL_law 944 = .ok (.iload 6, 2) := by decide +kernel
theorem dL_law_946 : decode cL_law 946 = .ok (.i2l, 1) := by decide +kernel
theorem dL_law_947 : decode cL_law 947 = .ok (.lcmp, 1) := by decide +kernel
theorem dL_law_948 : decode cL_law 948 = .ok (.ifCond .eq 5, 3) := by decide +kernel
theorem dL_law_951 : decode cL_law 951 = .ok (.iconst 0, 1) := by decide +kernel
theorem dL_law_952 : decode cL_law 952 = .ok (.ireturn, 1) := by decide +kernel
theorem dL_law_953 : decode cL_law 953 = .ok (.goto 573, 3) := by decide +kernel
theorem dL_law_956 : decode cL_law 956 = .ok (.aload_n 1, 1) := by decide +kernel
theorem dL_law_957 : decode cL_law 957 = .ok (.invokevirtual 131, 3) := by decide +kernel
theorem dL_law_960 : decode cL_law 960 = .ok (.aload_n 2, 1) := by decide +kernel
theorem dL_law_961 : decode cL_law 961 = .ok (.invokevirtual 134, 3) := by decide +kernel
theorem dL_law_964 : decode cL_law 964 = .ok (.if_icmp .eq 562, 3) := by decide +kernel
theorem dL_law_967 : decode cL_law 967 = .ok (.iconst 0, 1) := by decide +kernel
theorem dL_law_968 : decode cL_law 968 = .ok (.ireturn, 1) := by decide +kernel
theorem dL_law_969 : decode cL_law 969 = .ok (.aload_n 1, 1) := by decide +kernel
theorem dL_law_970 : decode cL_law 970 = .ok (.invokevirtual 135, 3) := by decide +kernel
theorem dL_law_973 : decode cL_law 973 = .ok (.aload_n 2, 1) := by decide +kernel
theorem dL_law_974 : decode cL_law 974 = .ok (.invokevirtual 138, 3) := by decide +kernel
theorem dL_law_977 : decode cL_law 977 = .ok (.if_icmp .eq 549, 3) := by decide +kernel
theorem dL_law_980 : decode cL_law 980 = .ok (.iconst 0, 1) := by decide +kernel
theorem dL_law_981 : decode cL_law 981 = .ok (.ireturn, 1) := by decide +kernel
theorem dL_law_982 : decode cL_law 982 = .ok (.aload_n 1, 1) := by decide +kernel
theorem dL_law_983 : decode cL_law 983 = .ok (.aload_n 3, 1) := by decide +kernel
theorem dL_law_984 : decode cL_law 984 = .ok (.invokestatic 139, 3) := by decide +kernel
theorem dL_law_987 : decode cL_law 987 = .ok (.istore 5, 2) := by decide +kernel
theorem dL_law_989 : decode cL_law 989 = .ok (.aload_n 2, 1) := by decide +kernel
theorem dL_law_990 : decode cL_law 990 = .ok (.invokevirtual 141, 3) := by decide +kernel
theorem dL_law_993 : decode cL_law 993 = .ok (.istore 6, 2) := by decide +kernel
theorem dL_law_995 : decode cL_law 995 = .ok (.aload_n 2, 1) := by decide +kernel
theorem dL_law_996 : decode cL_law 996 = .ok (.invokevirtual 89, 3) := by decide +kernel
theorem dL_law_999 : decode cL_law 999 = .ok (.iload 5, 2) := by decide +kernel
theorem dL_law_1001 : decode cL_law 1001 = .ok (.if_icmp .eq 5, 3) := by decide +kernel
theorem dL_law_1004 : decode cL_law 1004 = .ok (.iconst 0, 1) := by decide +kernel
theorem dL_law_1005 : decode cL_law 1005 = .ok (.ireturn, 1) := by decide +kernel
theorem dL_law_1006 : decode cL_law 1006 = .ok (.iload 5, 2) := by decide +kernel
theorem dL_law_1008 : decode cL_law 1008 = .ok (.ifCond .ne 15, 3) := by decide +kernel
theorem dL_law_1011 : decode cL_law 1011 = .ok (.aload_n 3, 1) := by decide +kernel
theorem dL_law_1012 : decode cL_law 1012 = .ok (.iconst 0, 1) := by decide +kernel
theorem dL_law_1013 : decode cL_law 1013 = .ok (.laload, 1) := by decide +kernel
theorem dL_law_1014 : decode cL_law 1014 = .ok (.iload 6, 2) := by decide +kernel
theorem dL_law_1016 : decode cL_law 1016 = .ok (.i2l, 1) := by decide +kernel
theorem dL_law_1017 : decode cL_law 1017 = .ok (.lcmp, 1) := by decide +kernel
theorem dL_law_1018 : decode cL_law 1018 = .ok (.ifCond .eq 5, 3) := by decide +kernel
theorem dL_law_1021 : decode cL_law 1021 = .ok (.iconst 0, 1) := by decide +kernel
theorem dL_law_1022 : decode cL_law 1022 = .ok (.ireturn, 1) := by decide +kernel
theorem dL_law_1023 : decode cL_law 1023 = .ok (.goto 503, 3) := by decide +kernel
theorem dL_law_1026 : decode cL_law 1026 = .ok (.aload_n 1, 1) := by decide +kernel
theorem dL_law_1027 : decode cL_law 1027 = .ok (.invokevirtual 142, 3) := by decide +kernel
theorem dL_law_1030 : decode cL_law 1030 = .ok (.aload_n 2, 1) := by decide +kernel
theorem dL_law_1031 : decode cL_law 1031 = .ok (.invokevirtual 145, 3) := by decide +kernel
theorem dL_law_1034 : decode cL_law 1034 = .ok (.if_icmp .eq 492, 3) := by decide +kernel
theorem dL_law_1037 : decode cL_law 1037 = .ok (.iconst 0, 1) := by decide +kernel
theorem dL_law_1038 : decode cL_law 1038 = .ok (.ireturn, 1) := by decide +kernel
theorem dL_law_1039 : decode cL_law 1039 = .ok (.aload_n 1, 1) := by decide +kernel
theorem dL_law_1040 : decode cL_law 1040 = .ok (.invokevirtual 146, 3) := by decide +kernel
theorem dL_law_1043 : decode cL_law 1043 = .ok (.aload_n 2, 1) := by decide +kernel
theorem dL_law_1044 : decode cL_law 1044 = .ok (.invokevirtual 149, 3) := by decide +kernel
theorem dL_law_1047 : decode cL_law 1047 = .ok (.if_icmp .eq 479, 3) := by decide +kernel
theorem dL_law_1050 : decode cL_law 1050 = .ok (.iconst 0, 1) := by decide +kernel
theorem dL_law_1051 : decode cL_law 1051 = .ok (.ireturn, 1) := by decide +kernel
theorem dL_law_1052 : decode cL_law 1052 = .ok (.aload_n 1, 1) := by decide +kernel
theorem dL_law_1053 : decode cL_law 1053 = .ok (.invokevirtual 150, 3) := by decide +kernel
theorem dL_law_1056 : decode cL_law 1056 = .ok (.aload_n 2, 1) := by decide +kernel
theorem dL_law_1057 : decode cL_law 1057 = .ok (.invokevirtual 153, 3) := by decide +kernel
theorem dL_law_1060 : decode cL_law 1060 = .ok (.if_icmp .eq 466, 3) := by decide +kernel
theorem dL_law_1063 : decode cL_law 1063 = .ok (.iconst 0, 1) := by decide +kernel
theorem dL_law_1064 : decode cL_law 1064 = .ok (.ireturn, 1) := by decide +kernel
theorem dL_law_1065 : decode cL_law 1065 = .ok (.aload_n 1, 1) := by decide +kernel
theorem dL_law_1066 : decode cL_law 1066 = .ok (.invokevirtual 154, 3) := by decide +kernel
theorem dL_law_1069 : decode cL_law 1069 = .ok (.aload_n 2, 1) := by decide +kernel
theorem dL_law_1070 : decode cL_law 1070 = .ok (.invokevirtual 157, 3) := by decide +kernel
theorem dL_law_1073 : decode cL_law 1073 = .ok (.if_icmp .eq 453, 3) := by decide +kernel
theorem dL_law_1076 : decode cL_law 1076 = .ok (.iconst 0, 1) := by decide +kernel
theorem dL_law_1077 : decode cL_law 1077 = .ok (.ireturn, 1) := by decide +kernel
theorem dL_law_1078 : decode cL_law 1078 = .ok (.aload_n 1, 1) := by decide +kernel
theorem dL_law_1079 : decode cL_law 1079 = .ok (.aload_n 0, 1) := by decide +kernel
theorem dL_law_1080 : decode cL_law 1080 = .ok (.iload 4, 2) := by decide +kernel
theorem dL_law_1082 : decode cL_law 1082 = .ok (.iconst 1, 1) := by decide +kernel
theorem dL_law_1083 : decode cL_law 1083 = .ok (.iadd, 1) := by decide +kernel
theorem dL_law_1084 : decode cL_law 1084 = .ok (.iaload, 1) := by decide +kernel
theorem dL_law_1085 : decode cL_law 1085 = .ok (.aload_n 3, 1) := by decide +kernel
theorem dL_law_1086 : decode cL_law 1086 = .ok (.invokestatic 158, 3) := by decide +kernel
theorem dL_law_1089 : decode cL_law 1089 = .ok (.istore 5, 2) := by decide +kernel
theorem dL_law_1091 : decode cL_law 1091 = .ok (.aload_n 2, 1) := by decide +kernel
theorem dL_law_1092 : decode cL_law 1092 = .ok (.aload_n 0, 1) := by decide +kernel
theorem dL_law_1093 : decode cL_law 1093 = .ok (.iload 4, 2) := by decide +kernel
theorem dL_law_1095 : decode cL_law 1095 = .ok (.iconst 1, 1) := by decide +kernel
theorem dL_law_1096 : decode cL_law 1096 = .ok (.iadd, 1) := by decide +kernel
theorem dL_law_1097 : decode cL_law 1097 = .ok (.iaload, 1) := by decide +kernel
theorem dL_law_1098 : decode cL_law 1098 = .ok (.invokevirtual 160, 3) := by decide +kernel
theorem dL_law_1101 : decode cL_law 1101 = .ok (.istore 6, 2) := by decide +kernel
theorem dL_law_1103 : decode cL_law 1103 = .ok (.aload_n 2, 1) := by decide +kernel
theorem dL_law_1104 : decode cL_law 1104 = .ok (.invokevirtual 89, 3) := by decide +kernel
theorem dL_law_1107 : decode cL_law 1107 = .ok (.iload 5, 2) := by decide +kernel
theorem dL_law_1109 : decode cL_law 1109 = .ok (.if_icmp .eq 5, 3) := by decide +kernel
theorem dL_law_1112 : decode cL_law 1112 = .ok (.iconst 0, 1) := by decide +kernel
theorem dL_law_1113 : decode cL_law 1113 = .ok (.ireturn, 1) := by decide +kernel
theorem dL_law_1114 : decode cL_law 1114 = .ok (.iload 5, 2) := by decide +kernel
theorem dL_law_1116 : decode cL_law 1116 = .ok (.ifCond .ne 15, 3) := by decide +kernel
theorem dL_law_1119 : decode cL_law 1119 = .ok (.aload_n 3, 1) := by decide +kernel
theorem dL_law_1120 : decode cL_law 1120 = .ok (.iconst 0, 1) := by decide +kernel
theorem dL_law_1121 : decode cL_law 1121 = .ok (.laload, 1) := by decide +kernel
theorem dL_law_1122 : decode cL_law 1122 = .ok (.iload 6, 2) := by decide +kernel
theorem dL_law_1124 : decode cL_law 1124 = .ok (.i2l, 1) := by decide +kernel
theorem dL_law_1125 : decode cL_law 1125 = .ok (.lcmp, 1) := by decide +kernel
theorem dL_law_1126 : decode cL_law 1126 = .ok (.ifCond .eq 5, 3) := by decide +kernel
theorem dL_law_1129 : decode cL_law 1129 = .ok (.iconst 0, 1) := by decide +kernel
theorem dL_law_1130 : decode cL_law 1130 = .ok (.ireturn, 1) := by decide +kernel
theorem dL_law_1131 : decode cL_law 1131 = .ok (.goto 395, 3) := by decide +kernel
theorem dL_law_1134 : decode cL_law 1134 = .ok (.aload_n 1, 1) := by decide +kernel
theorem dL_law_1135 : decode cL_law 1135 = .ok (.aload_n 0, 1) := by decide +kernel
theorem dL_law_1136 : decode cL_law 1136 = .ok (.iload 4, 2) := by decide +kernel
theorem dL_law_1138 : decode cL_law 1138 = .ok (.iconst 1, 1) := by decide +kernel
theorem dL_law_1139 : decode cL_law 1139 = .ok (.iadd, 1) := by decide +kernel
theorem dL_law_1140 : decode cL_law 1140 = .ok (.iaload, 1) := by decide +kernel
theorem dL_law_1141 : decode cL_law 1141 = .ok (.aload_n 3, 1) := by decide +kernel
theorem dL_law_1142 : decode cL_law 1142 = .ok (.invokestatic 161, 3) := by decide +kernel
theorem dL_law_1145 : decode cL_law 1145 = .ok (.istore 5, 2) := by decide +kernel
theorem dL_law_1147 : decode cL_law 1147 = .ok (.aload_n 2, 1) := by decide +kernel
theorem dL_law_1148 : decode cL_law 1148 = .ok (.aload_n 0, 1) := by decide +kernel
theorem dL_law_1149 : decode cL_law 1149 = .ok (.iload 4, 2) := by decide +kernel
theorem dL_law_1151 : decode cL_law 1151 = .ok (.iconst 1, 1) := by decide +kernel
theorem dL_law_1152 : decode cL_law 1152 = .ok (.iadd, 1) := by decide +kernel
theorem dL_law_1153 : decode cL_law 1153 = .ok (.iaload, 1) := by decide +kernel
theorem dL_law_1154 : decode cL_law 1154 = .ok (.invokevirtual 163, 3) := by decide +kernel
theorem dL_law_1157 : decode cL_law 1157 = .ok (.istore 6, 2) := by decide +kernel
theorem dL_law_1159 : decode cL_law 1159 = .ok (.aload_n 2, 1) := by decide +kernel
theorem dL_law_1160 : decode cL_law 1160 = .ok (.invokevirtual 89, 3) := by decide +kernel
theorem dL_law_1163 : decode cL_law 1163 = .ok (.iload 5, 2) := by decide +kernel
theorem dL_law_1165 : decode cL_law 1165 = .ok (.if_icmp .eq 5, 3) := by decide +kernel
theorem dL_law_1168 : decode cL_law 1168 = .ok (.iconst 0, 1) := by decide +kernel
theorem dL_law_1169 : decode cL_law 1169 = .ok (.ireturn, 1) := by decide +kernel
theorem dL_law_1170 : decode cL_law 1170 = .ok (.iload 5, 2) := by decide +kernel
theorem dL_law_1172 : decode cL_law 1172 = .ok (.ifCond .ne 15, 3) := by decide +kernel
theorem dL_law_1175 : decode cL_law 1175 = .ok (.aload_n 3, 1) := by decide +kernel
theorem dL_law_1176 : decode cL_law 1176 = .ok (.iconst 0, 1) := by decide +kernel
theorem dL_law_1177 : decode cL_law 1177 = .ok (.laload, 1) := by decide +kernel
theorem dL_law_1178 : decode cL_law 1178 = .ok (.iload 6, 2) := by decide +kernel
theorem dL_law_1180 : decode cL_law 1180 = .ok (.i2l, 1) := by decide +kernel
theorem dL_law_1181 : decode cL_law 1181 = .ok (.lcmp, 1) := by decide +kernel
theorem dL_law_1182 : decode cL_law 1182 = .ok (.ifCond .eq 5, 3) := by decide +kernel
theorem dL_law_1185 : decode cL_law 1185 = .ok (.iconst 0, 1) := by decide +kernel
theorem dL_law_1186 : decode cL_law 1186 = .ok (.ireturn, 1) := by decide +kernel
theorem dL_law_1187 : decode cL_law 1187 = .ok (.goto 339, 3) := by decide +kernel
theorem dL_law_1190 : decode cL_law 1190 = .ok (.aload_n 1, 1) := by decide +kernel
theorem dL_law_1191 : decode cL_law 1191 = .ok (.aload_n 0, 1) := by decide +kernel
theorem dL_law_1192 : decode cL_law 1192 = .ok (.iload 4, 2) := by decide +kernel
theorem dL_law_1194 : decode cL_law 1194 = .ok (.iconst 1, 1) := by decide +kernel
theorem dL_law_1195 : decode cL_law 1195 = .ok (.iadd, 1) := by decide +kernel
theorem dL_law_1196 : decode cL_law 1196 = .ok (.iaload, 1) := by decide +kernel
theorem dL_law_1197 : decode cL_law 1197 = .ok (.aload_n 3, 1) := by decide +kernel
theorem dL_law_1198 : decode cL_law 1198 = .ok (.invokestatic 164, 3) := by decide +kernel
theorem dL_law_1201 : decode cL_law 1201 = .ok (.istore 5, 2) := by decide +kernel
theorem dL_law_1203 : decode cL_law 1203 = .ok (.aload_n 2, 1) := by decide +kernel
theorem dL_law_1204 : decode cL_law 1204 = .ok (.aload_n 0, 1) := by decide +kernel
theorem dL_law_1205 : decode cL_law 1205 = .ok (.iload 4, 2) := by decide +kernel
theorem dL_law_1207 : decode cL_law 1207 = .ok (.iconst 1, 1) := by decide +kernel
theorem dL_law_1208 : decode cL_law 1208 = .ok (.iadd, 1) := by decide +kernel
theorem dL_law_1209 : decode cL_law 1209 = .ok (.iaload, 1) := by decide +kernel
theorem dL_law_1210 : decode cL_law 1210 = .ok (.invokevirtual 166, 3) := by decide +kernel
theorem dL_law_1213 : decode cL_law 1213 = .ok (.istore 6, 2) := by decide +kernel
theorem dL_law_1215 : decode cL_law 1215 = .ok (.aload_n 2, 1) := by decide +kernel
theorem dL_law_1216 : decode cL_law 1216 = .ok (.invokevirtual 89, 3) := by decide +kernel
theorem dL_law_1219 : decode cL_law 1219 = .ok (.iload 5, 2) := by decide +kernel
theorem dL_law_1221 : decode cL_law 1221 = .ok (.if_icmp .eq 5, 3) := by decide +kernel
theorem dL_law_1224 : decode cL_law 1224 = .ok (.iconst 0, 1) := by decide +kernel
theorem dL_law_1225 : decode cL_law 1225 = .ok (.ireturn, 1) := by decide +kernel
theorem dL_law_1226 : decode cL_law 1226 = .ok (.iload 5, 2) := by decide +kernel
theorem dL_law_1228 : decode cL_law 1228 = .ok (.ifCond .ne 15, 3) := by decide +kernel
theorem dL_law_1231 : decode cL_law 1231 = .ok (.aload_n 3, 1) := by decide +kernel
theorem dL_law_1232 : decode cL_law 1232 = .ok (.iconst 0, 1) := by decide +kernel
theorem dL_law_1233 : decode cL_law 1233 = .ok (.laload, 1) := by decide +kernel
theorem dL_law_1234 : decode cL_law 1234 = .ok (.iload 6, 2) := by decide +kernel
theorem dL_law_1236 : decode cL_law 1236 = .ok (.i2l, 1) := by decide +kernel
theorem dL_law_1237 : decode cL_law 1237 = .ok (.lcmp, 1) := by decide +kernel
theorem dL_law_1238 : decode cL_law 1238 = .ok (.ifCond .eq 5, 3) := by decide +kernel
theorem dL_law_1241 : decode cL_law 1241 = .ok (.iconst 0, 1) := by decide +kernel
theorem dL_law_1242 : decode cL_law 1242 = .ok (.ireturn, 1) := by decide +kernel
theorem dL_law_1243 : decode cL_law 1243 = .ok (.goto 283, 3) := by decide +kernel
theorem dL_law_1246 : decode cL_law 1246 = .ok (.aload_n 1, 1) := by decide +kernel
theorem dL_law_1247 : decode cL_law 1247 = .ok (.invokevirtual 167, 3) := by decide +kernel
theorem dL_law_1250 : decode cL_law 1250 = .ok (.aload_n 2, 1) := by decide +kernel
theorem dL_law_1251 : decode cL_law 1251 = .ok (.invokevirtual 170, 3) := by decide +kernel
theorem dL_law_1254 : decode cL_law 1254 = .ok (.if_icmp .eq 272, 3) := by decide +kernel
theorem dL_law_1257 : decode cL_law 1257 = .ok (.iconst 0, 1) := by decide +kernel
theorem dL_law_1258 : decode cL_law 1258 = .ok (.ireturn, 1) := by decide +kernel
theorem dL_law_1259 : decode cL_law 1259 = .ok (.aload_n 1, 1) := by decide +kernel
theorem dL_law_1260 : decode cL_law 1260 = .ok (.aload_n 0, 1) := by decide +kernel
theorem dL_law_1261 : decode cL_law 1261 = .ok (.iload 4, 2) := by decide +kernel
theorem dL_law_1263 : decode cL_law 1263 = .ok (.iconst 1, 1) := by decide +kernel
theorem dL_law_1264 : decode cL_law 1264 = .ok (.iadd, 1) := by decide +kernel
theorem dL_law_1265 : decode cL_law 1265 = .ok (.iaload, 1) := by decide +kernel
theorem dL_law_1266 : decode cL_law 1266 = .ok (.aload_n 0, 1) := by decide +kernel
theorem dL_law_1267 : decode cL_law 1267 = .ok (.iload 4, 2) := by decide +kernel
theorem dL_law_1269 : decode cL_law 1269 = .ok (.iconst 2, 1) := by decide +kernel
theorem dL_law_1270 : decode cL_law 1270 = .ok (.iadd, 1) := by decide +kernel
theorem dL_law_1271 : decode cL_law 1271 = .ok (.iaload, 1) := by decide +kernel
theorem dL_law_1272 : decode cL_law 1272 = .ok (.aload_n 3, 1) := by decide +kernel
theorem dL_law_1273 : decode cL_law 1273 = .ok (.invokestatic 171, 3) := by decide +kernel
theorem dL_law_1276 : decode cL_law 1276 = .ok (.istore 5, 2) := by decide +kernel
theorem dL_law_1278 : decode cL_law 1278 = .ok (.aload_n 2, 1) := by decide +kernel
theorem dL_law_1279 : decode cL_law 1279 = .ok (.aload_n 0, 1) := by decide +kernel
theorem dL_law_1280 : decode cL_law 1280 = .ok (.iload 4, 2) := by decide +kernel
theorem dL_law_1282 : decode cL_law 1282 = .ok (.iconst 1, 1) := by decide +kernel
theorem dL_law_1283 : decode cL_law 1283 = .ok (.iadd, 1) := by decide +kernel
theorem dL_law_1284 : decode cL_law 1284 = .ok (.iaload, 1) := by decide +kernel
theorem dL_law_1285 : decode cL_law 1285 = .ok (.aload_n 0, 1) := by decide +kernel
theorem dL_law_1286 : decode cL_law 1286 = .ok (.iload 4, 2) := by decide +kernel
theorem dL_law_1288 : decode cL_law 1288 = .ok (.iconst 2, 1) := by decide +kernel
theorem dL_law_1289 : decode cL_law 1289 = .ok (.iadd, 1) := by decide +kernel
theorem dL_law_1290 : decode cL_law 1290 = .ok (.iaload, 1) := by decide +kernel
theorem dL_law_1291 : decode cL_law 1291 = .ok (.invokevirtual 173, 3) := by decide +kernel
theorem dL_law_1294 : decode cL_law 1294 = .ok (.istore 6, 2) := by decide +kernel
theorem dL_law_1296 : decode cL_law 1296 = .ok (.aload_n 2, 1) := by decide +kernel
theorem dL_law_1297 : decode cL_law 1297 = .ok (.invokevirtual 89, 3) := by decide +kernel
theorem dL_law_1300 : decode cL_law 1300 = .ok (.iload 5, 2) := by decide +kernel
theorem dL_law_1302 : decode cL_law 1302 = .ok (.if_icmp .eq 5, 3) := by decide +kernel
theorem dL_law_1305 : decode cL_law 1305 = .ok (.iconst 0, 1) := by decide +kernel
theorem dL_law_1306 : decode cL_law 1306 = .ok (.ireturn, 1) := by decide +kernel
theorem dL_law_1307 : decode cL_law 1307 = .ok (.iload 5, 2) := by decide +kernel
theorem dL_law_1309 : decode cL_law 1309 = .ok (.ifCond .ne 22, 3) := by decide +kernel
theorem dL_law_1312 : decode cL_law 1312 = .ok (.aload_n 3, 1) := by decide +kernel
theorem dL_law_1313 : decode cL_law 1313 = .ok (.iconst 0, 1) := by decide +kernel
theorem dL_law_1314 : decode cL_law 1314 = .ok (.laload, 1) := by decide +kernel
theorem dL_law_1315 : decode cL_law 1315 = .ok (.iload 6, 2) := by decide +kernel
theorem dL_law_1317 : decode cL_law 1317 = .ok (.ifCond .eq 7, 3) := by decide +kernel
theorem dL_law_1320 : decode cL_law 1320 = .ok (.lconst 1, 1) := by decide +kernel
theorem dL_law_1321 : decode cL_law 1321 = .ok (.goto 4, 3) := by decide +kernel
theorem dL_law_1324 : decode cL_law 1324 = .ok (.lconst 0, 1) := by decide +kernel
theorem dL_law_1325 : decode cL_law 1325 = .ok (.lcmp, 1) := by decide +kernel
theorem dL_law_1326 : decode cL_law 1326 = .ok (.ifCond .eq 5, 3) := by decide +kernel
theorem dL_law_1329 : decode cL_law 1329 = .ok (.iconst 0, 1) := by decide +kernel
theorem dL_law_1330 : decode cL_law 1330 = .ok (.ireturn, 1) := by decide +kernel
theorem dL_law_1331 : decode cL_law 1331 = .ok (.goto 195, 3) := by decide +kernel
theorem dL_law_1334 : decode cL_law 1334 = .ok (.aload_n 1, 1) := by decide +kernel
theorem dL_law_1335 : decode cL_law 1335 = .ok (.aload_n 0, 1) := by decide +kernel
theorem dL_law_1336 : decode cL_law 1336 = .ok (.iload 4, 2) := by decide +kernel
theorem dL_law_1338 : decode cL_law 1338 = .ok (.iconst 1, 1) := by decide +kernel
theorem dL_law_1339 : decode cL_law 1339 = .ok (.iadd, 1) := by decide +kernel
theorem dL_law_1340 : decode cL_law 1340 = .ok (.iaload, 1) := by decide +kernel
theorem dL_law_1341 : decode cL_law 1341 = .ok (.aload_n 0, 1) := by decide +kernel
theorem dL_law_1342 : decode cL_law 1342 = .ok (.iload 4, 2) := by decide +kernel
theorem dL_law_1344 : decode cL_law 1344 = .ok (.iconst 2, 1) := by decide +kernel
theorem dL_law_1345 : decode cL_law 1345 = .ok (.iadd, 1) := by decide +kernel
theorem dL_law_1346 : decode cL_law 1346 = .ok (.iaload, 1) := by decide +kernel
theorem dL_law_1347 : decode cL_law 1347 = .ok (.aload_n 3, 1) := by decide +kernel
theorem dL_law_1348 : decode cL_law 1348 = .ok (.invokestatic 174, 3) := by decide +kernel
theorem dL_law_1351 : decode cL_law 1351 = .ok (.istore 5, 2) := by decide +kernel
theorem dL_law_1353 : decode cL_law 1353 = .ok (.aload_n 2, 1) := by decide +kernel
theorem dL_law_1354 : decode cL_law 1354 = .ok (.aload_n 0, 1) := by decide +kernel
theorem dL_law_1355 : decode cL_law 1355 = .ok (.iload 4, 2) := by decide +kernel
theorem dL_law_1357 : decode cL_law 1357 = .ok (.iconst 1, 1) := by decide +kernel
theorem dL_law_1358 : decode cL_law 1358 = .ok (.iadd, 1) := by decide +kernel
theorem dL_law_1359 : decode cL_law 1359 = .ok (.iaload, 1) := by decide +kernel
theorem dL_law_1360 : decode cL_law 1360 = .ok (.aload_n 0, 1) := by decide +kernel
theorem dL_law_1361 : decode cL_law 1361 = .ok (.iload 4, 2) := by decide +kernel
theorem dL_law_1363 : decode cL_law 1363 = .ok (.iconst 2, 1) := by decide +kernel
theorem dL_law_1364 : decode cL_law 1364 = .ok (.iadd, 1) := by decide +kernel
theorem dL_law_1365 : decode cL_law 1365 = .ok (.iaload, 1) := by decide +kernel
theorem dL_law_1366 : decode cL_law 1366 = .ok (.invokevirtual 176, 3) := by decide +kernel
theorem dL_law_1369 : decode cL_law 1369 = .ok (.istore 6, 2) := by decide +kernel
theorem dL_law_1371 : decode cL_law 1371 = .ok (.aload_n 2, 1) := by decide +kernel
theorem dL_law_1372 : decode cL_law 1372 = .ok (.invokevirtual 89, 3) := by decide +kernel
theorem dL_law_1375 : decode cL_law 1375 = .ok (.iload 5, 2) := by decide +kernel
theorem dL_law_1377 : decode cL_law 1377 = .ok (.if_icmp .eq 5, 3) := by decide +kernel
theorem dL_law_1380 : decode cL_law 1380 = .ok (.iconst 0, 1) := by decide +kernel
theorem dL_law_1381 : decode cL_law 1381 = .ok (.ireturn, 1) := by decide +kernel
theorem dL_law_1382 : decode cL_law 1382 = .ok (.iload 5, 2) := by decide +kernel
theorem dL_law_1384 : decode cL_law 1384 = .ok (.ifCond .ne 15, 3) := by decide +kernel
theorem dL_law_1387 : decode cL_law 1387 = .ok (.aload_n 3, 1) := by decide +kernel
theorem dL_law_1388 : decode cL_law 1388 = .ok (.iconst 0, 1) := by decide +kernel
theorem dL_law_1389 : decode cL_law 1389 = .ok (.laload, 1) := by decide +kernel
theorem dL_law_1390 : decode cL_law 1390 = .ok (.iload 6, 2) := by decide +kernel
theorem dL_law_1392 : decode cL_law 1392 = .ok (.i2l, 1) := by decide +kernel
theorem dL_law_1393 : decode cL_law 1393 = .ok (.lcmp, 1) := by decide +kernel
theorem dL_law_1394 : decode cL_law 1394 = .ok (.ifCond .eq 5, 3) := by decide +kernel
theorem dL_law_1397 : decode cL_law 1397 = .ok (.iconst 0, 1) := by decide +kernel
theorem dL_law_1398 : decode cL_law 1398 = .ok (.ireturn, 1) := by decide +kernel
theorem dL_law_1399 : decode cL_law 1399 = .ok (.goto 127, 3) := by decide +kernel
theorem dL_law_1402 : decode cL_law 1402 = .ok (.aload_n 1, 1) := by decide +kernel
theorem dL_law_1403 : decode cL_law 1403 = .ok (.aload_n 0, 1) := by decide +kernel
theorem dL_law_1404 : decode cL_law 1404 = .ok (.iload 4, 2) := by decide +kernel
theorem dL_law_1406 : decode cL_law 1406 = .ok (.iconst 1, 1) := by decide +kernel
theorem dL_law_1407 : decode cL_law 1407 = .ok (.iadd, 1) := by decide +kernel
theorem dL_law_1408 : decode cL_law 1408 = .ok (.iaload, 1) := by decide +kernel
theorem dL_law_1409 : decode cL_law 1409 = .ok (.aload_n 0, 1) := by decide +kernel
theorem dL_law_1410 : decode cL_law 1410 = .ok (.iload 4, 2) := by decide +kernel
theorem dL_law_1412 : decode cL_law 1412 = .ok (.iconst 2, 1) := by decide +kernel
theorem dL_law_1413 : decode cL_law 1413 = .ok (.iadd, 1) := by decide +kernel
theorem dL_law_1414 : decode cL_law 1414 = .ok (.iaload, 1) := by decide +kernel
theorem dL_law_1415 : decode cL_law 1415 = .ok (.aload_n 3, 1) := by decide +kernel
theorem dL_law_1416 : decode cL_law 1416 = .ok (.invokestatic 177, 3) := by decide +kernel
theorem dL_law_1419 : decode cL_law 1419 = .ok (.istore 5, 2) := by decide +kernel
theorem dL_law_1421 : decode cL_law 1421 = .ok (.aload_n 2, 1) := by decide +kernel
theorem dL_law_1422 : decode cL_law 1422 = .ok (.aload_n 0, 1) := by decide +kernel
theorem dL_law_1423 : decode cL_law 1423 = .ok (.iload 4, 2) := by decide +kernel
theorem dL_law_1425 : decode cL_law 1425 = .ok (.iconst 1, 1) := by decide +kernel
theorem dL_law_1426 : decode cL_law 1426 = .ok (.iadd, 1) := by decide +kernel
theorem dL_law_1427 : decode cL_law 1427 = .ok (.iaload, 1) := by decide +kernel
theorem dL_law_1428 : decode cL_law 1428 = .ok (.aload_n 0, 1) := by decide +kernel
theorem dL_law_1429 : decode cL_law 1429 = .ok (.iload 4, 2) := by decide +kernel
theorem dL_law_1431 : decode cL_law 1431 = .ok (.iconst 2, 1) := by decide +kernel
theorem dL_law_1432 : decode cL_law 1432 = .ok (.iadd, 1) := by decide +kernel
theorem dL_law_1433 : decode cL_law 1433 = .ok (.iaload, 1) := by decide +kernel
theorem dL_law_1434 : decode cL_law 1434 = .ok (.invokevirtual 179, 3) := by decide +kernel
theorem dL_law_1437 : decode cL_law 1437 = .ok (.istore 6, 2) := by decide +kernel
theorem dL_law_1439 : decode cL_law 1439 = .ok (.aload_n 2, 1) := by decide +kernel
theorem dL_law_1440 : decode cL_law 1440 = .ok (.invokevirtual 89, 3) := by decide +kernel
theorem dL_law_1443 : decode cL_law 1443 = .ok (.iload 5, 2) := by decide +kernel
theorem dL_law_1445 : decode cL_law 1445 = .ok (.if_icmp .eq 5, 3) := by decide +kernel
theorem dL_law_1448 : decode cL_law 1448 = .ok (.iconst 0, 1) := by decide +kernel
theorem dL_law_1449 : decode cL_law 1449 = .ok (.ireturn, 1) := by decide +kernel
theorem dL_law_1450 : decode cL_law 1450 = .ok (.iload 5, 2) := by decide +kernel
theorem dL_law_1452 : decode cL_law 1452 = .ok (.ifCond .ne 15, 3) := by decide +kernel
theorem dL_law_1455 : decode cL_law 1455 = .ok (.aload_n 3, 1) := by decide +kernel
theorem dL_law_1456 : decode cL_law 1456 = .ok (.iconst 0, 1) := by decide +kernel
theorem dL_law_1457 : decode cL_law 1457 = .ok (.laload, 1) := by decide +kernel
theorem dL_law_1458 : decode cL_law 1458 = .ok (.iload 6, 2) := by decide +kernel
theorem dL_law_1460 : decode cL_law 1460 = .ok (.i2l, 1) := by decide +kernel
theorem dL_law_1461 : decode cL_law 1461 = .ok (.lcmp, 1) := by decide +kernel
theorem dL_law_1462 : decode cL_law 1462 = .ok (.ifCond .eq 5, 3) := by decide +kernel
theorem dL_law_1465 : decode cL_law 1465 = .ok (.iconst 0, 1) := by decide +kernel
theorem dL_law_1466 : decode cL_law 1466 = .ok (.ireturn, 1) := by decide +kernel
theorem dL_law_1467 : decode cL_law 1467 = .ok (.goto 59, 3) := by decide +kernel
theorem dL_law_1470 : decode cL_law 1470 = .ok (.aload_n 1, 1) := by decide +kernel
theorem dL_law_1471 : decode cL_law 1471 = .ok (.aload_n 0, 1) := by decide +kernel
theorem dL_law_1472 : decode cL_law 1472 = .ok (.iload 4, 2) := by decide +kernel
theorem dL_law_1474 : decode cL_law 1474 = .ok (.iconst 1, 1) := by decide +kernel
theorem dL_law_1475 : decode cL_law 1475 = .ok (.iadd, 1) := by decide +kernel
theorem dL_law_1476 : decode cL_law 1476 = .ok (.iaload, 1) := by decide +kernel
theorem dL_law_1477 : decode cL_law 1477 = .ok (.aload_n 3, 1) := by decide +kernel
theorem dL_law_1478 : decode cL_law 1478 = .ok (.invokestatic 180, 3) := by decide +kernel
theorem dL_law_1481 : decode cL_law 1481 = .ok (.istore 5, 2) := by decide +kernel
theorem dL_law_1483 : decode cL_law 1483 = .ok (.aload_n 2, 1) := by decide +kernel
theorem dL_law_1484 : decode cL_law 1484 = .ok (.aload_n 0, 1) := by decide +kernel
theorem dL_law_1485 : decode cL_law 1485 = .ok (.iload 4, 2) := by decide +kernel
theorem dL_law_1487 : decode cL_law 1487 = .ok (.iconst 1, 1) := by decide +kernel
theorem dL_law_1488 : decode cL_law 1488 = .ok (.iadd, 1) := by decide +kernel
theorem dL_law_1489 : decode cL_law 1489 = .ok (.iaload, 1) := by decide +kernel
theorem dL_law_1490 : decode cL_law 1490 = .ok (.invokevirtual 182, 3) := by decide +kernel
theorem dL_law_1493 : decode cL_law 1493 = .ok (.istore 6, 2) := by decide +kernel
theorem dL_law_1495 : decode cL_law 1495 = .ok (.aload_n 2, 1) := by decide +kernel
theorem dL_law_1496 : decode cL_law 1496 = .ok (.invokevirtual 89, 3) := by decide +kernel
theorem dL_law_1499 : decode cL_law 1499 = .ok (.iload 5, 2) := by decide +kernel
theorem dL_law_1501 : decode cL_law 1501 = .ok (.if_icmp .eq 5, 3) := by decide +kernel
theorem dL_law_1504 : decode cL_law 1504 = .ok (.iconst 0, 1) := by decide +kernel
theorem dL_law_1505 : decode cL_law 1505 = .ok (.ireturn, 1) := by decide +kernel
theorem dL_law_1506 : decode cL_law 1506 = .ok (.iload 5, 2) := by decide +kernel
theorem dL_law_1508 : decode cL_law 1508 = .ok (.ifCond .ne 15, 3) := by decide +kernel
theorem dL_law_1511 : decode cL_law 1511 = .ok (.aload_n 3, 1) := by decide +kernel
theorem dL_law_1512 : decode cL_law 1512 = .ok (.iconst 0, 1) := by decide +kernel
theorem dL_law_1513 : decode cL_law 1513 = .ok (.laload, 1) := by decide +kernel
theorem dL_law_1514 : decode cL_law 1514 = .ok (.iload 6, 2) := by decide +kernel
theorem dL_law_1516 : decode cL_law 1516 = .ok (.i2l, 1) := by decide +kernel
theorem dL_law_1517 : decode cL_law 1517 = .ok (.lcmp, 1) := by decide +kernel
theorem dL_law_1518 : decode cL_law 1518 = .ok (.ifCond .eq 5, 3) := by decide +kernel
theorem dL_law_1521 : decode cL_law 1521 = .ok (.iconst 0, 1) := by decide +kernel
theorem dL_law_1522 : decode cL_law 1522 = .ok (.ireturn, 1) := by decide +kernel
theorem dL_law_1523 : decode cL_law 1523 = .ok (.goto 3, 3) := by decide +kernel
theorem dL_law_1526 : decode cL_law 1526 = .ok (.iinc 4 5, 3) := by decide +kernel
theorem dL_law_1529 : decode cL_law 1529 = .ok (.goto (-1506), 3) := by decide +kernel
theorem dL_law_1532 : decode cL_law 1532 = .ok (.iconst 1, 1) := by decide +kernel
theorem dL_law_1533 : decode cL_law 1533 = .ok (.ireturn, 1) := by decide +kernel
end
section
abbrev vwCl : List vw_C := [(RX0, TX0, 3), (RX1, TX1, 5), (RX2, TX2, 8), (RX3, TX3, 3), (RX4, TX4, 11), (RX5, TX5, 26)]
/-! OUR OWN WORLD: one logical memory for the class, the reference and the law's row of one long. A cell has a family and an index in it; ad tells where it lies; mu tells what its ints are. -/
abbrev Mem : Type := Nat → Nat → Nat → Int32
def zcp (μ : Mem) (f i : Nat) (r : Nat → Int32) : Mem := fun a b => if a = f ∧ b = i then r else μ a b
def zst (μ : Mem) (f i k : Nat) (v : Int32) : Mem := zcp μ f i (upd (μ f i) k v)
def zr (ad : Nat → Nat → Nat) (f : Nat) (v : Int32) : Option Nat := if v < 0 then none else some (ad f v.toNatClampNeg)
def zlen (f : Nat) : Nat := if f ≤ 4 then 10 else if f ≤ 7 then 50 else if f = 8 then 30 else if f ≤ 13 then 20 else if f = 14 then 150 else if f = 15 then 5 else if f = 16 then 20 else if f = 17 then 5 else if f = 18 then 20 else 10
def zF (ad : Nat → Nat → Nat) (ca : Nat → ClassId) (n np f i : Nat) (r : Nat → Int32) : Option va_E :=
  if f = 0 then (if i = 0 then some (.inr (5, [.int (r 0), .int (r 1), .int (r 2), .int (r 3), .ref (ad 1 0), .ref (ad 2 0), .ref (ad 3 0), .ref (ad 4 0), .ref (ad 5 0), .ref (ad 6 0), .ref (ad 7 0), .ref (ad 8 0), .int (r 12), .ref (ad 9 0), .ref (ad 10 0), .ref (ad 11 0), .ref (ad 12 0), .ref (ad 13 0), .ref (ad 14 0), .ref (ad 15 0), .ref (ad 16 0), .ref (ad 17 0), .ref (ad 18 0), .ref (ad 19 0), .ref (ad 20 0), .int (r 25)])) else none)
  else if f ≤ 20 then (if i = 0 then some (.inl (ca (if f = 13 then 1 else if f = 14 then 1 else 0), zlen f, .inl r)) else none)
  else if f = 21 then (if i = 0 then some (.inl (ca 5, 1, .inr (.inl (fun k => (r k).toInt64)))) else none)
  else if f = 30 then (if i = 0 then some (.inr (4, [.ref (ad 31 0), .ref (ad 32 0), .ref (ad 33 0), .ref (ad 34 0), .ref (ad 40 0), .ref (ad 40 1), .ref (ad 60 0), .int (r 7), .int (r 8), .int (r 9), .int (r 10)])) else none)
  else if f = 31 then (if i = 0 then some (.inl (ca 2, 10, .inr (.inr (.inr (.inr (fun k => zr ad 70 (r k))))))) else none)
  else if f = 32 then (if i = 0 then some (.inl (ca 2, 30, .inr (.inr (.inr (.inr (fun k => zr ad 70 (r k))))))) else none)
  else if f = 33 then (if i = 0 then some (.inl (ca 3, 20, .inr (.inr (.inr (.inr (fun k => zr ad 80 (r k))))))) else none)
  else if f = 34 then (if i = 0 then some (.inl (ca 0, 5, .inl r)) else none)
  else if f = 40 then (if i < 2 then some (.inr (3, [.ref (ad 41 i), .ref (ad 42 i), .int (r 2)])) else none)
  else if f = 41 then (if i < 2 then some (.inl (ca 4, 5, .inr (.inr (.inr (.inr (fun k => some (ad 43 (5 * i + k)))))))) else none)
  else if f = 42 then (if i < 2 then some (.inl (ca 0, 5, .inl r)) else none)
  else if f = 43 then (if i < 10 then some (.inl (ca 0, 4, .inl r)) else none)
  else if f = 60 then (if i = 0 then some (.inr (0, [.ref (ad 61 0), .ref (ad 62 0), .int (r 2)])) else none)
  else if f = 61 then (if i = 0 then some (.inl (ca 0, 10, .inl r)) else none)
  else if f = 62 then (if i = 0 then some (.inl (ca 2, 10, .inr (.inr (.inr (.inr (fun k => zr ad 70 (r k))))))) else none)
  else if f = 70 then (if i < n then some (.inr (2, [.int (r 0), .int (r 1), .int (r 2), .ref (ad 71 i), .ref (ad 72 i), .ref (ad 73 i), .int (r 6), .int (r 7)])) else none)
  else if f = 71 then (if i < n then some (.inl (ca 0, 5, .inl r)) else none)
  else if f = 72 then (if i < n then some (.inl (ca 0, 5, .inl r)) else none)
  else if f = 73 then (if i < n then some (.inl (ca 0, 5, .inl r)) else none)
  else if f = 80 then (if i < np then some (.inr (1, [.int (r 0), .int (r 1), .int (r 2), .int (r 3), .int (r 4)])) else none)
  else none
def zT (ca : Nat → ClassId) : List (ClassId × FieldType) := [(ca 0, .int), (ca 1, .boolean), (ca 2, .object "BacklotPlanner$Scene"), (ca 3, .object "BacklotPlanner$Permit"), (ca 4, .array .int), (ca 5, .long)]
/-- the heap H holds the logical memory -/
def Wd (D : va_G) (ca : Nat → ClassId) (base : Nat) (ad : Nat → Nat → Nat) (n np : Nat) (μ : Mem) (H : Heap) : Prop :=
  (∀ (f i : Nat) (e : va_E), zF ad ca n np f i (μ f i) = some e → va_at D vwCl (ad f i, e) H) ∧
  (∀ (f i f' i' : Nat) (e e' : va_E), zF ad ca n np f i (μ f i) = some e → zF ad ca n np f' i' (μ f' i') = some e' → ad f i = ad f' i' → f = f' ∧ i = i') ∧
  (∀ (f i : Nat) (e : va_E), zF ad ca n np f i (μ f i) = some e → base ≤ ad f i)
/-- the words of the tables that hold in every later state too -/
def zgood (w : Cond) : Bool := goodWord w || (match w with | .castable _ _ => true | .methodLinkNest _ _ _ _ => true | .declares _ => true | _ => false)
def zW (U : State) : Prop := ∀ w ∈ lw_tbl, zgood w = true → w.before #[] U = true
/-- the texts of the class's throws -/
def zStrs : List (Nat × String) := [(60, "no such set or number of flames"), (71, "no room for a scene"), (244, "no such scene"), (249, "no such actor"), (88, "no such beard"), (255, "the scene is not planned"), (251, "no such prop"), (103, "no such states"), (109, "the prop would age backwards"), (131, "no such day to come"), (140, "no such days"), (142, "no more permits"), (247, "no such permit"), (155, "the permit was revoked"), (253, "no such day"), (171, "enough copies"), (177, "no such whole state"), (179, "no copy in this state"), (181, "all days are over"), (218, "too many scenes to order"), (239, "no such state")]
def zSt (U : State) : Prop := ∀ q ∈ zStrs, ∃ a : Nat, vk_R RX4 q.1 q.2 a U
def zNcs : List (String × String) := [("java/lang/IllegalArgumentException", "java/lang/IllegalStateException"), ("java/lang/IllegalArgumentException", "java/lang/IndexOutOfBoundsException"), ("java/lang/IllegalStateException", "java/lang/IllegalArgumentException"), ("java/lang/IllegalStateException", "java/lang/IndexOutOfBoundsException"), ("java/lang/IndexOutOfBoundsException", "java/lang/IllegalArgumentException"), ("java/lang/IndexOutOfBoundsException", "java/lang/IllegalStateException")]
def zNcF (U : State) : Prop := ∀ q ∈ zNcs, va_Nc q.1 q.2 U
abbrev zB (base : Nat) : Nat → Prop := fun q => base ≤ q
/-- what holds of the tables and of the statics that a throw reads -/
def ZK (D : va_G) (ca : Nat → ClassId) (base : Nat) (U : State) (H : Heap) : Prop :=
  va_K D vwCl (zT ca) U ∧ zW U ∧ base ≤ H.size ∧ vx_Zq Bundle.tN "UNASSIGNED_STACK" Bundle.steD (zB base) U H ∧ vx_Zq Bundle.tN "SUPPRESSED_SENTINEL" Bundle.listD (zB base) U H ∧ zSt U ∧ zNcF U
/-- a method's start -/
def ZU (D : va_G) (ca : Nat → ClassId) (base : Nat) (ad : Nat → Nat → Nat) (n np : Nat) (μ : Mem) (U : State) : Prop := ZK D ca base U U.heap ∧ Wd D ca base ad n np μ U.heap
/-- inside a method that began in s -/
def ZS (D : va_G) (ca : Nat → ClassId) (base : Nat) (ad : Nat → Nat → Nat) (n np : Nat) (μ : Mem) (s : State) (H : Heap) (locs : List Loc) : Prop :=
  ZK D ca base s s.heap ∧ va_S (zB base) s.heap H locs ∧ Wd D ca base ad n np μ H
theorem zcp_self (μ : Mem) (f i : Nat) (r : Nat → Int32) : zcp μ f i r f i = r := by simp [zcp]
theorem zcp_ne {μ : Mem} {f i f' i' : Nat} {r : Nat → Int32} (h : ¬ (f' = f ∧ i' = i)) : zcp μ f i r f' i' = μ f' i' := by simp [zcp, h]
/-- one cell is written -/
theorem Wd.put {D : va_G} {ca : Nat → ClassId} {base : Nat} {ad : Nat → Nat → Nat} {n np : Nat} {μ : Mem} {H H1 : Heap} (h : Wd D ca base ad n np μ H) {f i : Nat} {e0 e1 : va_E} {r : Nat → Int32} (h0 : zF ad ca n np f i (μ f i) = some e0) (h1 : zF ad ca n np f i r = some e1) (he : va_at D vwCl (ad f i, e1) H1) (oq : ∀ q : Nat, q ≠ ad f i → H1[q]? = H[q]?) : Wd D ca base ad n np (zcp μ f i r) H1 := by
  have key : ∀ (f' i' : Nat) (e : va_E), zF ad ca n np f' i' (zcp μ f i r f' i') = some e → ∃ e', zF ad ca n np f' i' (μ f' i') = some e' := by
    intro f' i' e hz
    by_cases hc : f' = f ∧ i' = i
    · obtain ⟨rfl, rfl⟩ := hc
      exact ⟨e0, h0⟩
    · rw [zcp_ne hc] at hz
      exact ⟨e, hz⟩
  refine ⟨?_, ?_, ?_⟩
  · intro f' i' e hz
    by_cases hc : f' = f ∧ i' = i
    · obtain ⟨rfl, rfl⟩ := hc
      rw [zcp_self, h1] at hz
      cases hz
      exact he
    · rw [zcp_ne hc] at hz
      exact va_at.kept (h.1 f' i' e hz) (oq _ (fun q => hc (h.2.1 _ _ _ _ _ _ hz h0 q)))
  · intro f' i' f2 i2 e e' hz hz2 hq
    obtain ⟨a1, b1⟩ := key _ _ _ hz
    obtain ⟨a2, b2⟩ := key _ _ _ hz2
    exact h.2.1 _ _ _ _ _ _ b1 b2 hq
  · intro f' i' e hz
    obtain ⟨a1, b1⟩ := key _ _ _ hz
    exact h.2.2 _ _ _ b1
/-- the world stays where the heap only grew -/
theorem Wd.kept {D : va_G} {ca : Nat → ClassId} {base : Nat} {ad : Nat → Nat → Nat} {n np : Nat} {μ : Mem} {H H1 : Heap} (h : Wd D ca base ad n np μ H) (hq : ∀ q : Nat, q < H.size → H1[q]? = H[q]?) : Wd D ca base ad n np μ H1 :=
  ⟨fun f i e hz => va_at.kept (h.1 f i e hz) (hq _ (va_at.lt (h.1 f i e hz))), h.2.1, h.2.2⟩
theorem zgood_tab {w : Cond} (h : zgood w = true) (h2 : goodWord w = false) : w.onTables = true := by
  unfold zgood at h
  rw [h2] at h
  cases w <;> first | rfl | simp at h
theorem zW.moved {s U : State} (hW : s.WarmedH U.vm) (h : zW s) : zW U := by
  intro w hw hg
  have h1 := h w hw hg
  cases hgw : goodWord w with
  | true => exact word_at (args := #[]) hW (good_of_word hgw) h1
  | false =>
    unfold zgood at hg
    rw [hgw] at hg
    cases w <;> first | exact va_Nw.warmC hW h1 | exact va_Nw.warmM hW h1 | exact va_Nw.warmD hW h1 | (simp at hg)
theorem zW.use {s : State} (h : zW s) {w : Cond} (args : Array Value) (hw : w ∈ lw_tbl) (hg : goodWord w = true) : w.before args s = true := word_at (args := #[]) (State.WarmedH.refl s) (good_of_word hg) (h w hw (by unfold zgood; rw [hg]; rfl))
theorem zW.useN {s : State} (h : zW s) {w : Cond} (hw : w ∈ lw_tbl) (hg : zgood w = true) : va_Nw w s := h w hw hg
theorem zW.lay {s : State} (h : zW s) (args : Array Value) {C : String} {T : u_T} {N : Nat} (hin : ∀ w ∈ u_ws C T N, w ∈ lw_tbl) : ∀ w ∈ u_ws C T N, w.before args s = true := by
  intro w hw
  refine h.use args (hin w hw) ?_
  obtain ⟨k, -, rfl⟩ := List.mem_map.mp hw
  unfold u_lay
  split <;> rfl
theorem vx_Zq.at {C n d : String} {base : Nat} {s U : State} {H : Heap} {locs : List Loc} (hW : s.WarmedH U.vm) (hS : va_S (zB base) s.heap H locs) (h : vx_Zq C n d (zB base) s s.heap) : vx_Zq C n d (zB base) U H := vx_Zq.moved hW.alike (h.kept hS.2.1)
theorem ZK.at {D : va_G} {ca : Nat → ClassId} {base : Nat} {s U : State} {H : Heap} {locs : List Loc} (h : ZK D ca base s s.heap) (hS : va_S (zB base) s.heap H locs) (hW : s.WarmedH U.vm) : ZK D ca base U H :=
  ⟨va_K.moved hW.alike h.1, h.2.1.moved hW, Nat.le_trans h.2.2.1 hS.1, h.2.2.2.1.at hW hS, h.2.2.2.2.1.at hW hS, fun q hq => (h.2.2.2.2.2.1 q hq).imp fun _ g => vk_R.warm hW g, fun q hq => va_Nc.moved hW.alike (h.2.2.2.2.2.2 q hq)⟩
theorem ZS.toU {D : va_G} {ca : Nat → ClassId} {base : Nat} {ad : Nat → Nat → Nat} {n np : Nat} {μ : Mem} {s U : State} {H : Heap} {locs : List Loc} (h : ZS D ca base ad n np μ s H locs) (hU : U.heap = H) (hW : s.WarmedH U.vm) : ZU D ca base ad n np μ U := by
  subst hU
  exact ⟨h.1.at h.2.1 hW, h.2.2⟩
theorem ZU.toS {D : va_G} {ca : Nat → ClassId} {base : Nat} {ad : Nat → Nat → Nat} {n np : Nat} {μ : Mem} {s : State} (h : ZU D ca base ad n np μ s) : ZS D ca base ad n np μ s s.heap [] := ⟨h.1, va_S.rf, h.2⟩
theorem ZU_blind {D : va_G} {ca : Nat → ClassId} {base : Nat} {ad : Nat → Nat → Nat} {n np : Nat} {μ : Mem} {av : List Value} : FrameBlind (va_Pc av (ZU D ca base ad n np μ)) := by
  intro a U g_ mk q
  obtain ⟨h0, ⟨hK, hL, hz, h1, h2, h3, h4⟩, hw⟩ := q
  exact ⟨h0, ⟨va_K.moved (u := U) (U := U.calling g_ mk a) (Vm.Alike.refl U.vm) hK, zW.moved (s := U) (U := U.calling g_ mk a) (State.WarmedH.refl U) hL, hz, vx_Zq.moved (u := U) (U := U.calling g_ mk a) (Vm.Alike.refl U.vm) h1, vx_Zq.moved (u := U) (U := U.calling g_ mk a) (Vm.Alike.refl U.vm) h2, fun q hq => (h3 q hq).imp fun _ g => vk_R.same (u := U) (U := U.calling g_ mk a) rfl g, fun q hq => va_Nc.moved (u := U) (U := U.calling g_ mk a) (Vm.Alike.refl U.vm) (h4 q hq)⟩, hw⟩
theorem ZS.put {D : va_G} {ca : Nat → ClassId} {base : Nat} {ad : Nat → Nat → Nat} {n np : Nat} {μ : Mem} {s : State} {H H1 : Heap} {locs : List Loc} (h : ZS D ca base ad n np μ s H locs) {f i k : Nat} {e0 e1 : va_E} {r : Nat → Int32} (h0 : zF ad ca n np f i (μ f i) = some e0) (h1 : zF ad ca n np f i r = some e1) (he : va_at D vwCl (ad f i, e1) H1) (z : H1.size = H.size) (oq : ∀ q : Nat, q ≠ ad f i → H1[q]? = H[q]?) : ZS D ca base ad n np (zcp μ f i r) s H1 (locs ++ [⟨ad f i, k⟩]) :=
  ⟨h.1, h.2.1.put z oq (h.2.2.2.2 _ _ _ h0), h.2.2.put h0 h1 he oq⟩
/-- what stands of the method in which we are -/
def ZC (p : Program) (m : MethodId) (meth : Method) (c : Code) (s : State) (own : String) (cc : ByteArray) (nL : Nat) : Prop :=
  p.tables.exec = Jvm.exec ∧ c.code = cc ∧ c.maxLocals = nL ∧ s.vm.findClass own = some m.cls ∧ meth.locks = false
theorem ZC.fix {p : Program} {m : MethodId} {meth : Method} {c : Code} {s : State} {own : String} {cc : ByteArray} {nL : Nat} (h : ZC p m meth c s own cc nL) (args : Array Value) : CallFix p m c cc nL s args [] own := ⟨h.1, h.2.1, h.2.2.1, h.2.2.2.1, fun _ h => absurd h List.not_mem_nil⟩
theorem zs_60 : ((60, "no such set or number of flames") : Nat × String) ∈ zStrs := List.mem_of_getElem? (i := 0) rfl
theorem zs_71 : ((71, "no room for a scene") : Nat × String) ∈ zStrs := List.mem_of_getElem? (i := 1) rfl
theorem zs_244 : ((244, "no such scene") : Nat × String) ∈ zStrs := List.mem_of_getElem? (i := 2) rfl
theorem zs_249 : ((249, "no such actor") : Nat × String) ∈ zStrs := List.mem_of_getElem? (i := 3) rfl
theorem zs_88 : ((88, "no such beard") : Nat × String) ∈ zStrs := List.mem_of_getElem? (i := 4) rfl
theorem zs_255 : ((255, "the scene is not planned") : Nat × String) ∈ zStrs := List.mem_of_getElem? (i := 5) rfl
theorem zs_251 : ((251, "no such prop") : Nat × String) ∈ zStrs := List.mem_of_getElem? (i := 6) rfl
theorem zs_103 : ((103, "no such states") : Nat × String) ∈ zStrs := List.mem_of_getElem? (i := 7) rfl
theorem zs_109 : ((109, "the prop would age backwards") : Nat × String) ∈ zStrs := List.mem_of_getElem? (i := 8) rfl
theorem zs_131 : ((131, "no such day to come") : Nat × String) ∈ zStrs := List.mem_of_getElem? (i := 9) rfl
theorem zs_140 : ((140, "no such days") : Nat × String) ∈ zStrs := List.mem_of_getElem? (i := 10) rfl
theorem zs_142 : ((142, "no more permits") : Nat × String) ∈ zStrs := List.mem_of_getElem? (i := 11) rfl
theorem zs_247 : ((247, "no such permit") : Nat × String) ∈ zStrs := List.mem_of_getElem? (i := 12) rfl
theorem zs_155 : ((155, "the permit was revoked") : Nat × String) ∈ zStrs := List.mem_of_getElem? (i := 13) rfl
theorem zs_253 : ((253, "no such day") : Nat × String) ∈ zStrs := List.mem_of_getElem? (i := 14) rfl
theorem zs_171 : ((171, "enough copies") : Nat × String) ∈ zStrs := List.mem_of_getElem? (i := 15) rfl
theorem zs_177 : ((177, "no such whole state") : Nat × String) ∈ zStrs := List.mem_of_getElem? (i := 16) rfl
theorem zs_179 : ((179, "no copy in this state") : Nat × String) ∈ zStrs := List.mem_of_getElem? (i := 17) rfl
theorem zs_181 : ((181, "all days are over") : Nat × String) ∈ zStrs := List.mem_of_getElem? (i := 18) rfl
theorem zs_218 : ((218, "too many scenes to order") : Nat × String) ∈ zStrs := List.mem_of_getElem? (i := 19) rfl
theorem zs_239 : ((239, "no such state") : Nat × String) ∈ zStrs := List.mem_of_getElem? (i := 20) rfl
theorem va_P1 {D : va_G} {cl : List vw_C} {q : Nat × va_E} {H : Heap} (h : va_at D cl q H) : va_P D cl [q] H := by
  intro k r hk
  cases k with
  | zero => cases hk; exact h
  | succ k => simp at hk
section ZROWS
variable {p : Program} {l : Launch} {e : Env} {R : Room} {s : State} {m : MethodId} {args : Array Value} {below : List Frame} {meth : Method} {c : Code} {H : Heap} {locs : List Loc} {cells slots : Nat} {Q : State → Prop}
variable {cc : ByteArray} {pc : Nat} {ls : Array Slot} {rest : List Value} {own : String} {nL : Nat}
variable {D : va_G} {ca : Nat → ClassId} {base : Nat} {ad : Nat → Nat → Nat} {n np : Nat} {μ : Mem}
theorem z_get (hC : ZC p m meth c s own cc nL) (hZ : ZS D ca base ad n np μ s H locs) {f i ci index : Nat} {fs : List Value} (he : zF ad ca n np f i (μ f i) = some (.inr (ci, fs))) {C : String} {T : u_T} {N : Nat} (hc : vwCl[ci]? = some (C, T, N)) (hin : ∀ w ∈ u_ws C T N, w ∈ lw_tbl) (k : Nat) (hk : k < N) (hd : (T k).1 = C) (hlink : Cond.fieldLink own index C (T k).2.1 (T k).2.2.1 ∈ lw_tbl) {v : Value} (hv : fs[k]? = some v) (hdg : decode cc pc = .ok (.getfield index, 3))
    (kk : W p l e R s m args below meth c H locs cells slots Q (F0 m (pc + 3) ls (v :: rest))) : W p l e R s m args below meth c H locs cells slots Q (F0 m pc ls (.ref (ad f i) :: rest)) :=
  va_get (D := D) (cl := vwCl) (tys := zT ca) hC.1 hC.2.1 (hZ.1.2.1.lay args hin) (fun _ h => h) hC.2.2.2.1 hZ.1.1 (va_P1 (hZ.2.2.1 f i _ he)) 0 rfl hc k hk (hZ.1.2.1.use args hlink rfl) (fun _ h => by rw [hd] at h; exact h) hv hdg kk
theorem z_put (hC : ZC p m meth c s own cc nL) (hZ : ZS D ca base ad n np μ s H locs) {f i ci index : Nat} {fs : List Value} (he : zF ad ca n np f i (μ f i) = some (.inr (ci, fs))) {C : String} {T : u_T} {N : Nat} (hc : vwCl[ci]? = some (C, T, N)) (hin : ∀ w ∈ u_ws C T N, w ∈ lw_tbl) (ty0 : Nat → FieldType) (hty : ∀ k, k < N → parseFieldDescriptor (T k).2.2.1 = some (ty0 k)) (hnm : ∀ a, a < N → ∀ b, b < N → a ≠ b → (T a).2.1 ≠ (T b).2.1)
    (k : Nat) (hk : k < N) (hd : (T k).1 = C) (hfin : (T k).2.2.2 = false) (hlink : Cond.fieldLink own index C (T k).2.1 (T k).2.2.1 ∈ lw_tbl) {x : Int32} (hn : narrow (ty0 k) (.int x) = .int x) (hfit : fits (ty0 k) (.int x) = true) (hl : k < fs.length) (h1 : zF ad ca n np f i (upd (μ f i) k x) = some (.inr (ci, fs.set k (.int x)))) (hdg : decode cc pc = .ok (.putfield index, 3))
    (kk : ∀ (H1 : Heap) (locs1 : List Loc), ZS D ca base ad n np (zst μ f i k x) s H1 locs1 → W p l e R s m args below meth c H1 locs1 cells slots Q (F0 m (pc + 3) ls rest)) : W p l e R s m args below meth c H locs cells slots Q (F0 m pc ls (.int x :: .ref (ad f i) :: rest)) := by
  have hts := hZ.1.2.1.lay args hin
  have hown := hC.2.2.2.1
  have hap := va_apart (own := own) hts (fun _ h => h) ty0 hty hnm hZ.1.1 hc
  obtain ⟨r, g1, cell, q1, q2, q3, q4⟩ := hZ.2.2.1 f i _ he
  have hr : r = (C, T, N) := Option.some.inj (g1.symm.trans hc)
  subst hr
  obtain ⟨hS, hfc, kC, hkC, hkind⟩ := hZ.1.1.1 ci _ hc
  obtain ⟨cf, kf, fi, fd, hi, hsl⟩ := hS k hk
  have hlay := hts _ (u_in_lay hk)
  unfold u_lay at hlay
  rw [if_neg (by rw [hfin]; decide)] at hlay
  have hst := (u_facts hfc hkC (u_lays hts (fun _ h => h) hk) hi).1
  have h6 := u_store hfc hkC hkind hlay hi (hty k hk) hn hfit
  refine W.putK hC.1 hC.2.1 (f := fd) ⟨hown, hZ.1.2.1.use args hlink rfl, ⟨_, _, _, by rw [hd] at hi; exact hi⟩, hst⟩ (by rw [q2]; exact h6) q1 q3 (by rw [hsl]; exact k2_hasslot (q4 k hk)) rfl rfl hdg fun H' e1 e2 e3 => ?_
  rw [hsl] at e1 ⊢
  exact kk H' _ (hZ.put he h1 ⟨_, hc, t_OB.to (V := updV (vp_V fs) k (.int x)) ⟨_, e1, q2, q3, t_set q4 hap hk (.int x)⟩ (fun j _ => vp_updV_set hl (.int x) j)⟩ e2 e3)
theorem z_iald (hC : ZC p m meth c s own cc nL) (hZ : ZS D ca base ad n np μ s H locs) {f i t N : Nat} {r : Nat → Int32} (he : zF ad ca n np f i (μ f i) = some (.inl (ca t, N, .inl r))) (ht : (zT ca)[t]? = some (ca t, .int)) {x : Int32} (hin : vp_in x N) (hdg : decode cc pc = .ok (.iaload, 1))
    (kk : W p l e R s m args below meth c H locs cells slots Q (F0 m (pc + 1) ls (.int (r x.toNatClampNeg) :: rest))) : W p l e R s m args below meth c H locs cells slots Q (F0 m pc ls (.int x :: .ref (ad f i) :: rest)) :=
  va_iald (D := D) (cl := vwCl) hC.1 hC.2.1 hZ.1.1 (va_P1 (hZ.2.2.1 f i _ he)) 0 t rfl ht hin hdg kk
theorem z_zald (hC : ZC p m meth c s own cc nL) (hZ : ZS D ca base ad n np μ s H locs) {f i t N : Nat} {r : Nat → Int32} (he : zF ad ca n np f i (μ f i) = some (.inl (ca t, N, .inl r))) (ht : (zT ca)[t]? = some (ca t, .boolean)) {x : Int32} (hin : vp_in x N) (hdg : decode cc pc = .ok (.baload, 1))
    (kk : W p l e R s m args below meth c H locs cells slots Q (F0 m (pc + 1) ls (.int (r x.toNatClampNeg) :: rest))) : W p l e R s m args below meth c H locs cells slots Q (F0 m pc ls (.int x :: .ref (ad f i) :: rest)) :=
  va_zald (D := D) (cl := vwCl) hC.1 hC.2.1 hZ.1.1 (va_P1 (hZ.2.2.1 f i _ he)) 0 t rfl ht hin hdg kk
theorem z_lald (hC : ZC p m meth c s own cc nL) (hZ : ZS D ca base ad n np μ s H locs) {f i t N : Nat} {r : Nat → Int64} (he : zF ad ca n np f i (μ f i) = some (.inl (ca t, N, .inr (.inl r)))) (ht : (zT ca)[t]? = some (ca t, .long)) {x : Int32} (hin : vp_in x N) (hdg : decode cc pc = .ok (.laload, 1))
    (kk : W p l e R s m args below meth c H locs cells slots Q (F0 m (pc + 1) ls (.long (r x.toNatClampNeg) :: rest))) : W p l e R s m args below meth c H locs cells slots Q (F0 m pc ls (.int x :: .ref (ad f i) :: rest)) :=
  va_lald (D := D) (cl := vwCl) hC.1 hC.2.1 hZ.1.1 (va_P1 (hZ.2.2.1 f i _ he)) 0 t rfl ht hin hdg kk
theorem z_aald (hC : ZC p m meth c s own cc nL) (hZ : ZS D ca base ad n np μ s H locs) {f i t N : Nat} {r : Nat → Option Nat} {ty : FieldType} (he : zF ad ca n np f i (μ f i) = some (.inl (ca t, N, .inr (.inr (.inr (.inr r)))))) (ht : (zT ca)[t]? = some (ca t, ty)) (hty : ty.isReference = true) {x : Int32} (hin : vp_in x N) (hdg : decode cc pc = .ok (.aaload, 1))
    (kk : W p l e R s m args below meth c H locs cells slots Q (F0 m (pc + 1) ls (va_rf (r x.toNatClampNeg) :: rest))) : W p l e R s m args below meth c H locs cells slots Q (F0 m pc ls (.int x :: .ref (ad f i) :: rest)) := by
  have hlt : x.toNatClampNeg < N := Nat.not_le.mp fun q => hin (Or.inr q)
  exact W.aald (v := va_rf (r x.toNatClampNeg)) (ty := ty) hC.1 hC.2.1 (hZ.2.2.1 f i _ he) ((hZ.1.1.2 t _ ht).1 N (fun j => va_rf (r j))) hty (fun q => by cases q) (by show ¬ (x < 0 ∨ (arrV _ _ _).slots.size ≤ _); rw [arrV_size]; exact hin) (by show (arrV _ _ _).slots[_]? = _; rw [arrV_read _ _ hlt]) rfl rfl hdg kk
theorem z_alen (hC : ZC p m meth c s own cc nL) (hZ : ZS D ca base ad n np μ s H locs) {f i t : Nat} {x : vp_A} (he : zF ad ca n np f i (μ f i) = some (.inl (ca t, x))) {ty : FieldType} (ht : (zT ca)[t]? = some (ca t, ty)) {v : Int32} (hv : Int32.ofNat x.1 = v) (hdg : decode cc pc = .ok (.arraylength, 1))
    (kk : W p l e R s m args below meth c H locs cells slots Q (F0 m (pc + 1) ls (.int v :: rest))) : W p l e R s m args below meth c H locs cells slots Q (F0 m pc ls (.ref (ad f i) :: rest)) :=
  va_alen (D := D) (cl := vwCl) hC.1 hC.2.1 hZ.1.1 (va_P1 (hZ.2.2.1 f i _ he)) 0 t rfl ht hv hdg kk
theorem zupd_i (cA : ClassId) (N : Nat) (r : Nat → Int32) (k : Nat) (x : Int32) : (vp_cell cA (N, .inl r)).setSlot k (.int x) = vp_cell cA (N, .inl (upd r k x)) := by
  rw [vp_cell_i, vp_cell_i, arrV_store]
  congr 2
  funext q
  by_cases hq : q = k
  · subst hq
    simp [updV, upd]
  · simp [updV, upd, hq]
theorem zupd_l (cA : ClassId) (N : Nat) (r : Nat → Int32) (k : Nat) (x : Int32) : (vp_cell cA (N, .inr (.inl (fun j => (r j).toInt64)))).setSlot k (.long x.toInt64) = vp_cell cA (N, .inr (.inl (fun j => (upd r k x j).toInt64))) := by
  rw [vp_cell_l, vp_cell_l, arrV_store]
  congr 2
  funext q
  by_cases hq : q = k
  · subst hq
    simp [updV, upd]
  · simp [updV, upd, hq]
theorem zupd_q (cA : ClassId) (N : Nat) (ad : Nat → Nat → Nat) (g : Nat) (r : Nat → Int32) (k : Nat) (x : Int32) : (vp_cell cA (N, .inr (.inr (.inr (.inr (fun j => zr ad g (r j))))))).setSlot k (va_rf (zr ad g x)) = vp_cell cA (N, .inr (.inr (.inr (.inr (fun j => zr ad g (upd r k x j)))))) := by
  rw [vp_cell_q, vp_cell_q, arrV_store]
  congr 2
  funext q
  by_cases hq : q = k
  · subst hq
    simp [updV, upd]
  · simp [updV, upd, hq]
theorem z_iast (hC : ZC p m meth c s own cc nL) (hZ : ZS D ca base ad n np μ s H locs) {f i t N : Nat} (he : ∀ r, zF ad ca n np f i r = some (.inl (ca t, N, .inl r))) (ht : (zT ca)[t]? = some (ca t, .int)) {x y : Int32} (hin : vp_in x N) (hdg : decode cc pc = .ok (.iastore, 1))
    (kk : ∀ (H1 : Heap) (locs1 : List Loc), ZS D ca base ad n np (zst μ f i x.toNatClampNeg y) s H1 locs1 → W p l e R s m args below meth c H1 locs1 cells slots Q (F0 m (pc + 1) ls rest)) : W p l e R s m args below meth c H locs cells slots Q (F0 m pc ls (.int y :: .int x :: .ref (ad f i) :: rest)) := by
  refine W.iast hC.1 hC.2.1 (hZ.2.2.1 f i _ (he _)) ((hZ.1.1.2 t _ ht).1 N (fun j => .int (μ f i j))) (fun q => by cases q) (by show ¬ (x < 0 ∨ (arrV _ _ _).slots.size ≤ _); rw [arrV_size]; exact hin) rfl rfl hdg fun H1 e1 z oq => ?_
  refine kk H1 _ (hZ.put (he _) (he _) ?_ z oq)
  show H1[ad f i]? = some (vp_cell _ _)
  rw [e1, zupd_i]
theorem z_zast (hC : ZC p m meth c s own cc nL) (hZ : ZS D ca base ad n np μ s H locs) {f i t N : Nat} (he : ∀ r, zF ad ca n np f i r = some (.inl (ca t, N, .inl r))) (ht : (zT ca)[t]? = some (ca t, .boolean)) {x y : Int32} (hin : vp_in x N) (hy : narrow .boolean (.int y) = .int y) (hdg : decode cc pc = .ok (.bastore, 1))
    (kk : ∀ (H1 : Heap) (locs1 : List Loc), ZS D ca base ad n np (zst μ f i x.toNatClampNeg y) s H1 locs1 → W p l e R s m args below meth c H1 locs1 cells slots Q (F0 m (pc + 1) ls rest)) : W p l e R s m args below meth c H locs cells slots Q (F0 m pc ls (.int y :: .int x :: .ref (ad f i) :: rest)) := by
  refine W.zast hC.1 hC.2.1 (hZ.2.2.1 f i _ (he _)) ((hZ.1.1.2 t _ ht).1 N (fun j => .int (μ f i j))) (fun q => by cases q) (by show ¬ (x < 0 ∨ (arrV _ _ _).slots.size ≤ _); rw [arrV_size]; exact hin) rfl rfl hdg fun H1 e1 z oq => ?_
  refine kk H1 _ (hZ.put (he _) (he _) ?_ z oq)
  show H1[ad f i]? = some (vp_cell _ _)
  rw [e1, hy, zupd_i]
theorem z_last (hC : ZC p m meth c s own cc nL) (hZ : ZS D ca base ad n np μ s H locs) {f i t N : Nat} (he : ∀ r : Nat → Int32, zF ad ca n np f i r = some (.inl (ca t, N, .inr (.inl (fun k => (r k).toInt64))))) (ht : (zT ca)[t]? = some (ca t, .long)) {x y : Int32} (hin : vp_in x N) (hdg : decode cc pc = .ok (.lastore, 1))
    (kk : ∀ (H1 : Heap) (locs1 : List Loc), ZS D ca base ad n np (zst μ f i x.toNatClampNeg y) s H1 locs1 → W p l e R s m args below meth c H1 locs1 cells slots Q (F0 m (pc + 1) ls rest)) : W p l e R s m args below meth c H locs cells slots Q (F0 m pc ls (.long y.toInt64 :: .int x :: .ref (ad f i) :: rest)) := by
  refine W.last hC.1 hC.2.1 (hZ.2.2.1 f i _ (he _)) ((hZ.1.1.2 t _ ht).1 N (fun j => .long (μ f i j).toInt64)) (fun q => by cases q) (by show ¬ (x < 0 ∨ (arrV _ _ _).slots.size ≤ _); rw [arrV_size]; exact hin) rfl rfl hdg fun H1 e1 z oq => ?_
  refine kk H1 _ (hZ.put (he _) (he _) ?_ z oq)
  show H1[ad f i]? = some (vp_cell _ _)
  rw [e1, zupd_l]
theorem zr_neg {g : Nat} {v : Int32} (h : v < 0) : zr ad g v = none := if_pos h
theorem zr_pos {g : Nat} {v : Int32} (h : ¬ v < 0) : zr ad g v = some (ad g v.toNatClampNeg) := if_neg h
/-- a reference (or null) is laid into an array: y names it in its family g (70: scenes, 80: permits) -/
theorem z_aast (hC : ZC p m meth c s own cc nL) (hZ : ZS D ca base ad n np μ s H locs) {f i t N g : Nat} (he : ∀ r : Nat → Int32, zF ad ca n np f i r = some (.inl (ca t, N, .inr (.inr (.inr (.inr (fun k => zr ad g (r k)))))))) {C : String} {T : u_T} {M ci : Nat} (hc : vwCl[ci]? = some (C, T, M)) (ht : (zT ca)[t]? = some (ca t, .object C)) {x y : Int32} (hin : vp_in x N) (hy : ¬ y < 0 → ∃ fs, zF ad ca n np g y.toNatClampNeg (μ g y.toNatClampNeg) = some (.inr (ci, fs))) (hdg : decode cc pc = .ok (.aastore, 1))
    (kk : ∀ (H1 : Heap) (locs1 : List Loc), ZS D ca base ad n np (zst μ f i x.toNatClampNeg y) s H1 locs1 → W p l e R s m args below meth c H1 locs1 cells slots Q (F0 m (pc + 1) ls rest)) : W p l e R s m args below meth c H locs cells slots Q (F0 m pc ls (va_rf (zr ad g y) :: .int x :: .ref (ad f i) :: rest)) := by
  have fin : ∀ H1 : Heap, H1[ad f i]? = some ((vp_cell (ca t) (N, .inr (.inr (.inr (.inr (fun k => zr ad g (μ f i k))))))).setSlot x.toNatClampNeg (va_rf (zr ad g y))) → H1.size = H.size → (∀ q, q ≠ ad f i → H1[q]? = H[q]?) → ZS D ca base ad n np (zst μ f i x.toNatClampNeg y) s H1 (locs ++ [⟨ad f i, x.toNatClampNeg⟩]) := by
    intro H1 e1 z oq
    refine hZ.put (he _) (he _) ?_ z oq
    show H1[ad f i]? = some (vp_cell _ _)
    rw [e1, zupd_q]
  by_cases h0 : y < 0
  · rw [zr_neg h0] at fin ⊢
    exact va_WaastN hC.1 hC.2.1 (C := C) (hZ.2.2.1 f i _ (he _)) ((hZ.1.1.2 t _ ht).1 N (fun j => va_rf (zr ad g (μ f i j)))) (fun q => by cases q) (by show ¬ (x < 0 ∨ (arrV _ _ _).slots.size ≤ _); rw [arrV_size]; exact hin) rfl rfl hdg fun H1 e1 z oq => kk H1 _ (fin H1 e1 z oq)
  · obtain ⟨fs, hfs⟩ := hy h0
    rw [zr_pos h0] at fin ⊢
    have hlt : x.toNatClampNeg < N := Nat.not_le.mp fun q => hin (Or.inr q)
    have hx0 : ¬ x < 0 := fun q => hin (Or.inl q)
    obtain ⟨r', hr', cellV, g1, g2, g3, -⟩ := hZ.2.2.1 g _ _ hfs
    have hcls := (hZ.1.1.1 ci _ hc).2
    obtain ⟨kA, comp, k1, k2, k3, -⟩ := (hZ.1.1.2 t _ ht).2
    have hcomp : comp = D.1 ci := Option.some.inj (k3.symm.trans hcls.1)
    subst hcomp
    obtain ⟨hfc, kC, hkC, hkind⟩ := id hcls
    have hD : va_D (zB base) [(ad f i, .inl (ca t, N, .inr (.inr (.inr (.inr (fun k => zr ad g (μ f i k))))))), (ad g y.toNatClampNeg, .inr (ci, fs))] := by
      have hne : ad f i ≠ ad g y.toNatClampNeg := fun q => by
        obtain ⟨rfl, rfl⟩ := hZ.2.2.2.1 _ _ _ _ _ _ (he _) hfs q
        have := (he (μ f y.toNatClampNeg)).symm.trans hfs
        simp at this
      refine ⟨fun a b pa pb h1 h2 hq => ?_, fun k q hk => ?_⟩
      · match a, b, h1, h2 with
        | 0, 0, _, _ => rfl
        | 1, 1, _, _ => rfl
        | 0, 1, h1, h2 => cases h1; cases h2; exact absurd hq hne
        | 1, 0, h1, h2 => cases h1; cases h2; exact absurd hq.symm hne
        | a + 2, _, h1, _ => simp at h1
        | _, b + 2, _, h2 => simp at h2
      · match k, hk with
        | 0, hk => cases hk; exact hZ.2.2.2.2 _ _ _ (he _)
        | 1, hk => cases hk; exact hZ.2.2.2.2 _ _ _ hfs
        | k + 2, hk => simp at hk
    refine W.aast (t := .object C) (comp := D.1 ci) (k := kA) hC.1 hC.2.1 (hZ.2.2.1 f i _ (he _)) (fun q h => by cases h) (fun h => by cases h) k1 k2 rfl hkC ⟨hx0, by show _ < (arrV _ _ _).slots.size; rw [arrV_size]; exact hlt⟩ g1 (fun q h => by rw [g3] at h; cases h) (by rw [g2]; exact hkC) (by rw [g2]; exact va_assign hcls) rfl rfl hdg fun H1 e1 z oq => kk H1 _ (fin H1 e1 z oq)
end ZROWS
end
section
/-! CALLS, RETURNS, THROWS over our world -/
def zpi (P : Int32 → Mem → Prop) : Option Value → Mem → Prop := fun v u => ∃ r : Int32, v = some (.int r) ∧ P r u
def zpv (P : Mem → Prop) : Option Value → Mem → Prop := fun v u => v = none ∧ P u
def zpr (ad : Nat → Nat → Nat) (g : Nat) (P : Int32 → Mem → Prop) : Option Value → Mem → Prop := fun v u => ∃ r : Int32, v = some (va_rf (zr ad g r)) ∧ P r u
def ZQ (D : va_G) (ca : Nat → ClassId) (base : Nat) (ad : Nat → Nat → Nat) (n np : Nat) (post : Option Value → Mem → Prop) : Array Value → State → Outcome → State → Prop := fun _ st o t =>
  (∃ (v : Option Value) (u : Mem), o = .returned v ∧ post v u ∧ Wd D ca base ad n np u t.heap) ∧ va_F (zB base) st t
def ZX (D : va_G) (ca : Nat → ClassId) (base : Nat) (ad : Nat → Nat → Nat) (n np : Nat) (xp : String → Mem → Prop) : String → State → State → Prop := fun E st t =>
  (∃ u : Mem, xp E u ∧ Wd D ca base ad n np u t.heap) ∧ va_F (zB base) st t
def ZMet (l : Launch) (y : MethodName) (cc : ByteArray) (ml : Nat) (ret : Option FieldType) (rm : Room) (mc ms : Nat) (D : va_G) (ca : Nat → ClassId) (base : Nat) (ad : Nat → Nat → Nat) (n np : Nat) (av : List Value) (μ : Mem) (post : Option Value → Mem → Prop) : Prop :=
  Met l y [Cond.code y cc ml ret] rm (va_Pc av (ZU D ca base ad n np μ)) (ZQ D ca base ad n np post) mc ms (zB base)
def ZXMet (l : Launch) (y : MethodName) (cc : ByteArray) (ml : Nat) (ret : Option FieldType) (rm : Room) (mc ms : Nat) (D : va_G) (ca : Nat → ClassId) (base : Nat) (ad : Nat → Nat → Nat) (n np : Nat) (av : List Value) (μ : Mem) (post : Option Value → Mem → Prop) (xp : String → Mem → Prop) : Prop :=
  vx_Met l y [Cond.code y cc ml ret] rm (va_Pc av (ZU D ca base ad n np μ)) (ZQ D ca base ad n np post) (ZX D ca base ad n np xp) mc ms (zB base)
/-- what the tables say of an instance method -/
def zYV (y : MethodName) (C : String) (bytes : ByteArray) (maxL : Nat) (ret : Option FieldType) (na : Nat) : Prop :=
  Cond.instanceMethod y ∈ lw_tbl ∧ Cond.selects C y y ∈ lw_tbl ∧ Cond.initialized C ∈ lw_tbl ∧ Cond.code y bytes maxL ret ∈ lw_tbl ∧ y.cls = C ∧ (y.cls ≠ "java/lang/invoke/MethodHandle" ∧ y.cls ≠ "java/lang/invoke/VarHandle") ∧ (parseMethodDescriptor y.desc).map (fun d => d.parameters.length) = some na
def zYS (y : MethodName) (bytes : ByteArray) (maxL : Nat) (ret : Option FieldType) (na : Nat) : Prop :=
  Cond.static y ∈ lw_tbl ∧ Cond.initialized y.cls ∈ lw_tbl ∧ Cond.code y bytes maxL ret ∈ lw_tbl ∧ (y.cls ≠ "java/lang/invoke/MethodHandle" ∧ y.cls ≠ "java/lang/invoke/VarHandle") ∧ (parseMethodDescriptor y.desc).map (fun d => d.parameters.length) = some na
section ZCALLS
variable {p : Program} {l : Launch} {e : Env} {R : Room} {s : State} {m : MethodId} {args : Array Value} {below : List Frame} {meth : Method} {c : Code} {H : Heap} {locs : List Loc} {cells slots : Nat} {Q : State → Prop}
variable {cc : ByteArray} {pc : Nat} {ls : Array Slot} {rest st0 : List Value} {own : String} {nL : Nat}
variable {D : va_G} {ca : Nat → ClassId} {base : Nat} {ad : Nat → Nat → Nat} {n np : Nat} {μ : Mem}
variable {y : MethodName} {C : String} {bytes : ByteArray} {maxL mc ms index na : Nat} {ret : Option FieldType} {rm : Room} {post : Option Value → Mem → Prop} {xp : String → Mem → Prop} {As : List Value}
theorem z_lens {k : Nat} (h : (parseMethodDescriptor y.desc).map (fun d => d.parameters.length) = some k) : ∀ sig, parseMethodDescriptor y.desc = some sig → k = sig.parameters.length := by
  intro sig hs
  rw [hs] at h
  exact (Option.some.inj h).symm
theorem zCallB (hW : zW s) (hcode : Cond.code y bytes maxL ret ∈ lw_tbl) (hini : Cond.initialized y.cls ∈ lw_tbl) (hy : y.cls ≠ "java/lang/invoke/MethodHandle" ∧ y.cls ≠ "java/lang/invoke/VarHandle") (hl : (parseMethodDescriptor y.desc).map (fun d => d.parameters.length) = some na) (hlink : Cond.methodLink own index y ∈ lw_tbl) (hrm : rm.cells = mc ∧ rm.slots = ms) (hR : rm.frames + 1 ≤ R.frames ∧ 8 + (maxL + 11) + rm.locals ≤ R.locals) :
    CallB R s args own index y bytes maxL ret [Cond.code y bytes maxL ret] rm mc ms na := by
  refine ⟨hrm.1, hrm.2, hR.1, hR.2, ?_, List.mem_cons_self, hW.use args hcode rfl, hW.use args hini rfl, hy, z_lens hl, hW.use args hlink rfl⟩
  intro w hw a' U hWU
  rw [List.mem_singleton.mp hw]
  exact word_at (args := args) hWU (good_of_word rfl) (hW.use args hcode rfl)
/-- behind a call -/
theorem z_after {st₀ t : State} {H2 : Heap} {L : List Loc} (hZ : ZS D ca base ad n np μ s H locs) {u : Mem} {n2 np2 : Nat} {ad2 : Nat → Nat → Nat} (h0 : st₀.heap = H) (e1 : H2 = t.heap) (hw : Wd D ca base ad2 n2 np2 u t.heap) (hF : va_F (zB base) st₀ t) (hL : ∀ q ∈ L, zB base q.base) : ZS D ca base ad2 n2 np2 u s H2 (locs ++ L) := by
  subst e1
  obtain ⟨hK, hS, hwd⟩ := hZ
  obtain ⟨hz, hk⟩ := hF
  rw [h0] at hz hk
  refine ⟨hK, ⟨Nat.le_trans hS.1 hz, fun q h1 h2 => ?_, fun q hq => ?_⟩, hw⟩
  · rw [hk q (Nat.lt_of_lt_of_le h1 hS.1) h2]
    exact hS.2.1 q h1 h2
  · rcases List.mem_append.mp hq with h | h
    · exact hS.2.2 q h
    · exact hL q h
theorem z_run {free : Addr → Prop} {a : Array Value} (hZ : ZS D ca base ad n np μ s H locs) (hf : ∀ q, free q → zB base q) (hr : va_Run p l e R s m args below meth c H locs cells slots mc ms (F0 m pc ls st0) rest (ZQ D ca base ad n np post a) free)
    (kk : ∀ (v : Option Value) (u : Mem) (H1 : Heap) (locs1 : List Loc), post v u → ZS D ca base ad n np u s H1 locs1 → W p l e R s m args below meth c H1 locs1 (cells + mc) (slots + ms) Q (F0 m (pc + 3) ls (v.toList ++ rest))) : W p l e R s m args below meth c H locs cells slots Q (F0 m pc ls st0) := by
  intro T hT X
  obtain ⟨v, st₀, t, T', L, h0, X', hL, e1, e2, ⟨⟨v', u, hv, hp, hb⟩, hF⟩, st⟩ := hr T hT X
  cases hv
  obtain ⟨t2, a1, b1⟩ := kk v u T'.heap (locs ++ L) hp (z_after hZ h0 e1 hb hF (fun q hq => hf _ (hL q hq))) T' rfl X'
  exact ⟨t2, st t2 a1, b1⟩
theorem z_runX {free : Addr → Prop} {a : Array Value} (hZ : ZS D ca base ad n np μ s H locs) (hf : ∀ q, free q → zB base q) (hr : vx_Run p l e R s m args below meth c H locs cells slots mc ms (F0 m pc ls st0) rest (ZQ D ca base ad n np post a) (ZX D ca base ad n np xp) free)
    (kx : ∀ (E : String) (ce : Cell) (q9 : Addr) (u : Mem) (H1 : Heap) (locs1 : List Loc), xp E u → ZS D ca base ad n np u s H1 locs1 → H1[q9]? = some ce → ce.vm = .none → s.vm.findClass E = some ce.cls → vx_W p l e R s m args below meth c H1 locs1 (cells + mc) (slots + ms) Q (F0 m pc ls rest) q9)
    (kk : ∀ (v : Option Value) (u : Mem) (H1 : Heap) (locs1 : List Loc), post v u → ZS D ca base ad n np u s H1 locs1 → W p l e R s m args below meth c H1 locs1 (cells + mc) (slots + ms) Q (F0 m (pc + 3) ls (v.toList ++ rest))) : W p l e R s m args below meth c H locs cells slots Q (F0 m pc ls st0) := by
  intro T hT X
  rcases hr T hT X with ⟨v, st₀, t, T', L, h0, X', hL, e1, e2, ⟨⟨v', u, hv, hp, hb⟩, hF⟩, st⟩ | ⟨q, st₀, t, T', L, E, ce, h0, X', hL, e1, e2, ⟨⟨u, hx, hb⟩, hF⟩, hce, hcv, hcl, st⟩
  · cases hv
    obtain ⟨t2, a1, b1⟩ := kk v u T'.heap (locs ++ L) hp (z_after hZ h0 e1 hb hF (fun q hq => hf _ (hL q hq))) T' rfl X'
    exact ⟨t2, st t2 a1, b1⟩
  · obtain ⟨t2, a1, b1⟩ := kx E ce q u T'.heap (locs ++ L) hx (z_after hZ h0 e1 hb hF (fun q hq => hf _ (hL q hq))) (by rw [e1]; exact hce) hcv hcl T' rfl X'
    exact ⟨t2, st.trans a1, b1⟩
theorem z_recv (hZ : ZS D ca base ad n np μ s H locs) {f i ci N : Nat} {fs : List Value} {T : u_T} (he : zF ad ca n np f i (μ f i) = some (.inr (ci, fs))) (hcl : vwCl[ci]? = some (C, T, N)) : ∃ cellB : Cell, H[ad f i]? = some cellB ∧ cellB.vm.isStatics = false ∧ s.vm.findClass C = some cellB.cls :=
  va_recv hZ.1.1 (va_P1 (hZ.2.2.1 f i _ he)) hcl (q0 := 0) rfl
theorem z_callV (hC : ZC p m meth c s own cc nL) (hZ : ZS D ca base ad n np μ s H locs) {f i ci N : Nat} {fs : List Value} {T : u_T} (he : zF ad ca n np f i (μ f i) = some (.inr (ci, fs))) (hcl : vwCl[ci]? = some (C, T, N)) (hY : zYV y C bytes maxL ret na)
    (hM : ZMet l y bytes maxL ret rm mc ms D ca base ad n np (.ref (ad f i) :: As) μ post) (hlink : Cond.methodLink own index y ∈ lw_tbl) (hn : As.length = na) (hrm : rm.cells = mc ∧ rm.slots = ms) (hR : rm.frames + 1 ≤ R.frames ∧ 8 + (maxL + 11) + rm.locals ≤ R.locals) (hsize : ls.size = nL) (hst : st0 = As.reverse ++ .ref (ad f i) :: rest) (hrest : (rest.map fun v => v.category).sum ≤ 8) (hdg : decode cc pc = .ok (.invokevirtual index, 3)) (hf : cells + mc ≤ R.cells ∧ slots + ms ≤ R.slots)
    (kk : ∀ (v : Option Value) (u : Mem) (H1 : Heap) (locs1 : List Loc), post v u → ZS D ca base ad n np u s H1 locs1 → W p l e R s m args below meth c H1 locs1 (cells + mc) (slots + ms) Q (F0 m (pc + 3) ls (v.toList ++ rest))) : W p l e R s m args below meth c H locs cells slots Q (F0 m pc ls st0) := by
  obtain ⟨y1, y2, y3, y4, y5, y6, y7⟩ := hY
  have hW := hZ.1.2.1
  refine z_run hZ (fun _ h => h) (va_runV (g := F0 m pc ls st0) (As := As) (rest := rest) (hC.fix args) hM ⟨zCallB hW y4 (by rw [y5]; exact y3) y6 y7 hlink hrm hR, hW.use args y1 rfl, hW.use args y2 rfl⟩ ⟨ZU_blind, z_recv hZ he hcl, fun U hU hWU => ⟨rfl, hZ.toU hU hWU⟩⟩ rfl hn hsize hst (lv_room hrest) hdg hf) kk
theorem z_callVX (hC : ZC p m meth c s own cc nL) (hZ : ZS D ca base ad n np μ s H locs) {f i ci N : Nat} {fs : List Value} {T : u_T} (he : zF ad ca n np f i (μ f i) = some (.inr (ci, fs))) (hcl : vwCl[ci]? = some (C, T, N)) (hY : zYV y C bytes maxL ret na)
    (hM : ZXMet l y bytes maxL ret rm mc ms D ca base ad n np (.ref (ad f i) :: As) μ post xp) (hlink : Cond.methodLink own index y ∈ lw_tbl) (hn : As.length = na) (hrm : rm.cells = mc ∧ rm.slots = ms) (hR : rm.frames + 1 ≤ R.frames ∧ 8 + (maxL + 11) + rm.locals ≤ R.locals) (hsize : ls.size = nL) (hst : st0 = As.reverse ++ .ref (ad f i) :: rest) (hrest : (rest.map fun v => v.category).sum ≤ 8) (hdg : decode cc pc = .ok (.invokevirtual index, 3)) (hf : cells + mc ≤ R.cells ∧ slots + ms ≤ R.slots)
    (kx : ∀ (E : String) (ce : Cell) (q9 : Addr) (u : Mem) (H1 : Heap) (locs1 : List Loc), xp E u → ZS D ca base ad n np u s H1 locs1 → H1[q9]? = some ce → ce.vm = .none → s.vm.findClass E = some ce.cls → vx_W p l e R s m args below meth c H1 locs1 (cells + mc) (slots + ms) Q (F0 m pc ls rest) q9)
    (kk : ∀ (v : Option Value) (u : Mem) (H1 : Heap) (locs1 : List Loc), post v u → ZS D ca base ad n np u s H1 locs1 → W p l e R s m args below meth c H1 locs1 (cells + mc) (slots + ms) Q (F0 m (pc + 3) ls (v.toList ++ rest))) : W p l e R s m args below meth c H locs cells slots Q (F0 m pc ls st0) := by
  obtain ⟨y1, y2, y3, y4, y5, y6, y7⟩ := hY
  have hW := hZ.1.2.1
  refine z_runX hZ (fun _ h => h) (vx_runV (g := F0 m pc ls st0) (As := As) (rest := rest) (hC.fix args) hM ⟨zCallB hW y4 (by rw [y5]; exact y3) y6 y7 hlink hrm hR, hW.use args y1 rfl, hW.use args y2 rfl⟩ ⟨ZU_blind, z_recv hZ he hcl, fun U hU hWU => ⟨rfl, hZ.toU hU hWU⟩⟩ rfl hn hsize hst (lv_room hrest) hdg hf) kx kk
theorem z_callS (hC : ZC p m meth c s own cc nL) (hZ : ZS D ca base ad n np μ s H locs) (hY : zYS y bytes maxL ret na)
    (hM : ZMet l y bytes maxL ret rm mc ms D ca base ad n np As μ post) (hlink : Cond.methodLink own index y ∈ lw_tbl) (hn : As.length = na) (hrm : rm.cells = mc ∧ rm.slots = ms) (hR : rm.frames + 1 ≤ R.frames ∧ 8 + (maxL + 11) + rm.locals ≤ R.locals) (hsize : ls.size = nL) (hst : st0 = As.reverse ++ rest) (hrest : (rest.map fun v => v.category).sum ≤ 8) (hdg : decode cc pc = .ok (.invokestatic index, 3)) (hf : cells + mc ≤ R.cells ∧ slots + ms ≤ R.slots)
    (kk : ∀ (v : Option Value) (u : Mem) (H1 : Heap) (locs1 : List Loc), post v u → ZS D ca base ad n np u s H1 locs1 → W p l e R s m args below meth c H1 locs1 (cells + mc) (slots + ms) Q (F0 m (pc + 3) ls (v.toList ++ rest))) : W p l e R s m args below meth c H locs cells slots Q (F0 m pc ls st0) := by
  obtain ⟨y1, y2, y3, y4, y5⟩ := hY
  have hW := hZ.1.2.1
  refine z_run hZ (fun _ h => h) (va_runS (g := F0 m pc ls st0) (As := As) (rest := rest) (hC.fix args) hM ⟨zCallB hW y3 y2 y4 y5 hlink hrm hR, hW.use args y1 rfl⟩ ⟨ZU_blind, fun U hU hWU => ⟨rfl, hZ.toU hU hWU⟩⟩ rfl hn hsize hst (lv_room hrest) hdg hf) kk
theorem z_callSX (hC : ZC p m meth c s own cc nL) (hZ : ZS D ca base ad n np μ s H locs) (hY : zYS y bytes maxL ret na)
    (hM : ZXMet l y bytes maxL ret rm mc ms D ca base ad n np As μ post xp) (hlink : Cond.methodLink own index y ∈ lw_tbl) (hn : As.length = na) (hrm : rm.cells = mc ∧ rm.slots = ms) (hR : rm.frames + 1 ≤ R.frames ∧ 8 + (maxL + 11) + rm.locals ≤ R.locals) (hsize : ls.size = nL) (hst : st0 = As.reverse ++ rest) (hrest : (rest.map fun v => v.category).sum ≤ 8) (hdg : decode cc pc = .ok (.invokestatic index, 3)) (hf : cells + mc ≤ R.cells ∧ slots + ms ≤ R.slots)
    (kx : ∀ (E : String) (ce : Cell) (q9 : Addr) (u : Mem) (H1 : Heap) (locs1 : List Loc), xp E u → ZS D ca base ad n np u s H1 locs1 → H1[q9]? = some ce → ce.vm = .none → s.vm.findClass E = some ce.cls → vx_W p l e R s m args below meth c H1 locs1 (cells + mc) (slots + ms) Q (F0 m pc ls rest) q9)
    (kk : ∀ (v : Option Value) (u : Mem) (H1 : Heap) (locs1 : List Loc), post v u → ZS D ca base ad n np u s H1 locs1 → W p l e R s m args below meth c H1 locs1 (cells + mc) (slots + ms) Q (F0 m (pc + 3) ls (v.toList ++ rest))) : W p l e R s m args below meth c H locs cells slots Q (F0 m pc ls st0) := by
  obtain ⟨y1, y2, y3, y4, y5⟩ := hY
  have hW := hZ.1.2.1
  refine z_runX hZ (fun _ h => h) (vx_runS (g := F0 m pc ls st0) (As := As) (rest := rest) (hC.fix args) hM ⟨zCallB hW y3 y2 y4 y5 hlink hrm hR, hW.use args y1 rfl⟩ ⟨ZU_blind, fun U hU hWU => ⟨rfl, hZ.toU hU hWU⟩⟩ rfl hn hsize hst (lv_room hrest) hdg hf) kx kk
/-- a private static method of a nest mate -/
theorem z_callSN (hC : ZC p m meth c s own cc nL) (hZ : ZS D ca base ad n np μ s H locs) (hY : zYS y bytes maxL ret na) {host : String}
    (hM : ZMet l y bytes maxL ret rm mc ms D ca base ad n np As μ post) (hlink : Cond.methodLinkNest own index y host ∈ lw_tbl) (hn : As.length = na) (hrm : rm.cells = mc ∧ rm.slots = ms) (hR : rm.frames + 1 ≤ R.frames ∧ 8 + (maxL + 11) + rm.locals ≤ R.locals) (hsize : ls.size = nL) (hst : st0 = As.reverse ++ rest) (hrest : (rest.map fun v => v.category).sum ≤ 8) (hdg : decode cc pc = .ok (.invokestatic index, 3)) (hf : cells + mc ≤ R.cells ∧ slots + ms ≤ R.slots)
    (kk : ∀ (v : Option Value) (u : Mem) (H1 : Heap) (locs1 : List Loc), post v u → ZS D ca base ad n np u s H1 locs1 → W p l e R s m args below meth c H1 locs1 (cells + mc) (slots + ms) Q (F0 m (pc + 3) ls (v.toList ++ rest))) : W p l e R s m args below meth c H locs cells slots Q (F0 m pc ls st0) := by
  obtain ⟨y1, y2, y3, y4, y5⟩ := hY
  have hW := hZ.1.2.1
  have hcw := va_cnB (R := R) (s := s) (args := args) (own := own) (host := host) (index := index) (Ts := [Cond.code y bytes maxL ret]) (ws := [Cond.code y bytes maxL ret]) (ws' := []) (rm := rm) (mc := mc) (ms := ms) na (fun w hw => by rw [List.mem_singleton.mp hw]; exact hW.use args y3 rfl) (fun w hw => ⟨hw, by rw [List.mem_singleton.mp hw]; exact good_of_word rfl⟩) rfl hrm.1 hrm.2 (hW.useN hlink (by unfold zgood; cases goodWord (Cond.methodLinkNest own index y host) <;> rfl)) (hW.use args y2 rfl) ⟨y4.1, y4.2, y5⟩ hR
  refine z_run hZ (fun _ h => h) (va_runSN (g := F0 m pc ls st0) (As := As) (rest := rest) (hC.fix args) hM ⟨hcw, hW.use args y1 rfl, trivial⟩ ⟨ZU_blind, fun U hU hWU => ⟨rfl, hZ.toU hU hWU⟩⟩ rfl hn hsize hst (lv_room hrest) hdg hf) kk
-- returns
theorem z_qret (hZ : ZS D ca base ad n np μ s H locs) {v : Option Value} (hp : post v μ) : ∀ t : State, t.heap = H → s.WarmedH t.vm → ZQ D ca base ad n np post args s (.returned v) t := by
  intro t ht hW
  subst ht
  exact ⟨⟨v, μ, rfl, hp, hZ.2.2⟩, hZ.2.1.F rfl⟩
theorem z_iret (hC : ZC p m meth c s own cc nL) (hr : meth.sig.returnType = some .int) (hZ : ZS D ca base ad n np μ s H locs) {P : Int32 → Mem → Prop} {v : Int32} (hp : P v μ) (hdg : decode cc pc = .ok (.ireturn, 1)) (h1 : cells ≤ mc) (h2 : slots ≤ ms) : W p l e R s m args below meth c H locs cells slots (MQ below (ZQ D ca base ad n np (zpi P)) args s mc ms (zB base)) (F0 m pc ls [.int v]) := by
  have hlk := hC.2.2.2.2
  exact W.widen h1 h2 (W.iret hC.1 hC.2.1 hr (z_qret hZ ⟨v, rfl, hp⟩) hZ.2.1.2.2 hdg)
theorem z_bret (hC : ZC p m meth c s own cc nL) (hr : meth.sig.returnType = some .boolean) (hZ : ZS D ca base ad n np μ s H locs) {P : Int32 → Mem → Prop} {v : Int32} (hv : v = 0 ∨ v = 1) (hp : P v μ) (hdg : decode cc pc = .ok (.ireturn, 1)) (h1 : cells ≤ mc) (h2 : slots ≤ ms) : W p l e R s m args below meth c H locs cells slots (MQ below (ZQ D ca base ad n np (zpi P)) args s mc ms (zB base)) (F0 m pc ls [.int v]) := by
  have hlk := hC.2.2.2.2
  exact W.widen h1 h2 (W.zret hC.1 hC.2.1 hr (by rcases hv with rfl | rfl <;> rfl) (z_qret hZ ⟨v, rfl, hp⟩) hZ.2.1.2.2 hdg)
theorem z_vret (hC : ZC p m meth c s own cc nL) (hr : meth.sig.returnType = none) (hZ : ZS D ca base ad n np μ s H locs) {P : Mem → Prop} (hp : P μ) (hdg : decode cc pc = .ok (.return_, 1)) (h1 : cells ≤ mc) (h2 : slots ≤ ms) : W p l e R s m args below meth c H locs cells slots (MQ below (ZQ D ca base ad n np (zpv P)) args s mc ms (zB base)) (F0 m pc ls []) := by
  have hlk := hC.2.2.2.2
  exact W.widen h1 h2 (W.vret hC.1 hC.2.1 hr (z_qret hZ ⟨rfl, hp⟩) hZ.2.1.2.2 hdg)
theorem z_aret (hC : ZC p m meth c s own cc nL) {rt : FieldType} (hr : meth.sig.returnType = some rt) (hrt : (∃ n, rt = .object n) ∨ ∃ t, rt = .array t) (hZ : ZS D ca base ad n np μ s H locs) {g : Nat} {P : Int32 → Mem → Prop} {v : Int32} (hp : P v μ) (hdg : decode cc pc = .ok (.areturn, 1)) (h1 : cells ≤ mc) (h2 : slots ≤ ms) : W p l e R s m args below meth c H locs cells slots (MQ below (ZQ D ca base ad n np (zpr ad g P)) args s mc ms (zB base)) (F0 m pc ls [va_rf (zr ad g v)]) := by
  have hlk := hC.2.2.2.2
  exact W.widen h1 h2 (W.aret hC.1 hC.2.1 hr hrt (va_rf_or _) (z_qret hZ ⟨v, rfl, hp⟩) hZ.2.1.2.2 hdg)
/-- a throw of a callee goes on to our caller -/
theorem z_xout {Qc : Array Value → State → Outcome → State → Prop} {E : String} {ce : Cell} {q : Addr} (hC : ZC p m meth c s own cc nL) (hnx : ∀ x ∈ c.exceptionTable.toList, False) (hZ : ZS D ca base ad n np μ s H locs) (hx : xp E μ) (hce : H[q]? = some ce) (hcv : ce.vm = .none) (hcl : s.vm.findClass E = some ce.cls) (h1 : cells ≤ mc) (h2 : slots ≤ ms) :
    vx_W p l e R s m args below meth c H locs cells slots (vx_MQ below Qc (ZX D ca base ad n np xp) args s mc ms (zB base)) (F0 m pc ls rest) q :=
  vx_out (fun x h => (hnx x h).elim) hC.2.2.2.2 hce hcv hcl (fun t ht hA => by subst ht; exact ⟨⟨μ, hx, hZ.2.2⟩, hZ.2.1.F rfl⟩) hZ.2.1.2.2 h1 h2
end ZCALLS
end
section
theorem tin1 : ∀ w ∈ tables_1_1, w ∈ lw_tbl := fun w h => List.mem_append_right _ (List.mem_append_left _ h)
theorem tin2 : ∀ w ∈ tables_1_2, w ∈ lw_tbl := fun w h => List.mem_append_right _ (List.mem_append_right _ (List.mem_append_left _ h))
theorem tin3 : ∀ w ∈ tables_1_3, w ∈ lw_tbl := fun w h => List.mem_append_right _ (List.mem_append_right _ (List.mem_append_right _ (List.mem_append_left _ h)))
theorem tin4 : ∀ w ∈ tables_1_4, w ∈ lw_tbl := fun w h => List.mem_append_right _ (List.mem_append_right _ (List.mem_append_right _ (List.mem_append_right _ h)))
theorem tin0 : ∀ w ∈ k2_sels lw_privs, w ∈ lw_tbl := fun w h => List.mem_append_left _ h
theorem kc_L_8 : Cond.classLink RL 8 "BacklotPlanner" ∈ lw_tbl := tin1 _ (List.mem_of_getElem? (i := 16) (by decide +kernel))
theorem kI_X4 : Cond.instantiable RX4 11 ∈ lw_tbl := tin1 _ (List.mem_of_getElem? (i := 17) (by decide +kernel))
theorem km_L_79 : Cond.methodLink RL 79 yX4_init ∈ lw_tbl := tin1 _ (List.mem_of_getElem? (i := 18) (by decide +kernel))
theorem km_X4_1 : Cond.methodLink RX4 1 objectInit ∈ lw_tbl := tin1 _ (List.mem_of_getElem? (i := 21) (by decide +kernel))
theorem kc_X4_9 : Cond.classLink RX4 9 "BacklotPlanner$Scene" ∈ lw_tbl := tin1 _ (List.mem_of_getElem? (i := 24) (by decide +kernel))
theorem ko_1_25 : Jvm.Cond.arrayOver (Jvm.ClassFile.FieldType.object "BacklotPlanner$Scene") ∈ lw_tbl := tin1 _ (List.mem_of_getElem? (i := 25) (by decide +kernel))
theorem kc_X4_18 : Cond.classLink RX4 18 "BacklotPlanner$Permit" ∈ lw_tbl := tin1 _ (List.mem_of_getElem? (i := 26) (by decide +kernel))
theorem ko_1_27 : Jvm.Cond.arrayOver (Jvm.ClassFile.FieldType.object "BacklotPlanner$Permit") ∈ lw_tbl := tin1 _ (List.mem_of_getElem? (i := 27) (by decide +kernel))
theorem kc_X4_28 : Cond.classLink RX4 28 "BacklotPlanner$Studio" ∈ lw_tbl := tin1 _ (List.mem_of_getElem? (i := 28) (by decide +kernel))
theorem kI_X3 : Cond.instantiable RX3 3 ∈ lw_tbl := tin1 _ (List.mem_of_getElem? (i := 29) (by decide +kernel))
theorem kn_X4_30 : Cond.methodLinkNest RX4 30 yX3_init RX4 ∈ lw_tbl := tin1 _ (List.mem_of_getElem? (i := 30) (by decide +kernel))
theorem km_X3_3 : Cond.methodLink RX3 3 objectInit ∈ lw_tbl := tin1 _ (List.mem_of_getElem? (i := 33) (by decide +kernel))
theorem kc_X3_9 : Cond.classLink RX3 9 "[[I" ∈ lw_tbl := tin1 _ (List.mem_of_getElem? (i := 34) (by decide +kernel))
theorem ko_1_35 : Jvm.Cond.arrayOver (Jvm.ClassFile.FieldType.array Jvm.ClassFile.FieldType.int) ∈ lw_tbl := tin1 _ (List.mem_of_getElem? (i := 35) (by decide +kernel))
theorem kf_X3_11 : Cond.fieldLink RX3 11 RX3 "stock" "[[I" ∈ lw_tbl := tin1 _ (List.mem_of_getElem? (i := 36) (by decide +kernel))
theorem kf_X4_173 : Cond.fieldLink RX4 173 RX3 "stock" "[[I" ∈ lw_tbl := tin1 _ (List.mem_of_getElem? (i := 37) (by decide +kernel))
theorem kf_X3_16 : Cond.fieldLink RX3 16 RX3 "beards" "[I" ∈ lw_tbl := tin1 _ (List.mem_of_getElem? (i := 38) (by decide +kernel))
theorem kf_X4_241 : Cond.fieldLink RX4 241 RX3 "beards" "[I" ∈ lw_tbl := tin1 _ (List.mem_of_getElem? (i := 39) (by decide +kernel))
theorem kf_X3_20 : Cond.fieldLink RX3 20 RX3 "lastSet" "I" ∈ lw_tbl := tin1 _ (List.mem_of_getElem? (i := 40) (by decide +kernel))
theorem ka_int : Cond.arrayClass .int ∈ lw_tbl := tin1 _ (List.mem_of_getElem? (i := 48) (by decide +kernel))
theorem kc_X4_38 : Cond.classLink RX4 38 "BacklotPlanner$Orders" ∈ lw_tbl := tin1 _ (List.mem_of_getElem? (i := 49) (by decide +kernel))
theorem kI_X0 : Cond.instantiable RX0 3 ∈ lw_tbl := tin1 _ (List.mem_of_getElem? (i := 50) (by decide +kernel))
theorem kn_X4_40 : Cond.methodLinkNest RX4 40 yX0_init RX4 ∈ lw_tbl := tin1 _ (List.mem_of_getElem? (i := 51) (by decide +kernel))
theorem km_X0_3 : Cond.methodLink RX0 3 objectInit ∈ lw_tbl := tin1 _ (List.mem_of_getElem? (i := 54) (by decide +kernel))
theorem kc_X0_15 : Cond.classLink RX0 15 "BacklotPlanner$Scene" ∈ lw_tbl := tin1 _ (List.mem_of_getElem? (i := 55) (by decide +kernel))
theorem kf_X0_9 : Cond.fieldLink RX0 9 RX0 "days" "[I" ∈ lw_tbl := tin1 _ (List.mem_of_getElem? (i := 56) (by decide +kernel))
theorem kf_X0_17 : Cond.fieldLink RX0 17 RX0 "scenes" "[LBacklotPlanner$Scene;" ∈ lw_tbl := tin1 _ (List.mem_of_getElem? (i := 57) (by decide +kernel))
theorem kf_X0_21 : Cond.fieldLink RX0 21 RX0 "count" "I" ∈ lw_tbl := tin1 _ (List.mem_of_getElem? (i := 58) (by decide +kernel))
theorem kf_X4_215 : Cond.fieldLink RX4 215 RX0 "count" "I" ∈ lw_tbl := tin1 _ (List.mem_of_getElem? (i := 59) (by decide +kernel))
theorem kf_X4_11 : Cond.fieldLink RX4 11 RX4 "told" "[LBacklotPlanner$Scene;" ∈ lw_tbl := tin1 _ (List.mem_of_getElem? (i := 67) (by decide +kernel))
theorem kf_X4_15 : Cond.fieldLink RX4 15 RX4 "plan" "[LBacklotPlanner$Scene;" ∈ lw_tbl := tin1 _ (List.mem_of_getElem? (i := 68) (by decide +kernel))
theorem kf_X4_20 : Cond.fieldLink RX4 20 RX4 "permits" "[LBacklotPlanner$Permit;" ∈ lw_tbl := tin1 _ (List.mem_of_getElem? (i := 69) (by decide +kernel))
theorem kf_X4_24 : Cond.fieldLink RX4 24 RX4 "awayDays" "[I" ∈ lw_tbl := tin1 _ (List.mem_of_getElem? (i := 70) (by decide +kernel))
theorem kf_X4_31 : Cond.fieldLink RX4 31 RX4 "studio" "LBacklotPlanner$Studio;" ∈ lw_tbl := tin1 _ (List.mem_of_getElem? (i := 71) (by decide +kernel))
theorem kf_X4_35 : Cond.fieldLink RX4 35 RX4 "trial" "LBacklotPlanner$Studio;" ∈ lw_tbl := tin1 _ (List.mem_of_getElem? (i := 72) (by decide +kernel))
theorem kf_X4_41 : Cond.fieldLink RX4 41 RX4 "orders" "LBacklotPlanner$Orders;" ∈ lw_tbl := tin1 _ (List.mem_of_getElem? (i := 73) (by decide +kernel))
theorem kf_X4_45 : Cond.fieldLink RX4 45 RX4 "toldCount" "I" ∈ lw_tbl := tin1 _ (List.mem_of_getElem? (i := 74) (by decide +kernel))
theorem kf_X4_49 : Cond.fieldLink RX4 49 RX4 "permitCount" "I" ∈ lw_tbl := tin1 _ (List.mem_of_getElem? (i := 75) (by decide +kernel))
theorem kf_X4_52 : Cond.fieldLink RX4 52 RX4 "now" "I" ∈ lw_tbl := tin1 _ (List.mem_of_getElem? (i := 76) (by decide +kernel))
theorem kf_X4_55 : Cond.fieldLink RX4 55 RX4 "paid" "I" ∈ lw_tbl := tin1 _ (List.mem_of_getElem? (i := 77) (by decide +kernel))
theorem km_L_120 : Cond.methodLink RL 120 yX4_clear ∈ lw_tbl := tin1 _ (List.mem_of_getElem? (i := 101) (by decide +kernel))
theorem km_L_131 : Cond.methodLink RL 131 yX4_mend ∈ lw_tbl := tin1 _ (List.mem_of_getElem? (i := 105) (by decide +kernel))
theorem km_X4_199 : Cond.methodLink RX4 199 yX4_isRefusedOn ∈ lw_tbl := tin1 _ (List.mem_of_getElem? (i := 109) (by decide +kernel))
theorem km_X4_271 : Cond.methodLink RX4 271 yX4_isFree ∈ lw_tbl := tin1 _ (List.mem_of_getElem? (i := 113) (by decide +kernel))
theorem km_X4_183 : Cond.methodLink RX4 183 yX4_allows ∈ lw_tbl := tin1 _ (List.mem_of_getElem? (i := 117) (by decide +kernel))
theorem km_X4_274 : Cond.methodLink RX4 274 yX4_isPermitted ∈ lw_tbl := tin1 _ (List.mem_of_getElem? (i := 121) (by decide +kernel))
theorem km_X4_283 : Cond.methodLink RX4 283 yX1_covers ∈ lw_tbl := tin1 _ (List.mem_of_getElem? (i := 125) (by decide +kernel))
theorem km_X4_277 : Cond.methodLink RX4 277 yX4_isCastThere ∈ lw_tbl := tin1 _ (List.mem_of_getElem? (i := 129) (by decide +kernel))
theorem km_X4_163 : Cond.methodLink RX4 163 yX4_isAwayOn ∈ lw_tbl := tin1 _ (List.mem_of_getElem? (i := 133) (by decide +kernel))
theorem km_X4_203 : Cond.methodLink RX4 203 yX4_mendingDay ∈ lw_tbl := tin1 _ (List.mem_of_getElem? (i := 137) (by decide +kernel))
theorem km_X4_265 : Cond.methodLink RX4 265 yX4_wouldMend ∈ lw_tbl := tin1 _ (List.mem_of_getElem? (i := 141) (by decide +kernel))
theorem km_X4_268 : Cond.methodLink RX4 268 yX4_costAfterSwap ∈ lw_tbl := tin1 _ (List.mem_of_getElem? (i := 145) (by decide +kernel))
theorem km_X4_133 : Cond.methodLink RX4 133 yX4_swapDays ∈ lw_tbl := tin1 _ (List.mem_of_getElem? (i := 149) (by decide +kernel))
theorem km_X4_257 : Cond.methodLink RX4 257 yX4_exchange ∈ lw_tbl := tin1 _ (List.mem_of_getElem? (i := 153) (by decide +kernel))
theorem km_X4_137 : Cond.methodLink RX4 137 yX4_planCost ∈ lw_tbl := tin1 _ (List.mem_of_getElem? (i := 156) (by decide +kernel))
theorem km_X4_261 : Cond.methodLink RX4 261 yX3_copy ∈ lw_tbl := tin1 _ (List.mem_of_getElem? (i := 160) (by decide +kernel))
theorem km_X3_24 : Cond.methodLink RX3 24 arraycopyName ∈ lw_tbl := tin1 _ (List.mem_of_getElem? (i := 164) (by decide +kernel))
theorem km_X4_196 : Cond.methodLink RX4 196 yX3_growBeards ∈ lw_tbl := tin1 _ (List.mem_of_getElem? (i := 167) (by decide +kernel))
theorem km_X3_30 : Cond.methodLink RX3 30 yJ9_min_7cf53 ∈ lw_tbl := tin1 _ (List.mem_of_getElem? (i := 171) (by decide +kernel))
theorem km_X4_187 : Cond.methodLink RX4 187 yX3_film ∈ lw_tbl := tin1 _ (List.mem_of_getElem? (i := 174) (by decide +kernel))
theorem km_X3_42 : Cond.methodLink RX3 42 yX3_dress ∈ lw_tbl := tin1 _ (List.mem_of_getElem? (i := 178) (by decide +kernel))
theorem km_X3_51 : Cond.methodLink RX3 51 yX3_serve ∈ lw_tbl := tin1 _ (List.mem_of_getElem? (i := 182) (by decide +kernel))
theorem km_L_135 : Cond.methodLink RL 135 yX4_better ∈ lw_tbl := tin1 _ (List.mem_of_getElem? (i := 186) (by decide +kernel))
theorem kk_X4_206 : Cond.constant RX4 206 (1000000 : Int32) ∈ lw_tbl := tin1 _ (List.mem_of_getElem? (i := 190) (by decide +kernel))
theorem km_X4_207 : Cond.methodLink RX4 207 yX4_makeBestSwap ∈ lw_tbl := tin1 _ (List.mem_of_getElem? (i := 191) (by decide +kernel))
theorem km_L_142 : Cond.methodLink RL 142 yX4_today ∈ lw_tbl := tin1 _ (List.mem_of_getElem? (i := 195) (by decide +kernel))
theorem km_L_146 : Cond.methodLink RL 146 yX4_spent ∈ lw_tbl := tin1 _ (List.mem_of_getElem? (i := 199) (by decide +kernel))
theorem km_L_150 : Cond.methodLink RL 150 yX4_cost ∈ lw_tbl := tin1 _ (List.mem_of_getElem? (i := 203) (by decide +kernel))
theorem km_L_154 : Cond.methodLink RL 154 yX4_scenes ∈ lw_tbl := tin1 _ (List.mem_of_getElem? (i := 207) (by decide +kernel))
theorem km_L_167 : Cond.methodLink RL 167 yX4_refused ∈ lw_tbl := tin1 _ (List.mem_of_getElem? (i := 211) (by decide +kernel))
theorem km_X4_157 : Cond.methodLink RX4 157 yX4_countRefused ∈ lw_tbl := tin1 _ (List.mem_of_getElem? (i := 215) (by decide +kernel))
theorem km_L_83 : Cond.methodLink RL 83 yL_scene ∈ lw_tbl := tin1 _ (List.mem_of_getElem? (i := 219) (by decide +kernel))
theorem kc_L_13 : Cond.classLink RL 13 "java/lang/IllegalArgumentException" ∈ lw_tbl := tin1 _ (List.mem_of_getElem? (i := 222) (by decide +kernel))
theorem kc_L_15 : Cond.classLink RL 15 "java/lang/IllegalStateException" ∈ lw_tbl := tin1 _ (List.mem_of_getElem? (i := 223) (by decide +kernel))
theorem km_L_7 : Cond.methodLink RL 7 yX4_scene ∈ lw_tbl := tin1 _ (List.mem_of_getElem? (i := 224) (by decide +kernel))
theorem kc_X4_58 : Cond.classLink RX4 58 "java/lang/IllegalArgumentException" ∈ lw_tbl := tin1 _ (List.mem_of_getElem? (i := 228) (by decide +kernel))
theorem ka_byte : Cond.arrayClass .byte ∈ lw_tbl := tin2 _ (List.mem_of_getElem? (i := 55) (by decide +kernel))
theorem km_X4_65 : Cond.methodLink RX4 65 yX4_dayBehindPlan ∈ lw_tbl := tin2 _ (List.mem_of_getElem? (i := 56) (by decide +kernel))
theorem kc_X4_69 : Cond.classLink RX4 69 "java/lang/IllegalStateException" ∈ lw_tbl := tin2 _ (List.mem_of_getElem? (i := 60) (by decide +kernel))
theorem kI_X2 : Cond.instantiable RX2 8 ∈ lw_tbl := tin2 _ (List.mem_of_getElem? (i := 76) (by decide +kernel))
theorem km_X4_74 : Cond.methodLink RX4 74 yX2_init ∈ lw_tbl := tin2 _ (List.mem_of_getElem? (i := 77) (by decide +kernel))
theorem km_X2_3 : Cond.methodLink RX2 3 objectInit ∈ lw_tbl := tin2 _ (List.mem_of_getElem? (i := 80) (by decide +kernel))
theorem km_X2_37 : Cond.methodLink RX2 37 yJ7_fill_53178 ∈ lw_tbl := tin2 _ (List.mem_of_getElem? (i := 81) (by decide +kernel))
theorem kf_X2_28 : Cond.fieldLink RX2 28 RX2 "number" "I" ∈ lw_tbl := tin2 _ (List.mem_of_getElem? (i := 84) (by decide +kernel))
theorem kf_X4_77 : Cond.fieldLink RX4 77 RX2 "number" "I" ∈ lw_tbl := tin2 _ (List.mem_of_getElem? (i := 85) (by decide +kernel))
theorem kf_X2_31 : Cond.fieldLink RX2 31 RX2 "set" "I" ∈ lw_tbl := tin2 _ (List.mem_of_getElem? (i := 86) (by decide +kernel))
theorem kf_X1_26 : Cond.fieldLink RX1 26 RX2 "set" "I" ∈ lw_tbl := tin2 _ (List.mem_of_getElem? (i := 87) (by decide +kernel))
theorem kf_X3_36 : Cond.fieldLink RX3 36 RX2 "set" "I" ∈ lw_tbl := tin2 _ (List.mem_of_getElem? (i := 88) (by decide +kernel))
theorem kf_X2_34 : Cond.fieldLink RX2 34 RX2 "flames" "I" ∈ lw_tbl := tin2 _ (List.mem_of_getElem? (i := 89) (by decide +kernel))
theorem kf_X1_29 : Cond.fieldLink RX1 29 RX2 "flames" "I" ∈ lw_tbl := tin2 _ (List.mem_of_getElem? (i := 90) (by decide +kernel))
theorem kf_X4_280 : Cond.fieldLink RX4 280 RX2 "flames" "I" ∈ lw_tbl := tin2 _ (List.mem_of_getElem? (i := 91) (by decide +kernel))
theorem kf_X2_9 : Cond.fieldLink RX2 9 RX2 "beards" "[I" ∈ lw_tbl := tin2 _ (List.mem_of_getElem? (i := 92) (by decide +kernel))
theorem kf_X4_94 : Cond.fieldLink RX4 94 RX2 "beards" "[I" ∈ lw_tbl := tin2 _ (List.mem_of_getElem? (i := 93) (by decide +kernel))
theorem kf_X3_41 : Cond.fieldLink RX3 41 RX2 "beards" "[I" ∈ lw_tbl := tin2 _ (List.mem_of_getElem? (i := 94) (by decide +kernel))
theorem kf_X2_15 : Cond.fieldLink RX2 15 RX2 "from" "[I" ∈ lw_tbl := tin2 _ (List.mem_of_getElem? (i := 95) (by decide +kernel))
theorem kf_X4_111 : Cond.fieldLink RX4 111 RX2 "from" "[I" ∈ lw_tbl := tin2 _ (List.mem_of_getElem? (i := 96) (by decide +kernel))
theorem kf_X3_45 : Cond.fieldLink RX3 45 RX2 "from" "[I" ∈ lw_tbl := tin2 _ (List.mem_of_getElem? (i := 97) (by decide +kernel))
theorem kf_X2_18 : Cond.fieldLink RX2 18 RX2 "to" "[I" ∈ lw_tbl := tin2 _ (List.mem_of_getElem? (i := 98) (by decide +kernel))
theorem kf_X4_114 : Cond.fieldLink RX4 114 RX2 "to" "[I" ∈ lw_tbl := tin2 _ (List.mem_of_getElem? (i := 99) (by decide +kernel))
theorem kf_X3_48 : Cond.fieldLink RX3 48 RX2 "to" "[I" ∈ lw_tbl := tin2 _ (List.mem_of_getElem? (i := 100) (by decide +kernel))
theorem kf_X2_21 : Cond.fieldLink RX2 21 RX2 "state" "I" ∈ lw_tbl := tin2 _ (List.mem_of_getElem? (i := 101) (by decide +kernel))
theorem kf_X4_128 : Cond.fieldLink RX4 128 RX2 "state" "I" ∈ lw_tbl := tin2 _ (List.mem_of_getElem? (i := 102) (by decide +kernel))
theorem kf_X2_25 : Cond.fieldLink RX2 25 RX2 "shotOn" "I" ∈ lw_tbl := tin2 _ (List.mem_of_getElem? (i := 103) (by decide +kernel))
theorem kf_X4_190 : Cond.fieldLink RX4 190 RX2 "shotOn" "I" ∈ lw_tbl := tin2 _ (List.mem_of_getElem? (i := 104) (by decide +kernel))
theorem km_L_92 : Cond.methodLink RL 92 yL_plays ∈ lw_tbl := tin2 _ (List.mem_of_getElem? (i := 122) (by decide +kernel))
theorem kc_L_21 : Cond.classLink RL 21 "java/lang/IndexOutOfBoundsException" ∈ lw_tbl := tin2 _ (List.mem_of_getElem? (i := 125) (by decide +kernel))
theorem km_L_17 : Cond.methodLink RL 17 yX4_plays ∈ lw_tbl := tin2 _ (List.mem_of_getElem? (i := 126) (by decide +kernel))
theorem km_X4_80 : Cond.methodLink RX4 80 yX4_sceneNumbered ∈ lw_tbl := tin2 _ (List.mem_of_getElem? (i := 130) (by decide +kernel))
theorem kc_X4_242 : Cond.classLink RX4 242 "java/lang/IndexOutOfBoundsException" ∈ lw_tbl := tin2 _ (List.mem_of_getElem? (i := 134) (by decide +kernel))
theorem km_X4_84 : Cond.methodLink RX4 84 yX4_requireActor ∈ lw_tbl := tin2 _ (List.mem_of_getElem? (i := 150) (by decide +kernel))
theorem km_X4_90 : Cond.methodLink RX4 90 yX4_requirePlanned ∈ lw_tbl := tin2 _ (List.mem_of_getElem? (i := 155) (by decide +kernel))
theorem km_X4_97 : Cond.methodLink RX4 97 yX2_countActors ∈ lw_tbl := tin2 _ (List.mem_of_getElem? (i := 159) (by decide +kernel))
theorem km_L_96 : Cond.methodLink RL 96 yL_uses ∈ lw_tbl := tin2 _ (List.mem_of_getElem? (i := 163) (by decide +kernel))
theorem km_L_23 : Cond.methodLink RL 23 yX4_uses ∈ lw_tbl := tin2 _ (List.mem_of_getElem? (i := 166) (by decide +kernel))
theorem km_X4_100 : Cond.methodLink RX4 100 yX4_requireProp ∈ lw_tbl := tin2 _ (List.mem_of_getElem? (i := 170) (by decide +kernel))
theorem km_X4_105 : Cond.methodLink RX4 105 yX4_agesForwards ∈ lw_tbl := tin2 _ (List.mem_of_getElem? (i := 175) (by decide +kernel))
theorem km_X4_236 : Cond.methodLink RX4 236 yX2_ages ∈ lw_tbl := tin2 _ (List.mem_of_getElem? (i := 179) (by decide +kernel))
theorem km_X4_117 : Cond.methodLink RX4 117 yX2_countProps ∈ lw_tbl := tin2 _ (List.mem_of_getElem? (i := 184) (by decide +kernel))
theorem km_L_100 : Cond.methodLink RL 100 yL_cut ∈ lw_tbl := tin2 _ (List.mem_of_getElem? (i := 188) (by decide +kernel))
theorem km_L_27 : Cond.methodLink RL 27 yX4_cut ∈ lw_tbl := tin2 _ (List.mem_of_getElem? (i := 191) (by decide +kernel))
theorem km_X4_120 : Cond.methodLink RX4 120 yX4_plannedDay ∈ lw_tbl := tin2 _ (List.mem_of_getElem? (i := 195) (by decide +kernel))
theorem km_X4_124 : Cond.methodLink RX4 124 yX4_put ∈ lw_tbl := tin2 _ (List.mem_of_getElem? (i := 199) (by decide +kernel))
theorem km_L_104 : Cond.methodLink RL 104 yL_swap ∈ lw_tbl := tin2 _ (List.mem_of_getElem? (i := 202) (by decide +kernel))
theorem km_L_31 : Cond.methodLink RL 31 yX4_swap ∈ lw_tbl := tin2 _ (List.mem_of_getElem? (i := 205) (by decide +kernel))
theorem km_L_107 : Cond.methodLink RL 107 yL_permit ∈ lw_tbl := tin2 _ (List.mem_of_getElem? (i := 210) (by decide +kernel))
theorem km_L_34 : Cond.methodLink RL 34 yX4_permit ∈ lw_tbl := tin2 _ (List.mem_of_getElem? (i := 213) (by decide +kernel))
theorem kI_X1 : Cond.instantiable RX1 5 ∈ lw_tbl := tin2 _ (List.mem_of_getElem? (i := 219) (by decide +kernel))
theorem km_X4_144 : Cond.methodLink RX4 144 yX1_init ∈ lw_tbl := tin2 _ (List.mem_of_getElem? (i := 220) (by decide +kernel))
theorem km_X1_1 : Cond.methodLink RX1 1 objectInit ∈ lw_tbl := tin2 _ (List.mem_of_getElem? (i := 223) (by decide +kernel))
theorem kf_X1_13 : Cond.fieldLink RX1 13 RX1 "set" "I" ∈ lw_tbl := tin2 _ (List.mem_of_getElem? (i := 224) (by decide +kernel))
theorem kf_X1_17 : Cond.fieldLink RX1 17 RX1 "from" "I" ∈ lw_tbl := tin2 _ (List.mem_of_getElem? (i := 225) (by decide +kernel))
theorem kf_X1_20 : Cond.fieldLink RX1 20 RX1 "to" "I" ∈ lw_tbl := tin2 _ (List.mem_of_getElem? (i := 226) (by decide +kernel))
theorem kf_X1_23 : Cond.fieldLink RX1 23 RX1 "flames" "I" ∈ lw_tbl := tin2 _ (List.mem_of_getElem? (i := 227) (by decide +kernel))
theorem kf_X1_7 : Cond.fieldLink RX1 7 RX1 "isRevoked" "Z" ∈ lw_tbl := tin2 _ (List.mem_of_getElem? (i := 228) (by decide +kernel))
theorem kf_X4_151 : Cond.fieldLink RX4 151 RX1 "isRevoked" "Z" ∈ lw_tbl := tin2 _ (List.mem_of_getElem? (i := 229) (by decide +kernel))
theorem km_L_110 : Cond.methodLink RL 110 yL_revoke ∈ lw_tbl := tin3 _ (List.mem_of_getElem? (i := 1) (by decide +kernel))
theorem km_L_37 : Cond.methodLink RL 37 yX4_revoke ∈ lw_tbl := tin3 _ (List.mem_of_getElem? (i := 4) (by decide +kernel))
theorem km_X4_147 : Cond.methodLink RX4 147 yX4_permitNumbered ∈ lw_tbl := tin3 _ (List.mem_of_getElem? (i := 8) (by decide +kernel))
theorem km_L_113 : Cond.methodLink RL 113 yL_away ∈ lw_tbl := tin3 _ (List.mem_of_getElem? (i := 14) (by decide +kernel))
theorem km_L_40 : Cond.methodLink RL 40 yX4_away ∈ lw_tbl := tin3 _ (List.mem_of_getElem? (i := 17) (by decide +kernel))
theorem km_X4_160 : Cond.methodLink RX4 160 yX4_requireDay ∈ lw_tbl := tin3 _ (List.mem_of_getElem? (i := 21) (by decide +kernel))
theorem km_L_117 : Cond.methodLink RL 117 yL_buy ∈ lw_tbl := tin3 _ (List.mem_of_getElem? (i := 25) (by decide +kernel))
theorem km_L_44 : Cond.methodLink RL 44 yX4_buy ∈ lw_tbl := tin3 _ (List.mem_of_getElem? (i := 28) (by decide +kernel))
theorem km_X4_167 : Cond.methodLink RX4 167 yX3_countCopies ∈ lw_tbl := tin3 _ (List.mem_of_getElem? (i := 32) (by decide +kernel))
theorem km_L_124 : Cond.methodLink RL 124 yL_mishap ∈ lw_tbl := tin3 _ (List.mem_of_getElem? (i := 37) (by decide +kernel))
theorem km_L_47 : Cond.methodLink RL 47 yX4_mishap ∈ lw_tbl := tin3 _ (List.mem_of_getElem? (i := 40) (by decide +kernel))
theorem km_L_127 : Cond.methodLink RL 127 yL_shoot ∈ lw_tbl := tin3 _ (List.mem_of_getElem? (i := 46) (by decide +kernel))
theorem km_L_50 : Cond.methodLink RL 50 yX4_shoot ∈ lw_tbl := tin3 _ (List.mem_of_getElem? (i := 49) (by decide +kernel))
theorem km_X4_193 : Cond.methodLink RX4 193 yX4_putOff ∈ lw_tbl := tin3 _ (List.mem_of_getElem? (i := 54) (by decide +kernel))
theorem km_L_139 : Cond.methodLink RL 139 yL_least ∈ lw_tbl := tin3 _ (List.mem_of_getElem? (i := 58) (by decide +kernel))
theorem km_L_54 : Cond.methodLink RL 54 yX4_least ∈ lw_tbl := tin3 _ (List.mem_of_getElem? (i := 61) (by decide +kernel))
theorem km_X4_211 : Cond.methodLink RX4 211 yX0_note ∈ lw_tbl := tin3 _ (List.mem_of_getElem? (i := 65) (by decide +kernel))
theorem km_X4_220 : Cond.methodLink RX4 220 yX0_countOrders ∈ lw_tbl := tin3 _ (List.mem_of_getElem? (i := 70) (by decide +kernel))
theorem km_X4_223 : Cond.methodLink RX4 223 yX0_lay ∈ lw_tbl := tin3 _ (List.mem_of_getElem? (i := 74) (by decide +kernel))
theorem km_X0_29 : Cond.methodLink RX0 29 yX0_restore ∈ lw_tbl := tin3 _ (List.mem_of_getElem? (i := 78) (by decide +kernel))
theorem kn_X0_25 : Cond.methodLinkNest RX0 25 yX4_put RX4 ∈ lw_tbl := tin3 _ (List.mem_of_getElem? (i := 82) (by decide +kernel))
theorem km_X0_33 : Cond.methodLink RX0 33 yJ9_min_7cf53 ∈ lw_tbl := tin3 _ (List.mem_of_getElem? (i := 83) (by decide +kernel))
theorem kn_X0_39 : Cond.methodLinkNest RX0 39 yX4_exchange RX4 ∈ lw_tbl := tin3 _ (List.mem_of_getElem? (i := 84) (by decide +kernel))
theorem km_X4_227 : Cond.methodLink RX4 227 yJ9_min_7cf53 ∈ lw_tbl := tin3 _ (List.mem_of_getElem? (i := 85) (by decide +kernel))
theorem km_X4_233 : Cond.methodLink RX4 233 yX0_restore ∈ lw_tbl := tin3 _ (List.mem_of_getElem? (i := 86) (by decide +kernel))
theorem km_L_158 : Cond.methodLink RL 158 yL_stateOf ∈ lw_tbl := tin3 _ (List.mem_of_getElem? (i := 87) (by decide +kernel))
theorem km_L_57 : Cond.methodLink RL 57 yX4_stateOf ∈ lw_tbl := tin3 _ (List.mem_of_getElem? (i := 90) (by decide +kernel))
theorem km_L_161 : Cond.methodLink RL 161 yL_dayOf ∈ lw_tbl := tin3 _ (List.mem_of_getElem? (i := 94) (by decide +kernel))
theorem km_L_60 : Cond.methodLink RL 60 yX4_dayOf ∈ lw_tbl := tin3 _ (List.mem_of_getElem? (i := 97) (by decide +kernel))
theorem km_L_164 : Cond.methodLink RL 164 yL_sceneOn ∈ lw_tbl := tin3 _ (List.mem_of_getElem? (i := 101) (by decide +kernel))
theorem km_L_63 : Cond.methodLink RL 63 yX4_sceneOn ∈ lw_tbl := tin3 _ (List.mem_of_getElem? (i := 104) (by decide +kernel))
theorem km_L_171 : Cond.methodLink RL 171 yL_isAllowed ∈ lw_tbl := tin3 _ (List.mem_of_getElem? (i := 108) (by decide +kernel))
theorem km_L_66 : Cond.methodLink RL 66 yX4_isAllowed ∈ lw_tbl := tin3 _ (List.mem_of_getElem? (i := 111) (by decide +kernel))
theorem km_L_174 : Cond.methodLink RL 174 yL_ahead ∈ lw_tbl := tin3 _ (List.mem_of_getElem? (i := 115) (by decide +kernel))
theorem km_L_70 : Cond.methodLink RL 70 yX4_ahead ∈ lw_tbl := tin3 _ (List.mem_of_getElem? (i := 118) (by decide +kernel))
theorem km_L_177 : Cond.methodLink RL 177 yL_copies ∈ lw_tbl := tin3 _ (List.mem_of_getElem? (i := 122) (by decide +kernel))
theorem km_L_73 : Cond.methodLink RL 73 yX4_copies ∈ lw_tbl := tin3 _ (List.mem_of_getElem? (i := 125) (by decide +kernel))
theorem km_L_180 : Cond.methodLink RL 180 yL_growth ∈ lw_tbl := tin3 _ (List.mem_of_getElem? (i := 130) (by decide +kernel))
theorem km_L_76 : Cond.methodLink RL 76 yX4_growth ∈ lw_tbl := tin3 _ (List.mem_of_getElem? (i := 133) (by decide +kernel))
theorem kc_L_80 : Cond.classLink RL 80 "BacklotPlannerModel" ∈ lw_tbl := tin3 _ (List.mem_of_getElem? (i := 137) (by decide +kernel))
theorem kI_X5 : Cond.instantiable RX5 26 ∈ lw_tbl := tin3 _ (List.mem_of_getElem? (i := 138) (by decide +kernel))
theorem km_L_82 : Cond.methodLink RL 82 yX5_init ∈ lw_tbl := tin3 _ (List.mem_of_getElem? (i := 139) (by decide +kernel))
theorem km_X5_1 : Cond.methodLink RX5 1 objectInit ∈ lw_tbl := tin3 _ (List.mem_of_getElem? (i := 142) (by decide +kernel))
theorem kf_X5_85 : Cond.fieldLink RX5 85 RX5 "today" "I" ∈ lw_tbl := tin3 _ (List.mem_of_getElem? (i := 143) (by decide +kernel))
theorem kf_X5_159 : Cond.fieldLink RX5 159 RX5 "spent" "I" ∈ lw_tbl := tin3 _ (List.mem_of_getElem? (i := 144) (by decide +kernel))
theorem kf_X5_9 : Cond.fieldLink RX5 9 RX5 "last" "I" ∈ lw_tbl := tin3 _ (List.mem_of_getElem? (i := 145) (by decide +kernel))
theorem kf_X5_78 : Cond.fieldLink RX5 78 RX5 "scenes" "I" ∈ lw_tbl := tin3 _ (List.mem_of_getElem? (i := 146) (by decide +kernel))
theorem kf_X5_13 : Cond.fieldLink RX5 13 RX5 "set" "[I" ∈ lw_tbl := tin3 _ (List.mem_of_getElem? (i := 147) (by decide +kernel))
theorem kf_X5_17 : Cond.fieldLink RX5 17 RX5 "flames" "[I" ∈ lw_tbl := tin3 _ (List.mem_of_getElem? (i := 148) (by decide +kernel))
theorem kf_X5_20 : Cond.fieldLink RX5 20 RX5 "state" "[I" ∈ lw_tbl := tin3 _ (List.mem_of_getElem? (i := 149) (by decide +kernel))
theorem kf_X5_23 : Cond.fieldLink RX5 23 RX5 "day" "[I" ∈ lw_tbl := tin3 _ (List.mem_of_getElem? (i := 150) (by decide +kernel))
theorem kf_X5_26 : Cond.fieldLink RX5 26 RX5 "beard" "[I" ∈ lw_tbl := tin3 _ (List.mem_of_getElem? (i := 151) (by decide +kernel))
theorem kf_X5_29 : Cond.fieldLink RX5 29 RX5 "from" "[I" ∈ lw_tbl := tin3 _ (List.mem_of_getElem? (i := 152) (by decide +kernel))
theorem kf_X5_32 : Cond.fieldLink RX5 32 RX5 "to" "[I" ∈ lw_tbl := tin3 _ (List.mem_of_getElem? (i := 153) (by decide +kernel))
theorem kf_X5_35 : Cond.fieldLink RX5 35 RX5 "plan" "[I" ∈ lw_tbl := tin3 _ (List.mem_of_getElem? (i := 154) (by decide +kernel))
theorem kf_X5_95 : Cond.fieldLink RX5 95 RX5 "permits" "I" ∈ lw_tbl := tin3 _ (List.mem_of_getElem? (i := 155) (by decide +kernel))
theorem kf_X5_38 : Cond.fieldLink RX5 38 RX5 "where" "[I" ∈ lw_tbl := tin3 _ (List.mem_of_getElem? (i := 156) (by decide +kernel))
theorem kf_X5_41 : Cond.fieldLink RX5 41 RX5 "begin" "[I" ∈ lw_tbl := tin3 _ (List.mem_of_getElem? (i := 157) (by decide +kernel))
theorem kf_X5_44 : Cond.fieldLink RX5 44 RX5 "end" "[I" ∈ lw_tbl := tin3 _ (List.mem_of_getElem? (i := 158) (by decide +kernel))
theorem kf_X5_47 : Cond.fieldLink RX5 47 RX5 "fire" "[I" ∈ lw_tbl := tin3 _ (List.mem_of_getElem? (i := 159) (by decide +kernel))
theorem kf_X5_50 : Cond.fieldLink RX5 50 RX5 "revoked" "[Z" ∈ lw_tbl := tin3 _ (List.mem_of_getElem? (i := 160) (by decide +kernel))
theorem kf_X5_54 : Cond.fieldLink RX5 54 RX5 "away" "[Z" ∈ lw_tbl := tin3 _ (List.mem_of_getElem? (i := 161) (by decide +kernel))
theorem kf_X5_57 : Cond.fieldLink RX5 57 RX5 "growth" "[I" ∈ lw_tbl := tin3 _ (List.mem_of_getElem? (i := 162) (by decide +kernel))
theorem kf_X5_60 : Cond.fieldLink RX5 60 RX5 "copies" "[I" ∈ lw_tbl := tin3 _ (List.mem_of_getElem? (i := 163) (by decide +kernel))
theorem kf_X5_63 : Cond.fieldLink RX5 63 RX5 "grown" "[I" ∈ lw_tbl := tin3 _ (List.mem_of_getElem? (i := 164) (by decide +kernel))
theorem kf_X5_66 : Cond.fieldLink RX5 66 RX5 "has" "[I" ∈ lw_tbl := tin3 _ (List.mem_of_getElem? (i := 165) (by decide +kernel))
theorem kf_X5_69 : Cond.fieldLink RX5 69 RX5 "open" "[I" ∈ lw_tbl := tin3 _ (List.mem_of_getElem? (i := 166) (by decide +kernel))
theorem kf_X5_72 : Cond.fieldLink RX5 72 RX5 "held" "[I" ∈ lw_tbl := tin3 _ (List.mem_of_getElem? (i := 167) (by decide +kernel))
theorem kf_X5_75 : Cond.fieldLink RX5 75 RX5 "thrown" "I" ∈ lw_tbl := tin3 _ (List.mem_of_getElem? (i := 168) (by decide +kernel))
theorem ka_boolean : Cond.arrayClass .boolean ∈ lw_tbl := tin3 _ (List.mem_of_getElem? (i := 222) (by decide +kernel))
theorem km_L_89 : Cond.methodLink RL 89 yX5_thrown ∈ lw_tbl := tin3 _ (List.mem_of_getElem? (i := 223) (by decide +kernel))
theorem km_L_88 : Cond.methodLink RL 88 yX5_scene ∈ lw_tbl := tin3 _ (List.mem_of_getElem? (i := 227) (by decide +kernel))
theorem km_X5_111 : Cond.methodLink RX5 111 yX5_lastPlanned ∈ lw_tbl := tin3 _ (List.mem_of_getElem? (i := 231) (by decide +kernel))
theorem km_X5_81 : Cond.methodLink RX5 81 yX5_in ∈ lw_tbl := tin3 _ (List.mem_of_getElem? (i := 235) (by decide +kernel))
theorem km_X5_115 : Cond.methodLink RX5 115 yX5_goes ∈ lw_tbl := tin3 _ (List.mem_of_getElem? (i := 238) (by decide +kernel))
theorem km_X5_119 : Cond.methodLink RX5 119 yX5_plans ∈ lw_tbl := tin4 _ (List.mem_of_getElem? (i := 2) (by decide +kernel))
theorem km_L_95 : Cond.methodLink RL 95 yX5_plays ∈ lw_tbl := tin4 _ (List.mem_of_getElem? (i := 6) (by decide +kernel))
theorem km_X5_123 : Cond.methodLink RX5 123 yX5_isScene ∈ lw_tbl := tin4 _ (List.mem_of_getElem? (i := 10) (by decide +kernel))
theorem km_X5_127 : Cond.methodLink RX5 127 yX5_isActor ∈ lw_tbl := tin4 _ (List.mem_of_getElem? (i := 14) (by decide +kernel))
theorem km_L_99 : Cond.methodLink RL 99 yX5_uses ∈ lw_tbl := tin4 _ (List.mem_of_getElem? (i := 17) (by decide +kernel))
theorem km_X5_133 : Cond.methodLink RX5 133 yX5_isProp ∈ lw_tbl := tin4 _ (List.mem_of_getElem? (i := 21) (by decide +kernel))
theorem km_X5_136 : Cond.methodLink RX5 136 yX5_ages ∈ lw_tbl := tin4 _ (List.mem_of_getElem? (i := 24) (by decide +kernel))
theorem km_X5_130 : Cond.methodLink RX5 130 yX5_isUsed ∈ lw_tbl := tin4 _ (List.mem_of_getElem? (i := 28) (by decide +kernel))
theorem km_L_103 : Cond.methodLink RL 103 yX5_cut ∈ lw_tbl := tin4 _ (List.mem_of_getElem? (i := 32) (by decide +kernel))
theorem km_L_106 : Cond.methodLink RL 106 yX5_swap ∈ lw_tbl := tin4 _ (List.mem_of_getElem? (i := 36) (by decide +kernel))
theorem km_X5_140 : Cond.methodLink RX5 140 yX5_isAhead ∈ lw_tbl := tin4 _ (List.mem_of_getElem? (i := 40) (by decide +kernel))
theorem km_X5_143 : Cond.methodLink RX5 143 yX5_swaps ∈ lw_tbl := tin4 _ (List.mem_of_getElem? (i := 44) (by decide +kernel))
theorem km_X5_146 : Cond.methodLink RX5 146 yX5_costs ∈ lw_tbl := tin4 _ (List.mem_of_getElem? (i := 48) (by decide +kernel))
theorem km_X5_98 : Cond.methodLink RX5 98 yX5_lays ∈ lw_tbl := tin4 _ (List.mem_of_getElem? (i := 52) (by decide +kernel))
theorem km_X5_101 : Cond.methodLink RX5 101 yX5_serves ∈ lw_tbl := tin4 _ (List.mem_of_getElem? (i := 56) (by decide +kernel))
theorem km_X5_88 : Cond.methodLink RX5 88 yX5_servesActor ∈ lw_tbl := tin4 _ (List.mem_of_getElem? (i := 60) (by decide +kernel))
theorem km_X5_92 : Cond.methodLink RX5 92 yX5_servesProp ∈ lw_tbl := tin4 _ (List.mem_of_getElem? (i := 64) (by decide +kernel))
theorem km_X5_104 : Cond.methodLink RX5 104 yX5_allows ∈ lw_tbl := tin4 _ (List.mem_of_getElem? (i := 68) (by decide +kernel))
theorem km_X5_108 : Cond.methodLink RX5 108 yX5_grows ∈ lw_tbl := tin4 _ (List.mem_of_getElem? (i := 72) (by decide +kernel))
theorem km_L_109 : Cond.methodLink RL 109 yX5_permit ∈ lw_tbl := tin4 _ (List.mem_of_getElem? (i := 76) (by decide +kernel))
theorem km_X5_149 : Cond.methodLink RX5 149 yX5_isDay ∈ lw_tbl := tin4 _ (List.mem_of_getElem? (i := 80) (by decide +kernel))
theorem km_L_112 : Cond.methodLink RL 112 yX5_revoke ∈ lw_tbl := tin4 _ (List.mem_of_getElem? (i := 83) (by decide +kernel))
theorem km_X5_152 : Cond.methodLink RX5 152 yX5_refusals ∈ lw_tbl := tin4 _ (List.mem_of_getElem? (i := 87) (by decide +kernel))
theorem km_L_116 : Cond.methodLink RL 116 yX5_away ∈ lw_tbl := tin4 _ (List.mem_of_getElem? (i := 91) (by decide +kernel))
theorem km_L_119 : Cond.methodLink RL 119 yX5_buy ∈ lw_tbl := tin4 _ (List.mem_of_getElem? (i := 95) (by decide +kernel))
theorem km_X5_155 : Cond.methodLink RX5 155 yX5_allOf ∈ lw_tbl := tin4 _ (List.mem_of_getElem? (i := 99) (by decide +kernel))
theorem km_L_123 : Cond.methodLink RL 123 yX5_clear ∈ lw_tbl := tin4 _ (List.mem_of_getElem? (i := 103) (by decide +kernel))
theorem km_X5_162 : Cond.methodLink RX5 162 yX5_told ∈ lw_tbl := tin4 _ (List.mem_of_getElem? (i := 107) (by decide +kernel))
theorem km_L_126 : Cond.methodLink RL 126 yX5_mishap ∈ lw_tbl := tin4 _ (List.mem_of_getElem? (i := 111) (by decide +kernel))
theorem km_L_130 : Cond.methodLink RL 130 yX5_shoot ∈ lw_tbl := tin4 _ (List.mem_of_getElem? (i := 115) (by decide +kernel))
theorem km_X5_165 : Cond.methodLink RX5 165 yX5_putsOff ∈ lw_tbl := tin4 _ (List.mem_of_getElem? (i := 119) (by decide +kernel))
theorem km_X5_169 : Cond.methodLink RX5 169 yX5_keeps ∈ lw_tbl := tin4 _ (List.mem_of_getElem? (i := 123) (by decide +kernel))
theorem km_L_134 : Cond.methodLink RL 134 yX5_mend ∈ lw_tbl := tin4 _ (List.mem_of_getElem? (i := 127) (by decide +kernel))
theorem km_X5_172 : Cond.methodLink RX5 172 yX5_isRefused ∈ lw_tbl := tin4 _ (List.mem_of_getElem? (i := 131) (by decide +kernel))
theorem km_X5_175 : Cond.methodLink RX5 175 yX5_bestFor ∈ lw_tbl := tin4 _ (List.mem_of_getElem? (i := 135) (by decide +kernel))
theorem km_L_138 : Cond.methodLink RL 138 yX5_better ∈ lw_tbl := tin4 _ (List.mem_of_getElem? (i := 139) (by decide +kernel))
theorem km_X5_178 : Cond.methodLink RX5 178 yX5_bestSwap ∈ lw_tbl := tin4 _ (List.mem_of_getElem? (i := 143) (by decide +kernel))
theorem km_L_141 : Cond.methodLink RL 141 yX5_least ∈ lw_tbl := tin4 _ (List.mem_of_getElem? (i := 147) (by decide +kernel))
theorem km_X5_181 : Cond.methodLink RX5 181 yX5_planned ∈ lw_tbl := tin4 _ (List.mem_of_getElem? (i := 151) (by decide +kernel))
theorem km_X5_184 : Cond.methodLink RX5 184 yX5_orders ∈ lw_tbl := tin4 _ (List.mem_of_getElem? (i := 155) (by decide +kernel))
theorem km_L_145 : Cond.methodLink RL 145 yX5_today ∈ lw_tbl := tin4 _ (List.mem_of_getElem? (i := 159) (by decide +kernel))
theorem km_L_149 : Cond.methodLink RL 149 yX5_spent ∈ lw_tbl := tin4 _ (List.mem_of_getElem? (i := 163) (by decide +kernel))
theorem km_L_153 : Cond.methodLink RL 153 yX5_cost ∈ lw_tbl := tin4 _ (List.mem_of_getElem? (i := 167) (by decide +kernel))
theorem km_L_157 : Cond.methodLink RL 157 yX5_scenes ∈ lw_tbl := tin4 _ (List.mem_of_getElem? (i := 171) (by decide +kernel))
theorem km_L_160 : Cond.methodLink RL 160 yX5_stateOf ∈ lw_tbl := tin4 _ (List.mem_of_getElem? (i := 175) (by decide +kernel))
theorem km_L_163 : Cond.methodLink RL 163 yX5_dayOf ∈ lw_tbl := tin4 _ (List.mem_of_getElem? (i := 179) (by decide +kernel))
theorem km_L_166 : Cond.methodLink RL 166 yX5_sceneOn ∈ lw_tbl := tin4 _ (List.mem_of_getElem? (i := 183) (by decide +kernel))
theorem km_L_170 : Cond.methodLink RL 170 yX5_refused ∈ lw_tbl := tin4 _ (List.mem_of_getElem? (i := 187) (by decide +kernel))
theorem km_L_173 : Cond.methodLink RL 173 yX5_isAllowed ∈ lw_tbl := tin4 _ (List.mem_of_getElem? (i := 191) (by decide +kernel))
theorem km_L_176 : Cond.methodLink RL 176 yX5_ahead ∈ lw_tbl := tin4 _ (List.mem_of_getElem? (i := 195) (by decide +kernel))
theorem km_L_179 : Cond.methodLink RL 179 yX5_copies ∈ lw_tbl := tin4 _ (List.mem_of_getElem? (i := 199) (by decide +kernel))
theorem km_L_182 : Cond.methodLink RL 182 yX5_growth ∈ lw_tbl := tin4 _ (List.mem_of_getElem? (i := 203) (by decide +kernel))
theorem ka_long : Cond.arrayClass .long ∈ lw_tbl := tin4 _ (List.mem_of_getElem? (i := 207) (by decide +kernel))
theorem kini_X0 : Cond.initialized RX0 ∈ lw_tbl := tin1 _ (List.mem_of_getElem? (i := 3) (by decide +kernel))
theorem kini_X1 : Cond.initialized RX1 ∈ lw_tbl := tin1 _ (List.mem_of_getElem? (i := 15) (by decide +kernel))
theorem kini_X2 : Cond.initialized RX2 ∈ lw_tbl := tin1 _ (List.mem_of_getElem? (i := 10) (by decide +kernel))
theorem kini_X3 : Cond.initialized RX3 ∈ lw_tbl := tin1 _ (List.mem_of_getElem? (i := 2) (by decide +kernel))
theorem kini_X4 : Cond.initialized RX4 ∈ lw_tbl := tin1 _ (List.mem_of_getElem? (i := 1) (by decide +kernel))
theorem kini_X5 : Cond.initialized RX5 ∈ lw_tbl := tin1 _ (List.mem_of_getElem? (i := 4) (by decide +kernel))
theorem kini_L : Cond.initialized RL ∈ lw_tbl := tin1 _ (List.mem_of_getElem? (i := 0) (by decide +kernel))
theorem kini_J7 : Cond.initialized RJ7 ∈ lw_tbl := tin1 _ (List.mem_of_getElem? (i := 11) (by decide +kernel))
theorem kini_IllegalArgumentException : Cond.initialized "java/lang/IllegalArgumentException" ∈ lw_tbl := tin1 _ (List.mem_of_getElem? (i := 8) (by decide +kernel))
theorem kini_IllegalStateException : Cond.initialized "java/lang/IllegalStateException" ∈ lw_tbl := tin1 _ (List.mem_of_getElem? (i := 9) (by decide +kernel))
theorem kini_IndexOutOfBoundsException : Cond.initialized "java/lang/IndexOutOfBoundsException" ∈ lw_tbl := tin1 _ (List.mem_of_getElem? (i := 12) (by decide +kernel))
theorem kini_Math : Cond.initialized "java/lang/Math" ∈ lw_tbl := tin1 _ (List.mem_of_getElem? (i := 14) (by decide +kernel))
theorem kini_System : Cond.initialized "java/lang/System" ∈ lw_tbl := tin1 _ (List.mem_of_getElem? (i := 13) (by decide +kernel))
theorem zc_X0_init : Cond.code yX0_init cX0_init 1 none ∈ lw_tbl := tin1 _ (List.mem_of_getElem? (i := 53) rfl)
theorem zi_X0_init : Cond.instanceMethod yX0_init ∈ lw_tbl := tin1 _ (List.mem_of_getElem? (i := 52) (by decide +kernel))
theorem zy_X0_note : zYV yX0_note RX0 cX0_note 3 none 1 := ⟨tin3 _ (List.mem_of_getElem? (i := 66) (by decide +kernel)), tin3 _ (List.mem_of_getElem? (i := 67) (by decide +kernel)), kini_X0, tin3 _ (List.mem_of_getElem? (i := 68) rfl), rfl, by decide +kernel, by decide +kernel⟩
theorem zy_X0_countOrders : zYV yX0_countOrders RX0 cX0_countOrders 3 (some FieldType.int) 0 := ⟨tin3 _ (List.mem_of_getElem? (i := 71) (by decide +kernel)), tin3 _ (List.mem_of_getElem? (i := 72) (by decide +kernel)), kini_X0, tin3 _ (List.mem_of_getElem? (i := 73) rfl), rfl, by decide +kernel, by decide +kernel⟩
theorem zy_X0_restore : zYV yX0_restore RX0 cX0_restore 3 none 1 := ⟨tin3 _ (List.mem_of_getElem? (i := 79) (by decide +kernel)), tin3 _ (List.mem_of_getElem? (i := 80) (by decide +kernel)), kini_X0, tin3 _ (List.mem_of_getElem? (i := 81) rfl), rfl, by decide +kernel, by decide +kernel⟩
theorem zy_X0_lay : zYV yX0_lay RX0 cX0_lay 5 none 2 := ⟨tin3 _ (List.mem_of_getElem? (i := 75) (by decide +kernel)), tin3 _ (List.mem_of_getElem? (i := 76) (by decide +kernel)), kini_X0, tin3 _ (List.mem_of_getElem? (i := 77) rfl), rfl, by decide +kernel, by decide +kernel⟩
theorem zc_X1_init : Cond.code yX1_init cX1_init 5 none ∈ lw_tbl := tin2 _ (List.mem_of_getElem? (i := 222) rfl)
theorem zi_X1_init : Cond.instanceMethod yX1_init ∈ lw_tbl := tin2 _ (List.mem_of_getElem? (i := 221) (by decide +kernel))
theorem zy_X1_covers : zYV yX1_covers RX1 cX1_covers 3 (some FieldType.boolean) 2 := ⟨tin1 _ (List.mem_of_getElem? (i := 126) (by decide +kernel)), tin1 _ (List.mem_of_getElem? (i := 127) (by decide +kernel)), kini_X1, tin1 _ (List.mem_of_getElem? (i := 128) rfl), rfl, by decide +kernel, by decide +kernel⟩
theorem zc_X2_init : Cond.code yX2_init cX2_init 4 none ∈ lw_tbl := tin2 _ (List.mem_of_getElem? (i := 79) rfl)
theorem zi_X2_init : Cond.instanceMethod yX2_init ∈ lw_tbl := tin2 _ (List.mem_of_getElem? (i := 78) (by decide +kernel))
theorem zy_X2_countActors : zYV yX2_countActors RX2 cX2_countActors 6 (some FieldType.int) 0 := ⟨tin2 _ (List.mem_of_getElem? (i := 160) (by decide +kernel)), tin2 _ (List.mem_of_getElem? (i := 161) (by decide +kernel)), kini_X2, tin2 _ (List.mem_of_getElem? (i := 162) rfl), rfl, by decide +kernel, by decide +kernel⟩
theorem zy_X2_countProps : zYV yX2_countProps RX2 cX2_countProps 6 (some FieldType.int) 0 := ⟨tin2 _ (List.mem_of_getElem? (i := 185) (by decide +kernel)), tin2 _ (List.mem_of_getElem? (i := 186) (by decide +kernel)), kini_X2, tin2 _ (List.mem_of_getElem? (i := 187) rfl), rfl, by decide +kernel, by decide +kernel⟩
theorem zy_X2_ages : zYV yX2_ages RX2 cX2_ages 2 (some FieldType.boolean) 1 := ⟨tin2 _ (List.mem_of_getElem? (i := 180) (by decide +kernel)), tin2 _ (List.mem_of_getElem? (i := 181) (by decide +kernel)), kini_X2, tin2 _ (List.mem_of_getElem? (i := 182) rfl), rfl, by decide +kernel, by decide +kernel⟩
theorem zc_X3_init : Cond.code yX3_init cX3_init 1 none ∈ lw_tbl := tin1 _ (List.mem_of_getElem? (i := 32) rfl)
theorem zi_X3_init : Cond.instanceMethod yX3_init ∈ lw_tbl := tin1 _ (List.mem_of_getElem? (i := 31) (by decide +kernel))
theorem zy_X3_copy : zYV yX3_copy RX3 cX3_copy 3 none 1 := ⟨tin1 _ (List.mem_of_getElem? (i := 161) (by decide +kernel)), tin1 _ (List.mem_of_getElem? (i := 162) (by decide +kernel)), kini_X3, tin1 _ (List.mem_of_getElem? (i := 163) rfl), rfl, by decide +kernel, by decide +kernel⟩
theorem zy_X3_countCopies : zYV yX3_countCopies RX3 cX3_countCopies 4 (some FieldType.int) 1 := ⟨tin3 _ (List.mem_of_getElem? (i := 33) (by decide +kernel)), tin3 _ (List.mem_of_getElem? (i := 34) (by decide +kernel)), kini_X3, tin3 _ (List.mem_of_getElem? (i := 35) rfl), rfl, by decide +kernel, by decide +kernel⟩
theorem zy_X3_growBeards : zYV yX3_growBeards RX3 cX3_growBeards 3 none 1 := ⟨tin1 _ (List.mem_of_getElem? (i := 168) (by decide +kernel)), tin1 _ (List.mem_of_getElem? (i := 169) (by decide +kernel)), kini_X3, tin1 _ (List.mem_of_getElem? (i := 170) rfl), rfl, by decide +kernel, by decide +kernel⟩
theorem zy_X3_film : zYV yX3_film RX3 cX3_film 4 (some FieldType.int) 1 := ⟨tin1 _ (List.mem_of_getElem? (i := 175) (by decide +kernel)), tin1 _ (List.mem_of_getElem? (i := 176) (by decide +kernel)), kini_X3, tin1 _ (List.mem_of_getElem? (i := 177) rfl), rfl, by decide +kernel, by decide +kernel⟩
theorem zy_X3_dress : zYV yX3_dress RX3 cX3_dress 3 (some FieldType.int) 2 := ⟨tin1 _ (List.mem_of_getElem? (i := 180) (by decide +kernel)), tin0 _ (List.mem_of_getElem? (i := 11) (by decide +kernel)), kini_X3, tin1 _ (List.mem_of_getElem? (i := 181) rfl), rfl, by decide +kernel, by decide +kernel⟩
theorem zy_X3_serve : zYV yX3_serve RX3 cX3_serve 7 (some FieldType.int) 3 := ⟨tin1 _ (List.mem_of_getElem? (i := 184) (by decide +kernel)), tin0 _ (List.mem_of_getElem? (i := 12) (by decide +kernel)), kini_X3, tin1 _ (List.mem_of_getElem? (i := 185) rfl), rfl, by decide +kernel, by decide +kernel⟩
theorem zc_X4_init : Cond.code yX4_init cX4_init 1 none ∈ lw_tbl := tin1 _ (List.mem_of_getElem? (i := 20) rfl)
theorem zi_X4_init : Cond.instanceMethod yX4_init ∈ lw_tbl := tin1 _ (List.mem_of_getElem? (i := 19) (by decide +kernel))
theorem zy_X4_scene : zYV yX4_scene RX4 cX4_scene 5 (some FieldType.int) 2 := ⟨tin1 _ (List.mem_of_getElem? (i := 225) (by decide +kernel)), tin1 _ (List.mem_of_getElem? (i := 226) (by decide +kernel)), kini_X4, tin1 _ (List.mem_of_getElem? (i := 227) rfl), rfl, by decide +kernel, by decide +kernel⟩
theorem zy_X4_plays : zYV yX4_plays RX4 cX4_plays 5 (some FieldType.int) 3 := ⟨tin2 _ (List.mem_of_getElem? (i := 127) (by decide +kernel)), tin2 _ (List.mem_of_getElem? (i := 128) (by decide +kernel)), kini_X4, tin2 _ (List.mem_of_getElem? (i := 129) rfl), rfl, by decide +kernel, by decide +kernel⟩
theorem zy_X4_uses : zYV yX4_uses RX4 cX4_uses 6 (some FieldType.int) 4 := ⟨tin2 _ (List.mem_of_getElem? (i := 167) (by decide +kernel)), tin2 _ (List.mem_of_getElem? (i := 168) (by decide +kernel)), kini_X4, tin2 _ (List.mem_of_getElem? (i := 169) rfl), rfl, by decide +kernel, by decide +kernel⟩
theorem zy_X4_cut : zYV yX4_cut RX4 cX4_cut 4 (some FieldType.int) 1 := ⟨tin2 _ (List.mem_of_getElem? (i := 192) (by decide +kernel)), tin2 _ (List.mem_of_getElem? (i := 193) (by decide +kernel)), kini_X4, tin2 _ (List.mem_of_getElem? (i := 194) rfl), rfl, by decide +kernel, by decide +kernel⟩
theorem zy_X4_swap : zYV yX4_swap RX4 cX4_swap 3 (some FieldType.int) 2 := ⟨tin2 _ (List.mem_of_getElem? (i := 206) (by decide +kernel)), tin2 _ (List.mem_of_getElem? (i := 207) (by decide +kernel)), kini_X4, tin2 _ (List.mem_of_getElem? (i := 208) rfl), rfl, by decide +kernel, by decide +kernel⟩
theorem zy_X4_permit : zYV yX4_permit RX4 cX4_permit 6 (some FieldType.int) 4 := ⟨tin2 _ (List.mem_of_getElem? (i := 214) (by decide +kernel)), tin2 _ (List.mem_of_getElem? (i := 215) (by decide +kernel)), kini_X4, tin2 _ (List.mem_of_getElem? (i := 216) rfl), rfl, by decide +kernel, by decide +kernel⟩
theorem zy_X4_revoke : zYV yX4_revoke RX4 cX4_revoke 4 (some FieldType.int) 1 := ⟨tin3 _ (List.mem_of_getElem? (i := 5) (by decide +kernel)), tin3 _ (List.mem_of_getElem? (i := 6) (by decide +kernel)), kini_X4, tin3 _ (List.mem_of_getElem? (i := 7) rfl), rfl, by decide +kernel, by decide +kernel⟩
theorem zy_X4_away : zYV yX4_away RX4 cX4_away 5 (some FieldType.boolean) 3 := ⟨tin3 _ (List.mem_of_getElem? (i := 18) (by decide +kernel)), tin3 _ (List.mem_of_getElem? (i := 19) (by decide +kernel)), kini_X4, tin3 _ (List.mem_of_getElem? (i := 20) rfl), rfl, by decide +kernel, by decide +kernel⟩
theorem zy_X4_buy : zYV yX4_buy RX4 cX4_buy 3 (some FieldType.int) 1 := ⟨tin3 _ (List.mem_of_getElem? (i := 29) (by decide +kernel)), tin3 _ (List.mem_of_getElem? (i := 30) (by decide +kernel)), kini_X4, tin3 _ (List.mem_of_getElem? (i := 31) rfl), rfl, by decide +kernel, by decide +kernel⟩
theorem zy_X4_clear : zYV yX4_clear RX4 cX4_clear 3 (some FieldType.int) 0 := ⟨tin1 _ (List.mem_of_getElem? (i := 102) (by decide +kernel)), tin1 _ (List.mem_of_getElem? (i := 103) (by decide +kernel)), kini_X4, tin1 _ (List.mem_of_getElem? (i := 104) rfl), rfl, by decide +kernel, by decide +kernel⟩
theorem zy_X4_mishap : zYV yX4_mishap RX4 cX4_mishap 4 (some FieldType.int) 2 := ⟨tin3 _ (List.mem_of_getElem? (i := 41) (by decide +kernel)), tin3 _ (List.mem_of_getElem? (i := 42) (by decide +kernel)), kini_X4, tin3 _ (List.mem_of_getElem? (i := 43) rfl), rfl, by decide +kernel, by decide +kernel⟩
theorem zy_X4_shoot : zYV yX4_shoot RX4 cX4_shoot 3 (some FieldType.int) 0 := ⟨tin3 _ (List.mem_of_getElem? (i := 50) (by decide +kernel)), tin3 _ (List.mem_of_getElem? (i := 51) (by decide +kernel)), kini_X4, tin3 _ (List.mem_of_getElem? (i := 52) rfl), rfl, by decide +kernel, by decide +kernel⟩
theorem zy_X4_mend : zYV yX4_mend RX4 cX4_mend 4 (some FieldType.int) 0 := ⟨tin1 _ (List.mem_of_getElem? (i := 106) (by decide +kernel)), tin1 _ (List.mem_of_getElem? (i := 107) (by decide +kernel)), kini_X4, tin1 _ (List.mem_of_getElem? (i := 108) rfl), rfl, by decide +kernel, by decide +kernel⟩
theorem zy_X4_better : zYV yX4_better RX4 cX4_better 2 (some FieldType.int) 0 := ⟨tin1 _ (List.mem_of_getElem? (i := 187) (by decide +kernel)), tin1 _ (List.mem_of_getElem? (i := 188) (by decide +kernel)), kini_X4, tin1 _ (List.mem_of_getElem? (i := 189) rfl), rfl, by decide +kernel, by decide +kernel⟩
theorem zy_X4_least : zYV yX4_least RX4 cX4_least 4 (some FieldType.int) 0 := ⟨tin3 _ (List.mem_of_getElem? (i := 62) (by decide +kernel)), tin3 _ (List.mem_of_getElem? (i := 63) (by decide +kernel)), kini_X4, tin3 _ (List.mem_of_getElem? (i := 64) rfl), rfl, by decide +kernel, by decide +kernel⟩
theorem zy_X4_today : zYV yX4_today RX4 cX4_today 1 (some FieldType.int) 0 := ⟨tin1 _ (List.mem_of_getElem? (i := 196) (by decide +kernel)), tin1 _ (List.mem_of_getElem? (i := 197) (by decide +kernel)), kini_X4, tin1 _ (List.mem_of_getElem? (i := 198) rfl), rfl, by decide +kernel, by decide +kernel⟩
theorem zy_X4_spent : zYV yX4_spent RX4 cX4_spent 1 (some FieldType.int) 0 := ⟨tin1 _ (List.mem_of_getElem? (i := 200) (by decide +kernel)), tin1 _ (List.mem_of_getElem? (i := 201) (by decide +kernel)), kini_X4, tin1 _ (List.mem_of_getElem? (i := 202) rfl), rfl, by decide +kernel, by decide +kernel⟩
theorem zy_X4_cost : zYV yX4_cost RX4 cX4_cost 1 (some FieldType.int) 0 := ⟨tin1 _ (List.mem_of_getElem? (i := 204) (by decide +kernel)), tin1 _ (List.mem_of_getElem? (i := 205) (by decide +kernel)), kini_X4, tin1 _ (List.mem_of_getElem? (i := 206) rfl), rfl, by decide +kernel, by decide +kernel⟩
theorem zy_X4_scenes : zYV yX4_scenes RX4 cX4_scenes 1 (some FieldType.int) 0 := ⟨tin1 _ (List.mem_of_getElem? (i := 208) (by decide +kernel)), tin1 _ (List.mem_of_getElem? (i := 209) (by decide +kernel)), kini_X4, tin1 _ (List.mem_of_getElem? (i := 210) rfl), rfl, by decide +kernel, by decide +kernel⟩
theorem zy_X4_stateOf : zYV yX4_stateOf RX4 cX4_stateOf 2 (some FieldType.int) 1 := ⟨tin3 _ (List.mem_of_getElem? (i := 91) (by decide +kernel)), tin3 _ (List.mem_of_getElem? (i := 92) (by decide +kernel)), kini_X4, tin3 _ (List.mem_of_getElem? (i := 93) rfl), rfl, by decide +kernel, by decide +kernel⟩
theorem zy_X4_dayOf : zYV yX4_dayOf RX4 cX4_dayOf 3 (some FieldType.int) 1 := ⟨tin3 _ (List.mem_of_getElem? (i := 98) (by decide +kernel)), tin3 _ (List.mem_of_getElem? (i := 99) (by decide +kernel)), kini_X4, tin3 _ (List.mem_of_getElem? (i := 100) rfl), rfl, by decide +kernel, by decide +kernel⟩
theorem zy_X4_sceneOn : zYV yX4_sceneOn RX4 cX4_sceneOn 3 (some FieldType.int) 1 := ⟨tin3 _ (List.mem_of_getElem? (i := 105) (by decide +kernel)), tin3 _ (List.mem_of_getElem? (i := 106) (by decide +kernel)), kini_X4, tin3 _ (List.mem_of_getElem? (i := 107) rfl), rfl, by decide +kernel, by decide +kernel⟩
theorem zy_X4_refused : zYV yX4_refused RX4 cX4_refused 1 (some FieldType.int) 0 := ⟨tin1 _ (List.mem_of_getElem? (i := 212) (by decide +kernel)), tin1 _ (List.mem_of_getElem? (i := 213) (by decide +kernel)), kini_X4, tin1 _ (List.mem_of_getElem? (i := 214) rfl), rfl, by decide +kernel, by decide +kernel⟩
theorem zy_X4_isAllowed : zYV yX4_isAllowed RX4 cX4_isAllowed 4 (some FieldType.boolean) 2 := ⟨tin3 _ (List.mem_of_getElem? (i := 112) (by decide +kernel)), tin3 _ (List.mem_of_getElem? (i := 113) (by decide +kernel)), kini_X4, tin3 _ (List.mem_of_getElem? (i := 114) rfl), rfl, by decide +kernel, by decide +kernel⟩
theorem zy_X4_ahead : zYV yX4_ahead RX4 cX4_ahead 8 (some FieldType.int) 2 := ⟨tin3 _ (List.mem_of_getElem? (i := 119) (by decide +kernel)), tin3 _ (List.mem_of_getElem? (i := 120) (by decide +kernel)), kini_X4, tin3 _ (List.mem_of_getElem? (i := 121) rfl), rfl, by decide +kernel, by decide +kernel⟩
theorem zy_X4_copies : zYV yX4_copies RX4 cX4_copies 3 (some FieldType.int) 2 := ⟨tin3 _ (List.mem_of_getElem? (i := 126) (by decide +kernel)), tin3 _ (List.mem_of_getElem? (i := 127) (by decide +kernel)), kini_X4, tin3 _ (List.mem_of_getElem? (i := 128) rfl), rfl, by decide +kernel, by decide +kernel⟩
theorem zy_X4_growth : zYV yX4_growth RX4 cX4_growth 2 (some FieldType.int) 1 := ⟨tin3 _ (List.mem_of_getElem? (i := 134) (by decide +kernel)), tin3 _ (List.mem_of_getElem? (i := 135) (by decide +kernel)), kini_X4, tin3 _ (List.mem_of_getElem? (i := 136) rfl), rfl, by decide +kernel, by decide +kernel⟩
theorem zy_X4_sceneNumbered : zYV yX4_sceneNumbered RX4 cX4_sceneNumbered 2 (some (FieldType.object "BacklotPlanner$Scene")) 1 := ⟨tin2 _ (List.mem_of_getElem? (i := 132) (by decide +kernel)), tin0 _ (List.mem_of_getElem? (i := 17) (by decide +kernel)), kini_X4, tin2 _ (List.mem_of_getElem? (i := 133) rfl), rfl, by decide +kernel, by decide +kernel⟩
theorem zy_X4_permitNumbered : zYV yX4_permitNumbered RX4 cX4_permitNumbered 2 (some (FieldType.object "BacklotPlanner$Permit")) 1 := ⟨tin3 _ (List.mem_of_getElem? (i := 10) (by decide +kernel)), tin0 _ (List.mem_of_getElem? (i := 20) (by decide +kernel)), kini_X4, tin3 _ (List.mem_of_getElem? (i := 11) rfl), rfl, by decide +kernel, by decide +kernel⟩
theorem zy_X4_requireActor : zYS yX4_requireActor cX4_requireActor 1 none 1 := ⟨tin2 _ (List.mem_of_getElem? (i := 151) (by decide +kernel)), kini_X4, tin2 _ (List.mem_of_getElem? (i := 152) rfl), by decide +kernel, by decide +kernel⟩
theorem zy_X4_requireProp : zYS yX4_requireProp cX4_requireProp 1 none 1 := ⟨tin2 _ (List.mem_of_getElem? (i := 171) (by decide +kernel)), kini_X4, tin2 _ (List.mem_of_getElem? (i := 172) rfl), by decide +kernel, by decide +kernel⟩
theorem zy_X4_requireDay : zYS yX4_requireDay cX4_requireDay 1 none 1 := ⟨tin3 _ (List.mem_of_getElem? (i := 22) (by decide +kernel)), kini_X4, tin3 _ (List.mem_of_getElem? (i := 23) rfl), by decide +kernel, by decide +kernel⟩
theorem zy_X4_requirePlanned : zYS yX4_requirePlanned cX4_requirePlanned 1 none 1 := ⟨tin2 _ (List.mem_of_getElem? (i := 156) (by decide +kernel)), kini_X4, tin2 _ (List.mem_of_getElem? (i := 157) rfl), by decide +kernel, by decide +kernel⟩
theorem zy_X4_agesForwards : zYV yX4_agesForwards RX4 cX4_agesForwards 9 (some FieldType.boolean) 4 := ⟨tin2 _ (List.mem_of_getElem? (i := 177) (by decide +kernel)), tin0 _ (List.mem_of_getElem? (i := 18) (by decide +kernel)), kini_X4, tin2 _ (List.mem_of_getElem? (i := 178) rfl), rfl, by decide +kernel, by decide +kernel⟩
theorem zy_X4_dayBehindPlan : zYV yX4_dayBehindPlan RX4 cX4_dayBehindPlan 3 (some FieldType.int) 0 := ⟨tin2 _ (List.mem_of_getElem? (i := 58) (by decide +kernel)), tin0 _ (List.mem_of_getElem? (i := 16) (by decide +kernel)), kini_X4, tin2 _ (List.mem_of_getElem? (i := 59) rfl), rfl, by decide +kernel, by decide +kernel⟩
theorem zy_X4_plannedDay : zYV yX4_plannedDay RX4 cX4_plannedDay 3 (some FieldType.int) 1 := ⟨tin2 _ (List.mem_of_getElem? (i := 197) (by decide +kernel)), tin0 _ (List.mem_of_getElem? (i := 19) (by decide +kernel)), kini_X4, tin2 _ (List.mem_of_getElem? (i := 198) rfl), rfl, by decide +kernel, by decide +kernel⟩
theorem zy_X4_putOff : zYV yX4_putOff RX4 cX4_putOff 3 none 1 := ⟨tin3 _ (List.mem_of_getElem? (i := 56) (by decide +kernel)), tin0 _ (List.mem_of_getElem? (i := 21) (by decide +kernel)), kini_X4, tin3 _ (List.mem_of_getElem? (i := 57) rfl), rfl, by decide +kernel, by decide +kernel⟩
theorem zy_X4_swapDays : zYV yX4_swapDays RX4 cX4_swapDays 3 none 2 := ⟨tin1 _ (List.mem_of_getElem? (i := 151) (by decide +kernel)), tin0 _ (List.mem_of_getElem? (i := 9) (by decide +kernel)), kini_X4, tin1 _ (List.mem_of_getElem? (i := 152) rfl), rfl, by decide +kernel, by decide +kernel⟩
theorem zy_X4_put : zYS yX4_put cX4_put 3 none 3 := ⟨tin2 _ (List.mem_of_getElem? (i := 200) (by decide +kernel)), kini_X4, tin2 _ (List.mem_of_getElem? (i := 201) rfl), by decide +kernel, by decide +kernel⟩
theorem zy_X4_exchange : zYS yX4_exchange cX4_exchange 4 none 3 := ⟨tin1 _ (List.mem_of_getElem? (i := 154) (by decide +kernel)), kini_X4, tin1 _ (List.mem_of_getElem? (i := 155) rfl), by decide +kernel, by decide +kernel⟩
theorem zy_X4_planCost : zYV yX4_planCost RX4 cX4_planCost 5 (some FieldType.int) 0 := ⟨tin1 _ (List.mem_of_getElem? (i := 158) (by decide +kernel)), tin0 _ (List.mem_of_getElem? (i := 10) (by decide +kernel)), kini_X4, tin1 _ (List.mem_of_getElem? (i := 159) rfl), rfl, by decide +kernel, by decide +kernel⟩
theorem zy_X4_costAfterSwap : zYV yX4_costAfterSwap RX4 cX4_costAfterSwap 4 (some FieldType.int) 2 := ⟨tin1 _ (List.mem_of_getElem? (i := 147) (by decide +kernel)), tin0 _ (List.mem_of_getElem? (i := 8) (by decide +kernel)), kini_X4, tin1 _ (List.mem_of_getElem? (i := 148) rfl), rfl, by decide +kernel, by decide +kernel⟩
theorem zy_X4_mendingDay : zYV yX4_mendingDay RX4 cX4_mendingDay 6 (some FieldType.int) 1 := ⟨tin1 _ (List.mem_of_getElem? (i := 139) (by decide +kernel)), tin0 _ (List.mem_of_getElem? (i := 6) (by decide +kernel)), kini_X4, tin1 _ (List.mem_of_getElem? (i := 140) rfl), rfl, by decide +kernel, by decide +kernel⟩
theorem zy_X4_wouldMend : zYV yX4_wouldMend RX4 cX4_wouldMend 3 (some FieldType.boolean) 2 := ⟨tin1 _ (List.mem_of_getElem? (i := 143) (by decide +kernel)), tin0 _ (List.mem_of_getElem? (i := 7) (by decide +kernel)), kini_X4, tin1 _ (List.mem_of_getElem? (i := 144) rfl), rfl, by decide +kernel, by decide +kernel⟩
theorem zy_X4_isFree : zYV yX4_isFree RX4 cX4_isFree 3 (some FieldType.boolean) 2 := ⟨tin1 _ (List.mem_of_getElem? (i := 115) (by decide +kernel)), tin0 _ (List.mem_of_getElem? (i := 1) (by decide +kernel)), kini_X4, tin1 _ (List.mem_of_getElem? (i := 116) rfl), rfl, by decide +kernel, by decide +kernel⟩
theorem zy_X4_makeBestSwap : zYV yX4_makeBestSwap RX4 cX4_makeBestSwap 7 (some FieldType.boolean) 0 := ⟨tin1 _ (List.mem_of_getElem? (i := 193) (by decide +kernel)), tin0 _ (List.mem_of_getElem? (i := 13) (by decide +kernel)), kini_X4, tin1 _ (List.mem_of_getElem? (i := 194) rfl), rfl, by decide +kernel, by decide +kernel⟩
theorem zy_X4_countRefused : zYV yX4_countRefused RX4 cX4_countRefused 3 (some FieldType.int) 0 := ⟨tin1 _ (List.mem_of_getElem? (i := 217) (by decide +kernel)), tin0 _ (List.mem_of_getElem? (i := 14) (by decide +kernel)), kini_X4, tin1 _ (List.mem_of_getElem? (i := 218) rfl), rfl, by decide +kernel, by decide +kernel⟩
theorem zy_X4_isRefusedOn : zYV yX4_isRefusedOn RX4 cX4_isRefusedOn 2 (some FieldType.boolean) 1 := ⟨tin1 _ (List.mem_of_getElem? (i := 111) (by decide +kernel)), tin0 _ (List.mem_of_getElem? (i := 0) (by decide +kernel)), kini_X4, tin1 _ (List.mem_of_getElem? (i := 112) rfl), rfl, by decide +kernel, by decide +kernel⟩
theorem zy_X4_allows : zYV yX4_allows RX4 cX4_allows 3 (some FieldType.boolean) 2 := ⟨tin1 _ (List.mem_of_getElem? (i := 119) (by decide +kernel)), tin0 _ (List.mem_of_getElem? (i := 2) (by decide +kernel)), kini_X4, tin1 _ (List.mem_of_getElem? (i := 120) rfl), rfl, by decide +kernel, by decide +kernel⟩
theorem zy_X4_isPermitted : zYV yX4_isPermitted RX4 cX4_isPermitted 7 (some FieldType.boolean) 2 := ⟨tin1 _ (List.mem_of_getElem? (i := 123) (by decide +kernel)), tin0 _ (List.mem_of_getElem? (i := 3) (by decide +kernel)), kini_X4, tin1 _ (List.mem_of_getElem? (i := 124) rfl), rfl, by decide +kernel, by decide +kernel⟩
theorem zy_X4_isCastThere : zYV yX4_isCastThere RX4 cX4_isCastThere 4 (some FieldType.boolean) 2 := ⟨tin1 _ (List.mem_of_getElem? (i := 131) (by decide +kernel)), tin0 _ (List.mem_of_getElem? (i := 4) (by decide +kernel)), kini_X4, tin1 _ (List.mem_of_getElem? (i := 132) rfl), rfl, by decide +kernel, by decide +kernel⟩
theorem zy_X4_isAwayOn : zYV yX4_isAwayOn RX4 cX4_isAwayOn 3 (some FieldType.boolean) 2 := ⟨tin1 _ (List.mem_of_getElem? (i := 135) (by decide +kernel)), tin0 _ (List.mem_of_getElem? (i := 5) (by decide +kernel)), kini_X4, tin1 _ (List.mem_of_getElem? (i := 136) rfl), rfl, by decide +kernel, by decide +kernel⟩
theorem zc_X5_init : Cond.code yX5_init cX5_init 2 none ∈ lw_tbl := tin3 _ (List.mem_of_getElem? (i := 141) rfl)
theorem zi_X5_init : Cond.instanceMethod yX5_init ∈ lw_tbl := tin3 _ (List.mem_of_getElem? (i := 140) (by decide +kernel))
theorem zy_X5_thrown : zYV yX5_thrown RX5 cX5_thrown 1 (some FieldType.int) 0 := ⟨tin3 _ (List.mem_of_getElem? (i := 224) (by decide +kernel)), tin3 _ (List.mem_of_getElem? (i := 225) (by decide +kernel)), kini_X5, tin3 _ (List.mem_of_getElem? (i := 226) rfl), rfl, by decide +kernel, by decide +kernel⟩
theorem zy_X5_in : zYS yX5_in cX5_in 3 (some FieldType.boolean) 3 := ⟨tin3 _ (List.mem_of_getElem? (i := 236) (by decide +kernel)), kini_X5, tin3 _ (List.mem_of_getElem? (i := 237) rfl), by decide +kernel, by decide +kernel⟩
theorem zy_X5_goes : zYV yX5_goes RX5 cX5_goes 4 (some FieldType.boolean) 3 := ⟨tin4 _ (List.mem_of_getElem? (i := 0) (by decide +kernel)), tin0 _ (List.mem_of_getElem? (i := 23) (by decide +kernel)), kini_X5, tin4 _ (List.mem_of_getElem? (i := 1) rfl), rfl, by decide +kernel, by decide +kernel⟩
theorem zy_X5_told : zYV yX5_told RX5 cX5_told 2 (some FieldType.int) 1 := ⟨tin4 _ (List.mem_of_getElem? (i := 109) (by decide +kernel)), tin0 _ (List.mem_of_getElem? (i := 39) (by decide +kernel)), kini_X5, tin4 _ (List.mem_of_getElem? (i := 110) rfl), rfl, by decide +kernel, by decide +kernel⟩
theorem zy_X5_isScene : zYV yX5_isScene RX5 cX5_isScene 2 (some FieldType.boolean) 1 := ⟨tin4 _ (List.mem_of_getElem? (i := 12) (by decide +kernel)), tin0 _ (List.mem_of_getElem? (i := 25) (by decide +kernel)), kini_X5, tin4 _ (List.mem_of_getElem? (i := 13) rfl), rfl, by decide +kernel, by decide +kernel⟩
theorem zy_X5_isActor : zYS yX5_isActor cX5_isActor 1 (some FieldType.boolean) 1 := ⟨tin4 _ (List.mem_of_getElem? (i := 15) (by decide +kernel)), kini_X5, tin4 _ (List.mem_of_getElem? (i := 16) rfl), by decide +kernel, by decide +kernel⟩
theorem zy_X5_isProp : zYS yX5_isProp cX5_isProp 1 (some FieldType.boolean) 1 := ⟨tin4 _ (List.mem_of_getElem? (i := 22) (by decide +kernel)), kini_X5, tin4 _ (List.mem_of_getElem? (i := 23) rfl), by decide +kernel, by decide +kernel⟩
theorem zy_X5_isDay : zYS yX5_isDay cX5_isDay 1 (some FieldType.boolean) 1 := ⟨tin4 _ (List.mem_of_getElem? (i := 81) (by decide +kernel)), kini_X5, tin4 _ (List.mem_of_getElem? (i := 82) rfl), by decide +kernel, by decide +kernel⟩
theorem zy_X5_isAhead : zYV yX5_isAhead RX5 cX5_isAhead 2 (some FieldType.boolean) 1 := ⟨tin4 _ (List.mem_of_getElem? (i := 42) (by decide +kernel)), tin0 _ (List.mem_of_getElem? (i := 28) (by decide +kernel)), kini_X5, tin4 _ (List.mem_of_getElem? (i := 43) rfl), rfl, by decide +kernel, by decide +kernel⟩
theorem zy_X5_lays : zYV yX5_lays RX5 cX5_lays 2 none 0 := ⟨tin4 _ (List.mem_of_getElem? (i := 54) (by decide +kernel)), tin0 _ (List.mem_of_getElem? (i := 31) (by decide +kernel)), kini_X5, tin4 _ (List.mem_of_getElem? (i := 55) rfl), rfl, by decide +kernel, by decide +kernel⟩
theorem zy_X5_keeps : zYV yX5_keeps RX5 cX5_keeps 2 none 0 := ⟨tin4 _ (List.mem_of_getElem? (i := 125) (by decide +kernel)), tin0 _ (List.mem_of_getElem? (i := 41) (by decide +kernel)), kini_X5, tin4 _ (List.mem_of_getElem? (i := 126) rfl), rfl, by decide +kernel, by decide +kernel⟩
theorem zy_X5_grows : zYV yX5_grows RX5 cX5_grows 2 none 0 := ⟨tin4 _ (List.mem_of_getElem? (i := 74) (by decide +kernel)), tin0 _ (List.mem_of_getElem? (i := 36) (by decide +kernel)), kini_X5, tin4 _ (List.mem_of_getElem? (i := 75) rfl), rfl, by decide +kernel, by decide +kernel⟩
theorem zy_X5_servesActor : zYV yX5_servesActor RX5 cX5_servesActor 4 (some FieldType.int) 2 := ⟨tin4 _ (List.mem_of_getElem? (i := 62) (by decide +kernel)), tin0 _ (List.mem_of_getElem? (i := 33) (by decide +kernel)), kini_X5, tin4 _ (List.mem_of_getElem? (i := 63) rfl), rfl, by decide +kernel, by decide +kernel⟩
theorem zy_X5_servesProp : zYV yX5_servesProp RX5 cX5_servesProp 6 (some FieldType.int) 2 := ⟨tin4 _ (List.mem_of_getElem? (i := 66) (by decide +kernel)), tin0 _ (List.mem_of_getElem? (i := 34) (by decide +kernel)), kini_X5, tin4 _ (List.mem_of_getElem? (i := 67) rfl), rfl, by decide +kernel, by decide +kernel⟩
theorem zy_X5_serves : zYV yX5_serves RX5 cX5_serves 5 (some FieldType.int) 2 := ⟨tin4 _ (List.mem_of_getElem? (i := 58) (by decide +kernel)), tin0 _ (List.mem_of_getElem? (i := 32) (by decide +kernel)), kini_X5, tin4 _ (List.mem_of_getElem? (i := 59) rfl), rfl, by decide +kernel, by decide +kernel⟩
theorem zy_X5_allows : zYV yX5_allows RX5 cX5_allows 5 (some FieldType.boolean) 2 := ⟨tin4 _ (List.mem_of_getElem? (i := 70) (by decide +kernel)), tin0 _ (List.mem_of_getElem? (i := 35) (by decide +kernel)), kini_X5, tin4 _ (List.mem_of_getElem? (i := 71) rfl), rfl, by decide +kernel, by decide +kernel⟩
theorem zy_X5_costs : zYV yX5_costs RX5 cX5_costs 5 (some FieldType.int) 0 := ⟨tin4 _ (List.mem_of_getElem? (i := 50) (by decide +kernel)), tin0 _ (List.mem_of_getElem? (i := 30) (by decide +kernel)), kini_X5, tin4 _ (List.mem_of_getElem? (i := 51) rfl), rfl, by decide +kernel, by decide +kernel⟩
theorem zy_X5_lastPlanned : zYV yX5_lastPlanned RX5 cX5_lastPlanned 3 (some FieldType.int) 0 := ⟨tin3 _ (List.mem_of_getElem? (i := 233) (by decide +kernel)), tin0 _ (List.mem_of_getElem? (i := 22) (by decide +kernel)), kini_X5, tin3 _ (List.mem_of_getElem? (i := 234) rfl), rfl, by decide +kernel, by decide +kernel⟩
theorem zy_X5_plans : zYV yX5_plans RX5 cX5_plans 3 none 2 := ⟨tin4 _ (List.mem_of_getElem? (i := 4) (by decide +kernel)), tin0 _ (List.mem_of_getElem? (i := 24) (by decide +kernel)), kini_X5, tin4 _ (List.mem_of_getElem? (i := 5) rfl), rfl, by decide +kernel, by decide +kernel⟩
theorem zy_X5_scene : zYV yX5_scene RX5 cX5_scene 5 (some FieldType.int) 2 := ⟨tin3 _ (List.mem_of_getElem? (i := 228) (by decide +kernel)), tin3 _ (List.mem_of_getElem? (i := 229) (by decide +kernel)), kini_X5, tin3 _ (List.mem_of_getElem? (i := 230) rfl), rfl, by decide +kernel, by decide +kernel⟩
theorem zy_X5_plays : zYV yX5_plays RX5 cX5_plays 7 (some FieldType.int) 3 := ⟨tin4 _ (List.mem_of_getElem? (i := 7) (by decide +kernel)), tin4 _ (List.mem_of_getElem? (i := 8) (by decide +kernel)), kini_X5, tin4 _ (List.mem_of_getElem? (i := 9) rfl), rfl, by decide +kernel, by decide +kernel⟩
theorem zy_X5_isUsed : zYV yX5_isUsed RX5 cX5_isUsed 3 (some FieldType.boolean) 2 := ⟨tin4 _ (List.mem_of_getElem? (i := 30) (by decide +kernel)), tin0 _ (List.mem_of_getElem? (i := 27) (by decide +kernel)), kini_X5, tin4 _ (List.mem_of_getElem? (i := 31) rfl), rfl, by decide +kernel, by decide +kernel⟩
theorem zy_X5_ages : zYV yX5_ages RX5 cX5_ages 8 (some FieldType.boolean) 4 := ⟨tin4 _ (List.mem_of_getElem? (i := 26) (by decide +kernel)), tin0 _ (List.mem_of_getElem? (i := 26) (by decide +kernel)), kini_X5, tin4 _ (List.mem_of_getElem? (i := 27) rfl), rfl, by decide +kernel, by decide +kernel⟩
theorem zy_X5_uses : zYV yX5_uses RX5 cX5_uses 9 (some FieldType.int) 4 := ⟨tin4 _ (List.mem_of_getElem? (i := 18) (by decide +kernel)), tin4 _ (List.mem_of_getElem? (i := 19) (by decide +kernel)), kini_X5, tin4 _ (List.mem_of_getElem? (i := 20) rfl), rfl, by decide +kernel, by decide +kernel⟩
theorem zy_X5_cut : zYV yX5_cut RX5 cX5_cut 3 (some FieldType.int) 1 := ⟨tin4 _ (List.mem_of_getElem? (i := 33) (by decide +kernel)), tin4 _ (List.mem_of_getElem? (i := 34) (by decide +kernel)), kini_X5, tin4 _ (List.mem_of_getElem? (i := 35) rfl), rfl, by decide +kernel, by decide +kernel⟩
theorem zy_X5_swaps : zYV yX5_swaps RX5 cX5_swaps 4 none 2 := ⟨tin4 _ (List.mem_of_getElem? (i := 46) (by decide +kernel)), tin0 _ (List.mem_of_getElem? (i := 29) (by decide +kernel)), kini_X5, tin4 _ (List.mem_of_getElem? (i := 47) rfl), rfl, by decide +kernel, by decide +kernel⟩
theorem zy_X5_swap : zYV yX5_swap RX5 cX5_swap 3 (some FieldType.int) 2 := ⟨tin4 _ (List.mem_of_getElem? (i := 37) (by decide +kernel)), tin4 _ (List.mem_of_getElem? (i := 38) (by decide +kernel)), kini_X5, tin4 _ (List.mem_of_getElem? (i := 39) rfl), rfl, by decide +kernel, by decide +kernel⟩
theorem zy_X5_permit : zYV yX5_permit RX5 cX5_permit 6 (some FieldType.int) 4 := ⟨tin4 _ (List.mem_of_getElem? (i := 77) (by decide +kernel)), tin4 _ (List.mem_of_getElem? (i := 78) (by decide +kernel)), kini_X5, tin4 _ (List.mem_of_getElem? (i := 79) rfl), rfl, by decide +kernel, by decide +kernel⟩
theorem zy_X5_refusals : zYV yX5_refusals RX5 cX5_refusals 3 (some FieldType.int) 0 := ⟨tin4 _ (List.mem_of_getElem? (i := 89) (by decide +kernel)), tin0 _ (List.mem_of_getElem? (i := 37) (by decide +kernel)), kini_X5, tin4 _ (List.mem_of_getElem? (i := 90) rfl), rfl, by decide +kernel, by decide +kernel⟩
theorem zy_X5_revoke : zYV yX5_revoke RX5 cX5_revoke 4 (some FieldType.int) 1 := ⟨tin4 _ (List.mem_of_getElem? (i := 84) (by decide +kernel)), tin4 _ (List.mem_of_getElem? (i := 85) (by decide +kernel)), kini_X5, tin4 _ (List.mem_of_getElem? (i := 86) rfl), rfl, by decide +kernel, by decide +kernel⟩
theorem zy_X5_away : zYV yX5_away RX5 cX5_away 5 (some FieldType.boolean) 3 := ⟨tin4 _ (List.mem_of_getElem? (i := 92) (by decide +kernel)), tin4 _ (List.mem_of_getElem? (i := 93) (by decide +kernel)), kini_X5, tin4 _ (List.mem_of_getElem? (i := 94) rfl), rfl, by decide +kernel, by decide +kernel⟩
theorem zy_X5_allOf : zYV yX5_allOf RX5 cX5_allOf 4 (some FieldType.int) 1 := ⟨tin4 _ (List.mem_of_getElem? (i := 101) (by decide +kernel)), tin0 _ (List.mem_of_getElem? (i := 38) (by decide +kernel)), kini_X5, tin4 _ (List.mem_of_getElem? (i := 102) rfl), rfl, by decide +kernel, by decide +kernel⟩
theorem zy_X5_buy : zYV yX5_buy RX5 cX5_buy 3 (some FieldType.int) 1 := ⟨tin4 _ (List.mem_of_getElem? (i := 96) (by decide +kernel)), tin4 _ (List.mem_of_getElem? (i := 97) (by decide +kernel)), kini_X5, tin4 _ (List.mem_of_getElem? (i := 98) rfl), rfl, by decide +kernel, by decide +kernel⟩
theorem zy_X5_clear : zYV yX5_clear RX5 cX5_clear 3 (some FieldType.int) 0 := ⟨tin4 _ (List.mem_of_getElem? (i := 104) (by decide +kernel)), tin4 _ (List.mem_of_getElem? (i := 105) (by decide +kernel)), kini_X5, tin4 _ (List.mem_of_getElem? (i := 106) rfl), rfl, by decide +kernel, by decide +kernel⟩
theorem zy_X5_mishap : zYV yX5_mishap RX5 cX5_mishap 5 (some FieldType.int) 2 := ⟨tin4 _ (List.mem_of_getElem? (i := 112) (by decide +kernel)), tin4 _ (List.mem_of_getElem? (i := 113) (by decide +kernel)), kini_X5, tin4 _ (List.mem_of_getElem? (i := 114) rfl), rfl, by decide +kernel, by decide +kernel⟩
theorem zy_X5_putsOff : zYV yX5_putsOff RX5 cX5_putsOff 3 none 1 := ⟨tin4 _ (List.mem_of_getElem? (i := 121) (by decide +kernel)), tin0 _ (List.mem_of_getElem? (i := 40) (by decide +kernel)), kini_X5, tin4 _ (List.mem_of_getElem? (i := 122) rfl), rfl, by decide +kernel, by decide +kernel⟩
theorem zy_X5_shoot : zYV yX5_shoot RX5 cX5_shoot 3 (some FieldType.int) 0 := ⟨tin4 _ (List.mem_of_getElem? (i := 116) (by decide +kernel)), tin4 _ (List.mem_of_getElem? (i := 117) (by decide +kernel)), kini_X5, tin4 _ (List.mem_of_getElem? (i := 118) rfl), rfl, by decide +kernel, by decide +kernel⟩
theorem zy_X5_isRefused : zYV yX5_isRefused RX5 cX5_isRefused 2 (some FieldType.boolean) 1 := ⟨tin4 _ (List.mem_of_getElem? (i := 133) (by decide +kernel)), tin0 _ (List.mem_of_getElem? (i := 42) (by decide +kernel)), kini_X5, tin4 _ (List.mem_of_getElem? (i := 134) rfl), rfl, by decide +kernel, by decide +kernel⟩
theorem zy_X5_bestFor : zYV yX5_bestFor RX5 cX5_bestFor 7 (some FieldType.int) 1 := ⟨tin4 _ (List.mem_of_getElem? (i := 137) (by decide +kernel)), tin0 _ (List.mem_of_getElem? (i := 43) (by decide +kernel)), kini_X5, tin4 _ (List.mem_of_getElem? (i := 138) rfl), rfl, by decide +kernel, by decide +kernel⟩
theorem zy_X5_mend : zYV yX5_mend RX5 cX5_mend 4 (some FieldType.int) 0 := ⟨tin4 _ (List.mem_of_getElem? (i := 128) (by decide +kernel)), tin4 _ (List.mem_of_getElem? (i := 129) (by decide +kernel)), kini_X5, tin4 _ (List.mem_of_getElem? (i := 130) rfl), rfl, by decide +kernel, by decide +kernel⟩
theorem zy_X5_bestSwap : zYV yX5_bestSwap RX5 cX5_bestSwap 6 (some FieldType.int) 0 := ⟨tin4 _ (List.mem_of_getElem? (i := 145) (by decide +kernel)), tin0 _ (List.mem_of_getElem? (i := 44) (by decide +kernel)), kini_X5, tin4 _ (List.mem_of_getElem? (i := 146) rfl), rfl, by decide +kernel, by decide +kernel⟩
theorem zy_X5_better : zYV yX5_better RX5 cX5_better 3 (some FieldType.int) 0 := ⟨tin4 _ (List.mem_of_getElem? (i := 140) (by decide +kernel)), tin4 _ (List.mem_of_getElem? (i := 141) (by decide +kernel)), kini_X5, tin4 _ (List.mem_of_getElem? (i := 142) rfl), rfl, by decide +kernel, by decide +kernel⟩
theorem zy_X5_planned : zYV yX5_planned RX5 cX5_planned 3 (some FieldType.int) 0 := ⟨tin4 _ (List.mem_of_getElem? (i := 153) (by decide +kernel)), tin0 _ (List.mem_of_getElem? (i := 45) (by decide +kernel)), kini_X5, tin4 _ (List.mem_of_getElem? (i := 154) rfl), rfl, by decide +kernel, by decide +kernel⟩
theorem zy_X5_orders : zYV yX5_orders RX5 cX5_orders 8 none 2 := ⟨tin4 _ (List.mem_of_getElem? (i := 157) (by decide +kernel)), tin0 _ (List.mem_of_getElem? (i := 46) (by decide +kernel)), kini_X5, tin4 _ (List.mem_of_getElem? (i := 158) rfl), rfl, by decide +kernel, by decide +kernel⟩
theorem zy_X5_least : zYV yX5_least RX5 cX5_least 6 (some FieldType.int) 0 := ⟨tin4 _ (List.mem_of_getElem? (i := 148) (by decide +kernel)), tin4 _ (List.mem_of_getElem? (i := 149) (by decide +kernel)), kini_X5, tin4 _ (List.mem_of_getElem? (i := 150) rfl), rfl, by decide +kernel, by decide +kernel⟩
theorem zy_X5_today : zYV yX5_today RX5 cX5_today 1 (some FieldType.int) 0 := ⟨tin4 _ (List.mem_of_getElem? (i := 160) (by decide +kernel)), tin4 _ (List.mem_of_getElem? (i := 161) (by decide +kernel)), kini_X5, tin4 _ (List.mem_of_getElem? (i := 162) rfl), rfl, by decide +kernel, by decide +kernel⟩
theorem zy_X5_spent : zYV yX5_spent RX5 cX5_spent 1 (some FieldType.int) 0 := ⟨tin4 _ (List.mem_of_getElem? (i := 164) (by decide +kernel)), tin4 _ (List.mem_of_getElem? (i := 165) (by decide +kernel)), kini_X5, tin4 _ (List.mem_of_getElem? (i := 166) rfl), rfl, by decide +kernel, by decide +kernel⟩
theorem zy_X5_cost : zYV yX5_cost RX5 cX5_cost 1 (some FieldType.int) 0 := ⟨tin4 _ (List.mem_of_getElem? (i := 168) (by decide +kernel)), tin4 _ (List.mem_of_getElem? (i := 169) (by decide +kernel)), kini_X5, tin4 _ (List.mem_of_getElem? (i := 170) rfl), rfl, by decide +kernel, by decide +kernel⟩
theorem zy_X5_scenes : zYV yX5_scenes RX5 cX5_scenes 1 (some FieldType.int) 0 := ⟨tin4 _ (List.mem_of_getElem? (i := 172) (by decide +kernel)), tin4 _ (List.mem_of_getElem? (i := 173) (by decide +kernel)), kini_X5, tin4 _ (List.mem_of_getElem? (i := 174) rfl), rfl, by decide +kernel, by decide +kernel⟩
theorem zy_X5_stateOf : zYV yX5_stateOf RX5 cX5_stateOf 2 (some FieldType.int) 1 := ⟨tin4 _ (List.mem_of_getElem? (i := 176) (by decide +kernel)), tin4 _ (List.mem_of_getElem? (i := 177) (by decide +kernel)), kini_X5, tin4 _ (List.mem_of_getElem? (i := 178) rfl), rfl, by decide +kernel, by decide +kernel⟩
theorem zy_X5_dayOf : zYV yX5_dayOf RX5 cX5_dayOf 2 (some FieldType.int) 1 := ⟨tin4 _ (List.mem_of_getElem? (i := 180) (by decide +kernel)), tin4 _ (List.mem_of_getElem? (i := 181) (by decide +kernel)), kini_X5, tin4 _ (List.mem_of_getElem? (i := 182) rfl), rfl, by decide +kernel, by decide +kernel⟩
theorem zy_X5_sceneOn : zYV yX5_sceneOn RX5 cX5_sceneOn 2 (some FieldType.int) 1 := ⟨tin4 _ (List.mem_of_getElem? (i := 184) (by decide +kernel)), tin4 _ (List.mem_of_getElem? (i := 185) (by decide +kernel)), kini_X5, tin4 _ (List.mem_of_getElem? (i := 186) rfl), rfl, by decide +kernel, by decide +kernel⟩
theorem zy_X5_refused : zYV yX5_refused RX5 cX5_refused 1 (some FieldType.int) 0 := ⟨tin4 _ (List.mem_of_getElem? (i := 188) (by decide +kernel)), tin4 _ (List.mem_of_getElem? (i := 189) (by decide +kernel)), kini_X5, tin4 _ (List.mem_of_getElem? (i := 190) rfl), rfl, by decide +kernel, by decide +kernel⟩
theorem zy_X5_isAllowed : zYV yX5_isAllowed RX5 cX5_isAllowed 3 (some FieldType.boolean) 2 := ⟨tin4 _ (List.mem_of_getElem? (i := 192) (by decide +kernel)), tin4 _ (List.mem_of_getElem? (i := 193) (by decide +kernel)), kini_X5, tin4 _ (List.mem_of_getElem? (i := 194) rfl), rfl, by decide +kernel, by decide +kernel⟩
theorem zy_X5_ahead : zYV yX5_ahead RX5 cX5_ahead 5 (some FieldType.int) 2 := ⟨tin4 _ (List.mem_of_getElem? (i := 196) (by decide +kernel)), tin4 _ (List.mem_of_getElem? (i := 197) (by decide +kernel)), kini_X5, tin4 _ (List.mem_of_getElem? (i := 198) rfl), rfl, by decide +kernel, by decide +kernel⟩
theorem zy_X5_copies : zYV yX5_copies RX5 cX5_copies 3 (some FieldType.int) 2 := ⟨tin4 _ (List.mem_of_getElem? (i := 200) (by decide +kernel)), tin4 _ (List.mem_of_getElem? (i := 201) (by decide +kernel)), kini_X5, tin4 _ (List.mem_of_getElem? (i := 202) rfl), rfl, by decide +kernel, by decide +kernel⟩
theorem zy_X5_growth : zYV yX5_growth RX5 cX5_growth 2 (some FieldType.int) 1 := ⟨tin4 _ (List.mem_of_getElem? (i := 204) (by decide +kernel)), tin4 _ (List.mem_of_getElem? (i := 205) (by decide +kernel)), kini_X5, tin4 _ (List.mem_of_getElem? (i := 206) rfl), rfl, by decide +kernel, by decide +kernel⟩
theorem zy_J7_fill_53178 : zYS yJ7_fill_53178 cJ7_fill_53178 4 none 2 := ⟨tin2 _ (List.mem_of_getElem? (i := 82) (by decide +kernel)), kini_J7, tin2 _ (List.mem_of_getElem? (i := 83) rfl), by decide +kernel, by decide +kernel⟩
set_option maxRecDepth 20000 in
theorem inX0 : ∀ w ∈ u_ws RX0 TX0 3, w ∈ lw_tbl := by decide +kernel
set_option maxRecDepth 20000 in
theorem inX1 : ∀ w ∈ u_ws RX1 TX1 5, w ∈ lw_tbl := by decide +kernel
set_option maxRecDepth 20000 in
theorem inX2 : ∀ w ∈ u_ws RX2 TX2 8, w ∈ lw_tbl := by decide +kernel
set_option maxRecDepth 20000 in
theorem inX3 : ∀ w ∈ u_ws RX3 TX3 3, w ∈ lw_tbl := by decide +kernel
set_option maxRecDepth 20000 in
theorem inX4 : ∀ w ∈ u_ws RX4 TX4 11, w ∈ lw_tbl := by decide +kernel
set_option maxRecDepth 20000 in
theorem inX5 : ∀ w ∈ u_ws RX5 TX5 26, w ∈ lw_tbl := by decide +kernel
end
section
/-! ROWS for each field and each array of our world, written by a program -/
section ZSPEC
variable {p : Program} {l : Launch} {e : Env} {R : Room} {s : State} {m : MethodId} {args : Array Value} {below : List Frame} {meth : Method} {c : Code} {H : Heap} {locs : List Loc} {cells slots : Nat} {Q : State → Prop}
variable {cc : ByteArray} {pc : Nat} {ls : Array Slot} {rest st0 : List Value} {own : String} {nL : Nat}
variable {D : va_G} {ca : Nat → ClassId} {base : Nat} {ad : Nat → Nat → Nat} {n np : Nat} {μ : Mem}

theorem zF_60 (r : Nat → Int32) : zF ad ca n np 60 0 r = some (.inr (0, [.ref (ad 61 0), .ref (ad 62 0), .int (r 2)])) := rfl
theorem gX0_0 (hC : ZC p m meth c s own cc nL) (hZ : ZS D ca base ad n np μ s H locs) {index : Nat} (hlink : Cond.fieldLink own index RX0 "days" "[I" ∈ lw_tbl) (hdg : decode cc pc = .ok (.getfield index, 3)) (kk : W p l e R s m args below meth c H locs cells slots Q (F0 m (pc + 3) ls (.ref (ad 61 0) :: rest))) : W p l e R s m args below meth c H locs cells slots Q (F0 m pc ls (.ref (ad 60 0) :: rest)) :=
  z_get hC hZ (zF_60 _) rfl inX0 0 (by decide) rfl hlink rfl hdg kk
theorem gX0_1 (hC : ZC p m meth c s own cc nL) (hZ : ZS D ca base ad n np μ s H locs) {index : Nat} (hlink : Cond.fieldLink own index RX0 "scenes" "[LBacklotPlanner$Scene;" ∈ lw_tbl) (hdg : decode cc pc = .ok (.getfield index, 3)) (kk : W p l e R s m args below meth c H locs cells slots Q (F0 m (pc + 3) ls (.ref (ad 62 0) :: rest))) : W p l e R s m args below meth c H locs cells slots Q (F0 m pc ls (.ref (ad 60 0) :: rest)) :=
  z_get hC hZ (zF_60 _) rfl inX0 1 (by decide) rfl hlink rfl hdg kk
theorem gX0_2 (hC : ZC p m meth c s own cc nL) (hZ : ZS D ca base ad n np μ s H locs) {index : Nat} (hlink : Cond.fieldLink own index RX0 "count" "I" ∈ lw_tbl) (hdg : decode cc pc = .ok (.getfield index, 3)) (kk : W p l e R s m args below meth c H locs cells slots Q (F0 m (pc + 3) ls (.int (μ 60 0 2) :: rest))) : W p l e R s m args below meth c H locs cells slots Q (F0 m pc ls (.ref (ad 60 0) :: rest)) :=
  z_get hC hZ (zF_60 _) rfl inX0 2 (by decide) rfl hlink rfl hdg kk
theorem pX0_2 (hC : ZC p m meth c s own cc nL) (hZ : ZS D ca base ad n np μ s H locs) {index : Nat} (hlink : Cond.fieldLink own index RX0 "count" "I" ∈ lw_tbl) {x : Int32} (hdg : decode cc pc = .ok (.putfield index, 3)) (kk : ∀ (μ1 : Mem) (H1 : Heap) (locs1 : List Loc), μ1 = zst μ 60 0 2 x → ZS D ca base ad n np μ1 s H1 locs1 → W p l e R s m args below meth c H1 locs1 cells slots Q (F0 m (pc + 3) ls (rest))) : W p l e R s m args below meth c H locs cells slots Q (F0 m pc ls (.int x :: .ref (ad 60 0) :: rest)) :=
  z_put hC hZ (zF_60 _) rfl inX0 tyX0 tyX0_ok nmX0 2 (by decide) rfl rfl hlink rfl rfl (Nat.le_of_ble_eq_true rfl) (zF_60 _) hdg (fun H1 locs1 h => kk _ H1 locs1 rfl h)
theorem zF_80 {i : Nat} (hi : i < np) (r : Nat → Int32) : zF ad ca n np 80 i r = some (.inr (1, [.int (r 0), .int (r 1), .int (r 2), .int (r 3), .int (r 4)])) := by
  show (if i < np then _ else none) = _
  exact if_pos hi
theorem gX1_0 (hC : ZC p m meth c s own cc nL) (hZ : ZS D ca base ad n np μ s H locs) {i : Nat} (hi : i < np) {index : Nat} (hlink : Cond.fieldLink own index RX1 "set" "I" ∈ lw_tbl) (hdg : decode cc pc = .ok (.getfield index, 3)) (kk : W p l e R s m args below meth c H locs cells slots Q (F0 m (pc + 3) ls (.int (μ 80 i 0) :: rest))) : W p l e R s m args below meth c H locs cells slots Q (F0 m pc ls (.ref (ad 80 i) :: rest)) :=
  z_get hC hZ (zF_80 hi _) rfl inX1 0 (by decide) rfl hlink rfl hdg kk
theorem gX1_1 (hC : ZC p m meth c s own cc nL) (hZ : ZS D ca base ad n np μ s H locs) {i : Nat} (hi : i < np) {index : Nat} (hlink : Cond.fieldLink own index RX1 "from" "I" ∈ lw_tbl) (hdg : decode cc pc = .ok (.getfield index, 3)) (kk : W p l e R s m args below meth c H locs cells slots Q (F0 m (pc + 3) ls (.int (μ 80 i 1) :: rest))) : W p l e R s m args below meth c H locs cells slots Q (F0 m pc ls (.ref (ad 80 i) :: rest)) :=
  z_get hC hZ (zF_80 hi _) rfl inX1 1 (by decide) rfl hlink rfl hdg kk
theorem gX1_2 (hC : ZC p m meth c s own cc nL) (hZ : ZS D ca base ad n np μ s H locs) {i : Nat} (hi : i < np) {index : Nat} (hlink : Cond.fieldLink own index RX1 "to" "I" ∈ lw_tbl) (hdg : decode cc pc = .ok (.getfield index, 3)) (kk : W p l e R s m args below meth c H locs cells slots Q (F0 m (pc + 3) ls (.int (μ 80 i 2) :: rest))) : W p l e R s m args below meth c H locs cells slots Q (F0 m pc ls (.ref (ad 80 i) :: rest)) :=
  z_get hC hZ (zF_80 hi _) rfl inX1 2 (by decide) rfl hlink rfl hdg kk
theorem gX1_3 (hC : ZC p m meth c s own cc nL) (hZ : ZS D ca base ad n np μ s H locs) {i : Nat} (hi : i < np) {index : Nat} (hlink : Cond.fieldLink own index RX1 "flames" "I" ∈ lw_tbl) (hdg : decode cc pc = .ok (.getfield index, 3)) (kk : W p l e R s m args below meth c H locs cells slots Q (F0 m (pc + 3) ls (.int (μ 80 i 3) :: rest))) : W p l e R s m args below meth c H locs cells slots Q (F0 m pc ls (.ref (ad 80 i) :: rest)) :=
  z_get hC hZ (zF_80 hi _) rfl inX1 3 (by decide) rfl hlink rfl hdg kk
theorem gX1_4 (hC : ZC p m meth c s own cc nL) (hZ : ZS D ca base ad n np μ s H locs) {i : Nat} (hi : i < np) {index : Nat} (hlink : Cond.fieldLink own index RX1 "isRevoked" "Z" ∈ lw_tbl) (hdg : decode cc pc = .ok (.getfield index, 3)) (kk : W p l e R s m args below meth c H locs cells slots Q (F0 m (pc + 3) ls (.int (μ 80 i 4) :: rest))) : W p l e R s m args below meth c H locs cells slots Q (F0 m pc ls (.ref (ad 80 i) :: rest)) :=
  z_get hC hZ (zF_80 hi _) rfl inX1 4 (by decide) rfl hlink rfl hdg kk
theorem pX1_4 (hC : ZC p m meth c s own cc nL) (hZ : ZS D ca base ad n np μ s H locs) {i : Nat} (hi : i < np) {index : Nat} (hlink : Cond.fieldLink own index RX1 "isRevoked" "Z" ∈ lw_tbl) {x : Int32} (hx : x = 0 ∨ x = 1) (hdg : decode cc pc = .ok (.putfield index, 3)) (kk : ∀ (μ1 : Mem) (H1 : Heap) (locs1 : List Loc), μ1 = zst μ 80 i 4 x → ZS D ca base ad n np μ1 s H1 locs1 → W p l e R s m args below meth c H1 locs1 cells slots Q (F0 m (pc + 3) ls (rest))) : W p l e R s m args below meth c H locs cells slots Q (F0 m pc ls (.int x :: .ref (ad 80 i) :: rest)) :=
  z_put hC hZ (zF_80 hi _) rfl inX1 tyX1 tyX1_ok nmX1 4 (by decide) rfl rfl hlink (by rcases hx with rfl | rfl <;> rfl) (by rcases hx with rfl | rfl <;> rfl) (Nat.le_of_ble_eq_true rfl) (zF_80 hi _) hdg (fun H1 locs1 h => kk _ H1 locs1 rfl h)
theorem zF_70 {i : Nat} (hi : i < n) (r : Nat → Int32) : zF ad ca n np 70 i r = some (.inr (2, [.int (r 0), .int (r 1), .int (r 2), .ref (ad 71 i), .ref (ad 72 i), .ref (ad 73 i), .int (r 6), .int (r 7)])) := by
  show (if i < n then _ else none) = _
  exact if_pos hi
theorem gX2_0 (hC : ZC p m meth c s own cc nL) (hZ : ZS D ca base ad n np μ s H locs) {i : Nat} (hi : i < n) {index : Nat} (hlink : Cond.fieldLink own index RX2 "number" "I" ∈ lw_tbl) (hdg : decode cc pc = .ok (.getfield index, 3)) (kk : W p l e R s m args below meth c H locs cells slots Q (F0 m (pc + 3) ls (.int (μ 70 i 0) :: rest))) : W p l e R s m args below meth c H locs cells slots Q (F0 m pc ls (.ref (ad 70 i) :: rest)) :=
  z_get hC hZ (zF_70 hi _) rfl inX2 0 (by decide) rfl hlink rfl hdg kk
theorem gX2_1 (hC : ZC p m meth c s own cc nL) (hZ : ZS D ca base ad n np μ s H locs) {i : Nat} (hi : i < n) {index : Nat} (hlink : Cond.fieldLink own index RX2 "set" "I" ∈ lw_tbl) (hdg : decode cc pc = .ok (.getfield index, 3)) (kk : W p l e R s m args below meth c H locs cells slots Q (F0 m (pc + 3) ls (.int (μ 70 i 1) :: rest))) : W p l e R s m args below meth c H locs cells slots Q (F0 m pc ls (.ref (ad 70 i) :: rest)) :=
  z_get hC hZ (zF_70 hi _) rfl inX2 1 (by decide) rfl hlink rfl hdg kk
theorem gX2_2 (hC : ZC p m meth c s own cc nL) (hZ : ZS D ca base ad n np μ s H locs) {i : Nat} (hi : i < n) {index : Nat} (hlink : Cond.fieldLink own index RX2 "flames" "I" ∈ lw_tbl) (hdg : decode cc pc = .ok (.getfield index, 3)) (kk : W p l e R s m args below meth c H locs cells slots Q (F0 m (pc + 3) ls (.int (μ 70 i 2) :: rest))) : W p l e R s m args below meth c H locs cells slots Q (F0 m pc ls (.ref (ad 70 i) :: rest)) :=
  z_get hC hZ (zF_70 hi _) rfl inX2 2 (by decide) rfl hlink rfl hdg kk
theorem gX2_3 (hC : ZC p m meth c s own cc nL) (hZ : ZS D ca base ad n np μ s H locs) {i : Nat} (hi : i < n) {index : Nat} (hlink : Cond.fieldLink own index RX2 "beards" "[I" ∈ lw_tbl) (hdg : decode cc pc = .ok (.getfield index, 3)) (kk : W p l e R s m args below meth c H locs cells slots Q (F0 m (pc + 3) ls (.ref (ad 71 i) :: rest))) : W p l e R s m args below meth c H locs cells slots Q (F0 m pc ls (.ref (ad 70 i) :: rest)) :=
  z_get hC hZ (zF_70 hi _) rfl inX2 3 (by decide) rfl hlink rfl hdg kk
theorem gX2_4 (hC : ZC p m meth c s own cc nL) (hZ : ZS D ca base ad n np μ s H locs) {i : Nat} (hi : i < n) {index : Nat} (hlink : Cond.fieldLink own index RX2 "from" "[I" ∈ lw_tbl) (hdg : decode cc pc = .ok (.getfield index, 3)) (kk : W p l e R s m args below meth c H locs cells slots Q (F0 m (pc + 3) ls (.ref (ad 72 i) :: rest))) : W p l e R s m args below meth c H locs cells slots Q (F0 m pc ls (.ref (ad 70 i) :: rest)) :=
  z_get hC hZ (zF_70 hi _) rfl inX2 4 (by decide) rfl hlink rfl hdg kk
theorem gX2_5 (hC : ZC p m meth c s own cc nL) (hZ : ZS D ca base ad n np μ s H locs) {i : Nat} (hi : i < n) {index : Nat} (hlink : Cond.fieldLink own index RX2 "to" "[I" ∈ lw_tbl) (hdg : decode cc pc = .ok (.getfield index, 3)) (kk : W p l e R s m args below meth c H locs cells slots Q (F0 m (pc + 3) ls (.ref (ad 73 i) :: rest))) : W p l e R s m args below meth c H locs cells slots Q (F0 m pc ls (.ref (ad 70 i) :: rest)) :=
  z_get hC hZ (zF_70 hi _) rfl inX2 5 (by decide) rfl hlink rfl hdg kk
theorem gX2_6 (hC : ZC p m meth c s own cc nL) (hZ : ZS D ca base ad n np μ s H locs) {i : Nat} (hi : i < n) {index : Nat} (hlink : Cond.fieldLink own index RX2 "state" "I" ∈ lw_tbl) (hdg : decode cc pc = .ok (.getfield index, 3)) (kk : W p l e R s m args below meth c H locs cells slots Q (F0 m (pc + 3) ls (.int (μ 70 i 6) :: rest))) : W p l e R s m args below meth c H locs cells slots Q (F0 m pc ls (.ref (ad 70 i) :: rest)) :=
  z_get hC hZ (zF_70 hi _) rfl inX2 6 (by decide) rfl hlink rfl hdg kk
theorem pX2_6 (hC : ZC p m meth c s own cc nL) (hZ : ZS D ca base ad n np μ s H locs) {i : Nat} (hi : i < n) {index : Nat} (hlink : Cond.fieldLink own index RX2 "state" "I" ∈ lw_tbl) {x : Int32} (hdg : decode cc pc = .ok (.putfield index, 3)) (kk : ∀ (μ1 : Mem) (H1 : Heap) (locs1 : List Loc), μ1 = zst μ 70 i 6 x → ZS D ca base ad n np μ1 s H1 locs1 → W p l e R s m args below meth c H1 locs1 cells slots Q (F0 m (pc + 3) ls (rest))) : W p l e R s m args below meth c H locs cells slots Q (F0 m pc ls (.int x :: .ref (ad 70 i) :: rest)) :=
  z_put hC hZ (zF_70 hi _) rfl inX2 tyX2 tyX2_ok nmX2 6 (by decide) rfl rfl hlink rfl rfl (Nat.le_of_ble_eq_true rfl) (zF_70 hi _) hdg (fun H1 locs1 h => kk _ H1 locs1 rfl h)
theorem gX2_7 (hC : ZC p m meth c s own cc nL) (hZ : ZS D ca base ad n np μ s H locs) {i : Nat} (hi : i < n) {index : Nat} (hlink : Cond.fieldLink own index RX2 "shotOn" "I" ∈ lw_tbl) (hdg : decode cc pc = .ok (.getfield index, 3)) (kk : W p l e R s m args below meth c H locs cells slots Q (F0 m (pc + 3) ls (.int (μ 70 i 7) :: rest))) : W p l e R s m args below meth c H locs cells slots Q (F0 m pc ls (.ref (ad 70 i) :: rest)) :=
  z_get hC hZ (zF_70 hi _) rfl inX2 7 (by decide) rfl hlink rfl hdg kk
theorem pX2_7 (hC : ZC p m meth c s own cc nL) (hZ : ZS D ca base ad n np μ s H locs) {i : Nat} (hi : i < n) {index : Nat} (hlink : Cond.fieldLink own index RX2 "shotOn" "I" ∈ lw_tbl) {x : Int32} (hdg : decode cc pc = .ok (.putfield index, 3)) (kk : ∀ (μ1 : Mem) (H1 : Heap) (locs1 : List Loc), μ1 = zst μ 70 i 7 x → ZS D ca base ad n np μ1 s H1 locs1 → W p l e R s m args below meth c H1 locs1 cells slots Q (F0 m (pc + 3) ls (rest))) : W p l e R s m args below meth c H locs cells slots Q (F0 m pc ls (.int x :: .ref (ad 70 i) :: rest)) :=
  z_put hC hZ (zF_70 hi _) rfl inX2 tyX2 tyX2_ok nmX2 7 (by decide) rfl rfl hlink rfl rfl (Nat.le_of_ble_eq_true rfl) (zF_70 hi _) hdg (fun H1 locs1 h => kk _ H1 locs1 rfl h)
theorem zF_40 {i : Nat} (hi : i < 2) (r : Nat → Int32) : zF ad ca n np 40 i r = some (.inr (3, [.ref (ad 41 i), .ref (ad 42 i), .int (r 2)])) := by
  show (if i < 2 then _ else none) = _
  exact if_pos hi
theorem gX3_0 (hC : ZC p m meth c s own cc nL) (hZ : ZS D ca base ad n np μ s H locs) {i : Nat} (hi : i < 2) {index : Nat} (hlink : Cond.fieldLink own index RX3 "stock" "[[I" ∈ lw_tbl) (hdg : decode cc pc = .ok (.getfield index, 3)) (kk : W p l e R s m args below meth c H locs cells slots Q (F0 m (pc + 3) ls (.ref (ad 41 i) :: rest))) : W p l e R s m args below meth c H locs cells slots Q (F0 m pc ls (.ref (ad 40 i) :: rest)) :=
  z_get hC hZ (zF_40 hi _) rfl inX3 0 (by decide) rfl hlink rfl hdg kk
theorem gX3_1 (hC : ZC p m meth c s own cc nL) (hZ : ZS D ca base ad n np μ s H locs) {i : Nat} (hi : i < 2) {index : Nat} (hlink : Cond.fieldLink own index RX3 "beards" "[I" ∈ lw_tbl) (hdg : decode cc pc = .ok (.getfield index, 3)) (kk : W p l e R s m args below meth c H locs cells slots Q (F0 m (pc + 3) ls (.ref (ad 42 i) :: rest))) : W p l e R s m args below meth c H locs cells slots Q (F0 m pc ls (.ref (ad 40 i) :: rest)) :=
  z_get hC hZ (zF_40 hi _) rfl inX3 1 (by decide) rfl hlink rfl hdg kk
theorem gX3_2 (hC : ZC p m meth c s own cc nL) (hZ : ZS D ca base ad n np μ s H locs) {i : Nat} (hi : i < 2) {index : Nat} (hlink : Cond.fieldLink own index RX3 "lastSet" "I" ∈ lw_tbl) (hdg : decode cc pc = .ok (.getfield index, 3)) (kk : W p l e R s m args below meth c H locs cells slots Q (F0 m (pc + 3) ls (.int (μ 40 i 2) :: rest))) : W p l e R s m args below meth c H locs cells slots Q (F0 m pc ls (.ref (ad 40 i) :: rest)) :=
  z_get hC hZ (zF_40 hi _) rfl inX3 2 (by decide) rfl hlink rfl hdg kk
theorem pX3_2 (hC : ZC p m meth c s own cc nL) (hZ : ZS D ca base ad n np μ s H locs) {i : Nat} (hi : i < 2) {index : Nat} (hlink : Cond.fieldLink own index RX3 "lastSet" "I" ∈ lw_tbl) {x : Int32} (hdg : decode cc pc = .ok (.putfield index, 3)) (kk : ∀ (μ1 : Mem) (H1 : Heap) (locs1 : List Loc), μ1 = zst μ 40 i 2 x → ZS D ca base ad n np μ1 s H1 locs1 → W p l e R s m args below meth c H1 locs1 cells slots Q (F0 m (pc + 3) ls (rest))) : W p l e R s m args below meth c H locs cells slots Q (F0 m pc ls (.int x :: .ref (ad 40 i) :: rest)) :=
  z_put hC hZ (zF_40 hi _) rfl inX3 tyX3 tyX3_ok nmX3 2 (by decide) rfl rfl hlink rfl rfl (Nat.le_of_ble_eq_true rfl) (zF_40 hi _) hdg (fun H1 locs1 h => kk _ H1 locs1 rfl h)
theorem zF_30 (r : Nat → Int32) : zF ad ca n np 30 0 r = some (.inr (4, [.ref (ad 31 0), .ref (ad 32 0), .ref (ad 33 0), .ref (ad 34 0), .ref (ad 40 0), .ref (ad 40 1), .ref (ad 60 0), .int (r 7), .int (r 8), .int (r 9), .int (r 10)])) := rfl
theorem gX4_0 (hC : ZC p m meth c s own cc nL) (hZ : ZS D ca base ad n np μ s H locs) {index : Nat} (hlink : Cond.fieldLink own index RX4 "told" "[LBacklotPlanner$Scene;" ∈ lw_tbl) (hdg : decode cc pc = .ok (.getfield index, 3)) (kk : W p l e R s m args below meth c H locs cells slots Q (F0 m (pc + 3) ls (.ref (ad 31 0) :: rest))) : W p l e R s m args below meth c H locs cells slots Q (F0 m pc ls (.ref (ad 30 0) :: rest)) :=
  z_get hC hZ (zF_30 _) rfl inX4 0 (by decide) rfl hlink rfl hdg kk
theorem gX4_1 (hC : ZC p m meth c s own cc nL) (hZ : ZS D ca base ad n np μ s H locs) {index : Nat} (hlink : Cond.fieldLink own index RX4 "plan" "[LBacklotPlanner$Scene;" ∈ lw_tbl) (hdg : decode cc pc = .ok (.getfield index, 3)) (kk : W p l e R s m args below meth c H locs cells slots Q (F0 m (pc + 3) ls (.ref (ad 32 0) :: rest))) : W p l e R s m args below meth c H locs cells slots Q (F0 m pc ls (.ref (ad 30 0) :: rest)) :=
  z_get hC hZ (zF_30 _) rfl inX4 1 (by decide) rfl hlink rfl hdg kk
theorem gX4_2 (hC : ZC p m meth c s own cc nL) (hZ : ZS D ca base ad n np μ s H locs) {index : Nat} (hlink : Cond.fieldLink own index RX4 "permits" "[LBacklotPlanner$Permit;" ∈ lw_tbl) (hdg : decode cc pc = .ok (.getfield index, 3)) (kk : W p l e R s m args below meth c H locs cells slots Q (F0 m (pc + 3) ls (.ref (ad 33 0) :: rest))) : W p l e R s m args below meth c H locs cells slots Q (F0 m pc ls (.ref (ad 30 0) :: rest)) :=
  z_get hC hZ (zF_30 _) rfl inX4 2 (by decide) rfl hlink rfl hdg kk
theorem gX4_3 (hC : ZC p m meth c s own cc nL) (hZ : ZS D ca base ad n np μ s H locs) {index : Nat} (hlink : Cond.fieldLink own index RX4 "awayDays" "[I" ∈ lw_tbl) (hdg : decode cc pc = .ok (.getfield index, 3)) (kk : W p l e R s m args below meth c H locs cells slots Q (F0 m (pc + 3) ls (.ref (ad 34 0) :: rest))) : W p l e R s m args below meth c H locs cells slots Q (F0 m pc ls (.ref (ad 30 0) :: rest)) :=
  z_get hC hZ (zF_30 _) rfl inX4 3 (by decide) rfl hlink rfl hdg kk
theorem gX4_4 (hC : ZC p m meth c s own cc nL) (hZ : ZS D ca base ad n np μ s H locs) {index : Nat} (hlink : Cond.fieldLink own index RX4 "studio" "LBacklotPlanner$Studio;" ∈ lw_tbl) (hdg : decode cc pc = .ok (.getfield index, 3)) (kk : W p l e R s m args below meth c H locs cells slots Q (F0 m (pc + 3) ls (.ref (ad 40 0) :: rest))) : W p l e R s m args below meth c H locs cells slots Q (F0 m pc ls (.ref (ad 30 0) :: rest)) :=
  z_get hC hZ (zF_30 _) rfl inX4 4 (by decide) rfl hlink rfl hdg kk
theorem gX4_5 (hC : ZC p m meth c s own cc nL) (hZ : ZS D ca base ad n np μ s H locs) {index : Nat} (hlink : Cond.fieldLink own index RX4 "trial" "LBacklotPlanner$Studio;" ∈ lw_tbl) (hdg : decode cc pc = .ok (.getfield index, 3)) (kk : W p l e R s m args below meth c H locs cells slots Q (F0 m (pc + 3) ls (.ref (ad 40 1) :: rest))) : W p l e R s m args below meth c H locs cells slots Q (F0 m pc ls (.ref (ad 30 0) :: rest)) :=
  z_get hC hZ (zF_30 _) rfl inX4 5 (by decide) rfl hlink rfl hdg kk
theorem gX4_6 (hC : ZC p m meth c s own cc nL) (hZ : ZS D ca base ad n np μ s H locs) {index : Nat} (hlink : Cond.fieldLink own index RX4 "orders" "LBacklotPlanner$Orders;" ∈ lw_tbl) (hdg : decode cc pc = .ok (.getfield index, 3)) (kk : W p l e R s m args below meth c H locs cells slots Q (F0 m (pc + 3) ls (.ref (ad 60 0) :: rest))) : W p l e R s m args below meth c H locs cells slots Q (F0 m pc ls (.ref (ad 30 0) :: rest)) :=
  z_get hC hZ (zF_30 _) rfl inX4 6 (by decide) rfl hlink rfl hdg kk
theorem gX4_7 (hC : ZC p m meth c s own cc nL) (hZ : ZS D ca base ad n np μ s H locs) {index : Nat} (hlink : Cond.fieldLink own index RX4 "toldCount" "I" ∈ lw_tbl) (hdg : decode cc pc = .ok (.getfield index, 3)) (kk : W p l e R s m args below meth c H locs cells slots Q (F0 m (pc + 3) ls (.int (μ 30 0 7) :: rest))) : W p l e R s m args below meth c H locs cells slots Q (F0 m pc ls (.ref (ad 30 0) :: rest)) :=
  z_get hC hZ (zF_30 _) rfl inX4 7 (by decide) rfl hlink rfl hdg kk
theorem pX4_7 (hC : ZC p m meth c s own cc nL) (hZ : ZS D ca base ad n np μ s H locs) {index : Nat} (hlink : Cond.fieldLink own index RX4 "toldCount" "I" ∈ lw_tbl) {x : Int32} (hdg : decode cc pc = .ok (.putfield index, 3)) (kk : ∀ (μ1 : Mem) (H1 : Heap) (locs1 : List Loc), μ1 = zst μ 30 0 7 x → ZS D ca base ad n np μ1 s H1 locs1 → W p l e R s m args below meth c H1 locs1 cells slots Q (F0 m (pc + 3) ls (rest))) : W p l e R s m args below meth c H locs cells slots Q (F0 m pc ls (.int x :: .ref (ad 30 0) :: rest)) :=
  z_put hC hZ (zF_30 _) rfl inX4 tyX4 tyX4_ok nmX4 7 (by decide) rfl rfl hlink rfl rfl (Nat.le_of_ble_eq_true rfl) (zF_30 _) hdg (fun H1 locs1 h => kk _ H1 locs1 rfl h)
theorem gX4_8 (hC : ZC p m meth c s own cc nL) (hZ : ZS D ca base ad n np μ s H locs) {index : Nat} (hlink : Cond.fieldLink own index RX4 "permitCount" "I" ∈ lw_tbl) (hdg : decode cc pc = .ok (.getfield index, 3)) (kk : W p l e R s m args below meth c H locs cells slots Q (F0 m (pc + 3) ls (.int (μ 30 0 8) :: rest))) : W p l e R s m args below meth c H locs cells slots Q (F0 m pc ls (.ref (ad 30 0) :: rest)) :=
  z_get hC hZ (zF_30 _) rfl inX4 8 (by decide) rfl hlink rfl hdg kk
theorem pX4_8 (hC : ZC p m meth c s own cc nL) (hZ : ZS D ca base ad n np μ s H locs) {index : Nat} (hlink : Cond.fieldLink own index RX4 "permitCount" "I" ∈ lw_tbl) {x : Int32} (hdg : decode cc pc = .ok (.putfield index, 3)) (kk : ∀ (μ1 : Mem) (H1 : Heap) (locs1 : List Loc), μ1 = zst μ 30 0 8 x → ZS D ca base ad n np μ1 s H1 locs1 → W p l e R s m args below meth c H1 locs1 cells slots Q (F0 m (pc + 3) ls (rest))) : W p l e R s m args below meth c H locs cells slots Q (F0 m pc ls (.int x :: .ref (ad 30 0) :: rest)) :=
  z_put hC hZ (zF_30 _) rfl inX4 tyX4 tyX4_ok nmX4 8 (by decide) rfl rfl hlink rfl rfl (Nat.le_of_ble_eq_true rfl) (zF_30 _) hdg (fun H1 locs1 h => kk _ H1 locs1 rfl h)
theorem gX4_9 (hC : ZC p m meth c s own cc nL) (hZ : ZS D ca base ad n np μ s H locs) {index : Nat} (hlink : Cond.fieldLink own index RX4 "now" "I" ∈ lw_tbl) (hdg : decode cc pc = .ok (.getfield index, 3)) (kk : W p l e R s m args below meth c H locs cells slots Q (F0 m (pc + 3) ls (.int (μ 30 0 9) :: rest))) : W p l e R s m args below meth c H locs cells slots Q (F0 m pc ls (.ref (ad 30 0) :: rest)) :=
  z_get hC hZ (zF_30 _) rfl inX4 9 (by decide) rfl hlink rfl hdg kk
theorem pX4_9 (hC : ZC p m meth c s own cc nL) (hZ : ZS D ca base ad n np μ s H locs) {index : Nat} (hlink : Cond.fieldLink own index RX4 "now" "I" ∈ lw_tbl) {x : Int32} (hdg : decode cc pc = .ok (.putfield index, 3)) (kk : ∀ (μ1 : Mem) (H1 : Heap) (locs1 : List Loc), μ1 = zst μ 30 0 9 x → ZS D ca base ad n np μ1 s H1 locs1 → W p l e R s m args below meth c H1 locs1 cells slots Q (F0 m (pc + 3) ls (rest))) : W p l e R s m args below meth c H locs cells slots Q (F0 m pc ls (.int x :: .ref (ad 30 0) :: rest)) :=
  z_put hC hZ (zF_30 _) rfl inX4 tyX4 tyX4_ok nmX4 9 (by decide) rfl rfl hlink rfl rfl (Nat.le_of_ble_eq_true rfl) (zF_30 _) hdg (fun H1 locs1 h => kk _ H1 locs1 rfl h)
theorem gX4_10 (hC : ZC p m meth c s own cc nL) (hZ : ZS D ca base ad n np μ s H locs) {index : Nat} (hlink : Cond.fieldLink own index RX4 "paid" "I" ∈ lw_tbl) (hdg : decode cc pc = .ok (.getfield index, 3)) (kk : W p l e R s m args below meth c H locs cells slots Q (F0 m (pc + 3) ls (.int (μ 30 0 10) :: rest))) : W p l e R s m args below meth c H locs cells slots Q (F0 m pc ls (.ref (ad 30 0) :: rest)) :=
  z_get hC hZ (zF_30 _) rfl inX4 10 (by decide) rfl hlink rfl hdg kk
theorem pX4_10 (hC : ZC p m meth c s own cc nL) (hZ : ZS D ca base ad n np μ s H locs) {index : Nat} (hlink : Cond.fieldLink own index RX4 "paid" "I" ∈ lw_tbl) {x : Int32} (hdg : decode cc pc = .ok (.putfield index, 3)) (kk : ∀ (μ1 : Mem) (H1 : Heap) (locs1 : List Loc), μ1 = zst μ 30 0 10 x → ZS D ca base ad n np μ1 s H1 locs1 → W p l e R s m args below meth c H1 locs1 cells slots Q (F0 m (pc + 3) ls (rest))) : W p l e R s m args below meth c H locs cells slots Q (F0 m pc ls (.int x :: .ref (ad 30 0) :: rest)) :=
  z_put hC hZ (zF_30 _) rfl inX4 tyX4 tyX4_ok nmX4 10 (by decide) rfl rfl hlink rfl rfl (Nat.le_of_ble_eq_true rfl) (zF_30 _) hdg (fun H1 locs1 h => kk _ H1 locs1 rfl h)
theorem zF_0 (r : Nat → Int32) : zF ad ca n np 0 0 r = some (.inr (5, [.int (r 0), .int (r 1), .int (r 2), .int (r 3), .ref (ad 1 0), .ref (ad 2 0), .ref (ad 3 0), .ref (ad 4 0), .ref (ad 5 0), .ref (ad 6 0), .ref (ad 7 0), .ref (ad 8 0), .int (r 12), .ref (ad 9 0), .ref (ad 10 0), .ref (ad 11 0), .ref (ad 12 0), .ref (ad 13 0), .ref (ad 14 0), .ref (ad 15 0), .ref (ad 16 0), .ref (ad 17 0), .ref (ad 18 0), .ref (ad 19 0), .ref (ad 20 0), .int (r 25)])) := rfl
theorem gX5_0 (hC : ZC p m meth c s own cc nL) (hZ : ZS D ca base ad n np μ s H locs) {index : Nat} (hlink : Cond.fieldLink own index RX5 "today" "I" ∈ lw_tbl) (hdg : decode cc pc = .ok (.getfield index, 3)) (kk : W p l e R s m args below meth c H locs cells slots Q (F0 m (pc + 3) ls (.int (μ 0 0 0) :: rest))) : W p l e R s m args below meth c H locs cells slots Q (F0 m pc ls (.ref (ad 0 0) :: rest)) :=
  z_get hC hZ (zF_0 _) rfl inX5 0 (by decide) rfl hlink rfl hdg kk
theorem pX5_0 (hC : ZC p m meth c s own cc nL) (hZ : ZS D ca base ad n np μ s H locs) {index : Nat} (hlink : Cond.fieldLink own index RX5 "today" "I" ∈ lw_tbl) {x : Int32} (hdg : decode cc pc = .ok (.putfield index, 3)) (kk : ∀ (μ1 : Mem) (H1 : Heap) (locs1 : List Loc), μ1 = zst μ 0 0 0 x → ZS D ca base ad n np μ1 s H1 locs1 → W p l e R s m args below meth c H1 locs1 cells slots Q (F0 m (pc + 3) ls (rest))) : W p l e R s m args below meth c H locs cells slots Q (F0 m pc ls (.int x :: .ref (ad 0 0) :: rest)) :=
  z_put hC hZ (zF_0 _) rfl inX5 tyX5 tyX5_ok nmX5 0 (by decide) rfl rfl hlink rfl rfl (Nat.le_of_ble_eq_true rfl) (zF_0 _) hdg (fun H1 locs1 h => kk _ H1 locs1 rfl h)
theorem gX5_1 (hC : ZC p m meth c s own cc nL) (hZ : ZS D ca base ad n np μ s H locs) {index : Nat} (hlink : Cond.fieldLink own index RX5 "spent" "I" ∈ lw_tbl) (hdg : decode cc pc = .ok (.getfield index, 3)) (kk : W p l e R s m args below meth c H locs cells slots Q (F0 m (pc + 3) ls (.int (μ 0 0 1) :: rest))) : W p l e R s m args below meth c H locs cells slots Q (F0 m pc ls (.ref (ad 0 0) :: rest)) :=
  z_get hC hZ (zF_0 _) rfl inX5 1 (by decide) rfl hlink rfl hdg kk
theorem pX5_1 (hC : ZC p m meth c s own cc nL) (hZ : ZS D ca base ad n np μ s H locs) {index : Nat} (hlink : Cond.fieldLink own index RX5 "spent" "I" ∈ lw_tbl) {x : Int32} (hdg : decode cc pc = .ok (.putfield index, 3)) (kk : ∀ (μ1 : Mem) (H1 : Heap) (locs1 : List Loc), μ1 = zst μ 0 0 1 x → ZS D ca base ad n np μ1 s H1 locs1 → W p l e R s m args below meth c H1 locs1 cells slots Q (F0 m (pc + 3) ls (rest))) : W p l e R s m args below meth c H locs cells slots Q (F0 m pc ls (.int x :: .ref (ad 0 0) :: rest)) :=
  z_put hC hZ (zF_0 _) rfl inX5 tyX5 tyX5_ok nmX5 1 (by decide) rfl rfl hlink rfl rfl (Nat.le_of_ble_eq_true rfl) (zF_0 _) hdg (fun H1 locs1 h => kk _ H1 locs1 rfl h)
theorem gX5_2 (hC : ZC p m meth c s own cc nL) (hZ : ZS D ca base ad n np μ s H locs) {index : Nat} (hlink : Cond.fieldLink own index RX5 "last" "I" ∈ lw_tbl) (hdg : decode cc pc = .ok (.getfield index, 3)) (kk : W p l e R s m args below meth c H locs cells slots Q (F0 m (pc + 3) ls (.int (μ 0 0 2) :: rest))) : W p l e R s m args below meth c H locs cells slots Q (F0 m pc ls (.ref (ad 0 0) :: rest)) :=
  z_get hC hZ (zF_0 _) rfl inX5 2 (by decide) rfl hlink rfl hdg kk
theorem pX5_2 (hC : ZC p m meth c s own cc nL) (hZ : ZS D ca base ad n np μ s H locs) {index : Nat} (hlink : Cond.fieldLink own index RX5 "last" "I" ∈ lw_tbl) {x : Int32} (hdg : decode cc pc = .ok (.putfield index, 3)) (kk : ∀ (μ1 : Mem) (H1 : Heap) (locs1 : List Loc), μ1 = zst μ 0 0 2 x → ZS D ca base ad n np μ1 s H1 locs1 → W p l e R s m args below meth c H1 locs1 cells slots Q (F0 m (pc + 3) ls (rest))) : W p l e R s m args below meth c H locs cells slots Q (F0 m pc ls (.int x :: .ref (ad 0 0) :: rest)) :=
  z_put hC hZ (zF_0 _) rfl inX5 tyX5 tyX5_ok nmX5 2 (by decide) rfl rfl hlink rfl rfl (Nat.le_of_ble_eq_true rfl) (zF_0 _) hdg (fun H1 locs1 h => kk _ H1 locs1 rfl h)
theorem gX5_3 (hC : ZC p m meth c s own cc nL) (hZ : ZS D ca base ad n np μ s H locs) {index : Nat} (hlink : Cond.fieldLink own index RX5 "scenes" "I" ∈ lw_tbl) (hdg : decode cc pc = .ok (.getfield index, 3)) (kk : W p l e R s m args below meth c H locs cells slots Q (F0 m (pc + 3) ls (.int (μ 0 0 3) :: rest))) : W p l e R s m args below meth c H locs cells slots Q (F0 m pc ls (.ref (ad 0 0) :: rest)) :=
  z_get hC hZ (zF_0 _) rfl inX5 3 (by decide) rfl hlink rfl hdg kk
theorem pX5_3 (hC : ZC p m meth c s own cc nL) (hZ : ZS D ca base ad n np μ s H locs) {index : Nat} (hlink : Cond.fieldLink own index RX5 "scenes" "I" ∈ lw_tbl) {x : Int32} (hdg : decode cc pc = .ok (.putfield index, 3)) (kk : ∀ (μ1 : Mem) (H1 : Heap) (locs1 : List Loc), μ1 = zst μ 0 0 3 x → ZS D ca base ad n np μ1 s H1 locs1 → W p l e R s m args below meth c H1 locs1 cells slots Q (F0 m (pc + 3) ls (rest))) : W p l e R s m args below meth c H locs cells slots Q (F0 m pc ls (.int x :: .ref (ad 0 0) :: rest)) :=
  z_put hC hZ (zF_0 _) rfl inX5 tyX5 tyX5_ok nmX5 3 (by decide) rfl rfl hlink rfl rfl (Nat.le_of_ble_eq_true rfl) (zF_0 _) hdg (fun H1 locs1 h => kk _ H1 locs1 rfl h)
theorem gX5_4 (hC : ZC p m meth c s own cc nL) (hZ : ZS D ca base ad n np μ s H locs) {index : Nat} (hlink : Cond.fieldLink own index RX5 "set" "[I" ∈ lw_tbl) (hdg : decode cc pc = .ok (.getfield index, 3)) (kk : W p l e R s m args below meth c H locs cells slots Q (F0 m (pc + 3) ls (.ref (ad 1 0) :: rest))) : W p l e R s m args below meth c H locs cells slots Q (F0 m pc ls (.ref (ad 0 0) :: rest)) :=
  z_get hC hZ (zF_0 _) rfl inX5 4 (by decide) rfl hlink rfl hdg kk
theorem gX5_5 (hC : ZC p m meth c s own cc nL) (hZ : ZS D ca base ad n np μ s H locs) {index : Nat} (hlink : Cond.fieldLink own index RX5 "flames" "[I" ∈ lw_tbl) (hdg : decode cc pc = .ok (.getfield index, 3)) (kk : W p l e R s m args below meth c H locs cells slots Q (F0 m (pc + 3) ls (.ref (ad 2 0) :: rest))) : W p l e R s m args below meth c H locs cells slots Q (F0 m pc ls (.ref (ad 0 0) :: rest)) :=
  z_get hC hZ (zF_0 _) rfl inX5 5 (by decide) rfl hlink rfl hdg kk
theorem gX5_6 (hC : ZC p m meth c s own cc nL) (hZ : ZS D ca base ad n np μ s H locs) {index : Nat} (hlink : Cond.fieldLink own index RX5 "state" "[I" ∈ lw_tbl) (hdg : decode cc pc = .ok (.getfield index, 3)) (kk : W p l e R s m args below meth c H locs cells slots Q (F0 m (pc + 3) ls (.ref (ad 3 0) :: rest))) : W p l e R s m args below meth c H locs cells slots Q (F0 m pc ls (.ref (ad 0 0) :: rest)) :=
  z_get hC hZ (zF_0 _) rfl inX5 6 (by decide) rfl hlink rfl hdg kk
theorem gX5_7 (hC : ZC p m meth c s own cc nL) (hZ : ZS D ca base ad n np μ s H locs) {index : Nat} (hlink : Cond.fieldLink own index RX5 "day" "[I" ∈ lw_tbl) (hdg : decode cc pc = .ok (.getfield index, 3)) (kk : W p l e R s m args below meth c H locs cells slots Q (F0 m (pc + 3) ls (.ref (ad 4 0) :: rest))) : W p l e R s m args below meth c H locs cells slots Q (F0 m pc ls (.ref (ad 0 0) :: rest)) :=
  z_get hC hZ (zF_0 _) rfl inX5 7 (by decide) rfl hlink rfl hdg kk
theorem gX5_8 (hC : ZC p m meth c s own cc nL) (hZ : ZS D ca base ad n np μ s H locs) {index : Nat} (hlink : Cond.fieldLink own index RX5 "beard" "[I" ∈ lw_tbl) (hdg : decode cc pc = .ok (.getfield index, 3)) (kk : W p l e R s m args below meth c H locs cells slots Q (F0 m (pc + 3) ls (.ref (ad 5 0) :: rest))) : W p l e R s m args below meth c H locs cells slots Q (F0 m pc ls (.ref (ad 0 0) :: rest)) :=
  z_get hC hZ (zF_0 _) rfl inX5 8 (by decide) rfl hlink rfl hdg kk
theorem gX5_9 (hC : ZC p m meth c s own cc nL) (hZ : ZS D ca base ad n np μ s H locs) {index : Nat} (hlink : Cond.fieldLink own index RX5 "from" "[I" ∈ lw_tbl) (hdg : decode cc pc = .ok (.getfield index, 3)) (kk : W p l e R s m args below meth c H locs cells slots Q (F0 m (pc + 3) ls (.ref (ad 6 0) :: rest))) : W p l e R s m args below meth c H locs cells slots Q (F0 m pc ls (.ref (ad 0 0) :: rest)) :=
  z_get hC hZ (zF_0 _) rfl inX5 9 (by decide) rfl hlink rfl hdg kk
theorem gX5_10 (hC : ZC p m meth c s own cc nL) (hZ : ZS D ca base ad n np μ s H locs) {index : Nat} (hlink : Cond.fieldLink own index RX5 "to" "[I" ∈ lw_tbl) (hdg : decode cc pc = .ok (.getfield index, 3)) (kk : W p l e R s m args below meth c H locs cells slots Q (F0 m (pc + 3) ls (.ref (ad 7 0) :: rest))) : W p l e R s m args below meth c H locs cells slots Q (F0 m pc ls (.ref (ad 0 0) :: rest)) :=
  z_get hC hZ (zF_0 _) rfl inX5 10 (by decide) rfl hlink rfl hdg kk
theorem gX5_11 (hC : ZC p m meth c s own cc nL) (hZ : ZS D ca base ad n np μ s H locs) {index : Nat} (hlink : Cond.fieldLink own index RX5 "plan" "[I" ∈ lw_tbl) (hdg : decode cc pc = .ok (.getfield index, 3)) (kk : W p l e R s m args below meth c H locs cells slots Q (F0 m (pc + 3) ls (.ref (ad 8 0) :: rest))) : W p l e R s m args below meth c H locs cells slots Q (F0 m pc ls (.ref (ad 0 0) :: rest)) :=
  z_get hC hZ (zF_0 _) rfl inX5 11 (by decide) rfl hlink rfl hdg kk
theorem gX5_12 (hC : ZC p m meth c s own cc nL) (hZ : ZS D ca base ad n np μ s H locs) {index : Nat} (hlink : Cond.fieldLink own index RX5 "permits" "I" ∈ lw_tbl) (hdg : decode cc pc = .ok (.getfield index, 3)) (kk : W p l e R s m args below meth c H locs cells slots Q (F0 m (pc + 3) ls (.int (μ 0 0 12) :: rest))) : W p l e R s m args below meth c H locs cells slots Q (F0 m pc ls (.ref (ad 0 0) :: rest)) :=
  z_get hC hZ (zF_0 _) rfl inX5 12 (by decide) rfl hlink rfl hdg kk
theorem pX5_12 (hC : ZC p m meth c s own cc nL) (hZ : ZS D ca base ad n np μ s H locs) {index : Nat} (hlink : Cond.fieldLink own index RX5 "permits" "I" ∈ lw_tbl) {x : Int32} (hdg : decode cc pc = .ok (.putfield index, 3)) (kk : ∀ (μ1 : Mem) (H1 : Heap) (locs1 : List Loc), μ1 = zst μ 0 0 12 x → ZS D ca base ad n np μ1 s H1 locs1 → W p l e R s m args below meth c H1 locs1 cells slots Q (F0 m (pc + 3) ls (rest))) : W p l e R s m args below meth c H locs cells slots Q (F0 m pc ls (.int x :: .ref (ad 0 0) :: rest)) :=
  z_put hC hZ (zF_0 _) rfl inX5 tyX5 tyX5_ok nmX5 12 (by decide) rfl rfl hlink rfl rfl (Nat.le_of_ble_eq_true rfl) (zF_0 _) hdg (fun H1 locs1 h => kk _ H1 locs1 rfl h)
theorem gX5_13 (hC : ZC p m meth c s own cc nL) (hZ : ZS D ca base ad n np μ s H locs) {index : Nat} (hlink : Cond.fieldLink own index RX5 "where" "[I" ∈ lw_tbl) (hdg : decode cc pc = .ok (.getfield index, 3)) (kk : W p l e R s m args below meth c H locs cells slots Q (F0 m (pc + 3) ls (.ref (ad 9 0) :: rest))) : W p l e R s m args below meth c H locs cells slots Q (F0 m pc ls (.ref (ad 0 0) :: rest)) :=
  z_get hC hZ (zF_0 _) rfl inX5 13 (by decide) rfl hlink rfl hdg kk
theorem gX5_14 (hC : ZC p m meth c s own cc nL) (hZ : ZS D ca base ad n np μ s H locs) {index : Nat} (hlink : Cond.fieldLink own index RX5 "begin" "[I" ∈ lw_tbl) (hdg : decode cc pc = .ok (.getfield index, 3)) (kk : W p l e R s m args below meth c H locs cells slots Q (F0 m (pc + 3) ls (.ref (ad 10 0) :: rest))) : W p l e R s m args below meth c H locs cells slots Q (F0 m pc ls (.ref (ad 0 0) :: rest)) :=
  z_get hC hZ (zF_0 _) rfl inX5 14 (by decide) rfl hlink rfl hdg kk
theorem gX5_15 (hC : ZC p m meth c s own cc nL) (hZ : ZS D ca base ad n np μ s H locs) {index : Nat} (hlink : Cond.fieldLink own index RX5 "end" "[I" ∈ lw_tbl) (hdg : decode cc pc = .ok (.getfield index, 3)) (kk : W p l e R s m args below meth c H locs cells slots Q (F0 m (pc + 3) ls (.ref (ad 11 0) :: rest))) : W p l e R s m args below meth c H locs cells slots Q (F0 m pc ls (.ref (ad 0 0) :: rest)) :=
  z_get hC hZ (zF_0 _) rfl inX5 15 (by decide) rfl hlink rfl hdg kk
theorem gX5_16 (hC : ZC p m meth c s own cc nL) (hZ : ZS D ca base ad n np μ s H locs) {index : Nat} (hlink : Cond.fieldLink own index RX5 "fire" "[I" ∈ lw_tbl) (hdg : decode cc pc = .ok (.getfield index, 3)) (kk : W p l e R s m args below meth c H locs cells slots Q (F0 m (pc + 3) ls (.ref (ad 12 0) :: rest))) : W p l e R s m args below meth c H locs cells slots Q (F0 m pc ls (.ref (ad 0 0) :: rest)) :=
  z_get hC hZ (zF_0 _) rfl inX5 16 (by decide) rfl hlink rfl hdg kk
theorem gX5_17 (hC : ZC p m meth c s own cc nL) (hZ : ZS D ca base ad n np μ s H locs) {index : Nat} (hlink : Cond.fieldLink own index RX5 "revoked" "[Z" ∈ lw_tbl) (hdg : decode cc pc = .ok (.getfield index, 3)) (kk : W p l e R s m args below meth c H locs cells slots Q (F0 m (pc + 3) ls (.ref (ad 13 0) :: rest))) : W p l e R s m args below meth c H locs cells slots Q (F0 m pc ls (.ref (ad 0 0) :: rest)) :=
  z_get hC hZ (zF_0 _) rfl inX5 17 (by decide) rfl hlink rfl hdg kk
theorem gX5_18 (hC : ZC p m meth c s own cc nL) (hZ : ZS D ca base ad n np μ s H locs) {index : Nat} (hlink : Cond.fieldLink own index RX5 "away" "[Z" ∈ lw_tbl) (hdg : decode cc pc = .ok (.getfield index, 3)) (kk : W p l e R s m args below meth c H locs cells slots Q (F0 m (pc + 3) ls (.ref (ad 14 0) :: rest))) : W p l e R s m args below meth c H locs cells slots Q (F0 m pc ls (.ref (ad 0 0) :: rest)) :=
  z_get hC hZ (zF_0 _) rfl inX5 18 (by decide) rfl hlink rfl hdg kk
theorem gX5_19 (hC : ZC p m meth c s own cc nL) (hZ : ZS D ca base ad n np μ s H locs) {index : Nat} (hlink : Cond.fieldLink own index RX5 "growth" "[I" ∈ lw_tbl) (hdg : decode cc pc = .ok (.getfield index, 3)) (kk : W p l e R s m args below meth c H locs cells slots Q (F0 m (pc + 3) ls (.ref (ad 15 0) :: rest))) : W p l e R s m args below meth c H locs cells slots Q (F0 m pc ls (.ref (ad 0 0) :: rest)) :=
  z_get hC hZ (zF_0 _) rfl inX5 19 (by decide) rfl hlink rfl hdg kk
theorem gX5_20 (hC : ZC p m meth c s own cc nL) (hZ : ZS D ca base ad n np μ s H locs) {index : Nat} (hlink : Cond.fieldLink own index RX5 "copies" "[I" ∈ lw_tbl) (hdg : decode cc pc = .ok (.getfield index, 3)) (kk : W p l e R s m args below meth c H locs cells slots Q (F0 m (pc + 3) ls (.ref (ad 16 0) :: rest))) : W p l e R s m args below meth c H locs cells slots Q (F0 m pc ls (.ref (ad 0 0) :: rest)) :=
  z_get hC hZ (zF_0 _) rfl inX5 20 (by decide) rfl hlink rfl hdg kk
theorem gX5_21 (hC : ZC p m meth c s own cc nL) (hZ : ZS D ca base ad n np μ s H locs) {index : Nat} (hlink : Cond.fieldLink own index RX5 "grown" "[I" ∈ lw_tbl) (hdg : decode cc pc = .ok (.getfield index, 3)) (kk : W p l e R s m args below meth c H locs cells slots Q (F0 m (pc + 3) ls (.ref (ad 17 0) :: rest))) : W p l e R s m args below meth c H locs cells slots Q (F0 m pc ls (.ref (ad 0 0) :: rest)) :=
  z_get hC hZ (zF_0 _) rfl inX5 21 (by decide) rfl hlink rfl hdg kk
theorem gX5_22 (hC : ZC p m meth c s own cc nL) (hZ : ZS D ca base ad n np μ s H locs) {index : Nat} (hlink : Cond.fieldLink own index RX5 "has" "[I" ∈ lw_tbl) (hdg : decode cc pc = .ok (.getfield index, 3)) (kk : W p l e R s m args below meth c H locs cells slots Q (F0 m (pc + 3) ls (.ref (ad 18 0) :: rest))) : W p l e R s m args below meth c H locs cells slots Q (F0 m pc ls (.ref (ad 0 0) :: rest)) :=
  z_get hC hZ (zF_0 _) rfl inX5 22 (by decide) rfl hlink rfl hdg kk
theorem gX5_23 (hC : ZC p m meth c s own cc nL) (hZ : ZS D ca base ad n np μ s H locs) {index : Nat} (hlink : Cond.fieldLink own index RX5 "open" "[I" ∈ lw_tbl) (hdg : decode cc pc = .ok (.getfield index, 3)) (kk : W p l e R s m args below meth c H locs cells slots Q (F0 m (pc + 3) ls (.ref (ad 19 0) :: rest))) : W p l e R s m args below meth c H locs cells slots Q (F0 m pc ls (.ref (ad 0 0) :: rest)) :=
  z_get hC hZ (zF_0 _) rfl inX5 23 (by decide) rfl hlink rfl hdg kk
theorem gX5_24 (hC : ZC p m meth c s own cc nL) (hZ : ZS D ca base ad n np μ s H locs) {index : Nat} (hlink : Cond.fieldLink own index RX5 "held" "[I" ∈ lw_tbl) (hdg : decode cc pc = .ok (.getfield index, 3)) (kk : W p l e R s m args below meth c H locs cells slots Q (F0 m (pc + 3) ls (.ref (ad 20 0) :: rest))) : W p l e R s m args below meth c H locs cells slots Q (F0 m pc ls (.ref (ad 0 0) :: rest)) :=
  z_get hC hZ (zF_0 _) rfl inX5 24 (by decide) rfl hlink rfl hdg kk
theorem gX5_25 (hC : ZC p m meth c s own cc nL) (hZ : ZS D ca base ad n np μ s H locs) {index : Nat} (hlink : Cond.fieldLink own index RX5 "thrown" "I" ∈ lw_tbl) (hdg : decode cc pc = .ok (.getfield index, 3)) (kk : W p l e R s m args below meth c H locs cells slots Q (F0 m (pc + 3) ls (.int (μ 0 0 25) :: rest))) : W p l e R s m args below meth c H locs cells slots Q (F0 m pc ls (.ref (ad 0 0) :: rest)) :=
  z_get hC hZ (zF_0 _) rfl inX5 25 (by decide) rfl hlink rfl hdg kk
theorem pX5_25 (hC : ZC p m meth c s own cc nL) (hZ : ZS D ca base ad n np μ s H locs) {index : Nat} (hlink : Cond.fieldLink own index RX5 "thrown" "I" ∈ lw_tbl) {x : Int32} (hdg : decode cc pc = .ok (.putfield index, 3)) (kk : ∀ (μ1 : Mem) (H1 : Heap) (locs1 : List Loc), μ1 = zst μ 0 0 25 x → ZS D ca base ad n np μ1 s H1 locs1 → W p l e R s m args below meth c H1 locs1 cells slots Q (F0 m (pc + 3) ls (rest))) : W p l e R s m args below meth c H locs cells slots Q (F0 m pc ls (.int x :: .ref (ad 0 0) :: rest)) :=
  z_put hC hZ (zF_0 _) rfl inX5 tyX5 tyX5_ok nmX5 25 (by decide) rfl rfl hlink rfl rfl (Nat.le_of_ble_eq_true rfl) (zF_0 _) hdg (fun H1 locs1 h => kk _ H1 locs1 rfl h)
theorem zF_1 (r : Nat → Int32) : zF ad ca n np 1 0 r = some (.inl (ca 0, 10, .inl r)) := rfl
theorem aL_1 (hC : ZC p m meth c s own cc nL) (hZ : ZS D ca base ad n np μ s H locs) {x : Int32} (hin : vp_in x 10) (hdg : decode cc pc = .ok (.iaload, 1)) (kk : W p l e R s m args below meth c H locs cells slots Q (F0 m (pc + 1) ls (.int (μ 1 0 x.toNatClampNeg) :: rest))) : W p l e R s m args below meth c H locs cells slots Q (F0 m pc ls (.int x :: .ref (ad 1 0) :: rest)) :=
  z_iald hC hZ (zF_1 _) (t := 0) rfl hin hdg kk
theorem aS_1 (hC : ZC p m meth c s own cc nL) (hZ : ZS D ca base ad n np μ s H locs) {x y : Int32} (hin : vp_in x 10) (hdg : decode cc pc = .ok (.iastore, 1)) (kk : ∀ (μ1 : Mem) (H1 : Heap) (locs1 : List Loc), μ1 = zst μ 1 0 x.toNatClampNeg y → ZS D ca base ad n np μ1 s H1 locs1 → W p l e R s m args below meth c H1 locs1 cells slots Q (F0 m (pc + 1) ls (rest))) : W p l e R s m args below meth c H locs cells slots Q (F0 m pc ls (.int y :: .int x :: .ref (ad 1 0) :: rest)) :=
  z_iast hC hZ (fun r => zF_1 r) (t := 0) rfl hin hdg (fun H1 locs1 h => kk _ H1 locs1 rfl h)
theorem aN_1 (hC : ZC p m meth c s own cc nL) (hZ : ZS D ca base ad n np μ s H locs) (hdg : decode cc pc = .ok (.arraylength, 1)) (kk : W p l e R s m args below meth c H locs cells slots Q (F0 m (pc + 1) ls (.int 10 :: rest))) : W p l e R s m args below meth c H locs cells slots Q (F0 m pc ls (.ref (ad 1 0) :: rest)) :=
  z_alen hC hZ (zF_1 _) (t := 0) (ty := .int) rfl rfl hdg kk
theorem zF_2 (r : Nat → Int32) : zF ad ca n np 2 0 r = some (.inl (ca 0, 10, .inl r)) := rfl
theorem aL_2 (hC : ZC p m meth c s own cc nL) (hZ : ZS D ca base ad n np μ s H locs) {x : Int32} (hin : vp_in x 10) (hdg : decode cc pc = .ok (.iaload, 1)) (kk : W p l e R s m args below meth c H locs cells slots Q (F0 m (pc + 1) ls (.int (μ 2 0 x.toNatClampNeg) :: rest))) : W p l e R s m args below meth c H locs cells slots Q (F0 m pc ls (.int x :: .ref (ad 2 0) :: rest)) :=
  z_iald hC hZ (zF_2 _) (t := 0) rfl hin hdg kk
theorem aS_2 (hC : ZC p m meth c s own cc nL) (hZ : ZS D ca base ad n np μ s H locs) {x y : Int32} (hin : vp_in x 10) (hdg : decode cc pc = .ok (.iastore, 1)) (kk : ∀ (μ1 : Mem) (H1 : Heap) (locs1 : List Loc), μ1 = zst μ 2 0 x.toNatClampNeg y → ZS D ca base ad n np μ1 s H1 locs1 → W p l e R s m args below meth c H1 locs1 cells slots Q (F0 m (pc + 1) ls (rest))) : W p l e R s m args below meth c H locs cells slots Q (F0 m pc ls (.int y :: .int x :: .ref (ad 2 0) :: rest)) :=
  z_iast hC hZ (fun r => zF_2 r) (t := 0) rfl hin hdg (fun H1 locs1 h => kk _ H1 locs1 rfl h)
theorem aN_2 (hC : ZC p m meth c s own cc nL) (hZ : ZS D ca base ad n np μ s H locs) (hdg : decode cc pc = .ok (.arraylength, 1)) (kk : W p l e R s m args below meth c H locs cells slots Q (F0 m (pc + 1) ls (.int 10 :: rest))) : W p l e R s m args below meth c H locs cells slots Q (F0 m pc ls (.ref (ad 2 0) :: rest)) :=
  z_alen hC hZ (zF_2 _) (t := 0) (ty := .int) rfl rfl hdg kk
theorem zF_3 (r : Nat → Int32) : zF ad ca n np 3 0 r = some (.inl (ca 0, 10, .inl r)) := rfl
theorem aL_3 (hC : ZC p m meth c s own cc nL) (hZ : ZS D ca base ad n np μ s H locs) {x : Int32} (hin : vp_in x 10) (hdg : decode cc pc = .ok (.iaload, 1)) (kk : W p l e R s m args below meth c H locs cells slots Q (F0 m (pc + 1) ls (.int (μ 3 0 x.toNatClampNeg) :: rest))) : W p l e R s m args below meth c H locs cells slots Q (F0 m pc ls (.int x :: .ref (ad 3 0) :: rest)) :=
  z_iald hC hZ (zF_3 _) (t := 0) rfl hin hdg kk
theorem aS_3 (hC : ZC p m meth c s own cc nL) (hZ : ZS D ca base ad n np μ s H locs) {x y : Int32} (hin : vp_in x 10) (hdg : decode cc pc = .ok (.iastore, 1)) (kk : ∀ (μ1 : Mem) (H1 : Heap) (locs1 : List Loc), μ1 = zst μ 3 0 x.toNatClampNeg y → ZS D ca base ad n np μ1 s H1 locs1 → W p l e R s m args below meth c H1 locs1 cells slots Q (F0 m (pc + 1) ls (rest))) : W p l e R s m args below meth c H locs cells slots Q (F0 m pc ls (.int y :: .int x :: .ref (ad 3 0) :: rest)) :=
  z_iast hC hZ (fun r => zF_3 r) (t := 0) rfl hin hdg (fun H1 locs1 h => kk _ H1 locs1 rfl h)
theorem aN_3 (hC : ZC p m meth c s own cc nL) (hZ : ZS D ca base ad n np μ s H locs) (hdg : decode cc pc = .ok (.arraylength, 1)) (kk : W p l e R s m args below meth c H locs cells slots Q (F0 m (pc + 1) ls (.int 10 :: rest))) : W p l e R s m args below meth c H locs cells slots Q (F0 m pc ls (.ref (ad 3 0) :: rest)) :=
  z_alen hC hZ (zF_3 _) (t := 0) (ty := .int) rfl rfl hdg kk
theorem zF_4 (r : Nat → Int32) : zF ad ca n np 4 0 r = some (.inl (ca 0, 10, .inl r)) := rfl
theorem aL_4 (hC : ZC p m meth c s own cc nL) (hZ : ZS D ca base ad n np μ s H locs) {x : Int32} (hin : vp_in x 10) (hdg : decode cc pc = .ok (.iaload, 1)) (kk : W p l e R s m args below meth c H locs cells slots Q (F0 m (pc + 1) ls (.int (μ 4 0 x.toNatClampNeg) :: rest))) : W p l e R s m args below meth c H locs cells slots Q (F0 m pc ls (.int x :: .ref (ad 4 0) :: rest)) :=
  z_iald hC hZ (zF_4 _) (t := 0) rfl hin hdg kk
theorem aS_4 (hC : ZC p m meth c s own cc nL) (hZ : ZS D ca base ad n np μ s H locs) {x y : Int32} (hin : vp_in x 10) (hdg : decode cc pc = .ok (.iastore, 1)) (kk : ∀ (μ1 : Mem) (H1 : Heap) (locs1 : List Loc), μ1 = zst μ 4 0 x.toNatClampNeg y → ZS D ca base ad n np μ1 s H1 locs1 → W p l e R s m args below meth c H1 locs1 cells slots Q (F0 m (pc + 1) ls (rest))) : W p l e R s m args below meth c H locs cells slots Q (F0 m pc ls (.int y :: .int x :: .ref (ad 4 0) :: rest)) :=
  z_iast hC hZ (fun r => zF_4 r) (t := 0) rfl hin hdg (fun H1 locs1 h => kk _ H1 locs1 rfl h)
theorem aN_4 (hC : ZC p m meth c s own cc nL) (hZ : ZS D ca base ad n np μ s H locs) (hdg : decode cc pc = .ok (.arraylength, 1)) (kk : W p l e R s m args below meth c H locs cells slots Q (F0 m (pc + 1) ls (.int 10 :: rest))) : W p l e R s m args below meth c H locs cells slots Q (F0 m pc ls (.ref (ad 4 0) :: rest)) :=
  z_alen hC hZ (zF_4 _) (t := 0) (ty := .int) rfl rfl hdg kk
theorem zF_5 (r : Nat → Int32) : zF ad ca n np 5 0 r = some (.inl (ca 0, 50, .inl r)) := rfl
theorem aL_5 (hC : ZC p m meth c s own cc nL) (hZ : ZS D ca base ad n np μ s H locs) {x : Int32} (hin : vp_in x 50) (hdg : decode cc pc = .ok (.iaload, 1)) (kk : W p l e R s m args below meth c H locs cells slots Q (F0 m (pc + 1) ls (.int (μ 5 0 x.toNatClampNeg) :: rest))) : W p l e R s m args below meth c H locs cells slots Q (F0 m pc ls (.int x :: .ref (ad 5 0) :: rest)) :=
  z_iald hC hZ (zF_5 _) (t := 0) rfl hin hdg kk
theorem aS_5 (hC : ZC p m meth c s own cc nL) (hZ : ZS D ca base ad n np μ s H locs) {x y : Int32} (hin : vp_in x 50) (hdg : decode cc pc = .ok (.iastore, 1)) (kk : ∀ (μ1 : Mem) (H1 : Heap) (locs1 : List Loc), μ1 = zst μ 5 0 x.toNatClampNeg y → ZS D ca base ad n np μ1 s H1 locs1 → W p l e R s m args below meth c H1 locs1 cells slots Q (F0 m (pc + 1) ls (rest))) : W p l e R s m args below meth c H locs cells slots Q (F0 m pc ls (.int y :: .int x :: .ref (ad 5 0) :: rest)) :=
  z_iast hC hZ (fun r => zF_5 r) (t := 0) rfl hin hdg (fun H1 locs1 h => kk _ H1 locs1 rfl h)
theorem aN_5 (hC : ZC p m meth c s own cc nL) (hZ : ZS D ca base ad n np μ s H locs) (hdg : decode cc pc = .ok (.arraylength, 1)) (kk : W p l e R s m args below meth c H locs cells slots Q (F0 m (pc + 1) ls (.int 50 :: rest))) : W p l e R s m args below meth c H locs cells slots Q (F0 m pc ls (.ref (ad 5 0) :: rest)) :=
  z_alen hC hZ (zF_5 _) (t := 0) (ty := .int) rfl rfl hdg kk
theorem zF_6 (r : Nat → Int32) : zF ad ca n np 6 0 r = some (.inl (ca 0, 50, .inl r)) := rfl
theorem aL_6 (hC : ZC p m meth c s own cc nL) (hZ : ZS D ca base ad n np μ s H locs) {x : Int32} (hin : vp_in x 50) (hdg : decode cc pc = .ok (.iaload, 1)) (kk : W p l e R s m args below meth c H locs cells slots Q (F0 m (pc + 1) ls (.int (μ 6 0 x.toNatClampNeg) :: rest))) : W p l e R s m args below meth c H locs cells slots Q (F0 m pc ls (.int x :: .ref (ad 6 0) :: rest)) :=
  z_iald hC hZ (zF_6 _) (t := 0) rfl hin hdg kk
theorem aS_6 (hC : ZC p m meth c s own cc nL) (hZ : ZS D ca base ad n np μ s H locs) {x y : Int32} (hin : vp_in x 50) (hdg : decode cc pc = .ok (.iastore, 1)) (kk : ∀ (μ1 : Mem) (H1 : Heap) (locs1 : List Loc), μ1 = zst μ 6 0 x.toNatClampNeg y → ZS D ca base ad n np μ1 s H1 locs1 → W p l e R s m args below meth c H1 locs1 cells slots Q (F0 m (pc + 1) ls (rest))) : W p l e R s m args below meth c H locs cells slots Q (F0 m pc ls (.int y :: .int x :: .ref (ad 6 0) :: rest)) :=
  z_iast hC hZ (fun r => zF_6 r) (t := 0) rfl hin hdg (fun H1 locs1 h => kk _ H1 locs1 rfl h)
theorem aN_6 (hC : ZC p m meth c s own cc nL) (hZ : ZS D ca base ad n np μ s H locs) (hdg : decode cc pc = .ok (.arraylength, 1)) (kk : W p l e R s m args below meth c H locs cells slots Q (F0 m (pc + 1) ls (.int 50 :: rest))) : W p l e R s m args below meth c H locs cells slots Q (F0 m pc ls (.ref (ad 6 0) :: rest)) :=
  z_alen hC hZ (zF_6 _) (t := 0) (ty := .int) rfl rfl hdg kk
theorem zF_7 (r : Nat → Int32) : zF ad ca n np 7 0 r = some (.inl (ca 0, 50, .inl r)) := rfl
theorem aL_7 (hC : ZC p m meth c s own cc nL) (hZ : ZS D ca base ad n np μ s H locs) {x : Int32} (hin : vp_in x 50) (hdg : decode cc pc = .ok (.iaload, 1)) (kk : W p l e R s m args below meth c H locs cells slots Q (F0 m (pc + 1) ls (.int (μ 7 0 x.toNatClampNeg) :: rest))) : W p l e R s m args below meth c H locs cells slots Q (F0 m pc ls (.int x :: .ref (ad 7 0) :: rest)) :=
  z_iald hC hZ (zF_7 _) (t := 0) rfl hin hdg kk
theorem aS_7 (hC : ZC p m meth c s own cc nL) (hZ : ZS D ca base ad n np μ s H locs) {x y : Int32} (hin : vp_in x 50) (hdg : decode cc pc = .ok (.iastore, 1)) (kk : ∀ (μ1 : Mem) (H1 : Heap) (locs1 : List Loc), μ1 = zst μ 7 0 x.toNatClampNeg y → ZS D ca base ad n np μ1 s H1 locs1 → W p l e R s m args below meth c H1 locs1 cells slots Q (F0 m (pc + 1) ls (rest))) : W p l e R s m args below meth c H locs cells slots Q (F0 m pc ls (.int y :: .int x :: .ref (ad 7 0) :: rest)) :=
  z_iast hC hZ (fun r => zF_7 r) (t := 0) rfl hin hdg (fun H1 locs1 h => kk _ H1 locs1 rfl h)
theorem aN_7 (hC : ZC p m meth c s own cc nL) (hZ : ZS D ca base ad n np μ s H locs) (hdg : decode cc pc = .ok (.arraylength, 1)) (kk : W p l e R s m args below meth c H locs cells slots Q (F0 m (pc + 1) ls (.int 50 :: rest))) : W p l e R s m args below meth c H locs cells slots Q (F0 m pc ls (.ref (ad 7 0) :: rest)) :=
  z_alen hC hZ (zF_7 _) (t := 0) (ty := .int) rfl rfl hdg kk
theorem zF_8 (r : Nat → Int32) : zF ad ca n np 8 0 r = some (.inl (ca 0, 30, .inl r)) := rfl
theorem aL_8 (hC : ZC p m meth c s own cc nL) (hZ : ZS D ca base ad n np μ s H locs) {x : Int32} (hin : vp_in x 30) (hdg : decode cc pc = .ok (.iaload, 1)) (kk : W p l e R s m args below meth c H locs cells slots Q (F0 m (pc + 1) ls (.int (μ 8 0 x.toNatClampNeg) :: rest))) : W p l e R s m args below meth c H locs cells slots Q (F0 m pc ls (.int x :: .ref (ad 8 0) :: rest)) :=
  z_iald hC hZ (zF_8 _) (t := 0) rfl hin hdg kk
theorem aS_8 (hC : ZC p m meth c s own cc nL) (hZ : ZS D ca base ad n np μ s H locs) {x y : Int32} (hin : vp_in x 30) (hdg : decode cc pc = .ok (.iastore, 1)) (kk : ∀ (μ1 : Mem) (H1 : Heap) (locs1 : List Loc), μ1 = zst μ 8 0 x.toNatClampNeg y → ZS D ca base ad n np μ1 s H1 locs1 → W p l e R s m args below meth c H1 locs1 cells slots Q (F0 m (pc + 1) ls (rest))) : W p l e R s m args below meth c H locs cells slots Q (F0 m pc ls (.int y :: .int x :: .ref (ad 8 0) :: rest)) :=
  z_iast hC hZ (fun r => zF_8 r) (t := 0) rfl hin hdg (fun H1 locs1 h => kk _ H1 locs1 rfl h)
theorem aN_8 (hC : ZC p m meth c s own cc nL) (hZ : ZS D ca base ad n np μ s H locs) (hdg : decode cc pc = .ok (.arraylength, 1)) (kk : W p l e R s m args below meth c H locs cells slots Q (F0 m (pc + 1) ls (.int 30 :: rest))) : W p l e R s m args below meth c H locs cells slots Q (F0 m pc ls (.ref (ad 8 0) :: rest)) :=
  z_alen hC hZ (zF_8 _) (t := 0) (ty := .int) rfl rfl hdg kk
theorem zF_9 (r : Nat → Int32) : zF ad ca n np 9 0 r = some (.inl (ca 0, 20, .inl r)) := rfl
theorem aL_9 (hC : ZC p m meth c s own cc nL) (hZ : ZS D ca base ad n np μ s H locs) {x : Int32} (hin : vp_in x 20) (hdg : decode cc pc = .ok (.iaload, 1)) (kk : W p l e R s m args below meth c H locs cells slots Q (F0 m (pc + 1) ls (.int (μ 9 0 x.toNatClampNeg) :: rest))) : W p l e R s m args below meth c H locs cells slots Q (F0 m pc ls (.int x :: .ref (ad 9 0) :: rest)) :=
  z_iald hC hZ (zF_9 _) (t := 0) rfl hin hdg kk
theorem aS_9 (hC : ZC p m meth c s own cc nL) (hZ : ZS D ca base ad n np μ s H locs) {x y : Int32} (hin : vp_in x 20) (hdg : decode cc pc = .ok (.iastore, 1)) (kk : ∀ (μ1 : Mem) (H1 : Heap) (locs1 : List Loc), μ1 = zst μ 9 0 x.toNatClampNeg y → ZS D ca base ad n np μ1 s H1 locs1 → W p l e R s m args below meth c H1 locs1 cells slots Q (F0 m (pc + 1) ls (rest))) : W p l e R s m args below meth c H locs cells slots Q (F0 m pc ls (.int y :: .int x :: .ref (ad 9 0) :: rest)) :=
  z_iast hC hZ (fun r => zF_9 r) (t := 0) rfl hin hdg (fun H1 locs1 h => kk _ H1 locs1 rfl h)
theorem aN_9 (hC : ZC p m meth c s own cc nL) (hZ : ZS D ca base ad n np μ s H locs) (hdg : decode cc pc = .ok (.arraylength, 1)) (kk : W p l e R s m args below meth c H locs cells slots Q (F0 m (pc + 1) ls (.int 20 :: rest))) : W p l e R s m args below meth c H locs cells slots Q (F0 m pc ls (.ref (ad 9 0) :: rest)) :=
  z_alen hC hZ (zF_9 _) (t := 0) (ty := .int) rfl rfl hdg kk
theorem zF_10 (r : Nat → Int32) : zF ad ca n np 10 0 r = some (.inl (ca 0, 20, .inl r)) := rfl
theorem aL_10 (hC : ZC p m meth c s own cc nL) (hZ : ZS D ca base ad n np μ s H locs) {x : Int32} (hin : vp_in x 20) (hdg : decode cc pc = .ok (.iaload, 1)) (kk : W p l e R s m args below meth c H locs cells slots Q (F0 m (pc + 1) ls (.int (μ 10 0 x.toNatClampNeg) :: rest))) : W p l e R s m args below meth c H locs cells slots Q (F0 m pc ls (.int x :: .ref (ad 10 0) :: rest)) :=
  z_iald hC hZ (zF_10 _) (t := 0) rfl hin hdg kk
theorem aS_10 (hC : ZC p m meth c s own cc nL) (hZ : ZS D ca base ad n np μ s H locs) {x y : Int32} (hin : vp_in x 20) (hdg : decode cc pc = .ok (.iastore, 1)) (kk : ∀ (μ1 : Mem) (H1 : Heap) (locs1 : List Loc), μ1 = zst μ 10 0 x.toNatClampNeg y → ZS D ca base ad n np μ1 s H1 locs1 → W p l e R s m args below meth c H1 locs1 cells slots Q (F0 m (pc + 1) ls (rest))) : W p l e R s m args below meth c H locs cells slots Q (F0 m pc ls (.int y :: .int x :: .ref (ad 10 0) :: rest)) :=
  z_iast hC hZ (fun r => zF_10 r) (t := 0) rfl hin hdg (fun H1 locs1 h => kk _ H1 locs1 rfl h)
theorem aN_10 (hC : ZC p m meth c s own cc nL) (hZ : ZS D ca base ad n np μ s H locs) (hdg : decode cc pc = .ok (.arraylength, 1)) (kk : W p l e R s m args below meth c H locs cells slots Q (F0 m (pc + 1) ls (.int 20 :: rest))) : W p l e R s m args below meth c H locs cells slots Q (F0 m pc ls (.ref (ad 10 0) :: rest)) :=
  z_alen hC hZ (zF_10 _) (t := 0) (ty := .int) rfl rfl hdg kk
theorem zF_11 (r : Nat → Int32) : zF ad ca n np 11 0 r = some (.inl (ca 0, 20, .inl r)) := rfl
theorem aL_11 (hC : ZC p m meth c s own cc nL) (hZ : ZS D ca base ad n np μ s H locs) {x : Int32} (hin : vp_in x 20) (hdg : decode cc pc = .ok (.iaload, 1)) (kk : W p l e R s m args below meth c H locs cells slots Q (F0 m (pc + 1) ls (.int (μ 11 0 x.toNatClampNeg) :: rest))) : W p l e R s m args below meth c H locs cells slots Q (F0 m pc ls (.int x :: .ref (ad 11 0) :: rest)) :=
  z_iald hC hZ (zF_11 _) (t := 0) rfl hin hdg kk
theorem aS_11 (hC : ZC p m meth c s own cc nL) (hZ : ZS D ca base ad n np μ s H locs) {x y : Int32} (hin : vp_in x 20) (hdg : decode cc pc = .ok (.iastore, 1)) (kk : ∀ (μ1 : Mem) (H1 : Heap) (locs1 : List Loc), μ1 = zst μ 11 0 x.toNatClampNeg y → ZS D ca base ad n np μ1 s H1 locs1 → W p l e R s m args below meth c H1 locs1 cells slots Q (F0 m (pc + 1) ls (rest))) : W p l e R s m args below meth c H locs cells slots Q (F0 m pc ls (.int y :: .int x :: .ref (ad 11 0) :: rest)) :=
  z_iast hC hZ (fun r => zF_11 r) (t := 0) rfl hin hdg (fun H1 locs1 h => kk _ H1 locs1 rfl h)
theorem aN_11 (hC : ZC p m meth c s own cc nL) (hZ : ZS D ca base ad n np μ s H locs) (hdg : decode cc pc = .ok (.arraylength, 1)) (kk : W p l e R s m args below meth c H locs cells slots Q (F0 m (pc + 1) ls (.int 20 :: rest))) : W p l e R s m args below meth c H locs cells slots Q (F0 m pc ls (.ref (ad 11 0) :: rest)) :=
  z_alen hC hZ (zF_11 _) (t := 0) (ty := .int) rfl rfl hdg kk
theorem zF_12 (r : Nat → Int32) : zF ad ca n np 12 0 r = some (.inl (ca 0, 20, .inl r)) := rfl
theorem aL_12 (hC : ZC p m meth c s own cc nL) (hZ : ZS D ca base ad n np μ s H locs) {x : Int32} (hin : vp_in x 20) (hdg : decode cc pc = .ok (.iaload, 1)) (kk : W p l e R s m args below meth c H locs cells slots Q (F0 m (pc + 1) ls (.int (μ 12 0 x.toNatClampNeg) :: rest))) : W p l e R s m args below meth c H locs cells slots Q (F0 m pc ls (.int x :: .ref (ad 12 0) :: rest)) :=
  z_iald hC hZ (zF_12 _) (t := 0) rfl hin hdg kk
theorem aS_12 (hC : ZC p m meth c s own cc nL) (hZ : ZS D ca base ad n np μ s H locs) {x y : Int32} (hin : vp_in x 20) (hdg : decode cc pc = .ok (.iastore, 1)) (kk : ∀ (μ1 : Mem) (H1 : Heap) (locs1 : List Loc), μ1 = zst μ 12 0 x.toNatClampNeg y → ZS D ca base ad n np μ1 s H1 locs1 → W p l e R s m args below meth c H1 locs1 cells slots Q (F0 m (pc + 1) ls (rest))) : W p l e R s m args below meth c H locs cells slots Q (F0 m pc ls (.int y :: .int x :: .ref (ad 12 0) :: rest)) :=
  z_iast hC hZ (fun r => zF_12 r) (t := 0) rfl hin hdg (fun H1 locs1 h => kk _ H1 locs1 rfl h)
theorem aN_12 (hC : ZC p m meth c s own cc nL) (hZ : ZS D ca base ad n np μ s H locs) (hdg : decode cc pc = .ok (.arraylength, 1)) (kk : W p l e R s m args below meth c H locs cells slots Q (F0 m (pc + 1) ls (.int 20 :: rest))) : W p l e R s m args below meth c H locs cells slots Q (F0 m pc ls (.ref (ad 12 0) :: rest)) :=
  z_alen hC hZ (zF_12 _) (t := 0) (ty := .int) rfl rfl hdg kk
theorem zF_13 (r : Nat → Int32) : zF ad ca n np 13 0 r = some (.inl (ca 1, 20, .inl r)) := rfl
theorem aL_13 (hC : ZC p m meth c s own cc nL) (hZ : ZS D ca base ad n np μ s H locs) {x : Int32} (hin : vp_in x 20) (hdg : decode cc pc = .ok (.baload, 1)) (kk : W p l e R s m args below meth c H locs cells slots Q (F0 m (pc + 1) ls (.int (μ 13 0 x.toNatClampNeg) :: rest))) : W p l e R s m args below meth c H locs cells slots Q (F0 m pc ls (.int x :: .ref (ad 13 0) :: rest)) :=
  z_zald hC hZ (zF_13 _) (t := 1) rfl hin hdg kk
theorem aS_13 (hC : ZC p m meth c s own cc nL) (hZ : ZS D ca base ad n np μ s H locs) {x y : Int32} (hin : vp_in x 20) (hy : y = 0 ∨ y = 1) (hdg : decode cc pc = .ok (.bastore, 1)) (kk : ∀ (μ1 : Mem) (H1 : Heap) (locs1 : List Loc), μ1 = zst μ 13 0 x.toNatClampNeg y → ZS D ca base ad n np μ1 s H1 locs1 → W p l e R s m args below meth c H1 locs1 cells slots Q (F0 m (pc + 1) ls (rest))) : W p l e R s m args below meth c H locs cells slots Q (F0 m pc ls (.int y :: .int x :: .ref (ad 13 0) :: rest)) :=
  z_zast hC hZ (fun r => zF_13 r) (t := 1) rfl hin (by rcases hy with rfl | rfl <;> rfl) hdg (fun H1 locs1 h => kk _ H1 locs1 rfl h)
theorem aN_13 (hC : ZC p m meth c s own cc nL) (hZ : ZS D ca base ad n np μ s H locs) (hdg : decode cc pc = .ok (.arraylength, 1)) (kk : W p l e R s m args below meth c H locs cells slots Q (F0 m (pc + 1) ls (.int 20 :: rest))) : W p l e R s m args below meth c H locs cells slots Q (F0 m pc ls (.ref (ad 13 0) :: rest)) :=
  z_alen hC hZ (zF_13 _) (t := 1) (ty := .boolean) rfl rfl hdg kk
theorem zF_14 (r : Nat → Int32) : zF ad ca n np 14 0 r = some (.inl (ca 1, 150, .inl r)) := rfl
theorem aL_14 (hC : ZC p m meth c s own cc nL) (hZ : ZS D ca base ad n np μ s H locs) {x : Int32} (hin : vp_in x 150) (hdg : decode cc pc = .ok (.baload, 1)) (kk : W p l e R s m args below meth c H locs cells slots Q (F0 m (pc + 1) ls (.int (μ 14 0 x.toNatClampNeg) :: rest))) : W p l e R s m args below meth c H locs cells slots Q (F0 m pc ls (.int x :: .ref (ad 14 0) :: rest)) :=
  z_zald hC hZ (zF_14 _) (t := 1) rfl hin hdg kk
theorem aS_14 (hC : ZC p m meth c s own cc nL) (hZ : ZS D ca base ad n np μ s H locs) {x y : Int32} (hin : vp_in x 150) (hy : y = 0 ∨ y = 1) (hdg : decode cc pc = .ok (.bastore, 1)) (kk : ∀ (μ1 : Mem) (H1 : Heap) (locs1 : List Loc), μ1 = zst μ 14 0 x.toNatClampNeg y → ZS D ca base ad n np μ1 s H1 locs1 → W p l e R s m args below meth c H1 locs1 cells slots Q (F0 m (pc + 1) ls (rest))) : W p l e R s m args below meth c H locs cells slots Q (F0 m pc ls (.int y :: .int x :: .ref (ad 14 0) :: rest)) :=
  z_zast hC hZ (fun r => zF_14 r) (t := 1) rfl hin (by rcases hy with rfl | rfl <;> rfl) hdg (fun H1 locs1 h => kk _ H1 locs1 rfl h)
theorem aN_14 (hC : ZC p m meth c s own cc nL) (hZ : ZS D ca base ad n np μ s H locs) (hdg : decode cc pc = .ok (.arraylength, 1)) (kk : W p l e R s m args below meth c H locs cells slots Q (F0 m (pc + 1) ls (.int 150 :: rest))) : W p l e R s m args below meth c H locs cells slots Q (F0 m pc ls (.ref (ad 14 0) :: rest)) :=
  z_alen hC hZ (zF_14 _) (t := 1) (ty := .boolean) rfl rfl hdg kk
theorem zF_15 (r : Nat → Int32) : zF ad ca n np 15 0 r = some (.inl (ca 0, 5, .inl r)) := rfl
theorem aL_15 (hC : ZC p m meth c s own cc nL) (hZ : ZS D ca base ad n np μ s H locs) {x : Int32} (hin : vp_in x 5) (hdg : decode cc pc = .ok (.iaload, 1)) (kk : W p l e R s m args below meth c H locs cells slots Q (F0 m (pc + 1) ls (.int (μ 15 0 x.toNatClampNeg) :: rest))) : W p l e R s m args below meth c H locs cells slots Q (F0 m pc ls (.int x :: .ref (ad 15 0) :: rest)) :=
  z_iald hC hZ (zF_15 _) (t := 0) rfl hin hdg kk
theorem aS_15 (hC : ZC p m meth c s own cc nL) (hZ : ZS D ca base ad n np μ s H locs) {x y : Int32} (hin : vp_in x 5) (hdg : decode cc pc = .ok (.iastore, 1)) (kk : ∀ (μ1 : Mem) (H1 : Heap) (locs1 : List Loc), μ1 = zst μ 15 0 x.toNatClampNeg y → ZS D ca base ad n np μ1 s H1 locs1 → W p l e R s m args below meth c H1 locs1 cells slots Q (F0 m (pc + 1) ls (rest))) : W p l e R s m args below meth c H locs cells slots Q (F0 m pc ls (.int y :: .int x :: .ref (ad 15 0) :: rest)) :=
  z_iast hC hZ (fun r => zF_15 r) (t := 0) rfl hin hdg (fun H1 locs1 h => kk _ H1 locs1 rfl h)
theorem aN_15 (hC : ZC p m meth c s own cc nL) (hZ : ZS D ca base ad n np μ s H locs) (hdg : decode cc pc = .ok (.arraylength, 1)) (kk : W p l e R s m args below meth c H locs cells slots Q (F0 m (pc + 1) ls (.int 5 :: rest))) : W p l e R s m args below meth c H locs cells slots Q (F0 m pc ls (.ref (ad 15 0) :: rest)) :=
  z_alen hC hZ (zF_15 _) (t := 0) (ty := .int) rfl rfl hdg kk
theorem zF_16 (r : Nat → Int32) : zF ad ca n np 16 0 r = some (.inl (ca 0, 20, .inl r)) := rfl
theorem aL_16 (hC : ZC p m meth c s own cc nL) (hZ : ZS D ca base ad n np μ s H locs) {x : Int32} (hin : vp_in x 20) (hdg : decode cc pc = .ok (.iaload, 1)) (kk : W p l e R s m args below meth c H locs cells slots Q (F0 m (pc + 1) ls (.int (μ 16 0 x.toNatClampNeg) :: rest))) : W p l e R s m args below meth c H locs cells slots Q (F0 m pc ls (.int x :: .ref (ad 16 0) :: rest)) :=
  z_iald hC hZ (zF_16 _) (t := 0) rfl hin hdg kk
theorem aS_16 (hC : ZC p m meth c s own cc nL) (hZ : ZS D ca base ad n np μ s H locs) {x y : Int32} (hin : vp_in x 20) (hdg : decode cc pc = .ok (.iastore, 1)) (kk : ∀ (μ1 : Mem) (H1 : Heap) (locs1 : List Loc), μ1 = zst μ 16 0 x.toNatClampNeg y → ZS D ca base ad n np μ1 s H1 locs1 → W p l e R s m args below meth c H1 locs1 cells slots Q (F0 m (pc + 1) ls (rest))) : W p l e R s m args below meth c H locs cells slots Q (F0 m pc ls (.int y :: .int x :: .ref (ad 16 0) :: rest)) :=
  z_iast hC hZ (fun r => zF_16 r) (t := 0) rfl hin hdg (fun H1 locs1 h => kk _ H1 locs1 rfl h)
theorem aN_16 (hC : ZC p m meth c s own cc nL) (hZ : ZS D ca base ad n np μ s H locs) (hdg : decode cc pc = .ok (.arraylength, 1)) (kk : W p l e R s m args below meth c H locs cells slots Q (F0 m (pc + 1) ls (.int 20 :: rest))) : W p l e R s m args below meth c H locs cells slots Q (F0 m pc ls (.ref (ad 16 0) :: rest)) :=
  z_alen hC hZ (zF_16 _) (t := 0) (ty := .int) rfl rfl hdg kk
theorem zF_17 (r : Nat → Int32) : zF ad ca n np 17 0 r = some (.inl (ca 0, 5, .inl r)) := rfl
theorem aL_17 (hC : ZC p m meth c s own cc nL) (hZ : ZS D ca base ad n np μ s H locs) {x : Int32} (hin : vp_in x 5) (hdg : decode cc pc = .ok (.iaload, 1)) (kk : W p l e R s m args below meth c H locs cells slots Q (F0 m (pc + 1) ls (.int (μ 17 0 x.toNatClampNeg) :: rest))) : W p l e R s m args below meth c H locs cells slots Q (F0 m pc ls (.int x :: .ref (ad 17 0) :: rest)) :=
  z_iald hC hZ (zF_17 _) (t := 0) rfl hin hdg kk
theorem aS_17 (hC : ZC p m meth c s own cc nL) (hZ : ZS D ca base ad n np μ s H locs) {x y : Int32} (hin : vp_in x 5) (hdg : decode cc pc = .ok (.iastore, 1)) (kk : ∀ (μ1 : Mem) (H1 : Heap) (locs1 : List Loc), μ1 = zst μ 17 0 x.toNatClampNeg y → ZS D ca base ad n np μ1 s H1 locs1 → W p l e R s m args below meth c H1 locs1 cells slots Q (F0 m (pc + 1) ls (rest))) : W p l e R s m args below meth c H locs cells slots Q (F0 m pc ls (.int y :: .int x :: .ref (ad 17 0) :: rest)) :=
  z_iast hC hZ (fun r => zF_17 r) (t := 0) rfl hin hdg (fun H1 locs1 h => kk _ H1 locs1 rfl h)
theorem aN_17 (hC : ZC p m meth c s own cc nL) (hZ : ZS D ca base ad n np μ s H locs) (hdg : decode cc pc = .ok (.arraylength, 1)) (kk : W p l e R s m args below meth c H locs cells slots Q (F0 m (pc + 1) ls (.int 5 :: rest))) : W p l e R s m args below meth c H locs cells slots Q (F0 m pc ls (.ref (ad 17 0) :: rest)) :=
  z_alen hC hZ (zF_17 _) (t := 0) (ty := .int) rfl rfl hdg kk
theorem zF_18 (r : Nat → Int32) : zF ad ca n np 18 0 r = some (.inl (ca 0, 20, .inl r)) := rfl
theorem aL_18 (hC : ZC p m meth c s own cc nL) (hZ : ZS D ca base ad n np μ s H locs) {x : Int32} (hin : vp_in x 20) (hdg : decode cc pc = .ok (.iaload, 1)) (kk : W p l e R s m args below meth c H locs cells slots Q (F0 m (pc + 1) ls (.int (μ 18 0 x.toNatClampNeg) :: rest))) : W p l e R s m args below meth c H locs cells slots Q (F0 m pc ls (.int x :: .ref (ad 18 0) :: rest)) :=
  z_iald hC hZ (zF_18 _) (t := 0) rfl hin hdg kk
theorem aS_18 (hC : ZC p m meth c s own cc nL) (hZ : ZS D ca base ad n np μ s H locs) {x y : Int32} (hin : vp_in x 20) (hdg : decode cc pc = .ok (.iastore, 1)) (kk : ∀ (μ1 : Mem) (H1 : Heap) (locs1 : List Loc), μ1 = zst μ 18 0 x.toNatClampNeg y → ZS D ca base ad n np μ1 s H1 locs1 → W p l e R s m args below meth c H1 locs1 cells slots Q (F0 m (pc + 1) ls (rest))) : W p l e R s m args below meth c H locs cells slots Q (F0 m pc ls (.int y :: .int x :: .ref (ad 18 0) :: rest)) :=
  z_iast hC hZ (fun r => zF_18 r) (t := 0) rfl hin hdg (fun H1 locs1 h => kk _ H1 locs1 rfl h)
theorem aN_18 (hC : ZC p m meth c s own cc nL) (hZ : ZS D ca base ad n np μ s H locs) (hdg : decode cc pc = .ok (.arraylength, 1)) (kk : W p l e R s m args below meth c H locs cells slots Q (F0 m (pc + 1) ls (.int 20 :: rest))) : W p l e R s m args below meth c H locs cells slots Q (F0 m pc ls (.ref (ad 18 0) :: rest)) :=
  z_alen hC hZ (zF_18 _) (t := 0) (ty := .int) rfl rfl hdg kk
theorem zF_19 (r : Nat → Int32) : zF ad ca n np 19 0 r = some (.inl (ca 0, 10, .inl r)) := rfl
theorem aL_19 (hC : ZC p m meth c s own cc nL) (hZ : ZS D ca base ad n np μ s H locs) {x : Int32} (hin : vp_in x 10) (hdg : decode cc pc = .ok (.iaload, 1)) (kk : W p l e R s m args below meth c H locs cells slots Q (F0 m (pc + 1) ls (.int (μ 19 0 x.toNatClampNeg) :: rest))) : W p l e R s m args below meth c H locs cells slots Q (F0 m pc ls (.int x :: .ref (ad 19 0) :: rest)) :=
  z_iald hC hZ (zF_19 _) (t := 0) rfl hin hdg kk
theorem aS_19 (hC : ZC p m meth c s own cc nL) (hZ : ZS D ca base ad n np μ s H locs) {x y : Int32} (hin : vp_in x 10) (hdg : decode cc pc = .ok (.iastore, 1)) (kk : ∀ (μ1 : Mem) (H1 : Heap) (locs1 : List Loc), μ1 = zst μ 19 0 x.toNatClampNeg y → ZS D ca base ad n np μ1 s H1 locs1 → W p l e R s m args below meth c H1 locs1 cells slots Q (F0 m (pc + 1) ls (rest))) : W p l e R s m args below meth c H locs cells slots Q (F0 m pc ls (.int y :: .int x :: .ref (ad 19 0) :: rest)) :=
  z_iast hC hZ (fun r => zF_19 r) (t := 0) rfl hin hdg (fun H1 locs1 h => kk _ H1 locs1 rfl h)
theorem aN_19 (hC : ZC p m meth c s own cc nL) (hZ : ZS D ca base ad n np μ s H locs) (hdg : decode cc pc = .ok (.arraylength, 1)) (kk : W p l e R s m args below meth c H locs cells slots Q (F0 m (pc + 1) ls (.int 10 :: rest))) : W p l e R s m args below meth c H locs cells slots Q (F0 m pc ls (.ref (ad 19 0) :: rest)) :=
  z_alen hC hZ (zF_19 _) (t := 0) (ty := .int) rfl rfl hdg kk
theorem zF_20 (r : Nat → Int32) : zF ad ca n np 20 0 r = some (.inl (ca 0, 10, .inl r)) := rfl
theorem aL_20 (hC : ZC p m meth c s own cc nL) (hZ : ZS D ca base ad n np μ s H locs) {x : Int32} (hin : vp_in x 10) (hdg : decode cc pc = .ok (.iaload, 1)) (kk : W p l e R s m args below meth c H locs cells slots Q (F0 m (pc + 1) ls (.int (μ 20 0 x.toNatClampNeg) :: rest))) : W p l e R s m args below meth c H locs cells slots Q (F0 m pc ls (.int x :: .ref (ad 20 0) :: rest)) :=
  z_iald hC hZ (zF_20 _) (t := 0) rfl hin hdg kk
theorem aS_20 (hC : ZC p m meth c s own cc nL) (hZ : ZS D ca base ad n np μ s H locs) {x y : Int32} (hin : vp_in x 10) (hdg : decode cc pc = .ok (.iastore, 1)) (kk : ∀ (μ1 : Mem) (H1 : Heap) (locs1 : List Loc), μ1 = zst μ 20 0 x.toNatClampNeg y → ZS D ca base ad n np μ1 s H1 locs1 → W p l e R s m args below meth c H1 locs1 cells slots Q (F0 m (pc + 1) ls (rest))) : W p l e R s m args below meth c H locs cells slots Q (F0 m pc ls (.int y :: .int x :: .ref (ad 20 0) :: rest)) :=
  z_iast hC hZ (fun r => zF_20 r) (t := 0) rfl hin hdg (fun H1 locs1 h => kk _ H1 locs1 rfl h)
theorem aN_20 (hC : ZC p m meth c s own cc nL) (hZ : ZS D ca base ad n np μ s H locs) (hdg : decode cc pc = .ok (.arraylength, 1)) (kk : W p l e R s m args below meth c H locs cells slots Q (F0 m (pc + 1) ls (.int 10 :: rest))) : W p l e R s m args below meth c H locs cells slots Q (F0 m pc ls (.ref (ad 20 0) :: rest)) :=
  z_alen hC hZ (zF_20 _) (t := 0) (ty := .int) rfl rfl hdg kk
theorem zF_21 (r : Nat → Int32) : zF ad ca n np 21 0 r = some (.inl (ca 5, 1, .inr (.inl (fun k => (r k).toInt64)))) := rfl
theorem aL_21 (hC : ZC p m meth c s own cc nL) (hZ : ZS D ca base ad n np μ s H locs) {x : Int32} (hin : vp_in x 1) (hdg : decode cc pc = .ok (.laload, 1)) (kk : W p l e R s m args below meth c H locs cells slots Q (F0 m (pc + 1) ls (.long (μ 21 0 x.toNatClampNeg).toInt64 :: rest))) : W p l e R s m args below meth c H locs cells slots Q (F0 m pc ls (.int x :: .ref (ad 21 0) :: rest)) :=
  z_lald hC hZ (zF_21 _) (t := 5) rfl hin hdg kk
theorem aS_21 (hC : ZC p m meth c s own cc nL) (hZ : ZS D ca base ad n np μ s H locs) {x y : Int32} (hin : vp_in x 1) (hdg : decode cc pc = .ok (.lastore, 1)) (kk : ∀ (μ1 : Mem) (H1 : Heap) (locs1 : List Loc), μ1 = zst μ 21 0 x.toNatClampNeg y → ZS D ca base ad n np μ1 s H1 locs1 → W p l e R s m args below meth c H1 locs1 cells slots Q (F0 m (pc + 1) ls (rest))) : W p l e R s m args below meth c H locs cells slots Q (F0 m pc ls (.long y.toInt64 :: .int x :: .ref (ad 21 0) :: rest)) :=
  z_last hC hZ (fun r => zF_21 r) (t := 5) rfl hin hdg (fun H1 locs1 h => kk _ H1 locs1 rfl h)
theorem aN_21 (hC : ZC p m meth c s own cc nL) (hZ : ZS D ca base ad n np μ s H locs) (hdg : decode cc pc = .ok (.arraylength, 1)) (kk : W p l e R s m args below meth c H locs cells slots Q (F0 m (pc + 1) ls (.int 1 :: rest))) : W p l e R s m args below meth c H locs cells slots Q (F0 m pc ls (.ref (ad 21 0) :: rest)) :=
  z_alen hC hZ (zF_21 _) (t := 5) (ty := .long) rfl rfl hdg kk
theorem zF_31 (r : Nat → Int32) : zF ad ca n np 31 0 r = some (.inl (ca 2, 10, .inr (.inr (.inr (.inr (fun k => zr ad 70 (r k))))))) := rfl
theorem aL_31 (hC : ZC p m meth c s own cc nL) (hZ : ZS D ca base ad n np μ s H locs) {x : Int32} (hin : vp_in x 10) (hdg : decode cc pc = .ok (.aaload, 1)) (kk : W p l e R s m args below meth c H locs cells slots Q (F0 m (pc + 1) ls (va_rf (zr ad 70 (μ 31 0 x.toNatClampNeg)) :: rest))) : W p l e R s m args below meth c H locs cells slots Q (F0 m pc ls (.int x :: .ref (ad 31 0) :: rest)) :=
  z_aald (ty := .object "BacklotPlanner$Scene") hC hZ (zF_31 _) (t := 2) rfl rfl hin hdg kk
theorem aS_31 (hC : ZC p m meth c s own cc nL) (hZ : ZS D ca base ad n np μ s H locs) {x y : Int32} (hin : vp_in x 10) (hy : ¬ y < 0 → y.toNatClampNeg < n) (hdg : decode cc pc = .ok (.aastore, 1)) (kk : ∀ (μ1 : Mem) (H1 : Heap) (locs1 : List Loc), μ1 = zst μ 31 0 x.toNatClampNeg y → ZS D ca base ad n np μ1 s H1 locs1 → W p l e R s m args below meth c H1 locs1 cells slots Q (F0 m (pc + 1) ls (rest))) : W p l e R s m args below meth c H locs cells slots Q (F0 m pc ls (va_rf (zr ad 70 y) :: .int x :: .ref (ad 31 0) :: rest)) :=
  z_aast hC hZ (fun r => zF_31 r) (ci := 2) rfl (t := 2) rfl hin (fun h => ⟨_, zF_70 (hy h) _⟩) hdg (fun H1 locs1 h => kk _ H1 locs1 rfl h)
theorem aN_31 (hC : ZC p m meth c s own cc nL) (hZ : ZS D ca base ad n np μ s H locs) (hdg : decode cc pc = .ok (.arraylength, 1)) (kk : W p l e R s m args below meth c H locs cells slots Q (F0 m (pc + 1) ls (.int 10 :: rest))) : W p l e R s m args below meth c H locs cells slots Q (F0 m pc ls (.ref (ad 31 0) :: rest)) :=
  z_alen hC hZ (zF_31 _) (t := 2) (ty := .object "BacklotPlanner$Scene") rfl rfl hdg kk
theorem zF_32 (r : Nat → Int32) : zF ad ca n np 32 0 r = some (.inl (ca 2, 30, .inr (.inr (.inr (.inr (fun k => zr ad 70 (r k))))))) := rfl
theorem aL_32 (hC : ZC p m meth c s own cc nL) (hZ : ZS D ca base ad n np μ s H locs) {x : Int32} (hin : vp_in x 30) (hdg : decode cc pc = .ok (.aaload, 1)) (kk : W p l e R s m args below meth c H locs cells slots Q (F0 m (pc + 1) ls (va_rf (zr ad 70 (μ 32 0 x.toNatClampNeg)) :: rest))) : W p l e R s m args below meth c H locs cells slots Q (F0 m pc ls (.int x :: .ref (ad 32 0) :: rest)) :=
  z_aald (ty := .object "BacklotPlanner$Scene") hC hZ (zF_32 _) (t := 2) rfl rfl hin hdg kk
theorem aS_32 (hC : ZC p m meth c s own cc nL) (hZ : ZS D ca base ad n np μ s H locs) {x y : Int32} (hin : vp_in x 30) (hy : ¬ y < 0 → y.toNatClampNeg < n) (hdg : decode cc pc = .ok (.aastore, 1)) (kk : ∀ (μ1 : Mem) (H1 : Heap) (locs1 : List Loc), μ1 = zst μ 32 0 x.toNatClampNeg y → ZS D ca base ad n np μ1 s H1 locs1 → W p l e R s m args below meth c H1 locs1 cells slots Q (F0 m (pc + 1) ls (rest))) : W p l e R s m args below meth c H locs cells slots Q (F0 m pc ls (va_rf (zr ad 70 y) :: .int x :: .ref (ad 32 0) :: rest)) :=
  z_aast hC hZ (fun r => zF_32 r) (ci := 2) rfl (t := 2) rfl hin (fun h => ⟨_, zF_70 (hy h) _⟩) hdg (fun H1 locs1 h => kk _ H1 locs1 rfl h)
theorem aN_32 (hC : ZC p m meth c s own cc nL) (hZ : ZS D ca base ad n np μ s H locs) (hdg : decode cc pc = .ok (.arraylength, 1)) (kk : W p l e R s m args below meth c H locs cells slots Q (F0 m (pc + 1) ls (.int 30 :: rest))) : W p l e R s m args below meth c H locs cells slots Q (F0 m pc ls (.ref (ad 32 0) :: rest)) :=
  z_alen hC hZ (zF_32 _) (t := 2) (ty := .object "BacklotPlanner$Scene") rfl rfl hdg kk
theorem zF_33 (r : Nat → Int32) : zF ad ca n np 33 0 r = some (.inl (ca 3, 20, .inr (.inr (.inr (.inr (fun k => zr ad 80 (r k))))))) := rfl
theorem aL_33 (hC : ZC p m meth c s own cc nL) (hZ : ZS D ca base ad n np μ s H locs) {x : Int32} (hin : vp_in x 20) (hdg : decode cc pc = .ok (.aaload, 1)) (kk : W p l e R s m args below meth c H locs cells slots Q (F0 m (pc + 1) ls (va_rf (zr ad 80 (μ 33 0 x.toNatClampNeg)) :: rest))) : W p l e R s m args below meth c H locs cells slots Q (F0 m pc ls (.int x :: .ref (ad 33 0) :: rest)) :=
  z_aald (ty := .object "BacklotPlanner$Permit") hC hZ (zF_33 _) (t := 3) rfl rfl hin hdg kk
theorem aS_33 (hC : ZC p m meth c s own cc nL) (hZ : ZS D ca base ad n np μ s H locs) {x y : Int32} (hin : vp_in x 20) (hy : ¬ y < 0 → y.toNatClampNeg < np) (hdg : decode cc pc = .ok (.aastore, 1)) (kk : ∀ (μ1 : Mem) (H1 : Heap) (locs1 : List Loc), μ1 = zst μ 33 0 x.toNatClampNeg y → ZS D ca base ad n np μ1 s H1 locs1 → W p l e R s m args below meth c H1 locs1 cells slots Q (F0 m (pc + 1) ls (rest))) : W p l e R s m args below meth c H locs cells slots Q (F0 m pc ls (va_rf (zr ad 80 y) :: .int x :: .ref (ad 33 0) :: rest)) :=
  z_aast hC hZ (fun r => zF_33 r) (ci := 1) rfl (t := 3) rfl hin (fun h => ⟨_, zF_80 (hy h) _⟩) hdg (fun H1 locs1 h => kk _ H1 locs1 rfl h)
theorem aN_33 (hC : ZC p m meth c s own cc nL) (hZ : ZS D ca base ad n np μ s H locs) (hdg : decode cc pc = .ok (.arraylength, 1)) (kk : W p l e R s m args below meth c H locs cells slots Q (F0 m (pc + 1) ls (.int 20 :: rest))) : W p l e R s m args below meth c H locs cells slots Q (F0 m pc ls (.ref (ad 33 0) :: rest)) :=
  z_alen hC hZ (zF_33 _) (t := 3) (ty := .object "BacklotPlanner$Permit") rfl rfl hdg kk
theorem zF_34 (r : Nat → Int32) : zF ad ca n np 34 0 r = some (.inl (ca 0, 5, .inl r)) := rfl
theorem aL_34 (hC : ZC p m meth c s own cc nL) (hZ : ZS D ca base ad n np μ s H locs) {x : Int32} (hin : vp_in x 5) (hdg : decode cc pc = .ok (.iaload, 1)) (kk : W p l e R s m args below meth c H locs cells slots Q (F0 m (pc + 1) ls (.int (μ 34 0 x.toNatClampNeg) :: rest))) : W p l e R s m args below meth c H locs cells slots Q (F0 m pc ls (.int x :: .ref (ad 34 0) :: rest)) :=
  z_iald hC hZ (zF_34 _) (t := 0) rfl hin hdg kk
theorem aS_34 (hC : ZC p m meth c s own cc nL) (hZ : ZS D ca base ad n np μ s H locs) {x y : Int32} (hin : vp_in x 5) (hdg : decode cc pc = .ok (.iastore, 1)) (kk : ∀ (μ1 : Mem) (H1 : Heap) (locs1 : List Loc), μ1 = zst μ 34 0 x.toNatClampNeg y → ZS D ca base ad n np μ1 s H1 locs1 → W p l e R s m args below meth c H1 locs1 cells slots Q (F0 m (pc + 1) ls (rest))) : W p l e R s m args below meth c H locs cells slots Q (F0 m pc ls (.int y :: .int x :: .ref (ad 34 0) :: rest)) :=
  z_iast hC hZ (fun r => zF_34 r) (t := 0) rfl hin hdg (fun H1 locs1 h => kk _ H1 locs1 rfl h)
theorem aN_34 (hC : ZC p m meth c s own cc nL) (hZ : ZS D ca base ad n np μ s H locs) (hdg : decode cc pc = .ok (.arraylength, 1)) (kk : W p l e R s m args below meth c H locs cells slots Q (F0 m (pc + 1) ls (.int 5 :: rest))) : W p l e R s m args below meth c H locs cells slots Q (F0 m pc ls (.ref (ad 34 0) :: rest)) :=
  z_alen hC hZ (zF_34 _) (t := 0) (ty := .int) rfl rfl hdg kk
theorem zF_41 {i : Nat} (hi : i < 2) (r : Nat → Int32) : zF ad ca n np 41 i r = some (.inl (ca 4, 5, .inr (.inr (.inr (.inr (fun k => some (ad 43 (5 * i + k)))))))) := by
  show (if i < 2 then _ else none) = _
  exact if_pos hi
theorem aL_41 (hC : ZC p m meth c s own cc nL) (hZ : ZS D ca base ad n np μ s H locs) {i : Nat} (hi : i < 2) {x : Int32} (hin : vp_in x 5) (hdg : decode cc pc = .ok (.aaload, 1)) (kk : W p l e R s m args below meth c H locs cells slots Q (F0 m (pc + 1) ls (.ref (ad 43 (5 * i + x.toNatClampNeg)) :: rest))) : W p l e R s m args below meth c H locs cells slots Q (F0 m pc ls (.int x :: .ref (ad 41 i) :: rest)) :=
  z_aald (ty := .array .int) hC hZ (zF_41 hi _) (t := 4) rfl rfl hin hdg kk
theorem aN_41 (hC : ZC p m meth c s own cc nL) (hZ : ZS D ca base ad n np μ s H locs) {i : Nat} (hi : i < 2) (hdg : decode cc pc = .ok (.arraylength, 1)) (kk : W p l e R s m args below meth c H locs cells slots Q (F0 m (pc + 1) ls (.int 5 :: rest))) : W p l e R s m args below meth c H locs cells slots Q (F0 m pc ls (.ref (ad 41 i) :: rest)) :=
  z_alen hC hZ (zF_41 hi _) (t := 4) (ty := .array .int) rfl rfl hdg kk
theorem zF_42 {i : Nat} (hi : i < 2) (r : Nat → Int32) : zF ad ca n np 42 i r = some (.inl (ca 0, 5, .inl r)) := by
  show (if i < 2 then _ else none) = _
  exact if_pos hi
theorem aL_42 (hC : ZC p m meth c s own cc nL) (hZ : ZS D ca base ad n np μ s H locs) {i : Nat} (hi : i < 2) {x : Int32} (hin : vp_in x 5) (hdg : decode cc pc = .ok (.iaload, 1)) (kk : W p l e R s m args below meth c H locs cells slots Q (F0 m (pc + 1) ls (.int (μ 42 i x.toNatClampNeg) :: rest))) : W p l e R s m args below meth c H locs cells slots Q (F0 m pc ls (.int x :: .ref (ad 42 i) :: rest)) :=
  z_iald hC hZ (zF_42 hi _) (t := 0) rfl hin hdg kk
theorem aS_42 (hC : ZC p m meth c s own cc nL) (hZ : ZS D ca base ad n np μ s H locs) {i : Nat} (hi : i < 2) {x y : Int32} (hin : vp_in x 5) (hdg : decode cc pc = .ok (.iastore, 1)) (kk : ∀ (μ1 : Mem) (H1 : Heap) (locs1 : List Loc), μ1 = zst μ 42 i x.toNatClampNeg y → ZS D ca base ad n np μ1 s H1 locs1 → W p l e R s m args below meth c H1 locs1 cells slots Q (F0 m (pc + 1) ls (rest))) : W p l e R s m args below meth c H locs cells slots Q (F0 m pc ls (.int y :: .int x :: .ref (ad 42 i) :: rest)) :=
  z_iast hC hZ (fun r => zF_42 hi r) (t := 0) rfl hin hdg (fun H1 locs1 h => kk _ H1 locs1 rfl h)
theorem aN_42 (hC : ZC p m meth c s own cc nL) (hZ : ZS D ca base ad n np μ s H locs) {i : Nat} (hi : i < 2) (hdg : decode cc pc = .ok (.arraylength, 1)) (kk : W p l e R s m args below meth c H locs cells slots Q (F0 m (pc + 1) ls (.int 5 :: rest))) : W p l e R s m args below meth c H locs cells slots Q (F0 m pc ls (.ref (ad 42 i) :: rest)) :=
  z_alen hC hZ (zF_42 hi _) (t := 0) (ty := .int) rfl rfl hdg kk
theorem zF_43 {i : Nat} (hi : i < 10) (r : Nat → Int32) : zF ad ca n np 43 i r = some (.inl (ca 0, 4, .inl r)) := by
  show (if i < 10 then _ else none) = _
  exact if_pos hi
theorem aL_43 (hC : ZC p m meth c s own cc nL) (hZ : ZS D ca base ad n np μ s H locs) {i : Nat} (hi : i < 10) {x : Int32} (hin : vp_in x 4) (hdg : decode cc pc = .ok (.iaload, 1)) (kk : W p l e R s m args below meth c H locs cells slots Q (F0 m (pc + 1) ls (.int (μ 43 i x.toNatClampNeg) :: rest))) : W p l e R s m args below meth c H locs cells slots Q (F0 m pc ls (.int x :: .ref (ad 43 i) :: rest)) :=
  z_iald hC hZ (zF_43 hi _) (t := 0) rfl hin hdg kk
theorem aS_43 (hC : ZC p m meth c s own cc nL) (hZ : ZS D ca base ad n np μ s H locs) {i : Nat} (hi : i < 10) {x y : Int32} (hin : vp_in x 4) (hdg : decode cc pc = .ok (.iastore, 1)) (kk : ∀ (μ1 : Mem) (H1 : Heap) (locs1 : List Loc), μ1 = zst μ 43 i x.toNatClampNeg y → ZS D ca base ad n np μ1 s H1 locs1 → W p l e R s m args below meth c H1 locs1 cells slots Q (F0 m (pc + 1) ls (rest))) : W p l e R s m args below meth c H locs cells slots Q (F0 m pc ls (.int y :: .int x :: .ref (ad 43 i) :: rest)) :=
  z_iast hC hZ (fun r => zF_43 hi r) (t := 0) rfl hin hdg (fun H1 locs1 h => kk _ H1 locs1 rfl h)
theorem aN_43 (hC : ZC p m meth c s own cc nL) (hZ : ZS D ca base ad n np μ s H locs) {i : Nat} (hi : i < 10) (hdg : decode cc pc = .ok (.arraylength, 1)) (kk : W p l e R s m args below meth c H locs cells slots Q (F0 m (pc + 1) ls (.int 4 :: rest))) : W p l e R s m args below meth c H locs cells slots Q (F0 m pc ls (.ref (ad 43 i) :: rest)) :=
  z_alen hC hZ (zF_43 hi _) (t := 0) (ty := .int) rfl rfl hdg kk
theorem zF_61 (r : Nat → Int32) : zF ad ca n np 61 0 r = some (.inl (ca 0, 10, .inl r)) := rfl
theorem aL_61 (hC : ZC p m meth c s own cc nL) (hZ : ZS D ca base ad n np μ s H locs) {x : Int32} (hin : vp_in x 10) (hdg : decode cc pc = .ok (.iaload, 1)) (kk : W p l e R s m args below meth c H locs cells slots Q (F0 m (pc + 1) ls (.int (μ 61 0 x.toNatClampNeg) :: rest))) : W p l e R s m args below meth c H locs cells slots Q (F0 m pc ls (.int x :: .ref (ad 61 0) :: rest)) :=
  z_iald hC hZ (zF_61 _) (t := 0) rfl hin hdg kk
theorem aS_61 (hC : ZC p m meth c s own cc nL) (hZ : ZS D ca base ad n np μ s H locs) {x y : Int32} (hin : vp_in x 10) (hdg : decode cc pc = .ok (.iastore, 1)) (kk : ∀ (μ1 : Mem) (H1 : Heap) (locs1 : List Loc), μ1 = zst μ 61 0 x.toNatClampNeg y → ZS D ca base ad n np μ1 s H1 locs1 → W p l e R s m args below meth c H1 locs1 cells slots Q (F0 m (pc + 1) ls (rest))) : W p l e R s m args below meth c H locs cells slots Q (F0 m pc ls (.int y :: .int x :: .ref (ad 61 0) :: rest)) :=
  z_iast hC hZ (fun r => zF_61 r) (t := 0) rfl hin hdg (fun H1 locs1 h => kk _ H1 locs1 rfl h)
theorem aN_61 (hC : ZC p m meth c s own cc nL) (hZ : ZS D ca base ad n np μ s H locs) (hdg : decode cc pc = .ok (.arraylength, 1)) (kk : W p l e R s m args below meth c H locs cells slots Q (F0 m (pc + 1) ls (.int 10 :: rest))) : W p l e R s m args below meth c H locs cells slots Q (F0 m pc ls (.ref (ad 61 0) :: rest)) :=
  z_alen hC hZ (zF_61 _) (t := 0) (ty := .int) rfl rfl hdg kk
theorem zF_62 (r : Nat → Int32) : zF ad ca n np 62 0 r = some (.inl (ca 2, 10, .inr (.inr (.inr (.inr (fun k => zr ad 70 (r k))))))) := rfl
theorem aL_62 (hC : ZC p m meth c s own cc nL) (hZ : ZS D ca base ad n np μ s H locs) {x : Int32} (hin : vp_in x 10) (hdg : decode cc pc = .ok (.aaload, 1)) (kk : W p l e R s m args below meth c H locs cells slots Q (F0 m (pc + 1) ls (va_rf (zr ad 70 (μ 62 0 x.toNatClampNeg)) :: rest))) : W p l e R s m args below meth c H locs cells slots Q (F0 m pc ls (.int x :: .ref (ad 62 0) :: rest)) :=
  z_aald (ty := .object "BacklotPlanner$Scene") hC hZ (zF_62 _) (t := 2) rfl rfl hin hdg kk
theorem aS_62 (hC : ZC p m meth c s own cc nL) (hZ : ZS D ca base ad n np μ s H locs) {x y : Int32} (hin : vp_in x 10) (hy : ¬ y < 0 → y.toNatClampNeg < n) (hdg : decode cc pc = .ok (.aastore, 1)) (kk : ∀ (μ1 : Mem) (H1 : Heap) (locs1 : List Loc), μ1 = zst μ 62 0 x.toNatClampNeg y → ZS D ca base ad n np μ1 s H1 locs1 → W p l e R s m args below meth c H1 locs1 cells slots Q (F0 m (pc + 1) ls (rest))) : W p l e R s m args below meth c H locs cells slots Q (F0 m pc ls (va_rf (zr ad 70 y) :: .int x :: .ref (ad 62 0) :: rest)) :=
  z_aast hC hZ (fun r => zF_62 r) (ci := 2) rfl (t := 2) rfl hin (fun h => ⟨_, zF_70 (hy h) _⟩) hdg (fun H1 locs1 h => kk _ H1 locs1 rfl h)
theorem aN_62 (hC : ZC p m meth c s own cc nL) (hZ : ZS D ca base ad n np μ s H locs) (hdg : decode cc pc = .ok (.arraylength, 1)) (kk : W p l e R s m args below meth c H locs cells slots Q (F0 m (pc + 1) ls (.int 10 :: rest))) : W p l e R s m args below meth c H locs cells slots Q (F0 m pc ls (.ref (ad 62 0) :: rest)) :=
  z_alen hC hZ (zF_62 _) (t := 2) (ty := .object "BacklotPlanner$Scene") rfl rfl hdg kk
theorem zF_71 {i : Nat} (hi : i < n) (r : Nat → Int32) : zF ad ca n np 71 i r = some (.inl (ca 0, 5, .inl r)) := by
  show (if i < n then _ else none) = _
  exact if_pos hi
theorem aL_71 (hC : ZC p m meth c s own cc nL) (hZ : ZS D ca base ad n np μ s H locs) {i : Nat} (hi : i < n) {x : Int32} (hin : vp_in x 5) (hdg : decode cc pc = .ok (.iaload, 1)) (kk : W p l e R s m args below meth c H locs cells slots Q (F0 m (pc + 1) ls (.int (μ 71 i x.toNatClampNeg) :: rest))) : W p l e R s m args below meth c H locs cells slots Q (F0 m pc ls (.int x :: .ref (ad 71 i) :: rest)) :=
  z_iald hC hZ (zF_71 hi _) (t := 0) rfl hin hdg kk
theorem aS_71 (hC : ZC p m meth c s own cc nL) (hZ : ZS D ca base ad n np μ s H locs) {i : Nat} (hi : i < n) {x y : Int32} (hin : vp_in x 5) (hdg : decode cc pc = .ok (.iastore, 1)) (kk : ∀ (μ1 : Mem) (H1 : Heap) (locs1 : List Loc), μ1 = zst μ 71 i x.toNatClampNeg y → ZS D ca base ad n np μ1 s H1 locs1 → W p l e R s m args below meth c H1 locs1 cells slots Q (F0 m (pc + 1) ls (rest))) : W p l e R s m args below meth c H locs cells slots Q (F0 m pc ls (.int y :: .int x :: .ref (ad 71 i) :: rest)) :=
  z_iast hC hZ (fun r => zF_71 hi r) (t := 0) rfl hin hdg (fun H1 locs1 h => kk _ H1 locs1 rfl h)
theorem aN_71 (hC : ZC p m meth c s own cc nL) (hZ : ZS D ca base ad n np μ s H locs) {i : Nat} (hi : i < n) (hdg : decode cc pc = .ok (.arraylength, 1)) (kk : W p l e R s m args below meth c H locs cells slots Q (F0 m (pc + 1) ls (.int 5 :: rest))) : W p l e R s m args below meth c H locs cells slots Q (F0 m pc ls (.ref (ad 71 i) :: rest)) :=
  z_alen hC hZ (zF_71 hi _) (t := 0) (ty := .int) rfl rfl hdg kk
theorem zF_72 {i : Nat} (hi : i < n) (r : Nat → Int32) : zF ad ca n np 72 i r = some (.inl (ca 0, 5, .inl r)) := by
  show (if i < n then _ else none) = _
  exact if_pos hi
theorem aL_72 (hC : ZC p m meth c s own cc nL) (hZ : ZS D ca base ad n np μ s H locs) {i : Nat} (hi : i < n) {x : Int32} (hin : vp_in x 5) (hdg : decode cc pc = .ok (.iaload, 1)) (kk : W p l e R s m args below meth c H locs cells slots Q (F0 m (pc + 1) ls (.int (μ 72 i x.toNatClampNeg) :: rest))) : W p l e R s m args below meth c H locs cells slots Q (F0 m pc ls (.int x :: .ref (ad 72 i) :: rest)) :=
  z_iald hC hZ (zF_72 hi _) (t := 0) rfl hin hdg kk
theorem aS_72 (hC : ZC p m meth c s own cc nL) (hZ : ZS D ca base ad n np μ s H locs) {i : Nat} (hi : i < n) {x y : Int32} (hin : vp_in x 5) (hdg : decode cc pc = .ok (.iastore, 1)) (kk : ∀ (μ1 : Mem) (H1 : Heap) (locs1 : List Loc), μ1 = zst μ 72 i x.toNatClampNeg y → ZS D ca base ad n np μ1 s H1 locs1 → W p l e R s m args below meth c H1 locs1 cells slots Q (F0 m (pc + 1) ls (rest))) : W p l e R s m args below meth c H locs cells slots Q (F0 m pc ls (.int y :: .int x :: .ref (ad 72 i) :: rest)) :=
  z_iast hC hZ (fun r => zF_72 hi r) (t := 0) rfl hin hdg (fun H1 locs1 h => kk _ H1 locs1 rfl h)
theorem aN_72 (hC : ZC p m meth c s own cc nL) (hZ : ZS D ca base ad n np μ s H locs) {i : Nat} (hi : i < n) (hdg : decode cc pc = .ok (.arraylength, 1)) (kk : W p l e R s m args below meth c H locs cells slots Q (F0 m (pc + 1) ls (.int 5 :: rest))) : W p l e R s m args below meth c H locs cells slots Q (F0 m pc ls (.ref (ad 72 i) :: rest)) :=
  z_alen hC hZ (zF_72 hi _) (t := 0) (ty := .int) rfl rfl hdg kk
theorem zF_73 {i : Nat} (hi : i < n) (r : Nat → Int32) : zF ad ca n np 73 i r = some (.inl (ca 0, 5, .inl r)) := by
  show (if i < n then _ else none) = _
  exact if_pos hi
theorem aL_73 (hC : ZC p m meth c s own cc nL) (hZ : ZS D ca base ad n np μ s H locs) {i : Nat} (hi : i < n) {x : Int32} (hin : vp_in x 5) (hdg : decode cc pc = .ok (.iaload, 1)) (kk : W p l e R s m args below meth c H locs cells slots Q (F0 m (pc + 1) ls (.int (μ 73 i x.toNatClampNeg) :: rest))) : W p l e R s m args below meth c H locs cells slots Q (F0 m pc ls (.int x :: .ref (ad 73 i) :: rest)) :=
  z_iald hC hZ (zF_73 hi _) (t := 0) rfl hin hdg kk
theorem aS_73 (hC : ZC p m meth c s own cc nL) (hZ : ZS D ca base ad n np μ s H locs) {i : Nat} (hi : i < n) {x y : Int32} (hin : vp_in x 5) (hdg : decode cc pc = .ok (.iastore, 1)) (kk : ∀ (μ1 : Mem) (H1 : Heap) (locs1 : List Loc), μ1 = zst μ 73 i x.toNatClampNeg y → ZS D ca base ad n np μ1 s H1 locs1 → W p l e R s m args below meth c H1 locs1 cells slots Q (F0 m (pc + 1) ls (rest))) : W p l e R s m args below meth c H locs cells slots Q (F0 m pc ls (.int y :: .int x :: .ref (ad 73 i) :: rest)) :=
  z_iast hC hZ (fun r => zF_73 hi r) (t := 0) rfl hin hdg (fun H1 locs1 h => kk _ H1 locs1 rfl h)
theorem aN_73 (hC : ZC p m meth c s own cc nL) (hZ : ZS D ca base ad n np μ s H locs) {i : Nat} (hi : i < n) (hdg : decode cc pc = .ok (.arraylength, 1)) (kk : W p l e R s m args below meth c H locs cells slots Q (F0 m (pc + 1) ls (.int 5 :: rest))) : W p l e R s m args below meth c H locs cells slots Q (F0 m pc ls (.ref (ad 73 i) :: rest)) :=
  z_alen hC hZ (zF_73 hi _) (t := 0) (ty := .int) rfl rfl hdg kk
theorem z_cVi {y : MethodName} {C : String} {bytes : ByteArray} {maxL mc ms index na : Nat} {ret : Option FieldType} {rm : Room} {As : List Value} {P : Int32 → Mem → Prop} (hC : ZC p m meth c s own cc nL) (hZ : ZS D ca base ad n np μ s H locs) {f i ci N : Nat} {fs : List Value} {T : u_T} (he : zF ad ca n np f i (μ f i) = some (.inr (ci, fs))) (hcl : vwCl[ci]? = some (C, T, N)) (hY : zYV y C bytes maxL ret na) (hM : ZMet l y bytes maxL ret rm mc ms D ca base ad n np (.ref (ad f i) :: As) μ (zpi P)) (hlink : Cond.methodLink own index y ∈ lw_tbl) (hn : As.length = na) (hrm : rm.cells = mc ∧ rm.slots = ms) (hR : rm.frames + 1 ≤ R.frames ∧ 8 + (maxL + 11) + rm.locals ≤ R.locals) (hsize : ls.size = nL) (hst : st0 = As.reverse ++ .ref (ad f i) :: rest) (hrest : (rest.map fun v => v.category).sum ≤ 8) (hdg : decode cc pc = .ok (.invokevirtual index, 3)) (hf : cells + mc ≤ R.cells ∧ slots + ms ≤ R.slots)
    (kk : ∀ (r : Int32) (u : Mem) (H1 : Heap) (locs1 : List Loc), P r u → ZS D ca base ad n np u s H1 locs1 → W p l e R s m args below meth c H1 locs1 (cells + mc) (slots + ms) Q (F0 m (pc + 3) ls (.int r :: rest))) : W p l e R s m args below meth c H locs cells slots Q (F0 m pc ls st0) := by
  refine z_callV hC hZ he hcl hY hM hlink hn hrm hR hsize hst hrest hdg hf (fun v u H1 locs1 hv h => ?_)
  obtain ⟨r, rfl, hp⟩ := hv
  exact kk r u H1 locs1 hp h
theorem z_cVv {y : MethodName} {C : String} {bytes : ByteArray} {maxL mc ms index na : Nat} {ret : Option FieldType} {rm : Room} {As : List Value} {P : Mem → Prop} (hC : ZC p m meth c s own cc nL) (hZ : ZS D ca base ad n np μ s H locs) {f i ci N : Nat} {fs : List Value} {T : u_T} (he : zF ad ca n np f i (μ f i) = some (.inr (ci, fs))) (hcl : vwCl[ci]? = some (C, T, N)) (hY : zYV y C bytes maxL ret na) (hM : ZMet l y bytes maxL ret rm mc ms D ca base ad n np (.ref (ad f i) :: As) μ (zpv P)) (hlink : Cond.methodLink own index y ∈ lw_tbl) (hn : As.length = na) (hrm : rm.cells = mc ∧ rm.slots = ms) (hR : rm.frames + 1 ≤ R.frames ∧ 8 + (maxL + 11) + rm.locals ≤ R.locals) (hsize : ls.size = nL) (hst : st0 = As.reverse ++ .ref (ad f i) :: rest) (hrest : (rest.map fun v => v.category).sum ≤ 8) (hdg : decode cc pc = .ok (.invokevirtual index, 3)) (hf : cells + mc ≤ R.cells ∧ slots + ms ≤ R.slots)
    (kk : ∀ (u : Mem) (H1 : Heap) (locs1 : List Loc), P u → ZS D ca base ad n np u s H1 locs1 → W p l e R s m args below meth c H1 locs1 (cells + mc) (slots + ms) Q (F0 m (pc + 3) ls (rest))) : W p l e R s m args below meth c H locs cells slots Q (F0 m pc ls st0) := by
  refine z_callV hC hZ he hcl hY hM hlink hn hrm hR hsize hst hrest hdg hf (fun v u H1 locs1 hv h => ?_)
  obtain ⟨rfl, hp⟩ := hv
  exact kk u H1 locs1 hp h
theorem z_cVq {y : MethodName} {C : String} {bytes : ByteArray} {maxL mc ms index na : Nat} {ret : Option FieldType} {rm : Room} {As : List Value} {g : Nat} {P : Int32 → Mem → Prop} (hC : ZC p m meth c s own cc nL) (hZ : ZS D ca base ad n np μ s H locs) {f i ci N : Nat} {fs : List Value} {T : u_T} (he : zF ad ca n np f i (μ f i) = some (.inr (ci, fs))) (hcl : vwCl[ci]? = some (C, T, N)) (hY : zYV y C bytes maxL ret na) (hM : ZMet l y bytes maxL ret rm mc ms D ca base ad n np (.ref (ad f i) :: As) μ (zpr ad g P)) (hlink : Cond.methodLink own index y ∈ lw_tbl) (hn : As.length = na) (hrm : rm.cells = mc ∧ rm.slots = ms) (hR : rm.frames + 1 ≤ R.frames ∧ 8 + (maxL + 11) + rm.locals ≤ R.locals) (hsize : ls.size = nL) (hst : st0 = As.reverse ++ .ref (ad f i) :: rest) (hrest : (rest.map fun v => v.category).sum ≤ 8) (hdg : decode cc pc = .ok (.invokevirtual index, 3)) (hf : cells + mc ≤ R.cells ∧ slots + ms ≤ R.slots)
    (kk : ∀ (r : Int32) (u : Mem) (H1 : Heap) (locs1 : List Loc), P r u → ZS D ca base ad n np u s H1 locs1 → W p l e R s m args below meth c H1 locs1 (cells + mc) (slots + ms) Q (F0 m (pc + 3) ls (va_rf (zr ad g r) :: rest))) : W p l e R s m args below meth c H locs cells slots Q (F0 m pc ls st0) := by
  refine z_callV hC hZ he hcl hY hM hlink hn hrm hR hsize hst hrest hdg hf (fun v u H1 locs1 hv h => ?_)
  obtain ⟨r, rfl, hp⟩ := hv
  exact kk r u H1 locs1 hp h
theorem z_cVXi {y : MethodName} {C : String} {bytes : ByteArray} {maxL mc ms index na : Nat} {ret : Option FieldType} {rm : Room} {xp : String → Mem → Prop} {As : List Value} {P : Int32 → Mem → Prop} (hC : ZC p m meth c s own cc nL) (hZ : ZS D ca base ad n np μ s H locs) {f i ci N : Nat} {fs : List Value} {T : u_T} (he : zF ad ca n np f i (μ f i) = some (.inr (ci, fs))) (hcl : vwCl[ci]? = some (C, T, N)) (hY : zYV y C bytes maxL ret na) (hM : ZXMet l y bytes maxL ret rm mc ms D ca base ad n np (.ref (ad f i) :: As) μ (zpi P) xp) (hlink : Cond.methodLink own index y ∈ lw_tbl) (hn : As.length = na) (hrm : rm.cells = mc ∧ rm.slots = ms) (hR : rm.frames + 1 ≤ R.frames ∧ 8 + (maxL + 11) + rm.locals ≤ R.locals) (hsize : ls.size = nL) (hst : st0 = As.reverse ++ .ref (ad f i) :: rest) (hrest : (rest.map fun v => v.category).sum ≤ 8) (hdg : decode cc pc = .ok (.invokevirtual index, 3)) (hf : cells + mc ≤ R.cells ∧ slots + ms ≤ R.slots)
    (kx : ∀ (E : String) (ce : Cell) (q9 : Addr) (u : Mem) (H1 : Heap) (locs1 : List Loc), xp E u → ZS D ca base ad n np u s H1 locs1 → H1[q9]? = some ce → ce.vm = .none → s.vm.findClass E = some ce.cls → vx_W p l e R s m args below meth c H1 locs1 (cells + mc) (slots + ms) Q (F0 m pc ls rest) q9) (kk : ∀ (r : Int32) (u : Mem) (H1 : Heap) (locs1 : List Loc), P r u → ZS D ca base ad n np u s H1 locs1 → W p l e R s m args below meth c H1 locs1 (cells + mc) (slots + ms) Q (F0 m (pc + 3) ls (.int r :: rest))) : W p l e R s m args below meth c H locs cells slots Q (F0 m pc ls st0) := by
  refine z_callVX hC hZ he hcl hY hM hlink hn hrm hR hsize hst hrest hdg hf kx (fun v u H1 locs1 hv h => ?_)
  obtain ⟨r, rfl, hp⟩ := hv
  exact kk r u H1 locs1 hp h
theorem z_cVXv {y : MethodName} {C : String} {bytes : ByteArray} {maxL mc ms index na : Nat} {ret : Option FieldType} {rm : Room} {xp : String → Mem → Prop} {As : List Value} {P : Mem → Prop} (hC : ZC p m meth c s own cc nL) (hZ : ZS D ca base ad n np μ s H locs) {f i ci N : Nat} {fs : List Value} {T : u_T} (he : zF ad ca n np f i (μ f i) = some (.inr (ci, fs))) (hcl : vwCl[ci]? = some (C, T, N)) (hY : zYV y C bytes maxL ret na) (hM : ZXMet l y bytes maxL ret rm mc ms D ca base ad n np (.ref (ad f i) :: As) μ (zpv P) xp) (hlink : Cond.methodLink own index y ∈ lw_tbl) (hn : As.length = na) (hrm : rm.cells = mc ∧ rm.slots = ms) (hR : rm.frames + 1 ≤ R.frames ∧ 8 + (maxL + 11) + rm.locals ≤ R.locals) (hsize : ls.size = nL) (hst : st0 = As.reverse ++ .ref (ad f i) :: rest) (hrest : (rest.map fun v => v.category).sum ≤ 8) (hdg : decode cc pc = .ok (.invokevirtual index, 3)) (hf : cells + mc ≤ R.cells ∧ slots + ms ≤ R.slots)
    (kx : ∀ (E : String) (ce : Cell) (q9 : Addr) (u : Mem) (H1 : Heap) (locs1 : List Loc), xp E u → ZS D ca base ad n np u s H1 locs1 → H1[q9]? = some ce → ce.vm = .none → s.vm.findClass E = some ce.cls → vx_W p l e R s m args below meth c H1 locs1 (cells + mc) (slots + ms) Q (F0 m pc ls rest) q9) (kk : ∀ (u : Mem) (H1 : Heap) (locs1 : List Loc), P u → ZS D ca base ad n np u s H1 locs1 → W p l e R s m args below meth c H1 locs1 (cells + mc) (slots + ms) Q (F0 m (pc + 3) ls (rest))) : W p l e R s m args below meth c H locs cells slots Q (F0 m pc ls st0) := by
  refine z_callVX hC hZ he hcl hY hM hlink hn hrm hR hsize hst hrest hdg hf kx (fun v u H1 locs1 hv h => ?_)
  obtain ⟨rfl, hp⟩ := hv
  exact kk u H1 locs1 hp h
theorem z_cVXq {y : MethodName} {C : String} {bytes : ByteArray} {maxL mc ms index na : Nat} {ret : Option FieldType} {rm : Room} {xp : String → Mem → Prop} {As : List Value} {g : Nat} {P : Int32 → Mem → Prop} (hC : ZC p m meth c s own cc nL) (hZ : ZS D ca base ad n np μ s H locs) {f i ci N : Nat} {fs : List Value} {T : u_T} (he : zF ad ca n np f i (μ f i) = some (.inr (ci, fs))) (hcl : vwCl[ci]? = some (C, T, N)) (hY : zYV y C bytes maxL ret na) (hM : ZXMet l y bytes maxL ret rm mc ms D ca base ad n np (.ref (ad f i) :: As) μ (zpr ad g P) xp) (hlink : Cond.methodLink own index y ∈ lw_tbl) (hn : As.length = na) (hrm : rm.cells = mc ∧ rm.slots = ms) (hR : rm.frames + 1 ≤ R.frames ∧ 8 + (maxL + 11) + rm.locals ≤ R.locals) (hsize : ls.size = nL) (hst : st0 = As.reverse ++ .ref (ad f i) :: rest) (hrest : (rest.map fun v => v.category).sum ≤ 8) (hdg : decode cc pc = .ok (.invokevirtual index, 3)) (hf : cells + mc ≤ R.cells ∧ slots + ms ≤ R.slots)
    (kx : ∀ (E : String) (ce : Cell) (q9 : Addr) (u : Mem) (H1 : Heap) (locs1 : List Loc), xp E u → ZS D ca base ad n np u s H1 locs1 → H1[q9]? = some ce → ce.vm = .none → s.vm.findClass E = some ce.cls → vx_W p l e R s m args below meth c H1 locs1 (cells + mc) (slots + ms) Q (F0 m pc ls rest) q9) (kk : ∀ (r : Int32) (u : Mem) (H1 : Heap) (locs1 : List Loc), P r u → ZS D ca base ad n np u s H1 locs1 → W p l e R s m args below meth c H1 locs1 (cells + mc) (slots + ms) Q (F0 m (pc + 3) ls (va_rf (zr ad g r) :: rest))) : W p l e R s m args below meth c H locs cells slots Q (F0 m pc ls st0) := by
  refine z_callVX hC hZ he hcl hY hM hlink hn hrm hR hsize hst hrest hdg hf kx (fun v u H1 locs1 hv h => ?_)
  obtain ⟨r, rfl, hp⟩ := hv
  exact kk r u H1 locs1 hp h
theorem z_cSi {y : MethodName} {bytes : ByteArray} {maxL mc ms index na : Nat} {ret : Option FieldType} {rm : Room} {As : List Value} {P : Int32 → Mem → Prop} (hC : ZC p m meth c s own cc nL) (hZ : ZS D ca base ad n np μ s H locs) (hY : zYS y bytes maxL ret na) (hM : ZMet l y bytes maxL ret rm mc ms D ca base ad n np As μ (zpi P)) (hlink : Cond.methodLink own index y ∈ lw_tbl) (hn : As.length = na) (hrm : rm.cells = mc ∧ rm.slots = ms) (hR : rm.frames + 1 ≤ R.frames ∧ 8 + (maxL + 11) + rm.locals ≤ R.locals) (hsize : ls.size = nL) (hst : st0 = As.reverse ++ rest) (hrest : (rest.map fun v => v.category).sum ≤ 8) (hdg : decode cc pc = .ok (.invokestatic index, 3)) (hf : cells + mc ≤ R.cells ∧ slots + ms ≤ R.slots)
    (kk : ∀ (r : Int32) (u : Mem) (H1 : Heap) (locs1 : List Loc), P r u → ZS D ca base ad n np u s H1 locs1 → W p l e R s m args below meth c H1 locs1 (cells + mc) (slots + ms) Q (F0 m (pc + 3) ls (.int r :: rest))) : W p l e R s m args below meth c H locs cells slots Q (F0 m pc ls st0) := by
  refine z_callS hC hZ hY hM hlink hn hrm hR hsize hst hrest hdg hf (fun v u H1 locs1 hv h => ?_)
  obtain ⟨r, rfl, hp⟩ := hv
  exact kk r u H1 locs1 hp h
theorem z_cSv {y : MethodName} {bytes : ByteArray} {maxL mc ms index na : Nat} {ret : Option FieldType} {rm : Room} {As : List Value} {P : Mem → Prop} (hC : ZC p m meth c s own cc nL) (hZ : ZS D ca base ad n np μ s H locs) (hY : zYS y bytes maxL ret na) (hM : ZMet l y bytes maxL ret rm mc ms D ca base ad n np As μ (zpv P)) (hlink : Cond.methodLink own index y ∈ lw_tbl) (hn : As.length = na) (hrm : rm.cells = mc ∧ rm.slots = ms) (hR : rm.frames + 1 ≤ R.frames ∧ 8 + (maxL + 11) + rm.locals ≤ R.locals) (hsize : ls.size = nL) (hst : st0 = As.reverse ++ rest) (hrest : (rest.map fun v => v.category).sum ≤ 8) (hdg : decode cc pc = .ok (.invokestatic index, 3)) (hf : cells + mc ≤ R.cells ∧ slots + ms ≤ R.slots)
    (kk : ∀ (u : Mem) (H1 : Heap) (locs1 : List Loc), P u → ZS D ca base ad n np u s H1 locs1 → W p l e R s m args below meth c H1 locs1 (cells + mc) (slots + ms) Q (F0 m (pc + 3) ls (rest))) : W p l e R s m args below meth c H locs cells slots Q (F0 m pc ls st0) := by
  refine z_callS hC hZ hY hM hlink hn hrm hR hsize hst hrest hdg hf (fun v u H1 locs1 hv h => ?_)
  obtain ⟨rfl, hp⟩ := hv
  exact kk u H1 locs1 hp h
theorem z_cSq {y : MethodName} {bytes : ByteArray} {maxL mc ms index na : Nat} {ret : Option FieldType} {rm : Room} {As : List Value} {g : Nat} {P : Int32 → Mem → Prop} (hC : ZC p m meth c s own cc nL) (hZ : ZS D ca base ad n np μ s H locs) (hY : zYS y bytes maxL ret na) (hM : ZMet l y bytes maxL ret rm mc ms D ca base ad n np As μ (zpr ad g P)) (hlink : Cond.methodLink own index y ∈ lw_tbl) (hn : As.length = na) (hrm : rm.cells = mc ∧ rm.slots = ms) (hR : rm.frames + 1 ≤ R.frames ∧ 8 + (maxL + 11) + rm.locals ≤ R.locals) (hsize : ls.size = nL) (hst : st0 = As.reverse ++ rest) (hrest : (rest.map fun v => v.category).sum ≤ 8) (hdg : decode cc pc = .ok (.invokestatic index, 3)) (hf : cells + mc ≤ R.cells ∧ slots + ms ≤ R.slots)
    (kk : ∀ (r : Int32) (u : Mem) (H1 : Heap) (locs1 : List Loc), P r u → ZS D ca base ad n np u s H1 locs1 → W p l e R s m args below meth c H1 locs1 (cells + mc) (slots + ms) Q (F0 m (pc + 3) ls (va_rf (zr ad g r) :: rest))) : W p l e R s m args below meth c H locs cells slots Q (F0 m pc ls st0) := by
  refine z_callS hC hZ hY hM hlink hn hrm hR hsize hst hrest hdg hf (fun v u H1 locs1 hv h => ?_)
  obtain ⟨r, rfl, hp⟩ := hv
  exact kk r u H1 locs1 hp h
theorem z_cSXi {y : MethodName} {bytes : ByteArray} {maxL mc ms index na : Nat} {ret : Option FieldType} {rm : Room} {xp : String → Mem → Prop} {As : List Value} {P : Int32 → Mem → Prop} (hC : ZC p m meth c s own cc nL) (hZ : ZS D ca base ad n np μ s H locs) (hY : zYS y bytes maxL ret na) (hM : ZXMet l y bytes maxL ret rm mc ms D ca base ad n np As μ (zpi P) xp) (hlink : Cond.methodLink own index y ∈ lw_tbl) (hn : As.length = na) (hrm : rm.cells = mc ∧ rm.slots = ms) (hR : rm.frames + 1 ≤ R.frames ∧ 8 + (maxL + 11) + rm.locals ≤ R.locals) (hsize : ls.size = nL) (hst : st0 = As.reverse ++ rest) (hrest : (rest.map fun v => v.category).sum ≤ 8) (hdg : decode cc pc = .ok (.invokestatic index, 3)) (hf : cells + mc ≤ R.cells ∧ slots + ms ≤ R.slots)
    (kx : ∀ (E : String) (ce : Cell) (q9 : Addr) (u : Mem) (H1 : Heap) (locs1 : List Loc), xp E u → ZS D ca base ad n np u s H1 locs1 → H1[q9]? = some ce → ce.vm = .none → s.vm.findClass E = some ce.cls → vx_W p l e R s m args below meth c H1 locs1 (cells + mc) (slots + ms) Q (F0 m pc ls rest) q9) (kk : ∀ (r : Int32) (u : Mem) (H1 : Heap) (locs1 : List Loc), P r u → ZS D ca base ad n np u s H1 locs1 → W p l e R s m args below meth c H1 locs1 (cells + mc) (slots + ms) Q (F0 m (pc + 3) ls (.int r :: rest))) : W p l e R s m args below meth c H locs cells slots Q (F0 m pc ls st0) := by
  refine z_callSX hC hZ hY hM hlink hn hrm hR hsize hst hrest hdg hf kx (fun v u H1 locs1 hv h => ?_)
  obtain ⟨r, rfl, hp⟩ := hv
  exact kk r u H1 locs1 hp h
theorem z_cSXv {y : MethodName} {bytes : ByteArray} {maxL mc ms index na : Nat} {ret : Option FieldType} {rm : Room} {xp : String → Mem → Prop} {As : List Value} {P : Mem → Prop} (hC : ZC p m meth c s own cc nL) (hZ : ZS D ca base ad n np μ s H locs) (hY : zYS y bytes maxL ret na) (hM : ZXMet l y bytes maxL ret rm mc ms D ca base ad n np As μ (zpv P) xp) (hlink : Cond.methodLink own index y ∈ lw_tbl) (hn : As.length = na) (hrm : rm.cells = mc ∧ rm.slots = ms) (hR : rm.frames + 1 ≤ R.frames ∧ 8 + (maxL + 11) + rm.locals ≤ R.locals) (hsize : ls.size = nL) (hst : st0 = As.reverse ++ rest) (hrest : (rest.map fun v => v.category).sum ≤ 8) (hdg : decode cc pc = .ok (.invokestatic index, 3)) (hf : cells + mc ≤ R.cells ∧ slots + ms ≤ R.slots)
    (kx : ∀ (E : String) (ce : Cell) (q9 : Addr) (u : Mem) (H1 : Heap) (locs1 : List Loc), xp E u → ZS D ca base ad n np u s H1 locs1 → H1[q9]? = some ce → ce.vm = .none → s.vm.findClass E = some ce.cls → vx_W p l e R s m args below meth c H1 locs1 (cells + mc) (slots + ms) Q (F0 m pc ls rest) q9) (kk : ∀ (u : Mem) (H1 : Heap) (locs1 : List Loc), P u → ZS D ca base ad n np u s H1 locs1 → W p l e R s m args below meth c H1 locs1 (cells + mc) (slots + ms) Q (F0 m (pc + 3) ls (rest))) : W p l e R s m args below meth c H locs cells slots Q (F0 m pc ls st0) := by
  refine z_callSX hC hZ hY hM hlink hn hrm hR hsize hst hrest hdg hf kx (fun v u H1 locs1 hv h => ?_)
  obtain ⟨rfl, hp⟩ := hv
  exact kk u H1 locs1 hp h
theorem z_cSXq {y : MethodName} {bytes : ByteArray} {maxL mc ms index na : Nat} {ret : Option FieldType} {rm : Room} {xp : String → Mem → Prop} {As : List Value} {g : Nat} {P : Int32 → Mem → Prop} (hC : ZC p m meth c s own cc nL) (hZ : ZS D ca base ad n np μ s H locs) (hY : zYS y bytes maxL ret na) (hM : ZXMet l y bytes maxL ret rm mc ms D ca base ad n np As μ (zpr ad g P) xp) (hlink : Cond.methodLink own index y ∈ lw_tbl) (hn : As.length = na) (hrm : rm.cells = mc ∧ rm.slots = ms) (hR : rm.frames + 1 ≤ R.frames ∧ 8 + (maxL + 11) + rm.locals ≤ R.locals) (hsize : ls.size = nL) (hst : st0 = As.reverse ++ rest) (hrest : (rest.map fun v => v.category).sum ≤ 8) (hdg : decode cc pc = .ok (.invokestatic index, 3)) (hf : cells + mc ≤ R.cells ∧ slots + ms ≤ R.slots)
    (kx : ∀ (E : String) (ce : Cell) (q9 : Addr) (u : Mem) (H1 : Heap) (locs1 : List Loc), xp E u → ZS D ca base ad n np u s H1 locs1 → H1[q9]? = some ce → ce.vm = .none → s.vm.findClass E = some ce.cls → vx_W p l e R s m args below meth c H1 locs1 (cells + mc) (slots + ms) Q (F0 m pc ls rest) q9) (kk : ∀ (r : Int32) (u : Mem) (H1 : Heap) (locs1 : List Loc), P r u → ZS D ca base ad n np u s H1 locs1 → W p l e R s m args below meth c H1 locs1 (cells + mc) (slots + ms) Q (F0 m (pc + 3) ls (va_rf (zr ad g r) :: rest))) : W p l e R s m args below meth c H locs cells slots Q (F0 m pc ls st0) := by
  refine z_callSX hC hZ hY hM hlink hn hrm hR hsize hst hrest hdg hf kx (fun v u H1 locs1 hv h => ?_)
  obtain ⟨r, rfl, hp⟩ := hv
  exact kk r u H1 locs1 hp h
theorem z_cSNv {y : MethodName} {bytes : ByteArray} {maxL mc ms index na : Nat} {ret : Option FieldType} {rm : Room} {As : List Value} {P : Mem → Prop} (hC : ZC p m meth c s own cc nL) (hZ : ZS D ca base ad n np μ s H locs) (hY : zYS y bytes maxL ret na) {host : String} (hM : ZMet l y bytes maxL ret rm mc ms D ca base ad n np As μ (zpv P)) (hlink : Cond.methodLinkNest own index y host ∈ lw_tbl) (hn : As.length = na) (hrm : rm.cells = mc ∧ rm.slots = ms) (hR : rm.frames + 1 ≤ R.frames ∧ 8 + (maxL + 11) + rm.locals ≤ R.locals) (hsize : ls.size = nL) (hst : st0 = As.reverse ++ rest) (hrest : (rest.map fun v => v.category).sum ≤ 8) (hdg : decode cc pc = .ok (.invokestatic index, 3)) (hf : cells + mc ≤ R.cells ∧ slots + ms ≤ R.slots)
    (kk : ∀ (u : Mem) (H1 : Heap) (locs1 : List Loc), P u → ZS D ca base ad n np u s H1 locs1 → W p l e R s m args below meth c H1 locs1 (cells + mc) (slots + ms) Q (F0 m (pc + 3) ls (rest))) : W p l e R s m args below meth c H locs cells slots Q (F0 m pc ls st0) := by
  refine z_callSN hC hZ hY hM hlink hn hrm hR hsize hst hrest hdg hf (fun v u H1 locs1 hv h => ?_)
  obtain ⟨rfl, hp⟩ := hv
  exact kk u H1 locs1 hp h
theorem zcat (o : Option Nat) : (va_rf o).category = 1 := by cases o <;> rfl
theorem z_aload_nq (hC : ZC p m meth c s own cc nL) {k : Fin 4} {i : Nat} {o : Option Nat} (hdg : decode cc pc = .ok (.aload_n k, 1)) (hi : (k : Nat) = i) (hl : ls[i]? = some (.val (va_rf o))) (kk : W p l e R s m args below meth c H locs cells slots Q (F0 m (pc + 1) ls (va_rf o :: rest))) : W p l e R s m args below meth c H locs cells slots Q (F0 m pc ls rest) := by
  cases o with
  | none => exact lv_aload_nN hC.1 hC.2.1 hdg hi hl kk
  | some a => exact lv_aload_n hC.1 hC.2.1 hdg hi hl kk
theorem z_aloadq (hC : ZC p m meth c s own cc nL) {i : Nat} {o : Option Nat} (hdg : decode cc pc = .ok (.aload i, 2)) (hl : ls[i]? = some (.val (va_rf o))) (kk : W p l e R s m args below meth c H locs cells slots Q (F0 m (pc + 2) ls (va_rf o :: rest))) : W p l e R s m args below meth c H locs cells slots Q (F0 m pc ls rest) := by
  cases o with
  | none => exact lv_aloadN hC.1 hC.2.1 hdg hl kk
  | some a => exact lv_aload hC.1 hC.2.1 hdg hl kk
theorem z_astore_nq (hC : ZC p m meth c s own cc nL) {k : Fin 4} {i nL2 : Nat} {o : Option Nat} {lv lv' : List (Nat × Value)} (hdg : decode cc pc = .ok (.astore_n k, 1)) (hi : (k : Nat) = i) (h : lv_has ls nL2 lv) (hn : i < nL2) (hl : (i, va_rf o) :: lv.filter (fun q => !(q.1 == i) && !(q.1 + 1 == i && q.2.category == 2)) = lv')
    (kk : ∀ ls' : Array Slot, lv_has ls' nL2 lv' → W p l e R s m args below meth c H locs cells slots Q (F0 m (pc + 1) ls' rest)) : W p l e R s m args below meth c H locs cells slots Q (F0 m pc ls (va_rf o :: rest)) := by
  cases o with
  | none => exact lv_astore_nN hC.1 hC.2.1 hdg hi h hn hl kk
  | some a => exact lv_astore_n hC.1 hC.2.1 hdg hi h hn hl kk
theorem z_astoreq (hC : ZC p m meth c s own cc nL) {i nL2 : Nat} {o : Option Nat} {lv lv' : List (Nat × Value)} (hdg : decode cc pc = .ok (.astore i, 2)) (h : lv_has ls nL2 lv) (hn : i < nL2) (hl : (i, va_rf o) :: lv.filter (fun q => !(q.1 == i) && !(q.1 + 1 == i && q.2.category == 2)) = lv')
    (kk : ∀ ls' : Array Slot, lv_has ls' nL2 lv' → W p l e R s m args below meth c H locs cells slots Q (F0 m (pc + 2) ls' rest)) : W p l e R s m args below meth c H locs cells slots Q (F0 m pc ls (va_rf o :: rest)) := by
  cases o with
  | none => exact lv_astoreN hC.1 hC.2.1 hdg h hn hl kk
  | some a => exact lv_astore hC.1 hC.2.1 hdg h hn hl kk
theorem z_ifnullq (hC : ZC p m meth c s own cc nL) {g : Nat} {v : Int32} {off : Int} {tgt : Nat} (hdg : decode cc pc = .ok (.ifnull off, 3)) (ht : (pc : Int) + off = (tgt : Int)) (kt : v < 0 → W p l e R s m args below meth c H locs cells slots Q (F0 m tgt ls rest)) (kf : ¬ v < 0 → W p l e R s m args below meth c H locs cells slots Q (F0 m (pc + 3) ls rest)) : W p l e R s m args below meth c H locs cells slots Q (F0 m pc ls (va_rf (zr ad g v) :: rest)) := by
  by_cases h : v < 0
  · rw [zr_neg h]
    exact lv_ifnullN hC.1 hC.2.1 hdg ht (kt h)
  · rw [zr_pos h]
    exact lv_ifnull hC.1 hC.2.1 hdg (kf h)
theorem z_ifnonnullq (hC : ZC p m meth c s own cc nL) {g : Nat} {v : Int32} {off : Int} {tgt : Nat} (hdg : decode cc pc = .ok (.ifnonnull off, 3)) (ht : (pc : Int) + off = (tgt : Int)) (kt : ¬ v < 0 → W p l e R s m args below meth c H locs cells slots Q (F0 m tgt ls rest)) (kf : v < 0 → W p l e R s m args below meth c H locs cells slots Q (F0 m (pc + 3) ls rest)) : W p l e R s m args below meth c H locs cells slots Q (F0 m pc ls (va_rf (zr ad g v) :: rest)) := by
  by_cases h : v < 0
  · rw [zr_neg h]
    exact lv_ifnonnullN hC.1 hC.2.1 hdg (kf h)
  · rw [zr_pos h]
    exact lv_ifnonnull hC.1 hC.2.1 hdg ht (kt h)
theorem z_null (hC : ZC p m meth c s own cc nL) (ad : Nat → Nat → Nat) (g : Nat) (hdg : decode cc pc = .ok (.aconst_null, 1)) (kk : W p l e R s m args below meth c H locs cells slots Q (F0 m (pc + 1) ls (va_rf (zr ad g (-1)) :: rest))) : W p l e R s m args below meth c H locs cells slots Q (F0 m pc ls rest) := by
  rw [zr_neg (by decide)] at kk
  exact lv_null hC.1 hC.2.1 hdg kk
/-- two nullable references are one -/
def zeqr (v w : Int32) : Prop := v = w ∨ (v < 0 ∧ w < 0)
theorem z_acmpne (hC : ZC p m meth c s own cc nL) (hZ : ZS D ca base ad n np μ s H locs) {v w : Int32} (hv : ¬ v < 0 → v.toNatClampNeg < n) (hw : ¬ w < 0 → w.toNatClampNeg < n) {off : Int} {tgt : Nat} (hdg : decode cc pc = .ok (.if_acmp .ne off, 3)) (ht : (pc : Int) + off = (tgt : Int))
    (kt : ¬ zeqr v w → W p l e R s m args below meth c H locs cells slots Q (F0 m tgt ls rest)) (kf : zeqr v w → W p l e R s m args below meth c H locs cells slots Q (F0 m (pc + 3) ls rest)) : W p l e R s m args below meth c H locs cells slots Q (F0 m pc ls (va_rf (zr ad 70 w) :: va_rf (zr ad 70 v) :: rest)) := by
  have key : zr ad 70 v = zr ad 70 w ↔ zeqr v w := by
    unfold zr zeqr
    by_cases h1 : v < 0
    · by_cases h2 : w < 0
      · simp [h1, h2]
      · simp [h1, h2]
        intro h3
        exact absurd (h3 ▸ h1) h2
    · by_cases h2 : w < 0
      · simp [h1, h2]
        intro h3
        exact absurd (h3 ▸ h2) h1
      · simp only [h1, h2, if_false, Option.some.injEq, and_self, or_false]
        constructor
        · intro h3
          have h4 := (hZ.2.2.2.1 _ _ _ _ _ _ (zF_70 (hv h1) _) (zF_70 (hw h2) _) h3).2
          exact Int32.toInt_inj.mp (by
            have a1 : ¬ v.toInt < 0 := fun q => h1 (Int32.lt_iff_toInt_lt.mpr q)
            have a2 : ¬ w.toInt < 0 := fun q => h2 (Int32.lt_iff_toInt_lt.mpr q)
            have a3 : v.toInt.toNat = w.toInt.toNat := h4
            omega)
        · intro h3
          rw [h3]
  exact lv_acmp_ne hC.1 hC.2.1 hdg ht (fun h => kt (fun q => h (key.mpr q))) (fun h => kf (key.mp h))
theorem z_df0 {g : Nat} {v : Int32} (h : ¬ v < 0) (kk : W p l e R s m args below meth c H locs cells slots Q (F0 m pc ls (.ref (ad g v.toNatClampNeg) :: rest))) : W p l e R s m args below meth c H locs cells slots Q (F0 m pc ls (va_rf (zr ad g v) :: rest)) := by
  rw [zr_pos h]
  exact kk
theorem z_df1 {g : Nat} {v : Int32} {x : Value} (h : ¬ v < 0) (kk : W p l e R s m args below meth c H locs cells slots Q (F0 m pc ls (x :: .ref (ad g v.toNatClampNeg) :: rest))) : W p l e R s m args below meth c H locs cells slots Q (F0 m pc ls (x :: va_rf (zr ad g v) :: rest)) := by
  rw [zr_pos h]
  exact kk
theorem z_df2 {g : Nat} {v : Int32} {x y : Value} (h : ¬ v < 0) (kk : W p l e R s m args below meth c H locs cells slots Q (F0 m pc ls (x :: y :: .ref (ad g v.toNatClampNeg) :: rest))) : W p l e R s m args below meth c H locs cells slots Q (F0 m pc ls (x :: y :: va_rf (zr ad g v) :: rest)) := by
  rw [zr_pos h]
  exact kk
theorem z_df3 {g : Nat} {v : Int32} {x y z : Value} (h : ¬ v < 0) (kk : W p l e R s m args below meth c H locs cells slots Q (F0 m pc ls (x :: y :: z :: .ref (ad g v.toNatClampNeg) :: rest))) : W p l e R s m args below meth c H locs cells slots Q (F0 m pc ls (x :: y :: z :: va_rf (zr ad g v) :: rest)) := by
  rw [zr_pos h]
  exact kk
end ZSPEC
end
section
/-! Math.min, System.arraycopy, throws -/
def zmin (x y : Int32) : Int32 := if y < x then y else x
theorem kst_min : Cond.static Lib.Math.min.name ∈ lw_tbl := tin1 _ (List.mem_of_getElem? (i := 172) (by decide +kernel))
theorem kco_min : Cond.code Lib.Math.min.name Lib.Math.min.code 2 (some .int) ∈ lw_tbl := tin1 _ (List.mem_of_getElem? (i := 173) (by decide +kernel))
theorem kst_acopy : Cond.static arraycopyName ∈ lw_tbl := tin1 _ (List.mem_of_getElem? (i := 165) (by decide +kernel))
theorem kna_acopy : Cond.native arraycopyName ∈ lw_tbl := tin1 _ (List.mem_of_getElem? (i := 166) (by decide +kernel))
set_option maxRecDepth 20000 in
theorem zat_iae : ∀ w ∈ vx_atS RX4 62 "java/lang/IllegalArgumentException" ["java/lang/RuntimeException", "java/lang/Exception"], w ∈ lw_tbl := by decide +kernel
set_option maxRecDepth 20000 in
theorem zat_ise : ∀ w ∈ vx_atS RX4 73 "java/lang/IllegalStateException" ["java/lang/RuntimeException", "java/lang/Exception"], w ∈ lw_tbl := by decide +kernel
set_option maxRecDepth 20000 in
theorem zat_ioo : ∀ w ∈ vx_atS RX4 246 "java/lang/IndexOutOfBoundsException" ["java/lang/RuntimeException", "java/lang/Exception"], w ∈ lw_tbl := by decide +kernel
theorem zag_iae : (Cond.classLink RX4 58 "java/lang/IllegalArgumentException" :: Cond.initialized "java/lang/IllegalArgumentException" :: vx_atS RX4 62 "java/lang/IllegalArgumentException" ["java/lang/RuntimeException", "java/lang/Exception"]).all (fun w => zgood w && vx_ot w) = true := by decide +kernel
theorem zag_ise : (Cond.classLink RX4 69 "java/lang/IllegalStateException" :: Cond.initialized "java/lang/IllegalStateException" :: vx_atS RX4 73 "java/lang/IllegalStateException" ["java/lang/RuntimeException", "java/lang/Exception"]).all (fun w => zgood w && vx_ot w) = true := by decide +kernel
theorem zag_ioo : (Cond.classLink RX4 242 "java/lang/IndexOutOfBoundsException" :: Cond.initialized "java/lang/IndexOutOfBoundsException" :: vx_atS RX4 246 "java/lang/IndexOutOfBoundsException" ["java/lang/RuntimeException", "java/lang/Exception"]).all (fun w => zgood w && vx_ot w) = true := by decide +kernel
theorem zfit_iae : Bundle.fit "java/lang/IllegalArgumentException" = true ∧ Bundle.fit "java/lang/IllegalStateException" = true ∧ Bundle.fit "java/lang/IndexOutOfBoundsException" = true := by decide +kernel
theorem zfit_n : ∀ n ∈ ["java/lang/RuntimeException", "java/lang/Exception"], Bundle.fit n = true := by decide +kernel
/-- a word of the tables, whatever the arguments -/
theorem zW.useA {s : State} (h : zW s) {w : Cond} (args : Array Value) (hw : w ∈ lw_tbl) (hg : zgood w = true) : w.before args s = true := by
  cases hgw : goodWord w with
  | true => exact h.use args hw hgw
  | false => exact va_Nw.use (zgood_tab hg hgw) (h w hw hg)
section ZROWS2
variable {p : Program} {l : Launch} {e : Env} {R : Room} {s : State} {m : MethodId} {args : Array Value} {below : List Frame} {meth : Method} {c : Code} {H : Heap} {locs : List Loc} {cells slots : Nat} {Q : State → Prop}
variable {cc : ByteArray} {pc : Nat} {ls : Array Slot} {rest st0 : List Value} {own : String} {nL : Nat}
variable {D : va_G} {ca : Nat → ClassId} {base : Nat} {ad : Nat → Nat → Nat} {n np : Nat} {μ : Mem}
theorem z_min (hC : ZC p m meth c s own cc nL) (hZ : ZS D ca base ad n np μ s H locs) (hsz : ls.size = nL) {index : Nat} (hlink : Cond.methodLink own index Lib.Math.min.name ∈ lw_tbl) (hf : 1 ≤ R.frames) (hlo : (rest.map fun v => v.category).sum + 13 ≤ R.locals) (hc : cells ≤ R.cells) (hs : slots ≤ R.slots) {x y : Int32} (hdg : decode cc pc = .ok (.invokestatic index, 3))
    (kk : W p l e R s m args below meth c H locs cells slots Q (F0 m (pc + 3) ls (.int (zmin x y) :: rest))) : W p l e R s m args below meth c H locs cells slots Q (F0 m pc ls (.int y :: .int x :: rest)) :=
  va_mmin hC.1 hC.2.1 (by rw [hC.2.2.1, hsz]) hC.2.2.2.1 (hZ.1.2.1.use args hlink rfl) (hZ.1.2.1.use args kst_min rfl) (hZ.1.2.1.use args kini_Math rfl) (hZ.1.2.1.use args kco_min rfl) hf hlo hc hs hdg kk
theorem z_copyG (hC : ZC p m meth c s own cc nL) (hZ : ZS D ca base ad n np μ s H locs) {f i j N : Nat} (he : ∀ r, zF ad ca n np f i r = some (.inl (ca 0, N, .inl r))) (he2 : ∀ r, zF ad ca n np f j r = some (.inl (ca 0, N, .inl r))) (hne : ¬ i = j) (hsz : ls.size = nL) {index : Nat} (hlink : Cond.methodLink own index arraycopyName ∈ lw_tbl) {k : Int32} {K : Nat} (hk : ¬ k < 0) (hkN : k.toNatClampNeg = K) (hKN : K ≤ N) (hf : 1 ≤ R.frames) (hlo : (rest.map fun v => v.category).sum + 18 ≤ R.locals) (hdg : decode cc pc = .ok (.invokestatic index, 3))
    (kk : ∀ (μ1 : Mem) (H1 : Heap) (locs1 : List Loc), μ1 = zcp μ f j (va_cpy (μ f i) (μ f j) 0 0 K) → ZS D ca base ad n np μ1 s H1 locs1 → W p l e R s m args below meth c H1 locs1 cells slots Q (F0 m (pc + 3) ls rest)) : W p l e R s m args below meth c H locs cells slots Q (F0 m pc ls (.int k :: .int 0 :: .ref (ad f j) :: .int 0 :: .ref (ad f i) :: rest)) := by
  have hW := hZ.1.2.1
  subst hkN
  intro T hT X
  have hc0 : H[ad f i]? = some (vp_cell (ca 0) (N, .inl (μ f i))) := hZ.2.2.1 f i _ (he _)
  have hc1 : H[ad f j]? = some (vp_cell (ca 0) (N, .inl (μ f j))) := hZ.2.2.1 f j _ (he2 _)
  obtain ⟨-, k0, hk0, cm0, hkk0⟩ := (hZ.1.1.2 0 _ rfl).1 N (fun z => .int (μ f i z))
  obtain ⟨-, k1, hk1, cm1, hkk1⟩ := (hZ.1.1.2 0 _ rfl).1 N (fun z => .int (μ f j z))
  have hk0' : (0 : Int) ≤ k.toInt := by
    have := Int32.not_lt.mp hk
    simpa using Int32.le_iff_toInt_le.mp this
  have hkI : k.toInt = (k.toNatClampNeg : Int) := by
    show k.toInt = ((k.toInt.toNat : Nat) : Int)
    omega
  obtain ⟨vm', X', step⟩ := X.arraycopy hC.1 hC.2.2.2.1 (hW.use args hlink rfl) (hW.use args kna_acopy rfl) (hW.use args kst_acopy rfl) (hW.use args kini_System rfl) (src := ad f i) (dst := ad f j) (cs := vp_cell (ca 0) (N, .inl (μ f i))) (cd := vp_cell (ca 0) (N, .inl (μ f j))) (srcPos := 0) (destPos := 0) (n := k) (by rw [hT]; exact hc0) (by rw [hT]; exact hc1)
    (fun _ h => by cases h) (fun _ h => by cases h) (fun h => by cases h) (fun h => by cases h) hk0 hk1 hkk0 hkk1 (by show (refKind FieldType.int != refKind FieldType.int || !refKind FieldType.int && FieldType.int != FieldType.int) = false; decide) (by decide) (by decide) hk
    (by rw [hkI]; show ¬ _ > ((arrV (ca 0) N (fun z => .int (μ f i z))).slots.size : Int); rw [arrV_size, show (0 : Int32).toInt = 0 from rfl]; omega)
    (by rw [hkI]; show ¬ _ > ((arrV (ca 0) N (fun z => .int (μ f j z))).slots.size : Int); rw [arrV_size, show (0 : Int32).toInt = 0 from rfl]; omega)
    (fun vm₁ _ i2 hi2 => by
      have e : (vp_cell (ca 0) (N, .inl (μ f i))).slots.getD ((0 : Int32).toNatClampNeg + i2) .null = .int (μ f i ((0 : Int32).toNatClampNeg + i2)) := by
        show (arrV (ca 0) N (fun z => .int (μ f i z))).slots.getD _ _ = _
        rw [Array.getD_eq_getD_getElem?, arrV_read _ _ (by rw [show (0 : Int32).toNatClampNeg = 0 from rfl]; omega)]
        rfl
      refine ⟨?_, ?_⟩
      · rw [e]
        rfl
      · rw [e]
        exact trivial)
    (g := F0 m pc ls (.int k :: .int 0 :: .ref (ad f j) :: .int 0 :: .ref (ad f i) :: rest)) rfl (by rw [hC.2.2.1]; exact hsz) (rest := rest) rfl (by rw [hC.2.1]; exact hdg) hf (by show 2 * 0 + _ + _ ≤ _; rw [show nativeFrameWords "java/lang/System" "arraycopy" 5 + 11 = 18 by decide +kernel]; omega)
  have e1 : copied (vp_cell (ca 0) (N, .inl (μ f i))) (vp_cell (ca 0) (N, .inl (μ f j))) 0 0 k = vp_cell (ca 0) (N, .inl (va_cpy (μ f i) (μ f j) 0 0 k.toNatClampNeg)) := va_copied (fun z => .int z) (ca 0) (ca 0) (μ f i) (μ f j) (by rw [show (0 : Int32).toNatClampNeg = 0 from rfl]; omega)
  rw [e1] at X' step
  have hl : ad f j < H.size := (Array.getElem?_eq_some_iff.mp hc1).1
  have hheap : ((T.setVm vm').setCell (ad f j) (vp_cell (ca 0) (N, .inl (va_cpy (μ f i) (μ f j) 0 0 k.toNatClampNeg)))).heap = H.setIfInBounds (ad f j) (vp_cell (ca 0) (N, .inl (va_cpy (μ f i) (μ f j) 0 0 k.toNatClampNeg))) := by rw [← hT]; rfl
  have oq : ∀ q : Nat, q ≠ ad f j → (H.setIfInBounds (ad f j) (vp_cell (ca 0) (N, .inl (va_cpy (μ f i) (μ f j) 0 0 k.toNatClampNeg))))[q]? = H[q]? := fun q hq => by simp [Array.getElem?_setIfInBounds, Ne.symm hq]
  obtain ⟨hK, hS, hwd⟩ := hZ
  have hbj : base ≤ ad f j := hwd.2.2 _ _ _ (he2 (μ f j))
  obtain ⟨t, a1, b1⟩ := kk _ _ _ rfl ⟨hK, ⟨by simp; exact hS.1, fun q g1 g2 => by
      rw [oq q (fun e => g2 (by rw [e]; exact hbj))]
      exact hS.2.1 q g1 g2, fun q hq => by
      rcases List.mem_append.mp hq with h | h
      · exact hS.2.2 q h
      · obtain ⟨z, -, hz⟩ := List.mem_map.mp h
        rw [← hz]
        exact hbj⟩, hwd.put (he2 _) (he2 _) (show (H.setIfInBounds (ad f j) _)[ad f j]? = some _ by simp [Array.getElem?_setIfInBounds, hl]) oq⟩ _ hheap X'
  exact ⟨t, step t a1, b1⟩
theorem z_copy_42 (hC : ZC p m meth c s own cc nL) (hZ : ZS D ca base ad n np μ s H locs) {i j : Nat} (hi : i < 2) (hj : j < 2) (hne : ¬ i = j) (hsz : ls.size = nL) {index : Nat} (hlink : Cond.methodLink own index arraycopyName ∈ lw_tbl) (hf : 1 ≤ R.frames) (hlo : (rest.map fun v => v.category).sum + 18 ≤ R.locals) (hdg : decode cc pc = .ok (.invokestatic index, 3))
    (kk : ∀ (μ1 : Mem) (H1 : Heap) (locs1 : List Loc), μ1 = zcp μ 42 j (va_cpy (μ 42 i) (μ 42 j) 0 0 5) → ZS D ca base ad n np μ1 s H1 locs1 → W p l e R s m args below meth c H1 locs1 cells slots Q (F0 m (pc + 3) ls rest)) : W p l e R s m args below meth c H locs cells slots Q (F0 m pc ls (.int 5 :: .int 0 :: .ref (ad 42 j) :: .int 0 :: .ref (ad 42 i) :: rest)) :=
  z_copyG hC hZ (fun r => zF_42 hi r) (fun r => zF_42 hj r) hne hsz hlink (by decide) rfl (by decide) hf hlo hdg kk
theorem z_copy_43 (hC : ZC p m meth c s own cc nL) (hZ : ZS D ca base ad n np μ s H locs) {i j : Nat} (hi : i < 10) (hj : j < 10) (hne : ¬ i = j) (hsz : ls.size = nL) {index : Nat} (hlink : Cond.methodLink own index arraycopyName ∈ lw_tbl) (hf : 1 ≤ R.frames) (hlo : (rest.map fun v => v.category).sum + 18 ≤ R.locals) (hdg : decode cc pc = .ok (.invokestatic index, 3))
    (kk : ∀ (μ1 : Mem) (H1 : Heap) (locs1 : List Loc), μ1 = zcp μ 43 j (va_cpy (μ 43 i) (μ 43 j) 0 0 4) → ZS D ca base ad n np μ1 s H1 locs1 → W p l e R s m args below meth c H1 locs1 cells slots Q (F0 m (pc + 3) ls rest)) : W p l e R s m args below meth c H locs cells slots Q (F0 m pc ls (.int 4 :: .int 0 :: .ref (ad 43 j) :: .int 0 :: .ref (ad 43 i) :: rest)) :=
  z_copyG hC hZ (fun r => zF_43 hi r) (fun r => zF_43 hj r) hne hsz hlink (by decide) rfl (by decide) hf hlo hdg kk
theorem z_throw {cls text : String} {ik is ic mc ms : Nat} {xp : String → Mem → Prop} {Qc : Array Value → State → Outcome → State → Prop} (hC : ZC p m meth c s RX4 cc nL) (hnx : ∀ x ∈ c.exceptionTable.toList, False) (hst : l.stackTraces = false) (hZ : ZS D ca base ad n np μ s H locs) (hsz : ls.size = nL) (hs : ((is, text) : Nat × String) ∈ zStrs)
    (hfit : Bundle.fit cls = true) (hat : ∀ w ∈ vx_atS RX4 ic cls ["java/lang/RuntimeException", "java/lang/Exception"], w ∈ lw_tbl) (hag : (Cond.classLink RX4 ik cls :: Cond.initialized cls :: vx_atS RX4 ic cls ["java/lang/RuntimeException", "java/lang/Exception"]).all (fun w => zgood w && vx_ot w) = true) (hik : Cond.classLink RX4 ik cls ∈ lw_tbl) (hii : Cond.initialized cls ∈ lw_tbl)
    (d0 : decode cc pc = .ok (.new ik, 3)) (d3 : decode cc (pc + 3) = .ok (.dup, 1)) (d4 : decode cc (pc + 4) = .ok (.ldc is, 2)) (d6 : decode cc (pc + 6) = .ok (.invokespecial ic, 3)) (d9 : decode cc (pc + 9) = .ok (.athrow, 1))
    (hRl : (rest.map fun v => v.category).sum + 82 ≤ R.locals) (hRf : 6 ≤ R.frames) (hRc : cells + 1 ≤ R.cells) (hRs : slots + 6 ≤ R.slots) (hc : cells + 1 ≤ mc) (hs6 : slots + 6 ≤ ms) (hx : xp cls μ) :
    W p l e R s m args below meth c H locs cells slots (vx_MQ below Qc (ZX D ca base ad n np xp) args s mc ms (zB base)) (F0 m pc ls rest) := by
  obtain ⟨sa, hsa⟩ := hZ.1.2.2.2.2.2.1 _ hs
  have hW := hZ.1.2.1
  have hga := List.all_eq_true.mp hag
  refine vx_throwS (A := zB base) (names := ["java/lang/RuntimeException", "java/lang/Exception"]) hC.1 hC.2.1 hst hC.2.2.2.1 hfit zfit_n (hW.use args hik rfl) (hW.use args hii rfl) hsa (fun w hw => ?_) (fun w hw => ?_) hZ.1.2.2.2.1 hZ.1.2.2.2.2.1 hZ.2.1 (by rw [hC.2.2.1]; exact hsz) d0 d3 d4 d6 d9 (fun x h => (hnx x h).elim) hRf hRl hRc hRs hC.2.2.2.2 (fun t hA h1 h2 => ?_) hZ.2.1.2.2 hc hs6
  · have h3 := hga w (List.mem_cons_of_mem _ (List.mem_cons_of_mem _ hw))
    simp only [Bool.and_eq_true] at h3
    exact hW.useA args (hat w hw) h3.1
  · have h3 := hga w hw
    simp only [Bool.and_eq_true] at h3
    exact h3.2
  · exact ⟨⟨μ, hx, hZ.2.2.kept h2⟩, Nat.le_trans hZ.2.1.1 h1, fun q g1 g2 => by rw [h2 q (Nat.lt_of_lt_of_le g1 hZ.2.1.1)]; exact hZ.2.1.2.1 q g1 g2⟩
theorem z_throw_iae {text : String} {is mc ms : Nat} {xp : String → Mem → Prop} {Qc : Array Value → State → Outcome → State → Prop} (hC : ZC p m meth c s RX4 cc nL) (hnx : ∀ x ∈ c.exceptionTable.toList, False) (hst : l.stackTraces = false) (hZ : ZS D ca base ad n np μ s H locs) (hsz : ls.size = nL) (hs : ((is, text) : Nat × String) ∈ zStrs)
    (d0 : decode cc pc = .ok (.new 58, 3)) (d3 : decode cc (pc + 3) = .ok (.dup, 1)) (d4 : decode cc (pc + 4) = .ok (.ldc is, 2)) (d6 : decode cc (pc + 6) = .ok (.invokespecial 62, 3)) (d9 : decode cc (pc + 9) = .ok (.athrow, 1))
    (hRl : (rest.map fun v => v.category).sum + 82 ≤ R.locals) (hRf : 6 ≤ R.frames) (hRc : cells + 1 ≤ R.cells) (hRs : slots + 6 ≤ R.slots) (hc : cells + 1 ≤ mc) (hs6 : slots + 6 ≤ ms) (hx : xp "java/lang/IllegalArgumentException" μ) :
    W p l e R s m args below meth c H locs cells slots (vx_MQ below Qc (ZX D ca base ad n np xp) args s mc ms (zB base)) (F0 m pc ls rest) :=
  z_throw hC hnx hst hZ hsz hs zfit_iae.1 zat_iae zag_iae kc_X4_58 kini_IllegalArgumentException d0 d3 d4 d6 d9 hRl hRf hRc hRs hc hs6 hx
theorem z_throw_ise {text : String} {is mc ms : Nat} {xp : String → Mem → Prop} {Qc : Array Value → State → Outcome → State → Prop} (hC : ZC p m meth c s RX4 cc nL) (hnx : ∀ x ∈ c.exceptionTable.toList, False) (hst : l.stackTraces = false) (hZ : ZS D ca base ad n np μ s H locs) (hsz : ls.size = nL) (hs : ((is, text) : Nat × String) ∈ zStrs)
    (d0 : decode cc pc = .ok (.new 69, 3)) (d3 : decode cc (pc + 3) = .ok (.dup, 1)) (d4 : decode cc (pc + 4) = .ok (.ldc is, 2)) (d6 : decode cc (pc + 6) = .ok (.invokespecial 73, 3)) (d9 : decode cc (pc + 9) = .ok (.athrow, 1))
    (hRl : (rest.map fun v => v.category).sum + 82 ≤ R.locals) (hRf : 6 ≤ R.frames) (hRc : cells + 1 ≤ R.cells) (hRs : slots + 6 ≤ R.slots) (hc : cells + 1 ≤ mc) (hs6 : slots + 6 ≤ ms) (hx : xp "java/lang/IllegalStateException" μ) :
    W p l e R s m args below meth c H locs cells slots (vx_MQ below Qc (ZX D ca base ad n np xp) args s mc ms (zB base)) (F0 m pc ls rest) :=
  z_throw hC hnx hst hZ hsz hs zfit_iae.2.1 zat_ise zag_ise kc_X4_69 kini_IllegalStateException d0 d3 d4 d6 d9 hRl hRf hRc hRs hc hs6 hx
theorem z_throw_ioo {text : String} {is mc ms : Nat} {xp : String → Mem → Prop} {Qc : Array Value → State → Outcome → State → Prop} (hC : ZC p m meth c s RX4 cc nL) (hnx : ∀ x ∈ c.exceptionTable.toList, False) (hst : l.stackTraces = false) (hZ : ZS D ca base ad n np μ s H locs) (hsz : ls.size = nL) (hs : ((is, text) : Nat × String) ∈ zStrs)
    (d0 : decode cc pc = .ok (.new 242, 3)) (d3 : decode cc (pc + 3) = .ok (.dup, 1)) (d4 : decode cc (pc + 4) = .ok (.ldc is, 2)) (d6 : decode cc (pc + 6) = .ok (.invokespecial 246, 3)) (d9 : decode cc (pc + 9) = .ok (.athrow, 1))
    (hRl : (rest.map fun v => v.category).sum + 82 ≤ R.locals) (hRf : 6 ≤ R.frames) (hRc : cells + 1 ≤ R.cells) (hRs : slots + 6 ≤ R.slots) (hc : cells + 1 ≤ mc) (hs6 : slots + 6 ≤ ms) (hx : xp "java/lang/IndexOutOfBoundsException" μ) :
    W p l e R s m args below meth c H locs cells slots (vx_MQ below Qc (ZX D ca base ad n np xp) args s mc ms (zB base)) (F0 m pc ls rest) :=
  z_throw hC hnx hst hZ hsz hs zfit_iae.2.2 zat_ioo zag_ioo kc_X4_242 kini_IndexOutOfBoundsException d0 d3 d4 d6 d9 hRl hRf hRc hRs hc hs6 hx
end ZROWS2
end
section
/-! OBJECTS IN THE MAKING: worlds as lists, over the kit's rows; classes of arrays by ca -/
def KU (D : va_G) (ca : Nat → ClassId) (U : State) : Prop := va_K D vwCl (zT ca) U ∧ zW U ∧ va_AO "BacklotPlanner$Scene" U ∧ va_AO "BacklotPlanner$Permit" U ∧ (Cond.arrayOver (.array .int)).before #[] U = true
theorem KU.moved {D : va_G} {ca : Nat → ClassId} {s U : State} (hW : s.WarmedH U.vm) (h : KU D ca s) : KU D ca U :=
  ⟨va_K.moved hW.alike h.1, h.2.1.moved hW, va_AO.moved hW.alike h.2.2.1, va_AO.moved hW.alike h.2.2.2.1, Jvm.Stand.arrayOver_alikeB hW.alike h.2.2.2.2⟩
theorem KU.blind {D : va_G} {ca : Nat → ClassId} {U : State} {g : JFrame} {mk : MethodId} {a : Array Value} (h : KU D ca U) : KU D ca (U.calling g mk a) := h.moved (s := U) (U := U.calling g mk a) (State.WarmedH.refl U)
/-- a constructor's end: what the heap holds; old cells but b stay -/
def KQ (PH : Heap → Prop) (b sz : Nat) : Array Value → State → Outcome → State → Prop := fun _ st o t => o = .returned none ∧ PH t.heap ∧ va_F (fun q => q = b ∨ sz ≤ q) st t
def KPre (D : va_G) (ca : Nat → ClassId) (b sz : Nat) (e : va_E) (U : State) : Prop := U.heap.size = sz ∧ va_at D vwCl (b, e) U.heap ∧ b < sz ∧ KU D ca U
def KMet (l : Launch) (y : MethodName) (cc : ByteArray) (ml : Nat) (rm : Room) (mc ms : Nat) (D : va_G) (ca : Nat → ClassId) (b sz : Nat) (e : va_E) (av : List Value) (PH : Heap → Prop) : Prop :=
  Met l y [Cond.code y cc ml none] rm (va_Pc av (KPre D ca b sz e)) (KQ PH b sz) mc ms (fun q => q = b ∨ sz ≤ q)
theorem KPre_blind {D : va_G} {ca : Nat → ClassId} {b sz : Nat} {e : va_E} {av : List Value} : FrameBlind (va_Pc av (KPre D ca b sz e)) := fun _ _ _ _ q => ⟨q.1, q.2.1, q.2.2.1, q.2.2.2.1, q.2.2.2.2.blind⟩
theorem zi_obj : Cond.instanceMethod objectInit ∈ lw_tbl := tin1 _ (List.mem_of_getElem? (i := 22) (by decide +kernel))
theorem zc_obj : Cond.code objectInit ⟨#[0xb1]⟩ 1 none ∈ lw_tbl := tin1 _ (List.mem_of_getElem? (i := 23) (by decide +kernel))
section KROWS
variable {p : Program} {l : Launch} {e : Env} {R : Room} {s : State} {m : MethodId} {args : Array Value} {below : List Frame} {meth : Method} {c : Code} {H : Heap} {locs : List Loc} {cells slots : Nat} {Q : State → Prop}
variable {cc : ByteArray} {pc : Nat} {ls : Array Slot} {rest st0 : List Value} {own : String} {nL : Nat}
variable {D : va_G} {ca : Nat → ClassId} {A : Nat → Prop} {H0 : Heap} {ws : va_W}
theorem k_ra (hK : va_K D vwCl (zT ca) s) {t : Nat} {ty : FieldType} (ht : (zT ca)[t]? = some (ca t, ty)) (h1 : s.vm.findClass ("[" ++ ty.toString) = some (ca t)) {cA : ClassId} (h2 : s.vm.findClass ("[" ++ ty.toString) = some cA) : cA = ca t := Option.some.inj (h2.symm.trans h1)
theorem k_I (hK : va_K D vwCl (zT ca) s) : s.vm.findClass ("[" ++ FieldType.int.toString) = some (ca 0) := (hK.2 0 _ rfl).2
theorem k_Z (hK : va_K D vwCl (zT ca) s) : s.vm.findClass ("[" ++ FieldType.boolean.toString) = some (ca 1) := (hK.2 1 _ rfl).2
theorem k_S (hK : va_K D vwCl (zT ca) s) : s.vm.findClass ("[" ++ (FieldType.object "BacklotPlanner$Scene").toString) = some (ca 2) := by
  obtain ⟨_, _, _, _, _, h⟩ := (hK.2 2 _ rfl).2
  exact h
theorem k_P (hK : va_K D vwCl (zT ca) s) : s.vm.findClass ("[" ++ (FieldType.object "BacklotPlanner$Permit").toString) = some (ca 3) := by
  obtain ⟨_, _, _, _, _, h⟩ := (hK.2 3 _ rfl).2
  exact h
theorem k_II (hK : va_K D vwCl (zT ca) s) : s.vm.findClass ("[" ++ (FieldType.array .int).toString) = some (ca 4) := (hK.2 4 _ rfl).2
theorem k_J (hK : va_K D vwCl (zT ca) s) : s.vm.findClass ("[" ++ FieldType.long.toString) = some (ca 5) := (hK.2 5 _ rfl).2
theorem k_newI (hC : ZC p m meth c s own cc nL) (hK : va_K D vwCl (zT ca) s) (hW : zW s) (hP : va_P D vwCl ws H) (hD : va_D A ws) (hS : va_S A H0 H locs) (hA : ∀ q, H0.size ≤ q → A q) {k : Int32} {N : Nat} (hn : ¬ k < 0) (hN : k.toNatClampNeg = N) (hb : N * 4 ≤ 536870912) (hc : cells + 1 ≤ R.cells) (hs : slots + N ≤ R.slots) (hdg : decode cc pc = .ok (.newarray .int, 2))
    (kk : ∀ (q : Nat) (H1 : Heap), va_P D vwCl (ws ++ [(q, .inl (ca 0, N, .inl (fun _ => 0)))]) H1 → va_D A (ws ++ [(q, .inl (ca 0, N, .inl (fun _ => 0)))]) → va_S A H0 H1 locs → W p l e R s m args below meth c H1 locs (cells + 1) (slots + N) Q (F0 m (pc + 2) ls (.ref q :: rest))) : W p l e R s m args below meth c H locs cells slots Q (F0 m pc ls (.int k :: rest)) := by
  refine va_newa (atype := .int) hC.1 hC.2.1 (hW.use args ka_int rfl) (ty := .int) rfl hK hP hD hS hA (a0 := (N, .inl (fun _ => 0))) (fun cA => by rw [vp_cell_i]; rfl) hn hN hb hc hs hdg (fun q cA H1 hK1 hP1 hD1 hS1 => ?_)
  have e1 : cA = ca 0 := k_ra hK rfl (k_I hK) (hK1.2 6 (cA, .int) rfl).2
  subst e1
  exact kk q H1 hP1 hD1 hS1
theorem k_newZ (hC : ZC p m meth c s own cc nL) (hK : va_K D vwCl (zT ca) s) (hW : zW s) (hP : va_P D vwCl ws H) (hD : va_D A ws) (hS : va_S A H0 H locs) (hA : ∀ q, H0.size ≤ q → A q) {k : Int32} {N : Nat} (hn : ¬ k < 0) (hN : k.toNatClampNeg = N) (hb : N * 1 ≤ 536870912) (hc : cells + 1 ≤ R.cells) (hs : slots + N ≤ R.slots) (hdg : decode cc pc = .ok (.newarray .boolean, 2))
    (kk : ∀ (q : Nat) (H1 : Heap), va_P D vwCl (ws ++ [(q, .inl (ca 1, N, .inl (fun _ => 0)))]) H1 → va_D A (ws ++ [(q, .inl (ca 1, N, .inl (fun _ => 0)))]) → va_S A H0 H1 locs → W p l e R s m args below meth c H1 locs (cells + 1) (slots + N) Q (F0 m (pc + 2) ls (.ref q :: rest))) : W p l e R s m args below meth c H locs cells slots Q (F0 m pc ls (.int k :: rest)) := by
  refine va_newa (atype := .boolean) hC.1 hC.2.1 (hW.use args ka_boolean rfl) (ty := .boolean) rfl hK hP hD hS hA (a0 := (N, .inl (fun _ => 0))) (fun cA => by rw [vp_cell_i]; rfl) hn hN hb hc hs hdg (fun q cA H1 hK1 hP1 hD1 hS1 => ?_)
  have e1 : cA = ca 1 := k_ra hK rfl (k_Z hK) (hK1.2 6 (cA, .boolean) rfl).2
  subst e1
  exact kk q H1 hP1 hD1 hS1
theorem k_newJ (hC : ZC p m meth c s own cc nL) (hK : va_K D vwCl (zT ca) s) (hW : zW s) (hP : va_P D vwCl ws H) (hD : va_D A ws) (hS : va_S A H0 H locs) (hA : ∀ q, H0.size ≤ q → A q) {k : Int32} {N : Nat} (hn : ¬ k < 0) (hN : k.toNatClampNeg = N) (hb : N * 8 ≤ 536870912) (hc : cells + 1 ≤ R.cells) (hs : slots + N ≤ R.slots) (hdg : decode cc pc = .ok (.newarray .long, 2))
    (kk : ∀ (q : Nat) (H1 : Heap), va_P D vwCl (ws ++ [(q, .inl (ca 5, N, .inr (.inl (fun _ => 0))))]) H1 → va_D A (ws ++ [(q, .inl (ca 5, N, .inr (.inl (fun _ => 0))))]) → va_S A H0 H1 locs → W p l e R s m args below meth c H1 locs (cells + 1) (slots + N) Q (F0 m (pc + 2) ls (.ref q :: rest))) : W p l e R s m args below meth c H locs cells slots Q (F0 m pc ls (.int k :: rest)) := by
  refine va_newa (atype := .long) hC.1 hC.2.1 (hW.use args ka_long rfl) (ty := .long) rfl hK hP hD hS hA (a0 := (N, .inr (.inl (fun _ => 0)))) (fun cA => by rw [vp_cell_l]; rfl) hn hN hb hc hs hdg (fun q cA H1 hK1 hP1 hD1 hS1 => ?_)
  have e1 : cA = ca 5 := k_ra hK rfl (k_J hK) (hK1.2 6 (cA, .long) rfl).2
  subst e1
  exact kk q H1 hP1 hD1 hS1
theorem k_newS (hC : ZC p m meth c s own cc nL) (hK : va_K D vwCl (zT ca) s) (hW : zW s) (hO : va_AO "BacklotPlanner$Scene" s) (hP : va_P D vwCl ws H) (hD : va_D A ws) (hS : va_S A H0 H locs) (hA : ∀ q, H0.size ≤ q → A q) {index : Nat} (hlink : Cond.classLink own index "BacklotPlanner$Scene" ∈ lw_tbl) {k : Int32} {N : Nat} (hn : ¬ k < 0) (hN : k.toNatClampNeg = N) (hb : N * 4 ≤ 536870912) (hc : cells + 1 ≤ R.cells) (hs : slots + N ≤ R.slots) (hdg : decode cc pc = .ok (.anewarray index, 3))
    (kk : ∀ (q : Nat) (H1 : Heap), va_P D vwCl (ws ++ [(q, .inl (ca 2, N, .inr (.inr (.inr (.inr (fun _ => none))))))]) H1 → va_D A (ws ++ [(q, .inl (ca 2, N, .inr (.inr (.inr (.inr (fun _ => none))))))]) → va_S A H0 H1 locs → W p l e R s m args below meth c H1 locs (cells + 1) (slots + N) Q (F0 m (pc + 3) ls (.ref q :: rest))) : W p l e R s m args below meth c H locs cells slots Q (F0 m pc ls (.int k :: rest)) := by
  refine va_newq hC.1 hC.2.1 hC.2.2.2.1 (hW.use args hlink rfl) hO hK hP hD hS hA hn hN hb hc hs hdg (fun q cA H1 hK1 hP1 hD1 hS1 => ?_)
  have e1 : cA = ca 2 := by
    obtain ⟨_, _, _, _, _, h⟩ := (hK1.2 6 (cA, .object "BacklotPlanner$Scene") rfl).2
    exact k_ra hK rfl (k_S hK) h
  subst e1
  exact kk q H1 hP1 hD1 hS1
theorem k_newP (hC : ZC p m meth c s own cc nL) (hK : va_K D vwCl (zT ca) s) (hW : zW s) (hO : va_AO "BacklotPlanner$Permit" s) (hP : va_P D vwCl ws H) (hD : va_D A ws) (hS : va_S A H0 H locs) (hA : ∀ q, H0.size ≤ q → A q) {index : Nat} (hlink : Cond.classLink own index "BacklotPlanner$Permit" ∈ lw_tbl) {k : Int32} {N : Nat} (hn : ¬ k < 0) (hN : k.toNatClampNeg = N) (hb : N * 4 ≤ 536870912) (hc : cells + 1 ≤ R.cells) (hs : slots + N ≤ R.slots) (hdg : decode cc pc = .ok (.anewarray index, 3))
    (kk : ∀ (q : Nat) (H1 : Heap), va_P D vwCl (ws ++ [(q, .inl (ca 3, N, .inr (.inr (.inr (.inr (fun _ => none))))))]) H1 → va_D A (ws ++ [(q, .inl (ca 3, N, .inr (.inr (.inr (.inr (fun _ => none))))))]) → va_S A H0 H1 locs → W p l e R s m args below meth c H1 locs (cells + 1) (slots + N) Q (F0 m (pc + 3) ls (.ref q :: rest))) : W p l e R s m args below meth c H locs cells slots Q (F0 m pc ls (.int k :: rest)) := by
  refine va_newq hC.1 hC.2.1 hC.2.2.2.1 (hW.use args hlink rfl) hO hK hP hD hS hA hn hN hb hc hs hdg (fun q cA H1 hK1 hP1 hD1 hS1 => ?_)
  have e1 : cA = ca 3 := by
    obtain ⟨_, _, _, _, _, h⟩ := (hK1.2 6 (cA, .object "BacklotPlanner$Permit") rfl).2
    exact k_ra hK rfl (k_P hK) h
  subst e1
  exact kk q H1 hP1 hD1 hS1
theorem k_new (hC : ZC p m meth c s own cc nL) (hK : va_K D vwCl (zT ca) s) (hW : zW s) (hP : va_P D vwCl ws H) (hD : va_D A ws) (hS : va_S A H0 H locs) (hA : ∀ q, H0.size ≤ q → A q) {C : String} {T : u_T} {N ci index : Nat} (hin : ∀ w ∈ u_ws C T N, w ∈ lw_tbl) (ty : Nat → FieldType) (hty : ∀ k, k < N → parseFieldDescriptor (T k).2.2.1 = some (ty k)) (hlink : Cond.classLink own index C ∈ lw_tbl) (hinst : Cond.instantiable C N ∈ lw_tbl) (hini : Cond.initialized C ∈ lw_tbl) (hcl : vwCl[ci]? = some (C, T, N)) {fs : List Value} (hfs : ∀ j, j < N → defaultValue (ty j) = vp_V fs j) (hc : cells + 1 ≤ R.cells) (hs : slots + N ≤ R.slots) (hdg : decode cc pc = .ok (.new index, 3))
    (kk : ∀ (q : Nat) (H1 : Heap), va_P D vwCl (ws ++ [(q, .inr (ci, fs))]) H1 → va_D A (ws ++ [(q, .inr (ci, fs))]) → va_S A H0 H1 locs → W p l e R s m args below meth c H1 locs (cells + 1) (slots + N) Q (F0 m (pc + 3) ls (.ref q :: rest))) : W p l e R s m args below meth c H locs cells slots Q (F0 m pc ls rest) :=
  va_new hC.1 hC.2.1 (hW.lay args hin) (fun _ h => h) ty hty hC.2.2.2.1 (hW.use args hlink rfl) (hW.use args hinst rfl) (hW.use args hini rfl) hK hP hD hS hA hcl hfs hc hs hdg kk
theorem k_putF (hC : ZC p m meth c s own cc nL) (hin2 : meth.name = "<init>") (hK : va_K D vwCl (zT ca) s) (hW : zW s) (hP : va_P D vwCl ws H) (hD : va_D A ws) (hS : va_S A H0 H locs) (q0 : Nat) {a ci index : Nat} {fs : List Value} (he : ws[q0]? = some (a, .inr (ci, fs))) {T : u_T} {N : Nat} (hcl : vwCl[ci]? = some (own, T, N)) (hin : ∀ w ∈ u_ws own T N, w ∈ lw_tbl) (ty0 : Nat → FieldType) (hty : ∀ k, k < N → parseFieldDescriptor (T k).2.2.1 = some (ty0 k)) (hnm : ∀ a, a < N → ∀ b, b < N → a ≠ b → (T a).2.1 ≠ (T b).2.1)
    (k : Nat) (hk : k < N) (hd : (T k).1 = own) (hfin : (T k).2.2.2 = true) (hlink : Cond.fieldLink own index own (T k).2.1 (T k).2.2.1 ∈ lw_tbl) {v : Value} (hn : narrow (ty0 k) v = v) (hfit : fits (ty0 k) v = true) (hl : k < fs.length) (hdg : decode cc pc = .ok (.putfield index, 3))
    (kk : ∀ (H1 : Heap) (locs1 : List Loc), va_P D vwCl (ws.set q0 (a, .inr (ci, fs.set k v))) H1 → va_D A (ws.set q0 (a, .inr (ci, fs.set k v))) → va_S A H0 H1 locs1 → W p l e R s m args below meth c H1 locs1 cells slots Q (F0 m (pc + 3) ls rest)) : W p l e R s m args below meth c H locs cells slots Q (F0 m pc ls (v :: .ref a :: rest)) :=
  va_putF (D := D) (cl := vwCl) hC.1 hC.2.1 (hW.lay args hin) (fun _ h => h) ty0 hty hnm hC.2.2.2.1 hK hP hD hS q0 he hcl k hk (hW.use args hlink rfl) (fun _ h => by rw [hd] at h; exact h) hfin hin2 hd (hty k hk) hn hfit hl hdg kk
theorem k_put (hC : ZC p m meth c s own cc nL) (hK : va_K D vwCl (zT ca) s) (hW : zW s) (hP : va_P D vwCl ws H) (hD : va_D A ws) (hS : va_S A H0 H locs) (q0 : Nat) {a ci index : Nat} {fs : List Value} (he : ws[q0]? = some (a, .inr (ci, fs))) {T : u_T} {N : Nat} (hcl : vwCl[ci]? = some (own, T, N)) (hin : ∀ w ∈ u_ws own T N, w ∈ lw_tbl) (ty0 : Nat → FieldType) (hty : ∀ k, k < N → parseFieldDescriptor (T k).2.2.1 = some (ty0 k)) (hnm : ∀ a, a < N → ∀ b, b < N → a ≠ b → (T a).2.1 ≠ (T b).2.1)
    (k : Nat) (hk : k < N) (hd : (T k).1 = own) (hfin : (T k).2.2.2 = false) (hlink : Cond.fieldLink own index own (T k).2.1 (T k).2.2.1 ∈ lw_tbl) {v : Value} (hn : narrow (ty0 k) v = v) (hfit : fits (ty0 k) v = true) (hl : k < fs.length) (hdg : decode cc pc = .ok (.putfield index, 3))
    (kk : ∀ (H1 : Heap) (locs1 : List Loc), va_P D vwCl (ws.set q0 (a, .inr (ci, fs.set k v))) H1 → va_D A (ws.set q0 (a, .inr (ci, fs.set k v))) → va_S A H0 H1 locs1 → W p l e R s m args below meth c H1 locs1 cells slots Q (F0 m (pc + 3) ls rest)) : W p l e R s m args below meth c H locs cells slots Q (F0 m pc ls (v :: .ref a :: rest)) :=
  va_put (D := D) (cl := vwCl) hC.1 hC.2.1 (hW.lay args hin) (fun _ h => h) ty0 hty hnm hC.2.2.2.1 hK hP hD hS q0 he hcl k hk (hW.use args hlink rfl) (fun _ h => by rw [hd] at h; exact h) hfin (hty k hk) hn hfit hl hdg kk
theorem k_obj (hC : ZC p m meth c s own cc nL) (hW : zW s) {idx : Nat} (hlink : Cond.methodLink own idx objectInit ∈ lw_tbl) (hsz : ls.size = nL) {a : Nat} (hdg : decode cc pc = .ok (.invokespecial idx, 3)) (hf : 1 ≤ R.frames) (hlo : (rest.map fun v => v.category).sum + 12 ≤ R.locals)
    (kk : W p l e R s m args below meth c H locs cells slots Q (F0 m (pc + 3) ls rest)) : W p l e R s m args below meth c H locs cells slots Q (F0 m pc ls (.ref a :: rest)) :=
  W.objInit hC.1 hC.2.1 hC.2.2.2.1 (hW.use args hlink rfl) (hW.use args zi_obj rfl) (hW.use args zc_obj rfl) rfl (by rw [hC.2.2.1]; exact hsz) rfl hdg hf (by show 2 * 0 + _ + 12 ≤ _; omega) kk
/-- new int[5][4]: the outer row and five inner ones, just behind the heap -/
theorem k_newII (hC : ZC p m meth c s own cc nL) (hK : KU D ca s) (hP : va_P D vwCl ws H) (hD : va_D A ws) (hS : va_S A H0 H locs) (hA : ∀ q, H0.size ≤ q → A q) {index : Nat} (hlink : Cond.classLink own index ("[" ++ (FieldType.array .int).toString) ∈ lw_tbl) (hc : cells + 6 ≤ R.cells) (hs : slots + 25 ≤ R.slots) (hdg : decode cc pc = .ok (.multianewarray index 2, 4))
    (kk : ∀ (q q0 q1 q2 q3 q4 : Nat) (f : Nat → Option Nat) (H1 : Heap), f 0 = some q0 → f 1 = some q1 → f 2 = some q2 → f 3 = some q3 → f 4 = some q4 → va_P D vwCl (ws ++ [(q, .inl (ca 4, 5, .inr (.inr (.inr (.inr f))))), (q0, .inl (ca 0, 4, .inl (fun _ => 0))), (q1, .inl (ca 0, 4, .inl (fun _ => 0))), (q2, .inl (ca 0, 4, .inl (fun _ => 0))), (q3, .inl (ca 0, 4, .inl (fun _ => 0))), (q4, .inl (ca 0, 4, .inl (fun _ => 0)))]) H1 → va_D A (ws ++ [(q, .inl (ca 4, 5, .inr (.inr (.inr (.inr f))))), (q0, .inl (ca 0, 4, .inl (fun _ => 0))), (q1, .inl (ca 0, 4, .inl (fun _ => 0))), (q2, .inl (ca 0, 4, .inl (fun _ => 0))), (q3, .inl (ca 0, 4, .inl (fun _ => 0))), (q4, .inl (ca 0, 4, .inl (fun _ => 0)))]) → va_S A H0 H1 locs → W p l e R s m args below meth c H1 locs (cells + 6) (slots + 25) Q (F0 m (pc + 4) ls (.ref q :: rest))) : W p l e R s m args below meth c H locs cells slots Q (F0 m pc ls (.int 4 :: .int 5 :: rest)) := by
  intro T hT Xs
  obtain ⟨vm₁, cA, comp, -, fA, fC, hO, -, X', step⟩ := Xs.multianewarray2F hC.1 hC.2.2.2.1 (hK.2.1.use args hlink rfl) (ty := .int) hK.2.2.2.2 (hK.2.1.use args ka_int rfl) (g := F0 m pc ls (.int 4 :: .int 5 :: rest)) rfl (by rw [hC.2.1]; exact hdg) rfl (by decide) (by decide) (by decide) (by decide) (by decide) (by decide) (by decide) hc hs
  have e0 : cA = ca 4 := k_ra hK.1 rfl (k_II hK.1) fA
  have e1 : comp = ca 0 := k_ra hK.1 rfl (k_I hK.1) fC
  subst e0
  subst e1
  rw [show (5 : Int32).toNatClampNeg = 5 from rfl, show (4 : Int32).toNatClampNeg = 4 from rfl] at X' step
  generalize hF : Jvm.Free.Multi.fill (T.setVm vm₁) (ca 4) (ca 0) 5 4 (defaultValue .int) 5 = F at X' step
  have hTh : (T.setVm vm₁).heap = H := hT
  obtain ⟨f1, f2, -, -⟩ := Jvm.Free.Multi.fill_facts (T.setVm vm₁) (ca 4) (ca 0) 5 4 (defaultValue .int) 5
  rw [hF, hTh] at f1 f2
  have hold : ∀ x : Nat, x < H.size → F.heap[x]? = H[x]? := fun x hx => by
    have := Jvm.Free.Multi.fill_old (T.setVm vm₁) (ca 4) (ca 0) 5 4 (defaultValue .int) (a := x) (by rw [hTh]; exact hx) 5
    rw [hF, hTh] at this
    exact this
  have hrow : ∀ j : Nat, j < 5 → F.heap[H.size + 1 + j]? = some (vp_cell (ca 0) (4, .inl (fun _ => 0))) := fun j hj => by
    have := Jvm.Free.Multi.fill_inner (T.setVm vm₁) (ca 4) (ca 0) 5 4 (defaultValue .int) 5 j hj
    rw [hF, hTh] at this
    rw [this, vp_cell_i, ← arrV_new]
    rfl
  have hout : Jvm.Free.Multi.outerC (ca 4) 5 H.size 5 = vp_cell (ca 4) (5, .inr (.inr (.inr (.inr (fun j => some (H.size + 1 + j)))))) := by
    rw [vp_cell_q]
    unfold Jvm.Free.Multi.outerC Jvm.Free.Multi.outerC Jvm.Free.Multi.outerC Jvm.Free.Multi.outerC Jvm.Free.Multi.outerC Jvm.Free.Multi.outerC
    rw [arrV_new, arrV_store, arrV_store, arrV_store, arrV_store, arrV_store]
    unfold arrV
    congr 1
  rw [hout] at f2
  have hlt : ∀ (k : Nat) (q : Nat × va_E), ws[k]? = some q → q.1 < H.size := fun k q hk => (hP k q hk).lt
  have hPw : va_P D vwCl ws F.heap := hP.kept (fun k q hk => hold _ (hlt k q hk))
  have hnew : va_P D vwCl [(H.size, .inl (ca 4, 5, .inr (.inr (.inr (.inr (fun j => some (H.size + 1 + j))))))), (H.size + 1 + 0, .inl (ca 0, 4, .inl (fun _ => 0))), (H.size + 1 + 1, .inl (ca 0, 4, .inl (fun _ => 0))), (H.size + 1 + 2, .inl (ca 0, 4, .inl (fun _ => 0))), (H.size + 1 + 3, .inl (ca 0, 4, .inl (fun _ => 0))), (H.size + 1 + 4, .inl (ca 0, 4, .inl (fun _ => 0)))] F.heap := by
    intro k q hk
    match k, hk with
    | 0, hk => cases hk; exact f2
    | 1, hk => cases hk; exact hrow 0 (by decide)
    | 2, hk => cases hk; exact hrow 1 (by decide)
    | 3, hk => cases hk; exact hrow 2 (by decide)
    | 4, hk => cases hk; exact hrow 3 (by decide)
    | 5, hk => cases hk; exact hrow 4 (by decide)
    | k + 6, hk => simp at hk
  have hDn : va_D A [(H.size, (.inl (ca 4, 5, .inr (.inr (.inr (.inr (fun j => some (H.size + 1 + j)))))) : va_E)), (H.size + 1 + 0, .inl (ca 0, 4, .inl (fun _ => 0))), (H.size + 1 + 1, .inl (ca 0, 4, .inl (fun _ => 0))), (H.size + 1 + 2, .inl (ca 0, 4, .inl (fun _ => 0))), (H.size + 1 + 3, .inl (ca 0, 4, .inl (fun _ => 0))), (H.size + 1 + 4, .inl (ca 0, 4, .inl (fun _ => 0)))] := by
    have key : ∀ (k : Nat) (q : Nat × va_E), ([(H.size, (.inl (ca 4, 5, .inr (.inr (.inr (.inr (fun j => some (H.size + 1 + j)))))) : va_E)), (H.size + 1 + 0, .inl (ca 0, 4, .inl (fun _ => 0))), (H.size + 1 + 1, .inl (ca 0, 4, .inl (fun _ => 0))), (H.size + 1 + 2, .inl (ca 0, 4, .inl (fun _ => 0))), (H.size + 1 + 3, .inl (ca 0, 4, .inl (fun _ => 0))), (H.size + 1 + 4, .inl (ca 0, 4, .inl (fun _ => 0)))] : va_W)[k]? = some q → q.1 = H.size + k := by
      intro k q hk
      match k, hk with
      | 0, hk => cases hk; rfl
      | 1, hk => cases hk; rfl
      | 2, hk => cases hk; rfl
      | 3, hk => cases hk; rfl
      | 4, hk => cases hk; rfl
      | 5, hk => cases hk; rfl
      | k + 6, hk => simp at hk
    refine ⟨fun i j a b h1 h2 hq => ?_, fun k q hk => ?_⟩
    · rw [key i a h1, key j b h2] at hq
      omega
    · rw [key k q hk]
      exact hA _ (Nat.le_trans hS.1 (Nat.le_add_right _ _))
  have hDall := hD.app hDn (fun i j a b h1 h2 => by
    have h3 := hlt i a h1
    have h4 : H.size ≤ b.1 := by
      match j, h2 with
      | 0, h2 => cases h2; exact Nat.le_refl _
      | 1, h2 => cases h2; show H.size ≤ H.size + 1 + 0; omega
      | 2, h2 => cases h2; show H.size ≤ H.size + 1 + 1; omega
      | 3, h2 => cases h2; show H.size ≤ H.size + 1 + 2; omega
      | 4, h2 => cases h2; show H.size ≤ H.size + 1 + 3; omega
      | 5, h2 => cases h2; show H.size ≤ H.size + 1 + 4; omega
      | j + 6, h2 => simp at h2
    omega)
  have hS1 : va_S A H0 F.heap locs := ⟨by rw [f1]; exact Nat.le_trans hS.1 (by omega), fun q g1 g2 => by rw [hold q (Nat.lt_of_lt_of_le g1 hS.1)]; exact hS.2.1 q g1 g2, hS.2.2⟩
  obtain ⟨t, a1, b1⟩ := kk H.size (H.size + 1 + 0) (H.size + 1 + 1) (H.size + 1 + 2) (H.size + 1 + 3) (H.size + 1 + 4) (fun j => some (H.size + 1 + j)) F.heap rfl rfl rfl rfl rfl (hPw.app hnew) hDall hS1 F rfl X'
  exact ⟨t, step t (by rw [show T.heap.size = H.size by rw [hT]]; exact a1), b1⟩
theorem k_free {b : Nat} {q0 : Nat} {e0 : va_E} (hD : va_D A ws) (hS : va_S A H0 H locs) (hA : ∀ q, H0.size ≤ q → A q) (he : ws[q0]? = some (b, e0)) : ∀ q, (q = b ∨ H.size ≤ q) → A q := fun q h => h.elim (fun h => by rw [h]; exact hD.2 q0 _ he) (fun h => hA q (Nat.le_trans hS.1 h))
theorem k_join {b q0 : Nat} {e0 : va_E} {H1 : Heap} {wr w1 : va_W} (hP : va_P D vwCl ws H) (hD : va_D A ws) (hS : va_S A H0 H locs) (hA : ∀ q, H0.size ≤ q → A q) (he : ws[q0]? = some (b, e0)) (isR : List Nat) (hR : isR.map (fun i => ws[i]?) = wr.map some) (hn : va_nd isR = true) (hdis : q0 ∉ isR) (hk : ∀ q : Nat, q < H.size → q ≠ b → H1[q]? = H[q]?) (hP1 : va_P D vwCl w1 H1) (hD1 : va_D (fun q => q = b ∨ H.size ≤ q) w1) : va_P D vwCl (wr ++ w1) H1 ∧ va_D A (wr ++ w1) := by
  have hin : ∀ (k : Nat) (q : Nat × va_E), wr[k]? = some q → q.1 ≠ b ∧ q.1 < H.size ∧ va_at D vwCl q H := by
    intro k q hq
    obtain ⟨i, hi, hw⟩ := va_in_of isR hR hq
    refine ⟨fun e => ?_, (hP i q hw).lt, hP i q hw⟩
    have h1 := hD.1 i q0 q _ hw he e
    subst h1
    exact hdis (List.mem_of_getElem? hi)
  have hPr : va_P D vwCl wr H1 := fun k q hq => (hin k q hq).2.2.kept (hk _ (hin k q hq).2.1 (hin k q hq).1)
  refine ⟨hPr.app hP1, (hD.sub isR hn hR).app (hD1.weaken (fun k q _ h => k_free hD hS hA he _ h)) (fun i j p q h1 h2 e => ?_)⟩
  rcases hD1.2 j q h2 with h | h
  · exact (hin i p h1).1 (e.trans h)
  · have := (hin i p h1).2.1
    omega
theorem k_run {free : Addr → Prop} {a : Array Value} {b q0 mc ms : Nat} {e0 : va_E} {PH : Heap → Prop} (hD : va_D A ws) (hS : va_S A H0 H locs) (hA : ∀ q, H0.size ≤ q → A q) (he : ws[q0]? = some (b, e0)) (hf : ∀ q, free q → q = b ∨ H.size ≤ q) (hr : va_Run p l e R s m args below meth c H locs cells slots mc ms (F0 m pc ls st0) rest (KQ PH b H.size a) free)
    (kk : ∀ (H1 : Heap) (locs1 : List Loc), PH H1 → H.size ≤ H1.size → (∀ q : Nat, q < H.size → q ≠ b → H1[q]? = H[q]?) → va_S A H0 H1 locs1 → W p l e R s m args below meth c H1 locs1 (cells + mc) (slots + ms) Q (F0 m (pc + 3) ls rest)) : W p l e R s m args below meth c H locs cells slots Q (F0 m pc ls st0) := by
  intro T hT X
  obtain ⟨v, st₀, t, T', L, h0, X', hL, e1, e2, ⟨hv, hp, hz, hk⟩, st⟩ := hr T hT X
  cases hv
  rw [h0] at hz hk
  have hfr := k_free hD hS hA he
  have hk2 : ∀ q : Nat, q < H.size → q ≠ b → T'.heap[q]? = H[q]? := fun q h1 h2 => by
    rw [e1]
    exact hk q h1 (fun h => h.elim h2 (fun h => absurd h (Nat.not_le.mpr h1)))
  obtain ⟨t2, a1, b1⟩ := kk T'.heap (locs ++ L) (by rw [e1]; exact hp) (by rw [e1]; exact hz) hk2 ⟨Nat.le_trans hS.1 (by rw [e1]; exact hz), fun q h1 h2 => by rw [hk2 q (Nat.lt_of_lt_of_le h1 hS.1) (fun h => h2 (hfr q (Or.inl h)))]; exact hS.2.1 q h1 h2, fun q hq => by
      rcases List.mem_append.mp hq with h | h
      · exact hS.2.2 q h
      · exact hfr _ (hf _ (hL q h))⟩ T' rfl X'
  exact ⟨t2, st t2 a1, b1⟩
theorem k_pre {y : MethodName} {bytes : ByteArray} {maxL : Nat} (hW : zW s) (hcode : Cond.code y bytes maxL none ∈ lw_tbl) : ∀ w ∈ [Cond.code y bytes maxL none], ∀ (a' : Array Value) (U : State), s.WarmedH U.vm → w.before a' U = true := by
  intro w hw a' U hWU
  rw [List.mem_singleton.mp hw]
  exact word_at (args := #[]) hWU (good_of_word rfl) (hW _ hcode rfl)
/-- a call of a constructor -/
theorem k_callI {y : MethodName} {bytes : ByteArray} {maxL index na mc ms b q0 : Nat} {rm : Room} {As : List Value} {e0 : va_E} {PH : Heap → Prop} (hC : ZC p m meth c s own cc nL) (hK : KU D ca s) (hP : va_P D vwCl ws H) (hD : va_D A ws) (hS : va_S A H0 H locs) (hA : ∀ q, H0.size ≤ q → A q) (he : ws[q0]? = some (b, e0))
    (hM : KMet l y bytes maxL rm mc ms D ca b H.size e0 (.ref b :: As) PH) (hlink : Cond.methodLink own index y ∈ lw_tbl) (hcode : Cond.code y bytes maxL none ∈ lw_tbl) (hin : Cond.instanceMethod y ∈ lw_tbl) (hini : Cond.initialized y.cls ∈ lw_tbl) (hy : y.name = "<init>") (hy2 : y.cls ≠ "java/lang/invoke/MethodHandle" ∧ y.cls ≠ "java/lang/invoke/VarHandle") (hl : (parseMethodDescriptor y.desc).map (fun d => d.parameters.length) = some na) (hn : As.length = na) (hrm : rm.cells = mc ∧ rm.slots = ms) (hR : rm.frames + 1 ≤ R.frames ∧ 8 + (maxL + 11) + rm.locals ≤ R.locals) (hsize : ls.size = nL) (hst : st0 = As.reverse ++ .ref b :: rest) (hrest : (rest.map fun v => v.category).sum ≤ 8) (hdg : decode cc pc = .ok (.invokespecial index, 3)) (hf : cells + mc ≤ R.cells ∧ slots + ms ≤ R.slots)
    (kk : ∀ (H1 : Heap) (locs1 : List Loc), PH H1 → H.size ≤ H1.size → (∀ q : Nat, q < H.size → q ≠ b → H1[q]? = H[q]?) → va_S A H0 H1 locs1 → W p l e R s m args below meth c H1 locs1 (cells + mc) (slots + ms) Q (F0 m (pc + 3) ls rest)) : W p l e R s m args below meth c H locs cells slots Q (F0 m pc ls st0) := by
  have hW := hK.2.1
  refine k_run hD hS hA he (fun _ h => h) (va_runI (g := F0 m pc ls st0) (As := As) (rest := rest) (n := na) (bytes := bytes) (maxL := maxL) (hC.fix args) hM ⟨⟨hrm.1, hrm.2, hR.1, hR.2, k_pre hW hcode, List.mem_cons_self, hW.use args hcode rfl, hW.use args hini rfl, hy2, z_lens hl, hW.use args hlink rfl⟩, hy, hW.use args hin rfl⟩ ⟨KPre_blind, fun U hU hWU => ⟨rfl, by rw [hU], by rw [hU]; exact hP q0 _ he, (hP q0 _ he).lt, hK.moved hWU⟩⟩ rfl hn hsize hst (lv_room hrest) hdg hf) kk
/-- .. of a nest mate's private one -/
theorem k_callN {y : MethodName} {host : String} {bytes : ByteArray} {maxL index na mc ms b q0 : Nat} {rm : Room} {As : List Value} {e0 : va_E} {PH : Heap → Prop} (hC : ZC p m meth c s own cc nL) (hK : KU D ca s) (hP : va_P D vwCl ws H) (hD : va_D A ws) (hS : va_S A H0 H locs) (hA : ∀ q, H0.size ≤ q → A q) (he : ws[q0]? = some (b, e0))
    (hM : KMet l y bytes maxL rm mc ms D ca b H.size e0 (.ref b :: As) PH) (hlink : Cond.methodLinkNest own index y host ∈ lw_tbl) (hcode : Cond.code y bytes maxL none ∈ lw_tbl) (hin : Cond.instanceMethod y ∈ lw_tbl) (hini : Cond.initialized y.cls ∈ lw_tbl) (hy : y.name = "<init>") (hy2 : y.cls ≠ "java/lang/invoke/MethodHandle" ∧ y.cls ≠ "java/lang/invoke/VarHandle") (hl : (parseMethodDescriptor y.desc).map (fun d => d.parameters.length) = some na) (hn : As.length = na) (hrm : rm.cells = mc ∧ rm.slots = ms) (hR : rm.frames + 1 ≤ R.frames ∧ 8 + (maxL + 11) + rm.locals ≤ R.locals) (hsize : ls.size = nL) (hst : st0 = As.reverse ++ .ref b :: rest) (hrest : (rest.map fun v => v.category).sum ≤ 8) (hdg : decode cc pc = .ok (.invokespecial index, 3)) (hf : cells + mc ≤ R.cells ∧ slots + ms ≤ R.slots)
    (kk : ∀ (H1 : Heap) (locs1 : List Loc), PH H1 → H.size ≤ H1.size → (∀ q : Nat, q < H.size → q ≠ b → H1[q]? = H[q]?) → va_S A H0 H1 locs1 → W p l e R s m args below meth c H1 locs1 (cells + mc) (slots + ms) Q (F0 m (pc + 3) ls rest)) : W p l e R s m args below meth c H locs cells slots Q (F0 m pc ls st0) := by
  have hW := hK.2.1
  have hcw := va_cnB (R := R) (s := s) (args := args) (own := own) (host := host) (index := index) (Ts := [Cond.code y bytes maxL none]) (ws := [Cond.code y bytes maxL none]) (ws' := []) (rm := rm) (mc := mc) (ms := ms) na (fun w hw => by rw [List.mem_singleton.mp hw]; exact hW.use args hcode rfl) (fun w hw => ⟨hw, by rw [List.mem_singleton.mp hw]; exact good_of_word rfl⟩) rfl hrm.1 hrm.2 (hW.useN hlink (by unfold zgood; cases goodWord (Cond.methodLinkNest own index y host) <;> rfl)) (hW.use args hini rfl) ⟨hy2.1, hy2.2, hl⟩ hR
  refine k_run hD hS hA he (fun _ h => h) (va_runIN (g := F0 m pc ls st0) (As := As) (rest := rest) (n := na) (bytes := bytes) (maxL := maxL) (hC.fix args) hM ⟨hcw, hy, hW.use args hin rfl⟩ ⟨KPre_blind, fun U hU hWU => ⟨rfl, by rw [hU], by rw [hU]; exact hP q0 _ he, (hP q0 _ he).lt, hK.moved hWU⟩⟩ rfl hn hsize hst (lv_room hrest) hdg hf) kk
end KROWS
end
section
theorem zz_end : True := trivial
end
