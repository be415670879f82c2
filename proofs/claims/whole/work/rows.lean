section
-- ===== PART A: goes FIRST, ahead of the names: the tables' words, and 'selects' of the private methods out of them =====
/-- a private method of a class that the tables say can be made, by its rows of tables_1 -/
def lw_okq (q : MethodName × Nat) : Prop := (q.1.cls ≠ "java/lang/invoke/MethodHandle" ∧ q.1.cls ≠ "java/lang/invoke/VarHandle") ∧ Cond.instantiable q.1.cls q.2 ∈ tables_1 ∧ Cond.privateMethod q.1 ∈ tables_1 ∧ Cond.instanceMethod q.1 ∈ tables_1
theorem lw_p0 : lw_okq (⟨"WhoseHourItIs", "refuse", "(I)I"⟩, 12) := ⟨⟨by decide +kernel, by decide +kernel⟩, List.mem_of_getElem? (i := 20) (by decide +kernel), List.mem_of_getElem? (i := 300) (by decide +kernel), List.mem_of_getElem? (i := 301) (by decide +kernel)⟩
theorem lw_p1 : lw_okq (⟨"WhoseHourItIs$Tape", "readStatement", "(I)I"⟩, 3) := ⟨⟨by decide +kernel, by decide +kernel⟩, List.mem_of_getElem? (i := 113) (by decide +kernel), List.mem_of_getElem? (i := 317) (by decide +kernel), List.mem_of_getElem? (i := 318) (by decide +kernel)⟩
theorem lw_p2 : lw_okq (⟨"WhoseHourItIs$Tape", "formAt", "(I)Ljava/lang/String;"⟩, 3) := ⟨⟨by decide +kernel, by decide +kernel⟩, List.mem_of_getElem? (i := 113) (by decide +kernel), List.mem_of_getElem? (i := 321) (by decide +kernel), List.mem_of_getElem? (i := 322) (by decide +kernel)⟩
theorem lw_p3 : lw_okq (⟨"WhoseHourItIs$Tape", "signAt", "(I)I"⟩, 3) := ⟨⟨by decide +kernel, by decide +kernel⟩, List.mem_of_getElem? (i := 113) (by decide +kernel), List.mem_of_getElem? (i := 325) (by decide +kernel), List.mem_of_getElem? (i := 326) (by decide +kernel)⟩
theorem lw_p4 : lw_okq (⟨"WhoseHourItIs$Tape", "valueAt", "(IC)I"⟩, 3) := ⟨⟨by decide +kernel, by decide +kernel⟩, List.mem_of_getElem? (i := 113) (by decide +kernel), List.mem_of_getElem? (i := 380) (by decide +kernel), List.mem_of_getElem? (i := 381) (by decide +kernel)⟩
theorem lw_p5 : lw_okq (⟨"WhoseHourItIs$Tape", "tellOne", "(LWhoseHourItIs$Town;I)Z"⟩, 3) := ⟨⟨by decide +kernel, by decide +kernel⟩, List.mem_of_getElem? (i := 113) (by decide +kernel), List.mem_of_getElem? (i := 455) (by decide +kernel), List.mem_of_getElem? (i := 456) (by decide +kernel)⟩
theorem lw_p6 : lw_okq (⟨"WhoseHourItIs$Costs", "chooseDays", "(II)V"⟩, 5) := ⟨⟨by decide +kernel, by decide +kernel⟩, List.mem_of_getElem? (i := 130) (by decide +kernel), List.mem_of_getElem? (i := 527) (by decide +kernel), List.mem_of_getElem? (i := 528) (by decide +kernel)⟩
theorem lw_p7 : lw_okq (⟨"WhoseHourItIs$Costs", "cheapestOf", "(II)I"⟩, 5) := ⟨⟨by decide +kernel, by decide +kernel⟩, List.mem_of_getElem? (i := 130) (by decide +kernel), List.mem_of_getElem? (i := 531) (by decide +kernel), List.mem_of_getElem? (i := 532) (by decide +kernel)⟩
theorem lw_p8 : lw_okq (⟨"WhoseHourItIs$Costs", "cheapestDay", "()I"⟩, 5) := ⟨⟨by decide +kernel, by decide +kernel⟩, List.mem_of_getElem? (i := 130) (by decide +kernel), List.mem_of_getElem? (i := 535) (by decide +kernel), List.mem_of_getElem? (i := 536) (by decide +kernel)⟩
theorem lw_p9 : lw_okq (⟨"WhoseHourItIs$Costs", "chooseRun", "(II)V"⟩, 5) := ⟨⟨by decide +kernel, by decide +kernel⟩, List.mem_of_getElem? (i := 130) (by decide +kernel), List.mem_of_getElem? (i := 539) (by decide +kernel), List.mem_of_getElem? (i := 540) (by decide +kernel)⟩
theorem lw_p10 : lw_okq (⟨"WhoseHourItIs$Market", "shareOf", "(III)I"⟩, 3) := ⟨⟨by decide +kernel, by decide +kernel⟩, List.mem_of_getElem? (i := 157) (by decide +kernel), List.mem_of_getElem? (i := 553) (by decide +kernel), List.mem_of_getElem? (i := 554) (by decide +kernel)⟩
theorem lw_p11 : lw_okq (⟨"WhoseHourItIs$Strikes", "look", "(I)V"⟩, 3) := ⟨⟨by decide +kernel, by decide +kernel⟩, List.mem_of_getElem? (i := 206) (by decide +kernel), List.mem_of_getElem? (i := 619) (by decide +kernel), List.mem_of_getElem? (i := 620) (by decide +kernel)⟩
theorem lw_p12 : lw_okq (⟨"WhoseHourItIs$Strikes", "canBe", "(III)Z"⟩, 3) := ⟨⟨by decide +kernel, by decide +kernel⟩, List.mem_of_getElem? (i := 206) (by decide +kernel), List.mem_of_getElem? (i := 625) (by decide +kernel), List.mem_of_getElem? (i := 626) (by decide +kernel)⟩
theorem lw_p13 : lw_okq (⟨"WhoseHourItIs$Plan", "fillGains", "(I[I)V"⟩, 8) := ⟨⟨by decide +kernel, by decide +kernel⟩, List.mem_of_getElem? (i := 173) (by decide +kernel), List.mem_of_getElem? (i := 649) (by decide +kernel), List.mem_of_getElem? (i := 650) (by decide +kernel)⟩
theorem lw_p14 : lw_okq (⟨"WhoseHourItIs$Plan", "tryRow", "(III)V"⟩, 8) := ⟨⟨by decide +kernel, by decide +kernel⟩, List.mem_of_getElem? (i := 173) (by decide +kernel), List.mem_of_getElem? (i := 655) (by decide +kernel), List.mem_of_getElem? (i := 656) (by decide +kernel)⟩
theorem lw_p15 : lw_okq (⟨"WhoseHourItIs$Strikes", "stopsOthers", "(I)Z"⟩, 3) := ⟨⟨by decide +kernel, by decide +kernel⟩, List.mem_of_getElem? (i := 206) (by decide +kernel), List.mem_of_getElem? (i := 705) (by decide +kernel), List.mem_of_getElem? (i := 706) (by decide +kernel)⟩
def lw_privs_1 : List (MethodName × Nat) := [(⟨"WhoseHourItIs", "refuse", "(I)I"⟩, 12), (⟨"WhoseHourItIs$Tape", "readStatement", "(I)I"⟩, 3), (⟨"WhoseHourItIs$Tape", "formAt", "(I)Ljava/lang/String;"⟩, 3), (⟨"WhoseHourItIs$Tape", "signAt", "(I)I"⟩, 3), (⟨"WhoseHourItIs$Tape", "valueAt", "(IC)I"⟩, 3), (⟨"WhoseHourItIs$Tape", "tellOne", "(LWhoseHourItIs$Town;I)Z"⟩, 3), (⟨"WhoseHourItIs$Costs", "chooseDays", "(II)V"⟩, 5), (⟨"WhoseHourItIs$Costs", "cheapestOf", "(II)I"⟩, 5), (⟨"WhoseHourItIs$Costs", "cheapestDay", "()I"⟩, 5), (⟨"WhoseHourItIs$Costs", "chooseRun", "(II)V"⟩, 5), (⟨"WhoseHourItIs$Market", "shareOf", "(III)I"⟩, 3), (⟨"WhoseHourItIs$Strikes", "look", "(I)V"⟩, 3), (⟨"WhoseHourItIs$Strikes", "canBe", "(III)Z"⟩, 3), (⟨"WhoseHourItIs$Plan", "fillGains", "(I[I)V"⟩, 8), (⟨"WhoseHourItIs$Plan", "tryRow", "(III)V"⟩, 8), (⟨"WhoseHourItIs$Strikes", "stopsOthers", "(I)Z"⟩, 3)]
theorem lw_r1 : ∀ q ∈ lw_privs_1, lw_okq q := List.forall_mem_cons.mpr ⟨lw_p0, List.forall_mem_cons.mpr ⟨lw_p1, List.forall_mem_cons.mpr ⟨lw_p2, List.forall_mem_cons.mpr ⟨lw_p3, List.forall_mem_cons.mpr ⟨lw_p4, List.forall_mem_cons.mpr ⟨lw_p5, List.forall_mem_cons.mpr ⟨lw_p6, List.forall_mem_cons.mpr ⟨lw_p7, List.forall_mem_cons.mpr ⟨lw_p8, List.forall_mem_cons.mpr ⟨lw_p9, List.forall_mem_cons.mpr ⟨lw_p10, List.forall_mem_cons.mpr ⟨lw_p11, List.forall_mem_cons.mpr ⟨lw_p12, List.forall_mem_cons.mpr ⟨lw_p13, List.forall_mem_cons.mpr ⟨lw_p14, List.forall_mem_cons.mpr ⟨lw_p15, fun _ h => absurd h List.not_mem_nil⟩⟩⟩⟩⟩⟩⟩⟩⟩⟩⟩⟩⟩⟩⟩⟩
theorem lw_p16 : lw_okq (⟨"WhoseHourItIs$Outlook", "costOfWorksOf", "(I)I"⟩, 3) := ⟨⟨by decide +kernel, by decide +kernel⟩, List.mem_of_getElem? (i := 223) (by decide +kernel), List.mem_of_getElem? (i := 739) (by decide +kernel), List.mem_of_getElem? (i := 740) (by decide +kernel)⟩
theorem lw_p17 : lw_okq (⟨"WhoseHourItIs$Outlook", "netsWithGift", "(II)I"⟩, 3) := ⟨⟨by decide +kernel, by decide +kernel⟩, List.mem_of_getElem? (i := 223) (by decide +kernel), List.mem_of_getElem? (i := 768) (by decide +kernel), List.mem_of_getElem? (i := 769) (by decide +kernel)⟩
theorem lw_p18 : lw_okq (⟨"WhoseHourItIs$Outlook", "findCosts", "()V"⟩, 3) := ⟨⟨by decide +kernel, by decide +kernel⟩, List.mem_of_getElem? (i := 223) (by decide +kernel), List.mem_of_getElem? (i := 774) (by decide +kernel), List.mem_of_getElem? (i := 775) (by decide +kernel)⟩
theorem lw_p19 : lw_okq (⟨"WhoseHourItIs$Outlook", "doneNet", "(II)I"⟩, 3) := ⟨⟨by decide +kernel, by decide +kernel⟩, List.mem_of_getElem? (i := 223) (by decide +kernel), List.mem_of_getElem? (i := 778) (by decide +kernel), List.mem_of_getElem? (i := 779) (by decide +kernel)⟩
theorem lw_p20 : lw_okq (⟨"WhoseHourItIs$Row", "mayBeWorked", "(II)Z"⟩, 4) := ⟨⟨by decide +kernel, by decide +kernel⟩, List.mem_of_getElem? (i := 239) (by decide +kernel), List.mem_of_getElem? (i := 831) (by decide +kernel), List.mem_of_getElem? (i := 832) (by decide +kernel)⟩
theorem lw_p21 : lw_okq (⟨"WhoseHourItIs$Row", "isDone", "(I)Z"⟩, 4) := ⟨⟨by decide +kernel, by decide +kernel⟩, List.mem_of_getElem? (i := 239) (by decide +kernel), List.mem_of_getElem? (i := 841) (by decide +kernel), List.mem_of_getElem? (i := 842) (by decide +kernel)⟩
theorem lw_p22 : lw_okq (⟨"WhoseHourItIsModel", "refuse", "(I)I"⟩, 22) := ⟨⟨by decide +kernel, by decide +kernel⟩, List.mem_of_getElem? (i := 868) (by decide +kernel), List.mem_of_getElem? (i := 945) (by decide +kernel), List.mem_of_getElem? (i := 946) (by decide +kernel)⟩
theorem lw_p23 : lw_okq (⟨"WhoseHourItIsModel", "reads", "()I"⟩, 22) := ⟨⟨by decide +kernel, by decide +kernel⟩, List.mem_of_getElem? (i := 868) (by decide +kernel), List.mem_of_getElem? (i := 954) (by decide +kernel), List.mem_of_getElem? (i := 955) (by decide +kernel)⟩
theorem lw_p24 : lw_okq (⟨"WhoseHourItIsModel", "readsStatement", "()Z"⟩, 22) := ⟨⟨by decide +kernel, by decide +kernel⟩, List.mem_of_getElem? (i := 868) (by decide +kernel), List.mem_of_getElem? (i := 958) (by decide +kernel), List.mem_of_getElem? (i := 959) (by decide +kernel)⟩
theorem lw_p25 : lw_okq (⟨"WhoseHourItIsModel", "sign", "()I"⟩, 22) := ⟨⟨by decide +kernel, by decide +kernel⟩, List.mem_of_getElem? (i := 868) (by decide +kernel), List.mem_of_getElem? (i := 962) (by decide +kernel), List.mem_of_getElem? (i := 963) (by decide +kernel)⟩
theorem lw_p26 : lw_okq (⟨"WhoseHourItIsModel", "readsNumber", "(II)Z"⟩, 22) := ⟨⟨by decide +kernel, by decide +kernel⟩, List.mem_of_getElem? (i := 868) (by decide +kernel), List.mem_of_getElem? (i := 969) (by decide +kernel), List.mem_of_getElem? (i := 970) (by decide +kernel)⟩
theorem lw_p27 : lw_okq (⟨"WhoseHourItIsModel", "takes", "(I)Z"⟩, 22) := ⟨⟨by decide +kernel, by decide +kernel⟩, List.mem_of_getElem? (i := 868) (by decide +kernel), List.mem_of_getElem? (i := 973) (by decide +kernel), List.mem_of_getElem? (i := 974) (by decide +kernel)⟩
theorem lw_p28 : lw_okq (⟨"WhoseHourItIsModel", "comes", "(I)Z"⟩, 22) := ⟨⟨by decide +kernel, by decide +kernel⟩, List.mem_of_getElem? (i := 868) (by decide +kernel), List.mem_of_getElem? (i := 980) (by decide +kernel), List.mem_of_getElem? (i := 981) (by decide +kernel)⟩
theorem lw_p29 : lw_okq (⟨"WhoseHourItIsModel", "comesHours", "(III)Z"⟩, 22) := ⟨⟨by decide +kernel, by decide +kernel⟩, List.mem_of_getElem? (i := 868) (by decide +kernel), List.mem_of_getElem? (i := 984) (by decide +kernel), List.mem_of_getElem? (i := 985) (by decide +kernel)⟩
theorem lw_p30 : lw_okq (⟨"WhoseHourItIsModel", "isHolder", "(I)Z"⟩, 22) := ⟨⟨by decide +kernel, by decide +kernel⟩, List.mem_of_getElem? (i := 868) (by decide +kernel), List.mem_of_getElem? (i := 998) (by decide +kernel), List.mem_of_getElem? (i := 999) (by decide +kernel)⟩
theorem lw_p31 : lw_okq (⟨"WhoseHourItIsModel", "get", "(II)I"⟩, 22) := ⟨⟨by decide +kernel, by decide +kernel⟩, List.mem_of_getElem? (i := 868) (by decide +kernel), List.mem_of_getElem? (i := 1005) (by decide +kernel), List.mem_of_getElem? (i := 1006) (by decide +kernel)⟩
def lw_privs_2 : List (MethodName × Nat) := [(⟨"WhoseHourItIs$Outlook", "costOfWorksOf", "(I)I"⟩, 3), (⟨"WhoseHourItIs$Outlook", "netsWithGift", "(II)I"⟩, 3), (⟨"WhoseHourItIs$Outlook", "findCosts", "()V"⟩, 3), (⟨"WhoseHourItIs$Outlook", "doneNet", "(II)I"⟩, 3), (⟨"WhoseHourItIs$Row", "mayBeWorked", "(II)Z"⟩, 4), (⟨"WhoseHourItIs$Row", "isDone", "(I)Z"⟩, 4), (⟨"WhoseHourItIsModel", "refuse", "(I)I"⟩, 22), (⟨"WhoseHourItIsModel", "reads", "()I"⟩, 22), (⟨"WhoseHourItIsModel", "readsStatement", "()Z"⟩, 22), (⟨"WhoseHourItIsModel", "sign", "()I"⟩, 22), (⟨"WhoseHourItIsModel", "readsNumber", "(II)Z"⟩, 22), (⟨"WhoseHourItIsModel", "takes", "(I)Z"⟩, 22), (⟨"WhoseHourItIsModel", "comes", "(I)Z"⟩, 22), (⟨"WhoseHourItIsModel", "comesHours", "(III)Z"⟩, 22), (⟨"WhoseHourItIsModel", "isHolder", "(I)Z"⟩, 22), (⟨"WhoseHourItIsModel", "get", "(II)I"⟩, 22)]
theorem lw_r2 : ∀ q ∈ lw_privs_2, lw_okq q := List.forall_mem_cons.mpr ⟨lw_p16, List.forall_mem_cons.mpr ⟨lw_p17, List.forall_mem_cons.mpr ⟨lw_p18, List.forall_mem_cons.mpr ⟨lw_p19, List.forall_mem_cons.mpr ⟨lw_p20, List.forall_mem_cons.mpr ⟨lw_p21, List.forall_mem_cons.mpr ⟨lw_p22, List.forall_mem_cons.mpr ⟨lw_p23, List.forall_mem_cons.mpr ⟨lw_p24, List.forall_mem_cons.mpr ⟨lw_p25, List.forall_mem_cons.mpr ⟨lw_p26, List.forall_mem_cons.mpr ⟨lw_p27, List.forall_mem_cons.mpr ⟨lw_p28, List.forall_mem_cons.mpr ⟨lw_p29, List.forall_mem_cons.mpr ⟨lw_p30, List.forall_mem_cons.mpr ⟨lw_p31, fun _ h => absurd h List.not_mem_nil⟩⟩⟩⟩⟩⟩⟩⟩⟩⟩⟩⟩⟩⟩⟩⟩
theorem lw_p32 : lw_okq (⟨"WhoseHourItIsModel", "incomeOf", "(I)I"⟩, 22) := ⟨⟨by decide +kernel, by decide +kernel⟩, List.mem_of_getElem? (i := 868) (by decide +kernel), List.mem_of_getElem? (i := 1009) (by decide +kernel), List.mem_of_getElem? (i := 1010) (by decide +kernel)⟩
theorem lw_p33 : lw_okq (⟨"WhoseHourItIsModel", "netOf", "(I)I"⟩, 22) := ⟨⟨by decide +kernel, by decide +kernel⟩, List.mem_of_getElem? (i := 868) (by decide +kernel), List.mem_of_getElem? (i := 1013) (by decide +kernel), List.mem_of_getElem? (i := 1014) (by decide +kernel)⟩
theorem lw_p34 : lw_okq (⟨"WhoseHourItIsModel", "of", "(II)I"⟩, 22) := ⟨⟨by decide +kernel, by decide +kernel⟩, List.mem_of_getElem? (i := 868) (by decide +kernel), List.mem_of_getElem? (i := 1017) (by decide +kernel), List.mem_of_getElem? (i := 1018) (by decide +kernel)⟩
theorem lw_p35 : lw_okq (⟨"WhoseHourItIsModel", "netBy", "(II)I"⟩, 22) := ⟨⟨by decide +kernel, by decide +kernel⟩, List.mem_of_getElem? (i := 868) (by decide +kernel), List.mem_of_getElem? (i := 1021) (by decide +kernel), List.mem_of_getElem? (i := 1022) (by decide +kernel)⟩
theorem lw_p36 : lw_okq (⟨"WhoseHourItIsModel", "costOf", "(I)I"⟩, 22) := ⟨⟨by decide +kernel, by decide +kernel⟩, List.mem_of_getElem? (i := 868) (by decide +kernel), List.mem_of_getElem? (i := 1025) (by decide +kernel), List.mem_of_getElem? (i := 1026) (by decide +kernel)⟩
theorem lw_p37 : lw_okq (⟨"WhoseHourItIsModel", "finds", "(I)V"⟩, 22) := ⟨⟨by decide +kernel, by decide +kernel⟩, List.mem_of_getElem? (i := 868) (by decide +kernel), List.mem_of_getElem? (i := 1029) (by decide +kernel), List.mem_of_getElem? (i := 1030) (by decide +kernel)⟩
theorem lw_p38 : lw_okq (⟨"WhoseHourItIsModel", "rowOf", "(II)I"⟩, 22) := ⟨⟨by decide +kernel, by decide +kernel⟩, List.mem_of_getElem? (i := 868) (by decide +kernel), List.mem_of_getElem? (i := 1033) (by decide +kernel), List.mem_of_getElem? (i := 1034) (by decide +kernel)⟩
theorem lw_p39 : lw_okq (⟨"WhoseHourItIsModel", "hourOf", "(II)I"⟩, 22) := ⟨⟨by decide +kernel, by decide +kernel⟩, List.mem_of_getElem? (i := 868) (by decide +kernel), List.mem_of_getElem? (i := 1037) (by decide +kernel), List.mem_of_getElem? (i := 1038) (by decide +kernel)⟩
theorem lw_p40 : lw_okq (⟨"WhoseHourItIsModel", "partOf", "(III)I"⟩, 22) := ⟨⟨by decide +kernel, by decide +kernel⟩, List.mem_of_getElem? (i := 868) (by decide +kernel), List.mem_of_getElem? (i := 1041) (by decide +kernel), List.mem_of_getElem? (i := 1042) (by decide +kernel)⟩
theorem lw_p41 : lw_okq (⟨"WhoseHourItIsModel", "hasThatDay", "(II)Z"⟩, 22) := ⟨⟨by decide +kernel, by decide +kernel⟩, List.mem_of_getElem? (i := 868) (by decide +kernel), List.mem_of_getElem? (i := 1045) (by decide +kernel), List.mem_of_getElem? (i := 1046) (by decide +kernel)⟩
theorem lw_p42 : lw_okq (⟨"WhoseHourItIsModel", "weighs", "(II)V"⟩, 22) := ⟨⟨by decide +kernel, by decide +kernel⟩, List.mem_of_getElem? (i := 868) (by decide +kernel), List.mem_of_getElem? (i := 1050) (by decide +kernel), List.mem_of_getElem? (i := 1051) (by decide +kernel)⟩
theorem lw_p43 : lw_okq (⟨"WhoseHourItIsModel", "isWork", "(I)Z"⟩, 22) := ⟨⟨by decide +kernel, by decide +kernel⟩, List.mem_of_getElem? (i := 868) (by decide +kernel), List.mem_of_getElem? (i := 1065) (by decide +kernel), List.mem_of_getElem? (i := 1066) (by decide +kernel)⟩
theorem lw_p44 : lw_okq (⟨"WhoseHourItIsModel", "becomes", "(II)I"⟩, 22) := ⟨⟨by decide +kernel, by decide +kernel⟩, List.mem_of_getElem? (i := 868) (by decide +kernel), List.mem_of_getElem? (i := 1076) (by decide +kernel), List.mem_of_getElem? (i := 1077) (by decide +kernel)⟩
theorem lw_p45 : lw_okq (⟨"WhoseHourItIsModel", "areFew", "()Z"⟩, 22) := ⟨⟨by decide +kernel, by decide +kernel⟩, List.mem_of_getElem? (i := 868) (by decide +kernel), List.mem_of_getElem? (i := 1112) (by decide +kernel), List.mem_of_getElem? (i := 1113) (by decide +kernel)⟩
theorem lw_p46 : lw_okq (⟨"WhoseHourItIsModel", "findsAll", "()V"⟩, 22) := ⟨⟨by decide +kernel, by decide +kernel⟩, List.mem_of_getElem? (i := 868) (by decide +kernel), List.mem_of_getElem? (i := 1116) (by decide +kernel), List.mem_of_getElem? (i := 1117) (by decide +kernel)⟩
theorem lw_p47 : lw_okq (⟨"WhoseHourItIsModel", "ways", "(III)V"⟩, 22) := ⟨⟨by decide +kernel, by decide +kernel⟩, List.mem_of_getElem? (i := 868) (by decide +kernel), List.mem_of_getElem? (i := 1121) (by decide +kernel), List.mem_of_getElem? (i := 1122) (by decide +kernel)⟩
def lw_privs_3 : List (MethodName × Nat) := [(⟨"WhoseHourItIsModel", "incomeOf", "(I)I"⟩, 22), (⟨"WhoseHourItIsModel", "netOf", "(I)I"⟩, 22), (⟨"WhoseHourItIsModel", "of", "(II)I"⟩, 22), (⟨"WhoseHourItIsModel", "netBy", "(II)I"⟩, 22), (⟨"WhoseHourItIsModel", "costOf", "(I)I"⟩, 22), (⟨"WhoseHourItIsModel", "finds", "(I)V"⟩, 22), (⟨"WhoseHourItIsModel", "rowOf", "(II)I"⟩, 22), (⟨"WhoseHourItIsModel", "hourOf", "(II)I"⟩, 22), (⟨"WhoseHourItIsModel", "partOf", "(III)I"⟩, 22), (⟨"WhoseHourItIsModel", "hasThatDay", "(II)Z"⟩, 22), (⟨"WhoseHourItIsModel", "weighs", "(II)V"⟩, 22), (⟨"WhoseHourItIsModel", "isWork", "(I)Z"⟩, 22), (⟨"WhoseHourItIsModel", "becomes", "(II)I"⟩, 22), (⟨"WhoseHourItIsModel", "areFew", "()Z"⟩, 22), (⟨"WhoseHourItIsModel", "findsAll", "()V"⟩, 22), (⟨"WhoseHourItIsModel", "ways", "(III)V"⟩, 22)]
theorem lw_r3 : ∀ q ∈ lw_privs_3, lw_okq q := List.forall_mem_cons.mpr ⟨lw_p32, List.forall_mem_cons.mpr ⟨lw_p33, List.forall_mem_cons.mpr ⟨lw_p34, List.forall_mem_cons.mpr ⟨lw_p35, List.forall_mem_cons.mpr ⟨lw_p36, List.forall_mem_cons.mpr ⟨lw_p37, List.forall_mem_cons.mpr ⟨lw_p38, List.forall_mem_cons.mpr ⟨lw_p39, List.forall_mem_cons.mpr ⟨lw_p40, List.forall_mem_cons.mpr ⟨lw_p41, List.forall_mem_cons.mpr ⟨lw_p42, List.forall_mem_cons.mpr ⟨lw_p43, List.forall_mem_cons.mpr ⟨lw_p44, List.forall_mem_cons.mpr ⟨lw_p45, List.forall_mem_cons.mpr ⟨lw_p46, List.forall_mem_cons.mpr ⟨lw_p47, fun _ h => absurd h List.not_mem_nil⟩⟩⟩⟩⟩⟩⟩⟩⟩⟩⟩⟩⟩⟩⟩⟩
theorem lw_p48 : lw_okq (⟨"WhoseHourItIsModel", "askOf", "(I)I"⟩, 22) := ⟨⟨by decide +kernel, by decide +kernel⟩, List.mem_of_getElem? (i := 868) (by decide +kernel), List.mem_of_getElem? (i := 1133) (by decide +kernel), List.mem_of_getElem? (i := 1134) (by decide +kernel)⟩
theorem lw_p49 : lw_okq (⟨"WhoseHourItIsModel", "areStopped", "(I)Z"⟩, 22) := ⟨⟨by decide +kernel, by decide +kernel⟩, List.mem_of_getElem? (i := 868) (by decide +kernel), List.mem_of_getElem? (i := 1152) (by decide +kernel), List.mem_of_getElem? (i := 1153) (by decide +kernel)⟩
theorem lw_p50 : lw_okq (⟨"WhoseHourItIsModel", "lines", "(IIIII)V"⟩, 22) := ⟨⟨by decide +kernel, by decide +kernel⟩, List.mem_of_getElem? (i := 868) (by decide +kernel), List.mem_of_getElem? (i := 1160) (by decide +kernel), List.mem_of_getElem? (i := 1161) (by decide +kernel)⟩
theorem lw_p51 : lw_okq (⟨"WhoseHourItIsModel", "costsOf", "(I)I"⟩, 22) := ⟨⟨by decide +kernel, by decide +kernel⟩, List.mem_of_getElem? (i := 868) (by decide +kernel), List.mem_of_getElem? (i := 1171) (by decide +kernel), List.mem_of_getElem? (i := 1172) (by decide +kernel)⟩
theorem lw_p52 : lw_okq (⟨"WhoseHourItIsModel", "weds", "(II)V"⟩, 22) := ⟨⟨by decide +kernel, by decide +kernel⟩, List.mem_of_getElem? (i := 868) (by decide +kernel), List.mem_of_getElem? (i := 1175) (by decide +kernel), List.mem_of_getElem? (i := 1176) (by decide +kernel)⟩
theorem lw_p53 : lw_okq (⟨"WhoseHourItIsModel", "netsBy", "(I)I"⟩, 22) := ⟨⟨by decide +kernel, by decide +kernel⟩, List.mem_of_getElem? (i := 868) (by decide +kernel), List.mem_of_getElem? (i := 1195) (by decide +kernel), List.mem_of_getElem? (i := 1196) (by decide +kernel)⟩
theorem lw_p54 : lw_okq (⟨"WhoseHourItIsModel", "firstWrong", "(I)I"⟩, 22) := ⟨⟨by decide +kernel, by decide +kernel⟩, List.mem_of_getElem? (i := 868) (by decide +kernel), List.mem_of_getElem? (i := 1226) (by decide +kernel), List.mem_of_getElem? (i := 1227) (by decide +kernel)⟩
theorem lw_p55 : lw_okq (⟨"WhoseHourItIsModel", "isDone", "(II)Z"⟩, 22) := ⟨⟨by decide +kernel, by decide +kernel⟩, List.mem_of_getElem? (i := 868) (by decide +kernel), List.mem_of_getElem? (i := 1230) (by decide +kernel), List.mem_of_getElem? (i := 1231) (by decide +kernel)⟩
def lw_privs_4 : List (MethodName × Nat) := [(⟨"WhoseHourItIsModel", "askOf", "(I)I"⟩, 22), (⟨"WhoseHourItIsModel", "areStopped", "(I)Z"⟩, 22), (⟨"WhoseHourItIsModel", "lines", "(IIIII)V"⟩, 22), (⟨"WhoseHourItIsModel", "costsOf", "(I)I"⟩, 22), (⟨"WhoseHourItIsModel", "weds", "(II)V"⟩, 22), (⟨"WhoseHourItIsModel", "netsBy", "(I)I"⟩, 22), (⟨"WhoseHourItIsModel", "firstWrong", "(I)I"⟩, 22), (⟨"WhoseHourItIsModel", "isDone", "(II)Z"⟩, 22)]
theorem lw_r4 : ∀ q ∈ lw_privs_4, lw_okq q := List.forall_mem_cons.mpr ⟨lw_p48, List.forall_mem_cons.mpr ⟨lw_p49, List.forall_mem_cons.mpr ⟨lw_p50, List.forall_mem_cons.mpr ⟨lw_p51, List.forall_mem_cons.mpr ⟨lw_p52, List.forall_mem_cons.mpr ⟨lw_p53, List.forall_mem_cons.mpr ⟨lw_p54, List.forall_mem_cons.mpr ⟨lw_p55, fun _ h => absurd h List.not_mem_nil⟩⟩⟩⟩⟩⟩⟩⟩
def lw_privs : List (MethodName × Nat) := lw_privs_1 ++ (lw_privs_2 ++ (lw_privs_3 ++ (lw_privs_4)))
def lw_tbl : List Cond := k2_sels lw_privs ++ tables_1
theorem lw_privs_ok : ∀ q ∈ lw_privs, lw_okq q := by
  show ∀ q ∈ lw_privs_1 ++ (lw_privs_2 ++ (lw_privs_3 ++ (lw_privs_4))), lw_okq q
  exact List.forall_mem_append.mpr ⟨lw_r1, List.forall_mem_append.mpr ⟨lw_r2, List.forall_mem_append.mpr ⟨lw_r3, lw_r4⟩⟩⟩
end
section
/-! ===== BEGIN printed: names, fields, word lists, decode rows ===== -/
def RX0 : String := "WhoseHourItIs$Costs"
def TX0 : u_T := fun k => match k with
  | 0 => ("WhoseHourItIs$Costs", "town", "LWhoseHourItIs$Town;", true)
  | 1 => ("WhoseHourItIs$Costs", "ofHour", "[I", true)
  | 2 => ("WhoseHourItIs$Costs", "cheapest", "[I", true)
  | 3 => ("WhoseHourItIs$Costs", "bits", "I", false)
  | _ => ("WhoseHourItIs$Costs", "sum", "I", false)
def tyX0 : Nat → FieldType := fun k => match k with
  | 0 => .object "WhoseHourItIs$Town"
  | 1 => .array .int
  | 2 => .array .int
  | 3 => .int
  | _ => .int
abbrev wsX00 : List Cond := u_ws RX0 TX0 5
theorem nmX0 : ∀ a, a < 5 → ∀ b, b < 5 → a ≠ b → (TX0 a).2.1 ≠ (TX0 b).2.1 := by decide +kernel
theorem tyX0_ok : ∀ k, k < 5 → parseFieldDescriptor (TX0 k).2.2.1 = some (tyX0 k) := by decide +kernel
abbrev cX0_init : ByteArray := prog_2_method_1_code
def yX0_init : MethodName := ⟨RX0, "<init>", "(LWhoseHourItIs$Town;)V"⟩
abbrev cX0_partCost : ByteArray := prog_2_method_2_code
def yX0_partCost : MethodName := ⟨RX0, "partCost", "(III)I"⟩
abbrev cX0_hourCost : ByteArray := prog_2_method_3_code
def yX0_hourCost : MethodName := ⟨RX0, "hourCost", "(II)I"⟩
abbrev cX0_choose : ByteArray := prog_2_method_4_code
def yX0_choose : MethodName := ⟨RX0, "choose", "(I)V"⟩
abbrev cX0_chooseRun : ByteArray := prog_2_method_5_code
def yX0_chooseRun : MethodName := ⟨RX0, "chooseRun", "(II)V"⟩
abbrev cX0_runCost : ByteArray := prog_2_method_6_code
def yX0_runCost : MethodName := ⟨RX0, "runCost", "(II)I"⟩
abbrev cX0_chooseDays : ByteArray := prog_2_method_7_code
def yX0_chooseDays : MethodName := ⟨RX0, "chooseDays", "(II)V"⟩
abbrev cX0_cheapestOf : ByteArray := prog_2_method_8_code
def yX0_cheapestOf : MethodName := ⟨RX0, "cheapestOf", "(II)I"⟩
abbrev cX0_cheapestDay : ByteArray := prog_2_method_9_code
def yX0_cheapestDay : MethodName := ⟨RX0, "cheapestDay", "()I"⟩
abbrev cX0_runBits : ByteArray := prog_2_method_10_code
def yX0_runBits : MethodName := ⟨RX0, "runBits", "(II)I"⟩
def RX1 : String := "WhoseHourItIs$Market"
def TX1 : u_T := fun k => match k with
  | 0 => ("WhoseHourItIs$Market", "town", "LWhoseHourItIs$Town;", true)
  | 1 => ("WhoseHourItIs$Market", "costs", "LWhoseHourItIs$Costs;", true)
  | _ => ("WhoseHourItIs$Market", "pricesAhead", "[I", true)
def tyX1 : Nat → FieldType := fun k => match k with
  | 0 => .object "WhoseHourItIs$Town"
  | 1 => .object "WhoseHourItIs$Costs"
  | _ => .array .int
abbrev wsX10 : List Cond := u_ws RX1 TX1 3
theorem nmX1 : ∀ a, a < 3 → ∀ b, b < 3 → a ≠ b → (TX1 a).2.1 ≠ (TX1 b).2.1 := by decide +kernel
theorem tyX1_ok : ∀ k, k < 3 → parseFieldDescriptor (TX1 k).2.2.1 = some (tyX1 k) := by decide +kernel
abbrev cX1_init : ByteArray := prog_3_method_1_code
def yX1_init : MethodName := ⟨RX1, "<init>", "(LWhoseHourItIs$Town;LWhoseHourItIs$Costs;)V"⟩
abbrev cX1_earned : ByteArray := prog_3_method_2_code
def yX1_earned : MethodName := ⟨RX1, "earned", "(I)I"⟩
abbrev cX1_shareOf : ByteArray := prog_3_method_3_code
def yX1_shareOf : MethodName := ⟨RX1, "shareOf", "(III)I"⟩
abbrev cX1_bestPrice : ByteArray := prog_3_method_4_code
def yX1_bestPrice : MethodName := ⟨RX1, "bestPrice", "(I)I"⟩
abbrev cX1_roundsToRest : ByteArray := prog_3_method_5_code
def yX1_roundsToRest : MethodName := ⟨RX1, "roundsToRest", "()I"⟩
def RX2 : String := "WhoseHourItIs$Outlook"
def TX2 : u_T := fun k => match k with
  | 0 => ("WhoseHourItIs$Outlook", "town", "LWhoseHourItIs$Town;", true)
  | 1 => ("WhoseHourItIs$Outlook", "costs", "LWhoseHourItIs$Costs;", true)
  | _ => ("WhoseHourItIs$Outlook", "oneCost", "[I", true)
def tyX2 : Nat → FieldType := fun k => match k with
  | 0 => .object "WhoseHourItIs$Town"
  | 1 => .object "WhoseHourItIs$Costs"
  | _ => .array .int
abbrev wsX20 : List Cond := u_ws RX2 TX2 3
theorem nmX2 : ∀ a, a < 3 → ∀ b, b < 3 → a ≠ b → (TX2 a).2.1 ≠ (TX2 b).2.1 := by decide +kernel
theorem tyX2_ok : ∀ k, k < 3 → parseFieldDescriptor (TX2 k).2.2.1 = some (tyX2 k) := by decide +kernel
abbrev cX2_init : ByteArray := prog_4_method_1_code
def yX2_init : MethodName := ⟨RX2, "<init>", "(LWhoseHourItIs$Town;LWhoseHourItIs$Costs;)V"⟩
abbrev cX2_bestSpouse : ByteArray := prog_4_method_2_code
def yX2_bestSpouse : MethodName := ⟨RX2, "bestSpouse", "(I)I"⟩
abbrev cX2_costOfWorksOf : ByteArray := prog_4_method_3_code
def yX2_costOfWorksOf : MethodName := ⟨RX2, "costOfWorksOf", "(I)I"⟩
abbrev cX2_bestTaker : ByteArray := prog_4_method_4_code
def yX2_bestTaker : MethodName := ⟨RX2, "bestTaker", "()I"⟩
abbrev cX2_netsWithGift : ByteArray := prog_4_method_5_code
def yX2_netsWithGift : MethodName := ⟨RX2, "netsWithGift", "(II)I"⟩
abbrev cX2_findCosts : ByteArray := prog_4_method_6_code
def yX2_findCosts : MethodName := ⟨RX2, "findCosts", "()V"⟩
abbrev cX2_doneNet : ByteArray := prog_4_method_7_code
def yX2_doneNet : MethodName := ⟨RX2, "doneNet", "(II)I"⟩
abbrev cX2_ofSeasons : ByteArray := prog_4_method_8_code
def yX2_ofSeasons : MethodName := ⟨RX2, "ofSeasons", "()I"⟩
abbrev cX2_ofDraws : ByteArray := prog_4_method_9_code
def yX2_ofDraws : MethodName := ⟨RX2, "ofDraws", "(II)I"⟩
def RX3 : String := "WhoseHourItIs$Plan"
def TX3 : u_T := fun k => match k with
  | 0 => ("WhoseHourItIs$Plan", "town", "LWhoseHourItIs$Town;", true)
  | 1 => ("WhoseHourItIs$Plan", "costs", "LWhoseHourItIs$Costs;", true)
  | 2 => ("WhoseHourItIs$Plan", "rows", "I", false)
  | 3 => ("WhoseHourItIs$Plan", "workOfRow", "[I", true)
  | 4 => ("WhoseHourItIs$Plan", "gain", "[[I", true)
  | 5 => ("WhoseHourItIs$Plan", "tried", "[I", true)
  | 6 => ("WhoseHourItIs$Plan", "best", "[I", true)
  | _ => ("WhoseHourItIs$Plan", "most", "I", false)
def tyX3 : Nat → FieldType := fun k => match k with
  | 0 => .object "WhoseHourItIs$Town"
  | 1 => .object "WhoseHourItIs$Costs"
  | 2 => .int
  | 3 => .array .int
  | 4 => .array (.array .int)
  | 5 => .array .int
  | 6 => .array .int
  | _ => .int
abbrev wsX30 : List Cond := u_ws RX3 TX3 8
theorem nmX3 : ∀ a, a < 8 → ∀ b, b < 8 → a ≠ b → (TX3 a).2.1 ≠ (TX3 b).2.1 := by decide +kernel
theorem tyX3_ok : ∀ k, k < 8 → parseFieldDescriptor (TX3 k).2.2.1 = some (tyX3 k) := by decide +kernel
abbrev cX3_init : ByteArray := prog_5_method_1_code
def yX3_init : MethodName := ⟨RX3, "<init>", "(LWhoseHourItIs$Town;LWhoseHourItIs$Costs;)V"⟩
abbrev cX3_make : ByteArray := prog_5_method_2_code
def yX3_make : MethodName := ⟨RX3, "make", "()V"⟩
abbrev cX3_fillGains : ByteArray := prog_5_method_3_code
def yX3_fillGains : MethodName := ⟨RX3, "fillGains", "(I[I)V"⟩
abbrev cX3_tryRow : ByteArray := prog_5_method_4_code
def yX3_tryRow : MethodName := ⟨RX3, "tryRow", "(III)V"⟩
abbrev cX3_beginOf : ByteArray := prog_5_method_5_code
def yX3_beginOf : MethodName := ⟨RX3, "beginOf", "(I)I"⟩
def RX4 : String := "WhoseHourItIs$Row"
def TX4 : u_T := fun k => match k with
  | 0 => ("WhoseHourItIs$Row", "town", "LWhoseHourItIs$Town;", true)
  | 1 => ("WhoseHourItIs$Row", "costs", "LWhoseHourItIs$Costs;", true)
  | 2 => ("WhoseHourItIs$Row", "bytes", "[I", true)
  | _ => ("WhoseHourItIs$Row", "size", "I", false)
def tyX4 : Nat → FieldType := fun k => match k with
  | 0 => .object "WhoseHourItIs$Town"
  | 1 => .object "WhoseHourItIs$Costs"
  | 2 => .array .int
  | _ => .int
abbrev wsX40 : List Cond := u_ws RX4 TX4 4
theorem nmX4 : ∀ a, a < 4 → ∀ b, b < 4 → a ≠ b → (TX4 a).2.1 ≠ (TX4 b).2.1 := by decide +kernel
theorem tyX4_ok : ∀ k, k < 4 → parseFieldDescriptor (TX4 k).2.2.1 = some (tyX4 k) := by decide +kernel
abbrev cX4_init : ByteArray := prog_6_method_1_code
def yX4_init : MethodName := ⟨RX4, "<init>", "(LWhoseHourItIs$Town;LWhoseHourItIs$Costs;)V"⟩
abbrev cX4_put : ByteArray := prog_6_method_2_code
def yX4_put : MethodName := ⟨RX4, "put", "(I)V"⟩
abbrev cX4_firstWrongHour : ByteArray := prog_6_method_3_code
def yX4_firstWrongHour : MethodName := ⟨RX4, "firstWrongHour", "()I"⟩
abbrev cX4_mayBeWorked : ByteArray := prog_6_method_4_code
def yX4_mayBeWorked : MethodName := ⟨RX4, "mayBeWorked", "(II)Z"⟩
abbrev cX4_firstNotDone : ByteArray := prog_6_method_5_code
def yX4_firstNotDone : MethodName := ⟨RX4, "firstNotDone", "()I"⟩
abbrev cX4_isDone : ByteArray := prog_6_method_6_code
def yX4_isDone : MethodName := ⟨RX4, "isDone", "(I)Z"⟩
abbrev cX4_mayFollow : ByteArray := prog_6_method_7_code
def yX4_mayFollow : MethodName := ⟨RX4, "mayFollow", "([III)Z"⟩
def RX5 : String := "WhoseHourItIs$Strikes"
def TX5 : u_T := fun k => match k with
  | 0 => ("WhoseHourItIs$Strikes", "town", "LWhoseHourItIs$Town;", true)
  | 1 => ("WhoseHourItIs$Strikes", "asked", "[[I", true)
  | _ => ("WhoseHourItIs$Strikes", "never", "[[I", true)
def tyX5 : Nat → FieldType := fun k => match k with
  | 0 => .object "WhoseHourItIs$Town"
  | 1 => .array (.array .int)
  | _ => .array (.array .int)
abbrev wsX50 : List Cond := u_ws RX5 TX5 3
theorem nmX5 : ∀ a, a < 3 → ∀ b, b < 3 → a ≠ b → (TX5 a).2.1 ≠ (TX5 b).2.1 := by decide +kernel
theorem tyX5_ok : ∀ k, k < 3 → parseFieldDescriptor (TX5 k).2.2.1 = some (tyX5 k) := by decide +kernel
abbrev cX5_init : ByteArray := prog_7_method_1_code
def yX5_init : MethodName := ⟨RX5, "<init>", "(LWhoseHourItIs$Town;)V"⟩
abbrev cX5_look : ByteArray := prog_7_method_2_code
def yX5_look : MethodName := ⟨RX5, "look", "(I)V"⟩
abbrev cX5_canBe : ByteArray := prog_7_method_3_code
def yX5_canBe : MethodName := ⟨RX5, "canBe", "(III)Z"⟩
abbrev cX5_openDays : ByteArray := prog_7_method_4_code
def yX5_openDays : MethodName := ⟨RX5, "openDays", "(I)I"⟩
abbrev cX5_longestRun : ByteArray := prog_7_method_5_code
def yX5_longestRun : MethodName := ⟨RX5, "longestRun", "(I)I"⟩
abbrev cX5_barring : ByteArray := prog_7_method_6_code
def yX5_barring : MethodName := ⟨RX5, "barring", "(I)I"⟩
abbrev cX5_fewestToStop : ByteArray := prog_7_method_7_code
def yX5_fewestToStop : MethodName := ⟨RX5, "fewestToStop", "(I)I"⟩
abbrev cX5_fewestToStopEach : ByteArray := prog_7_method_8_code
def yX5_fewestToStopEach : MethodName := ⟨RX5, "fewestToStopEach", "()I"⟩
abbrev cX5_stopsOthers : ByteArray := prog_7_method_9_code
def yX5_stopsOthers : MethodName := ⟨RX5, "stopsOthers", "(I)Z"⟩
abbrev cX5_orders : ByteArray := prog_7_method_10_code
def yX5_orders : MethodName := ⟨RX5, "orders", "()I"⟩
abbrev cX5_pivotalOrders : ByteArray := prog_7_method_11_code
def yX5_pivotalOrders : MethodName := ⟨RX5, "pivotalOrders", "(II)I"⟩
abbrev cX5_ordersOf : ByteArray := prog_7_method_12_code
def yX5_ordersOf : MethodName := ⟨RX5, "ordersOf", "(I)I"⟩
def RX6 : String := "WhoseHourItIs$Tape"
def TX6 : u_T := fun k => match k with
  | 0 => ("WhoseHourItIs$Tape", "size", "I", false)
  | 1 => ("WhoseHourItIs$Tape", "signs", "[I", true)
  | _ => ("WhoseHourItIs$Tape", "told", "[I", true)
def tyX6 : Nat → FieldType := fun k => match k with
  | 0 => .int
  | 1 => .array .int
  | _ => .array .int
abbrev wsX60 : List Cond := u_ws RX6 TX6 3
theorem nmX6 : ∀ a, a < 3 → ∀ b, b < 3 → a ≠ b → (TX6 a).2.1 ≠ (TX6 b).2.1 := by decide +kernel
theorem tyX6_ok : ∀ k, k < 3 → parseFieldDescriptor (TX6 k).2.2.1 = some (tyX6 k) := by decide +kernel
abbrev cX6_init : ByteArray := prog_8_method_1_code
def yX6_init : MethodName := ⟨RX6, "<init>", "()V"⟩
abbrev cX6_put : ByteArray := prog_8_method_2_code
def yX6_put : MethodName := ⟨RX6, "put", "(IJ)V"⟩
abbrev cX6_formFault : ByteArray := prog_8_method_3_code
def yX6_formFault : MethodName := ⟨RX6, "formFault", "()I"⟩
abbrev cX6_tellTo : ByteArray := prog_8_method_4_code
def yX6_tellTo : MethodName := ⟨RX6, "tellTo", "(LWhoseHourItIs$Town;)I"⟩
abbrev cX6_tellOne : ByteArray := prog_8_method_5_code
def yX6_tellOne : MethodName := ⟨RX6, "tellOne", "(LWhoseHourItIs$Town;I)Z"⟩
abbrev cX6_readStatement : ByteArray := prog_8_method_6_code
def yX6_readStatement : MethodName := ⟨RX6, "readStatement", "(I)I"⟩
abbrev cX6_formAt : ByteArray := prog_8_method_7_code
def yX6_formAt : MethodName := ⟨RX6, "formAt", "(I)Ljava/lang/String;"⟩
abbrev cX6_signAt : ByteArray := prog_8_method_8_code
def yX6_signAt : MethodName := ⟨RX6, "signAt", "(I)I"⟩
abbrev cX6_valueAt : ByteArray := prog_8_method_9_code
def yX6_valueAt : MethodName := ⟨RX6, "valueAt", "(IC)I"⟩
def RX7 : String := "WhoseHourItIs$Town"
def TX7 : u_T := fun k => match k with
  | 0 => ("WhoseHourItIs$Town", "holders", "I", false)
  | 1 => ("WhoseHourItIs$Town", "works", "I", false)
  | 2 => ("WhoseHourItIs$Town", "strike", "I", false)
  | 3 => ("WhoseHourItIs$Town", "bellHour", "I", false)
  | 4 => ("WhoseHourItIs$Town", "bellSort", "I", false)
  | 5 => ("WhoseHourItIs$Town", "holderOf", "[[I", true)
  | 6 => ("WhoseHourItIs$Town", "hoursOf", "[I", true)
  | 7 => ("WhoseHourItIs$Town", "spouse", "[I", true)
  | 8 => ("WhoseHourItIs$Town", "parts", "[I", true)
  | 9 => ("WhoseHourItIs$Town", "partOf", "[[I", true)
  | 10 => ("WhoseHourItIs$Town", "workOf", "[[I", true)
  | _ => ("WhoseHourItIs$Town", "hundredths", "[I", true)
def tyX7 : Nat → FieldType := fun k => match k with
  | 0 => .int
  | 1 => .int
  | 2 => .int
  | 3 => .int
  | 4 => .int
  | 5 => .array (.array .int)
  | 6 => .array .int
  | 7 => .array .int
  | 8 => .array .int
  | 9 => .array (.array .int)
  | 10 => .array (.array .int)
  | _ => .array .int
abbrev wsX70 : List Cond := u_ws RX7 TX7 12
theorem nmX7 : ∀ a, a < 12 → ∀ b, b < 12 → a ≠ b → (TX7 a).2.1 ≠ (TX7 b).2.1 := by decide +kernel
theorem tyX7_ok : ∀ k, k < 12 → parseFieldDescriptor (TX7 k).2.2.1 = some (tyX7 k) := by decide +kernel
abbrev cX7_init : ByteArray := prog_9_method_1_code
def yX7_init : MethodName := ⟨RX7, "<init>", "()V"⟩
abbrev cX7_copyFrom : ByteArray := prog_9_method_2_code
def yX7_copyFrom : MethodName := ⟨RX7, "copyFrom", "(LWhoseHourItIs$Town;)V"⟩
abbrev cX7_hasHolder : ByteArray := prog_9_method_3_code
def yX7_hasHolder : MethodName := ⟨RX7, "hasHolder", "(I)Z"⟩
abbrev cX7_hasWork : ByteArray := prog_9_method_4_code
def yX7_hasWork : MethodName := ⟨RX7, "hasWork", "(I)Z"⟩
abbrev cX7_everyone : ByteArray := prog_9_method_5_code
def yX7_everyone : MethodName := ⟨RX7, "everyone", "()I"⟩
abbrev cX7_holds : ByteArray := prog_9_method_6_code
def yX7_holds : MethodName := ⟨RX7, "holds", "(II)Z"⟩
abbrev cX7_rowWorks : ByteArray := prog_9_method_7_code
def yX7_rowWorks : MethodName := ⟨RX7, "rowWorks", "()I"⟩
abbrev cX7_hoursOfNobody : ByteArray := prog_9_method_8_code
def yX7_hoursOfNobody : MethodName := ⟨RX7, "hoursOfNobody", "()I"⟩
abbrev cX7_allParts : ByteArray := prog_9_method_9_code
def yX7_allParts : MethodName := ⟨RX7, "allParts", "()I"⟩
abbrev cX7_addHolder : ByteArray := prog_9_method_10_code
def yX7_addHolder : MethodName := ⟨RX7, "addHolder", "([I)Z"⟩
abbrev cX7_addWork : ByteArray := prog_9_method_11_code
def yX7_addWork : MethodName := ⟨RX7, "addWork", "([I)Z"⟩
abbrev cX7_addParts : ByteArray := prog_9_method_12_code
def yX7_addParts : MethodName := ⟨RX7, "addParts", "(III)Z"⟩
abbrev cX7_addPart : ByteArray := prog_9_method_13_code
def yX7_addPart : MethodName := ⟨RX7, "addPart", "(II)V"⟩
abbrev cX7_takeOnlyPart : ByteArray := prog_9_method_14_code
def yX7_takeOnlyPart : MethodName := ⟨RX7, "takeOnlyPart", "(II)V"⟩
abbrev cX7_unwed : ByteArray := prog_9_method_15_code
def yX7_unwed : MethodName := ⟨RX7, "unwed", "(I)V"⟩
abbrev cX7_isFree : ByteArray := prog_9_method_16_code
def yX7_isFree : MethodName := ⟨RX7, "isFree", "(III)Z"⟩
abbrev cX7_kindLets : ByteArray := prog_9_method_17_code
def yX7_kindLets : MethodName := ⟨RX7, "kindLets", "(II)Z"⟩
def RX8 : String := "WhoseHourItIs"
def TX8 : u_T := fun k => match k with
  | 0 => ("WhoseHourItIs", "now", "LWhoseHourItIs$Town;", true)
  | 1 => ("WhoseHourItIs", "draft", "LWhoseHourItIs$Town;", true)
  | 2 => ("WhoseHourItIs", "kept", "LWhoseHourItIs$Town;", true)
  | 3 => ("WhoseHourItIs", "hasImage", "Z", false)
  | 4 => ("WhoseHourItIs", "tape", "LWhoseHourItIs$Tape;", true)
  | 5 => ("WhoseHourItIs", "costs", "LWhoseHourItIs$Costs;", true)
  | 6 => ("WhoseHourItIs", "market", "LWhoseHourItIs$Market;", true)
  | 7 => ("WhoseHourItIs", "plan", "LWhoseHourItIs$Plan;", true)
  | 8 => ("WhoseHourItIs", "strikes", "LWhoseHourItIs$Strikes;", true)
  | 9 => ("WhoseHourItIs", "outlook", "LWhoseHourItIs$Outlook;", true)
  | 10 => ("WhoseHourItIs", "week", "LWhoseHourItIs$Row;", true)
  | _ => ("WhoseHourItIs", "refusals", "[I", true)
def tyX8 : Nat → FieldType := fun k => match k with
  | 0 => .object "WhoseHourItIs$Town"
  | 1 => .object "WhoseHourItIs$Town"
  | 2 => .object "WhoseHourItIs$Town"
  | 3 => .boolean
  | 4 => .object "WhoseHourItIs$Tape"
  | 5 => .object "WhoseHourItIs$Costs"
  | 6 => .object "WhoseHourItIs$Market"
  | 7 => .object "WhoseHourItIs$Plan"
  | 8 => .object "WhoseHourItIs$Strikes"
  | 9 => .object "WhoseHourItIs$Outlook"
  | 10 => .object "WhoseHourItIs$Row"
  | _ => .array .int
abbrev wsX80 : List Cond := u_ws RX8 TX8 12
theorem nmX8 : ∀ a, a < 12 → ∀ b, b < 12 → a ≠ b → (TX8 a).2.1 ≠ (TX8 b).2.1 := by decide +kernel
theorem tyX8_ok : ∀ k, k < 12 → parseFieldDescriptor (TX8 k).2.2.1 = some (tyX8 k) := by decide +kernel
abbrev cX8_init : ByteArray := prog_1_method_1_code
def yX8_init : MethodName := ⟨RX8, "<init>", "()V"⟩
abbrev cX8_feed : ByteArray := prog_1_method_2_code
def yX8_feed : MethodName := ⟨RX8, "feed", "(IJ)I"⟩
abbrev cX8_town : ByteArray := prog_1_method_3_code
def yX8_town : MethodName := ⟨RX8, "town", "()I"⟩
abbrev cX8_holder : ByteArray := prog_1_method_4_code
def yX8_holder : MethodName := ⟨RX8, "holder", "(II)I"⟩
abbrev cX8_hour : ByteArray := prog_1_method_5_code
def yX8_hour : MethodName := ⟨RX8, "hour", "(II)I"⟩
abbrev cX8_work : ByteArray := prog_1_method_6_code
def yX8_work : MethodName := ⟨RX8, "work", "(II)I"⟩
abbrev cX8_price : ByteArray := prog_1_method_7_code
def yX8_price : MethodName := ⟨RX8, "price", "(II)I"⟩
abbrev cX8_strike : ByteArray := prog_1_method_8_code
def yX8_strike : MethodName := ⟨RX8, "strike", "(I)I"⟩
abbrev cX8_bell : ByteArray := prog_1_method_9_code
def yX8_bell : MethodName := ⟨RX8, "bell", "(II)I"⟩
abbrev cX8_leave : ByteArray := prog_1_method_10_code
def yX8_leave : MethodName := ⟨RX8, "leave", "(III)I"⟩
abbrev cX8_one : ByteArray := prog_1_method_11_code
def yX8_one : MethodName := ⟨RX8, "one", "(I)I"⟩
abbrev cX8_cost : ByteArray := prog_1_method_12_code
def yX8_cost : MethodName := ⟨RX8, "cost", "(I)I"⟩
abbrev cX8_net : ByteArray := prog_1_method_13_code
def yX8_net : MethodName := ⟨RX8, "net", "(I)I"⟩
abbrev cX8_bars : ByteArray := prog_1_method_14_code
def yX8_bars : MethodName := ⟨RX8, "bars", "(I)I"⟩
abbrev cX8_all : ByteArray := prog_1_method_15_code
def yX8_all : MethodName := ⟨RX8, "all", "()I"⟩
abbrev cX8_begin : ByteArray := prog_1_method_16_code
def yX8_begin : MethodName := ⟨RX8, "begin", "(I)I"⟩
abbrev cX8_ask : ByteArray := prog_1_method_17_code
def yX8_ask : MethodName := ⟨RX8, "ask", "(I)I"⟩
abbrev cX8_rest : ByteArray := prog_1_method_18_code
def yX8_rest : MethodName := ⟨RX8, "rest", "()I"⟩
abbrev cX8_stop : ByteArray := prog_1_method_19_code
def yX8_stop : MethodName := ⟨RX8, "stop", "(I)I"⟩
abbrev cX8_stopAll : ByteArray := prog_1_method_20_code
def yX8_stopAll : MethodName := ⟨RX8, "stopAll", "()I"⟩
abbrev cX8_power : ByteArray := prog_1_method_21_code
def yX8_power : MethodName := ⟨RX8, "power", "(III)I"⟩
abbrev cX8_wed : ByteArray := prog_1_method_22_code
def yX8_wed : MethodName := ⟨RX8, "wed", "(I)I"⟩
abbrev cX8_marry : ByteArray := prog_1_method_23_code
def yX8_marry : MethodName := ⟨RX8, "marry", "(II)I"⟩
abbrev cX8_wedTo : ByteArray := prog_1_method_24_code
def yX8_wedTo : MethodName := ⟨RX8, "wedTo", "(I)I"⟩
abbrev cX8_heirs : ByteArray := prog_1_method_25_code
def yX8_heirs : MethodName := ⟨RX8, "heirs", "(II)I"⟩
abbrev cX8_give : ByteArray := prog_1_method_26_code
def yX8_give : MethodName := ⟨RX8, "give", "()I"⟩
abbrev cX8_together : ByteArray := prog_1_method_27_code
def yX8_together : MethodName := ⟨RX8, "together", "(II)I"⟩
abbrev cX8_season : ByteArray := prog_1_method_28_code
def yX8_season : MethodName := ⟨RX8, "season", "(II)I"⟩
abbrev cX8_year : ByteArray := prog_1_method_29_code
def yX8_year : MethodName := ⟨RX8, "year", "()I"⟩
abbrev cX8_years : ByteArray := prog_1_method_30_code
def yX8_years : MethodName := ⟨RX8, "years", "(II)I"⟩
abbrev cX8_row : ByteArray := prog_1_method_31_code
def yX8_row : MethodName := ⟨RX8, "row", "(I)I"⟩
abbrev cX8_judge : ByteArray := prog_1_method_32_code
def yX8_judge : MethodName := ⟨RX8, "judge", "(I)I"⟩
abbrev cX8_image : ByteArray := prog_1_method_33_code
def yX8_image : MethodName := ⟨RX8, "image", "()I"⟩
abbrev cX8_on : ByteArray := prog_1_method_34_code
def yX8_on : MethodName := ⟨RX8, "on", "()I"⟩
abbrev cX8_count : ByteArray := prog_1_method_35_code
def yX8_count : MethodName := ⟨RX8, "count", "(I)I"⟩
abbrev cX8_refuse : ByteArray := prog_1_method_36_code
def yX8_refuse : MethodName := ⟨RX8, "refuse", "(I)I"⟩
abbrev cX8_outside : ByteArray := prog_1_method_37_code
def yX8_outside : MethodName := ⟨RX8, "outside", "(II)I"⟩
abbrev cX8_isHour : ByteArray := prog_1_method_38_code
def yX8_isHour : MethodName := ⟨RX8, "isHour", "(I)Z"⟩
abbrev cX8_isIn : ByteArray := prog_1_method_39_code
def yX8_isIn : MethodName := ⟨RX8, "isIn", "(II)Z"⟩
abbrev cX8_netOf : ByteArray := prog_1_method_40_code
def yX8_netOf : MethodName := ⟨RX8, "netOf", "(II)I"⟩
abbrev cX8_greatestShared : ByteArray := prog_1_method_41_code
def yX8_greatestShared : MethodName := ⟨RX8, "greatestShared", "(II)I"⟩
def RX9 : String := "WhoseHourItIsModel"
def TX9 : u_T := fun k => match k with
  | 0 => ("WhoseHourItIsModel", "refusals", "[I", true)
  | 1 => ("WhoseHourItIsModel", "s", "[I", true)
  | 2 => ("WhoseHourItIsModel", "image", "[I", true)
  | 3 => ("WhoseHourItIsModel", "read", "[I", true)
  | 4 => ("WhoseHourItIsModel", "kept", "[I", true)
  | 5 => ("WhoseHourItIsModel", "isImage", "Z", false)
  | 6 => ("WhoseHourItIsModel", "tape", "[I", true)
  | 7 => ("WhoseHourItIsModel", "told", "[I", true)
  | 8 => ("WhoseHourItIsModel", "taped", "I", false)
  | 9 => ("WhoseHourItIsModel", "at", "I", false)
  | 10 => ("WhoseHourItIsModel", "lets", "I", false)
  | 11 => ("WhoseHourItIsModel", "bestBits", "I", false)
  | 12 => ("WhoseHourItIsModel", "bestCost", "I", false)
  | 13 => ("WhoseHourItIsModel", "dayHour", "[I", true)
  | 14 => ("WhoseHourItIsModel", "dayCost", "[I", true)
  | 15 => ("WhoseHourItIsModel", "begins", "[I", true)
  | 16 => ("WhoseHourItIsModel", "bestBegins", "[I", true)
  | 17 => ("WhoseHourItIsModel", "bestAll", "I", false)
  | 18 => ("WhoseHourItIsModel", "turns", "I", false)
  | 19 => ("WhoseHourItIsModel", "orders", "I", false)
  | 20 => ("WhoseHourItIsModel", "row", "[I", true)
  | _ => ("WhoseHourItIsModel", "rowed", "I", false)
def tyX9 : Nat → FieldType := fun k => match k with
  | 0 => .array .int
  | 1 => .array .int
  | 2 => .array .int
  | 3 => .array .int
  | 4 => .array .int
  | 5 => .boolean
  | 6 => .array .int
  | 7 => .array .int
  | 8 => .int
  | 9 => .int
  | 10 => .int
  | 11 => .int
  | 12 => .int
  | 13 => .array .int
  | 14 => .array .int
  | 15 => .array .int
  | 16 => .array .int
  | 17 => .int
  | 18 => .int
  | 19 => .int
  | 20 => .array .int
  | _ => .int
abbrev wsX90 : List Cond := u_ws RX9 TX9 22
theorem nmX9 : ∀ a, a < 22 → ∀ b, b < 22 → a ≠ b → (TX9 a).2.1 ≠ (TX9 b).2.1 := by decide +kernel
theorem tyX9_ok : ∀ k, k < 22 → parseFieldDescriptor (TX9 k).2.2.1 = some (tyX9 k) := by decide +kernel
abbrev cX9_init : ByteArray := prog_11_method_1_code
def yX9_init : MethodName := ⟨RX9, "<init>", "()V"⟩
abbrev cX9_refuse : ByteArray := prog_11_method_2_code
def yX9_refuse : MethodName := ⟨RX9, "refuse", "(I)I"⟩
abbrev cX9_isIn : ByteArray := prog_11_method_3_code
def yX9_isIn : MethodName := ⟨RX9, "isIn", "(II)Z"⟩
abbrev cX9_within : ByteArray := prog_11_method_4_code
def yX9_within : MethodName := ⟨RX9, "within", "(III)I"⟩
abbrev cX9_isHolder : ByteArray := prog_11_method_5_code
def yX9_isHolder : MethodName := ⟨RX9, "isHolder", "(I)Z"⟩
abbrev cX9_isWork : ByteArray := prog_11_method_6_code
def yX9_isWork : MethodName := ⟨RX9, "isWork", "(I)Z"⟩
abbrev cX9_isHour : ByteArray := prog_11_method_7_code
def yX9_isHour : MethodName := ⟨RX9, "isHour", "(I)Z"⟩
abbrev cX9_get : ByteArray := prog_11_method_8_code
def yX9_get : MethodName := ⟨RX9, "get", "(II)I"⟩
abbrev cX9_of : ByteArray := prog_11_method_9_code
def yX9_of : MethodName := ⟨RX9, "of", "(II)I"⟩
abbrev cX9_feed : ByteArray := prog_11_method_10_code
def yX9_feed : MethodName := ⟨RX9, "feed", "(IJ)I"⟩
abbrev cX9_sign : ByteArray := prog_11_method_11_code
def yX9_sign : MethodName := ⟨RX9, "sign", "()I"⟩
abbrev cX9_takes : ByteArray := prog_11_method_12_code
def yX9_takes : MethodName := ⟨RX9, "takes", "(I)Z"⟩
abbrev cX9_readsNumber : ByteArray := prog_11_method_13_code
def yX9_readsNumber : MethodName := ⟨RX9, "readsNumber", "(II)Z"⟩
abbrev cX9_kindOf : ByteArray := prog_11_method_14_code
def yX9_kindOf : MethodName := ⟨RX9, "kindOf", "(I)I"⟩
abbrev cX9_readsStatement : ByteArray := prog_11_method_15_code
def yX9_readsStatement : MethodName := ⟨RX9, "readsStatement", "()Z"⟩
abbrev cX9_hasPart : ByteArray := prog_11_method_16_code
def yX9_hasPart : MethodName := ⟨RX9, "hasPart", "([III)Z"⟩
abbrev cX9_adds : ByteArray := prog_11_method_17_code
def yX9_adds : MethodName := ⟨RX9, "adds", "([III)V"⟩
abbrev cX9_comesHours : ByteArray := prog_11_method_18_code
def yX9_comesHours : MethodName := ⟨RX9, "comesHours", "(III)Z"⟩
abbrev cX9_comes : ByteArray := prog_11_method_19_code
def yX9_comes : MethodName := ⟨RX9, "comes", "(I)Z"⟩
abbrev cX9_reads : ByteArray := prog_11_method_20_code
def yX9_reads : MethodName := ⟨RX9, "reads", "()I"⟩
abbrev cX9_copies : ByteArray := prog_11_method_21_code
def yX9_copies : MethodName := ⟨RX9, "copies", "([I[I)V"⟩
abbrev cX9_town : ByteArray := prog_11_method_22_code
def yX9_town : MethodName := ⟨RX9, "town", "()I"⟩
abbrev cX9_holder : ByteArray := prog_11_method_23_code
def yX9_holder : MethodName := ⟨RX9, "holder", "(II)I"⟩
abbrev cX9_hour : ByteArray := prog_11_method_24_code
def yX9_hour : MethodName := ⟨RX9, "hour", "(II)I"⟩
abbrev cX9_work : ByteArray := prog_11_method_25_code
def yX9_work : MethodName := ⟨RX9, "work", "(II)I"⟩
abbrev cX9_becomes : ByteArray := prog_11_method_26_code
def yX9_becomes : MethodName := ⟨RX9, "becomes", "(II)I"⟩
abbrev cX9_price : ByteArray := prog_11_method_27_code
def yX9_price : MethodName := ⟨RX9, "price", "(II)I"⟩
abbrev cX9_strike : ByteArray := prog_11_method_28_code
def yX9_strike : MethodName := ⟨RX9, "strike", "(I)I"⟩
abbrev cX9_bell : ByteArray := prog_11_method_29_code
def yX9_bell : MethodName := ⟨RX9, "bell", "(II)I"⟩
abbrev cX9_hasThatDay : ByteArray := prog_11_method_30_code
def yX9_hasThatDay : MethodName := ⟨RX9, "hasThatDay", "(II)Z"⟩
abbrev cX9_partOf : ByteArray := prog_11_method_31_code
def yX9_partOf : MethodName := ⟨RX9, "partOf", "(III)I"⟩
abbrev cX9_leave : ByteArray := prog_11_method_32_code
def yX9_leave : MethodName := ⟨RX9, "leave", "(III)I"⟩
abbrev cX9_hourOf : ByteArray := prog_11_method_33_code
def yX9_hourOf : MethodName := ⟨RX9, "hourOf", "(II)I"⟩
abbrev cX9_rowOf : ByteArray := prog_11_method_34_code
def yX9_rowOf : MethodName := ⟨RX9, "rowOf", "(II)I"⟩
abbrev cX9_weighs : ByteArray := prog_11_method_35_code
def yX9_weighs : MethodName := ⟨RX9, "weighs", "(II)V"⟩
abbrev cX9_finds : ByteArray := prog_11_method_36_code
def yX9_finds : MethodName := ⟨RX9, "finds", "(I)V"⟩
abbrev cX9_costOf : ByteArray := prog_11_method_37_code
def yX9_costOf : MethodName := ⟨RX9, "costOf", "(I)I"⟩
abbrev cX9_one : ByteArray := prog_11_method_38_code
def yX9_one : MethodName := ⟨RX9, "one", "(I)I"⟩
abbrev cX9_cost : ByteArray := prog_11_method_39_code
def yX9_cost : MethodName := ⟨RX9, "cost", "(I)I"⟩
abbrev cX9_netBy : ByteArray := prog_11_method_40_code
def yX9_netBy : MethodName := ⟨RX9, "netBy", "(II)I"⟩
abbrev cX9_netOf : ByteArray := prog_11_method_41_code
def yX9_netOf : MethodName := ⟨RX9, "netOf", "(I)I"⟩
abbrev cX9_net : ByteArray := prog_11_method_42_code
def yX9_net : MethodName := ⟨RX9, "net", "(I)I"⟩
abbrev cX9_bars : ByteArray := prog_11_method_43_code
def yX9_bars : MethodName := ⟨RX9, "bars", "(I)I"⟩
abbrev cX9_ways : ByteArray := prog_11_method_44_code
def yX9_ways : MethodName := ⟨RX9, "ways", "(III)V"⟩
abbrev cX9_areFew : ByteArray := prog_11_method_45_code
def yX9_areFew : MethodName := ⟨RX9, "areFew", "()Z"⟩
abbrev cX9_findsAll : ByteArray := prog_11_method_46_code
def yX9_findsAll : MethodName := ⟨RX9, "findsAll", "()V"⟩
abbrev cX9_all : ByteArray := prog_11_method_47_code
def yX9_all : MethodName := ⟨RX9, "all", "()I"⟩
abbrev cX9_begin : ByteArray := prog_11_method_48_code
def yX9_begin : MethodName := ⟨RX9, "begin", "(I)I"⟩
abbrev cX9_incomeOf : ByteArray := prog_11_method_49_code
def yX9_incomeOf : MethodName := ⟨RX9, "incomeOf", "(I)I"⟩
abbrev cX9_askOf : ByteArray := prog_11_method_50_code
def yX9_askOf : MethodName := ⟨RX9, "askOf", "(I)I"⟩
abbrev cX9_ask : ByteArray := prog_11_method_51_code
def yX9_ask : MethodName := ⟨RX9, "ask", "(I)I"⟩
abbrev cX9_rest : ByteArray := prog_11_method_52_code
def yX9_rest : MethodName := ⟨RX9, "rest", "()I"⟩
abbrev cX9_bits : ByteArray := prog_11_method_53_code
def yX9_bits : MethodName := ⟨RX9, "bits", "(I)I"⟩
abbrev cX9_stop : ByteArray := prog_11_method_54_code
def yX9_stop : MethodName := ⟨RX9, "stop", "(I)I"⟩
abbrev cX9_areStopped : ByteArray := prog_11_method_55_code
def yX9_areStopped : MethodName := ⟨RX9, "areStopped", "(I)Z"⟩
abbrev cX9_stopAll : ByteArray := prog_11_method_56_code
def yX9_stopAll : MethodName := ⟨RX9, "stopAll", "()I"⟩
abbrev cX9_lines : ByteArray := prog_11_method_57_code
def yX9_lines : MethodName := ⟨RX9, "lines", "(IIIII)V"⟩
abbrev cX9_common : ByteArray := prog_11_method_58_code
def yX9_common : MethodName := ⟨RX9, "common", "(II)I"⟩
abbrev cX9_power : ByteArray := prog_11_method_59_code
def yX9_power : MethodName := ⟨RX9, "power", "(III)I"⟩
abbrev cX9_weds : ByteArray := prog_11_method_60_code
def yX9_weds : MethodName := ⟨RX9, "weds", "(II)V"⟩
abbrev cX9_costsOf : ByteArray := prog_11_method_61_code
def yX9_costsOf : MethodName := ⟨RX9, "costsOf", "(I)I"⟩
abbrev cX9_wed : ByteArray := prog_11_method_62_code
def yX9_wed : MethodName := ⟨RX9, "wed", "(I)I"⟩
abbrev cX9_marry : ByteArray := prog_11_method_63_code
def yX9_marry : MethodName := ⟨RX9, "marry", "(II)I"⟩
abbrev cX9_wedTo : ByteArray := prog_11_method_64_code
def yX9_wedTo : MethodName := ⟨RX9, "wedTo", "(I)I"⟩
abbrev cX9_heirs : ByteArray := prog_11_method_65_code
def yX9_heirs : MethodName := ⟨RX9, "heirs", "(II)I"⟩
abbrev cX9_netsBy : ByteArray := prog_11_method_66_code
def yX9_netsBy : MethodName := ⟨RX9, "netsBy", "(I)I"⟩
abbrev cX9_give : ByteArray := prog_11_method_67_code
def yX9_give : MethodName := ⟨RX9, "give", "()I"⟩
abbrev cX9_together : ByteArray := prog_11_method_68_code
def yX9_together : MethodName := ⟨RX9, "together", "(II)I"⟩
abbrev cX9_season : ByteArray := prog_11_method_69_code
def yX9_season : MethodName := ⟨RX9, "season", "(II)I"⟩
abbrev cX9_year : ByteArray := prog_11_method_70_code
def yX9_year : MethodName := ⟨RX9, "year", "()I"⟩
abbrev cX9_years : ByteArray := prog_11_method_71_code
def yX9_years : MethodName := ⟨RX9, "years", "(II)I"⟩
abbrev cX9_row : ByteArray := prog_11_method_72_code
def yX9_row : MethodName := ⟨RX9, "row", "(I)I"⟩
abbrev cX9_firstWrong : ByteArray := prog_11_method_73_code
def yX9_firstWrong : MethodName := ⟨RX9, "firstWrong", "(I)I"⟩
abbrev cX9_isDone : ByteArray := prog_11_method_74_code
def yX9_isDone : MethodName := ⟨RX9, "isDone", "(II)Z"⟩
abbrev cX9_judge : ByteArray := prog_11_method_75_code
def yX9_judge : MethodName := ⟨RX9, "judge", "(I)I"⟩
abbrev cX9_image : ByteArray := prog_11_method_76_code
def yX9_image : MethodName := ⟨RX9, "image", "()I"⟩
abbrev cX9_on : ByteArray := prog_11_method_77_code
def yX9_on : MethodName := ⟨RX9, "on", "()I"⟩
abbrev cX9_count : ByteArray := prog_11_method_78_code
def yX9_count : MethodName := ⟨RX9, "count", "(I)I"⟩
def RJ11 : String := "java/lang/Character"
def TJ11 : u_T := fun k => match k with
  | _ => ("", "", "", false)
def tyJ11 : Nat → FieldType := fun k => match k with
  | _ => .int
abbrev wsJ110 : List Cond := u_ws RJ11 TJ11 0
theorem nmJ11 : ∀ a, a < 0 → ∀ b, b < 0 → a ≠ b → (TJ11 a).2.1 ≠ (TJ11 b).2.1 := by decide +kernel
theorem tyJ11_ok : ∀ k, k < 0 → parseFieldDescriptor (TJ11 k).2.2.1 = some (tyJ11 k) := by decide +kernel
abbrev cJ11_isValidCodePoint_9a6ad : ByteArray := prog_12_method_11_code
def yJ11_isValidCodePoint_9a6ad : MethodName := ⟨RJ11, "isValidCodePoint", "(I)Z"⟩
abbrev cJ11_highSurrogate_5068e : ByteArray := prog_12_method_28_code
def yJ11_highSurrogate_5068e : MethodName := ⟨RJ11, "highSurrogate", "(I)C"⟩
abbrev cJ11_lowSurrogate_5068e : ByteArray := prog_12_method_29_code
def yJ11_lowSurrogate_5068e : MethodName := ⟨RJ11, "lowSurrogate", "(I)C"⟩
def RJ6 : String := "java/lang/Integer"
def TJ6 : u_T := fun k => match k with
  | _ => ("", "", "", false)
def tyJ6 : Nat → FieldType := fun k => match k with
  | _ => .int
abbrev wsJ60 : List Cond := u_ws RJ6 TJ6 0
theorem nmJ6 : ∀ a, a < 0 → ∀ b, b < 0 → a ≠ b → (TJ6 a).2.1 ≠ (TJ6 b).2.1 := by decide +kernel
theorem tyJ6_ok : ∀ k, k < 0 → parseFieldDescriptor (TJ6 k).2.2.1 = some (tyJ6 k) := by decide +kernel
abbrev cJ6_bitCount_0f7a4 : ByteArray := prog_13_method_49_code
def yJ6_bitCount_0f7a4 : MethodName := ⟨RJ6, "bitCount", "(I)I"⟩
def RJ9 : String := "java/lang/Math"
def TJ9 : u_T := fun k => match k with
  | _ => ("", "", "", false)
def tyJ9 : Nat → FieldType := fun k => match k with
  | _ => .int
abbrev wsJ90 : List Cond := u_ws RJ9 TJ9 0
theorem nmJ9 : ∀ a, a < 0 → ∀ b, b < 0 → a ≠ b → (TJ9 a).2.1 ≠ (TJ9 b).2.1 := by decide +kernel
theorem tyJ9_ok : ∀ k, k < 0 → parseFieldDescriptor (TJ9 k).2.2.1 = some (tyJ9 k) := by decide +kernel
abbrev cJ9_max_7cf53 : ByteArray := prog_14_method_65_code
def yJ9_max_7cf53 : MethodName := ⟨RJ9, "max", "(II)I"⟩
abbrev cJ9_min_7cf53 : ByteArray := prog_14_method_69_code
def yJ9_min_7cf53 : MethodName := ⟨RJ9, "min", "(II)I"⟩
def RJ0 : String := "java/lang/String"
def TJ0 : u_T := fun k => match k with
  | _ => ("", "", "", false)
def tyJ0 : Nat → FieldType := fun k => match k with
  | _ => .int
abbrev wsJ00 : List Cond := u_ws RJ0 TJ0 0
theorem nmJ0 : ∀ a, a < 0 → ∀ b, b < 0 → a ≠ b → (TJ0 a).2.1 ≠ (TJ0 b).2.1 := by decide +kernel
theorem tyJ0_ok : ∀ k, k < 0 → parseFieldDescriptor (TJ0 k).2.2.1 = some (tyJ0 k) := by decide +kernel
abbrev cJ0_length_8abf5 : ByteArray := prog_15_method_54_code
def yJ0_length_8abf5 : MethodName := ⟨RJ0, "length", "()I"⟩
abbrev cJ0_charAt_5068e : ByteArray := prog_15_method_56_code
def yJ0_charAt_5068e : MethodName := ⟨RJ0, "charAt", "(I)C"⟩
abbrev cJ0_indexOf_0f7a4 : ByteArray := prog_15_method_79_code
def yJ0_indexOf_0f7a4 : MethodName := ⟨RJ0, "indexOf", "(I)I"⟩
abbrev cJ0_indexOf_7cf53 : ByteArray := prog_15_method_80_code
def yJ0_indexOf_7cf53 : MethodName := ⟨RJ0, "indexOf", "(II)I"⟩
abbrev cJ0_coder_7d493 : ByteArray := prog_15_method_152_code
def yJ0_coder_7d493 : MethodName := ⟨RJ0, "coder", "()B"⟩
abbrev cJ0_isLatin1_aae02 : ByteArray := prog_15_method_154_code
def yJ0_isLatin1_aae02 : MethodName := ⟨RJ0, "isLatin1", "()Z"⟩
abbrev cJ0_checkIndex_df160 : ByteArray := prog_15_method_155_code
def yJ0_checkIndex_df160 : MethodName := ⟨RJ0, "checkIndex", "(II)V"⟩
abbrev cJ0_checkBoundsBeginEnd_23922 : ByteArray := prog_15_method_158_code
def yJ0_checkBoundsBeginEnd_23922 : MethodName := ⟨RJ0, "checkBoundsBeginEnd", "(III)V"⟩
def RJ1 : String := "java/lang/StringLatin1"
def TJ1 : u_T := fun k => match k with
  | _ => ("", "", "", false)
def tyJ1 : Nat → FieldType := fun k => match k with
  | _ => .int
abbrev wsJ10 : List Cond := u_ws RJ1 TJ1 0
theorem nmJ1 : ∀ a, a < 0 → ∀ b, b < 0 → a ≠ b → (TJ1 a).2.1 ≠ (TJ1 b).2.1 := by decide +kernel
theorem tyJ1_ok : ∀ k, k < 0 → parseFieldDescriptor (TJ1 k).2.2.1 = some (tyJ1 k) := by decide +kernel
abbrev cJ1_charAt_3b067 : ByteArray := prog_16_method_2_code
def yJ1_charAt_3b067 : MethodName := ⟨RJ1, "charAt", "([BI)C"⟩
abbrev cJ1_canEncode_9a6ad : ByteArray := prog_16_method_4_code
def yJ1_canEncode_9a6ad : MethodName := ⟨RJ1, "canEncode", "(I)Z"⟩
abbrev cJ1_indexOf_4cfef : ByteArray := prog_16_method_22_code
def yJ1_indexOf_4cfef : MethodName := ⟨RJ1, "indexOf", "([BIII)I"⟩
abbrev cJ1_indexOfChar_4cfef : ByteArray := prog_16_method_23_code
def yJ1_indexOfChar_4cfef : MethodName := ⟨RJ1, "indexOfChar", "([BIII)I"⟩
def RJ2 : String := "java/lang/StringUTF16"
def TJ2 : u_T := fun k => match k with
  | _ => ("", "", "", false)
def tyJ2 : Nat → FieldType := fun k => match k with
  | _ => .int
abbrev wsJ20 : List Cond := u_ws RJ2 TJ2 0
theorem nmJ2 : ∀ a, a < 0 → ∀ b, b < 0 → a ≠ b → (TJ2 a).2.1 ≠ (TJ2 b).2.1 := by decide +kernel
theorem tyJ2_ok : ∀ k, k < 0 → parseFieldDescriptor (TJ2 k).2.2.1 = some (tyJ2 k) := by decide +kernel
abbrev cJ2_getChar_3b067 : ByteArray := prog_17_method_5_code
def yJ2_getChar_3b067 : MethodName := ⟨RJ2, "getChar", "([BI)C"⟩
abbrev cJ2_length_9d52b : ByteArray := prog_17_method_6_code
def yJ2_length_9d52b : MethodName := ⟨RJ2, "length", "([B)I"⟩
abbrev cJ2_indexOf_4cfef : ByteArray := prog_17_method_40_code
def yJ2_indexOf_4cfef : MethodName := ⟨RJ2, "indexOf", "([BIII)I"⟩
abbrev cJ2_indexOfChar_4cfef : ByteArray := prog_17_method_47_code
def yJ2_indexOfChar_4cfef : MethodName := ⟨RJ2, "indexOfChar", "([BIII)I"⟩
abbrev cJ2_indexOfCharUnsafe_4cfef : ByteArray := prog_17_method_48_code
def yJ2_indexOfCharUnsafe_4cfef : MethodName := ⟨RJ2, "indexOfCharUnsafe", "([BIII)I"⟩
abbrev cJ2_indexOfSupplementary_4cfef : ByteArray := prog_17_method_49_code
def yJ2_indexOfSupplementary_4cfef : MethodName := ⟨RJ2, "indexOfSupplementary", "([BIII)I"⟩
abbrev cJ2_charAt_3b067 : ByteArray := prog_17_method_83_code
def yJ2_charAt_3b067 : MethodName := ⟨RJ2, "charAt", "([BI)C"⟩
abbrev cJ2_checkIndex_2214a : ByteArray := prog_17_method_91_code
def yJ2_checkIndex_2214a : MethodName := ⟨RJ2, "checkIndex", "(I[B)V"⟩
abbrev cJ2_checkBoundsBeginEnd_d044e : ByteArray := prog_17_method_93_code
def yJ2_checkBoundsBeginEnd_d044e : MethodName := ⟨RJ2, "checkBoundsBeginEnd", "(II[B)V"⟩
def RJ10 : String := "java/lang/System"
def TJ10 : u_T := fun k => match k with
  | _ => ("", "", "", false)
def tyJ10 : Nat → FieldType := fun k => match k with
  | _ => .int
abbrev wsJ100 : List Cond := u_ws RJ10 TJ10 0
theorem nmJ10 : ∀ a, a < 0 → ∀ b, b < 0 → a ≠ b → (TJ10 a).2.1 ≠ (TJ10 b).2.1 := by decide +kernel
theorem tyJ10_ok : ∀ k, k < 0 → parseFieldDescriptor (TJ10 k).2.2.1 = some (tyJ10 k) := by decide +kernel
def RJ3 : String := "jdk/internal/util/Preconditions"
def TJ3 : u_T := fun k => match k with
  | _ => ("", "", "", false)
def tyJ3 : Nat → FieldType := fun k => match k with
  | _ => .int
abbrev wsJ30 : List Cond := u_ws RJ3 TJ3 0
theorem nmJ3 : ∀ a, a < 0 → ∀ b, b < 0 → a ≠ b → (TJ3 a).2.1 ≠ (TJ3 b).2.1 := by decide +kernel
theorem tyJ3_ok : ∀ k, k < 0 → parseFieldDescriptor (TJ3 k).2.2.1 = some (tyJ3 k) := by decide +kernel
abbrev cJ3_checkIndex_8e157 : ByteArray := prog_19_method_11_code
def yJ3_checkIndex_8e157 : MethodName := ⟨RJ3, "checkIndex", "(IILjava/util/function/BiFunction;)I"⟩
abbrev cJ3_checkFromToIndex_8c36e : ByteArray := prog_19_method_12_code
def yJ3_checkFromToIndex_8c36e : MethodName := ⟨RJ3, "checkFromToIndex", "(IIILjava/util/function/BiFunction;)I"⟩
def RL : String := "WhoseHourItIsLaw"
abbrev cL_law : ByteArray := code
def yL_law : MethodName := ⟨RL, "law", "([I)Z"⟩
abbrev vwCl : List vw_C := [(RX0, TX0, 5), (RX1, TX1, 3), (RX2, TX2, 3), (RX3, TX3, 8), (RX4, TX4, 4), (RX5, TX5, 3), (RX6, TX6, 3), (RX7, TX7, 12), (RX8, TX8, 12), (RX9, TX9, 22)]
end
section
theorem dX0_init_0 : decode cX0_init 0 = .ok (.aload_n 0, 1) := by decide +kernel
theorem dX0_init_1 : decode cX0_init 1 = .ok (.invokespecial 3, 3) := by decide +kernel
theorem dX0_init_4 : decode cX0_init 4 = .ok (.aload_n 0, 1) := by decide +kernel
theorem dX0_init_5 : decode cX0_init 5 = .ok (.bipush 28, 2) := by decide +kernel
theorem dX0_init_7 : decode cX0_init 7 = .ok (.newarray .int, 2) := by decide +kernel
theorem dX0_init_9 : decode cX0_init 9 = .ok (.putfield 9, 3) := by decide +kernel
theorem dX0_init_12 : decode cX0_init 12 = .ok (.aload_n 0, 1) := by decide +kernel
theorem dX0_init_13 : decode cX0_init 13 = .ok (.bipush 7, 2) := by decide +kernel
theorem dX0_init_15 : decode cX0_init 15 = .ok (.newarray .int, 2) := by decide +kernel
theorem dX0_init_17 : decode cX0_init 17 = .ok (.putfield 15, 3) := by decide +kernel
theorem dX0_init_20 : decode cX0_init 20 = .ok (.aload_n 0, 1) := by decide +kernel
theorem dX0_init_21 : decode cX0_init 21 = .ok (.aload_n 1, 1) := by decide +kernel
theorem dX0_init_22 : decode cX0_init 22 = .ok (.putfield 18, 3) := by decide +kernel
theorem dX0_init_25 : decode cX0_init 25 = .ok (.return_, 1) := by decide +kernel
theorem dX0_partCost_0 : decode cX0_partCost 0 = .ok (.aload_n 0, 1) := by decide +kernel
theorem dX0_partCost_1 : decode cX0_partCost 1 = .ok (.getfield 18, 3) := by decide +kernel
theorem dX0_partCost_4 : decode cX0_partCost 4 = .ok (.iload_n 1, 1) := by decide +kernel
theorem dX0_partCost_5 : decode cX0_partCost 5 = .ok (.iload_n 2, 1) := by decide +kernel
theorem dX0_partCost_6 : decode cX0_partCost 6 = .ok (.iload_n 3, 1) := by decide +kernel
theorem dX0_partCost_7 : decode cX0_partCost 7 = .ok (.invokevirtual 22, 3) := by decide +kernel
theorem dX0_partCost_10 : decode cX0_partCost 10 = .ok (.ifCond .eq 5, 3) := by decide +kernel
theorem dX0_partCost_13 : decode cX0_partCost 13 = .ok (.iconst 0, 1) := by decide +kernel
theorem dX0_partCost_14 : decode cX0_partCost 14 = .ok (.ireturn, 1) := by decide +kernel
theorem dX0_partCost_15 : decode cX0_partCost 15 = .ok (.aload_n 0, 1) := by decide +kernel
theorem dX0_partCost_16 : decode cX0_partCost 16 = .ok (.getfield 18, 3) := by decide +kernel
theorem dX0_partCost_19 : decode cX0_partCost 19 = .ok (.getfield 28, 3) := by decide +kernel
theorem dX0_partCost_22 : decode cX0_partCost 22 = .ok (.iload_n 2, 1) := by decide +kernel
theorem dX0_partCost_23 : decode cX0_partCost 23 = .ok (.invokestatic 32, 3) := by decide +kernel
theorem dX0_partCost_26 : decode cX0_partCost 26 = .ok (.ifCond .ne 15, 3) := by decide +kernel
theorem dX0_partCost_29 : decode cX0_partCost 29 = .ok (.aload_n 0, 1) := by decide +kernel
theorem dX0_partCost_30 : decode cX0_partCost 30 = .ok (.getfield 18, 3) := by decide +kernel
theorem dX0_partCost_33 : decode cX0_partCost 33 = .ok (.iload_n 1, 1) := by decide +kernel
theorem dX0_partCost_34 : decode cX0_partCost 34 = .ok (.iload_n 2, 1) := by decide +kernel
theorem dX0_partCost_35 : decode cX0_partCost 35 = .ok (.invokevirtual 36, 3) := by decide +kernel
theorem dX0_partCost_38 : decode cX0_partCost 38 = .ok (.ifCond .ne 6, 3) := by decide +kernel
theorem dX0_partCost_41 : decode cX0_partCost 41 = .ok (.bipush (-9), 2) := by decide +kernel
theorem dX0_partCost_43 : decode cX0_partCost 43 = .ok (.ireturn, 1) := by decide +kernel
theorem dX0_partCost_44 : decode cX0_partCost 44 = .ok (.aload_n 0, 1) := by decide +kernel
theorem dX0_partCost_45 : decode cX0_partCost 45 = .ok (.getfield 18, 3) := by decide +kernel
theorem dX0_partCost_48 : decode cX0_partCost 48 = .ok (.getfield 39, 3) := by decide +kernel
theorem dX0_partCost_51 : decode cX0_partCost 51 = .ok (.iload_n 1, 1) := by decide +kernel
theorem dX0_partCost_52 : decode cX0_partCost 52 = .ok (.aaload, 1) := by decide +kernel
theorem dX0_partCost_53 : decode cX0_partCost 53 = .ok (.astore 4, 2) := by decide +kernel
theorem dX0_partCost_55 : decode cX0_partCost 55 = .ok (.aload_n 0, 1) := by decide +kernel
theorem dX0_partCost_56 : decode cX0_partCost 56 = .ok (.getfield 18, 3) := by decide +kernel
theorem dX0_partCost_59 : decode cX0_partCost 59 = .ok (.getfield 43, 3) := by decide +kernel
theorem dX0_partCost_62 : decode cX0_partCost 62 = .ok (.iload_n 2, 1) := by decide +kernel
theorem dX0_partCost_63 : decode cX0_partCost 63 = .ok (.aaload, 1) := by decide +kernel
theorem dX0_partCost_64 : decode cX0_partCost 64 = .ok (.iconst 1, 1) := by decide +kernel
theorem dX0_partCost_65 : decode cX0_partCost 65 = .ok (.iaload, 1) := by decide +kernel
theorem dX0_partCost_66 : decode cX0_partCost 66 = .ok (.istore 5, 2) := by decide +kernel
theorem dX0_partCost_68 : decode cX0_partCost 68 = .ok (.iconst 1, 1) := by decide +kernel
theorem dX0_partCost_69 : decode cX0_partCost 69 = .ok (.aload 4, 2) := by decide +kernel
theorem dX0_partCost_71 : decode cX0_partCost 71 = .ok (.iconst 2, 1) := by decide +kernel
theorem dX0_partCost_72 : decode cX0_partCost 72 = .ok (.iaload, 1) := by decide +kernel
theorem dX0_partCost_73 : decode cX0_partCost 73 = .ok (.invokestatic 46, 3) := by decide +kernel
theorem dX0_partCost_76 : decode cX0_partCost 76 = .ok (.istore 6, 2) := by decide +kernel
theorem dX0_partCost_78 : decode cX0_partCost 78 = .ok (.iload_n 3, 1) := by decide +kernel
theorem dX0_partCost_79 : decode cX0_partCost 79 = .ok (.iconst 4, 1) := by decide +kernel
theorem dX0_partCost_80 : decode cX0_partCost 80 = .ok (.irem, 1) := by decide +kernel
theorem dX0_partCost_81 : decode cX0_partCost 81 = .ok (.istore 7, 2) := by decide +kernel
theorem dX0_partCost_83 : decode cX0_partCost 83 = .ok (.aload_n 0, 1) := by decide +kernel
theorem dX0_partCost_84 : decode cX0_partCost 84 = .ok (.getfield 18, 3) := by decide +kernel
theorem dX0_partCost_87 : decode cX0_partCost 87 = .ok (.getfield 43, 3) := by decide +kernel
theorem dX0_partCost_90 : decode cX0_partCost 90 = .ok (.iload_n 2, 1) := by decide +kernel
theorem dX0_partCost_91 : decode cX0_partCost 91 = .ok (.aaload, 1) := by decide +kernel
theorem dX0_partCost_92 : decode cX0_partCost 92 = .ok (.iconst 0, 1) := by decide +kernel
theorem dX0_partCost_93 : decode cX0_partCost 93 = .ok (.iaload, 1) := by decide +kernel
theorem dX0_partCost_94 : decode cX0_partCost 94 = .ok (.tableswitch 105 1 5 #[34, 47, 79, 105, 92], 34) := by decide +kernel
theorem dX0_partCost_128 : decode cX0_partCost 128 = .ok (.iconst 2, 1) := by decide +kernel
theorem dX0_partCost_129 : decode cX0_partCost 129 = .ok (.iload 5, 2) := by decide +kernel
theorem dX0_partCost_131 : decode cX0_partCost 131 = .ok (.imul, 1) := by decide +kernel
theorem dX0_partCost_132 : decode cX0_partCost 132 = .ok (.iload 6, 2) := by decide +kernel
theorem dX0_partCost_134 : decode cX0_partCost 134 = .ok (.iadd, 1) := by decide +kernel
theorem dX0_partCost_135 : decode cX0_partCost 135 = .ok (.iconst 1, 1) := by decide +kernel
theorem dX0_partCost_136 : decode cX0_partCost 136 = .ok (.isub, 1) := by decide +kernel
theorem dX0_partCost_137 : decode cX0_partCost 137 = .ok (.iload 6, 2) := by decide +kernel
theorem dX0_partCost_139 : decode cX0_partCost 139 = .ok (.idiv, 1) := by decide +kernel
theorem dX0_partCost_140 : decode cX0_partCost 140 = .ok (.ireturn, 1) := by decide +kernel
theorem dX0_partCost_141 : decode cX0_partCost 141 = .ok (.aload_n 0, 1) := by decide +kernel
theorem dX0_partCost_142 : decode cX0_partCost 142 = .ok (.getfield 18, 3) := by decide +kernel
theorem dX0_partCost_145 : decode cX0_partCost 145 = .ok (.getfield 52, 3) := by decide +kernel
theorem dX0_partCost_148 : decode cX0_partCost 148 = .ok (.aload 4, 2) := by decide +kernel
theorem dX0_partCost_150 : decode cX0_partCost 150 = .ok (.iconst 0, 1) := by decide +kernel
theorem dX0_partCost_151 : decode cX0_partCost 151 = .ok (.iaload, 1) := by decide +kernel
theorem dX0_partCost_152 : decode cX0_partCost 152 = .ok (.iaload, 1) := by decide +kernel
theorem dX0_partCost_153 : decode cX0_partCost 153 = .ok (.iload_n 3, 1) := by decide +kernel
theorem dX0_partCost_154 : decode cX0_partCost 154 = .ok (.iload 7, 2) := by decide +kernel
theorem dX0_partCost_156 : decode cX0_partCost 156 = .ok (.isub, 1) := by decide +kernel
theorem dX0_partCost_157 : decode cX0_partCost 157 = .ok (.ishr, 1) := by decide +kernel
theorem dX0_partCost_158 : decode cX0_partCost 158 = .ok (.bipush 15, 2) := by decide +kernel
theorem dX0_partCost_160 : decode cX0_partCost 160 = .ok (.iand, 1) := by decide +kernel
theorem dX0_partCost_161 : decode cX0_partCost 161 = .ok (.ifCond .eq 7, 3) := by decide +kernel
theorem dX0_partCost_164 : decode cX0_partCost 164 = .ok (.iconst 0, 1) := by decide +kernel
theorem dX0_partCost_165 : decode cX0_partCost 165 = .ok (.goto 7, 3) := by decide +kernel
theorem dX0_partCost_168 : decode cX0_partCost 168 = .ok (.iconst 2, 1) := by decide +kernel
theorem dX0_partCost_169 : decode cX0_partCost 169 = .ok (.iload 5, 2) := by decide +kernel
theorem dX0_partCost_171 : decode cX0_partCost 171 = .ok (.imul, 1) := by decide +kernel
theorem dX0_partCost_172 : decode cX0_partCost 172 = .ok (.ireturn, 1) := by decide +kernel
theorem dX0_partCost_173 : decode cX0_partCost 173 = .ok (.iload 5, 2) := by decide +kernel
theorem dX0_partCost_175 : decode cX0_partCost 175 = .ok (.aload_n 0, 1) := by decide +kernel
theorem dX0_partCost_176 : decode cX0_partCost 176 = .ok (.getfield 18, 3) := by decide +kernel
theorem dX0_partCost_179 : decode cX0_partCost 179 = .ok (.getfield 55, 3) := by decide +kernel
theorem dX0_partCost_182 : decode cX0_partCost 182 = .ok (.iload_n 3, 1) := by decide +kernel
theorem dX0_partCost_183 : decode cX0_partCost 183 = .ok (.iaload, 1) := by decide +kernel
theorem dX0_partCost_184 : decode cX0_partCost 184 = .ok (.imul, 1) := by decide +kernel
theorem dX0_partCost_185 : decode cX0_partCost 185 = .ok (.ireturn, 1) := by decide +kernel
theorem dX0_partCost_186 : decode cX0_partCost 186 = .ok (.iload 7, 2) := by decide +kernel
theorem dX0_partCost_188 : decode cX0_partCost 188 = .ok (.iconst 3, 1) := by decide +kernel
theorem dX0_partCost_189 : decode cX0_partCost 189 = .ok (.if_icmp .ne 7, 3) := by decide +kernel
theorem dX0_partCost_192 : decode cX0_partCost 192 = .ok (.iconst 0, 1) := by decide +kernel
theorem dX0_partCost_193 : decode cX0_partCost 193 = .ok (.goto 5, 3) := by decide +kernel
theorem dX0_partCost_196 : decode cX0_partCost 196 = .ok (.iload 5, 2) := by decide +kernel
theorem dX0_partCost_198 : decode cX0_partCost 198 = .ok (.ireturn, 1) := by decide +kernel
theorem dX0_partCost_199 : decode cX0_partCost 199 = .ok (.iload 5, 2) := by decide +kernel
theorem dX0_partCost_201 : decode cX0_partCost 201 = .ok (.ireturn, 1) := by decide +kernel
theorem dX0_hourCost_0 : decode cX0_hourCost 0 = .ok (.iconst 0, 1) := by decide +kernel
theorem dX0_hourCost_1 : decode cX0_hourCost 1 = .ok (.istore_n 3, 1) := by decide +kernel
theorem dX0_hourCost_2 : decode cX0_hourCost 2 = .ok (.iconst 0, 1) := by decide +kernel
theorem dX0_hourCost_3 : decode cX0_hourCost 3 = .ok (.istore 4, 2) := by decide +kernel
theorem dX0_hourCost_5 : decode cX0_hourCost 5 = .ok (.iload 4, 2) := by decide +kernel
theorem dX0_hourCost_7 : decode cX0_hourCost 7 = .ok (.aload_n 0, 1) := by decide +kernel
theorem dX0_hourCost_8 : decode cX0_hourCost 8 = .ok (.getfield 18, 3) := by decide +kernel
theorem dX0_hourCost_11 : decode cX0_hourCost 11 = .ok (.getfield 55, 3) := by decide +kernel
theorem dX0_hourCost_14 : decode cX0_hourCost 14 = .ok (.iload_n 2, 1) := by decide +kernel
theorem dX0_hourCost_15 : decode cX0_hourCost 15 = .ok (.iaload, 1) := by decide +kernel
theorem dX0_hourCost_16 : decode cX0_hourCost 16 = .ok (.if_icmp .ge 44, 3) := by decide +kernel
theorem dX0_hourCost_19 : decode cX0_hourCost 19 = .ok (.aload_n 0, 1) := by decide +kernel
theorem dX0_hourCost_20 : decode cX0_hourCost 20 = .ok (.iload_n 1, 1) := by decide +kernel
theorem dX0_hourCost_21 : decode cX0_hourCost 21 = .ok (.aload_n 0, 1) := by decide +kernel
theorem dX0_hourCost_22 : decode cX0_hourCost 22 = .ok (.getfield 18, 3) := by decide +kernel
theorem dX0_hourCost_25 : decode cX0_hourCost 25 = .ok (.getfield 58, 3) := by decide +kernel
theorem dX0_hourCost_28 : decode cX0_hourCost 28 = .ok (.iload_n 2, 1) := by decide +kernel
theorem dX0_hourCost_29 : decode cX0_hourCost 29 = .ok (.aaload, 1) := by decide +kernel
theorem dX0_hourCost_30 : decode cX0_hourCost 30 = .ok (.iload 4, 2) := by decide +kernel
theorem dX0_hourCost_32 : decode cX0_hourCost 32 = .ok (.iaload, 1) := by decide +kernel
theorem dX0_hourCost_33 : decode cX0_hourCost 33 = .ok (.iload_n 2, 1) := by decide +kernel
theorem dX0_hourCost_34 : decode cX0_hourCost 34 = .ok (.invokevirtual 61, 3) := by decide +kernel
theorem dX0_hourCost_37 : decode cX0_hourCost 37 = .ok (.istore 5, 2) := by decide +kernel
theorem dX0_hourCost_39 : decode cX0_hourCost 39 = .ok (.iload 5, 2) := by decide +kernel
theorem dX0_hourCost_41 : decode cX0_hourCost 41 = .ok (.bipush (-9), 2) := by decide +kernel
theorem dX0_hourCost_43 : decode cX0_hourCost 43 = .ok (.if_icmp .ne 6, 3) := by decide +kernel
theorem dX0_hourCost_46 : decode cX0_hourCost 46 = .ok (.bipush (-9), 2) := by decide +kernel
theorem dX0_hourCost_48 : decode cX0_hourCost 48 = .ok (.ireturn, 1) := by decide +kernel
theorem dX0_hourCost_49 : decode cX0_hourCost 49 = .ok (.iload_n 3, 1) := by decide +kernel
theorem dX0_hourCost_50 : decode cX0_hourCost 50 = .ok (.iload 5, 2) := by decide +kernel
theorem dX0_hourCost_52 : decode cX0_hourCost 52 = .ok (.iadd, 1) := by decide +kernel
theorem dX0_hourCost_53 : decode cX0_hourCost 53 = .ok (.istore_n 3, 1) := by decide +kernel
theorem dX0_hourCost_54 : decode cX0_hourCost 54 = .ok (.iinc 4 1, 3) := by decide +kernel
theorem dX0_hourCost_57 : decode cX0_hourCost 57 = .ok (.goto (-52), 3) := by decide +kernel
theorem dX0_hourCost_60 : decode cX0_hourCost 60 = .ok (.iload_n 3, 1) := by decide +kernel
theorem dX0_hourCost_61 : decode cX0_hourCost 61 = .ok (.ireturn, 1) := by decide +kernel
theorem dX0_choose_0 : decode cX0_choose 0 = .ok (.aload_n 0, 1) := by decide +kernel
theorem dX0_choose_1 : decode cX0_choose 1 = .ok (.getfield 18, 3) := by decide +kernel
theorem dX0_choose_4 : decode cX0_choose 4 = .ok (.getfield 39, 3) := by decide +kernel
theorem dX0_choose_7 : decode cX0_choose 7 = .ok (.iload_n 1, 1) := by decide +kernel
theorem dX0_choose_8 : decode cX0_choose 8 = .ok (.aaload, 1) := by decide +kernel
theorem dX0_choose_9 : decode cX0_choose 9 = .ok (.astore_n 2, 1) := by decide +kernel
theorem dX0_choose_10 : decode cX0_choose 10 = .ok (.iconst 0, 1) := by decide +kernel
theorem dX0_choose_11 : decode cX0_choose 11 = .ok (.istore_n 3, 1) := by decide +kernel
theorem dX0_choose_12 : decode cX0_choose 12 = .ok (.iload_n 3, 1) := by decide +kernel
theorem dX0_choose_13 : decode cX0_choose 13 = .ok (.aload_n 2, 1) := by decide +kernel
theorem dX0_choose_14 : decode cX0_choose 14 = .ok (.iconst 3, 1) := by decide +kernel
theorem dX0_choose_15 : decode cX0_choose 15 = .ok (.iaload, 1) := by decide +kernel
theorem dX0_choose_16 : decode cX0_choose 16 = .ok (.if_icmp .gt 21, 3) := by decide +kernel
theorem dX0_choose_19 : decode cX0_choose 19 = .ok (.aload_n 0, 1) := by decide +kernel
theorem dX0_choose_20 : decode cX0_choose 20 = .ok (.getfield 9, 3) := by decide +kernel
theorem dX0_choose_23 : decode cX0_choose 23 = .ok (.iload_n 3, 1) := by decide +kernel
theorem dX0_choose_24 : decode cX0_choose 24 = .ok (.aload_n 0, 1) := by decide +kernel
theorem dX0_choose_25 : decode cX0_choose 25 = .ok (.iload_n 1, 1) := by decide +kernel
theorem dX0_choose_26 : decode cX0_choose 26 = .ok (.iload_n 3, 1) := by decide +kernel
theorem dX0_choose_27 : decode cX0_choose 27 = .ok (.invokevirtual 65, 3) := by decide +kernel
theorem dX0_choose_30 : decode cX0_choose 30 = .ok (.iastore, 1) := by decide +kernel
theorem dX0_choose_31 : decode cX0_choose 31 = .ok (.iinc 3 1, 3) := by decide +kernel
theorem dX0_choose_34 : decode cX0_choose 34 = .ok (.goto (-22), 3) := by decide +kernel
theorem dX0_choose_37 : decode cX0_choose 37 = .ok (.aload_n 0, 1) := by decide +kernel
theorem dX0_choose_38 : decode cX0_choose 38 = .ok (.iconst 0, 1) := by decide +kernel
theorem dX0_choose_39 : decode cX0_choose 39 = .ok (.putfield 68, 3) := by decide +kernel
theorem dX0_choose_42 : decode cX0_choose 42 = .ok (.aload_n 0, 1) := by decide +kernel
theorem dX0_choose_43 : decode cX0_choose 43 = .ok (.bipush (-9), 2) := by decide +kernel
theorem dX0_choose_45 : decode cX0_choose 45 = .ok (.putfield 71, 3) := by decide +kernel
theorem dX0_choose_48 : decode cX0_choose 48 = .ok (.aload_n 2, 1) := by decide +kernel
theorem dX0_choose_49 : decode cX0_choose 49 = .ok (.iconst 1, 1) := by decide +kernel
theorem dX0_choose_50 : decode cX0_choose 50 = .ok (.iaload, 1) := by decide +kernel
theorem dX0_choose_51 : decode cX0_choose 51 = .ok (.iconst 1, 1) := by decide +kernel
theorem dX0_choose_52 : decode cX0_choose 52 = .ok (.if_icmp .ne 16, 3) := by decide +kernel
theorem dX0_choose_55 : decode cX0_choose 55 = .ok (.aload_n 0, 1) := by decide +kernel
theorem dX0_choose_56 : decode cX0_choose 56 = .ok (.aload_n 2, 1) := by decide +kernel
theorem dX0_choose_57 : decode cX0_choose 57 = .ok (.iconst 2, 1) := by decide +kernel
theorem dX0_choose_58 : decode cX0_choose 58 = .ok (.iaload, 1) := by decide +kernel
theorem dX0_choose_59 : decode cX0_choose 59 = .ok (.aload_n 2, 1) := by decide +kernel
theorem dX0_choose_60 : decode cX0_choose 60 = .ok (.iconst 3, 1) := by decide +kernel
theorem dX0_choose_61 : decode cX0_choose 61 = .ok (.iaload, 1) := by decide +kernel
theorem dX0_choose_62 : decode cX0_choose 62 = .ok (.invokevirtual 74, 3) := by decide +kernel
theorem dX0_choose_65 : decode cX0_choose 65 = .ok (.goto 13, 3) := by decide +kernel
theorem dX0_choose_68 : decode cX0_choose 68 = .ok (.aload_n 0, 1) := by decide +kernel
theorem dX0_choose_69 : decode cX0_choose 69 = .ok (.aload_n 2, 1) := by decide +kernel
theorem dX0_choose_70 : decode cX0_choose 70 = .ok (.iconst 2, 1) := by decide +kernel
theorem dX0_choose_71 : decode cX0_choose 71 = .ok (.iaload, 1) := by decide +kernel
theorem dX0_choose_72 : decode cX0_choose 72 = .ok (.aload_n 2, 1) := by decide +kernel
theorem dX0_choose_73 : decode cX0_choose 73 = .ok (.iconst 3, 1) := by decide +kernel
theorem dX0_choose_74 : decode cX0_choose 74 = .ok (.iaload, 1) := by decide +kernel
theorem dX0_choose_75 : decode cX0_choose 75 = .ok (.invokevirtual 78, 3) := by decide +kernel
theorem dX0_choose_78 : decode cX0_choose 78 = .ok (.return_, 1) := by decide +kernel
theorem dX0_chooseRun_0 : decode cX0_chooseRun 0 = .ok (.iconst 0, 1) := by decide +kernel
theorem dX0_chooseRun_1 : decode cX0_chooseRun 1 = .ok (.istore_n 3, 1) := by decide +kernel
theorem dX0_chooseRun_2 : decode cX0_chooseRun 2 = .ok (.iload_n 3, 1) := by decide +kernel
theorem dX0_chooseRun_3 : decode cX0_chooseRun 3 = .ok (.iload_n 1, 1) := by decide +kernel
theorem dX0_chooseRun_4 : decode cX0_chooseRun 4 = .ok (.iadd, 1) := by decide +kernel
theorem dX0_chooseRun_5 : decode cX0_chooseRun 5 = .ok (.iconst 1, 1) := by decide +kernel
theorem dX0_chooseRun_6 : decode cX0_chooseRun 6 = .ok (.isub, 1) := by decide +kernel
theorem dX0_chooseRun_7 : decode cX0_chooseRun 7 = .ok (.iload_n 2, 1) := by decide +kernel
theorem dX0_chooseRun_8 : decode cX0_chooseRun 8 = .ok (.if_icmp .gt 57, 3) := by decide +kernel
theorem dX0_chooseRun_11 : decode cX0_chooseRun 11 = .ok (.aload_n 0, 1) := by decide +kernel
theorem dX0_chooseRun_12 : decode cX0_chooseRun 12 = .ok (.iload_n 3, 1) := by decide +kernel
theorem dX0_chooseRun_13 : decode cX0_chooseRun 13 = .ok (.iload_n 1, 1) := by decide +kernel
theorem dX0_chooseRun_14 : decode cX0_chooseRun 14 = .ok (.invokevirtual 81, 3) := by decide +kernel
theorem dX0_chooseRun_17 : decode cX0_chooseRun 17 = .ok (.istore 4, 2) := by decide +kernel
theorem dX0_chooseRun_19 : decode cX0_chooseRun 19 = .ok (.iload 4, 2) := by decide +kernel
theorem dX0_chooseRun_21 : decode cX0_chooseRun 21 = .ok (.bipush (-9), 2) := by decide +kernel
theorem dX0_chooseRun_23 : decode cX0_chooseRun 23 = .ok (.if_icmp .eq 36, 3) := by decide +kernel
theorem dX0_chooseRun_26 : decode cX0_chooseRun 26 = .ok (.aload_n 0, 1) := by decide +kernel
theorem dX0_chooseRun_27 : decode cX0_chooseRun 27 = .ok (.getfield 71, 3) := by decide +kernel
theorem dX0_chooseRun_30 : decode cX0_chooseRun 30 = .ok (.bipush (-9), 2) := by decide +kernel
theorem dX0_chooseRun_32 : decode cX0_chooseRun 32 = .ok (.if_icmp .eq 12, 3) := by decide +kernel
theorem dX0_chooseRun_35 : decode cX0_chooseRun 35 = .ok (.iload 4, 2) := by decide +kernel
theorem dX0_chooseRun_37 : decode cX0_chooseRun 37 = .ok (.aload_n 0, 1) := by decide +kernel
theorem dX0_chooseRun_38 : decode cX0_chooseRun 38 = .ok (.getfield 71, 3) := by decide +kernel
theorem dX0_chooseRun_41 : decode cX0_chooseRun 41 = .ok (.if_icmp .ge 18, 3) := by decide +kernel
theorem dX0_chooseRun_44 : decode cX0_chooseRun 44 = .ok (.aload_n 0, 1) := by decide +kernel
theorem dX0_chooseRun_45 : decode cX0_chooseRun 45 = .ok (.iload 4, 2) := by decide +kernel
theorem dX0_chooseRun_47 : decode cX0_chooseRun 47 = .ok (.putfield 71, 3) := by decide +kernel
theorem dX0_chooseRun_50 : decode cX0_chooseRun 50 = .ok (.aload_n 0, 1) := by decide +kernel
theorem dX0_chooseRun_51 : decode cX0_chooseRun 51 = .ok (.iload_n 3, 1) := by decide +kernel
theorem dX0_chooseRun_52 : decode cX0_chooseRun 52 = .ok (.iload_n 1, 1) := by decide +kernel
theorem dX0_chooseRun_53 : decode cX0_chooseRun 53 = .ok (.invokestatic 84, 3) := by decide +kernel
theorem dX0_chooseRun_56 : decode cX0_chooseRun 56 = .ok (.putfield 68, 3) := by decide +kernel
theorem dX0_chooseRun_59 : decode cX0_chooseRun 59 = .ok (.iinc 3 1, 3) := by decide +kernel
theorem dX0_chooseRun_62 : decode cX0_chooseRun 62 = .ok (.goto (-60), 3) := by decide +kernel
theorem dX0_chooseRun_65 : decode cX0_chooseRun 65 = .ok (.return_, 1) := by decide +kernel
theorem dX0_runCost_0 : decode cX0_runCost 0 = .ok (.iconst 0, 1) := by decide +kernel
theorem dX0_runCost_1 : decode cX0_runCost 1 = .ok (.istore_n 3, 1) := by decide +kernel
theorem dX0_runCost_2 : decode cX0_runCost 2 = .ok (.iload_n 1, 1) := by decide +kernel
theorem dX0_runCost_3 : decode cX0_runCost 3 = .ok (.istore 4, 2) := by decide +kernel
theorem dX0_runCost_5 : decode cX0_runCost 5 = .ok (.iload 4, 2) := by decide +kernel
theorem dX0_runCost_7 : decode cX0_runCost 7 = .ok (.iload_n 1, 1) := by decide +kernel
theorem dX0_runCost_8 : decode cX0_runCost 8 = .ok (.iload_n 2, 1) := by decide +kernel
theorem dX0_runCost_9 : decode cX0_runCost 9 = .ok (.iadd, 1) := by decide +kernel
theorem dX0_runCost_10 : decode cX0_runCost 10 = .ok (.if_icmp .ge 41, 3) := by decide +kernel
theorem dX0_runCost_13 : decode cX0_runCost 13 = .ok (.iload 4, 2) := by decide +kernel
theorem dX0_runCost_15 : decode cX0_runCost 15 = .ok (.bipush 28, 2) := by decide +kernel
theorem dX0_runCost_17 : decode cX0_runCost 17 = .ok (.if_icmp .ge 34, 3) := by decide +kernel
theorem dX0_runCost_20 : decode cX0_runCost 20 = .ok (.aload_n 0, 1) := by decide +kernel
theorem dX0_runCost_21 : decode cX0_runCost 21 = .ok (.getfield 9, 3) := by decide +kernel
theorem dX0_runCost_24 : decode cX0_runCost 24 = .ok (.iload 4, 2) := by decide +kernel
theorem dX0_runCost_26 : decode cX0_runCost 26 = .ok (.iaload, 1) := by decide +kernel
theorem dX0_runCost_27 : decode cX0_runCost 27 = .ok (.bipush (-9), 2) := by decide +kernel
theorem dX0_runCost_29 : decode cX0_runCost 29 = .ok (.if_icmp .ne 6, 3) := by decide +kernel
theorem dX0_runCost_32 : decode cX0_runCost 32 = .ok (.bipush (-9), 2) := by decide +kernel
theorem dX0_runCost_34 : decode cX0_runCost 34 = .ok (.ireturn, 1) := by decide +kernel
theorem dX0_runCost_35 : decode cX0_runCost 35 = .ok (.iload_n 3, 1) := by decide +kernel
theorem dX0_runCost_36 : decode cX0_runCost 36 = .ok (.aload_n 0, 1) := by decide +kernel
theorem dX0_runCost_37 : decode cX0_runCost 37 = .ok (.getfield 9, 3) := by decide +kernel
theorem dX0_runCost_40 : decode cX0_runCost 40 = .ok (.iload 4, 2) := by decide +kernel
theorem dX0_runCost_42 : decode cX0_runCost 42 = .ok (.iaload, 1) := by decide +kernel
theorem dX0_runCost_43 : decode cX0_runCost 43 = .ok (.iadd, 1) := by decide +kernel
theorem dX0_runCost_44 : decode cX0_runCost 44 = .ok (.istore_n 3, 1) := by decide +kernel
theorem dX0_runCost_45 : decode cX0_runCost 45 = .ok (.iinc 4 1, 3) := by decide +kernel
theorem dX0_runCost_48 : decode cX0_runCost 48 = .ok (.goto (-43), 3) := by decide +kernel
theorem dX0_runCost_51 : decode cX0_runCost 51 = .ok (.iload_n 3, 1) := by decide +kernel
theorem dX0_runCost_52 : decode cX0_runCost 52 = .ok (.ireturn, 1) := by decide +kernel
theorem dX0_chooseDays_0 : decode cX0_chooseDays 0 = .ok (.iconst 0, 1) := by decide +kernel
theorem dX0_chooseDays_1 : decode cX0_chooseDays 1 = .ok (.istore_n 3, 1) := by decide +kernel
theorem dX0_chooseDays_2 : decode cX0_chooseDays 2 = .ok (.iload_n 3, 1) := by decide +kernel
theorem dX0_chooseDays_3 : decode cX0_chooseDays 3 = .ok (.bipush 7, 2) := by decide +kernel
theorem dX0_chooseDays_5 : decode cX0_chooseDays 5 = .ok (.if_icmp .ge 21, 3) := by decide +kernel
theorem dX0_chooseDays_8 : decode cX0_chooseDays 8 = .ok (.aload_n 0, 1) := by decide +kernel
theorem dX0_chooseDays_9 : decode cX0_chooseDays 9 = .ok (.getfield 15, 3) := by decide +kernel
theorem dX0_chooseDays_12 : decode cX0_chooseDays 12 = .ok (.iload_n 3, 1) := by decide +kernel
theorem dX0_chooseDays_13 : decode cX0_chooseDays 13 = .ok (.aload_n 0, 1) := by decide +kernel
theorem dX0_chooseDays_14 : decode cX0_chooseDays 14 = .ok (.iload_n 3, 1) := by decide +kernel
theorem dX0_chooseDays_15 : decode cX0_chooseDays 15 = .ok (.iload_n 2, 1) := by decide +kernel
theorem dX0_chooseDays_16 : decode cX0_chooseDays 16 = .ok (.invokevirtual 87, 3) := by decide +kernel
theorem dX0_chooseDays_19 : decode cX0_chooseDays 19 = .ok (.iastore, 1) := by decide +kernel
theorem dX0_chooseDays_20 : decode cX0_chooseDays 20 = .ok (.iinc 3 1, 3) := by decide +kernel
theorem dX0_chooseDays_23 : decode cX0_chooseDays 23 = .ok (.goto (-21), 3) := by decide +kernel
theorem dX0_chooseDays_26 : decode cX0_chooseDays 26 = .ok (.iconst 0, 1) := by decide +kernel
theorem dX0_chooseDays_27 : decode cX0_chooseDays 27 = .ok (.istore_n 3, 1) := by decide +kernel
theorem dX0_chooseDays_28 : decode cX0_chooseDays 28 = .ok (.iconst 0, 1) := by decide +kernel
theorem dX0_chooseDays_29 : decode cX0_chooseDays 29 = .ok (.istore 4, 2) := by decide +kernel
theorem dX0_chooseDays_31 : decode cX0_chooseDays 31 = .ok (.iconst 0, 1) := by decide +kernel
theorem dX0_chooseDays_32 : decode cX0_chooseDays 32 = .ok (.istore 5, 2) := by decide +kernel
theorem dX0_chooseDays_34 : decode cX0_chooseDays 34 = .ok (.iload 5, 2) := by decide +kernel
theorem dX0_chooseDays_36 : decode cX0_chooseDays 36 = .ok (.iload_n 1, 1) := by decide +kernel
theorem dX0_chooseDays_37 : decode cX0_chooseDays 37 = .ok (.if_icmp .ge 61, 3) := by decide +kernel
theorem dX0_chooseDays_40 : decode cX0_chooseDays 40 = .ok (.aload_n 0, 1) := by decide +kernel
theorem dX0_chooseDays_41 : decode cX0_chooseDays 41 = .ok (.invokevirtual 90, 3) := by decide +kernel
theorem dX0_chooseDays_44 : decode cX0_chooseDays 44 = .ok (.istore 6, 2) := by decide +kernel
theorem dX0_chooseDays_46 : decode cX0_chooseDays 46 = .ok (.iload 6, 2) := by decide +kernel
theorem dX0_chooseDays_48 : decode cX0_chooseDays 48 = .ok (.bipush (-9), 2) := by decide +kernel
theorem dX0_chooseDays_50 : decode cX0_chooseDays 50 = .ok (.if_icmp .ne 4, 3) := by decide +kernel
theorem dX0_chooseDays_53 : decode cX0_chooseDays 53 = .ok (.return_, 1) := by decide +kernel
theorem dX0_chooseDays_54 : decode cX0_chooseDays 54 = .ok (.iload_n 3, 1) := by decide +kernel
theorem dX0_chooseDays_55 : decode cX0_chooseDays 55 = .ok (.aload_n 0, 1) := by decide +kernel
theorem dX0_chooseDays_56 : decode cX0_chooseDays 56 = .ok (.getfield 9, 3) := by decide +kernel
theorem dX0_chooseDays_59 : decode cX0_chooseDays 59 = .ok (.aload_n 0, 1) := by decide +kernel
theorem dX0_chooseDays_60 : decode cX0_chooseDays 60 = .ok (.getfield 15, 3) := by decide +kernel
theorem dX0_chooseDays_63 : decode cX0_chooseDays 63 = .ok (.iload 6, 2) := by decide +kernel
theorem dX0_chooseDays_65 : decode cX0_chooseDays 65 = .ok (.iaload, 1) := by decide +kernel
theorem dX0_chooseDays_66 : decode cX0_chooseDays 66 = .ok (.iaload, 1) := by decide +kernel
theorem dX0_chooseDays_67 : decode cX0_chooseDays 67 = .ok (.iadd, 1) := by decide +kernel
theorem dX0_chooseDays_68 : decode cX0_chooseDays 68 = .ok (.istore_n 3, 1) := by decide +kernel
theorem dX0_chooseDays_69 : decode cX0_chooseDays 69 = .ok (.iload 4, 2) := by decide +kernel
theorem dX0_chooseDays_71 : decode cX0_chooseDays 71 = .ok (.iconst 1, 1) := by decide +kernel
theorem dX0_chooseDays_72 : decode cX0_chooseDays 72 = .ok (.aload_n 0, 1) := by decide +kernel
theorem dX0_chooseDays_73 : decode cX0_chooseDays 73 = .ok (.getfield 15, 3) := by decide +kernel
theorem dX0_chooseDays_76 : decode cX0_chooseDays 76 = .ok (.iload 6, 2) := by decide +kernel
theorem dX0_chooseDays_78 : decode cX0_chooseDays 78 = .ok (.iaload, 1) := by decide +kernel
theorem dX0_chooseDays_79 : decode cX0_chooseDays 79 = .ok (.ishl, 1) := by decide +kernel
theorem dX0_chooseDays_80 : decode cX0_chooseDays 80 = .ok (.ior, 1) := by decide +kernel
theorem dX0_chooseDays_81 : decode cX0_chooseDays 81 = .ok (.istore 4, 2) := by decide +kernel
theorem dX0_chooseDays_83 : decode cX0_chooseDays 83 = .ok (.aload_n 0, 1) := by decide +kernel
theorem dX0_chooseDays_84 : decode cX0_chooseDays 84 = .ok (.getfield 15, 3) := by decide +kernel
theorem dX0_chooseDays_87 : decode cX0_chooseDays 87 = .ok (.iload 6, 2) := by decide +kernel
theorem dX0_chooseDays_89 : decode cX0_chooseDays 89 = .ok (.bipush (-9), 2) := by decide +kernel
theorem dX0_chooseDays_91 : decode cX0_chooseDays 91 = .ok (.iastore, 1) := by decide +kernel
theorem dX0_chooseDays_92 : decode cX0_chooseDays 92 = .ok (.iinc 5 1, 3) := by decide +kernel
theorem dX0_chooseDays_95 : decode cX0_chooseDays 95 = .ok (.goto (-61), 3) := by decide +kernel
theorem dX0_chooseDays_98 : decode cX0_chooseDays 98 = .ok (.aload_n 0, 1) := by decide +kernel
theorem dX0_chooseDays_99 : decode cX0_chooseDays 99 = .ok (.iload_n 3, 1) := by decide +kernel
theorem dX0_chooseDays_100 : decode cX0_chooseDays 100 = .ok (.putfield 71, 3) := by decide +kernel
theorem dX0_chooseDays_103 : decode cX0_chooseDays 103 = .ok (.aload_n 0, 1) := by decide +kernel
theorem dX0_chooseDays_104 : decode cX0_chooseDays 104 = .ok (.iload 4, 2) := by decide +kernel
theorem dX0_chooseDays_106 : decode cX0_chooseDays 106 = .ok (.putfield 68, 3) := by decide +kernel
theorem dX0_chooseDays_109 : decode cX0_chooseDays 109 = .ok (.return_, 1) := by decide +kernel
theorem dX0_cheapestOf_0 : decode cX0_cheapestOf 0 = .ok (.bipush (-9), 2) := by decide +kernel
theorem dX0_cheapestOf_2 : decode cX0_cheapestOf 2 = .ok (.istore_n 3, 1) := by decide +kernel
theorem dX0_cheapestOf_3 : decode cX0_cheapestOf 3 = .ok (.iload_n 1, 1) := by decide +kernel
theorem dX0_cheapestOf_4 : decode cX0_cheapestOf 4 = .ok (.iconst 4, 1) := by decide +kernel
theorem dX0_cheapestOf_5 : decode cX0_cheapestOf 5 = .ok (.imul, 1) := by decide +kernel
theorem dX0_cheapestOf_6 : decode cX0_cheapestOf 6 = .ok (.istore 4, 2) := by decide +kernel
theorem dX0_cheapestOf_8 : decode cX0_cheapestOf 8 = .ok (.iload 4, 2) := by decide +kernel
theorem dX0_cheapestOf_10 : decode cX0_cheapestOf 10 = .ok (.istore 5, 2) := by decide +kernel
theorem dX0_cheapestOf_12 : decode cX0_cheapestOf 12 = .ok (.iload 5, 2) := by decide +kernel
theorem dX0_cheapestOf_14 : decode cX0_cheapestOf 14 = .ok (.iload 4, 2) := by decide +kernel
theorem dX0_cheapestOf_16 : decode cX0_cheapestOf 16 = .ok (.iconst 4, 1) := by decide +kernel
theorem dX0_cheapestOf_17 : decode cX0_cheapestOf 17 = .ok (.iadd, 1) := by decide +kernel
theorem dX0_cheapestOf_18 : decode cX0_cheapestOf 18 = .ok (.if_icmp .ge 52, 3) := by decide +kernel
theorem dX0_cheapestOf_21 : decode cX0_cheapestOf 21 = .ok (.iload 5, 2) := by decide +kernel
theorem dX0_cheapestOf_23 : decode cX0_cheapestOf 23 = .ok (.iload_n 2, 1) := by decide +kernel
theorem dX0_cheapestOf_24 : decode cX0_cheapestOf 24 = .ok (.if_icmp .gt 46, 3) := by decide +kernel
theorem dX0_cheapestOf_27 : decode cX0_cheapestOf 27 = .ok (.aload_n 0, 1) := by decide +kernel
theorem dX0_cheapestOf_28 : decode cX0_cheapestOf 28 = .ok (.getfield 9, 3) := by decide +kernel
theorem dX0_cheapestOf_31 : decode cX0_cheapestOf 31 = .ok (.iload 5, 2) := by decide +kernel
theorem dX0_cheapestOf_33 : decode cX0_cheapestOf 33 = .ok (.iaload, 1) := by decide +kernel
theorem dX0_cheapestOf_34 : decode cX0_cheapestOf 34 = .ok (.bipush (-9), 2) := by decide +kernel
theorem dX0_cheapestOf_36 : decode cX0_cheapestOf 36 = .ok (.if_icmp .eq 28, 3) := by decide +kernel
theorem dX0_cheapestOf_39 : decode cX0_cheapestOf 39 = .ok (.iload_n 3, 1) := by decide +kernel
theorem dX0_cheapestOf_40 : decode cX0_cheapestOf 40 = .ok (.bipush (-9), 2) := by decide +kernel
theorem dX0_cheapestOf_42 : decode cX0_cheapestOf 42 = .ok (.if_icmp .eq 19, 3) := by decide +kernel
theorem dX0_cheapestOf_45 : decode cX0_cheapestOf 45 = .ok (.aload_n 0, 1) := by decide +kernel
theorem dX0_cheapestOf_46 : decode cX0_cheapestOf 46 = .ok (.getfield 9, 3) := by decide +kernel
theorem dX0_cheapestOf_49 : decode cX0_cheapestOf 49 = .ok (.iload 5, 2) := by decide +kernel
theorem dX0_cheapestOf_51 : decode cX0_cheapestOf 51 = .ok (.iaload, 1) := by decide +kernel
theorem dX0_cheapestOf_52 : decode cX0_cheapestOf 52 = .ok (.aload_n 0, 1) := by decide +kernel
theorem dX0_cheapestOf_53 : decode cX0_cheapestOf 53 = .ok (.getfield 9, 3) := by decide +kernel
theorem dX0_cheapestOf_56 : decode cX0_cheapestOf 56 = .ok (.iload_n 3, 1) := by decide +kernel
theorem dX0_cheapestOf_57 : decode cX0_cheapestOf 57 = .ok (.iaload, 1) := by decide +kernel
theorem dX0_cheapestOf_58 : decode cX0_cheapestOf 58 = .ok (.if_icmp .ge 6, 3) := by decide +kernel
theorem dX0_cheapestOf_61 : decode cX0_cheapestOf 61 = .ok (.iload 5, 2) := by decide +kernel
theorem dX0_cheapestOf_63 : decode cX0_cheapestOf 63 = .ok (.istore_n 3, 1) := by decide +kernel
theorem dX0_cheapestOf_64 : decode cX0_cheapestOf 64 = .ok (.iinc 5 1, 3) := by decide +kernel
theorem dX0_cheapestOf_67 : decode cX0_cheapestOf 67 = .ok (.goto (-55), 3) := by decide +kernel
theorem dX0_cheapestOf_70 : decode cX0_cheapestOf 70 = .ok (.iload_n 3, 1) := by decide +kernel
theorem dX0_cheapestOf_71 : decode cX0_cheapestOf 71 = .ok (.ireturn, 1) := by decide +kernel
theorem dX0_cheapestDay_0 : decode cX0_cheapestDay 0 = .ok (.bipush (-9), 2) := by decide +kernel
theorem dX0_cheapestDay_2 : decode cX0_cheapestDay 2 = .ok (.istore_n 1, 1) := by decide +kernel
theorem dX0_cheapestDay_3 : decode cX0_cheapestDay 3 = .ok (.iconst 0, 1) := by decide +kernel
theorem dX0_cheapestDay_4 : decode cX0_cheapestDay 4 = .ok (.istore_n 2, 1) := by decide +kernel
theorem dX0_cheapestDay_5 : decode cX0_cheapestDay 5 = .ok (.iload_n 2, 1) := by decide +kernel
theorem dX0_cheapestDay_6 : decode cX0_cheapestDay 6 = .ok (.bipush 7, 2) := by decide +kernel
theorem dX0_cheapestDay_8 : decode cX0_cheapestDay 8 = .ok (.if_icmp .ge 50, 3) := by decide +kernel
theorem dX0_cheapestDay_11 : decode cX0_cheapestDay 11 = .ok (.aload_n 0, 1) := by decide +kernel
theorem dX0_cheapestDay_12 : decode cX0_cheapestDay 12 = .ok (.getfield 15, 3) := by decide +kernel
theorem dX0_cheapestDay_15 : decode cX0_cheapestDay 15 = .ok (.iload_n 2, 1) := by decide +kernel
theorem dX0_cheapestDay_16 : decode cX0_cheapestDay 16 = .ok (.iaload, 1) := by decide +kernel
theorem dX0_cheapestDay_17 : decode cX0_cheapestDay 17 = .ok (.istore_n 3, 1) := by decide +kernel
theorem dX0_cheapestDay_18 : decode cX0_cheapestDay 18 = .ok (.iload_n 3, 1) := by decide +kernel
theorem dX0_cheapestDay_19 : decode cX0_cheapestDay 19 = .ok (.bipush (-9), 2) := by decide +kernel
theorem dX0_cheapestDay_21 : decode cX0_cheapestDay 21 = .ok (.if_icmp .eq 31, 3) := by decide +kernel
theorem dX0_cheapestDay_24 : decode cX0_cheapestDay 24 = .ok (.iload_n 1, 1) := by decide +kernel
theorem dX0_cheapestDay_25 : decode cX0_cheapestDay 25 = .ok (.bipush (-9), 2) := by decide +kernel
theorem dX0_cheapestDay_27 : decode cX0_cheapestDay 27 = .ok (.if_icmp .eq 23, 3) := by decide +kernel
theorem dX0_cheapestDay_30 : decode cX0_cheapestDay 30 = .ok (.aload_n 0, 1) := by decide +kernel
theorem dX0_cheapestDay_31 : decode cX0_cheapestDay 31 = .ok (.getfield 9, 3) := by decide +kernel
theorem dX0_cheapestDay_34 : decode cX0_cheapestDay 34 = .ok (.iload_n 3, 1) := by decide +kernel
theorem dX0_cheapestDay_35 : decode cX0_cheapestDay 35 = .ok (.iaload, 1) := by decide +kernel
theorem dX0_cheapestDay_36 : decode cX0_cheapestDay 36 = .ok (.aload_n 0, 1) := by decide +kernel
theorem dX0_cheapestDay_37 : decode cX0_cheapestDay 37 = .ok (.getfield 9, 3) := by decide +kernel
theorem dX0_cheapestDay_40 : decode cX0_cheapestDay 40 = .ok (.aload_n 0, 1) := by decide +kernel
theorem dX0_cheapestDay_41 : decode cX0_cheapestDay 41 = .ok (.getfield 15, 3) := by decide +kernel
theorem dX0_cheapestDay_44 : decode cX0_cheapestDay 44 = .ok (.iload_n 1, 1) := by decide +kernel
theorem dX0_cheapestDay_45 : decode cX0_cheapestDay 45 = .ok (.iaload, 1) := by decide +kernel
theorem dX0_cheapestDay_46 : decode cX0_cheapestDay 46 = .ok (.iaload, 1) := by decide +kernel
theorem dX0_cheapestDay_47 : decode cX0_cheapestDay 47 = .ok (.if_icmp .ge 5, 3) := by decide +kernel
theorem dX0_cheapestDay_50 : decode cX0_cheapestDay 50 = .ok (.iload_n 2, 1) := by decide +kernel
theorem dX0_cheapestDay_51 : decode cX0_cheapestDay 51 = .ok (.istore_n 1, 1) := by decide +kernel
theorem dX0_cheapestDay_52 : decode cX0_cheapestDay 52 = .ok (.iinc 2 1, 3) := by decide +kernel
theorem dX0_cheapestDay_55 : decode cX0_cheapestDay 55 = .ok (.goto (-50), 3) := by decide +kernel
theorem dX0_cheapestDay_58 : decode cX0_cheapestDay 58 = .ok (.iload_n 1, 1) := by decide +kernel
theorem dX0_cheapestDay_59 : decode cX0_cheapestDay 59 = .ok (.ireturn, 1) := by decide +kernel
theorem dX0_runBits_0 : decode cX0_runBits 0 = .ok (.iconst 1, 1) := by decide +kernel
theorem dX0_runBits_1 : decode cX0_runBits 1 = .ok (.iload_n 1, 1) := by decide +kernel
theorem dX0_runBits_2 : decode cX0_runBits 2 = .ok (.ishl, 1) := by decide +kernel
theorem dX0_runBits_3 : decode cX0_runBits 3 = .ok (.iconst 1, 1) := by decide +kernel
theorem dX0_runBits_4 : decode cX0_runBits 4 = .ok (.isub, 1) := by decide +kernel
theorem dX0_runBits_5 : decode cX0_runBits 5 = .ok (.iload_n 0, 1) := by decide +kernel
theorem dX0_runBits_6 : decode cX0_runBits 6 = .ok (.ishl, 1) := by decide +kernel
theorem dX0_runBits_7 : decode cX0_runBits 7 = .ok (.ireturn, 1) := by decide +kernel
theorem dX1_init_0 : decode cX1_init 0 = .ok (.aload_n 0, 1) := by decide +kernel
theorem dX1_init_1 : decode cX1_init 1 = .ok (.invokespecial 3, 3) := by decide +kernel
theorem dX1_init_4 : decode cX1_init 4 = .ok (.aload_n 0, 1) := by decide +kernel
theorem dX1_init_5 : decode cX1_init 5 = .ok (.bipush 8, 2) := by decide +kernel
theorem dX1_init_7 : decode cX1_init 7 = .ok (.newarray .int, 2) := by decide +kernel
theorem dX1_init_9 : decode cX1_init 9 = .ok (.putfield 9, 3) := by decide +kernel
theorem dX1_init_12 : decode cX1_init 12 = .ok (.aload_n 0, 1) := by decide +kernel
theorem dX1_init_13 : decode cX1_init 13 = .ok (.aload_n 1, 1) := by decide +kernel
theorem dX1_init_14 : decode cX1_init 14 = .ok (.putfield 15, 3) := by decide +kernel
theorem dX1_init_17 : decode cX1_init 17 = .ok (.aload_n 0, 1) := by decide +kernel
theorem dX1_init_18 : decode cX1_init 18 = .ok (.aload_n 2, 1) := by decide +kernel
theorem dX1_init_19 : decode cX1_init 19 = .ok (.putfield 19, 3) := by decide +kernel
theorem dX1_init_22 : decode cX1_init 22 = .ok (.return_, 1) := by decide +kernel
theorem dX1_earned_0 : decode cX1_earned 0 = .ok (.iconst 0, 1) := by decide +kernel
theorem dX1_earned_1 : decode cX1_earned 1 = .ok (.istore_n 2, 1) := by decide +kernel
theorem dX1_earned_2 : decode cX1_earned 2 = .ok (.iconst 0, 1) := by decide +kernel
theorem dX1_earned_3 : decode cX1_earned 3 = .ok (.istore_n 3, 1) := by decide +kernel
theorem dX1_earned_4 : decode cX1_earned 4 = .ok (.iload_n 3, 1) := by decide +kernel
theorem dX1_earned_5 : decode cX1_earned 5 = .ok (.aload_n 0, 1) := by decide +kernel
theorem dX1_earned_6 : decode cX1_earned 6 = .ok (.getfield 15, 3) := by decide +kernel
theorem dX1_earned_9 : decode cX1_earned 9 = .ok (.getfield 23, 3) := by decide +kernel
theorem dX1_earned_12 : decode cX1_earned 12 = .ok (.if_icmp .ge 87, 3) := by decide +kernel
theorem dX1_earned_15 : decode cX1_earned 15 = .ok (.aload_n 0, 1) := by decide +kernel
theorem dX1_earned_16 : decode cX1_earned 16 = .ok (.getfield 15, 3) := by decide +kernel
theorem dX1_earned_19 : decode cX1_earned 19 = .ok (.getfield 29, 3) := by decide +kernel
theorem dX1_earned_22 : decode cX1_earned 22 = .ok (.iload_n 3, 1) := by decide +kernel
theorem dX1_earned_23 : decode cX1_earned 23 = .ok (.aaload, 1) := by decide +kernel
theorem dX1_earned_24 : decode cX1_earned 24 = .ok (.iconst 0, 1) := by decide +kernel
theorem dX1_earned_25 : decode cX1_earned 25 = .ok (.iaload, 1) := by decide +kernel
theorem dX1_earned_26 : decode cX1_earned 26 = .ok (.iload_n 1, 1) := by decide +kernel
theorem dX1_earned_27 : decode cX1_earned 27 = .ok (.if_icmp .ne 6, 3) := by decide +kernel
theorem dX1_earned_30 : decode cX1_earned 30 = .ok (.goto 63, 3) := by decide +kernel
theorem dX1_earned_33 : decode cX1_earned 33 = .ok (.aload_n 0, 1) := by decide +kernel
theorem dX1_earned_34 : decode cX1_earned 34 = .ok (.getfield 19, 3) := by decide +kernel
theorem dX1_earned_37 : decode cX1_earned 37 = .ok (.iload_n 3, 1) := by decide +kernel
theorem dX1_earned_38 : decode cX1_earned 38 = .ok (.invokevirtual 33, 3) := by decide +kernel
theorem dX1_earned_41 : decode cX1_earned 41 = .ok (.aload_n 0, 1) := by decide +kernel
theorem dX1_earned_42 : decode cX1_earned 42 = .ok (.getfield 15, 3) := by decide +kernel
theorem dX1_earned_45 : decode cX1_earned 45 = .ok (.getfield 29, 3) := by decide +kernel
theorem dX1_earned_48 : decode cX1_earned 48 = .ok (.iload_n 3, 1) := by decide +kernel
theorem dX1_earned_49 : decode cX1_earned 49 = .ok (.aaload, 1) := by decide +kernel
theorem dX1_earned_50 : decode cX1_earned 50 = .ok (.iconst 4, 1) := by decide +kernel
theorem dX1_earned_51 : decode cX1_earned 51 = .ok (.iaload, 1) := by decide +kernel
theorem dX1_earned_52 : decode cX1_earned 52 = .ok (.aload_n 0, 1) := by decide +kernel
theorem dX1_earned_53 : decode cX1_earned 53 = .ok (.getfield 19, 3) := by decide +kernel
theorem dX1_earned_56 : decode cX1_earned 56 = .ok (.getfield 39, 3) := by decide +kernel
theorem dX1_earned_59 : decode cX1_earned 59 = .ok (.invokestatic 42, 3) := by decide +kernel
theorem dX1_earned_62 : decode cX1_earned 62 = .ok (.bipush (-9), 2) := by decide +kernel
theorem dX1_earned_64 : decode cX1_earned 64 = .ok (.if_icmp .eq 29, 3) := by decide +kernel
theorem dX1_earned_67 : decode cX1_earned 67 = .ok (.iload_n 2, 1) := by decide +kernel
theorem dX1_earned_68 : decode cX1_earned 68 = .ok (.aload_n 0, 1) := by decide +kernel
theorem dX1_earned_69 : decode cX1_earned 69 = .ok (.iload_n 1, 1) := by decide +kernel
theorem dX1_earned_70 : decode cX1_earned 70 = .ok (.iload_n 3, 1) := by decide +kernel
theorem dX1_earned_71 : decode cX1_earned 71 = .ok (.aload_n 0, 1) := by decide +kernel
theorem dX1_earned_72 : decode cX1_earned 72 = .ok (.getfield 19, 3) := by decide +kernel
theorem dX1_earned_75 : decode cX1_earned 75 = .ok (.getfield 46, 3) := by decide +kernel
theorem dX1_earned_78 : decode cX1_earned 78 = .ok (.aload_n 0, 1) := by decide +kernel
theorem dX1_earned_79 : decode cX1_earned 79 = .ok (.getfield 15, 3) := by decide +kernel
theorem dX1_earned_82 : decode cX1_earned 82 = .ok (.getfield 49, 3) := by decide +kernel
theorem dX1_earned_85 : decode cX1_earned 85 = .ok (.iload_n 1, 1) := by decide +kernel
theorem dX1_earned_86 : decode cX1_earned 86 = .ok (.iaload, 1) := by decide +kernel
theorem dX1_earned_87 : decode cX1_earned 87 = .ok (.iand, 1) := by decide +kernel
theorem dX1_earned_88 : decode cX1_earned 88 = .ok (.invokevirtual 52, 3) := by decide +kernel
theorem dX1_earned_91 : decode cX1_earned 91 = .ok (.iadd, 1) := by decide +kernel
theorem dX1_earned_92 : decode cX1_earned 92 = .ok (.istore_n 2, 1) := by decide +kernel
theorem dX1_earned_93 : decode cX1_earned 93 = .ok (.iinc 3 1, 3) := by decide +kernel
theorem dX1_earned_96 : decode cX1_earned 96 = .ok (.goto (-92), 3) := by decide +kernel
theorem dX1_earned_99 : decode cX1_earned 99 = .ok (.iload_n 2, 1) := by decide +kernel
theorem dX1_earned_100 : decode cX1_earned 100 = .ok (.ireturn, 1) := by decide +kernel
theorem dX1_shareOf_0 : decode cX1_shareOf 0 = .ok (.iconst 0, 1) := by decide +kernel
theorem dX1_shareOf_1 : decode cX1_shareOf 1 = .ok (.istore 4, 2) := by decide +kernel
theorem dX1_shareOf_3 : decode cX1_shareOf 3 = .ok (.iconst 0, 1) := by decide +kernel
theorem dX1_shareOf_4 : decode cX1_shareOf 4 = .ok (.istore 5, 2) := by decide +kernel
theorem dX1_shareOf_6 : decode cX1_shareOf 6 = .ok (.iload 5, 2) := by decide +kernel
theorem dX1_shareOf_8 : decode cX1_shareOf 8 = .ok (.bipush 28, 2) := by decide +kernel
theorem dX1_shareOf_10 : decode cX1_shareOf 10 = .ok (.if_icmp .ge 34, 3) := by decide +kernel
theorem dX1_shareOf_13 : decode cX1_shareOf 13 = .ok (.iload_n 3, 1) := by decide +kernel
theorem dX1_shareOf_14 : decode cX1_shareOf 14 = .ok (.iload 5, 2) := by decide +kernel
theorem dX1_shareOf_16 : decode cX1_shareOf 16 = .ok (.invokestatic 56, 3) := by decide +kernel
theorem dX1_shareOf_19 : decode cX1_shareOf 19 = .ok (.ifCond .eq 19, 3) := by decide +kernel
theorem dX1_shareOf_22 : decode cX1_shareOf 22 = .ok (.iload 4, 2) := by decide +kernel
theorem dX1_shareOf_24 : decode cX1_shareOf 24 = .ok (.aload_n 0, 1) := by decide +kernel
theorem dX1_shareOf_25 : decode cX1_shareOf 25 = .ok (.getfield 19, 3) := by decide +kernel
theorem dX1_shareOf_28 : decode cX1_shareOf 28 = .ok (.iload_n 2, 1) := by decide +kernel
theorem dX1_shareOf_29 : decode cX1_shareOf 29 = .ok (.iload_n 1, 1) := by decide +kernel
theorem dX1_shareOf_30 : decode cX1_shareOf 30 = .ok (.iload 5, 2) := by decide +kernel
theorem dX1_shareOf_32 : decode cX1_shareOf 32 = .ok (.invokevirtual 60, 3) := by decide +kernel
theorem dX1_shareOf_35 : decode cX1_shareOf 35 = .ok (.iadd, 1) := by decide +kernel
theorem dX1_shareOf_36 : decode cX1_shareOf 36 = .ok (.istore 4, 2) := by decide +kernel
theorem dX1_shareOf_38 : decode cX1_shareOf 38 = .ok (.iinc 5 1, 3) := by decide +kernel
theorem dX1_shareOf_41 : decode cX1_shareOf 41 = .ok (.goto (-35), 3) := by decide +kernel
theorem dX1_shareOf_44 : decode cX1_shareOf 44 = .ok (.iload 4, 2) := by decide +kernel
theorem dX1_shareOf_46 : decode cX1_shareOf 46 = .ok (.ireturn, 1) := by decide +kernel
theorem dX1_bestPrice_0 : decode cX1_bestPrice 0 = .ok (.aload_n 0, 1) := by decide +kernel
theorem dX1_bestPrice_1 : decode cX1_bestPrice 1 = .ok (.getfield 15, 3) := by decide +kernel
theorem dX1_bestPrice_4 : decode cX1_bestPrice 4 = .ok (.getfield 49, 3) := by decide +kernel
theorem dX1_bestPrice_7 : decode cX1_bestPrice 7 = .ok (.iload_n 1, 1) := by decide +kernel
theorem dX1_bestPrice_8 : decode cX1_bestPrice 8 = .ok (.iaload, 1) := by decide +kernel
theorem dX1_bestPrice_9 : decode cX1_bestPrice 9 = .ok (.ifCond .ne 5, 3) := by decide +kernel
theorem dX1_bestPrice_12 : decode cX1_bestPrice 12 = .ok (.iconst 0, 1) := by decide +kernel
theorem dX1_bestPrice_13 : decode cX1_bestPrice 13 = .ok (.ireturn, 1) := by decide +kernel
theorem dX1_bestPrice_14 : decode cX1_bestPrice 14 = .ok (.aload_n 0, 1) := by decide +kernel
theorem dX1_bestPrice_15 : decode cX1_bestPrice 15 = .ok (.getfield 15, 3) := by decide +kernel
theorem dX1_bestPrice_18 : decode cX1_bestPrice 18 = .ok (.getfield 63, 3) := by decide +kernel
theorem dX1_bestPrice_21 : decode cX1_bestPrice 21 = .ok (.iload_n 1, 1) := by decide +kernel
theorem dX1_bestPrice_22 : decode cX1_bestPrice 22 = .ok (.aaload, 1) := by decide +kernel
theorem dX1_bestPrice_23 : decode cX1_bestPrice 23 = .ok (.astore_n 2, 1) := by decide +kernel
theorem dX1_bestPrice_24 : decode cX1_bestPrice 24 = .ok (.aload_n 2, 1) := by decide +kernel
theorem dX1_bestPrice_25 : decode cX1_bestPrice 25 = .ok (.iconst 1, 1) := by decide +kernel
theorem dX1_bestPrice_26 : decode cX1_bestPrice 26 = .ok (.iaload, 1) := by decide +kernel
theorem dX1_bestPrice_27 : decode cX1_bestPrice 27 = .ok (.istore_n 3, 1) := by decide +kernel
theorem dX1_bestPrice_28 : decode cX1_bestPrice 28 = .ok (.iconst 0, 1) := by decide +kernel
theorem dX1_bestPrice_29 : decode cX1_bestPrice 29 = .ok (.istore 4, 2) := by decide +kernel
theorem dX1_bestPrice_31 : decode cX1_bestPrice 31 = .ok (.iconst (-1), 1) := by decide +kernel
theorem dX1_bestPrice_32 : decode cX1_bestPrice 32 = .ok (.istore 5, 2) := by decide +kernel
theorem dX1_bestPrice_34 : decode cX1_bestPrice 34 = .ok (.iconst 0, 1) := by decide +kernel
theorem dX1_bestPrice_35 : decode cX1_bestPrice 35 = .ok (.istore 6, 2) := by decide +kernel
theorem dX1_bestPrice_37 : decode cX1_bestPrice 37 = .ok (.iload 6, 2) := by decide +kernel
theorem dX1_bestPrice_39 : decode cX1_bestPrice 39 = .ok (.bipush 9, 2) := by decide +kernel
theorem dX1_bestPrice_41 : decode cX1_bestPrice 41 = .ok (.if_icmp .gt 36, 3) := by decide +kernel
theorem dX1_bestPrice_44 : decode cX1_bestPrice 44 = .ok (.aload_n 2, 1) := by decide +kernel
theorem dX1_bestPrice_45 : decode cX1_bestPrice 45 = .ok (.iconst 1, 1) := by decide +kernel
theorem dX1_bestPrice_46 : decode cX1_bestPrice 46 = .ok (.iload 6, 2) := by decide +kernel
theorem dX1_bestPrice_48 : decode cX1_bestPrice 48 = .ok (.iastore, 1) := by decide +kernel
theorem dX1_bestPrice_49 : decode cX1_bestPrice 49 = .ok (.aload_n 0, 1) := by decide +kernel
theorem dX1_bestPrice_50 : decode cX1_bestPrice 50 = .ok (.iload_n 1, 1) := by decide +kernel
theorem dX1_bestPrice_51 : decode cX1_bestPrice 51 = .ok (.invokevirtual 66, 3) := by decide +kernel
theorem dX1_bestPrice_54 : decode cX1_bestPrice 54 = .ok (.istore 7, 2) := by decide +kernel
theorem dX1_bestPrice_56 : decode cX1_bestPrice 56 = .ok (.iload 7, 2) := by decide +kernel
theorem dX1_bestPrice_58 : decode cX1_bestPrice 58 = .ok (.iload 5, 2) := by decide +kernel
theorem dX1_bestPrice_60 : decode cX1_bestPrice 60 = .ok (.if_icmp .le 11, 3) := by decide +kernel
theorem dX1_bestPrice_63 : decode cX1_bestPrice 63 = .ok (.iload 7, 2) := by decide +kernel
theorem dX1_bestPrice_65 : decode cX1_bestPrice 65 = .ok (.istore 5, 2) := by decide +kernel
theorem dX1_bestPrice_67 : decode cX1_bestPrice 67 = .ok (.iload 6, 2) := by decide +kernel
theorem dX1_bestPrice_69 : decode cX1_bestPrice 69 = .ok (.istore 4, 2) := by decide +kernel
theorem dX1_bestPrice_71 : decode cX1_bestPrice 71 = .ok (.iinc 6 1, 3) := by decide +kernel
theorem dX1_bestPrice_74 : decode cX1_bestPrice 74 = .ok (.goto (-37), 3) := by decide +kernel
theorem dX1_bestPrice_77 : decode cX1_bestPrice 77 = .ok (.aload_n 2, 1) := by decide +kernel
theorem dX1_bestPrice_78 : decode cX1_bestPrice 78 = .ok (.iconst 1, 1) := by decide +kernel
theorem dX1_bestPrice_79 : decode cX1_bestPrice 79 = .ok (.iload_n 3, 1) := by decide +kernel
theorem dX1_bestPrice_80 : decode cX1_bestPrice 80 = .ok (.iastore, 1) := by decide +kernel
theorem dX1_bestPrice_81 : decode cX1_bestPrice 81 = .ok (.iload 4, 2) := by decide +kernel
theorem dX1_bestPrice_83 : decode cX1_bestPrice 83 = .ok (.ireturn, 1) := by decide +kernel
theorem dX1_roundsToRest_0 : decode cX1_roundsToRest 0 = .ok (.iconst 0, 1) := by decide +kernel
theorem dX1_roundsToRest_1 : decode cX1_roundsToRest 1 = .ok (.istore_n 1, 1) := by decide +kernel
theorem dX1_roundsToRest_2 : decode cX1_roundsToRest 2 = .ok (.iload_n 1, 1) := by decide +kernel
theorem dX1_roundsToRest_3 : decode cX1_roundsToRest 3 = .ok (.aload_n 0, 1) := by decide +kernel
theorem dX1_roundsToRest_4 : decode cX1_roundsToRest 4 = .ok (.getfield 15, 3) := by decide +kernel
theorem dX1_roundsToRest_7 : decode cX1_roundsToRest 7 = .ok (.getfield 70, 3) := by decide +kernel
theorem dX1_roundsToRest_10 : decode cX1_roundsToRest 10 = .ok (.if_icmp .ge 26, 3) := by decide +kernel
theorem dX1_roundsToRest_13 : decode cX1_roundsToRest 13 = .ok (.aload_n 0, 1) := by decide +kernel
theorem dX1_roundsToRest_14 : decode cX1_roundsToRest 14 = .ok (.getfield 9, 3) := by decide +kernel
theorem dX1_roundsToRest_17 : decode cX1_roundsToRest 17 = .ok (.iload_n 1, 1) := by decide +kernel
theorem dX1_roundsToRest_18 : decode cX1_roundsToRest 18 = .ok (.aload_n 0, 1) := by decide +kernel
theorem dX1_roundsToRest_19 : decode cX1_roundsToRest 19 = .ok (.getfield 15, 3) := by decide +kernel
theorem dX1_roundsToRest_22 : decode cX1_roundsToRest 22 = .ok (.getfield 63, 3) := by decide +kernel
theorem dX1_roundsToRest_25 : decode cX1_roundsToRest 25 = .ok (.iload_n 1, 1) := by decide +kernel
theorem dX1_roundsToRest_26 : decode cX1_roundsToRest 26 = .ok (.aaload, 1) := by decide +kernel
theorem dX1_roundsToRest_27 : decode cX1_roundsToRest 27 = .ok (.iconst 1, 1) := by decide +kernel
theorem dX1_roundsToRest_28 : decode cX1_roundsToRest 28 = .ok (.iaload, 1) := by decide +kernel
theorem dX1_roundsToRest_29 : decode cX1_roundsToRest 29 = .ok (.iastore, 1) := by decide +kernel
theorem dX1_roundsToRest_30 : decode cX1_roundsToRest 30 = .ok (.iinc 1 1, 3) := by decide +kernel
theorem dX1_roundsToRest_33 : decode cX1_roundsToRest 33 = .ok (.goto (-31), 3) := by decide +kernel
theorem dX1_roundsToRest_36 : decode cX1_roundsToRest 36 = .ok (.bipush (-9), 2) := by decide +kernel
theorem dX1_roundsToRest_38 : decode cX1_roundsToRest 38 = .ok (.istore_n 1, 1) := by decide +kernel
theorem dX1_roundsToRest_39 : decode cX1_roundsToRest 39 = .ok (.iconst 1, 1) := by decide +kernel
theorem dX1_roundsToRest_40 : decode cX1_roundsToRest 40 = .ok (.istore_n 2, 1) := by decide +kernel
theorem dX1_roundsToRest_41 : decode cX1_roundsToRest 41 = .ok (.iload_n 2, 1) := by decide +kernel
theorem dX1_roundsToRest_42 : decode cX1_roundsToRest 42 = .ok (.bipush 10, 2) := by decide +kernel
theorem dX1_roundsToRest_44 : decode cX1_roundsToRest 44 = .ok (.if_icmp .gt 93, 3) := by decide +kernel
theorem dX1_roundsToRest_47 : decode cX1_roundsToRest 47 = .ok (.iload_n 1, 1) := by decide +kernel
theorem dX1_roundsToRest_48 : decode cX1_roundsToRest 48 = .ok (.bipush (-9), 2) := by decide +kernel
theorem dX1_roundsToRest_50 : decode cX1_roundsToRest 50 = .ok (.if_icmp .ne 87, 3) := by decide +kernel
theorem dX1_roundsToRest_53 : decode cX1_roundsToRest 53 = .ok (.iconst 0, 1) := by decide +kernel
theorem dX1_roundsToRest_54 : decode cX1_roundsToRest 54 = .ok (.istore_n 3, 1) := by decide +kernel
theorem dX1_roundsToRest_55 : decode cX1_roundsToRest 55 = .ok (.iconst 0, 1) := by decide +kernel
theorem dX1_roundsToRest_56 : decode cX1_roundsToRest 56 = .ok (.istore 4, 2) := by decide +kernel
theorem dX1_roundsToRest_58 : decode cX1_roundsToRest 58 = .ok (.iload 4, 2) := by decide +kernel
theorem dX1_roundsToRest_60 : decode cX1_roundsToRest 60 = .ok (.aload_n 0, 1) := by decide +kernel
theorem dX1_roundsToRest_61 : decode cX1_roundsToRest 61 = .ok (.getfield 15, 3) := by decide +kernel
theorem dX1_roundsToRest_64 : decode cX1_roundsToRest 64 = .ok (.getfield 70, 3) := by decide +kernel
theorem dX1_roundsToRest_67 : decode cX1_roundsToRest 67 = .ok (.if_icmp .ge 58, 3) := by decide +kernel
theorem dX1_roundsToRest_70 : decode cX1_roundsToRest 70 = .ok (.aload_n 0, 1) := by decide +kernel
theorem dX1_roundsToRest_71 : decode cX1_roundsToRest 71 = .ok (.iload 4, 2) := by decide +kernel
theorem dX1_roundsToRest_73 : decode cX1_roundsToRest 73 = .ok (.invokevirtual 73, 3) := by decide +kernel
theorem dX1_roundsToRest_76 : decode cX1_roundsToRest 76 = .ok (.istore 5, 2) := by decide +kernel
theorem dX1_roundsToRest_78 : decode cX1_roundsToRest 78 = .ok (.iload_n 3, 1) := by decide +kernel
theorem dX1_roundsToRest_79 : decode cX1_roundsToRest 79 = .ok (.ifCond .ne 20, 3) := by decide +kernel
theorem dX1_roundsToRest_82 : decode cX1_roundsToRest 82 = .ok (.iload 5, 2) := by decide +kernel
theorem dX1_roundsToRest_84 : decode cX1_roundsToRest 84 = .ok (.aload_n 0, 1) := by decide +kernel
theorem dX1_roundsToRest_85 : decode cX1_roundsToRest 85 = .ok (.getfield 15, 3) := by decide +kernel
theorem dX1_roundsToRest_88 : decode cX1_roundsToRest 88 = .ok (.getfield 63, 3) := by decide +kernel
theorem dX1_roundsToRest_91 : decode cX1_roundsToRest 91 = .ok (.iload 4, 2) := by decide +kernel
theorem dX1_roundsToRest_93 : decode cX1_roundsToRest 93 = .ok (.aaload, 1) := by decide +kernel
theorem dX1_roundsToRest_94 : decode cX1_roundsToRest 94 = .ok (.iconst 1, 1) := by decide +kernel
theorem dX1_roundsToRest_95 : decode cX1_roundsToRest 95 = .ok (.iaload, 1) := by decide +kernel
theorem dX1_roundsToRest_96 : decode cX1_roundsToRest 96 = .ok (.if_icmp .eq 7, 3) := by decide +kernel
theorem dX1_roundsToRest_99 : decode cX1_roundsToRest 99 = .ok (.iconst 1, 1) := by decide +kernel
theorem dX1_roundsToRest_100 : decode cX1_roundsToRest 100 = .ok (.goto 4, 3) := by decide +kernel
theorem dX1_roundsToRest_103 : decode cX1_roundsToRest 103 = .ok (.iconst 0, 1) := by decide +kernel
theorem dX1_roundsToRest_104 : decode cX1_roundsToRest 104 = .ok (.istore_n 3, 1) := by decide +kernel
theorem dX1_roundsToRest_105 : decode cX1_roundsToRest 105 = .ok (.aload_n 0, 1) := by decide +kernel
theorem dX1_roundsToRest_106 : decode cX1_roundsToRest 106 = .ok (.getfield 15, 3) := by decide +kernel
theorem dX1_roundsToRest_109 : decode cX1_roundsToRest 109 = .ok (.getfield 63, 3) := by decide +kernel
theorem dX1_roundsToRest_112 : decode cX1_roundsToRest 112 = .ok (.iload 4, 2) := by decide +kernel
theorem dX1_roundsToRest_114 : decode cX1_roundsToRest 114 = .ok (.aaload, 1) := by decide +kernel
theorem dX1_roundsToRest_115 : decode cX1_roundsToRest 115 = .ok (.iconst 1, 1) := by decide +kernel
theorem dX1_roundsToRest_116 : decode cX1_roundsToRest 116 = .ok (.iload 5, 2) := by decide +kernel
theorem dX1_roundsToRest_118 : decode cX1_roundsToRest 118 = .ok (.iastore, 1) := by decide +kernel
theorem dX1_roundsToRest_119 : decode cX1_roundsToRest 119 = .ok (.iinc 4 1, 3) := by decide +kernel
theorem dX1_roundsToRest_122 : decode cX1_roundsToRest 122 = .ok (.goto (-64), 3) := by decide +kernel
theorem dX1_roundsToRest_125 : decode cX1_roundsToRest 125 = .ok (.iload_n 3, 1) := by decide +kernel
theorem dX1_roundsToRest_126 : decode cX1_roundsToRest 126 = .ok (.ifCond .ne 5, 3) := by decide +kernel
theorem dX1_roundsToRest_129 : decode cX1_roundsToRest 129 = .ok (.iload_n 2, 1) := by decide +kernel
theorem dX1_roundsToRest_130 : decode cX1_roundsToRest 130 = .ok (.istore_n 1, 1) := by decide +kernel
theorem dX1_roundsToRest_131 : decode cX1_roundsToRest 131 = .ok (.iinc 2 1, 3) := by decide +kernel
theorem dX1_roundsToRest_134 : decode cX1_roundsToRest 134 = .ok (.goto (-93), 3) := by decide +kernel
theorem dX1_roundsToRest_137 : decode cX1_roundsToRest 137 = .ok (.iconst 0, 1) := by decide +kernel
theorem dX1_roundsToRest_138 : decode cX1_roundsToRest 138 = .ok (.istore_n 2, 1) := by decide +kernel
theorem dX1_roundsToRest_139 : decode cX1_roundsToRest 139 = .ok (.iload_n 2, 1) := by decide +kernel
theorem dX1_roundsToRest_140 : decode cX1_roundsToRest 140 = .ok (.aload_n 0, 1) := by decide +kernel
theorem dX1_roundsToRest_141 : decode cX1_roundsToRest 141 = .ok (.getfield 15, 3) := by decide +kernel
theorem dX1_roundsToRest_144 : decode cX1_roundsToRest 144 = .ok (.getfield 70, 3) := by decide +kernel
theorem dX1_roundsToRest_147 : decode cX1_roundsToRest 147 = .ok (.if_icmp .ge 26, 3) := by decide +kernel
theorem dX1_roundsToRest_150 : decode cX1_roundsToRest 150 = .ok (.aload_n 0, 1) := by decide +kernel
theorem dX1_roundsToRest_151 : decode cX1_roundsToRest 151 = .ok (.getfield 15, 3) := by decide +kernel
theorem dX1_roundsToRest_154 : decode cX1_roundsToRest 154 = .ok (.getfield 63, 3) := by decide +kernel
theorem dX1_roundsToRest_157 : decode cX1_roundsToRest 157 = .ok (.iload_n 2, 1) := by decide +kernel
theorem dX1_roundsToRest_158 : decode cX1_roundsToRest 158 = .ok (.aaload, 1) := by decide +kernel
theorem dX1_roundsToRest_159 : decode cX1_roundsToRest 159 = .ok (.iconst 1, 1) := by decide +kernel
theorem dX1_roundsToRest_160 : decode cX1_roundsToRest 160 = .ok (.aload_n 0, 1) := by decide +kernel
theorem dX1_roundsToRest_161 : decode cX1_roundsToRest 161 = .ok (.getfield 9, 3) := by decide +kernel
theorem dX1_roundsToRest_164 : decode cX1_roundsToRest 164 = .ok (.iload_n 2, 1) := by decide +kernel
theorem dX1_roundsToRest_165 : decode cX1_roundsToRest 165 = .ok (.iaload, 1) := by decide +kernel
theorem dX1_roundsToRest_166 : decode cX1_roundsToRest 166 = .ok (.iastore, 1) := by decide +kernel
theorem dX1_roundsToRest_167 : decode cX1_roundsToRest 167 = .ok (.iinc 2 1, 3) := by decide +kernel
theorem dX1_roundsToRest_170 : decode cX1_roundsToRest 170 = .ok (.goto (-31), 3) := by decide +kernel
theorem dX1_roundsToRest_173 : decode cX1_roundsToRest 173 = .ok (.iload_n 1, 1) := by decide +kernel
theorem dX1_roundsToRest_174 : decode cX1_roundsToRest 174 = .ok (.ireturn, 1) := by decide +kernel
theorem dX2_init_0 : decode cX2_init 0 = .ok (.aload_n 0, 1) := by decide +kernel
theorem dX2_init_1 : decode cX2_init 1 = .ok (.invokespecial 3, 3) := by decide +kernel
theorem dX2_init_4 : decode cX2_init 4 = .ok (.aload_n 0, 1) := by decide +kernel
theorem dX2_init_5 : decode cX2_init 5 = .ok (.bipush 6, 2) := by decide +kernel
theorem dX2_init_7 : decode cX2_init 7 = .ok (.newarray .int, 2) := by decide +kernel
theorem dX2_init_9 : decode cX2_init 9 = .ok (.putfield 9, 3) := by decide +kernel
theorem dX2_init_12 : decode cX2_init 12 = .ok (.aload_n 0, 1) := by decide +kernel
theorem dX2_init_13 : decode cX2_init 13 = .ok (.aload_n 1, 1) := by decide +kernel
theorem dX2_init_14 : decode cX2_init 14 = .ok (.putfield 15, 3) := by decide +kernel
theorem dX2_init_17 : decode cX2_init 17 = .ok (.aload_n 0, 1) := by decide +kernel
theorem dX2_init_18 : decode cX2_init 18 = .ok (.aload_n 2, 1) := by decide +kernel
theorem dX2_init_19 : decode cX2_init 19 = .ok (.putfield 19, 3) := by decide +kernel
theorem dX2_init_22 : decode cX2_init 22 = .ok (.return_, 1) := by decide +kernel
theorem dX2_bestSpouse_0 : decode cX2_bestSpouse 0 = .ok (.aload_n 0, 1) := by decide +kernel
theorem dX2_bestSpouse_1 : decode cX2_bestSpouse 1 = .ok (.getfield 15, 3) := by decide +kernel
theorem dX2_bestSpouse_4 : decode cX2_bestSpouse 4 = .ok (.getfield 23, 3) := by decide +kernel
theorem dX2_bestSpouse_7 : decode cX2_bestSpouse 7 = .ok (.iload_n 1, 1) := by decide +kernel
theorem dX2_bestSpouse_8 : decode cX2_bestSpouse 8 = .ok (.iaload, 1) := by decide +kernel
theorem dX2_bestSpouse_9 : decode cX2_bestSpouse 9 = .ok (.istore_n 2, 1) := by decide +kernel
theorem dX2_bestSpouse_10 : decode cX2_bestSpouse 10 = .ok (.aload_n 0, 1) := by decide +kernel
theorem dX2_bestSpouse_11 : decode cX2_bestSpouse 11 = .ok (.iload_n 1, 1) := by decide +kernel
theorem dX2_bestSpouse_12 : decode cX2_bestSpouse 12 = .ok (.invokevirtual 28, 3) := by decide +kernel
theorem dX2_bestSpouse_15 : decode cX2_bestSpouse 15 = .ok (.istore_n 3, 1) := by decide +kernel
theorem dX2_bestSpouse_16 : decode cX2_bestSpouse 16 = .ok (.bipush (-9), 2) := by decide +kernel
theorem dX2_bestSpouse_18 : decode cX2_bestSpouse 18 = .ok (.istore 4, 2) := by decide +kernel
theorem dX2_bestSpouse_20 : decode cX2_bestSpouse 20 = .ok (.iconst 0, 1) := by decide +kernel
theorem dX2_bestSpouse_21 : decode cX2_bestSpouse 21 = .ok (.istore 5, 2) := by decide +kernel
theorem dX2_bestSpouse_23 : decode cX2_bestSpouse 23 = .ok (.iload 5, 2) := by decide +kernel
theorem dX2_bestSpouse_25 : decode cX2_bestSpouse 25 = .ok (.aload_n 0, 1) := by decide +kernel
theorem dX2_bestSpouse_26 : decode cX2_bestSpouse 26 = .ok (.getfield 15, 3) := by decide +kernel
theorem dX2_bestSpouse_29 : decode cX2_bestSpouse 29 = .ok (.getfield 32, 3) := by decide +kernel
theorem dX2_bestSpouse_32 : decode cX2_bestSpouse 32 = .ok (.if_icmp .ge 50, 3) := by decide +kernel
theorem dX2_bestSpouse_35 : decode cX2_bestSpouse 35 = .ok (.aload_n 0, 1) := by decide +kernel
theorem dX2_bestSpouse_36 : decode cX2_bestSpouse 36 = .ok (.getfield 15, 3) := by decide +kernel
theorem dX2_bestSpouse_39 : decode cX2_bestSpouse 39 = .ok (.getfield 23, 3) := by decide +kernel
theorem dX2_bestSpouse_42 : decode cX2_bestSpouse 42 = .ok (.iload_n 1, 1) := by decide +kernel
theorem dX2_bestSpouse_43 : decode cX2_bestSpouse 43 = .ok (.iload 5, 2) := by decide +kernel
theorem dX2_bestSpouse_45 : decode cX2_bestSpouse 45 = .ok (.iload_n 1, 1) := by decide +kernel
theorem dX2_bestSpouse_46 : decode cX2_bestSpouse 46 = .ok (.if_icmp .ne 7, 3) := by decide +kernel
theorem dX2_bestSpouse_49 : decode cX2_bestSpouse 49 = .ok (.iload_n 2, 1) := by decide +kernel
theorem dX2_bestSpouse_50 : decode cX2_bestSpouse 50 = .ok (.goto 5, 3) := by decide +kernel
theorem dX2_bestSpouse_53 : decode cX2_bestSpouse 53 = .ok (.iload 5, 2) := by decide +kernel
theorem dX2_bestSpouse_55 : decode cX2_bestSpouse 55 = .ok (.iastore, 1) := by decide +kernel
theorem dX2_bestSpouse_56 : decode cX2_bestSpouse 56 = .ok (.aload_n 0, 1) := by decide +kernel
theorem dX2_bestSpouse_57 : decode cX2_bestSpouse 57 = .ok (.iload_n 1, 1) := by decide +kernel
theorem dX2_bestSpouse_58 : decode cX2_bestSpouse 58 = .ok (.invokevirtual 28, 3) := by decide +kernel
theorem dX2_bestSpouse_61 : decode cX2_bestSpouse 61 = .ok (.istore 6, 2) := by decide +kernel
theorem dX2_bestSpouse_63 : decode cX2_bestSpouse 63 = .ok (.iload 6, 2) := by decide +kernel
theorem dX2_bestSpouse_65 : decode cX2_bestSpouse 65 = .ok (.iload_n 3, 1) := by decide +kernel
theorem dX2_bestSpouse_66 : decode cX2_bestSpouse 66 = .ok (.if_icmp .ge 10, 3) := by decide +kernel
theorem dX2_bestSpouse_69 : decode cX2_bestSpouse 69 = .ok (.iload 6, 2) := by decide +kernel
theorem dX2_bestSpouse_71 : decode cX2_bestSpouse 71 = .ok (.istore_n 3, 1) := by decide +kernel
theorem dX2_bestSpouse_72 : decode cX2_bestSpouse 72 = .ok (.iload 5, 2) := by decide +kernel
theorem dX2_bestSpouse_74 : decode cX2_bestSpouse 74 = .ok (.istore 4, 2) := by decide +kernel
theorem dX2_bestSpouse_76 : decode cX2_bestSpouse 76 = .ok (.iinc 5 1, 3) := by decide +kernel
theorem dX2_bestSpouse_79 : decode cX2_bestSpouse 79 = .ok (.goto (-56), 3) := by decide +kernel
theorem dX2_bestSpouse_82 : decode cX2_bestSpouse 82 = .ok (.aload_n 0, 1) := by decide +kernel
theorem dX2_bestSpouse_83 : decode cX2_bestSpouse 83 = .ok (.getfield 15, 3) := by decide +kernel
theorem dX2_bestSpouse_86 : decode cX2_bestSpouse 86 = .ok (.getfield 23, 3) := by decide +kernel
theorem dX2_bestSpouse_89 : decode cX2_bestSpouse 89 = .ok (.iload_n 1, 1) := by decide +kernel
theorem dX2_bestSpouse_90 : decode cX2_bestSpouse 90 = .ok (.iload_n 2, 1) := by decide +kernel
theorem dX2_bestSpouse_91 : decode cX2_bestSpouse 91 = .ok (.iastore, 1) := by decide +kernel
theorem dX2_bestSpouse_92 : decode cX2_bestSpouse 92 = .ok (.iload 4, 2) := by decide +kernel
theorem dX2_bestSpouse_94 : decode cX2_bestSpouse 94 = .ok (.ireturn, 1) := by decide +kernel
theorem dX2_costOfWorksOf_0 : decode cX2_costOfWorksOf 0 = .ok (.iconst 0, 1) := by decide +kernel
theorem dX2_costOfWorksOf_1 : decode cX2_costOfWorksOf 1 = .ok (.istore_n 2, 1) := by decide +kernel
theorem dX2_costOfWorksOf_2 : decode cX2_costOfWorksOf 2 = .ok (.iconst 0, 1) := by decide +kernel
theorem dX2_costOfWorksOf_3 : decode cX2_costOfWorksOf 3 = .ok (.istore_n 3, 1) := by decide +kernel
theorem dX2_costOfWorksOf_4 : decode cX2_costOfWorksOf 4 = .ok (.iload_n 3, 1) := by decide +kernel
theorem dX2_costOfWorksOf_5 : decode cX2_costOfWorksOf 5 = .ok (.aload_n 0, 1) := by decide +kernel
theorem dX2_costOfWorksOf_6 : decode cX2_costOfWorksOf 6 = .ok (.getfield 15, 3) := by decide +kernel
theorem dX2_costOfWorksOf_9 : decode cX2_costOfWorksOf 9 = .ok (.getfield 36, 3) := by decide +kernel
theorem dX2_costOfWorksOf_12 : decode cX2_costOfWorksOf 12 = .ok (.if_icmp .ge 59, 3) := by decide +kernel
theorem dX2_costOfWorksOf_15 : decode cX2_costOfWorksOf 15 = .ok (.aload_n 0, 1) := by decide +kernel
theorem dX2_costOfWorksOf_16 : decode cX2_costOfWorksOf 16 = .ok (.getfield 15, 3) := by decide +kernel
theorem dX2_costOfWorksOf_19 : decode cX2_costOfWorksOf 19 = .ok (.getfield 39, 3) := by decide +kernel
theorem dX2_costOfWorksOf_22 : decode cX2_costOfWorksOf 22 = .ok (.iload_n 3, 1) := by decide +kernel
theorem dX2_costOfWorksOf_23 : decode cX2_costOfWorksOf 23 = .ok (.aaload, 1) := by decide +kernel
theorem dX2_costOfWorksOf_24 : decode cX2_costOfWorksOf 24 = .ok (.iconst 0, 1) := by decide +kernel
theorem dX2_costOfWorksOf_25 : decode cX2_costOfWorksOf 25 = .ok (.iaload, 1) := by decide +kernel
theorem dX2_costOfWorksOf_26 : decode cX2_costOfWorksOf 26 = .ok (.iload_n 1, 1) := by decide +kernel
theorem dX2_costOfWorksOf_27 : decode cX2_costOfWorksOf 27 = .ok (.if_icmp .ne 38, 3) := by decide +kernel
theorem dX2_costOfWorksOf_30 : decode cX2_costOfWorksOf 30 = .ok (.aload_n 0, 1) := by decide +kernel
theorem dX2_costOfWorksOf_31 : decode cX2_costOfWorksOf 31 = .ok (.getfield 19, 3) := by decide +kernel
theorem dX2_costOfWorksOf_34 : decode cX2_costOfWorksOf 34 = .ok (.iload_n 3, 1) := by decide +kernel
theorem dX2_costOfWorksOf_35 : decode cX2_costOfWorksOf 35 = .ok (.invokevirtual 43, 3) := by decide +kernel
theorem dX2_costOfWorksOf_38 : decode cX2_costOfWorksOf 38 = .ok (.iload_n 2, 1) := by decide +kernel
theorem dX2_costOfWorksOf_39 : decode cX2_costOfWorksOf 39 = .ok (.aload_n 0, 1) := by decide +kernel
theorem dX2_costOfWorksOf_40 : decode cX2_costOfWorksOf 40 = .ok (.getfield 19, 3) := by decide +kernel
theorem dX2_costOfWorksOf_43 : decode cX2_costOfWorksOf 43 = .ok (.getfield 49, 3) := by decide +kernel
theorem dX2_costOfWorksOf_46 : decode cX2_costOfWorksOf 46 = .ok (.bipush (-9), 2) := by decide +kernel
theorem dX2_costOfWorksOf_48 : decode cX2_costOfWorksOf 48 = .ok (.if_icmp .ne 8, 3) := by decide +kernel
theorem dX2_costOfWorksOf_51 : decode cX2_costOfWorksOf 51 = .ok (.bipush 100, 2) := by decide +kernel
theorem dX2_costOfWorksOf_53 : decode cX2_costOfWorksOf 53 = .ok (.goto 10, 3) := by decide +kernel
theorem dX2_costOfWorksOf_56 : decode cX2_costOfWorksOf 56 = .ok (.aload_n 0, 1) := by decide +kernel
theorem dX2_costOfWorksOf_57 : decode cX2_costOfWorksOf 57 = .ok (.getfield 19, 3) := by decide +kernel
theorem dX2_costOfWorksOf_60 : decode cX2_costOfWorksOf 60 = .ok (.getfield 49, 3) := by decide +kernel
theorem dX2_costOfWorksOf_63 : decode cX2_costOfWorksOf 63 = .ok (.iadd, 1) := by decide +kernel
theorem dX2_costOfWorksOf_64 : decode cX2_costOfWorksOf 64 = .ok (.istore_n 2, 1) := by decide +kernel
theorem dX2_costOfWorksOf_65 : decode cX2_costOfWorksOf 65 = .ok (.iinc 3 1, 3) := by decide +kernel
theorem dX2_costOfWorksOf_68 : decode cX2_costOfWorksOf 68 = .ok (.goto (-64), 3) := by decide +kernel
theorem dX2_costOfWorksOf_71 : decode cX2_costOfWorksOf 71 = .ok (.iload_n 2, 1) := by decide +kernel
theorem dX2_costOfWorksOf_72 : decode cX2_costOfWorksOf 72 = .ok (.ireturn, 1) := by decide +kernel
theorem dX2_bestTaker_0 : decode cX2_bestTaker 0 = .ok (.iconst 0, 1) := by decide +kernel
theorem dX2_bestTaker_1 : decode cX2_bestTaker 1 = .ok (.istore_n 1, 1) := by decide +kernel
theorem dX2_bestTaker_2 : decode cX2_bestTaker 2 = .ok (.iconst 0, 1) := by decide +kernel
theorem dX2_bestTaker_3 : decode cX2_bestTaker 3 = .ok (.istore_n 2, 1) := by decide +kernel
theorem dX2_bestTaker_4 : decode cX2_bestTaker 4 = .ok (.iload_n 2, 1) := by decide +kernel
theorem dX2_bestTaker_5 : decode cX2_bestTaker 5 = .ok (.bipush 28, 2) := by decide +kernel
theorem dX2_bestTaker_7 : decode cX2_bestTaker 7 = .ok (.if_icmp .ge 31, 3) := by decide +kernel
theorem dX2_bestTaker_10 : decode cX2_bestTaker 10 = .ok (.iload_n 1, 1) := by decide +kernel
theorem dX2_bestTaker_11 : decode cX2_bestTaker 11 = .ok (.aload_n 0, 1) := by decide +kernel
theorem dX2_bestTaker_12 : decode cX2_bestTaker 12 = .ok (.getfield 15, 3) := by decide +kernel
theorem dX2_bestTaker_15 : decode cX2_bestTaker 15 = .ok (.getfield 52, 3) := by decide +kernel
theorem dX2_bestTaker_18 : decode cX2_bestTaker 18 = .ok (.iload_n 2, 1) := by decide +kernel
theorem dX2_bestTaker_19 : decode cX2_bestTaker 19 = .ok (.iaload, 1) := by decide +kernel
theorem dX2_bestTaker_20 : decode cX2_bestTaker 20 = .ok (.ifCond .ne 9, 3) := by decide +kernel
theorem dX2_bestTaker_23 : decode cX2_bestTaker 23 = .ok (.iconst 1, 1) := by decide +kernel
theorem dX2_bestTaker_24 : decode cX2_bestTaker 24 = .ok (.iload_n 2, 1) := by decide +kernel
theorem dX2_bestTaker_25 : decode cX2_bestTaker 25 = .ok (.ishl, 1) := by decide +kernel
theorem dX2_bestTaker_26 : decode cX2_bestTaker 26 = .ok (.goto 4, 3) := by decide +kernel
theorem dX2_bestTaker_29 : decode cX2_bestTaker 29 = .ok (.iconst 0, 1) := by decide +kernel
theorem dX2_bestTaker_30 : decode cX2_bestTaker 30 = .ok (.ior, 1) := by decide +kernel
theorem dX2_bestTaker_31 : decode cX2_bestTaker 31 = .ok (.istore_n 1, 1) := by decide +kernel
theorem dX2_bestTaker_32 : decode cX2_bestTaker 32 = .ok (.iinc 2 1, 3) := by decide +kernel
theorem dX2_bestTaker_35 : decode cX2_bestTaker 35 = .ok (.goto (-31), 3) := by decide +kernel
theorem dX2_bestTaker_38 : decode cX2_bestTaker 38 = .ok (.bipush (-9), 2) := by decide +kernel
theorem dX2_bestTaker_40 : decode cX2_bestTaker 40 = .ok (.istore_n 2, 1) := by decide +kernel
theorem dX2_bestTaker_41 : decode cX2_bestTaker 41 = .ok (.iconst (-1), 1) := by decide +kernel
theorem dX2_bestTaker_42 : decode cX2_bestTaker 42 = .ok (.istore_n 3, 1) := by decide +kernel
theorem dX2_bestTaker_43 : decode cX2_bestTaker 43 = .ok (.iconst 0, 1) := by decide +kernel
theorem dX2_bestTaker_44 : decode cX2_bestTaker 44 = .ok (.istore 4, 2) := by decide +kernel
theorem dX2_bestTaker_46 : decode cX2_bestTaker 46 = .ok (.iload 4, 2) := by decide +kernel
theorem dX2_bestTaker_48 : decode cX2_bestTaker 48 = .ok (.aload_n 0, 1) := by decide +kernel
theorem dX2_bestTaker_49 : decode cX2_bestTaker 49 = .ok (.getfield 15, 3) := by decide +kernel
theorem dX2_bestTaker_52 : decode cX2_bestTaker 52 = .ok (.getfield 32, 3) := by decide +kernel
theorem dX2_bestTaker_55 : decode cX2_bestTaker 55 = .ok (.if_icmp .ge 30, 3) := by decide +kernel
theorem dX2_bestTaker_58 : decode cX2_bestTaker 58 = .ok (.aload_n 0, 1) := by decide +kernel
theorem dX2_bestTaker_59 : decode cX2_bestTaker 59 = .ok (.iload 4, 2) := by decide +kernel
theorem dX2_bestTaker_61 : decode cX2_bestTaker 61 = .ok (.iload_n 1, 1) := by decide +kernel
theorem dX2_bestTaker_62 : decode cX2_bestTaker 62 = .ok (.invokevirtual 55, 3) := by decide +kernel
theorem dX2_bestTaker_65 : decode cX2_bestTaker 65 = .ok (.istore 5, 2) := by decide +kernel
theorem dX2_bestTaker_67 : decode cX2_bestTaker 67 = .ok (.iload 5, 2) := by decide +kernel
theorem dX2_bestTaker_69 : decode cX2_bestTaker 69 = .ok (.iload_n 3, 1) := by decide +kernel
theorem dX2_bestTaker_70 : decode cX2_bestTaker 70 = .ok (.if_icmp .le 9, 3) := by decide +kernel
theorem dX2_bestTaker_73 : decode cX2_bestTaker 73 = .ok (.iload 5, 2) := by decide +kernel
theorem dX2_bestTaker_75 : decode cX2_bestTaker 75 = .ok (.istore_n 3, 1) := by decide +kernel
theorem dX2_bestTaker_76 : decode cX2_bestTaker 76 = .ok (.iload 4, 2) := by decide +kernel
theorem dX2_bestTaker_78 : decode cX2_bestTaker 78 = .ok (.istore_n 2, 1) := by decide +kernel
theorem dX2_bestTaker_79 : decode cX2_bestTaker 79 = .ok (.iinc 4 1, 3) := by decide +kernel
theorem dX2_bestTaker_82 : decode cX2_bestTaker 82 = .ok (.goto (-36), 3) := by decide +kernel
theorem dX2_bestTaker_85 : decode cX2_bestTaker 85 = .ok (.iload_n 2, 1) := by decide +kernel
theorem dX2_bestTaker_86 : decode cX2_bestTaker 86 = .ok (.ireturn, 1) := by decide +kernel
theorem dX2_netsWithGift_0 : decode cX2_netsWithGift 0 = .ok (.iconst 0, 1) := by decide +kernel
theorem dX2_netsWithGift_1 : decode cX2_netsWithGift 1 = .ok (.istore_n 3, 1) := by decide +kernel
theorem dX2_netsWithGift_2 : decode cX2_netsWithGift 2 = .ok (.iload_n 3, 1) := by decide +kernel
theorem dX2_netsWithGift_3 : decode cX2_netsWithGift 3 = .ok (.bipush 28, 2) := by decide +kernel
theorem dX2_netsWithGift_5 : decode cX2_netsWithGift 5 = .ok (.if_icmp .ge 26, 3) := by decide +kernel
theorem dX2_netsWithGift_8 : decode cX2_netsWithGift 8 = .ok (.iload_n 2, 1) := by decide +kernel
theorem dX2_netsWithGift_9 : decode cX2_netsWithGift 9 = .ok (.iload_n 3, 1) := by decide +kernel
theorem dX2_netsWithGift_10 : decode cX2_netsWithGift 10 = .ok (.invokestatic 59, 3) := by decide +kernel
theorem dX2_netsWithGift_13 : decode cX2_netsWithGift 13 = .ok (.ifCond .eq 12, 3) := by decide +kernel
theorem dX2_netsWithGift_16 : decode cX2_netsWithGift 16 = .ok (.aload_n 0, 1) := by decide +kernel
theorem dX2_netsWithGift_17 : decode cX2_netsWithGift 17 = .ok (.getfield 15, 3) := by decide +kernel
theorem dX2_netsWithGift_20 : decode cX2_netsWithGift 20 = .ok (.iload_n 1, 1) := by decide +kernel
theorem dX2_netsWithGift_21 : decode cX2_netsWithGift 21 = .ok (.iload_n 3, 1) := by decide +kernel
theorem dX2_netsWithGift_22 : decode cX2_netsWithGift 22 = .ok (.invokevirtual 63, 3) := by decide +kernel
theorem dX2_netsWithGift_25 : decode cX2_netsWithGift 25 = .ok (.iinc 3 1, 3) := by decide +kernel
theorem dX2_netsWithGift_28 : decode cX2_netsWithGift 28 = .ok (.goto (-26), 3) := by decide +kernel
theorem dX2_netsWithGift_31 : decode cX2_netsWithGift 31 = .ok (.aload_n 0, 1) := by decide +kernel
theorem dX2_netsWithGift_32 : decode cX2_netsWithGift 32 = .ok (.invokevirtual 67, 3) := by decide +kernel
theorem dX2_netsWithGift_35 : decode cX2_netsWithGift 35 = .ok (.iconst 0, 1) := by decide +kernel
theorem dX2_netsWithGift_36 : decode cX2_netsWithGift 36 = .ok (.istore_n 3, 1) := by decide +kernel
theorem dX2_netsWithGift_37 : decode cX2_netsWithGift 37 = .ok (.iconst 0, 1) := by decide +kernel
theorem dX2_netsWithGift_38 : decode cX2_netsWithGift 38 = .ok (.istore 4, 2) := by decide +kernel
theorem dX2_netsWithGift_40 : decode cX2_netsWithGift 40 = .ok (.iload 4, 2) := by decide +kernel
theorem dX2_netsWithGift_42 : decode cX2_netsWithGift 42 = .ok (.aload_n 0, 1) := by decide +kernel
theorem dX2_netsWithGift_43 : decode cX2_netsWithGift 43 = .ok (.getfield 15, 3) := by decide +kernel
theorem dX2_netsWithGift_46 : decode cX2_netsWithGift 46 = .ok (.getfield 36, 3) := by decide +kernel
theorem dX2_netsWithGift_49 : decode cX2_netsWithGift 49 = .ok (.if_icmp .ge 30, 3) := by decide +kernel
theorem dX2_netsWithGift_52 : decode cX2_netsWithGift 52 = .ok (.iload_n 3, 1) := by decide +kernel
theorem dX2_netsWithGift_53 : decode cX2_netsWithGift 53 = .ok (.aload_n 0, 1) := by decide +kernel
theorem dX2_netsWithGift_54 : decode cX2_netsWithGift 54 = .ok (.iload 4, 2) := by decide +kernel
theorem dX2_netsWithGift_56 : decode cX2_netsWithGift 56 = .ok (.aload_n 0, 1) := by decide +kernel
theorem dX2_netsWithGift_57 : decode cX2_netsWithGift 57 = .ok (.getfield 15, 3) := by decide +kernel
theorem dX2_netsWithGift_60 : decode cX2_netsWithGift 60 = .ok (.getfield 39, 3) := by decide +kernel
theorem dX2_netsWithGift_63 : decode cX2_netsWithGift 63 = .ok (.iload 4, 2) := by decide +kernel
theorem dX2_netsWithGift_65 : decode cX2_netsWithGift 65 = .ok (.aaload, 1) := by decide +kernel
theorem dX2_netsWithGift_66 : decode cX2_netsWithGift 66 = .ok (.iconst 4, 1) := by decide +kernel
theorem dX2_netsWithGift_67 : decode cX2_netsWithGift 67 = .ok (.iaload, 1) := by decide +kernel
theorem dX2_netsWithGift_68 : decode cX2_netsWithGift 68 = .ok (.invokevirtual 70, 3) := by decide +kernel
theorem dX2_netsWithGift_71 : decode cX2_netsWithGift 71 = .ok (.iadd, 1) := by decide +kernel
theorem dX2_netsWithGift_72 : decode cX2_netsWithGift 72 = .ok (.istore_n 3, 1) := by decide +kernel
theorem dX2_netsWithGift_73 : decode cX2_netsWithGift 73 = .ok (.iinc 4 1, 3) := by decide +kernel
theorem dX2_netsWithGift_76 : decode cX2_netsWithGift 76 = .ok (.goto (-36), 3) := by decide +kernel
theorem dX2_netsWithGift_79 : decode cX2_netsWithGift 79 = .ok (.iconst 0, 1) := by decide +kernel
theorem dX2_netsWithGift_80 : decode cX2_netsWithGift 80 = .ok (.istore 4, 2) := by decide +kernel
theorem dX2_netsWithGift_82 : decode cX2_netsWithGift 82 = .ok (.iload 4, 2) := by decide +kernel
theorem dX2_netsWithGift_84 : decode cX2_netsWithGift 84 = .ok (.bipush 28, 2) := by decide +kernel
theorem dX2_netsWithGift_86 : decode cX2_netsWithGift 86 = .ok (.if_icmp .ge 28, 3) := by decide +kernel
theorem dX2_netsWithGift_89 : decode cX2_netsWithGift 89 = .ok (.iload_n 2, 1) := by decide +kernel
theorem dX2_netsWithGift_90 : decode cX2_netsWithGift 90 = .ok (.iload 4, 2) := by decide +kernel
theorem dX2_netsWithGift_92 : decode cX2_netsWithGift 92 = .ok (.invokestatic 59, 3) := by decide +kernel
theorem dX2_netsWithGift_95 : decode cX2_netsWithGift 95 = .ok (.ifCond .eq 13, 3) := by decide +kernel
theorem dX2_netsWithGift_98 : decode cX2_netsWithGift 98 = .ok (.aload_n 0, 1) := by decide +kernel
theorem dX2_netsWithGift_99 : decode cX2_netsWithGift 99 = .ok (.getfield 15, 3) := by decide +kernel
theorem dX2_netsWithGift_102 : decode cX2_netsWithGift 102 = .ok (.iload_n 1, 1) := by decide +kernel
theorem dX2_netsWithGift_103 : decode cX2_netsWithGift 103 = .ok (.iload 4, 2) := by decide +kernel
theorem dX2_netsWithGift_105 : decode cX2_netsWithGift 105 = .ok (.invokevirtual 73, 3) := by decide +kernel
theorem dX2_netsWithGift_108 : decode cX2_netsWithGift 108 = .ok (.iinc 4 1, 3) := by decide +kernel
theorem dX2_netsWithGift_111 : decode cX2_netsWithGift 111 = .ok (.goto (-29), 3) := by decide +kernel
theorem dX2_netsWithGift_114 : decode cX2_netsWithGift 114 = .ok (.iload_n 3, 1) := by decide +kernel
theorem dX2_netsWithGift_115 : decode cX2_netsWithGift 115 = .ok (.ireturn, 1) := by decide +kernel
theorem dX2_findCosts_0 : decode cX2_findCosts 0 = .ok (.iconst 0, 1) := by decide +kernel
theorem dX2_findCosts_1 : decode cX2_findCosts 1 = .ok (.istore_n 1, 1) := by decide +kernel
theorem dX2_findCosts_2 : decode cX2_findCosts 2 = .ok (.iload_n 1, 1) := by decide +kernel
theorem dX2_findCosts_3 : decode cX2_findCosts 3 = .ok (.aload_n 0, 1) := by decide +kernel
theorem dX2_findCosts_4 : decode cX2_findCosts 4 = .ok (.getfield 15, 3) := by decide +kernel
theorem dX2_findCosts_7 : decode cX2_findCosts 7 = .ok (.getfield 36, 3) := by decide +kernel
theorem dX2_findCosts_10 : decode cX2_findCosts 10 = .ok (.if_icmp .ge 30, 3) := by decide +kernel
theorem dX2_findCosts_13 : decode cX2_findCosts 13 = .ok (.aload_n 0, 1) := by decide +kernel
theorem dX2_findCosts_14 : decode cX2_findCosts 14 = .ok (.getfield 19, 3) := by decide +kernel
theorem dX2_findCosts_17 : decode cX2_findCosts 17 = .ok (.iload_n 1, 1) := by decide +kernel
theorem dX2_findCosts_18 : decode cX2_findCosts 18 = .ok (.invokevirtual 43, 3) := by decide +kernel
theorem dX2_findCosts_21 : decode cX2_findCosts 21 = .ok (.aload_n 0, 1) := by decide +kernel
theorem dX2_findCosts_22 : decode cX2_findCosts 22 = .ok (.getfield 9, 3) := by decide +kernel
theorem dX2_findCosts_25 : decode cX2_findCosts 25 = .ok (.iload_n 1, 1) := by decide +kernel
theorem dX2_findCosts_26 : decode cX2_findCosts 26 = .ok (.aload_n 0, 1) := by decide +kernel
theorem dX2_findCosts_27 : decode cX2_findCosts 27 = .ok (.getfield 19, 3) := by decide +kernel
theorem dX2_findCosts_30 : decode cX2_findCosts 30 = .ok (.getfield 49, 3) := by decide +kernel
theorem dX2_findCosts_33 : decode cX2_findCosts 33 = .ok (.iastore, 1) := by decide +kernel
theorem dX2_findCosts_34 : decode cX2_findCosts 34 = .ok (.iinc 1 1, 3) := by decide +kernel
theorem dX2_findCosts_37 : decode cX2_findCosts 37 = .ok (.goto (-35), 3) := by decide +kernel
theorem dX2_findCosts_40 : decode cX2_findCosts 40 = .ok (.return_, 1) := by decide +kernel
theorem dX2_doneNet_0 : decode cX2_doneNet 0 = .ok (.iconst 0, 1) := by decide +kernel
theorem dX2_doneNet_1 : decode cX2_doneNet 1 = .ok (.iload_n 2, 1) := by decide +kernel
theorem dX2_doneNet_2 : decode cX2_doneNet 2 = .ok (.aload_n 0, 1) := by decide +kernel
theorem dX2_doneNet_3 : decode cX2_doneNet 3 = .ok (.getfield 9, 3) := by decide +kernel
theorem dX2_doneNet_6 : decode cX2_doneNet 6 = .ok (.iload_n 1, 1) := by decide +kernel
theorem dX2_doneNet_7 : decode cX2_doneNet 7 = .ok (.iaload, 1) := by decide +kernel
theorem dX2_doneNet_8 : decode cX2_doneNet 8 = .ok (.invokestatic 76, 3) := by decide +kernel
theorem dX2_doneNet_11 : decode cX2_doneNet 11 = .ok (.invokestatic 79, 3) := by decide +kernel
theorem dX2_doneNet_14 : decode cX2_doneNet 14 = .ok (.ireturn, 1) := by decide +kernel
theorem dX2_ofSeasons_0 : decode cX2_ofSeasons 0 = .ok (.aload_n 0, 1) := by decide +kernel
theorem dX2_ofSeasons_1 : decode cX2_ofSeasons 1 = .ok (.invokevirtual 67, 3) := by decide +kernel
theorem dX2_ofSeasons_4 : decode cX2_ofSeasons 4 = .ok (.iconst 0, 1) := by decide +kernel
theorem dX2_ofSeasons_5 : decode cX2_ofSeasons 5 = .ok (.istore_n 1, 1) := by decide +kernel
theorem dX2_ofSeasons_6 : decode cX2_ofSeasons 6 = .ok (.iconst 0, 1) := by decide +kernel
theorem dX2_ofSeasons_7 : decode cX2_ofSeasons 7 = .ok (.istore_n 2, 1) := by decide +kernel
theorem dX2_ofSeasons_8 : decode cX2_ofSeasons 8 = .ok (.iload_n 2, 1) := by decide +kernel
theorem dX2_ofSeasons_9 : decode cX2_ofSeasons 9 = .ok (.iconst 4, 1) := by decide +kernel
theorem dX2_ofSeasons_10 : decode cX2_ofSeasons 10 = .ok (.if_icmp .ge 64, 3) := by decide +kernel
theorem dX2_ofSeasons_13 : decode cX2_ofSeasons 13 = .ok (.iconst 0, 1) := by decide +kernel
theorem dX2_ofSeasons_14 : decode cX2_ofSeasons 14 = .ok (.istore_n 3, 1) := by decide +kernel
theorem dX2_ofSeasons_15 : decode cX2_ofSeasons 15 = .ok (.iload_n 3, 1) := by decide +kernel
theorem dX2_ofSeasons_16 : decode cX2_ofSeasons 16 = .ok (.aload_n 0, 1) := by decide +kernel
theorem dX2_ofSeasons_17 : decode cX2_ofSeasons 17 = .ok (.getfield 15, 3) := by decide +kernel
theorem dX2_ofSeasons_20 : decode cX2_ofSeasons 20 = .ok (.getfield 36, 3) := by decide +kernel
theorem dX2_ofSeasons_23 : decode cX2_ofSeasons 23 = .ok (.if_icmp .ge 45, 3) := by decide +kernel
theorem dX2_ofSeasons_26 : decode cX2_ofSeasons 26 = .ok (.aload_n 0, 1) := by decide +kernel
theorem dX2_ofSeasons_27 : decode cX2_ofSeasons 27 = .ok (.getfield 15, 3) := by decide +kernel
theorem dX2_ofSeasons_30 : decode cX2_ofSeasons 30 = .ok (.getfield 39, 3) := by decide +kernel
theorem dX2_ofSeasons_33 : decode cX2_ofSeasons 33 = .ok (.iload_n 3, 1) := by decide +kernel
theorem dX2_ofSeasons_34 : decode cX2_ofSeasons 34 = .ok (.aaload, 1) := by decide +kernel
theorem dX2_ofSeasons_35 : decode cX2_ofSeasons 35 = .ok (.iconst 4, 1) := by decide +kernel
theorem dX2_ofSeasons_36 : decode cX2_ofSeasons 36 = .ok (.iaload, 1) := by decide +kernel
theorem dX2_ofSeasons_37 : decode cX2_ofSeasons 37 = .ok (.aload_n 0, 1) := by decide +kernel
theorem dX2_ofSeasons_38 : decode cX2_ofSeasons 38 = .ok (.getfield 15, 3) := by decide +kernel
theorem dX2_ofSeasons_41 : decode cX2_ofSeasons 41 = .ok (.getfield 84, 3) := by decide +kernel
theorem dX2_ofSeasons_44 : decode cX2_ofSeasons 44 = .ok (.iload_n 2, 1) := by decide +kernel
theorem dX2_ofSeasons_45 : decode cX2_ofSeasons 45 = .ok (.iaload, 1) := by decide +kernel
theorem dX2_ofSeasons_46 : decode cX2_ofSeasons 46 = .ok (.imul, 1) := by decide +kernel
theorem dX2_ofSeasons_47 : decode cX2_ofSeasons 47 = .ok (.bipush 100, 2) := by decide +kernel
theorem dX2_ofSeasons_49 : decode cX2_ofSeasons 49 = .ok (.idiv, 1) := by decide +kernel
theorem dX2_ofSeasons_50 : decode cX2_ofSeasons 50 = .ok (.istore 4, 2) := by decide +kernel
theorem dX2_ofSeasons_52 : decode cX2_ofSeasons 52 = .ok (.iload_n 1, 1) := by decide +kernel
theorem dX2_ofSeasons_53 : decode cX2_ofSeasons 53 = .ok (.aload_n 0, 1) := by decide +kernel
theorem dX2_ofSeasons_54 : decode cX2_ofSeasons 54 = .ok (.iload_n 3, 1) := by decide +kernel
theorem dX2_ofSeasons_55 : decode cX2_ofSeasons 55 = .ok (.iload 4, 2) := by decide +kernel
theorem dX2_ofSeasons_57 : decode cX2_ofSeasons 57 = .ok (.invokevirtual 70, 3) := by decide +kernel
theorem dX2_ofSeasons_60 : decode cX2_ofSeasons 60 = .ok (.iadd, 1) := by decide +kernel
theorem dX2_ofSeasons_61 : decode cX2_ofSeasons 61 = .ok (.istore_n 1, 1) := by decide +kernel
theorem dX2_ofSeasons_62 : decode cX2_ofSeasons 62 = .ok (.iinc 3 1, 3) := by decide +kernel
theorem dX2_ofSeasons_65 : decode cX2_ofSeasons 65 = .ok (.goto (-50), 3) := by decide +kernel
theorem dX2_ofSeasons_68 : decode cX2_ofSeasons 68 = .ok (.iinc 2 1, 3) := by decide +kernel
theorem dX2_ofSeasons_71 : decode cX2_ofSeasons 71 = .ok (.goto (-63), 3) := by decide +kernel
theorem dX2_ofSeasons_74 : decode cX2_ofSeasons 74 = .ok (.iload_n 1, 1) := by decide +kernel
theorem dX2_ofSeasons_75 : decode cX2_ofSeasons 75 = .ok (.ireturn, 1) := by decide +kernel
theorem dX2_ofDraws_0 : decode cX2_ofDraws 0 = .ok (.aload_n 0, 1) := by decide +kernel
theorem dX2_ofDraws_1 : decode cX2_ofDraws 1 = .ok (.invokevirtual 67, 3) := by decide +kernel
theorem dX2_ofDraws_4 : decode cX2_ofDraws 4 = .ok (.iconst 0, 1) := by decide +kernel
theorem dX2_ofDraws_5 : decode cX2_ofDraws 5 = .ok (.istore_n 3, 1) := by decide +kernel
theorem dX2_ofDraws_6 : decode cX2_ofDraws 6 = .ok (.iload_n 2, 1) := by decide +kernel
theorem dX2_ofDraws_7 : decode cX2_ofDraws 7 = .ok (.istore 4, 2) := by decide +kernel
theorem dX2_ofDraws_9 : decode cX2_ofDraws 9 = .ok (.iconst 0, 1) := by decide +kernel
theorem dX2_ofDraws_10 : decode cX2_ofDraws 10 = .ok (.istore 5, 2) := by decide +kernel
theorem dX2_ofDraws_12 : decode cX2_ofDraws 12 = .ok (.iload 5, 2) := by decide +kernel
theorem dX2_ofDraws_14 : decode cX2_ofDraws 14 = .ok (.iload_n 1, 1) := by decide +kernel
theorem dX2_ofDraws_15 : decode cX2_ofDraws 15 = .ok (.if_icmp .ge 83, 3) := by decide +kernel
theorem dX2_ofDraws_18 : decode cX2_ofDraws 18 = .ok (.iconst 0, 1) := by decide +kernel
theorem dX2_ofDraws_19 : decode cX2_ofDraws 19 = .ok (.istore 6, 2) := by decide +kernel
theorem dX2_ofDraws_21 : decode cX2_ofDraws 21 = .ok (.iload 6, 2) := by decide +kernel
theorem dX2_ofDraws_23 : decode cX2_ofDraws 23 = .ok (.aload_n 0, 1) := by decide +kernel
theorem dX2_ofDraws_24 : decode cX2_ofDraws 24 = .ok (.getfield 15, 3) := by decide +kernel
theorem dX2_ofDraws_27 : decode cX2_ofDraws 27 = .ok (.getfield 36, 3) := by decide +kernel
theorem dX2_ofDraws_30 : decode cX2_ofDraws 30 = .ok (.if_icmp .ge 62, 3) := by decide +kernel
theorem dX2_ofDraws_33 : decode cX2_ofDraws 33 = .ok (.iload 4, 2) := by decide +kernel
theorem dX2_ofDraws_35 : decode cX2_ofDraws 35 = .ok (.ldc 87, 2) := by decide +kernel
theorem dX2_ofDraws_37 : decode cX2_ofDraws 37 = .ok (.imul, 1) := by decide +kernel
theorem dX2_ofDraws_38 : decode cX2_ofDraws 38 = .ok (.ldc 88, 2) := by decide +kernel
theorem dX2_ofDraws_40 : decode cX2_ofDraws 40 = .ok (.iadd, 1) := by decide +kernel
theorem dX2_ofDraws_41 : decode cX2_ofDraws 41 = .ok (.istore 4, 2) := by decide +kernel
theorem dX2_ofDraws_43 : decode cX2_ofDraws 43 = .ok (.iconst 1, 1) := by decide +kernel
theorem dX2_ofDraws_44 : decode cX2_ofDraws 44 = .ok (.iconst 2, 1) := by decide +kernel
theorem dX2_ofDraws_45 : decode cX2_ofDraws 45 = .ok (.aload_n 0, 1) := by decide +kernel
theorem dX2_ofDraws_46 : decode cX2_ofDraws 46 = .ok (.getfield 15, 3) := by decide +kernel
theorem dX2_ofDraws_49 : decode cX2_ofDraws 49 = .ok (.getfield 39, 3) := by decide +kernel
theorem dX2_ofDraws_52 : decode cX2_ofDraws 52 = .ok (.iload 6, 2) := by decide +kernel
theorem dX2_ofDraws_54 : decode cX2_ofDraws 54 = .ok (.aaload, 1) := by decide +kernel
theorem dX2_ofDraws_55 : decode cX2_ofDraws 55 = .ok (.iconst 4, 1) := by decide +kernel
theorem dX2_ofDraws_56 : decode cX2_ofDraws 56 = .ok (.iaload, 1) := by decide +kernel
theorem dX2_ofDraws_57 : decode cX2_ofDraws 57 = .ok (.imul, 1) := by decide +kernel
theorem dX2_ofDraws_58 : decode cX2_ofDraws 58 = .ok (.iconst 1, 1) := by decide +kernel
theorem dX2_ofDraws_59 : decode cX2_ofDraws 59 = .ok (.iadd, 1) := by decide +kernel
theorem dX2_ofDraws_60 : decode cX2_ofDraws 60 = .ok (.invokestatic 79, 3) := by decide +kernel
theorem dX2_ofDraws_63 : decode cX2_ofDraws 63 = .ok (.istore 7, 2) := by decide +kernel
theorem dX2_ofDraws_65 : decode cX2_ofDraws 65 = .ok (.iload_n 3, 1) := by decide +kernel
theorem dX2_ofDraws_66 : decode cX2_ofDraws 66 = .ok (.aload_n 0, 1) := by decide +kernel
theorem dX2_ofDraws_67 : decode cX2_ofDraws 67 = .ok (.iload 6, 2) := by decide +kernel
theorem dX2_ofDraws_69 : decode cX2_ofDraws 69 = .ok (.iload 4, 2) := by decide +kernel
theorem dX2_ofDraws_71 : decode cX2_ofDraws 71 = .ok (.ldc 89, 2) := by decide +kernel
theorem dX2_ofDraws_73 : decode cX2_ofDraws 73 = .ok (.iand, 1) := by decide +kernel
theorem dX2_ofDraws_74 : decode cX2_ofDraws 74 = .ok (.sipush 256, 3) := by decide +kernel
theorem dX2_ofDraws_77 : decode cX2_ofDraws 77 = .ok (.idiv, 1) := by decide +kernel
theorem dX2_ofDraws_78 : decode cX2_ofDraws 78 = .ok (.iload 7, 2) := by decide +kernel
theorem dX2_ofDraws_80 : decode cX2_ofDraws 80 = .ok (.irem, 1) := by decide +kernel
theorem dX2_ofDraws_81 : decode cX2_ofDraws 81 = .ok (.invokevirtual 70, 3) := by decide +kernel
theorem dX2_ofDraws_84 : decode cX2_ofDraws 84 = .ok (.iadd, 1) := by decide +kernel
theorem dX2_ofDraws_85 : decode cX2_ofDraws 85 = .ok (.istore_n 3, 1) := by decide +kernel
theorem dX2_ofDraws_86 : decode cX2_ofDraws 86 = .ok (.iinc 6 1, 3) := by decide +kernel
theorem dX2_ofDraws_89 : decode cX2_ofDraws 89 = .ok (.goto (-68), 3) := by decide +kernel
theorem dX2_ofDraws_92 : decode cX2_ofDraws 92 = .ok (.iinc 5 1, 3) := by decide +kernel
theorem dX2_ofDraws_95 : decode cX2_ofDraws 95 = .ok (.goto (-83), 3) := by decide +kernel
theorem dX2_ofDraws_98 : decode cX2_ofDraws 98 = .ok (.iload_n 3, 1) := by decide +kernel
theorem dX2_ofDraws_99 : decode cX2_ofDraws 99 = .ok (.ireturn, 1) := by decide +kernel
theorem dX3_init_0 : decode cX3_init 0 = .ok (.aload_n 0, 1) := by decide +kernel
theorem dX3_init_1 : decode cX3_init 1 = .ok (.invokespecial 3, 3) := by decide +kernel
theorem dX3_init_4 : decode cX3_init 4 = .ok (.aload_n 0, 1) := by decide +kernel
theorem dX3_init_5 : decode cX3_init 5 = .ok (.iconst 3, 1) := by decide +kernel
theorem dX3_init_6 : decode cX3_init 6 = .ok (.newarray .int, 2) := by decide +kernel
theorem dX3_init_8 : decode cX3_init 8 = .ok (.putfield 9, 3) := by decide +kernel
theorem dX3_init_11 : decode cX3_init 11 = .ok (.aload_n 0, 1) := by decide +kernel
theorem dX3_init_12 : decode cX3_init 12 = .ok (.iconst 3, 1) := by decide +kernel
theorem dX3_init_13 : decode cX3_init 13 = .ok (.bipush 28, 2) := by decide +kernel
theorem dX3_init_15 : decode cX3_init 15 = .ok (.multianewarray 15 2, 4) := by decide +kernel
theorem dX3_init_19 : decode cX3_init 19 = .ok (.putfield 17, 3) := by decide +kernel
theorem dX3_init_22 : decode cX3_init 22 = .ok (.aload_n 0, 1) := by decide +kernel
theorem dX3_init_23 : decode cX3_init 23 = .ok (.iconst 3, 1) := by decide +kernel
theorem dX3_init_24 : decode cX3_init 24 = .ok (.newarray .int, 2) := by decide +kernel
theorem dX3_init_26 : decode cX3_init 26 = .ok (.putfield 20, 3) := by decide +kernel
theorem dX3_init_29 : decode cX3_init 29 = .ok (.aload_n 0, 1) := by decide +kernel
theorem dX3_init_30 : decode cX3_init 30 = .ok (.iconst 3, 1) := by decide +kernel
theorem dX3_init_31 : decode cX3_init 31 = .ok (.newarray .int, 2) := by decide +kernel
theorem dX3_init_33 : decode cX3_init 33 = .ok (.putfield 23, 3) := by decide +kernel
theorem dX3_init_36 : decode cX3_init 36 = .ok (.aload_n 0, 1) := by decide +kernel
theorem dX3_init_37 : decode cX3_init 37 = .ok (.aload_n 1, 1) := by decide +kernel
theorem dX3_init_38 : decode cX3_init 38 = .ok (.putfield 26, 3) := by decide +kernel
theorem dX3_init_41 : decode cX3_init 41 = .ok (.aload_n 0, 1) := by decide +kernel
theorem dX3_init_42 : decode cX3_init 42 = .ok (.aload_n 2, 1) := by decide +kernel
theorem dX3_init_43 : decode cX3_init 43 = .ok (.putfield 30, 3) := by decide +kernel
theorem dX3_init_46 : decode cX3_init 46 = .ok (.return_, 1) := by decide +kernel
theorem dX3_make_0 : decode cX3_make 0 = .ok (.aload_n 0, 1) := by decide +kernel
theorem dX3_make_1 : decode cX3_make 1 = .ok (.iconst 0, 1) := by decide +kernel
theorem dX3_make_2 : decode cX3_make 2 = .ok (.putfield 34, 3) := by decide +kernel
theorem dX3_make_5 : decode cX3_make 5 = .ok (.iconst 0, 1) := by decide +kernel
theorem dX3_make_6 : decode cX3_make 6 = .ok (.istore_n 1, 1) := by decide +kernel
theorem dX3_make_7 : decode cX3_make 7 = .ok (.iload_n 1, 1) := by decide +kernel
theorem dX3_make_8 : decode cX3_make 8 = .ok (.aload_n 0, 1) := by decide +kernel
theorem dX3_make_9 : decode cX3_make 9 = .ok (.getfield 26, 3) := by decide +kernel
theorem dX3_make_12 : decode cX3_make 12 = .ok (.getfield 38, 3) := by decide +kernel
theorem dX3_make_15 : decode cX3_make 15 = .ok (.if_icmp .ge 65, 3) := by decide +kernel
theorem dX3_make_18 : decode cX3_make 18 = .ok (.aload_n 0, 1) := by decide +kernel
theorem dX3_make_19 : decode cX3_make 19 = .ok (.getfield 34, 3) := by decide +kernel
theorem dX3_make_22 : decode cX3_make 22 = .ok (.iconst 3, 1) := by decide +kernel
theorem dX3_make_23 : decode cX3_make 23 = .ok (.if_icmp .ge 57, 3) := by decide +kernel
theorem dX3_make_26 : decode cX3_make 26 = .ok (.aload_n 0, 1) := by decide +kernel
theorem dX3_make_27 : decode cX3_make 27 = .ok (.getfield 26, 3) := by decide +kernel
theorem dX3_make_30 : decode cX3_make 30 = .ok (.getfield 43, 3) := by decide +kernel
theorem dX3_make_33 : decode cX3_make 33 = .ok (.iload_n 1, 1) := by decide +kernel
theorem dX3_make_34 : decode cX3_make 34 = .ok (.aaload, 1) := by decide +kernel
theorem dX3_make_35 : decode cX3_make 35 = .ok (.iconst 1, 1) := by decide +kernel
theorem dX3_make_36 : decode cX3_make 36 = .ok (.iaload, 1) := by decide +kernel
theorem dX3_make_37 : decode cX3_make 37 = .ok (.ifCond .ne 37, 3) := by decide +kernel
theorem dX3_make_40 : decode cX3_make 40 = .ok (.aload_n 0, 1) := by decide +kernel
theorem dX3_make_41 : decode cX3_make 41 = .ok (.getfield 9, 3) := by decide +kernel
theorem dX3_make_44 : decode cX3_make 44 = .ok (.aload_n 0, 1) := by decide +kernel
theorem dX3_make_45 : decode cX3_make 45 = .ok (.getfield 34, 3) := by decide +kernel
theorem dX3_make_48 : decode cX3_make 48 = .ok (.iload_n 1, 1) := by decide +kernel
theorem dX3_make_49 : decode cX3_make 49 = .ok (.iastore, 1) := by decide +kernel
theorem dX3_make_50 : decode cX3_make 50 = .ok (.aload_n 0, 1) := by decide +kernel
theorem dX3_make_51 : decode cX3_make 51 = .ok (.iload_n 1, 1) := by decide +kernel
theorem dX3_make_52 : decode cX3_make 52 = .ok (.aload_n 0, 1) := by decide +kernel
theorem dX3_make_53 : decode cX3_make 53 = .ok (.getfield 17, 3) := by decide +kernel
theorem dX3_make_56 : decode cX3_make 56 = .ok (.aload_n 0, 1) := by decide +kernel
theorem dX3_make_57 : decode cX3_make 57 = .ok (.getfield 34, 3) := by decide +kernel
theorem dX3_make_60 : decode cX3_make 60 = .ok (.aaload, 1) := by decide +kernel
theorem dX3_make_61 : decode cX3_make 61 = .ok (.invokevirtual 46, 3) := by decide +kernel
theorem dX3_make_64 : decode cX3_make 64 = .ok (.aload_n 0, 1) := by decide +kernel
theorem dX3_make_65 : decode cX3_make 65 = .ok (.dup, 1) := by decide +kernel
theorem dX3_make_66 : decode cX3_make 66 = .ok (.getfield 34, 3) := by decide +kernel
theorem dX3_make_69 : decode cX3_make 69 = .ok (.iconst 1, 1) := by decide +kernel
theorem dX3_make_70 : decode cX3_make 70 = .ok (.iadd, 1) := by decide +kernel
theorem dX3_make_71 : decode cX3_make 71 = .ok (.putfield 34, 3) := by decide +kernel
theorem dX3_make_74 : decode cX3_make 74 = .ok (.iinc 1 1, 3) := by decide +kernel
theorem dX3_make_77 : decode cX3_make 77 = .ok (.goto (-70), 3) := by decide +kernel
theorem dX3_make_80 : decode cX3_make 80 = .ok (.aload_n 0, 1) := by decide +kernel
theorem dX3_make_81 : decode cX3_make 81 = .ok (.iconst (-1), 1) := by decide +kernel
theorem dX3_make_82 : decode cX3_make 82 = .ok (.putfield 50, 3) := by decide +kernel
theorem dX3_make_85 : decode cX3_make 85 = .ok (.aload_n 0, 1) := by decide +kernel
theorem dX3_make_86 : decode cX3_make 86 = .ok (.iconst 0, 1) := by decide +kernel
theorem dX3_make_87 : decode cX3_make 87 = .ok (.iconst 0, 1) := by decide +kernel
theorem dX3_make_88 : decode cX3_make 88 = .ok (.iconst 0, 1) := by decide +kernel
theorem dX3_make_89 : decode cX3_make 89 = .ok (.invokevirtual 53, 3) := by decide +kernel
theorem dX3_make_92 : decode cX3_make 92 = .ok (.return_, 1) := by decide +kernel
theorem dX3_fillGains_0 : decode cX3_fillGains 0 = .ok (.aload_n 0, 1) := by decide +kernel
theorem dX3_fillGains_1 : decode cX3_fillGains 1 = .ok (.getfield 26, 3) := by decide +kernel
theorem dX3_fillGains_4 : decode cX3_fillGains 4 = .ok (.getfield 43, 3) := by decide +kernel
theorem dX3_fillGains_7 : decode cX3_fillGains 7 = .ok (.iload_n 1, 1) := by decide +kernel
theorem dX3_fillGains_8 : decode cX3_fillGains 8 = .ok (.aaload, 1) := by decide +kernel
theorem dX3_fillGains_9 : decode cX3_fillGains 9 = .ok (.astore_n 3, 1) := by decide +kernel
theorem dX3_fillGains_10 : decode cX3_fillGains 10 = .ok (.aload_n 0, 1) := by decide +kernel
theorem dX3_fillGains_11 : decode cX3_fillGains 11 = .ok (.getfield 30, 3) := by decide +kernel
theorem dX3_fillGains_14 : decode cX3_fillGains 14 = .ok (.iload_n 1, 1) := by decide +kernel
theorem dX3_fillGains_15 : decode cX3_fillGains 15 = .ok (.invokevirtual 57, 3) := by decide +kernel
theorem dX3_fillGains_18 : decode cX3_fillGains 18 = .ok (.iconst 0, 1) := by decide +kernel
theorem dX3_fillGains_19 : decode cX3_fillGains 19 = .ok (.istore 4, 2) := by decide +kernel
theorem dX3_fillGains_21 : decode cX3_fillGains 21 = .ok (.iload 4, 2) := by decide +kernel
theorem dX3_fillGains_23 : decode cX3_fillGains 23 = .ok (.bipush 28, 2) := by decide +kernel
theorem dX3_fillGains_25 : decode cX3_fillGains 25 = .ok (.if_icmp .ge 63, 3) := by decide +kernel
theorem dX3_fillGains_28 : decode cX3_fillGains 28 = .ok (.aload_n 2, 1) := by decide +kernel
theorem dX3_fillGains_29 : decode cX3_fillGains 29 = .ok (.iload 4, 2) := by decide +kernel
theorem dX3_fillGains_31 : decode cX3_fillGains 31 = .ok (.iconst 0, 1) := by decide +kernel
theorem dX3_fillGains_32 : decode cX3_fillGains 32 = .ok (.iastore, 1) := by decide +kernel
theorem dX3_fillGains_33 : decode cX3_fillGains 33 = .ok (.iload 4, 2) := by decide +kernel
theorem dX3_fillGains_35 : decode cX3_fillGains 35 = .ok (.aload_n 3, 1) := by decide +kernel
theorem dX3_fillGains_36 : decode cX3_fillGains 36 = .ok (.iconst 2, 1) := by decide +kernel
theorem dX3_fillGains_37 : decode cX3_fillGains 37 = .ok (.iaload, 1) := by decide +kernel
theorem dX3_fillGains_38 : decode cX3_fillGains 38 = .ok (.iadd, 1) := by decide +kernel
theorem dX3_fillGains_39 : decode cX3_fillGains 39 = .ok (.iconst 1, 1) := by decide +kernel
theorem dX3_fillGains_40 : decode cX3_fillGains 40 = .ok (.isub, 1) := by decide +kernel
theorem dX3_fillGains_41 : decode cX3_fillGains 41 = .ok (.aload_n 3, 1) := by decide +kernel
theorem dX3_fillGains_42 : decode cX3_fillGains 42 = .ok (.iconst 3, 1) := by decide +kernel
theorem dX3_fillGains_43 : decode cX3_fillGains 43 = .ok (.iaload, 1) := by decide +kernel
theorem dX3_fillGains_44 : decode cX3_fillGains 44 = .ok (.if_icmp .gt 38, 3) := by decide +kernel
theorem dX3_fillGains_47 : decode cX3_fillGains 47 = .ok (.aload_n 0, 1) := by decide +kernel
theorem dX3_fillGains_48 : decode cX3_fillGains 48 = .ok (.getfield 30, 3) := by decide +kernel
theorem dX3_fillGains_51 : decode cX3_fillGains 51 = .ok (.iload 4, 2) := by decide +kernel
theorem dX3_fillGains_53 : decode cX3_fillGains 53 = .ok (.aload_n 3, 1) := by decide +kernel
theorem dX3_fillGains_54 : decode cX3_fillGains 54 = .ok (.iconst 2, 1) := by decide +kernel
theorem dX3_fillGains_55 : decode cX3_fillGains 55 = .ok (.iaload, 1) := by decide +kernel
theorem dX3_fillGains_56 : decode cX3_fillGains 56 = .ok (.invokevirtual 63, 3) := by decide +kernel
theorem dX3_fillGains_59 : decode cX3_fillGains 59 = .ok (.istore 5, 2) := by decide +kernel
theorem dX3_fillGains_61 : decode cX3_fillGains 61 = .ok (.aload_n 2, 1) := by decide +kernel
theorem dX3_fillGains_62 : decode cX3_fillGains 62 = .ok (.iload 4, 2) := by decide +kernel
theorem dX3_fillGains_64 : decode cX3_fillGains 64 = .ok (.iload 5, 2) := by decide +kernel
theorem dX3_fillGains_66 : decode cX3_fillGains 66 = .ok (.bipush (-9), 2) := by decide +kernel
theorem dX3_fillGains_68 : decode cX3_fillGains 68 = .ok (.if_icmp .ne 7, 3) := by decide +kernel
theorem dX3_fillGains_71 : decode cX3_fillGains 71 = .ok (.iconst 0, 1) := by decide +kernel
theorem dX3_fillGains_72 : decode cX3_fillGains 72 = .ok (.goto 9, 3) := by decide +kernel
theorem dX3_fillGains_75 : decode cX3_fillGains 75 = .ok (.aload_n 3, 1) := by decide +kernel
theorem dX3_fillGains_76 : decode cX3_fillGains 76 = .ok (.iconst 4, 1) := by decide +kernel
theorem dX3_fillGains_77 : decode cX3_fillGains 77 = .ok (.iaload, 1) := by decide +kernel
theorem dX3_fillGains_78 : decode cX3_fillGains 78 = .ok (.iload 5, 2) := by decide +kernel
theorem dX3_fillGains_80 : decode cX3_fillGains 80 = .ok (.isub, 1) := by decide +kernel
theorem dX3_fillGains_81 : decode cX3_fillGains 81 = .ok (.iastore, 1) := by decide +kernel
theorem dX3_fillGains_82 : decode cX3_fillGains 82 = .ok (.iinc 4 1, 3) := by decide +kernel
theorem dX3_fillGains_85 : decode cX3_fillGains 85 = .ok (.goto (-64), 3) := by decide +kernel
theorem dX3_fillGains_88 : decode cX3_fillGains 88 = .ok (.return_, 1) := by decide +kernel
theorem dX3_tryRow_0 : decode cX3_tryRow 0 = .ok (.iload_n 1, 1) := by decide +kernel
theorem dX3_tryRow_1 : decode cX3_tryRow 1 = .ok (.aload_n 0, 1) := by decide +kernel
theorem dX3_tryRow_2 : decode cX3_tryRow 2 = .ok (.getfield 34, 3) := by decide +kernel
theorem dX3_tryRow_5 : decode cX3_tryRow 5 = .ok (.if_icmp .lt 31, 3) := by decide +kernel
theorem dX3_tryRow_8 : decode cX3_tryRow 8 = .ok (.iload_n 3, 1) := by decide +kernel
theorem dX3_tryRow_9 : decode cX3_tryRow 9 = .ok (.aload_n 0, 1) := by decide +kernel
theorem dX3_tryRow_10 : decode cX3_tryRow 10 = .ok (.getfield 50, 3) := by decide +kernel
theorem dX3_tryRow_13 : decode cX3_tryRow 13 = .ok (.if_icmp .le 22, 3) := by decide +kernel
theorem dX3_tryRow_16 : decode cX3_tryRow 16 = .ok (.aload_n 0, 1) := by decide +kernel
theorem dX3_tryRow_17 : decode cX3_tryRow 17 = .ok (.iload_n 3, 1) := by decide +kernel
theorem dX3_tryRow_18 : decode cX3_tryRow 18 = .ok (.putfield 50, 3) := by decide +kernel
theorem dX3_tryRow_21 : decode cX3_tryRow 21 = .ok (.aload_n 0, 1) := by decide +kernel
theorem dX3_tryRow_22 : decode cX3_tryRow 22 = .ok (.getfield 20, 3) := by decide +kernel
theorem dX3_tryRow_25 : decode cX3_tryRow 25 = .ok (.iconst 0, 1) := by decide +kernel
theorem dX3_tryRow_26 : decode cX3_tryRow 26 = .ok (.aload_n 0, 1) := by decide +kernel
theorem dX3_tryRow_27 : decode cX3_tryRow 27 = .ok (.getfield 23, 3) := by decide +kernel
theorem dX3_tryRow_30 : decode cX3_tryRow 30 = .ok (.iconst 0, 1) := by decide +kernel
theorem dX3_tryRow_31 : decode cX3_tryRow 31 = .ok (.iconst 3, 1) := by decide +kernel
theorem dX3_tryRow_32 : decode cX3_tryRow 32 = .ok (.invokestatic 67, 3) := by decide +kernel
theorem dX3_tryRow_35 : decode cX3_tryRow 35 = .ok (.return_, 1) := by decide +kernel
theorem dX3_tryRow_36 : decode cX3_tryRow 36 = .ok (.aload_n 0, 1) := by decide +kernel
theorem dX3_tryRow_37 : decode cX3_tryRow 37 = .ok (.getfield 20, 3) := by decide +kernel
theorem dX3_tryRow_40 : decode cX3_tryRow 40 = .ok (.iload_n 1, 1) := by decide +kernel
theorem dX3_tryRow_41 : decode cX3_tryRow 41 = .ok (.bipush (-9), 2) := by decide +kernel
theorem dX3_tryRow_43 : decode cX3_tryRow 43 = .ok (.iastore, 1) := by decide +kernel
theorem dX3_tryRow_44 : decode cX3_tryRow 44 = .ok (.aload_n 0, 1) := by decide +kernel
theorem dX3_tryRow_45 : decode cX3_tryRow 45 = .ok (.iload_n 1, 1) := by decide +kernel
theorem dX3_tryRow_46 : decode cX3_tryRow 46 = .ok (.iconst 1, 1) := by decide +kernel
theorem dX3_tryRow_47 : decode cX3_tryRow 47 = .ok (.iadd, 1) := by decide +kernel
theorem dX3_tryRow_48 : decode cX3_tryRow 48 = .ok (.iload_n 2, 1) := by decide +kernel
theorem dX3_tryRow_49 : decode cX3_tryRow 49 = .ok (.iload_n 3, 1) := by decide +kernel
theorem dX3_tryRow_50 : decode cX3_tryRow 50 = .ok (.invokevirtual 53, 3) := by decide +kernel
theorem dX3_tryRow_53 : decode cX3_tryRow 53 = .ok (.aload_n 0, 1) := by decide +kernel
theorem dX3_tryRow_54 : decode cX3_tryRow 54 = .ok (.getfield 26, 3) := by decide +kernel
theorem dX3_tryRow_57 : decode cX3_tryRow 57 = .ok (.getfield 43, 3) := by decide +kernel
theorem dX3_tryRow_60 : decode cX3_tryRow 60 = .ok (.aload_n 0, 1) := by decide +kernel
theorem dX3_tryRow_61 : decode cX3_tryRow 61 = .ok (.getfield 9, 3) := by decide +kernel
theorem dX3_tryRow_64 : decode cX3_tryRow 64 = .ok (.iload_n 1, 1) := by decide +kernel
theorem dX3_tryRow_65 : decode cX3_tryRow 65 = .ok (.iaload, 1) := by decide +kernel
theorem dX3_tryRow_66 : decode cX3_tryRow 66 = .ok (.aaload, 1) := by decide +kernel
theorem dX3_tryRow_67 : decode cX3_tryRow 67 = .ok (.iconst 2, 1) := by decide +kernel
theorem dX3_tryRow_68 : decode cX3_tryRow 68 = .ok (.iaload, 1) := by decide +kernel
theorem dX3_tryRow_69 : decode cX3_tryRow 69 = .ok (.istore 4, 2) := by decide +kernel
theorem dX3_tryRow_71 : decode cX3_tryRow 71 = .ok (.iconst 0, 1) := by decide +kernel
theorem dX3_tryRow_72 : decode cX3_tryRow 72 = .ok (.istore 5, 2) := by decide +kernel
theorem dX3_tryRow_74 : decode cX3_tryRow 74 = .ok (.iload 5, 2) := by decide +kernel
theorem dX3_tryRow_76 : decode cX3_tryRow 76 = .ok (.bipush 28, 2) := by decide +kernel
theorem dX3_tryRow_78 : decode cX3_tryRow 78 = .ok (.if_icmp .ge 67, 3) := by decide +kernel
theorem dX3_tryRow_81 : decode cX3_tryRow 81 = .ok (.iload 5, 2) := by decide +kernel
theorem dX3_tryRow_83 : decode cX3_tryRow 83 = .ok (.iload 4, 2) := by decide +kernel
theorem dX3_tryRow_85 : decode cX3_tryRow 85 = .ok (.invokestatic 73, 3) := by decide +kernel
theorem dX3_tryRow_88 : decode cX3_tryRow 88 = .ok (.istore 6, 2) := by decide +kernel
theorem dX3_tryRow_90 : decode cX3_tryRow 90 = .ok (.aload_n 0, 1) := by decide +kernel
theorem dX3_tryRow_91 : decode cX3_tryRow 91 = .ok (.getfield 17, 3) := by decide +kernel
theorem dX3_tryRow_94 : decode cX3_tryRow 94 = .ok (.iload_n 1, 1) := by decide +kernel
theorem dX3_tryRow_95 : decode cX3_tryRow 95 = .ok (.aaload, 1) := by decide +kernel
theorem dX3_tryRow_96 : decode cX3_tryRow 96 = .ok (.iload 5, 2) := by decide +kernel
theorem dX3_tryRow_98 : decode cX3_tryRow 98 = .ok (.iaload, 1) := by decide +kernel
theorem dX3_tryRow_99 : decode cX3_tryRow 99 = .ok (.ifCond .le 40, 3) := by decide +kernel
theorem dX3_tryRow_102 : decode cX3_tryRow 102 = .ok (.iload_n 2, 1) := by decide +kernel
theorem dX3_tryRow_103 : decode cX3_tryRow 103 = .ok (.iload 6, 2) := by decide +kernel
theorem dX3_tryRow_105 : decode cX3_tryRow 105 = .ok (.iand, 1) := by decide +kernel
theorem dX3_tryRow_106 : decode cX3_tryRow 106 = .ok (.ifCond .ne 33, 3) := by decide +kernel
theorem dX3_tryRow_109 : decode cX3_tryRow 109 = .ok (.aload_n 0, 1) := by decide +kernel
theorem dX3_tryRow_110 : decode cX3_tryRow 110 = .ok (.getfield 20, 3) := by decide +kernel
theorem dX3_tryRow_113 : decode cX3_tryRow 113 = .ok (.iload_n 1, 1) := by decide +kernel
theorem dX3_tryRow_114 : decode cX3_tryRow 114 = .ok (.iload 5, 2) := by decide +kernel
theorem dX3_tryRow_116 : decode cX3_tryRow 116 = .ok (.iastore, 1) := by decide +kernel
theorem dX3_tryRow_117 : decode cX3_tryRow 117 = .ok (.aload_n 0, 1) := by decide +kernel
theorem dX3_tryRow_118 : decode cX3_tryRow 118 = .ok (.iload_n 1, 1) := by decide +kernel
theorem dX3_tryRow_119 : decode cX3_tryRow 119 = .ok (.iconst 1, 1) := by decide +kernel
theorem dX3_tryRow_120 : decode cX3_tryRow 120 = .ok (.iadd, 1) := by decide +kernel
theorem dX3_tryRow_121 : decode cX3_tryRow 121 = .ok (.iload_n 2, 1) := by decide +kernel
theorem dX3_tryRow_122 : decode cX3_tryRow 122 = .ok (.iload 6, 2) := by decide +kernel
theorem dX3_tryRow_124 : decode cX3_tryRow 124 = .ok (.ior, 1) := by decide +kernel
theorem dX3_tryRow_125 : decode cX3_tryRow 125 = .ok (.iload_n 3, 1) := by decide +kernel
theorem dX3_tryRow_126 : decode cX3_tryRow 126 = .ok (.aload_n 0, 1) := by decide +kernel
theorem dX3_tryRow_127 : decode cX3_tryRow 127 = .ok (.getfield 17, 3) := by decide +kernel
theorem dX3_tryRow_130 : decode cX3_tryRow 130 = .ok (.iload_n 1, 1) := by decide +kernel
theorem dX3_tryRow_131 : decode cX3_tryRow 131 = .ok (.aaload, 1) := by decide +kernel
theorem dX3_tryRow_132 : decode cX3_tryRow 132 = .ok (.iload 5, 2) := by decide +kernel
theorem dX3_tryRow_134 : decode cX3_tryRow 134 = .ok (.iaload, 1) := by decide +kernel
theorem dX3_tryRow_135 : decode cX3_tryRow 135 = .ok (.iadd, 1) := by decide +kernel
theorem dX3_tryRow_136 : decode cX3_tryRow 136 = .ok (.invokevirtual 53, 3) := by decide +kernel
theorem dX3_tryRow_139 : decode cX3_tryRow 139 = .ok (.iinc 5 1, 3) := by decide +kernel
theorem dX3_tryRow_142 : decode cX3_tryRow 142 = .ok (.goto (-68), 3) := by decide +kernel
theorem dX3_tryRow_145 : decode cX3_tryRow 145 = .ok (.return_, 1) := by decide +kernel
theorem dX3_beginOf_0 : decode cX3_beginOf 0 = .ok (.iconst 0, 1) := by decide +kernel
theorem dX3_beginOf_1 : decode cX3_beginOf 1 = .ok (.istore_n 2, 1) := by decide +kernel
theorem dX3_beginOf_2 : decode cX3_beginOf 2 = .ok (.iload_n 2, 1) := by decide +kernel
theorem dX3_beginOf_3 : decode cX3_beginOf 3 = .ok (.aload_n 0, 1) := by decide +kernel
theorem dX3_beginOf_4 : decode cX3_beginOf 4 = .ok (.getfield 34, 3) := by decide +kernel
theorem dX3_beginOf_7 : decode cX3_beginOf 7 = .ok (.if_icmp .ge 26, 3) := by decide +kernel
theorem dX3_beginOf_10 : decode cX3_beginOf 10 = .ok (.aload_n 0, 1) := by decide +kernel
theorem dX3_beginOf_11 : decode cX3_beginOf 11 = .ok (.getfield 9, 3) := by decide +kernel
theorem dX3_beginOf_14 : decode cX3_beginOf 14 = .ok (.iload_n 2, 1) := by decide +kernel
theorem dX3_beginOf_15 : decode cX3_beginOf 15 = .ok (.iaload, 1) := by decide +kernel
theorem dX3_beginOf_16 : decode cX3_beginOf 16 = .ok (.iload_n 1, 1) := by decide +kernel
theorem dX3_beginOf_17 : decode cX3_beginOf 17 = .ok (.if_icmp .ne 10, 3) := by decide +kernel
theorem dX3_beginOf_20 : decode cX3_beginOf 20 = .ok (.aload_n 0, 1) := by decide +kernel
theorem dX3_beginOf_21 : decode cX3_beginOf 21 = .ok (.getfield 23, 3) := by decide +kernel
theorem dX3_beginOf_24 : decode cX3_beginOf 24 = .ok (.iload_n 2, 1) := by decide +kernel
theorem dX3_beginOf_25 : decode cX3_beginOf 25 = .ok (.iaload, 1) := by decide +kernel
theorem dX3_beginOf_26 : decode cX3_beginOf 26 = .ok (.ireturn, 1) := by decide +kernel
theorem dX3_beginOf_27 : decode cX3_beginOf 27 = .ok (.iinc 2 1, 3) := by decide +kernel
theorem dX3_beginOf_30 : decode cX3_beginOf 30 = .ok (.goto (-28), 3) := by decide +kernel
theorem dX3_beginOf_33 : decode cX3_beginOf 33 = .ok (.bipush (-9), 2) := by decide +kernel
theorem dX3_beginOf_35 : decode cX3_beginOf 35 = .ok (.ireturn, 1) := by decide +kernel
theorem dX4_init_0 : decode cX4_init 0 = .ok (.aload_n 0, 1) := by decide +kernel
theorem dX4_init_1 : decode cX4_init 1 = .ok (.invokespecial 3, 3) := by decide +kernel
theorem dX4_init_4 : decode cX4_init 4 = .ok (.aload_n 0, 1) := by decide +kernel
theorem dX4_init_5 : decode cX4_init 5 = .ok (.bipush 28, 2) := by decide +kernel
theorem dX4_init_7 : decode cX4_init 7 = .ok (.newarray .int, 2) := by decide +kernel
theorem dX4_init_9 : decode cX4_init 9 = .ok (.putfield 9, 3) := by decide +kernel
theorem dX4_init_12 : decode cX4_init 12 = .ok (.aload_n 0, 1) := by decide +kernel
theorem dX4_init_13 : decode cX4_init 13 = .ok (.aload_n 1, 1) := by decide +kernel
theorem dX4_init_14 : decode cX4_init 14 = .ok (.putfield 15, 3) := by decide +kernel
theorem dX4_init_17 : decode cX4_init 17 = .ok (.aload_n 0, 1) := by decide +kernel
theorem dX4_init_18 : decode cX4_init 18 = .ok (.aload_n 2, 1) := by decide +kernel
theorem dX4_init_19 : decode cX4_init 19 = .ok (.putfield 19, 3) := by decide +kernel
theorem dX4_init_22 : decode cX4_init 22 = .ok (.return_, 1) := by decide +kernel
theorem dX4_put_0 : decode cX4_put 0 = .ok (.aload_n 0, 1) := by decide +kernel
theorem dX4_put_1 : decode cX4_put 1 = .ok (.getfield 23, 3) := by decide +kernel
theorem dX4_put_4 : decode cX4_put 4 = .ok (.bipush 28, 2) := by decide +kernel
theorem dX4_put_6 : decode cX4_put 6 = .ok (.if_icmp .ge 23, 3) := by decide +kernel
theorem dX4_put_9 : decode cX4_put 9 = .ok (.aload_n 0, 1) := by decide +kernel
theorem dX4_put_10 : decode cX4_put 10 = .ok (.getfield 9, 3) := by decide +kernel
theorem dX4_put_13 : decode cX4_put 13 = .ok (.aload_n 0, 1) := by decide +kernel
theorem dX4_put_14 : decode cX4_put 14 = .ok (.getfield 23, 3) := by decide +kernel
theorem dX4_put_17 : decode cX4_put 17 = .ok (.iload_n 1, 1) := by decide +kernel
theorem dX4_put_18 : decode cX4_put 18 = .ok (.iastore, 1) := by decide +kernel
theorem dX4_put_19 : decode cX4_put 19 = .ok (.aload_n 0, 1) := by decide +kernel
theorem dX4_put_20 : decode cX4_put 20 = .ok (.dup, 1) := by decide +kernel
theorem dX4_put_21 : decode cX4_put 21 = .ok (.getfield 23, 3) := by decide +kernel
theorem dX4_put_24 : decode cX4_put 24 = .ok (.iconst 1, 1) := by decide +kernel
theorem dX4_put_25 : decode cX4_put 25 = .ok (.iadd, 1) := by decide +kernel
theorem dX4_put_26 : decode cX4_put 26 = .ok (.putfield 23, 3) := by decide +kernel
theorem dX4_put_29 : decode cX4_put 29 = .ok (.return_, 1) := by decide +kernel
theorem dX4_firstWrongHour_0 : decode cX4_firstWrongHour 0 = .ok (.iconst 0, 1) := by decide +kernel
theorem dX4_firstWrongHour_1 : decode cX4_firstWrongHour 1 = .ok (.istore_n 1, 1) := by decide +kernel
theorem dX4_firstWrongHour_2 : decode cX4_firstWrongHour 2 = .ok (.iload_n 1, 1) := by decide +kernel
theorem dX4_firstWrongHour_3 : decode cX4_firstWrongHour 3 = .ok (.aload_n 0, 1) := by decide +kernel
theorem dX4_firstWrongHour_4 : decode cX4_firstWrongHour 4 = .ok (.getfield 23, 3) := by decide +kernel
theorem dX4_firstWrongHour_7 : decode cX4_firstWrongHour 7 = .ok (.if_icmp .ge 36, 3) := by decide +kernel
theorem dX4_firstWrongHour_10 : decode cX4_firstWrongHour 10 = .ok (.aload_n 0, 1) := by decide +kernel
theorem dX4_firstWrongHour_11 : decode cX4_firstWrongHour 11 = .ok (.getfield 9, 3) := by decide +kernel
theorem dX4_firstWrongHour_14 : decode cX4_firstWrongHour 14 = .ok (.iload_n 1, 1) := by decide +kernel
theorem dX4_firstWrongHour_15 : decode cX4_firstWrongHour 15 = .ok (.iaload, 1) := by decide +kernel
theorem dX4_firstWrongHour_16 : decode cX4_firstWrongHour 16 = .ok (.bipush 9, 2) := by decide +kernel
theorem dX4_firstWrongHour_18 : decode cX4_firstWrongHour 18 = .ok (.if_icmp .eq 19, 3) := by decide +kernel
theorem dX4_firstWrongHour_21 : decode cX4_firstWrongHour 21 = .ok (.aload_n 0, 1) := by decide +kernel
theorem dX4_firstWrongHour_22 : decode cX4_firstWrongHour 22 = .ok (.aload_n 0, 1) := by decide +kernel
theorem dX4_firstWrongHour_23 : decode cX4_firstWrongHour 23 = .ok (.getfield 9, 3) := by decide +kernel
theorem dX4_firstWrongHour_26 : decode cX4_firstWrongHour 26 = .ok (.iload_n 1, 1) := by decide +kernel
theorem dX4_firstWrongHour_27 : decode cX4_firstWrongHour 27 = .ok (.iaload, 1) := by decide +kernel
theorem dX4_firstWrongHour_28 : decode cX4_firstWrongHour 28 = .ok (.iload_n 1, 1) := by decide +kernel
theorem dX4_firstWrongHour_29 : decode cX4_firstWrongHour 29 = .ok (.invokevirtual 27, 3) := by decide +kernel
theorem dX4_firstWrongHour_32 : decode cX4_firstWrongHour 32 = .ok (.ifCond .ne 5, 3) := by decide +kernel
theorem dX4_firstWrongHour_35 : decode cX4_firstWrongHour 35 = .ok (.iload_n 1, 1) := by decide +kernel
theorem dX4_firstWrongHour_36 : decode cX4_firstWrongHour 36 = .ok (.ireturn, 1) := by decide +kernel
theorem dX4_firstWrongHour_37 : decode cX4_firstWrongHour 37 = .ok (.iinc 1 1, 3) := by decide +kernel
theorem dX4_firstWrongHour_40 : decode cX4_firstWrongHour 40 = .ok (.goto (-38), 3) := by decide +kernel
theorem dX4_firstWrongHour_43 : decode cX4_firstWrongHour 43 = .ok (.bipush (-9), 2) := by decide +kernel
theorem dX4_firstWrongHour_45 : decode cX4_firstWrongHour 45 = .ok (.ireturn, 1) := by decide +kernel
theorem dX4_mayBeWorked_0 : decode cX4_mayBeWorked 0 = .ok (.aload_n 0, 1) := by decide +kernel
theorem dX4_mayBeWorked_1 : decode cX4_mayBeWorked 1 = .ok (.getfield 15, 3) := by decide +kernel
theorem dX4_mayBeWorked_4 : decode cX4_mayBeWorked 4 = .ok (.iload_n 1, 1) := by decide +kernel
theorem dX4_mayBeWorked_5 : decode cX4_mayBeWorked 5 = .ok (.invokevirtual 31, 3) := by decide +kernel
theorem dX4_mayBeWorked_8 : decode cX4_mayBeWorked 8 = .ok (.ifCond .eq 36, 3) := by decide +kernel
theorem dX4_mayBeWorked_11 : decode cX4_mayBeWorked 11 = .ok (.iload_n 2, 1) := by decide +kernel
theorem dX4_mayBeWorked_12 : decode cX4_mayBeWorked 12 = .ok (.aload_n 0, 1) := by decide +kernel
theorem dX4_mayBeWorked_13 : decode cX4_mayBeWorked 13 = .ok (.getfield 15, 3) := by decide +kernel
theorem dX4_mayBeWorked_16 : decode cX4_mayBeWorked 16 = .ok (.getfield 37, 3) := by decide +kernel
theorem dX4_mayBeWorked_19 : decode cX4_mayBeWorked 19 = .ok (.iload_n 1, 1) := by decide +kernel
theorem dX4_mayBeWorked_20 : decode cX4_mayBeWorked 20 = .ok (.aaload, 1) := by decide +kernel
theorem dX4_mayBeWorked_21 : decode cX4_mayBeWorked 21 = .ok (.iconst 3, 1) := by decide +kernel
theorem dX4_mayBeWorked_22 : decode cX4_mayBeWorked 22 = .ok (.iaload, 1) := by decide +kernel
theorem dX4_mayBeWorked_23 : decode cX4_mayBeWorked 23 = .ok (.if_icmp .gt 21, 3) := by decide +kernel
theorem dX4_mayBeWorked_26 : decode cX4_mayBeWorked 26 = .ok (.aload_n 0, 1) := by decide +kernel
theorem dX4_mayBeWorked_27 : decode cX4_mayBeWorked 27 = .ok (.getfield 19, 3) := by decide +kernel
theorem dX4_mayBeWorked_30 : decode cX4_mayBeWorked 30 = .ok (.iload_n 1, 1) := by decide +kernel
theorem dX4_mayBeWorked_31 : decode cX4_mayBeWorked 31 = .ok (.iload_n 2, 1) := by decide +kernel
theorem dX4_mayBeWorked_32 : decode cX4_mayBeWorked 32 = .ok (.invokevirtual 41, 3) := by decide +kernel
theorem dX4_mayBeWorked_35 : decode cX4_mayBeWorked 35 = .ok (.bipush (-9), 2) := by decide +kernel
theorem dX4_mayBeWorked_37 : decode cX4_mayBeWorked 37 = .ok (.if_icmp .eq 7, 3) := by decide +kernel
theorem dX4_mayBeWorked_40 : decode cX4_mayBeWorked 40 = .ok (.iconst 1, 1) := by decide +kernel
theorem dX4_mayBeWorked_41 : decode cX4_mayBeWorked 41 = .ok (.goto 4, 3) := by decide +kernel
theorem dX4_mayBeWorked_44 : decode cX4_mayBeWorked 44 = .ok (.iconst 0, 1) := by decide +kernel
theorem dX4_mayBeWorked_45 : decode cX4_mayBeWorked 45 = .ok (.ireturn, 1) := by decide +kernel
theorem dX4_firstNotDone_0 : decode cX4_firstNotDone 0 = .ok (.iconst 0, 1) := by decide +kernel
theorem dX4_firstNotDone_1 : decode cX4_firstNotDone 1 = .ok (.istore_n 1, 1) := by decide +kernel
theorem dX4_firstNotDone_2 : decode cX4_firstNotDone 2 = .ok (.iload_n 1, 1) := by decide +kernel
theorem dX4_firstNotDone_3 : decode cX4_firstNotDone 3 = .ok (.aload_n 0, 1) := by decide +kernel
theorem dX4_firstNotDone_4 : decode cX4_firstNotDone 4 = .ok (.getfield 15, 3) := by decide +kernel
theorem dX4_firstNotDone_7 : decode cX4_firstNotDone 7 = .ok (.getfield 47, 3) := by decide +kernel
theorem dX4_firstNotDone_10 : decode cX4_firstNotDone 10 = .ok (.if_icmp .ge 19, 3) := by decide +kernel
theorem dX4_firstNotDone_13 : decode cX4_firstNotDone 13 = .ok (.aload_n 0, 1) := by decide +kernel
theorem dX4_firstNotDone_14 : decode cX4_firstNotDone 14 = .ok (.iload_n 1, 1) := by decide +kernel
theorem dX4_firstNotDone_15 : decode cX4_firstNotDone 15 = .ok (.invokevirtual 50, 3) := by decide +kernel
theorem dX4_firstNotDone_18 : decode cX4_firstNotDone 18 = .ok (.ifCond .ne 5, 3) := by decide +kernel
theorem dX4_firstNotDone_21 : decode cX4_firstNotDone 21 = .ok (.iload_n 1, 1) := by decide +kernel
theorem dX4_firstNotDone_22 : decode cX4_firstNotDone 22 = .ok (.ireturn, 1) := by decide +kernel
theorem dX4_firstNotDone_23 : decode cX4_firstNotDone 23 = .ok (.iinc 1 1, 3) := by decide +kernel
theorem dX4_firstNotDone_26 : decode cX4_firstNotDone 26 = .ok (.goto (-24), 3) := by decide +kernel
theorem dX4_firstNotDone_29 : decode cX4_firstNotDone 29 = .ok (.bipush (-9), 2) := by decide +kernel
theorem dX4_firstNotDone_31 : decode cX4_firstNotDone 31 = .ok (.ireturn, 1) := by decide +kernel
theorem dX4_isDone_0 : decode cX4_isDone 0 = .ok (.aload_n 0, 1) := by decide +kernel
theorem dX4_isDone_1 : decode cX4_isDone 1 = .ok (.getfield 15, 3) := by decide +kernel
theorem dX4_isDone_4 : decode cX4_isDone 4 = .ok (.getfield 37, 3) := by decide +kernel
theorem dX4_isDone_7 : decode cX4_isDone 7 = .ok (.iload_n 1, 1) := by decide +kernel
theorem dX4_isDone_8 : decode cX4_isDone 8 = .ok (.aaload, 1) := by decide +kernel
theorem dX4_isDone_9 : decode cX4_isDone 9 = .ok (.astore_n 2, 1) := by decide +kernel
theorem dX4_isDone_10 : decode cX4_isDone 10 = .ok (.iconst 0, 1) := by decide +kernel
theorem dX4_isDone_11 : decode cX4_isDone 11 = .ok (.istore_n 3, 1) := by decide +kernel
theorem dX4_isDone_12 : decode cX4_isDone 12 = .ok (.bipush (-9), 2) := by decide +kernel
theorem dX4_isDone_14 : decode cX4_isDone 14 = .ok (.istore 4, 2) := by decide +kernel
theorem dX4_isDone_16 : decode cX4_isDone 16 = .ok (.iconst 0, 1) := by decide +kernel
theorem dX4_isDone_17 : decode cX4_isDone 17 = .ok (.istore 5, 2) := by decide +kernel
theorem dX4_isDone_19 : decode cX4_isDone 19 = .ok (.iload 5, 2) := by decide +kernel
theorem dX4_isDone_21 : decode cX4_isDone 21 = .ok (.aload_n 0, 1) := by decide +kernel
theorem dX4_isDone_22 : decode cX4_isDone 22 = .ok (.getfield 23, 3) := by decide +kernel
theorem dX4_isDone_25 : decode cX4_isDone 25 = .ok (.if_icmp .ge 50, 3) := by decide +kernel
theorem dX4_isDone_28 : decode cX4_isDone 28 = .ok (.aload_n 0, 1) := by decide +kernel
theorem dX4_isDone_29 : decode cX4_isDone 29 = .ok (.getfield 9, 3) := by decide +kernel
theorem dX4_isDone_32 : decode cX4_isDone 32 = .ok (.iload 5, 2) := by decide +kernel
theorem dX4_isDone_34 : decode cX4_isDone 34 = .ok (.iaload, 1) := by decide +kernel
theorem dX4_isDone_35 : decode cX4_isDone 35 = .ok (.iload_n 1, 1) := by decide +kernel
theorem dX4_isDone_36 : decode cX4_isDone 36 = .ok (.if_icmp .eq 6, 3) := by decide +kernel
theorem dX4_isDone_39 : decode cX4_isDone 39 = .ok (.goto 30, 3) := by decide +kernel
theorem dX4_isDone_42 : decode cX4_isDone 42 = .ok (.iload 4, 2) := by decide +kernel
theorem dX4_isDone_44 : decode cX4_isDone 44 = .ok (.bipush (-9), 2) := by decide +kernel
theorem dX4_isDone_46 : decode cX4_isDone 46 = .ok (.if_icmp .eq 16, 3) := by decide +kernel
theorem dX4_isDone_49 : decode cX4_isDone 49 = .ok (.aload_n 2, 1) := by decide +kernel
theorem dX4_isDone_50 : decode cX4_isDone 50 = .ok (.iload 4, 2) := by decide +kernel
theorem dX4_isDone_52 : decode cX4_isDone 52 = .ok (.iload 5, 2) := by decide +kernel
theorem dX4_isDone_54 : decode cX4_isDone 54 = .ok (.invokestatic 53, 3) := by decide +kernel
theorem dX4_isDone_57 : decode cX4_isDone 57 = .ok (.ifCond .ne 5, 3) := by decide +kernel
theorem dX4_isDone_60 : decode cX4_isDone 60 = .ok (.iconst 0, 1) := by decide +kernel
theorem dX4_isDone_61 : decode cX4_isDone 61 = .ok (.ireturn, 1) := by decide +kernel
theorem dX4_isDone_62 : decode cX4_isDone 62 = .ok (.iload 5, 2) := by decide +kernel
theorem dX4_isDone_64 : decode cX4_isDone 64 = .ok (.istore 4, 2) := by decide +kernel
theorem dX4_isDone_66 : decode cX4_isDone 66 = .ok (.iinc 3 1, 3) := by decide +kernel
theorem dX4_isDone_69 : decode cX4_isDone 69 = .ok (.iinc 5 1, 3) := by decide +kernel
theorem dX4_isDone_72 : decode cX4_isDone 72 = .ok (.goto (-53), 3) := by decide +kernel
theorem dX4_isDone_75 : decode cX4_isDone 75 = .ok (.iload_n 3, 1) := by decide +kernel
theorem dX4_isDone_76 : decode cX4_isDone 76 = .ok (.aload_n 2, 1) := by decide +kernel
theorem dX4_isDone_77 : decode cX4_isDone 77 = .ok (.iconst 2, 1) := by decide +kernel
theorem dX4_isDone_78 : decode cX4_isDone 78 = .ok (.iaload, 1) := by decide +kernel
theorem dX4_isDone_79 : decode cX4_isDone 79 = .ok (.if_icmp .ne 7, 3) := by decide +kernel
theorem dX4_isDone_82 : decode cX4_isDone 82 = .ok (.iconst 1, 1) := by decide +kernel
theorem dX4_isDone_83 : decode cX4_isDone 83 = .ok (.goto 4, 3) := by decide +kernel
theorem dX4_isDone_86 : decode cX4_isDone 86 = .ok (.iconst 0, 1) := by decide +kernel
theorem dX4_isDone_87 : decode cX4_isDone 87 = .ok (.ireturn, 1) := by decide +kernel
theorem dX4_mayFollow_0 : decode cX4_mayFollow 0 = .ok (.aload_n 0, 1) := by decide +kernel
theorem dX4_mayFollow_1 : decode cX4_mayFollow 1 = .ok (.iconst 1, 1) := by decide +kernel
theorem dX4_mayFollow_2 : decode cX4_mayFollow 2 = .ok (.iaload, 1) := by decide +kernel
theorem dX4_mayFollow_3 : decode cX4_mayFollow 3 = .ok (.iconst 1, 1) := by decide +kernel
theorem dX4_mayFollow_4 : decode cX4_mayFollow 4 = .ok (.if_icmp .ne 20, 3) := by decide +kernel
theorem dX4_mayFollow_7 : decode cX4_mayFollow 7 = .ok (.iload_n 2, 1) := by decide +kernel
theorem dX4_mayFollow_8 : decode cX4_mayFollow 8 = .ok (.iconst 4, 1) := by decide +kernel
theorem dX4_mayFollow_9 : decode cX4_mayFollow 9 = .ok (.idiv, 1) := by decide +kernel
theorem dX4_mayFollow_10 : decode cX4_mayFollow 10 = .ok (.iload_n 1, 1) := by decide +kernel
theorem dX4_mayFollow_11 : decode cX4_mayFollow 11 = .ok (.iconst 4, 1) := by decide +kernel
theorem dX4_mayFollow_12 : decode cX4_mayFollow 12 = .ok (.idiv, 1) := by decide +kernel
theorem dX4_mayFollow_13 : decode cX4_mayFollow 13 = .ok (.if_icmp .eq 7, 3) := by decide +kernel
theorem dX4_mayFollow_16 : decode cX4_mayFollow 16 = .ok (.iconst 1, 1) := by decide +kernel
theorem dX4_mayFollow_17 : decode cX4_mayFollow 17 = .ok (.goto 19, 3) := by decide +kernel
theorem dX4_mayFollow_20 : decode cX4_mayFollow 20 = .ok (.iconst 0, 1) := by decide +kernel
theorem dX4_mayFollow_21 : decode cX4_mayFollow 21 = .ok (.goto 15, 3) := by decide +kernel
theorem dX4_mayFollow_24 : decode cX4_mayFollow 24 = .ok (.iload_n 2, 1) := by decide +kernel
theorem dX4_mayFollow_25 : decode cX4_mayFollow 25 = .ok (.iload_n 1, 1) := by decide +kernel
theorem dX4_mayFollow_26 : decode cX4_mayFollow 26 = .ok (.iconst 1, 1) := by decide +kernel
theorem dX4_mayFollow_27 : decode cX4_mayFollow 27 = .ok (.iadd, 1) := by decide +kernel
theorem dX4_mayFollow_28 : decode cX4_mayFollow 28 = .ok (.if_icmp .ne 7, 3) := by decide +kernel
theorem dX4_mayFollow_31 : decode cX4_mayFollow 31 = .ok (.iconst 1, 1) := by decide +kernel
theorem dX4_mayFollow_32 : decode cX4_mayFollow 32 = .ok (.goto 4, 3) := by decide +kernel
theorem dX4_mayFollow_35 : decode cX4_mayFollow 35 = .ok (.iconst 0, 1) := by decide +kernel
theorem dX4_mayFollow_36 : decode cX4_mayFollow 36 = .ok (.ireturn, 1) := by decide +kernel
theorem dX5_init_0 : decode cX5_init 0 = .ok (.aload_n 0, 1) := by decide +kernel
theorem dX5_init_1 : decode cX5_init 1 = .ok (.invokespecial 3, 3) := by decide +kernel
theorem dX5_init_4 : decode cX5_init 4 = .ok (.aload_n 0, 1) := by decide +kernel
theorem dX5_init_5 : decode cX5_init 5 = .ok (.bipush 6, 2) := by decide +kernel
theorem dX5_init_7 : decode cX5_init 7 = .ok (.bipush 28, 2) := by decide +kernel
theorem dX5_init_9 : decode cX5_init 9 = .ok (.multianewarray 9 2, 4) := by decide +kernel
theorem dX5_init_13 : decode cX5_init 13 = .ok (.putfield 11, 3) := by decide +kernel
theorem dX5_init_16 : decode cX5_init 16 = .ok (.aload_n 0, 1) := by decide +kernel
theorem dX5_init_17 : decode cX5_init 17 = .ok (.bipush 6, 2) := by decide +kernel
theorem dX5_init_19 : decode cX5_init 19 = .ok (.bipush 28, 2) := by decide +kernel
theorem dX5_init_21 : decode cX5_init 21 = .ok (.multianewarray 9 2, 4) := by decide +kernel
theorem dX5_init_25 : decode cX5_init 25 = .ok (.putfield 16, 3) := by decide +kernel
theorem dX5_init_28 : decode cX5_init 28 = .ok (.aload_n 0, 1) := by decide +kernel
theorem dX5_init_29 : decode cX5_init 29 = .ok (.aload_n 1, 1) := by decide +kernel
theorem dX5_init_30 : decode cX5_init 30 = .ok (.putfield 19, 3) := by decide +kernel
theorem dX5_init_33 : decode cX5_init 33 = .ok (.return_, 1) := by decide +kernel
theorem dX5_look_0 : decode cX5_look 0 = .ok (.iconst 0, 1) := by decide +kernel
theorem dX5_look_1 : decode cX5_look 1 = .ok (.istore_n 2, 1) := by decide +kernel
theorem dX5_look_2 : decode cX5_look 2 = .ok (.iload_n 2, 1) := by decide +kernel
theorem dX5_look_3 : decode cX5_look 3 = .ok (.bipush 28, 2) := by decide +kernel
theorem dX5_look_5 : decode cX5_look 5 = .ok (.if_icmp .ge 122, 3) := by decide +kernel
theorem dX5_look_8 : decode cX5_look 8 = .ok (.aload_n 0, 1) := by decide +kernel
theorem dX5_look_9 : decode cX5_look 9 = .ok (.getfield 11, 3) := by decide +kernel
theorem dX5_look_12 : decode cX5_look 12 = .ok (.iload_n 1, 1) := by decide +kernel
theorem dX5_look_13 : decode cX5_look 13 = .ok (.aaload, 1) := by decide +kernel
theorem dX5_look_14 : decode cX5_look 14 = .ok (.iload_n 2, 1) := by decide +kernel
theorem dX5_look_15 : decode cX5_look 15 = .ok (.iconst 0, 1) := by decide +kernel
theorem dX5_look_16 : decode cX5_look 16 = .ok (.iastore, 1) := by decide +kernel
theorem dX5_look_17 : decode cX5_look 17 = .ok (.aload_n 0, 1) := by decide +kernel
theorem dX5_look_18 : decode cX5_look 18 = .ok (.getfield 16, 3) := by decide +kernel
theorem dX5_look_21 : decode cX5_look 21 = .ok (.iload_n 1, 1) := by decide +kernel
theorem dX5_look_22 : decode cX5_look 22 = .ok (.aaload, 1) := by decide +kernel
theorem dX5_look_23 : decode cX5_look 23 = .ok (.iload_n 2, 1) := by decide +kernel
theorem dX5_look_24 : decode cX5_look 24 = .ok (.iconst 0, 1) := by decide +kernel
theorem dX5_look_25 : decode cX5_look 25 = .ok (.iastore, 1) := by decide +kernel
theorem dX5_look_26 : decode cX5_look 26 = .ok (.iconst 0, 1) := by decide +kernel
theorem dX5_look_27 : decode cX5_look 27 = .ok (.istore_n 3, 1) := by decide +kernel
theorem dX5_look_28 : decode cX5_look 28 = .ok (.iload_n 3, 1) := by decide +kernel
theorem dX5_look_29 : decode cX5_look 29 = .ok (.aload_n 0, 1) := by decide +kernel
theorem dX5_look_30 : decode cX5_look 30 = .ok (.getfield 19, 3) := by decide +kernel
theorem dX5_look_33 : decode cX5_look 33 = .ok (.getfield 23, 3) := by decide +kernel
theorem dX5_look_36 : decode cX5_look 36 = .ok (.iload_n 2, 1) := by decide +kernel
theorem dX5_look_37 : decode cX5_look 37 = .ok (.iaload, 1) := by decide +kernel
theorem dX5_look_38 : decode cX5_look 38 = .ok (.if_icmp .ge 83, 3) := by decide +kernel
theorem dX5_look_41 : decode cX5_look 41 = .ok (.aload_n 0, 1) := by decide +kernel
theorem dX5_look_42 : decode cX5_look 42 = .ok (.getfield 19, 3) := by decide +kernel
theorem dX5_look_45 : decode cX5_look 45 = .ok (.getfield 29, 3) := by decide +kernel
theorem dX5_look_48 : decode cX5_look 48 = .ok (.iload_n 2, 1) := by decide +kernel
theorem dX5_look_49 : decode cX5_look 49 = .ok (.aaload, 1) := by decide +kernel
theorem dX5_look_50 : decode cX5_look 50 = .ok (.iload_n 3, 1) := by decide +kernel
theorem dX5_look_51 : decode cX5_look 51 = .ok (.iaload, 1) := by decide +kernel
theorem dX5_look_52 : decode cX5_look 52 = .ok (.istore 4, 2) := by decide +kernel
theorem dX5_look_54 : decode cX5_look 54 = .ok (.aload_n 0, 1) := by decide +kernel
theorem dX5_look_55 : decode cX5_look 55 = .ok (.getfield 19, 3) := by decide +kernel
theorem dX5_look_58 : decode cX5_look 58 = .ok (.iload_n 1, 1) := by decide +kernel
theorem dX5_look_59 : decode cX5_look 59 = .ok (.iload 4, 2) := by decide +kernel
theorem dX5_look_61 : decode cX5_look 61 = .ok (.iload_n 2, 1) := by decide +kernel
theorem dX5_look_62 : decode cX5_look 62 = .ok (.invokevirtual 32, 3) := by decide +kernel
theorem dX5_look_65 : decode cX5_look 65 = .ok (.ifCond .ne 50, 3) := by decide +kernel
theorem dX5_look_68 : decode cX5_look 68 = .ok (.aload_n 0, 1) := by decide +kernel
theorem dX5_look_69 : decode cX5_look 69 = .ok (.getfield 11, 3) := by decide +kernel
theorem dX5_look_72 : decode cX5_look 72 = .ok (.iload_n 1, 1) := by decide +kernel
theorem dX5_look_73 : decode cX5_look 73 = .ok (.aaload, 1) := by decide +kernel
theorem dX5_look_74 : decode cX5_look 74 = .ok (.iload_n 2, 1) := by decide +kernel
theorem dX5_look_75 : decode cX5_look 75 = .ok (.dup2, 1) := by decide +kernel
theorem dX5_look_76 : decode cX5_look 76 = .ok (.iaload, 1) := by decide +kernel
theorem dX5_look_77 : decode cX5_look 77 = .ok (.iconst 1, 1) := by decide +kernel
theorem dX5_look_78 : decode cX5_look 78 = .ok (.iload 4, 2) := by decide +kernel
theorem dX5_look_80 : decode cX5_look 80 = .ok (.ishl, 1) := by decide +kernel
theorem dX5_look_81 : decode cX5_look 81 = .ok (.ior, 1) := by decide +kernel
theorem dX5_look_82 : decode cX5_look 82 = .ok (.iastore, 1) := by decide +kernel
theorem dX5_look_83 : decode cX5_look 83 = .ok (.aload_n 0, 1) := by decide +kernel
theorem dX5_look_84 : decode cX5_look 84 = .ok (.getfield 16, 3) := by decide +kernel
theorem dX5_look_87 : decode cX5_look 87 = .ok (.iload_n 1, 1) := by decide +kernel
theorem dX5_look_88 : decode cX5_look 88 = .ok (.aaload, 1) := by decide +kernel
theorem dX5_look_89 : decode cX5_look 89 = .ok (.iload_n 2, 1) := by decide +kernel
theorem dX5_look_90 : decode cX5_look 90 = .ok (.dup2, 1) := by decide +kernel
theorem dX5_look_91 : decode cX5_look 91 = .ok (.iaload, 1) := by decide +kernel
theorem dX5_look_92 : decode cX5_look 92 = .ok (.aload_n 0, 1) := by decide +kernel
theorem dX5_look_93 : decode cX5_look 93 = .ok (.getfield 19, 3) := by decide +kernel
theorem dX5_look_96 : decode cX5_look 96 = .ok (.iload_n 1, 1) := by decide +kernel
theorem dX5_look_97 : decode cX5_look 97 = .ok (.iload 4, 2) := by decide +kernel
theorem dX5_look_99 : decode cX5_look 99 = .ok (.invokevirtual 36, 3) := by decide +kernel
theorem dX5_look_102 : decode cX5_look 102 = .ok (.ifCond .eq 7, 3) := by decide +kernel
theorem dX5_look_105 : decode cX5_look 105 = .ok (.iconst 0, 1) := by decide +kernel
theorem dX5_look_106 : decode cX5_look 106 = .ok (.goto 7, 3) := by decide +kernel
theorem dX5_look_109 : decode cX5_look 109 = .ok (.iconst 1, 1) := by decide +kernel
theorem dX5_look_110 : decode cX5_look 110 = .ok (.iload 4, 2) := by decide +kernel
theorem dX5_look_112 : decode cX5_look 112 = .ok (.ishl, 1) := by decide +kernel
theorem dX5_look_113 : decode cX5_look 113 = .ok (.ior, 1) := by decide +kernel
theorem dX5_look_114 : decode cX5_look 114 = .ok (.iastore, 1) := by decide +kernel
theorem dX5_look_115 : decode cX5_look 115 = .ok (.iinc 3 1, 3) := by decide +kernel
theorem dX5_look_118 : decode cX5_look 118 = .ok (.goto (-90), 3) := by decide +kernel
theorem dX5_look_121 : decode cX5_look 121 = .ok (.iinc 2 1, 3) := by decide +kernel
theorem dX5_look_124 : decode cX5_look 124 = .ok (.goto (-122), 3) := by decide +kernel
theorem dX5_look_127 : decode cX5_look 127 = .ok (.return_, 1) := by decide +kernel
theorem dX5_canBe_0 : decode cX5_canBe 0 = .ok (.aload_n 0, 1) := by decide +kernel
theorem dX5_canBe_1 : decode cX5_canBe 1 = .ok (.getfield 19, 3) := by decide +kernel
theorem dX5_canBe_4 : decode cX5_canBe 4 = .ok (.getfield 40, 3) := by decide +kernel
theorem dX5_canBe_7 : decode cX5_canBe 7 = .ok (.iload_n 1, 1) := by decide +kernel
theorem dX5_canBe_8 : decode cX5_canBe 8 = .ok (.aaload, 1) := by decide +kernel
theorem dX5_canBe_9 : decode cX5_canBe 9 = .ok (.astore 4, 2) := by decide +kernel
theorem dX5_canBe_11 : decode cX5_canBe 11 = .ok (.iconst 0, 1) := by decide +kernel
theorem dX5_canBe_12 : decode cX5_canBe 12 = .ok (.istore 5, 2) := by decide +kernel
theorem dX5_canBe_14 : decode cX5_canBe 14 = .ok (.iconst 0, 1) := by decide +kernel
theorem dX5_canBe_15 : decode cX5_canBe 15 = .ok (.istore 6, 2) := by decide +kernel
theorem dX5_canBe_17 : decode cX5_canBe 17 = .ok (.iload 6, 2) := by decide +kernel
theorem dX5_canBe_19 : decode cX5_canBe 19 = .ok (.aload 4, 2) := by decide +kernel
theorem dX5_canBe_21 : decode cX5_canBe 21 = .ok (.iconst 3, 1) := by decide +kernel
theorem dX5_canBe_22 : decode cX5_canBe 22 = .ok (.iaload, 1) := by decide +kernel
theorem dX5_canBe_23 : decode cX5_canBe 23 = .ok (.if_icmp .gt 54, 3) := by decide +kernel
theorem dX5_canBe_26 : decode cX5_canBe 26 = .ok (.aload_n 0, 1) := by decide +kernel
theorem dX5_canBe_27 : decode cX5_canBe 27 = .ok (.getfield 16, 3) := by decide +kernel
theorem dX5_canBe_30 : decode cX5_canBe 30 = .ok (.iload_n 1, 1) := by decide +kernel
theorem dX5_canBe_31 : decode cX5_canBe 31 = .ok (.aaload, 1) := by decide +kernel
theorem dX5_canBe_32 : decode cX5_canBe 32 = .ok (.iload 6, 2) := by decide +kernel
theorem dX5_canBe_34 : decode cX5_canBe 34 = .ok (.iaload, 1) := by decide +kernel
theorem dX5_canBe_35 : decode cX5_canBe 35 = .ok (.aload_n 0, 1) := by decide +kernel
theorem dX5_canBe_36 : decode cX5_canBe 36 = .ok (.getfield 11, 3) := by decide +kernel
theorem dX5_canBe_39 : decode cX5_canBe 39 = .ok (.iload_n 1, 1) := by decide +kernel
theorem dX5_canBe_40 : decode cX5_canBe 40 = .ok (.aaload, 1) := by decide +kernel
theorem dX5_canBe_41 : decode cX5_canBe 41 = .ok (.iload 6, 2) := by decide +kernel
theorem dX5_canBe_43 : decode cX5_canBe 43 = .ok (.iaload, 1) := by decide +kernel
theorem dX5_canBe_44 : decode cX5_canBe 44 = .ok (.iload_n 2, 1) := by decide +kernel
theorem dX5_canBe_45 : decode cX5_canBe 45 = .ok (.iand, 1) := by decide +kernel
theorem dX5_canBe_46 : decode cX5_canBe 46 = .ok (.ior, 1) := by decide +kernel
theorem dX5_canBe_47 : decode cX5_canBe 47 = .ok (.iload_n 3, 1) := by decide +kernel
theorem dX5_canBe_48 : decode cX5_canBe 48 = .ok (.iconst (-1), 1) := by decide +kernel
theorem dX5_canBe_49 : decode cX5_canBe 49 = .ok (.ixor, 1) := by decide +kernel
theorem dX5_canBe_50 : decode cX5_canBe 50 = .ok (.iand, 1) := by decide +kernel
theorem dX5_canBe_51 : decode cX5_canBe 51 = .ok (.istore 7, 2) := by decide +kernel
theorem dX5_canBe_53 : decode cX5_canBe 53 = .ok (.iload 5, 2) := by decide +kernel
theorem dX5_canBe_55 : decode cX5_canBe 55 = .ok (.iload 7, 2) := by decide +kernel
theorem dX5_canBe_57 : decode cX5_canBe 57 = .ok (.ifCond .ne 10, 3) := by decide +kernel
theorem dX5_canBe_60 : decode cX5_canBe 60 = .ok (.iconst 1, 1) := by decide +kernel
theorem dX5_canBe_61 : decode cX5_canBe 61 = .ok (.iload 6, 2) := by decide +kernel
theorem dX5_canBe_63 : decode cX5_canBe 63 = .ok (.ishl, 1) := by decide +kernel
theorem dX5_canBe_64 : decode cX5_canBe 64 = .ok (.goto 4, 3) := by decide +kernel
theorem dX5_canBe_67 : decode cX5_canBe 67 = .ok (.iconst 0, 1) := by decide +kernel
theorem dX5_canBe_68 : decode cX5_canBe 68 = .ok (.ior, 1) := by decide +kernel
theorem dX5_canBe_69 : decode cX5_canBe 69 = .ok (.istore 5, 2) := by decide +kernel
theorem dX5_canBe_71 : decode cX5_canBe 71 = .ok (.iinc 6 1, 3) := by decide +kernel
theorem dX5_canBe_74 : decode cX5_canBe 74 = .ok (.goto (-57), 3) := by decide +kernel
theorem dX5_canBe_77 : decode cX5_canBe 77 = .ok (.aload 4, 2) := by decide +kernel
theorem dX5_canBe_79 : decode cX5_canBe 79 = .ok (.iconst 1, 1) := by decide +kernel
theorem dX5_canBe_80 : decode cX5_canBe 80 = .ok (.iaload, 1) := by decide +kernel
theorem dX5_canBe_81 : decode cX5_canBe 81 = .ok (.iconst 1, 1) := by decide +kernel
theorem dX5_canBe_82 : decode cX5_canBe 82 = .ok (.if_icmp .ne 23, 3) := by decide +kernel
theorem dX5_canBe_85 : decode cX5_canBe 85 = .ok (.iload 5, 2) := by decide +kernel
theorem dX5_canBe_87 : decode cX5_canBe 87 = .ok (.invokestatic 43, 3) := by decide +kernel
theorem dX5_canBe_90 : decode cX5_canBe 90 = .ok (.aload 4, 2) := by decide +kernel
theorem dX5_canBe_92 : decode cX5_canBe 92 = .ok (.iconst 2, 1) := by decide +kernel
theorem dX5_canBe_93 : decode cX5_canBe 93 = .ok (.iaload, 1) := by decide +kernel
theorem dX5_canBe_94 : decode cX5_canBe 94 = .ok (.if_icmp .lt 7, 3) := by decide +kernel
theorem dX5_canBe_97 : decode cX5_canBe 97 = .ok (.iconst 1, 1) := by decide +kernel
theorem dX5_canBe_98 : decode cX5_canBe 98 = .ok (.goto 24, 3) := by decide +kernel
theorem dX5_canBe_101 : decode cX5_canBe 101 = .ok (.iconst 0, 1) := by decide +kernel
theorem dX5_canBe_102 : decode cX5_canBe 102 = .ok (.goto 20, 3) := by decide +kernel
theorem dX5_canBe_105 : decode cX5_canBe 105 = .ok (.iload 5, 2) := by decide +kernel
theorem dX5_canBe_107 : decode cX5_canBe 107 = .ok (.invokestatic 47, 3) := by decide +kernel
theorem dX5_canBe_110 : decode cX5_canBe 110 = .ok (.aload 4, 2) := by decide +kernel
theorem dX5_canBe_112 : decode cX5_canBe 112 = .ok (.iconst 2, 1) := by decide +kernel
theorem dX5_canBe_113 : decode cX5_canBe 113 = .ok (.iaload, 1) := by decide +kernel
theorem dX5_canBe_114 : decode cX5_canBe 114 = .ok (.if_icmp .lt 7, 3) := by decide +kernel
theorem dX5_canBe_117 : decode cX5_canBe 117 = .ok (.iconst 1, 1) := by decide +kernel
theorem dX5_canBe_118 : decode cX5_canBe 118 = .ok (.goto 4, 3) := by decide +kernel
theorem dX5_canBe_121 : decode cX5_canBe 121 = .ok (.iconst 0, 1) := by decide +kernel
theorem dX5_canBe_122 : decode cX5_canBe 122 = .ok (.ireturn, 1) := by decide +kernel
theorem dX5_openDays_0 : decode cX5_openDays 0 = .ok (.iconst 0, 1) := by decide +kernel
theorem dX5_openDays_1 : decode cX5_openDays 1 = .ok (.istore_n 1, 1) := by decide +kernel
theorem dX5_openDays_2 : decode cX5_openDays 2 = .ok (.iconst 0, 1) := by decide +kernel
theorem dX5_openDays_3 : decode cX5_openDays 3 = .ok (.istore_n 2, 1) := by decide +kernel
theorem dX5_openDays_4 : decode cX5_openDays 4 = .ok (.iload_n 2, 1) := by decide +kernel
theorem dX5_openDays_5 : decode cX5_openDays 5 = .ok (.bipush 7, 2) := by decide +kernel
theorem dX5_openDays_7 : decode cX5_openDays 7 = .ok (.if_icmp .ge 28, 3) := by decide +kernel
theorem dX5_openDays_10 : decode cX5_openDays 10 = .ok (.iload_n 1, 1) := by decide +kernel
theorem dX5_openDays_11 : decode cX5_openDays 11 = .ok (.iload_n 0, 1) := by decide +kernel
theorem dX5_openDays_12 : decode cX5_openDays 12 = .ok (.iload_n 2, 1) := by decide +kernel
theorem dX5_openDays_13 : decode cX5_openDays 13 = .ok (.iconst 4, 1) := by decide +kernel
theorem dX5_openDays_14 : decode cX5_openDays 14 = .ok (.imul, 1) := by decide +kernel
theorem dX5_openDays_15 : decode cX5_openDays 15 = .ok (.ishr, 1) := by decide +kernel
theorem dX5_openDays_16 : decode cX5_openDays 16 = .ok (.bipush 15, 2) := by decide +kernel
theorem dX5_openDays_18 : decode cX5_openDays 18 = .ok (.iand, 1) := by decide +kernel
theorem dX5_openDays_19 : decode cX5_openDays 19 = .ok (.ifCond .eq 7, 3) := by decide +kernel
theorem dX5_openDays_22 : decode cX5_openDays 22 = .ok (.iconst 1, 1) := by decide +kernel
theorem dX5_openDays_23 : decode cX5_openDays 23 = .ok (.goto 4, 3) := by decide +kernel
theorem dX5_openDays_26 : decode cX5_openDays 26 = .ok (.iconst 0, 1) := by decide +kernel
theorem dX5_openDays_27 : decode cX5_openDays 27 = .ok (.iadd, 1) := by decide +kernel
theorem dX5_openDays_28 : decode cX5_openDays 28 = .ok (.istore_n 1, 1) := by decide +kernel
theorem dX5_openDays_29 : decode cX5_openDays 29 = .ok (.iinc 2 1, 3) := by decide +kernel
theorem dX5_openDays_32 : decode cX5_openDays 32 = .ok (.goto (-28), 3) := by decide +kernel
theorem dX5_openDays_35 : decode cX5_openDays 35 = .ok (.iload_n 1, 1) := by decide +kernel
theorem dX5_openDays_36 : decode cX5_openDays 36 = .ok (.ireturn, 1) := by decide +kernel
theorem dX5_longestRun_0 : decode cX5_longestRun 0 = .ok (.iconst 0, 1) := by decide +kernel
theorem dX5_longestRun_1 : decode cX5_longestRun 1 = .ok (.istore_n 1, 1) := by decide +kernel
theorem dX5_longestRun_2 : decode cX5_longestRun 2 = .ok (.iconst 0, 1) := by decide +kernel
theorem dX5_longestRun_3 : decode cX5_longestRun 3 = .ok (.istore_n 2, 1) := by decide +kernel
theorem dX5_longestRun_4 : decode cX5_longestRun 4 = .ok (.iconst 0, 1) := by decide +kernel
theorem dX5_longestRun_5 : decode cX5_longestRun 5 = .ok (.istore_n 3, 1) := by decide +kernel
theorem dX5_longestRun_6 : decode cX5_longestRun 6 = .ok (.iload_n 3, 1) := by decide +kernel
theorem dX5_longestRun_7 : decode cX5_longestRun 7 = .ok (.bipush 28, 2) := by decide +kernel
theorem dX5_longestRun_9 : decode cX5_longestRun 9 = .ok (.if_icmp .ge 31, 3) := by decide +kernel
theorem dX5_longestRun_12 : decode cX5_longestRun 12 = .ok (.iload_n 0, 1) := by decide +kernel
theorem dX5_longestRun_13 : decode cX5_longestRun 13 = .ok (.iload_n 3, 1) := by decide +kernel
theorem dX5_longestRun_14 : decode cX5_longestRun 14 = .ok (.invokestatic 50, 3) := by decide +kernel
theorem dX5_longestRun_17 : decode cX5_longestRun 17 = .ok (.ifCond .eq 9, 3) := by decide +kernel
theorem dX5_longestRun_20 : decode cX5_longestRun 20 = .ok (.iload_n 2, 1) := by decide +kernel
theorem dX5_longestRun_21 : decode cX5_longestRun 21 = .ok (.iconst 1, 1) := by decide +kernel
theorem dX5_longestRun_22 : decode cX5_longestRun 22 = .ok (.iadd, 1) := by decide +kernel
theorem dX5_longestRun_23 : decode cX5_longestRun 23 = .ok (.goto 4, 3) := by decide +kernel
theorem dX5_longestRun_26 : decode cX5_longestRun 26 = .ok (.iconst 0, 1) := by decide +kernel
theorem dX5_longestRun_27 : decode cX5_longestRun 27 = .ok (.istore_n 2, 1) := by decide +kernel
theorem dX5_longestRun_28 : decode cX5_longestRun 28 = .ok (.iload_n 1, 1) := by decide +kernel
theorem dX5_longestRun_29 : decode cX5_longestRun 29 = .ok (.iload_n 2, 1) := by decide +kernel
theorem dX5_longestRun_30 : decode cX5_longestRun 30 = .ok (.invokestatic 53, 3) := by decide +kernel
theorem dX5_longestRun_33 : decode cX5_longestRun 33 = .ok (.istore_n 1, 1) := by decide +kernel
theorem dX5_longestRun_34 : decode cX5_longestRun 34 = .ok (.iinc 3 1, 3) := by decide +kernel
theorem dX5_longestRun_37 : decode cX5_longestRun 37 = .ok (.goto (-31), 3) := by decide +kernel
theorem dX5_longestRun_40 : decode cX5_longestRun 40 = .ok (.iload_n 1, 1) := by decide +kernel
theorem dX5_longestRun_41 : decode cX5_longestRun 41 = .ok (.ireturn, 1) := by decide +kernel
theorem dX5_barring_0 : decode cX5_barring 0 = .ok (.aload_n 0, 1) := by decide +kernel
theorem dX5_barring_1 : decode cX5_barring 1 = .ok (.iload_n 1, 1) := by decide +kernel
theorem dX5_barring_2 : decode cX5_barring 2 = .ok (.invokevirtual 59, 3) := by decide +kernel
theorem dX5_barring_5 : decode cX5_barring 5 = .ok (.aload_n 0, 1) := by decide +kernel
theorem dX5_barring_6 : decode cX5_barring 6 = .ok (.iload_n 1, 1) := by decide +kernel
theorem dX5_barring_7 : decode cX5_barring 7 = .ok (.aload_n 0, 1) := by decide +kernel
theorem dX5_barring_8 : decode cX5_barring 8 = .ok (.getfield 19, 3) := by decide +kernel
theorem dX5_barring_11 : decode cX5_barring 11 = .ok (.getfield 63, 3) := by decide +kernel
theorem dX5_barring_14 : decode cX5_barring 14 = .ok (.iconst 0, 1) := by decide +kernel
theorem dX5_barring_15 : decode cX5_barring 15 = .ok (.invokevirtual 67, 3) := by decide +kernel
theorem dX5_barring_18 : decode cX5_barring 18 = .ok (.ifCond .eq 6, 3) := by decide +kernel
theorem dX5_barring_21 : decode cX5_barring 21 = .ok (.bipush (-9), 2) := by decide +kernel
theorem dX5_barring_23 : decode cX5_barring 23 = .ok (.ireturn, 1) := by decide +kernel
theorem dX5_barring_24 : decode cX5_barring 24 = .ok (.iconst 0, 1) := by decide +kernel
theorem dX5_barring_25 : decode cX5_barring 25 = .ok (.istore_n 2, 1) := by decide +kernel
theorem dX5_barring_26 : decode cX5_barring 26 = .ok (.iconst 0, 1) := by decide +kernel
theorem dX5_barring_27 : decode cX5_barring 27 = .ok (.istore_n 3, 1) := by decide +kernel
theorem dX5_barring_28 : decode cX5_barring 28 = .ok (.iload_n 3, 1) := by decide +kernel
theorem dX5_barring_29 : decode cX5_barring 29 = .ok (.aload_n 0, 1) := by decide +kernel
theorem dX5_barring_30 : decode cX5_barring 30 = .ok (.getfield 19, 3) := by decide +kernel
theorem dX5_barring_33 : decode cX5_barring 33 = .ok (.getfield 70, 3) := by decide +kernel
theorem dX5_barring_36 : decode cX5_barring 36 = .ok (.if_icmp .ge 33, 3) := by decide +kernel
theorem dX5_barring_39 : decode cX5_barring 39 = .ok (.aload_n 0, 1) := by decide +kernel
theorem dX5_barring_40 : decode cX5_barring 40 = .ok (.iload_n 1, 1) := by decide +kernel
theorem dX5_barring_41 : decode cX5_barring 41 = .ok (.aload_n 0, 1) := by decide +kernel
theorem dX5_barring_42 : decode cX5_barring 42 = .ok (.getfield 19, 3) := by decide +kernel
theorem dX5_barring_45 : decode cX5_barring 45 = .ok (.getfield 63, 3) := by decide +kernel
theorem dX5_barring_48 : decode cX5_barring 48 = .ok (.iconst 1, 1) := by decide +kernel
theorem dX5_barring_49 : decode cX5_barring 49 = .ok (.iload_n 3, 1) := by decide +kernel
theorem dX5_barring_50 : decode cX5_barring 50 = .ok (.ishl, 1) := by decide +kernel
theorem dX5_barring_51 : decode cX5_barring 51 = .ok (.invokevirtual 67, 3) := by decide +kernel
theorem dX5_barring_54 : decode cX5_barring 54 = .ok (.ifCond .eq 9, 3) := by decide +kernel
theorem dX5_barring_57 : decode cX5_barring 57 = .ok (.iload_n 2, 1) := by decide +kernel
theorem dX5_barring_58 : decode cX5_barring 58 = .ok (.iconst 1, 1) := by decide +kernel
theorem dX5_barring_59 : decode cX5_barring 59 = .ok (.iload_n 3, 1) := by decide +kernel
theorem dX5_barring_60 : decode cX5_barring 60 = .ok (.ishl, 1) := by decide +kernel
theorem dX5_barring_61 : decode cX5_barring 61 = .ok (.ior, 1) := by decide +kernel
theorem dX5_barring_62 : decode cX5_barring 62 = .ok (.istore_n 2, 1) := by decide +kernel
theorem dX5_barring_63 : decode cX5_barring 63 = .ok (.iinc 3 1, 3) := by decide +kernel
theorem dX5_barring_66 : decode cX5_barring 66 = .ok (.goto (-38), 3) := by decide +kernel
theorem dX5_barring_69 : decode cX5_barring 69 = .ok (.iload_n 2, 1) := by decide +kernel
theorem dX5_barring_70 : decode cX5_barring 70 = .ok (.ireturn, 1) := by decide +kernel
theorem dX5_fewestToStop_0 : decode cX5_fewestToStop 0 = .ok (.aload_n 0, 1) := by decide +kernel
theorem dX5_fewestToStop_1 : decode cX5_fewestToStop 1 = .ok (.iload_n 1, 1) := by decide +kernel
theorem dX5_fewestToStop_2 : decode cX5_fewestToStop 2 = .ok (.invokevirtual 59, 3) := by decide +kernel
theorem dX5_fewestToStop_5 : decode cX5_fewestToStop 5 = .ok (.aload_n 0, 1) := by decide +kernel
theorem dX5_fewestToStop_6 : decode cX5_fewestToStop 6 = .ok (.getfield 19, 3) := by decide +kernel
theorem dX5_fewestToStop_9 : decode cX5_fewestToStop 9 = .ok (.getfield 40, 3) := by decide +kernel
theorem dX5_fewestToStop_12 : decode cX5_fewestToStop 12 = .ok (.iload_n 1, 1) := by decide +kernel
theorem dX5_fewestToStop_13 : decode cX5_fewestToStop 13 = .ok (.aaload, 1) := by decide +kernel
theorem dX5_fewestToStop_14 : decode cX5_fewestToStop 14 = .ok (.iconst 0, 1) := by decide +kernel
theorem dX5_fewestToStop_15 : decode cX5_fewestToStop 15 = .ok (.iaload, 1) := by decide +kernel
theorem dX5_fewestToStop_16 : decode cX5_fewestToStop 16 = .ok (.istore_n 2, 1) := by decide +kernel
theorem dX5_fewestToStop_17 : decode cX5_fewestToStop 17 = .ok (.bipush (-9), 2) := by decide +kernel
theorem dX5_fewestToStop_19 : decode cX5_fewestToStop 19 = .ok (.istore_n 3, 1) := by decide +kernel
theorem dX5_fewestToStop_20 : decode cX5_fewestToStop 20 = .ok (.bipush 9, 2) := by decide +kernel
theorem dX5_fewestToStop_22 : decode cX5_fewestToStop 22 = .ok (.istore 4, 2) := by decide +kernel
theorem dX5_fewestToStop_24 : decode cX5_fewestToStop 24 = .ok (.iconst 0, 1) := by decide +kernel
theorem dX5_fewestToStop_25 : decode cX5_fewestToStop 25 = .ok (.istore 5, 2) := by decide +kernel
theorem dX5_fewestToStop_27 : decode cX5_fewestToStop 27 = .ok (.iload 5, 2) := by decide +kernel
theorem dX5_fewestToStop_29 : decode cX5_fewestToStop 29 = .ok (.aload_n 0, 1) := by decide +kernel
theorem dX5_fewestToStop_30 : decode cX5_fewestToStop 30 = .ok (.getfield 19, 3) := by decide +kernel
theorem dX5_fewestToStop_33 : decode cX5_fewestToStop 33 = .ok (.invokevirtual 73, 3) := by decide +kernel
theorem dX5_fewestToStop_36 : decode cX5_fewestToStop 36 = .ok (.if_icmp .gt 58, 3) := by decide +kernel
theorem dX5_fewestToStop_39 : decode cX5_fewestToStop 39 = .ok (.iload 5, 2) := by decide +kernel
theorem dX5_fewestToStop_41 : decode cX5_fewestToStop 41 = .ok (.invokestatic 77, 3) := by decide +kernel
theorem dX5_fewestToStop_44 : decode cX5_fewestToStop 44 = .ok (.istore 6, 2) := by decide +kernel
theorem dX5_fewestToStop_46 : decode cX5_fewestToStop 46 = .ok (.iload 6, 2) := by decide +kernel
theorem dX5_fewestToStop_48 : decode cX5_fewestToStop 48 = .ok (.iload 4, 2) := by decide +kernel
theorem dX5_fewestToStop_50 : decode cX5_fewestToStop 50 = .ok (.if_icmp .ge 38, 3) := by decide +kernel
theorem dX5_fewestToStop_53 : decode cX5_fewestToStop 53 = .ok (.iload 5, 2) := by decide +kernel
theorem dX5_fewestToStop_55 : decode cX5_fewestToStop 55 = .ok (.iload_n 2, 1) := by decide +kernel
theorem dX5_fewestToStop_56 : decode cX5_fewestToStop 56 = .ok (.invokestatic 50, 3) := by decide +kernel
theorem dX5_fewestToStop_59 : decode cX5_fewestToStop 59 = .ok (.ifCond .ne 29, 3) := by decide +kernel
theorem dX5_fewestToStop_62 : decode cX5_fewestToStop 62 = .ok (.aload_n 0, 1) := by decide +kernel
theorem dX5_fewestToStop_63 : decode cX5_fewestToStop 63 = .ok (.iload_n 1, 1) := by decide +kernel
theorem dX5_fewestToStop_64 : decode cX5_fewestToStop 64 = .ok (.aload_n 0, 1) := by decide +kernel
theorem dX5_fewestToStop_65 : decode cX5_fewestToStop 65 = .ok (.getfield 19, 3) := by decide +kernel
theorem dX5_fewestToStop_68 : decode cX5_fewestToStop 68 = .ok (.getfield 63, 3) := by decide +kernel
theorem dX5_fewestToStop_71 : decode cX5_fewestToStop 71 = .ok (.iload 5, 2) := by decide +kernel
theorem dX5_fewestToStop_73 : decode cX5_fewestToStop 73 = .ok (.ior, 1) := by decide +kernel
theorem dX5_fewestToStop_74 : decode cX5_fewestToStop 74 = .ok (.iconst 0, 1) := by decide +kernel
theorem dX5_fewestToStop_75 : decode cX5_fewestToStop 75 = .ok (.invokevirtual 67, 3) := by decide +kernel
theorem dX5_fewestToStop_78 : decode cX5_fewestToStop 78 = .ok (.ifCond .ne 10, 3) := by decide +kernel
theorem dX5_fewestToStop_81 : decode cX5_fewestToStop 81 = .ok (.iload 6, 2) := by decide +kernel
theorem dX5_fewestToStop_83 : decode cX5_fewestToStop 83 = .ok (.istore 4, 2) := by decide +kernel
theorem dX5_fewestToStop_85 : decode cX5_fewestToStop 85 = .ok (.iload 5, 2) := by decide +kernel
theorem dX5_fewestToStop_87 : decode cX5_fewestToStop 87 = .ok (.istore_n 3, 1) := by decide +kernel
theorem dX5_fewestToStop_88 : decode cX5_fewestToStop 88 = .ok (.iinc 5 1, 3) := by decide +kernel
theorem dX5_fewestToStop_91 : decode cX5_fewestToStop 91 = .ok (.goto (-64), 3) := by decide +kernel
theorem dX5_fewestToStop_94 : decode cX5_fewestToStop 94 = .ok (.iload_n 3, 1) := by decide +kernel
theorem dX5_fewestToStop_95 : decode cX5_fewestToStop 95 = .ok (.ireturn, 1) := by decide +kernel
theorem dX5_fewestToStopEach_0 : decode cX5_fewestToStopEach 0 = .ok (.iconst 0, 1) := by decide +kernel
theorem dX5_fewestToStopEach_1 : decode cX5_fewestToStopEach 1 = .ok (.istore_n 1, 1) := by decide +kernel
theorem dX5_fewestToStopEach_2 : decode cX5_fewestToStopEach 2 = .ok (.iload_n 1, 1) := by decide +kernel
theorem dX5_fewestToStopEach_3 : decode cX5_fewestToStopEach 3 = .ok (.aload_n 0, 1) := by decide +kernel
theorem dX5_fewestToStopEach_4 : decode cX5_fewestToStopEach 4 = .ok (.getfield 19, 3) := by decide +kernel
theorem dX5_fewestToStopEach_7 : decode cX5_fewestToStopEach 7 = .ok (.getfield 82, 3) := by decide +kernel
theorem dX5_fewestToStopEach_10 : decode cX5_fewestToStopEach 10 = .ok (.if_icmp .ge 14, 3) := by decide +kernel
theorem dX5_fewestToStopEach_13 : decode cX5_fewestToStopEach 13 = .ok (.aload_n 0, 1) := by decide +kernel
theorem dX5_fewestToStopEach_14 : decode cX5_fewestToStopEach 14 = .ok (.iload_n 1, 1) := by decide +kernel
theorem dX5_fewestToStopEach_15 : decode cX5_fewestToStopEach 15 = .ok (.invokevirtual 59, 3) := by decide +kernel
theorem dX5_fewestToStopEach_18 : decode cX5_fewestToStopEach 18 = .ok (.iinc 1 1, 3) := by decide +kernel
theorem dX5_fewestToStopEach_21 : decode cX5_fewestToStopEach 21 = .ok (.goto (-19), 3) := by decide +kernel
theorem dX5_fewestToStopEach_24 : decode cX5_fewestToStopEach 24 = .ok (.iconst 0, 1) := by decide +kernel
theorem dX5_fewestToStopEach_25 : decode cX5_fewestToStopEach 25 = .ok (.istore_n 1, 1) := by decide +kernel
theorem dX5_fewestToStopEach_26 : decode cX5_fewestToStopEach 26 = .ok (.bipush 9, 2) := by decide +kernel
theorem dX5_fewestToStopEach_28 : decode cX5_fewestToStopEach 28 = .ok (.istore_n 2, 1) := by decide +kernel
theorem dX5_fewestToStopEach_29 : decode cX5_fewestToStopEach 29 = .ok (.iconst 0, 1) := by decide +kernel
theorem dX5_fewestToStopEach_30 : decode cX5_fewestToStopEach 30 = .ok (.istore_n 3, 1) := by decide +kernel
theorem dX5_fewestToStopEach_31 : decode cX5_fewestToStopEach 31 = .ok (.iload_n 3, 1) := by decide +kernel
theorem dX5_fewestToStopEach_32 : decode cX5_fewestToStopEach 32 = .ok (.aload_n 0, 1) := by decide +kernel
theorem dX5_fewestToStopEach_33 : decode cX5_fewestToStopEach 33 = .ok (.getfield 19, 3) := by decide +kernel
theorem dX5_fewestToStopEach_36 : decode cX5_fewestToStopEach 36 = .ok (.invokevirtual 73, 3) := by decide +kernel
theorem dX5_fewestToStopEach_39 : decode cX5_fewestToStopEach 39 = .ok (.if_icmp .gt 34, 3) := by decide +kernel
theorem dX5_fewestToStopEach_42 : decode cX5_fewestToStopEach 42 = .ok (.iload_n 3, 1) := by decide +kernel
theorem dX5_fewestToStopEach_43 : decode cX5_fewestToStopEach 43 = .ok (.invokestatic 77, 3) := by decide +kernel
theorem dX5_fewestToStopEach_46 : decode cX5_fewestToStopEach 46 = .ok (.istore 4, 2) := by decide +kernel
theorem dX5_fewestToStopEach_48 : decode cX5_fewestToStopEach 48 = .ok (.iload 4, 2) := by decide +kernel
theorem dX5_fewestToStopEach_50 : decode cX5_fewestToStopEach 50 = .ok (.iload_n 2, 1) := by decide +kernel
theorem dX5_fewestToStopEach_51 : decode cX5_fewestToStopEach 51 = .ok (.if_icmp .ge 16, 3) := by decide +kernel
theorem dX5_fewestToStopEach_54 : decode cX5_fewestToStopEach 54 = .ok (.aload_n 0, 1) := by decide +kernel
theorem dX5_fewestToStopEach_55 : decode cX5_fewestToStopEach 55 = .ok (.iload_n 3, 1) := by decide +kernel
theorem dX5_fewestToStopEach_56 : decode cX5_fewestToStopEach 56 = .ok (.invokevirtual 85, 3) := by decide +kernel
theorem dX5_fewestToStopEach_59 : decode cX5_fewestToStopEach 59 = .ok (.ifCond .eq 8, 3) := by decide +kernel
theorem dX5_fewestToStopEach_62 : decode cX5_fewestToStopEach 62 = .ok (.iload 4, 2) := by decide +kernel
theorem dX5_fewestToStopEach_64 : decode cX5_fewestToStopEach 64 = .ok (.istore_n 2, 1) := by decide +kernel
theorem dX5_fewestToStopEach_65 : decode cX5_fewestToStopEach 65 = .ok (.iload_n 3, 1) := by decide +kernel
theorem dX5_fewestToStopEach_66 : decode cX5_fewestToStopEach 66 = .ok (.istore_n 1, 1) := by decide +kernel
theorem dX5_fewestToStopEach_67 : decode cX5_fewestToStopEach 67 = .ok (.iinc 3 1, 3) := by decide +kernel
theorem dX5_fewestToStopEach_70 : decode cX5_fewestToStopEach 70 = .ok (.goto (-39), 3) := by decide +kernel
theorem dX5_fewestToStopEach_73 : decode cX5_fewestToStopEach 73 = .ok (.iload_n 1, 1) := by decide +kernel
theorem dX5_fewestToStopEach_74 : decode cX5_fewestToStopEach 74 = .ok (.ireturn, 1) := by decide +kernel
theorem dX5_stopsOthers_0 : decode cX5_stopsOthers 0 = .ok (.iconst 0, 1) := by decide +kernel
theorem dX5_stopsOthers_1 : decode cX5_stopsOthers 1 = .ok (.istore_n 2, 1) := by decide +kernel
theorem dX5_stopsOthers_2 : decode cX5_stopsOthers 2 = .ok (.iload_n 2, 1) := by decide +kernel
theorem dX5_stopsOthers_3 : decode cX5_stopsOthers 3 = .ok (.aload_n 0, 1) := by decide +kernel
theorem dX5_stopsOthers_4 : decode cX5_stopsOthers 4 = .ok (.getfield 19, 3) := by decide +kernel
theorem dX5_stopsOthers_7 : decode cX5_stopsOthers 7 = .ok (.getfield 82, 3) := by decide +kernel
theorem dX5_stopsOthers_10 : decode cX5_stopsOthers 10 = .ok (.if_icmp .ge 49, 3) := by decide +kernel
theorem dX5_stopsOthers_13 : decode cX5_stopsOthers 13 = .ok (.iload_n 1, 1) := by decide +kernel
theorem dX5_stopsOthers_14 : decode cX5_stopsOthers 14 = .ok (.aload_n 0, 1) := by decide +kernel
theorem dX5_stopsOthers_15 : decode cX5_stopsOthers 15 = .ok (.getfield 19, 3) := by decide +kernel
theorem dX5_stopsOthers_18 : decode cX5_stopsOthers 18 = .ok (.getfield 40, 3) := by decide +kernel
theorem dX5_stopsOthers_21 : decode cX5_stopsOthers 21 = .ok (.iload_n 2, 1) := by decide +kernel
theorem dX5_stopsOthers_22 : decode cX5_stopsOthers 22 = .ok (.aaload, 1) := by decide +kernel
theorem dX5_stopsOthers_23 : decode cX5_stopsOthers 23 = .ok (.iconst 0, 1) := by decide +kernel
theorem dX5_stopsOthers_24 : decode cX5_stopsOthers 24 = .ok (.iaload, 1) := by decide +kernel
theorem dX5_stopsOthers_25 : decode cX5_stopsOthers 25 = .ok (.invokestatic 50, 3) := by decide +kernel
theorem dX5_stopsOthers_28 : decode cX5_stopsOthers 28 = .ok (.istore_n 3, 1) := by decide +kernel
theorem dX5_stopsOthers_29 : decode cX5_stopsOthers 29 = .ok (.iload_n 3, 1) := by decide +kernel
theorem dX5_stopsOthers_30 : decode cX5_stopsOthers 30 = .ok (.ifCond .ne 23, 3) := by decide +kernel
theorem dX5_stopsOthers_33 : decode cX5_stopsOthers 33 = .ok (.aload_n 0, 1) := by decide +kernel
theorem dX5_stopsOthers_34 : decode cX5_stopsOthers 34 = .ok (.iload_n 2, 1) := by decide +kernel
theorem dX5_stopsOthers_35 : decode cX5_stopsOthers 35 = .ok (.aload_n 0, 1) := by decide +kernel
theorem dX5_stopsOthers_36 : decode cX5_stopsOthers 36 = .ok (.getfield 19, 3) := by decide +kernel
theorem dX5_stopsOthers_39 : decode cX5_stopsOthers 39 = .ok (.getfield 63, 3) := by decide +kernel
theorem dX5_stopsOthers_42 : decode cX5_stopsOthers 42 = .ok (.iload_n 1, 1) := by decide +kernel
theorem dX5_stopsOthers_43 : decode cX5_stopsOthers 43 = .ok (.ior, 1) := by decide +kernel
theorem dX5_stopsOthers_44 : decode cX5_stopsOthers 44 = .ok (.iconst 0, 1) := by decide +kernel
theorem dX5_stopsOthers_45 : decode cX5_stopsOthers 45 = .ok (.invokevirtual 67, 3) := by decide +kernel
theorem dX5_stopsOthers_48 : decode cX5_stopsOthers 48 = .ok (.ifCond .eq 5, 3) := by decide +kernel
theorem dX5_stopsOthers_51 : decode cX5_stopsOthers 51 = .ok (.iconst 0, 1) := by decide +kernel
theorem dX5_stopsOthers_52 : decode cX5_stopsOthers 52 = .ok (.ireturn, 1) := by decide +kernel
theorem dX5_stopsOthers_53 : decode cX5_stopsOthers 53 = .ok (.iinc 2 1, 3) := by decide +kernel
theorem dX5_stopsOthers_56 : decode cX5_stopsOthers 56 = .ok (.goto (-54), 3) := by decide +kernel
theorem dX5_stopsOthers_59 : decode cX5_stopsOthers 59 = .ok (.iconst 1, 1) := by decide +kernel
theorem dX5_stopsOthers_60 : decode cX5_stopsOthers 60 = .ok (.ireturn, 1) := by decide +kernel
theorem dX5_orders_0 : decode cX5_orders 0 = .ok (.getstatic 89, 3) := by decide +kernel
theorem dX5_orders_3 : decode cX5_orders 3 = .ok (.iconst 0, 1) := by decide +kernel
theorem dX5_orders_4 : decode cX5_orders 4 = .ok (.iconst 5, 1) := by decide +kernel
theorem dX5_orders_5 : decode cX5_orders 5 = .ok (.aload_n 0, 1) := by decide +kernel
theorem dX5_orders_6 : decode cX5_orders 6 = .ok (.getfield 19, 3) := by decide +kernel
theorem dX5_orders_9 : decode cX5_orders 9 = .ok (.getfield 70, 3) := by decide +kernel
theorem dX5_orders_12 : decode cX5_orders 12 = .ok (.iconst 1, 1) := by decide +kernel
theorem dX5_orders_13 : decode cX5_orders 13 = .ok (.isub, 1) := by decide +kernel
theorem dX5_orders_14 : decode cX5_orders 14 = .ok (.invokestatic 92, 3) := by decide +kernel
theorem dX5_orders_17 : decode cX5_orders 17 = .ok (.invokestatic 53, 3) := by decide +kernel
theorem dX5_orders_20 : decode cX5_orders 20 = .ok (.iaload, 1) := by decide +kernel
theorem dX5_orders_21 : decode cX5_orders 21 = .ok (.ireturn, 1) := by decide +kernel
theorem dX5_pivotalOrders_0 : decode cX5_pivotalOrders 0 = .ok (.aload_n 0, 1) := by decide +kernel
theorem dX5_pivotalOrders_1 : decode cX5_pivotalOrders 1 = .ok (.iload_n 2, 1) := by decide +kernel
theorem dX5_pivotalOrders_2 : decode cX5_pivotalOrders 2 = .ok (.invokevirtual 59, 3) := by decide +kernel
theorem dX5_pivotalOrders_5 : decode cX5_pivotalOrders 5 = .ok (.aload_n 0, 1) := by decide +kernel
theorem dX5_pivotalOrders_6 : decode cX5_pivotalOrders 6 = .ok (.getfield 19, 3) := by decide +kernel
theorem dX5_pivotalOrders_9 : decode cX5_pivotalOrders 9 = .ok (.invokevirtual 73, 3) := by decide +kernel
theorem dX5_pivotalOrders_12 : decode cX5_pivotalOrders 12 = .ok (.iconst 1, 1) := by decide +kernel
theorem dX5_pivotalOrders_13 : decode cX5_pivotalOrders 13 = .ok (.aload_n 0, 1) := by decide +kernel
theorem dX5_pivotalOrders_14 : decode cX5_pivotalOrders 14 = .ok (.getfield 19, 3) := by decide +kernel
theorem dX5_pivotalOrders_17 : decode cX5_pivotalOrders 17 = .ok (.getfield 40, 3) := by decide +kernel
theorem dX5_pivotalOrders_20 : decode cX5_pivotalOrders 20 = .ok (.iload_n 2, 1) := by decide +kernel
theorem dX5_pivotalOrders_21 : decode cX5_pivotalOrders 21 = .ok (.aaload, 1) := by decide +kernel
theorem dX5_pivotalOrders_22 : decode cX5_pivotalOrders 22 = .ok (.iconst 0, 1) := by decide +kernel
theorem dX5_pivotalOrders_23 : decode cX5_pivotalOrders 23 = .ok (.iaload, 1) := by decide +kernel
theorem dX5_pivotalOrders_24 : decode cX5_pivotalOrders 24 = .ok (.ishl, 1) := by decide +kernel
theorem dX5_pivotalOrders_25 : decode cX5_pivotalOrders 25 = .ok (.iconst (-1), 1) := by decide +kernel
theorem dX5_pivotalOrders_26 : decode cX5_pivotalOrders 26 = .ok (.ixor, 1) := by decide +kernel
theorem dX5_pivotalOrders_27 : decode cX5_pivotalOrders 27 = .ok (.iand, 1) := by decide +kernel
theorem dX5_pivotalOrders_28 : decode cX5_pivotalOrders 28 = .ok (.istore_n 3, 1) := by decide +kernel
theorem dX5_pivotalOrders_29 : decode cX5_pivotalOrders 29 = .ok (.iload_n 3, 1) := by decide +kernel
theorem dX5_pivotalOrders_30 : decode cX5_pivotalOrders 30 = .ok (.iconst 1, 1) := by decide +kernel
theorem dX5_pivotalOrders_31 : decode cX5_pivotalOrders 31 = .ok (.iload_n 1, 1) := by decide +kernel
theorem dX5_pivotalOrders_32 : decode cX5_pivotalOrders 32 = .ok (.ishl, 1) := by decide +kernel
theorem dX5_pivotalOrders_33 : decode cX5_pivotalOrders 33 = .ok (.iconst (-1), 1) := by decide +kernel
theorem dX5_pivotalOrders_34 : decode cX5_pivotalOrders 34 = .ok (.ixor, 1) := by decide +kernel
theorem dX5_pivotalOrders_35 : decode cX5_pivotalOrders 35 = .ok (.iand, 1) := by decide +kernel
theorem dX5_pivotalOrders_36 : decode cX5_pivotalOrders 36 = .ok (.istore 4, 2) := by decide +kernel
theorem dX5_pivotalOrders_38 : decode cX5_pivotalOrders 38 = .ok (.iconst 0, 1) := by decide +kernel
theorem dX5_pivotalOrders_39 : decode cX5_pivotalOrders 39 = .ok (.istore 5, 2) := by decide +kernel
theorem dX5_pivotalOrders_41 : decode cX5_pivotalOrders 41 = .ok (.iconst 0, 1) := by decide +kernel
theorem dX5_pivotalOrders_42 : decode cX5_pivotalOrders 42 = .ok (.istore 6, 2) := by decide +kernel
theorem dX5_pivotalOrders_44 : decode cX5_pivotalOrders 44 = .ok (.iload 6, 2) := by decide +kernel
theorem dX5_pivotalOrders_46 : decode cX5_pivotalOrders 46 = .ok (.iload 4, 2) := by decide +kernel
theorem dX5_pivotalOrders_48 : decode cX5_pivotalOrders 48 = .ok (.if_icmp .gt 93, 3) := by decide +kernel
theorem dX5_pivotalOrders_51 : decode cX5_pivotalOrders 51 = .ok (.iload 6, 2) := by decide +kernel
theorem dX5_pivotalOrders_53 : decode cX5_pivotalOrders 53 = .ok (.iload 4, 2) := by decide +kernel
theorem dX5_pivotalOrders_55 : decode cX5_pivotalOrders 55 = .ok (.iconst (-1), 1) := by decide +kernel
theorem dX5_pivotalOrders_56 : decode cX5_pivotalOrders 56 = .ok (.ixor, 1) := by decide +kernel
theorem dX5_pivotalOrders_57 : decode cX5_pivotalOrders 57 = .ok (.iand, 1) := by decide +kernel
theorem dX5_pivotalOrders_58 : decode cX5_pivotalOrders 58 = .ok (.ifCond .eq 6, 3) := by decide +kernel
theorem dX5_pivotalOrders_61 : decode cX5_pivotalOrders 61 = .ok (.goto 74, 3) := by decide +kernel
theorem dX5_pivotalOrders_64 : decode cX5_pivotalOrders 64 = .ok (.iload 4, 2) := by decide +kernel
theorem dX5_pivotalOrders_66 : decode cX5_pivotalOrders 66 = .ok (.iload 6, 2) := by decide +kernel
theorem dX5_pivotalOrders_68 : decode cX5_pivotalOrders 68 = .ok (.iconst (-1), 1) := by decide +kernel
theorem dX5_pivotalOrders_69 : decode cX5_pivotalOrders 69 = .ok (.ixor, 1) := by decide +kernel
theorem dX5_pivotalOrders_70 : decode cX5_pivotalOrders 70 = .ok (.iand, 1) := by decide +kernel
theorem dX5_pivotalOrders_71 : decode cX5_pivotalOrders 71 = .ok (.istore 7, 2) := by decide +kernel
theorem dX5_pivotalOrders_73 : decode cX5_pivotalOrders 73 = .ok (.aload_n 0, 1) := by decide +kernel
theorem dX5_pivotalOrders_74 : decode cX5_pivotalOrders 74 = .ok (.getfield 19, 3) := by decide +kernel
theorem dX5_pivotalOrders_77 : decode cX5_pivotalOrders 77 = .ok (.getfield 63, 3) := by decide +kernel
theorem dX5_pivotalOrders_80 : decode cX5_pivotalOrders 80 = .ok (.iload 7, 2) := by decide +kernel
theorem dX5_pivotalOrders_82 : decode cX5_pivotalOrders 82 = .ok (.ior, 1) := by decide +kernel
theorem dX5_pivotalOrders_83 : decode cX5_pivotalOrders 83 = .ok (.iconst 1, 1) := by decide +kernel
theorem dX5_pivotalOrders_84 : decode cX5_pivotalOrders 84 = .ok (.iload_n 1, 1) := by decide +kernel
theorem dX5_pivotalOrders_85 : decode cX5_pivotalOrders 85 = .ok (.ishl, 1) := by decide +kernel
theorem dX5_pivotalOrders_86 : decode cX5_pivotalOrders 86 = .ok (.ior, 1) := by decide +kernel
theorem dX5_pivotalOrders_87 : decode cX5_pivotalOrders 87 = .ok (.istore 8, 2) := by decide +kernel
theorem dX5_pivotalOrders_89 : decode cX5_pivotalOrders 89 = .ok (.aload_n 0, 1) := by decide +kernel
theorem dX5_pivotalOrders_90 : decode cX5_pivotalOrders 90 = .ok (.iload_n 2, 1) := by decide +kernel
theorem dX5_pivotalOrders_91 : decode cX5_pivotalOrders 91 = .ok (.iload 8, 2) := by decide +kernel
theorem dX5_pivotalOrders_93 : decode cX5_pivotalOrders 93 = .ok (.iconst 0, 1) := by decide +kernel
theorem dX5_pivotalOrders_94 : decode cX5_pivotalOrders 94 = .ok (.invokevirtual 67, 3) := by decide +kernel
theorem dX5_pivotalOrders_97 : decode cX5_pivotalOrders 97 = .ok (.ifCond .ne 38, 3) := by decide +kernel
theorem dX5_pivotalOrders_100 : decode cX5_pivotalOrders 100 = .ok (.aload_n 0, 1) := by decide +kernel
theorem dX5_pivotalOrders_101 : decode cX5_pivotalOrders 101 = .ok (.iload_n 2, 1) := by decide +kernel
theorem dX5_pivotalOrders_102 : decode cX5_pivotalOrders 102 = .ok (.aload_n 0, 1) := by decide +kernel
theorem dX5_pivotalOrders_103 : decode cX5_pivotalOrders 103 = .ok (.getfield 19, 3) := by decide +kernel
theorem dX5_pivotalOrders_106 : decode cX5_pivotalOrders 106 = .ok (.getfield 63, 3) := by decide +kernel
theorem dX5_pivotalOrders_109 : decode cX5_pivotalOrders 109 = .ok (.iload 7, 2) := by decide +kernel
theorem dX5_pivotalOrders_111 : decode cX5_pivotalOrders 111 = .ok (.ior, 1) := by decide +kernel
theorem dX5_pivotalOrders_112 : decode cX5_pivotalOrders 112 = .ok (.iconst 0, 1) := by decide +kernel
theorem dX5_pivotalOrders_113 : decode cX5_pivotalOrders 113 = .ok (.invokevirtual 67, 3) := by decide +kernel
theorem dX5_pivotalOrders_116 : decode cX5_pivotalOrders 116 = .ok (.ifCond .eq 19, 3) := by decide +kernel
theorem dX5_pivotalOrders_119 : decode cX5_pivotalOrders 119 = .ok (.iload 5, 2) := by decide +kernel
theorem dX5_pivotalOrders_121 : decode cX5_pivotalOrders 121 = .ok (.iload 6, 2) := by decide +kernel
theorem dX5_pivotalOrders_123 : decode cX5_pivotalOrders 123 = .ok (.invokestatic 95, 3) := by decide +kernel
theorem dX5_pivotalOrders_126 : decode cX5_pivotalOrders 126 = .ok (.iload 7, 2) := by decide +kernel
theorem dX5_pivotalOrders_128 : decode cX5_pivotalOrders 128 = .ok (.invokestatic 95, 3) := by decide +kernel
theorem dX5_pivotalOrders_131 : decode cX5_pivotalOrders 131 = .ok (.imul, 1) := by decide +kernel
theorem dX5_pivotalOrders_132 : decode cX5_pivotalOrders 132 = .ok (.iadd, 1) := by decide +kernel
theorem dX5_pivotalOrders_133 : decode cX5_pivotalOrders 133 = .ok (.istore 5, 2) := by decide +kernel
theorem dX5_pivotalOrders_135 : decode cX5_pivotalOrders 135 = .ok (.iinc 6 1, 3) := by decide +kernel
theorem dX5_pivotalOrders_138 : decode cX5_pivotalOrders 138 = .ok (.goto (-94), 3) := by decide +kernel
theorem dX5_pivotalOrders_141 : decode cX5_pivotalOrders 141 = .ok (.iload 5, 2) := by decide +kernel
theorem dX5_pivotalOrders_143 : decode cX5_pivotalOrders 143 = .ok (.ireturn, 1) := by decide +kernel
theorem dX5_ordersOf_0 : decode cX5_ordersOf 0 = .ok (.getstatic 89, 3) := by decide +kernel
theorem dX5_ordersOf_3 : decode cX5_ordersOf 3 = .ok (.iconst 5, 1) := by decide +kernel
theorem dX5_ordersOf_4 : decode cX5_ordersOf 4 = .ok (.iload_n 0, 1) := by decide +kernel
theorem dX5_ordersOf_5 : decode cX5_ordersOf 5 = .ok (.invokestatic 77, 3) := by decide +kernel
theorem dX5_ordersOf_8 : decode cX5_ordersOf 8 = .ok (.invokestatic 92, 3) := by decide +kernel
theorem dX5_ordersOf_11 : decode cX5_ordersOf 11 = .ok (.iaload, 1) := by decide +kernel
theorem dX5_ordersOf_12 : decode cX5_ordersOf 12 = .ok (.ireturn, 1) := by decide +kernel
theorem dX6_init_0 : decode cX6_init 0 = .ok (.aload_n 0, 1) := by decide +kernel
theorem dX6_init_1 : decode cX6_init 1 = .ok (.invokespecial 3, 3) := by decide +kernel
theorem dX6_init_4 : decode cX6_init 4 = .ok (.aload_n 0, 1) := by decide +kernel
theorem dX6_init_5 : decode cX6_init 5 = .ok (.bipush 64, 2) := by decide +kernel
theorem dX6_init_7 : decode cX6_init 7 = .ok (.newarray .int, 2) := by decide +kernel
theorem dX6_init_9 : decode cX6_init 9 = .ok (.putfield 9, 3) := by decide +kernel
theorem dX6_init_12 : decode cX6_init 12 = .ok (.aload_n 0, 1) := by decide +kernel
theorem dX6_init_13 : decode cX6_init 13 = .ok (.bipush 6, 2) := by decide +kernel
theorem dX6_init_15 : decode cX6_init 15 = .ok (.newarray .int, 2) := by decide +kernel
theorem dX6_init_17 : decode cX6_init 17 = .ok (.putfield 15, 3) := by decide +kernel
theorem dX6_init_20 : decode cX6_init 20 = .ok (.return_, 1) := by decide +kernel
theorem dX6_put_0 : decode cX6_put 0 = .ok (.iconst 0, 1) := by decide +kernel
theorem dX6_put_1 : decode cX6_put 1 = .ok (.istore 4, 2) := by decide +kernel
theorem dX6_put_3 : decode cX6_put 3 = .ok (.iload 4, 2) := by decide +kernel
theorem dX6_put_5 : decode cX6_put 5 = .ok (.iload_n 1, 1) := by decide +kernel
theorem dX6_put_6 : decode cX6_put 6 = .ok (.if_icmp .ge 49, 3) := by decide +kernel
theorem dX6_put_9 : decode cX6_put 9 = .ok (.aload_n 0, 1) := by decide +kernel
theorem dX6_put_10 : decode cX6_put 10 = .ok (.getfield 18, 3) := by decide +kernel
theorem dX6_put_13 : decode cX6_put 13 = .ok (.bipush 64, 2) := by decide +kernel
theorem dX6_put_15 : decode cX6_put 15 = .ok (.if_icmp .ge 40, 3) := by decide +kernel
theorem dX6_put_18 : decode cX6_put 18 = .ok (.aload_n 0, 1) := by decide +kernel
theorem dX6_put_19 : decode cX6_put 19 = .ok (.getfield 9, 3) := by decide +kernel
theorem dX6_put_22 : decode cX6_put 22 = .ok (.aload_n 0, 1) := by decide +kernel
theorem dX6_put_23 : decode cX6_put 23 = .ok (.getfield 18, 3) := by decide +kernel
theorem dX6_put_26 : decode cX6_put 26 = .ok (.lload_n 2, 1) := by decide +kernel
theorem dX6_put_27 : decode cX6_put 27 = .ok (.bipush 8, 2) := by decide +kernel
theorem dX6_put_29 : decode cX6_put 29 = .ok (.iload 4, 2) := by decide +kernel
theorem dX6_put_31 : decode cX6_put 31 = .ok (.imul, 1) := by decide +kernel
theorem dX6_put_32 : decode cX6_put 32 = .ok (.lushr, 1) := by decide +kernel
theorem dX6_put_33 : decode cX6_put 33 = .ok (.ldc2_w 22, 3) := by decide +kernel
theorem dX6_put_36 : decode cX6_put 36 = .ok (.land, 1) := by decide +kernel
theorem dX6_put_37 : decode cX6_put 37 = .ok (.l2i, 1) := by decide +kernel
theorem dX6_put_38 : decode cX6_put 38 = .ok (.iastore, 1) := by decide +kernel
theorem dX6_put_39 : decode cX6_put 39 = .ok (.aload_n 0, 1) := by decide +kernel
theorem dX6_put_40 : decode cX6_put 40 = .ok (.dup, 1) := by decide +kernel
theorem dX6_put_41 : decode cX6_put 41 = .ok (.getfield 18, 3) := by decide +kernel
theorem dX6_put_44 : decode cX6_put 44 = .ok (.iconst 1, 1) := by decide +kernel
theorem dX6_put_45 : decode cX6_put 45 = .ok (.iadd, 1) := by decide +kernel
theorem dX6_put_46 : decode cX6_put 46 = .ok (.putfield 18, 3) := by decide +kernel
theorem dX6_put_49 : decode cX6_put 49 = .ok (.iinc 4 1, 3) := by decide +kernel
theorem dX6_put_52 : decode cX6_put 52 = .ok (.goto (-49), 3) := by decide +kernel
theorem dX6_put_55 : decode cX6_put 55 = .ok (.return_, 1) := by decide +kernel
theorem dX6_formFault_0 : decode cX6_formFault 0 = .ok (.iconst 0, 1) := by decide +kernel
theorem dX6_formFault_1 : decode cX6_formFault 1 = .ok (.istore_n 1, 1) := by decide +kernel
theorem dX6_formFault_2 : decode cX6_formFault 2 = .ok (.iconst 0, 1) := by decide +kernel
theorem dX6_formFault_3 : decode cX6_formFault 3 = .ok (.istore_n 2, 1) := by decide +kernel
theorem dX6_formFault_4 : decode cX6_formFault 4 = .ok (.iload_n 2, 1) := by decide +kernel
theorem dX6_formFault_5 : decode cX6_formFault 5 = .ok (.bipush 64, 2) := by decide +kernel
theorem dX6_formFault_7 : decode cX6_formFault 7 = .ok (.if_icmp .ge 41, 3) := by decide +kernel
theorem dX6_formFault_10 : decode cX6_formFault 10 = .ok (.iload_n 1, 1) := by decide +kernel
theorem dX6_formFault_11 : decode cX6_formFault 11 = .ok (.aload_n 0, 1) := by decide +kernel
theorem dX6_formFault_12 : decode cX6_formFault 12 = .ok (.getfield 18, 3) := by decide +kernel
theorem dX6_formFault_15 : decode cX6_formFault 15 = .ok (.if_icmp .lt 7, 3) := by decide +kernel
theorem dX6_formFault_18 : decode cX6_formFault 18 = .ok (.iload_n 2, 1) := by decide +kernel
theorem dX6_formFault_19 : decode cX6_formFault 19 = .ok (.ifCond .ne 29, 3) := by decide +kernel
theorem dX6_formFault_22 : decode cX6_formFault 22 = .ok (.aload_n 0, 1) := by decide +kernel
theorem dX6_formFault_23 : decode cX6_formFault 23 = .ok (.iload_n 1, 1) := by decide +kernel
theorem dX6_formFault_24 : decode cX6_formFault 24 = .ok (.invokevirtual 24, 3) := by decide +kernel
theorem dX6_formFault_27 : decode cX6_formFault 27 = .ok (.istore_n 3, 1) := by decide +kernel
theorem dX6_formFault_28 : decode cX6_formFault 28 = .ok (.iload_n 3, 1) := by decide +kernel
theorem dX6_formFault_29 : decode cX6_formFault 29 = .ok (.ifCond .ge 11, 3) := by decide +kernel
theorem dX6_formFault_32 : decode cX6_formFault 32 = .ok (.sipush (-1000), 3) := by decide +kernel
theorem dX6_formFault_35 : decode cX6_formFault 35 = .ok (.iconst (-1), 1) := by decide +kernel
theorem dX6_formFault_36 : decode cX6_formFault 36 = .ok (.iload_n 3, 1) := by decide +kernel
theorem dX6_formFault_37 : decode cX6_formFault 37 = .ok (.isub, 1) := by decide +kernel
theorem dX6_formFault_38 : decode cX6_formFault 38 = .ok (.isub, 1) := by decide +kernel
theorem dX6_formFault_39 : decode cX6_formFault 39 = .ok (.ireturn, 1) := by decide +kernel
theorem dX6_formFault_40 : decode cX6_formFault 40 = .ok (.iload_n 3, 1) := by decide +kernel
theorem dX6_formFault_41 : decode cX6_formFault 41 = .ok (.istore_n 1, 1) := by decide +kernel
theorem dX6_formFault_42 : decode cX6_formFault 42 = .ok (.iinc 2 1, 3) := by decide +kernel
theorem dX6_formFault_45 : decode cX6_formFault 45 = .ok (.goto (-41), 3) := by decide +kernel
theorem dX6_formFault_48 : decode cX6_formFault 48 = .ok (.iconst 0, 1) := by decide +kernel
theorem dX6_formFault_49 : decode cX6_formFault 49 = .ok (.ireturn, 1) := by decide +kernel
theorem dX6_tellTo_0 : decode cX6_tellTo 0 = .ok (.iconst 0, 1) := by decide +kernel
theorem dX6_tellTo_1 : decode cX6_tellTo 1 = .ok (.istore_n 2, 1) := by decide +kernel
theorem dX6_tellTo_2 : decode cX6_tellTo 2 = .ok (.iconst 0, 1) := by decide +kernel
theorem dX6_tellTo_3 : decode cX6_tellTo 3 = .ok (.istore_n 3, 1) := by decide +kernel
theorem dX6_tellTo_4 : decode cX6_tellTo 4 = .ok (.iload_n 2, 1) := by decide +kernel
theorem dX6_tellTo_5 : decode cX6_tellTo 5 = .ok (.aload_n 0, 1) := by decide +kernel
theorem dX6_tellTo_6 : decode cX6_tellTo 6 = .ok (.getfield 18, 3) := by decide +kernel
theorem dX6_tellTo_9 : decode cX6_tellTo 9 = .ok (.if_icmp .ge 50, 3) := by decide +kernel
theorem dX6_tellTo_12 : decode cX6_tellTo 12 = .ok (.iload_n 3, 1) := by decide +kernel
theorem dX6_tellTo_13 : decode cX6_tellTo 13 = .ok (.bipush 64, 2) := by decide +kernel
theorem dX6_tellTo_15 : decode cX6_tellTo 15 = .ok (.if_icmp .ge 44, 3) := by decide +kernel
theorem dX6_tellTo_18 : decode cX6_tellTo 18 = .ok (.aload_n 0, 1) := by decide +kernel
theorem dX6_tellTo_19 : decode cX6_tellTo 19 = .ok (.iload_n 2, 1) := by decide +kernel
theorem dX6_tellTo_20 : decode cX6_tellTo 20 = .ok (.invokevirtual 24, 3) := by decide +kernel
theorem dX6_tellTo_23 : decode cX6_tellTo 23 = .ok (.istore 4, 2) := by decide +kernel
theorem dX6_tellTo_25 : decode cX6_tellTo 25 = .ok (.iload 4, 2) := by decide +kernel
theorem dX6_tellTo_27 : decode cX6_tellTo 27 = .ok (.ifCond .lt 17, 3) := by decide +kernel
theorem dX6_tellTo_30 : decode cX6_tellTo 30 = .ok (.aload_n 0, 1) := by decide +kernel
theorem dX6_tellTo_31 : decode cX6_tellTo 31 = .ok (.aload_n 1, 1) := by decide +kernel
theorem dX6_tellTo_32 : decode cX6_tellTo 32 = .ok (.aload_n 0, 1) := by decide +kernel
theorem dX6_tellTo_33 : decode cX6_tellTo 33 = .ok (.getfield 9, 3) := by decide +kernel
theorem dX6_tellTo_36 : decode cX6_tellTo 36 = .ok (.iload_n 2, 1) := by decide +kernel
theorem dX6_tellTo_37 : decode cX6_tellTo 37 = .ok (.iaload, 1) := by decide +kernel
theorem dX6_tellTo_38 : decode cX6_tellTo 38 = .ok (.invokevirtual 28, 3) := by decide +kernel
theorem dX6_tellTo_41 : decode cX6_tellTo 41 = .ok (.ifCond .ne 9, 3) := by decide +kernel
theorem dX6_tellTo_44 : decode cX6_tellTo 44 = .ok (.sipush (-2000), 3) := by decide +kernel
theorem dX6_tellTo_47 : decode cX6_tellTo 47 = .ok (.iload_n 2, 1) := by decide +kernel
theorem dX6_tellTo_48 : decode cX6_tellTo 48 = .ok (.isub, 1) := by decide +kernel
theorem dX6_tellTo_49 : decode cX6_tellTo 49 = .ok (.ireturn, 1) := by decide +kernel
theorem dX6_tellTo_50 : decode cX6_tellTo 50 = .ok (.iload 4, 2) := by decide +kernel
theorem dX6_tellTo_52 : decode cX6_tellTo 52 = .ok (.istore_n 2, 1) := by decide +kernel
theorem dX6_tellTo_53 : decode cX6_tellTo 53 = .ok (.iinc 3 1, 3) := by decide +kernel
theorem dX6_tellTo_56 : decode cX6_tellTo 56 = .ok (.goto (-52), 3) := by decide +kernel
theorem dX6_tellTo_59 : decode cX6_tellTo 59 = .ok (.iload_n 3, 1) := by decide +kernel
theorem dX6_tellTo_60 : decode cX6_tellTo 60 = .ok (.ireturn, 1) := by decide +kernel
theorem dX6_tellOne_0 : decode cX6_tellOne 0 = .ok (.iload_n 2, 1) := by decide +kernel
theorem dX6_tellOne_1 : decode cX6_tellOne 1 = .ok (.bipush 112, 2) := by decide +kernel
theorem dX6_tellOne_3 : decode cX6_tellOne 3 = .ok (.if_icmp .ne 12, 3) := by decide +kernel
theorem dX6_tellOne_6 : decode cX6_tellOne 6 = .ok (.aload_n 1, 1) := by decide +kernel
theorem dX6_tellOne_7 : decode cX6_tellOne 7 = .ok (.aload_n 0, 1) := by decide +kernel
theorem dX6_tellOne_8 : decode cX6_tellOne 8 = .ok (.getfield 15, 3) := by decide +kernel
theorem dX6_tellOne_11 : decode cX6_tellOne 11 = .ok (.invokevirtual 32, 3) := by decide +kernel
theorem dX6_tellOne_14 : decode cX6_tellOne 14 = .ok (.ireturn, 1) := by decide +kernel
theorem dX6_tellOne_15 : decode cX6_tellOne 15 = .ok (.iload_n 2, 1) := by decide +kernel
theorem dX6_tellOne_16 : decode cX6_tellOne 16 = .ok (.bipush 104, 2) := by decide +kernel
theorem dX6_tellOne_18 : decode cX6_tellOne 18 = .ok (.if_icmp .ne 26, 3) := by decide +kernel
theorem dX6_tellOne_21 : decode cX6_tellOne 21 = .ok (.aload_n 1, 1) := by decide +kernel
theorem dX6_tellOne_22 : decode cX6_tellOne 22 = .ok (.aload_n 0, 1) := by decide +kernel
theorem dX6_tellOne_23 : decode cX6_tellOne 23 = .ok (.getfield 15, 3) := by decide +kernel
theorem dX6_tellOne_26 : decode cX6_tellOne 26 = .ok (.iconst 0, 1) := by decide +kernel
theorem dX6_tellOne_27 : decode cX6_tellOne 27 = .ok (.iaload, 1) := by decide +kernel
theorem dX6_tellOne_28 : decode cX6_tellOne 28 = .ok (.aload_n 0, 1) := by decide +kernel
theorem dX6_tellOne_29 : decode cX6_tellOne 29 = .ok (.getfield 15, 3) := by decide +kernel
theorem dX6_tellOne_32 : decode cX6_tellOne 32 = .ok (.iconst 1, 1) := by decide +kernel
theorem dX6_tellOne_33 : decode cX6_tellOne 33 = .ok (.iaload, 1) := by decide +kernel
theorem dX6_tellOne_34 : decode cX6_tellOne 34 = .ok (.aload_n 0, 1) := by decide +kernel
theorem dX6_tellOne_35 : decode cX6_tellOne 35 = .ok (.getfield 15, 3) := by decide +kernel
theorem dX6_tellOne_38 : decode cX6_tellOne 38 = .ok (.iconst 2, 1) := by decide +kernel
theorem dX6_tellOne_39 : decode cX6_tellOne 39 = .ok (.iaload, 1) := by decide +kernel
theorem dX6_tellOne_40 : decode cX6_tellOne 40 = .ok (.invokevirtual 38, 3) := by decide +kernel
theorem dX6_tellOne_43 : decode cX6_tellOne 43 = .ok (.ireturn, 1) := by decide +kernel
theorem dX6_tellOne_44 : decode cX6_tellOne 44 = .ok (.aload_n 1, 1) := by decide +kernel
theorem dX6_tellOne_45 : decode cX6_tellOne 45 = .ok (.aload_n 0, 1) := by decide +kernel
theorem dX6_tellOne_46 : decode cX6_tellOne 46 = .ok (.getfield 15, 3) := by decide +kernel
theorem dX6_tellOne_49 : decode cX6_tellOne 49 = .ok (.invokevirtual 42, 3) := by decide +kernel
theorem dX6_tellOne_52 : decode cX6_tellOne 52 = .ok (.ireturn, 1) := by decide +kernel
theorem dX6_readStatement_0 : decode cX6_readStatement 0 = .ok (.aload_n 0, 1) := by decide +kernel
theorem dX6_readStatement_1 : decode cX6_readStatement 1 = .ok (.iload_n 1, 1) := by decide +kernel
theorem dX6_readStatement_2 : decode cX6_readStatement 2 = .ok (.invokevirtual 45, 3) := by decide +kernel
theorem dX6_readStatement_5 : decode cX6_readStatement 5 = .ok (.astore_n 2, 1) := by decide +kernel
theorem dX6_readStatement_6 : decode cX6_readStatement 6 = .ok (.iload_n 1, 1) := by decide +kernel
theorem dX6_readStatement_7 : decode cX6_readStatement 7 = .ok (.istore_n 3, 1) := by decide +kernel
theorem dX6_readStatement_8 : decode cX6_readStatement 8 = .ok (.iconst 0, 1) := by decide +kernel
theorem dX6_readStatement_9 : decode cX6_readStatement 9 = .ok (.istore 4, 2) := by decide +kernel
theorem dX6_readStatement_11 : decode cX6_readStatement 11 = .ok (.iconst 0, 1) := by decide +kernel
theorem dX6_readStatement_12 : decode cX6_readStatement 12 = .ok (.istore 5, 2) := by decide +kernel
theorem dX6_readStatement_14 : decode cX6_readStatement 14 = .ok (.iload 5, 2) := by decide +kernel
theorem dX6_readStatement_16 : decode cX6_readStatement 16 = .ok (.aload_n 2, 1) := by decide +kernel
theorem dX6_readStatement_17 : decode cX6_readStatement 17 = .ok (.invokevirtual 49, 3) := by decide +kernel
theorem dX6_readStatement_20 : decode cX6_readStatement 20 = .ok (.if_icmp .ge 106, 3) := by decide +kernel
theorem dX6_readStatement_23 : decode cX6_readStatement 23 = .ok (.aload_n 2, 1) := by decide +kernel
theorem dX6_readStatement_24 : decode cX6_readStatement 24 = .ok (.iload 5, 2) := by decide +kernel
theorem dX6_readStatement_26 : decode cX6_readStatement 26 = .ok (.invokevirtual 55, 3) := by decide +kernel
theorem dX6_readStatement_29 : decode cX6_readStatement 29 = .ok (.istore 6, 2) := by decide +kernel
theorem dX6_readStatement_31 : decode cX6_readStatement 31 = .ok (.aload_n 0, 1) := by decide +kernel
theorem dX6_readStatement_32 : decode cX6_readStatement 32 = .ok (.iload_n 3, 1) := by decide +kernel
theorem dX6_readStatement_33 : decode cX6_readStatement 33 = .ok (.iload 6, 2) := by decide +kernel
theorem dX6_readStatement_35 : decode cX6_readStatement 35 = .ok (.invokevirtual 59, 3) := by decide +kernel
theorem dX6_readStatement_38 : decode cX6_readStatement 38 = .ok (.istore 7, 2) := by decide +kernel
theorem dX6_readStatement_40 : decode cX6_readStatement 40 = .ok (.iload 7, 2) := by decide +kernel
theorem dX6_readStatement_42 : decode cX6_readStatement 42 = .ok (.ifCond .ge 7, 3) := by decide +kernel
theorem dX6_readStatement_45 : decode cX6_readStatement 45 = .ok (.iconst (-1), 1) := by decide +kernel
theorem dX6_readStatement_46 : decode cX6_readStatement 46 = .ok (.iload_n 3, 1) := by decide +kernel
theorem dX6_readStatement_47 : decode cX6_readStatement 47 = .ok (.isub, 1) := by decide +kernel
theorem dX6_readStatement_48 : decode cX6_readStatement 48 = .ok (.ireturn, 1) := by decide +kernel
theorem dX6_readStatement_49 : decode cX6_readStatement 49 = .ok (.iinc 3 1, 3) := by decide +kernel
theorem dX6_readStatement_52 : decode cX6_readStatement 52 = .ok (.iload 6, 2) := by decide +kernel
theorem dX6_readStatement_54 : decode cX6_readStatement 54 = .ok (.bipush 78, 2) := by decide +kernel
theorem dX6_readStatement_56 : decode cX6_readStatement 56 = .ok (.if_icmp .ne 31, 3) := by decide +kernel
theorem dX6_readStatement_59 : decode cX6_readStatement 59 = .ok (.aload_n 0, 1) := by decide +kernel
theorem dX6_readStatement_60 : decode cX6_readStatement 60 = .ok (.iload_n 3, 1) := by decide +kernel
theorem dX6_readStatement_61 : decode cX6_readStatement 61 = .ok (.bipush 68, 2) := by decide +kernel
theorem dX6_readStatement_63 : decode cX6_readStatement 63 = .ok (.invokevirtual 59, 3) := by decide +kernel
theorem dX6_readStatement_66 : decode cX6_readStatement 66 = .ok (.ifCond .lt 21, 3) := by decide +kernel
theorem dX6_readStatement_69 : decode cX6_readStatement 69 = .ok (.iload 7, 2) := by decide +kernel
theorem dX6_readStatement_71 : decode cX6_readStatement 71 = .ok (.bipush 10, 2) := by decide +kernel
theorem dX6_readStatement_73 : decode cX6_readStatement 73 = .ok (.imul, 1) := by decide +kernel
theorem dX6_readStatement_74 : decode cX6_readStatement 74 = .ok (.aload_n 0, 1) := by decide +kernel
theorem dX6_readStatement_75 : decode cX6_readStatement 75 = .ok (.iload_n 3, 1) := by decide +kernel
theorem dX6_readStatement_76 : decode cX6_readStatement 76 = .ok (.bipush 68, 2) := by decide +kernel
theorem dX6_readStatement_78 : decode cX6_readStatement 78 = .ok (.invokevirtual 59, 3) := by decide +kernel
theorem dX6_readStatement_81 : decode cX6_readStatement 81 = .ok (.iadd, 1) := by decide +kernel
theorem dX6_readStatement_82 : decode cX6_readStatement 82 = .ok (.istore 7, 2) := by decide +kernel
theorem dX6_readStatement_84 : decode cX6_readStatement 84 = .ok (.iinc 3 1, 3) := by decide +kernel
theorem dX6_readStatement_87 : decode cX6_readStatement 87 = .ok (.iload 6, 2) := by decide +kernel
theorem dX6_readStatement_89 : decode cX6_readStatement 89 = .ok (.bipush 65, 2) := by decide +kernel
theorem dX6_readStatement_91 : decode cX6_readStatement 91 = .ok (.if_icmp .lt 29, 3) := by decide +kernel
theorem dX6_readStatement_94 : decode cX6_readStatement 94 = .ok (.iload 6, 2) := by decide +kernel
theorem dX6_readStatement_96 : decode cX6_readStatement 96 = .ok (.bipush 90, 2) := by decide +kernel
theorem dX6_readStatement_98 : decode cX6_readStatement 98 = .ok (.if_icmp .gt 22, 3) := by decide +kernel
theorem dX6_readStatement_101 : decode cX6_readStatement 101 = .ok (.iload 4, 2) := by decide +kernel
theorem dX6_readStatement_103 : decode cX6_readStatement 103 = .ok (.bipush 6, 2) := by decide +kernel
theorem dX6_readStatement_105 : decode cX6_readStatement 105 = .ok (.if_icmp .ge 15, 3) := by decide +kernel
theorem dX6_readStatement_108 : decode cX6_readStatement 108 = .ok (.aload_n 0, 1) := by decide +kernel
theorem dX6_readStatement_109 : decode cX6_readStatement 109 = .ok (.getfield 15, 3) := by decide +kernel
theorem dX6_readStatement_112 : decode cX6_readStatement 112 = .ok (.iload 4, 2) := by decide +kernel
theorem dX6_readStatement_114 : decode cX6_readStatement 114 = .ok (.iload 7, 2) := by decide +kernel
theorem dX6_readStatement_116 : decode cX6_readStatement 116 = .ok (.iastore, 1) := by decide +kernel
theorem dX6_readStatement_117 : decode cX6_readStatement 117 = .ok (.iinc 4 1, 3) := by decide +kernel
theorem dX6_readStatement_120 : decode cX6_readStatement 120 = .ok (.iinc 5 1, 3) := by decide +kernel
theorem dX6_readStatement_123 : decode cX6_readStatement 123 = .ok (.goto (-109), 3) := by decide +kernel
theorem dX6_readStatement_126 : decode cX6_readStatement 126 = .ok (.iload_n 3, 1) := by decide +kernel
theorem dX6_readStatement_127 : decode cX6_readStatement 127 = .ok (.ireturn, 1) := by decide +kernel
theorem dX6_formAt_0 : decode cX6_formAt 0 = .ok (.aload_n 0, 1) := by decide +kernel
theorem dX6_formAt_1 : decode cX6_formAt 1 = .ok (.iload_n 1, 1) := by decide +kernel
theorem dX6_formAt_2 : decode cX6_formAt 2 = .ok (.invokevirtual 63, 3) := by decide +kernel
theorem dX6_formAt_5 : decode cX6_formAt 5 = .ok (.istore_n 2, 1) := by decide +kernel
theorem dX6_formAt_6 : decode cX6_formAt 6 = .ok (.iload_n 2, 1) := by decide +kernel
theorem dX6_formAt_7 : decode cX6_formAt 7 = .ok (.bipush 104, 2) := by decide +kernel
theorem dX6_formAt_9 : decode cX6_formAt 9 = .ok (.if_icmp .ne 6, 3) := by decide +kernel
theorem dX6_formAt_12 : decode cX6_formAt 12 = .ok (.ldc 66, 2) := by decide +kernel
theorem dX6_formAt_14 : decode cX6_formAt 14 = .ok (.areturn, 1) := by decide +kernel
theorem dX6_formAt_15 : decode cX6_formAt 15 = .ok (.iload_n 2, 1) := by decide +kernel
theorem dX6_formAt_16 : decode cX6_formAt 16 = .ok (.bipush 119, 2) := by decide +kernel
theorem dX6_formAt_18 : decode cX6_formAt 18 = .ok (.if_icmp .ne 8, 3) := by decide +kernel
theorem dX6_formAt_21 : decode cX6_formAt 21 = .ok (.ldc 68, 2) := by decide +kernel
theorem dX6_formAt_23 : decode cX6_formAt 23 = .ok (.goto 5, 3) := by decide +kernel
theorem dX6_formAt_26 : decode cX6_formAt 26 = .ok (.ldc 70, 2) := by decide +kernel
theorem dX6_formAt_28 : decode cX6_formAt 28 = .ok (.areturn, 1) := by decide +kernel
theorem dX6_signAt_0 : decode cX6_signAt 0 = .ok (.iload_n 1, 1) := by decide +kernel
theorem dX6_signAt_1 : decode cX6_signAt 1 = .ok (.ifCond .lt 20, 3) := by decide +kernel
theorem dX6_signAt_4 : decode cX6_signAt 4 = .ok (.iload_n 1, 1) := by decide +kernel
theorem dX6_signAt_5 : decode cX6_signAt 5 = .ok (.aload_n 0, 1) := by decide +kernel
theorem dX6_signAt_6 : decode cX6_signAt 6 = .ok (.getfield 18, 3) := by decide +kernel
theorem dX6_signAt_9 : decode cX6_signAt 9 = .ok (.if_icmp .ge 12, 3) := by decide +kernel
theorem dX6_signAt_12 : decode cX6_signAt 12 = .ok (.aload_n 0, 1) := by decide +kernel
theorem dX6_signAt_13 : decode cX6_signAt 13 = .ok (.getfield 9, 3) := by decide +kernel
theorem dX6_signAt_16 : decode cX6_signAt 16 = .ok (.iload_n 1, 1) := by decide +kernel
theorem dX6_signAt_17 : decode cX6_signAt 17 = .ok (.iaload, 1) := by decide +kernel
theorem dX6_signAt_18 : decode cX6_signAt 18 = .ok (.goto 4, 3) := by decide +kernel
theorem dX6_signAt_21 : decode cX6_signAt 21 = .ok (.iconst (-1), 1) := by decide +kernel
theorem dX6_signAt_22 : decode cX6_signAt 22 = .ok (.ireturn, 1) := by decide +kernel
theorem dX6_valueAt_0 : decode cX6_valueAt 0 = .ok (.aload_n 0, 1) := by decide +kernel
theorem dX6_valueAt_1 : decode cX6_valueAt 1 = .ok (.iload_n 1, 1) := by decide +kernel
theorem dX6_valueAt_2 : decode cX6_valueAt 2 = .ok (.invokevirtual 63, 3) := by decide +kernel
theorem dX6_valueAt_5 : decode cX6_valueAt 5 = .ok (.istore_n 3, 1) := by decide +kernel
theorem dX6_valueAt_6 : decode cX6_valueAt 6 = .ok (.iload_n 3, 1) := by decide +kernel
theorem dX6_valueAt_7 : decode cX6_valueAt 7 = .ok (.ifCond .ge 5, 3) := by decide +kernel
theorem dX6_valueAt_10 : decode cX6_valueAt 10 = .ok (.iconst (-1), 1) := by decide +kernel
theorem dX6_valueAt_11 : decode cX6_valueAt 11 = .ok (.ireturn, 1) := by decide +kernel
theorem dX6_valueAt_12 : decode cX6_valueAt 12 = .ok (.iload_n 2, 1) := by decide +kernel
theorem dX6_valueAt_13 : decode cX6_valueAt 13 = .ok (.lookupswitch 94 #[(68, 43), (75, 64), (78, 43), (82, 72)], 43) := by decide +kernel
theorem dX6_valueAt_56 : decode cX6_valueAt 56 = .ok (.iload_n 3, 1) := by decide +kernel
theorem dX6_valueAt_57 : decode cX6_valueAt 57 = .ok (.bipush 48, 2) := by decide +kernel
theorem dX6_valueAt_59 : decode cX6_valueAt 59 = .ok (.if_icmp .lt 16, 3) := by decide +kernel
theorem dX6_valueAt_62 : decode cX6_valueAt 62 = .ok (.iload_n 3, 1) := by decide +kernel
theorem dX6_valueAt_63 : decode cX6_valueAt 63 = .ok (.bipush 57, 2) := by decide +kernel
theorem dX6_valueAt_65 : decode cX6_valueAt 65 = .ok (.if_icmp .gt 10, 3) := by decide +kernel
theorem dX6_valueAt_68 : decode cX6_valueAt 68 = .ok (.iload_n 3, 1) := by decide +kernel
theorem dX6_valueAt_69 : decode cX6_valueAt 69 = .ok (.bipush 48, 2) := by decide +kernel
theorem dX6_valueAt_71 : decode cX6_valueAt 71 = .ok (.isub, 1) := by decide +kernel
theorem dX6_valueAt_72 : decode cX6_valueAt 72 = .ok (.goto 4, 3) := by decide +kernel
theorem dX6_valueAt_75 : decode cX6_valueAt 75 = .ok (.iconst (-1), 1) := by decide +kernel
theorem dX6_valueAt_76 : decode cX6_valueAt 76 = .ok (.ireturn, 1) := by decide +kernel
theorem dX6_valueAt_77 : decode cX6_valueAt 77 = .ok (.ldc 72, 2) := by decide +kernel
theorem dX6_valueAt_79 : decode cX6_valueAt 79 = .ok (.iload_n 3, 1) := by decide +kernel
theorem dX6_valueAt_80 : decode cX6_valueAt 80 = .ok (.i2c, 1) := by decide +kernel
theorem dX6_valueAt_81 : decode cX6_valueAt 81 = .ok (.invokevirtual 74, 3) := by decide +kernel
theorem dX6_valueAt_84 : decode cX6_valueAt 84 = .ok (.ireturn, 1) := by decide +kernel
theorem dX6_valueAt_85 : decode cX6_valueAt 85 = .ok (.iload_n 3, 1) := by decide +kernel
theorem dX6_valueAt_86 : decode cX6_valueAt 86 = .ok (.bipush 115, 2) := by decide +kernel
theorem dX6_valueAt_88 : decode cX6_valueAt 88 = .ok (.if_icmp .ne 7, 3) := by decide +kernel
theorem dX6_valueAt_91 : decode cX6_valueAt 91 = .ok (.iconst 1, 1) := by decide +kernel
theorem dX6_valueAt_92 : decode cX6_valueAt 92 = .ok (.goto 14, 3) := by decide +kernel
theorem dX6_valueAt_95 : decode cX6_valueAt 95 = .ok (.iload_n 3, 1) := by decide +kernel
theorem dX6_valueAt_96 : decode cX6_valueAt 96 = .ok (.bipush 114, 2) := by decide +kernel
theorem dX6_valueAt_98 : decode cX6_valueAt 98 = .ok (.if_icmp .ne 7, 3) := by decide +kernel
theorem dX6_valueAt_101 : decode cX6_valueAt 101 = .ok (.iconst 0, 1) := by decide +kernel
theorem dX6_valueAt_102 : decode cX6_valueAt 102 = .ok (.goto 4, 3) := by decide +kernel
theorem dX6_valueAt_105 : decode cX6_valueAt 105 = .ok (.iconst (-1), 1) := by decide +kernel
theorem dX6_valueAt_106 : decode cX6_valueAt 106 = .ok (.ireturn, 1) := by decide +kernel
theorem dX6_valueAt_107 : decode cX6_valueAt 107 = .ok (.iload_n 3, 1) := by decide +kernel
theorem dX6_valueAt_108 : decode cX6_valueAt 108 = .ok (.iload_n 2, 1) := by decide +kernel
theorem dX6_valueAt_109 : decode cX6_valueAt 109 = .ok (.if_icmp .ne 7, 3) := by decide +kernel
theorem dX6_valueAt_112 : decode cX6_valueAt 112 = .ok (.iconst 0, 1) := by decide +kernel
theorem dX6_valueAt_113 : decode cX6_valueAt 113 = .ok (.goto 4, 3) := by decide +kernel
theorem dX6_valueAt_116 : decode cX6_valueAt 116 = .ok (.iconst (-1), 1) := by decide +kernel
theorem dX6_valueAt_117 : decode cX6_valueAt 117 = .ok (.ireturn, 1) := by decide +kernel
theorem dX7_init_0 : decode cX7_init 0 = .ok (.aload_n 0, 1) := by decide +kernel
theorem dX7_init_1 : decode cX7_init 1 = .ok (.invokespecial 3, 3) := by decide +kernel
theorem dX7_init_4 : decode cX7_init 4 = .ok (.aload_n 0, 1) := by decide +kernel
theorem dX7_init_5 : decode cX7_init 5 = .ok (.bipush (-9), 2) := by decide +kernel
theorem dX7_init_7 : decode cX7_init 7 = .ok (.putfield 9, 3) := by decide +kernel
theorem dX7_init_10 : decode cX7_init 10 = .ok (.aload_n 0, 1) := by decide +kernel
theorem dX7_init_11 : decode cX7_init 11 = .ok (.bipush 8, 2) := by decide +kernel
theorem dX7_init_13 : decode cX7_init 13 = .ok (.iconst 3, 1) := by decide +kernel
theorem dX7_init_14 : decode cX7_init 14 = .ok (.multianewarray 15 2, 4) := by decide +kernel
theorem dX7_init_18 : decode cX7_init 18 = .ok (.putfield 17, 3) := by decide +kernel
theorem dX7_init_21 : decode cX7_init 21 = .ok (.aload_n 0, 1) := by decide +kernel
theorem dX7_init_22 : decode cX7_init 22 = .ok (.bipush 8, 2) := by decide +kernel
theorem dX7_init_24 : decode cX7_init 24 = .ok (.newarray .int, 2) := by decide +kernel
theorem dX7_init_26 : decode cX7_init 26 = .ok (.putfield 20, 3) := by decide +kernel
theorem dX7_init_29 : decode cX7_init 29 = .ok (.aload_n 0, 1) := by decide +kernel
theorem dX7_init_30 : decode cX7_init 30 = .ok (.bipush 8, 2) := by decide +kernel
theorem dX7_init_32 : decode cX7_init 32 = .ok (.newarray .int, 2) := by decide +kernel
theorem dX7_init_34 : decode cX7_init 34 = .ok (.dup, 1) := by decide +kernel
theorem dX7_init_35 : decode cX7_init 35 = .ok (.iconst 0, 1) := by decide +kernel
theorem dX7_init_36 : decode cX7_init 36 = .ok (.bipush (-9), 2) := by decide +kernel
theorem dX7_init_38 : decode cX7_init 38 = .ok (.iastore, 1) := by decide +kernel
theorem dX7_init_39 : decode cX7_init 39 = .ok (.dup, 1) := by decide +kernel
theorem dX7_init_40 : decode cX7_init 40 = .ok (.iconst 1, 1) := by decide +kernel
theorem dX7_init_41 : decode cX7_init 41 = .ok (.bipush (-9), 2) := by decide +kernel
theorem dX7_init_43 : decode cX7_init 43 = .ok (.iastore, 1) := by decide +kernel
theorem dX7_init_44 : decode cX7_init 44 = .ok (.dup, 1) := by decide +kernel
theorem dX7_init_45 : decode cX7_init 45 = .ok (.iconst 2, 1) := by decide +kernel
theorem dX7_init_46 : decode cX7_init 46 = .ok (.bipush (-9), 2) := by decide +kernel
theorem dX7_init_48 : decode cX7_init 48 = .ok (.iastore, 1) := by decide +kernel
theorem dX7_init_49 : decode cX7_init 49 = .ok (.dup, 1) := by decide +kernel
theorem dX7_init_50 : decode cX7_init 50 = .ok (.iconst 3, 1) := by decide +kernel
theorem dX7_init_51 : decode cX7_init 51 = .ok (.bipush (-9), 2) := by decide +kernel
theorem dX7_init_53 : decode cX7_init 53 = .ok (.iastore, 1) := by decide +kernel
theorem dX7_init_54 : decode cX7_init 54 = .ok (.dup, 1) := by decide +kernel
theorem dX7_init_55 : decode cX7_init 55 = .ok (.iconst 4, 1) := by decide +kernel
theorem dX7_init_56 : decode cX7_init 56 = .ok (.bipush (-9), 2) := by decide +kernel
theorem dX7_init_58 : decode cX7_init 58 = .ok (.iastore, 1) := by decide +kernel
theorem dX7_init_59 : decode cX7_init 59 = .ok (.dup, 1) := by decide +kernel
theorem dX7_init_60 : decode cX7_init 60 = .ok (.iconst 5, 1) := by decide +kernel
theorem dX7_init_61 : decode cX7_init 61 = .ok (.bipush (-9), 2) := by decide +kernel
theorem dX7_init_63 : decode cX7_init 63 = .ok (.iastore, 1) := by decide +kernel
theorem dX7_init_64 : decode cX7_init 64 = .ok (.dup, 1) := by decide +kernel
theorem dX7_init_65 : decode cX7_init 65 = .ok (.bipush 6, 2) := by decide +kernel
theorem dX7_init_67 : decode cX7_init 67 = .ok (.bipush (-9), 2) := by decide +kernel
theorem dX7_init_69 : decode cX7_init 69 = .ok (.iastore, 1) := by decide +kernel
theorem dX7_init_70 : decode cX7_init 70 = .ok (.dup, 1) := by decide +kernel
theorem dX7_init_71 : decode cX7_init 71 = .ok (.bipush 7, 2) := by decide +kernel
theorem dX7_init_73 : decode cX7_init 73 = .ok (.bipush (-9), 2) := by decide +kernel
theorem dX7_init_75 : decode cX7_init 75 = .ok (.iastore, 1) := by decide +kernel
theorem dX7_init_76 : decode cX7_init 76 = .ok (.putfield 24, 3) := by decide +kernel
theorem dX7_init_79 : decode cX7_init 79 = .ok (.aload_n 0, 1) := by decide +kernel
theorem dX7_init_80 : decode cX7_init 80 = .ok (.bipush 28, 2) := by decide +kernel
theorem dX7_init_82 : decode cX7_init 82 = .ok (.newarray .int, 2) := by decide +kernel
theorem dX7_init_84 : decode cX7_init 84 = .ok (.putfield 27, 3) := by decide +kernel
theorem dX7_init_87 : decode cX7_init 87 = .ok (.aload_n 0, 1) := by decide +kernel
theorem dX7_init_88 : decode cX7_init 88 = .ok (.bipush 28, 2) := by decide +kernel
theorem dX7_init_90 : decode cX7_init 90 = .ok (.iconst 3, 1) := by decide +kernel
theorem dX7_init_91 : decode cX7_init 91 = .ok (.multianewarray 15 2, 4) := by decide +kernel
theorem dX7_init_95 : decode cX7_init 95 = .ok (.putfield 30, 3) := by decide +kernel
theorem dX7_init_98 : decode cX7_init 98 = .ok (.aload_n 0, 1) := by decide +kernel
theorem dX7_init_99 : decode cX7_init 99 = .ok (.bipush 6, 2) := by decide +kernel
theorem dX7_init_101 : decode cX7_init 101 = .ok (.bipush 6, 2) := by decide +kernel
theorem dX7_init_103 : decode cX7_init 103 = .ok (.multianewarray 15 2, 4) := by decide +kernel
theorem dX7_init_107 : decode cX7_init 107 = .ok (.putfield 33, 3) := by decide +kernel
theorem dX7_init_110 : decode cX7_init 110 = .ok (.aload_n 0, 1) := by decide +kernel
theorem dX7_init_111 : decode cX7_init 111 = .ok (.iconst 4, 1) := by decide +kernel
theorem dX7_init_112 : decode cX7_init 112 = .ok (.newarray .int, 2) := by decide +kernel
theorem dX7_init_114 : decode cX7_init 114 = .ok (.dup, 1) := by decide +kernel
theorem dX7_init_115 : decode cX7_init 115 = .ok (.iconst 0, 1) := by decide +kernel
theorem dX7_init_116 : decode cX7_init 116 = .ok (.bipush 100, 2) := by decide +kernel
theorem dX7_init_118 : decode cX7_init 118 = .ok (.iastore, 1) := by decide +kernel
theorem dX7_init_119 : decode cX7_init 119 = .ok (.dup, 1) := by decide +kernel
theorem dX7_init_120 : decode cX7_init 120 = .ok (.iconst 1, 1) := by decide +kernel
theorem dX7_init_121 : decode cX7_init 121 = .ok (.bipush 100, 2) := by decide +kernel
theorem dX7_init_123 : decode cX7_init 123 = .ok (.iastore, 1) := by decide +kernel
theorem dX7_init_124 : decode cX7_init 124 = .ok (.dup, 1) := by decide +kernel
theorem dX7_init_125 : decode cX7_init 125 = .ok (.iconst 2, 1) := by decide +kernel
theorem dX7_init_126 : decode cX7_init 126 = .ok (.bipush 100, 2) := by decide +kernel
theorem dX7_init_128 : decode cX7_init 128 = .ok (.iastore, 1) := by decide +kernel
theorem dX7_init_129 : decode cX7_init 129 = .ok (.dup, 1) := by decide +kernel
theorem dX7_init_130 : decode cX7_init 130 = .ok (.iconst 3, 1) := by decide +kernel
theorem dX7_init_131 : decode cX7_init 131 = .ok (.bipush 100, 2) := by decide +kernel
theorem dX7_init_133 : decode cX7_init 133 = .ok (.iastore, 1) := by decide +kernel
theorem dX7_init_134 : decode cX7_init 134 = .ok (.putfield 36, 3) := by decide +kernel
theorem dX7_init_137 : decode cX7_init 137 = .ok (.return_, 1) := by decide +kernel
theorem dX7_copyFrom_0 : decode cX7_copyFrom 0 = .ok (.aload_n 0, 1) := by decide +kernel
theorem dX7_copyFrom_1 : decode cX7_copyFrom 1 = .ok (.aload_n 1, 1) := by decide +kernel
theorem dX7_copyFrom_2 : decode cX7_copyFrom 2 = .ok (.getfield 39, 3) := by decide +kernel
theorem dX7_copyFrom_5 : decode cX7_copyFrom 5 = .ok (.putfield 39, 3) := by decide +kernel
theorem dX7_copyFrom_8 : decode cX7_copyFrom 8 = .ok (.aload_n 0, 1) := by decide +kernel
theorem dX7_copyFrom_9 : decode cX7_copyFrom 9 = .ok (.aload_n 1, 1) := by decide +kernel
theorem dX7_copyFrom_10 : decode cX7_copyFrom 10 = .ok (.getfield 42, 3) := by decide +kernel
theorem dX7_copyFrom_13 : decode cX7_copyFrom 13 = .ok (.putfield 42, 3) := by decide +kernel
theorem dX7_copyFrom_16 : decode cX7_copyFrom 16 = .ok (.aload_n 0, 1) := by decide +kernel
theorem dX7_copyFrom_17 : decode cX7_copyFrom 17 = .ok (.aload_n 1, 1) := by decide +kernel
theorem dX7_copyFrom_18 : decode cX7_copyFrom 18 = .ok (.getfield 45, 3) := by decide +kernel
theorem dX7_copyFrom_21 : decode cX7_copyFrom 21 = .ok (.putfield 45, 3) := by decide +kernel
theorem dX7_copyFrom_24 : decode cX7_copyFrom 24 = .ok (.aload_n 0, 1) := by decide +kernel
theorem dX7_copyFrom_25 : decode cX7_copyFrom 25 = .ok (.aload_n 1, 1) := by decide +kernel
theorem dX7_copyFrom_26 : decode cX7_copyFrom 26 = .ok (.getfield 9, 3) := by decide +kernel
theorem dX7_copyFrom_29 : decode cX7_copyFrom 29 = .ok (.putfield 9, 3) := by decide +kernel
theorem dX7_copyFrom_32 : decode cX7_copyFrom 32 = .ok (.aload_n 0, 1) := by decide +kernel
theorem dX7_copyFrom_33 : decode cX7_copyFrom 33 = .ok (.aload_n 1, 1) := by decide +kernel
theorem dX7_copyFrom_34 : decode cX7_copyFrom 34 = .ok (.getfield 48, 3) := by decide +kernel
theorem dX7_copyFrom_37 : decode cX7_copyFrom 37 = .ok (.putfield 48, 3) := by decide +kernel
theorem dX7_copyFrom_40 : decode cX7_copyFrom 40 = .ok (.iconst 0, 1) := by decide +kernel
theorem dX7_copyFrom_41 : decode cX7_copyFrom 41 = .ok (.istore_n 2, 1) := by decide +kernel
theorem dX7_copyFrom_42 : decode cX7_copyFrom 42 = .ok (.iload_n 2, 1) := by decide +kernel
theorem dX7_copyFrom_43 : decode cX7_copyFrom 43 = .ok (.bipush 8, 2) := by decide +kernel
theorem dX7_copyFrom_45 : decode cX7_copyFrom 45 = .ok (.if_icmp .ge 27, 3) := by decide +kernel
theorem dX7_copyFrom_48 : decode cX7_copyFrom 48 = .ok (.aload_n 1, 1) := by decide +kernel
theorem dX7_copyFrom_49 : decode cX7_copyFrom 49 = .ok (.getfield 17, 3) := by decide +kernel
theorem dX7_copyFrom_52 : decode cX7_copyFrom 52 = .ok (.iload_n 2, 1) := by decide +kernel
theorem dX7_copyFrom_53 : decode cX7_copyFrom 53 = .ok (.aaload, 1) := by decide +kernel
theorem dX7_copyFrom_54 : decode cX7_copyFrom 54 = .ok (.iconst 0, 1) := by decide +kernel
theorem dX7_copyFrom_55 : decode cX7_copyFrom 55 = .ok (.aload_n 0, 1) := by decide +kernel
theorem dX7_copyFrom_56 : decode cX7_copyFrom 56 = .ok (.getfield 17, 3) := by decide +kernel
theorem dX7_copyFrom_59 : decode cX7_copyFrom 59 = .ok (.iload_n 2, 1) := by decide +kernel
theorem dX7_copyFrom_60 : decode cX7_copyFrom 60 = .ok (.aaload, 1) := by decide +kernel
theorem dX7_copyFrom_61 : decode cX7_copyFrom 61 = .ok (.iconst 0, 1) := by decide +kernel
theorem dX7_copyFrom_62 : decode cX7_copyFrom 62 = .ok (.iconst 3, 1) := by decide +kernel
theorem dX7_copyFrom_63 : decode cX7_copyFrom 63 = .ok (.invokestatic 51, 3) := by decide +kernel
theorem dX7_copyFrom_66 : decode cX7_copyFrom 66 = .ok (.iinc 2 1, 3) := by decide +kernel
theorem dX7_copyFrom_69 : decode cX7_copyFrom 69 = .ok (.goto (-27), 3) := by decide +kernel
theorem dX7_copyFrom_72 : decode cX7_copyFrom 72 = .ok (.iconst 0, 1) := by decide +kernel
theorem dX7_copyFrom_73 : decode cX7_copyFrom 73 = .ok (.istore_n 2, 1) := by decide +kernel
theorem dX7_copyFrom_74 : decode cX7_copyFrom 74 = .ok (.iload_n 2, 1) := by decide +kernel
theorem dX7_copyFrom_75 : decode cX7_copyFrom 75 = .ok (.bipush 28, 2) := by decide +kernel
theorem dX7_copyFrom_77 : decode cX7_copyFrom 77 = .ok (.if_icmp .ge 27, 3) := by decide +kernel
theorem dX7_copyFrom_80 : decode cX7_copyFrom 80 = .ok (.aload_n 1, 1) := by decide +kernel
theorem dX7_copyFrom_81 : decode cX7_copyFrom 81 = .ok (.getfield 30, 3) := by decide +kernel
theorem dX7_copyFrom_84 : decode cX7_copyFrom 84 = .ok (.iload_n 2, 1) := by decide +kernel
theorem dX7_copyFrom_85 : decode cX7_copyFrom 85 = .ok (.aaload, 1) := by decide +kernel
theorem dX7_copyFrom_86 : decode cX7_copyFrom 86 = .ok (.iconst 0, 1) := by decide +kernel
theorem dX7_copyFrom_87 : decode cX7_copyFrom 87 = .ok (.aload_n 0, 1) := by decide +kernel
theorem dX7_copyFrom_88 : decode cX7_copyFrom 88 = .ok (.getfield 30, 3) := by decide +kernel
theorem dX7_copyFrom_91 : decode cX7_copyFrom 91 = .ok (.iload_n 2, 1) := by decide +kernel
theorem dX7_copyFrom_92 : decode cX7_copyFrom 92 = .ok (.aaload, 1) := by decide +kernel
theorem dX7_copyFrom_93 : decode cX7_copyFrom 93 = .ok (.iconst 0, 1) := by decide +kernel
theorem dX7_copyFrom_94 : decode cX7_copyFrom 94 = .ok (.iconst 3, 1) := by decide +kernel
theorem dX7_copyFrom_95 : decode cX7_copyFrom 95 = .ok (.invokestatic 51, 3) := by decide +kernel
theorem dX7_copyFrom_98 : decode cX7_copyFrom 98 = .ok (.iinc 2 1, 3) := by decide +kernel
theorem dX7_copyFrom_101 : decode cX7_copyFrom 101 = .ok (.goto (-27), 3) := by decide +kernel
theorem dX7_copyFrom_104 : decode cX7_copyFrom 104 = .ok (.iconst 0, 1) := by decide +kernel
theorem dX7_copyFrom_105 : decode cX7_copyFrom 105 = .ok (.istore_n 2, 1) := by decide +kernel
theorem dX7_copyFrom_106 : decode cX7_copyFrom 106 = .ok (.iload_n 2, 1) := by decide +kernel
theorem dX7_copyFrom_107 : decode cX7_copyFrom 107 = .ok (.bipush 6, 2) := by decide +kernel
theorem dX7_copyFrom_109 : decode cX7_copyFrom 109 = .ok (.if_icmp .ge 28, 3) := by decide +kernel
theorem dX7_copyFrom_112 : decode cX7_copyFrom 112 = .ok (.aload_n 1, 1) := by decide +kernel
theorem dX7_copyFrom_113 : decode cX7_copyFrom 113 = .ok (.getfield 33, 3) := by decide +kernel
theorem dX7_copyFrom_116 : decode cX7_copyFrom 116 = .ok (.iload_n 2, 1) := by decide +kernel
theorem dX7_copyFrom_117 : decode cX7_copyFrom 117 = .ok (.aaload, 1) := by decide +kernel
theorem dX7_copyFrom_118 : decode cX7_copyFrom 118 = .ok (.iconst 0, 1) := by decide +kernel
theorem dX7_copyFrom_119 : decode cX7_copyFrom 119 = .ok (.aload_n 0, 1) := by decide +kernel
theorem dX7_copyFrom_120 : decode cX7_copyFrom 120 = .ok (.getfield 33, 3) := by decide +kernel
theorem dX7_copyFrom_123 : decode cX7_copyFrom 123 = .ok (.iload_n 2, 1) := by decide +kernel
theorem dX7_copyFrom_124 : decode cX7_copyFrom 124 = .ok (.aaload, 1) := by decide +kernel
theorem dX7_copyFrom_125 : decode cX7_copyFrom 125 = .ok (.iconst 0, 1) := by decide +kernel
theorem dX7_copyFrom_126 : decode cX7_copyFrom 126 = .ok (.bipush 6, 2) := by decide +kernel
theorem dX7_copyFrom_128 : decode cX7_copyFrom 128 = .ok (.invokestatic 51, 3) := by decide +kernel
theorem dX7_copyFrom_131 : decode cX7_copyFrom 131 = .ok (.iinc 2 1, 3) := by decide +kernel
theorem dX7_copyFrom_134 : decode cX7_copyFrom 134 = .ok (.goto (-28), 3) := by decide +kernel
theorem dX7_copyFrom_137 : decode cX7_copyFrom 137 = .ok (.aload_n 1, 1) := by decide +kernel
theorem dX7_copyFrom_138 : decode cX7_copyFrom 138 = .ok (.getfield 20, 3) := by decide +kernel
theorem dX7_copyFrom_141 : decode cX7_copyFrom 141 = .ok (.iconst 0, 1) := by decide +kernel
theorem dX7_copyFrom_142 : decode cX7_copyFrom 142 = .ok (.aload_n 0, 1) := by decide +kernel
theorem dX7_copyFrom_143 : decode cX7_copyFrom 143 = .ok (.getfield 20, 3) := by decide +kernel
theorem dX7_copyFrom_146 : decode cX7_copyFrom 146 = .ok (.iconst 0, 1) := by decide +kernel
theorem dX7_copyFrom_147 : decode cX7_copyFrom 147 = .ok (.bipush 8, 2) := by decide +kernel
theorem dX7_copyFrom_149 : decode cX7_copyFrom 149 = .ok (.invokestatic 51, 3) := by decide +kernel
theorem dX7_copyFrom_152 : decode cX7_copyFrom 152 = .ok (.aload_n 1, 1) := by decide +kernel
theorem dX7_copyFrom_153 : decode cX7_copyFrom 153 = .ok (.getfield 24, 3) := by decide +kernel
theorem dX7_copyFrom_156 : decode cX7_copyFrom 156 = .ok (.iconst 0, 1) := by decide +kernel
theorem dX7_copyFrom_157 : decode cX7_copyFrom 157 = .ok (.aload_n 0, 1) := by decide +kernel
theorem dX7_copyFrom_158 : decode cX7_copyFrom 158 = .ok (.getfield 24, 3) := by decide +kernel
theorem dX7_copyFrom_161 : decode cX7_copyFrom 161 = .ok (.iconst 0, 1) := by decide +kernel
theorem dX7_copyFrom_162 : decode cX7_copyFrom 162 = .ok (.bipush 8, 2) := by decide +kernel
theorem dX7_copyFrom_164 : decode cX7_copyFrom 164 = .ok (.invokestatic 51, 3) := by decide +kernel
theorem dX7_copyFrom_167 : decode cX7_copyFrom 167 = .ok (.aload_n 1, 1) := by decide +kernel
theorem dX7_copyFrom_168 : decode cX7_copyFrom 168 = .ok (.getfield 27, 3) := by decide +kernel
theorem dX7_copyFrom_171 : decode cX7_copyFrom 171 = .ok (.iconst 0, 1) := by decide +kernel
theorem dX7_copyFrom_172 : decode cX7_copyFrom 172 = .ok (.aload_n 0, 1) := by decide +kernel
theorem dX7_copyFrom_173 : decode cX7_copyFrom 173 = .ok (.getfield 27, 3) := by decide +kernel
theorem dX7_copyFrom_176 : decode cX7_copyFrom 176 = .ok (.iconst 0, 1) := by decide +kernel
theorem dX7_copyFrom_177 : decode cX7_copyFrom 177 = .ok (.bipush 28, 2) := by decide +kernel
theorem dX7_copyFrom_179 : decode cX7_copyFrom 179 = .ok (.invokestatic 51, 3) := by decide +kernel
theorem dX7_copyFrom_182 : decode cX7_copyFrom 182 = .ok (.aload_n 1, 1) := by decide +kernel
theorem dX7_copyFrom_183 : decode cX7_copyFrom 183 = .ok (.getfield 36, 3) := by decide +kernel
theorem dX7_copyFrom_186 : decode cX7_copyFrom 186 = .ok (.iconst 0, 1) := by decide +kernel
theorem dX7_copyFrom_187 : decode cX7_copyFrom 187 = .ok (.aload_n 0, 1) := by decide +kernel
theorem dX7_copyFrom_188 : decode cX7_copyFrom 188 = .ok (.getfield 36, 3) := by decide +kernel
theorem dX7_copyFrom_191 : decode cX7_copyFrom 191 = .ok (.iconst 0, 1) := by decide +kernel
theorem dX7_copyFrom_192 : decode cX7_copyFrom 192 = .ok (.iconst 4, 1) := by decide +kernel
theorem dX7_copyFrom_193 : decode cX7_copyFrom 193 = .ok (.invokestatic 51, 3) := by decide +kernel
theorem dX7_copyFrom_196 : decode cX7_copyFrom 196 = .ok (.return_, 1) := by decide +kernel
theorem dX7_hasHolder_0 : decode cX7_hasHolder 0 = .ok (.iload_n 1, 1) := by decide +kernel
theorem dX7_hasHolder_1 : decode cX7_hasHolder 1 = .ok (.ifCond .lt 15, 3) := by decide +kernel
theorem dX7_hasHolder_4 : decode cX7_hasHolder 4 = .ok (.iload_n 1, 1) := by decide +kernel
theorem dX7_hasHolder_5 : decode cX7_hasHolder 5 = .ok (.aload_n 0, 1) := by decide +kernel
theorem dX7_hasHolder_6 : decode cX7_hasHolder 6 = .ok (.getfield 39, 3) := by decide +kernel
theorem dX7_hasHolder_9 : decode cX7_hasHolder 9 = .ok (.if_icmp .ge 7, 3) := by decide +kernel
theorem dX7_hasHolder_12 : decode cX7_hasHolder 12 = .ok (.iconst 1, 1) := by decide +kernel
theorem dX7_hasHolder_13 : decode cX7_hasHolder 13 = .ok (.goto 4, 3) := by decide +kernel
theorem dX7_hasHolder_16 : decode cX7_hasHolder 16 = .ok (.iconst 0, 1) := by decide +kernel
theorem dX7_hasHolder_17 : decode cX7_hasHolder 17 = .ok (.ireturn, 1) := by decide +kernel
theorem dX7_hasWork_0 : decode cX7_hasWork 0 = .ok (.iload_n 1, 1) := by decide +kernel
theorem dX7_hasWork_1 : decode cX7_hasWork 1 = .ok (.ifCond .lt 15, 3) := by decide +kernel
theorem dX7_hasWork_4 : decode cX7_hasWork 4 = .ok (.iload_n 1, 1) := by decide +kernel
theorem dX7_hasWork_5 : decode cX7_hasWork 5 = .ok (.aload_n 0, 1) := by decide +kernel
theorem dX7_hasWork_6 : decode cX7_hasWork 6 = .ok (.getfield 42, 3) := by decide +kernel
theorem dX7_hasWork_9 : decode cX7_hasWork 9 = .ok (.if_icmp .ge 7, 3) := by decide +kernel
theorem dX7_hasWork_12 : decode cX7_hasWork 12 = .ok (.iconst 1, 1) := by decide +kernel
theorem dX7_hasWork_13 : decode cX7_hasWork 13 = .ok (.goto 4, 3) := by decide +kernel
theorem dX7_hasWork_16 : decode cX7_hasWork 16 = .ok (.iconst 0, 1) := by decide +kernel
theorem dX7_hasWork_17 : decode cX7_hasWork 17 = .ok (.ireturn, 1) := by decide +kernel
theorem dX7_everyone_0 : decode cX7_everyone 0 = .ok (.iconst 1, 1) := by decide +kernel
theorem dX7_everyone_1 : decode cX7_everyone 1 = .ok (.aload_n 0, 1) := by decide +kernel
theorem dX7_everyone_2 : decode cX7_everyone 2 = .ok (.getfield 39, 3) := by decide +kernel
theorem dX7_everyone_5 : decode cX7_everyone 5 = .ok (.ishl, 1) := by decide +kernel
theorem dX7_everyone_6 : decode cX7_everyone 6 = .ok (.iconst 1, 1) := by decide +kernel
theorem dX7_everyone_7 : decode cX7_everyone 7 = .ok (.isub, 1) := by decide +kernel
theorem dX7_everyone_8 : decode cX7_everyone 8 = .ok (.ireturn, 1) := by decide +kernel
theorem dX7_holds_0 : decode cX7_holds 0 = .ok (.aload_n 0, 1) := by decide +kernel
theorem dX7_holds_1 : decode cX7_holds 1 = .ok (.getfield 20, 3) := by decide +kernel
theorem dX7_holds_4 : decode cX7_holds 4 = .ok (.iload_n 1, 1) := by decide +kernel
theorem dX7_holds_5 : decode cX7_holds 5 = .ok (.iaload, 1) := by decide +kernel
theorem dX7_holds_6 : decode cX7_holds 6 = .ok (.iload_n 2, 1) := by decide +kernel
theorem dX7_holds_7 : decode cX7_holds 7 = .ok (.invokestatic 57, 3) := by decide +kernel
theorem dX7_holds_10 : decode cX7_holds 10 = .ok (.ireturn, 1) := by decide +kernel
theorem dX7_rowWorks_0 : decode cX7_rowWorks 0 = .ok (.iconst 0, 1) := by decide +kernel
theorem dX7_rowWorks_1 : decode cX7_rowWorks 1 = .ok (.istore_n 1, 1) := by decide +kernel
theorem dX7_rowWorks_2 : decode cX7_rowWorks 2 = .ok (.iconst 0, 1) := by decide +kernel
theorem dX7_rowWorks_3 : decode cX7_rowWorks 3 = .ok (.istore_n 2, 1) := by decide +kernel
theorem dX7_rowWorks_4 : decode cX7_rowWorks 4 = .ok (.iload_n 2, 1) := by decide +kernel
theorem dX7_rowWorks_5 : decode cX7_rowWorks 5 = .ok (.aload_n 0, 1) := by decide +kernel
theorem dX7_rowWorks_6 : decode cX7_rowWorks 6 = .ok (.getfield 42, 3) := by decide +kernel
theorem dX7_rowWorks_9 : decode cX7_rowWorks 9 = .ok (.if_icmp .ge 22, 3) := by decide +kernel
theorem dX7_rowWorks_12 : decode cX7_rowWorks 12 = .ok (.iload_n 1, 1) := by decide +kernel
theorem dX7_rowWorks_13 : decode cX7_rowWorks 13 = .ok (.iconst 1, 1) := by decide +kernel
theorem dX7_rowWorks_14 : decode cX7_rowWorks 14 = .ok (.aload_n 0, 1) := by decide +kernel
theorem dX7_rowWorks_15 : decode cX7_rowWorks 15 = .ok (.getfield 33, 3) := by decide +kernel
theorem dX7_rowWorks_18 : decode cX7_rowWorks 18 = .ok (.iload_n 2, 1) := by decide +kernel
theorem dX7_rowWorks_19 : decode cX7_rowWorks 19 = .ok (.aaload, 1) := by decide +kernel
theorem dX7_rowWorks_20 : decode cX7_rowWorks 20 = .ok (.iconst 1, 1) := by decide +kernel
theorem dX7_rowWorks_21 : decode cX7_rowWorks 21 = .ok (.iaload, 1) := by decide +kernel
theorem dX7_rowWorks_22 : decode cX7_rowWorks 22 = .ok (.isub, 1) := by decide +kernel
theorem dX7_rowWorks_23 : decode cX7_rowWorks 23 = .ok (.iadd, 1) := by decide +kernel
theorem dX7_rowWorks_24 : decode cX7_rowWorks 24 = .ok (.istore_n 1, 1) := by decide +kernel
theorem dX7_rowWorks_25 : decode cX7_rowWorks 25 = .ok (.iinc 2 1, 3) := by decide +kernel
theorem dX7_rowWorks_28 : decode cX7_rowWorks 28 = .ok (.goto (-24), 3) := by decide +kernel
theorem dX7_rowWorks_31 : decode cX7_rowWorks 31 = .ok (.iload_n 1, 1) := by decide +kernel
theorem dX7_rowWorks_32 : decode cX7_rowWorks 32 = .ok (.ireturn, 1) := by decide +kernel
theorem dX7_hoursOfNobody_0 : decode cX7_hoursOfNobody 0 = .ok (.iconst 0, 1) := by decide +kernel
theorem dX7_hoursOfNobody_1 : decode cX7_hoursOfNobody 1 = .ok (.istore_n 1, 1) := by decide +kernel
theorem dX7_hoursOfNobody_2 : decode cX7_hoursOfNobody 2 = .ok (.iconst 0, 1) := by decide +kernel
theorem dX7_hoursOfNobody_3 : decode cX7_hoursOfNobody 3 = .ok (.istore_n 2, 1) := by decide +kernel
theorem dX7_hoursOfNobody_4 : decode cX7_hoursOfNobody 4 = .ok (.iload_n 2, 1) := by decide +kernel
theorem dX7_hoursOfNobody_5 : decode cX7_hoursOfNobody 5 = .ok (.bipush 28, 2) := by decide +kernel
theorem dX7_hoursOfNobody_7 : decode cX7_hoursOfNobody 7 = .ok (.if_icmp .ge 21, 3) := by decide +kernel
theorem dX7_hoursOfNobody_10 : decode cX7_hoursOfNobody 10 = .ok (.aload_n 0, 1) := by decide +kernel
theorem dX7_hoursOfNobody_11 : decode cX7_hoursOfNobody 11 = .ok (.getfield 27, 3) := by decide +kernel
theorem dX7_hoursOfNobody_14 : decode cX7_hoursOfNobody 14 = .ok (.iload_n 2, 1) := by decide +kernel
theorem dX7_hoursOfNobody_15 : decode cX7_hoursOfNobody 15 = .ok (.iaload, 1) := by decide +kernel
theorem dX7_hoursOfNobody_16 : decode cX7_hoursOfNobody 16 = .ok (.ifCond .ne 6, 3) := by decide +kernel
theorem dX7_hoursOfNobody_19 : decode cX7_hoursOfNobody 19 = .ok (.iinc 1 1, 3) := by decide +kernel
theorem dX7_hoursOfNobody_22 : decode cX7_hoursOfNobody 22 = .ok (.iinc 2 1, 3) := by decide +kernel
theorem dX7_hoursOfNobody_25 : decode cX7_hoursOfNobody 25 = .ok (.goto (-21), 3) := by decide +kernel
theorem dX7_hoursOfNobody_28 : decode cX7_hoursOfNobody 28 = .ok (.iload_n 1, 1) := by decide +kernel
theorem dX7_hoursOfNobody_29 : decode cX7_hoursOfNobody 29 = .ok (.ireturn, 1) := by decide +kernel
theorem dX7_allParts_0 : decode cX7_allParts 0 = .ok (.iconst 0, 1) := by decide +kernel
theorem dX7_allParts_1 : decode cX7_allParts 1 = .ok (.istore_n 1, 1) := by decide +kernel
theorem dX7_allParts_2 : decode cX7_allParts 2 = .ok (.iconst 0, 1) := by decide +kernel
theorem dX7_allParts_3 : decode cX7_allParts 3 = .ok (.istore_n 2, 1) := by decide +kernel
theorem dX7_allParts_4 : decode cX7_allParts 4 = .ok (.iload_n 2, 1) := by decide +kernel
theorem dX7_allParts_5 : decode cX7_allParts 5 = .ok (.bipush 28, 2) := by decide +kernel
theorem dX7_allParts_7 : decode cX7_allParts 7 = .ok (.if_icmp .ge 18, 3) := by decide +kernel
theorem dX7_allParts_10 : decode cX7_allParts 10 = .ok (.iload_n 1, 1) := by decide +kernel
theorem dX7_allParts_11 : decode cX7_allParts 11 = .ok (.aload_n 0, 1) := by decide +kernel
theorem dX7_allParts_12 : decode cX7_allParts 12 = .ok (.getfield 27, 3) := by decide +kernel
theorem dX7_allParts_15 : decode cX7_allParts 15 = .ok (.iload_n 2, 1) := by decide +kernel
theorem dX7_allParts_16 : decode cX7_allParts 16 = .ok (.iaload, 1) := by decide +kernel
theorem dX7_allParts_17 : decode cX7_allParts 17 = .ok (.iadd, 1) := by decide +kernel
theorem dX7_allParts_18 : decode cX7_allParts 18 = .ok (.istore_n 1, 1) := by decide +kernel
theorem dX7_allParts_19 : decode cX7_allParts 19 = .ok (.iinc 2 1, 3) := by decide +kernel
theorem dX7_allParts_22 : decode cX7_allParts 22 = .ok (.goto (-18), 3) := by decide +kernel
theorem dX7_allParts_25 : decode cX7_allParts 25 = .ok (.iload_n 1, 1) := by decide +kernel
theorem dX7_allParts_26 : decode cX7_allParts 26 = .ok (.ireturn, 1) := by decide +kernel
theorem dX7_addHolder_0 : decode cX7_addHolder 0 = .ok (.aload_n 0, 1) := by decide +kernel
theorem dX7_addHolder_1 : decode cX7_addHolder 1 = .ok (.getfield 39, 3) := by decide +kernel
theorem dX7_addHolder_4 : decode cX7_addHolder 4 = .ok (.bipush 8, 2) := by decide +kernel
theorem dX7_addHolder_6 : decode cX7_addHolder 6 = .ok (.if_icmp .lt 5, 3) := by decide +kernel
theorem dX7_addHolder_9 : decode cX7_addHolder 9 = .ok (.iconst 0, 1) := by decide +kernel
theorem dX7_addHolder_10 : decode cX7_addHolder 10 = .ok (.ireturn, 1) := by decide +kernel
theorem dX7_addHolder_11 : decode cX7_addHolder 11 = .ok (.aload_n 1, 1) := by decide +kernel
theorem dX7_addHolder_12 : decode cX7_addHolder 12 = .ok (.iconst 0, 1) := by decide +kernel
theorem dX7_addHolder_13 : decode cX7_addHolder 13 = .ok (.aload_n 0, 1) := by decide +kernel
theorem dX7_addHolder_14 : decode cX7_addHolder 14 = .ok (.getfield 17, 3) := by decide +kernel
theorem dX7_addHolder_17 : decode cX7_addHolder 17 = .ok (.aload_n 0, 1) := by decide +kernel
theorem dX7_addHolder_18 : decode cX7_addHolder 18 = .ok (.getfield 39, 3) := by decide +kernel
theorem dX7_addHolder_21 : decode cX7_addHolder 21 = .ok (.aaload, 1) := by decide +kernel
theorem dX7_addHolder_22 : decode cX7_addHolder 22 = .ok (.iconst 0, 1) := by decide +kernel
theorem dX7_addHolder_23 : decode cX7_addHolder 23 = .ok (.iconst 3, 1) := by decide +kernel
theorem dX7_addHolder_24 : decode cX7_addHolder 24 = .ok (.invokestatic 51, 3) := by decide +kernel
theorem dX7_addHolder_27 : decode cX7_addHolder 27 = .ok (.aload_n 0, 1) := by decide +kernel
theorem dX7_addHolder_28 : decode cX7_addHolder 28 = .ok (.dup, 1) := by decide +kernel
theorem dX7_addHolder_29 : decode cX7_addHolder 29 = .ok (.getfield 39, 3) := by decide +kernel
theorem dX7_addHolder_32 : decode cX7_addHolder 32 = .ok (.iconst 1, 1) := by decide +kernel
theorem dX7_addHolder_33 : decode cX7_addHolder 33 = .ok (.iadd, 1) := by decide +kernel
theorem dX7_addHolder_34 : decode cX7_addHolder 34 = .ok (.putfield 39, 3) := by decide +kernel
theorem dX7_addHolder_37 : decode cX7_addHolder 37 = .ok (.iconst 1, 1) := by decide +kernel
theorem dX7_addHolder_38 : decode cX7_addHolder 38 = .ok (.ireturn, 1) := by decide +kernel
theorem dX7_addWork_0 : decode cX7_addWork 0 = .ok (.aload_n 0, 1) := by decide +kernel
theorem dX7_addWork_1 : decode cX7_addWork 1 = .ok (.getfield 42, 3) := by decide +kernel
theorem dX7_addWork_4 : decode cX7_addWork 4 = .ok (.bipush 6, 2) := by decide +kernel
theorem dX7_addWork_6 : decode cX7_addWork 6 = .ok (.if_icmp .ge 22, 3) := by decide +kernel
theorem dX7_addWork_9 : decode cX7_addWork 9 = .ok (.aload_n 0, 1) := by decide +kernel
theorem dX7_addWork_10 : decode cX7_addWork 10 = .ok (.aload_n 1, 1) := by decide +kernel
theorem dX7_addWork_11 : decode cX7_addWork 11 = .ok (.iconst 0, 1) := by decide +kernel
theorem dX7_addWork_12 : decode cX7_addWork 12 = .ok (.iaload, 1) := by decide +kernel
theorem dX7_addWork_13 : decode cX7_addWork 13 = .ok (.invokevirtual 61, 3) := by decide +kernel
theorem dX7_addWork_16 : decode cX7_addWork 16 = .ok (.ifCond .eq 12, 3) := by decide +kernel
theorem dX7_addWork_19 : decode cX7_addWork 19 = .ok (.aload_n 1, 1) := by decide +kernel
theorem dX7_addWork_20 : decode cX7_addWork 20 = .ok (.iconst 3, 1) := by decide +kernel
theorem dX7_addWork_21 : decode cX7_addWork 21 = .ok (.iaload, 1) := by decide +kernel
theorem dX7_addWork_22 : decode cX7_addWork 22 = .ok (.invokestatic 65, 3) := by decide +kernel
theorem dX7_addWork_25 : decode cX7_addWork 25 = .ok (.ifCond .ne 5, 3) := by decide +kernel
theorem dX7_addWork_28 : decode cX7_addWork 28 = .ok (.iconst 0, 1) := by decide +kernel
theorem dX7_addWork_29 : decode cX7_addWork 29 = .ok (.ireturn, 1) := by decide +kernel
theorem dX7_addWork_30 : decode cX7_addWork 30 = .ok (.aload_n 1, 1) := by decide +kernel
theorem dX7_addWork_31 : decode cX7_addWork 31 = .ok (.iconst 2, 1) := by decide +kernel
theorem dX7_addWork_32 : decode cX7_addWork 32 = .ok (.iaload, 1) := by decide +kernel
theorem dX7_addWork_33 : decode cX7_addWork 33 = .ok (.iconst 1, 1) := by decide +kernel
theorem dX7_addWork_34 : decode cX7_addWork 34 = .ok (.if_icmp .lt 11, 3) := by decide +kernel
theorem dX7_addWork_37 : decode cX7_addWork 37 = .ok (.aload_n 1, 1) := by decide +kernel
theorem dX7_addWork_38 : decode cX7_addWork 38 = .ok (.iconst 2, 1) := by decide +kernel
theorem dX7_addWork_39 : decode cX7_addWork 39 = .ok (.iaload, 1) := by decide +kernel
theorem dX7_addWork_40 : decode cX7_addWork 40 = .ok (.bipush 6, 2) := by decide +kernel
theorem dX7_addWork_42 : decode cX7_addWork 42 = .ok (.if_icmp .le 5, 3) := by decide +kernel
theorem dX7_addWork_45 : decode cX7_addWork 45 = .ok (.iconst 0, 1) := by decide +kernel
theorem dX7_addWork_46 : decode cX7_addWork 46 = .ok (.ireturn, 1) := by decide +kernel
theorem dX7_addWork_47 : decode cX7_addWork 47 = .ok (.aload_n 1, 1) := by decide +kernel
theorem dX7_addWork_48 : decode cX7_addWork 48 = .ok (.iconst 0, 1) := by decide +kernel
theorem dX7_addWork_49 : decode cX7_addWork 49 = .ok (.aload_n 0, 1) := by decide +kernel
theorem dX7_addWork_50 : decode cX7_addWork 50 = .ok (.getfield 33, 3) := by decide +kernel
theorem dX7_addWork_53 : decode cX7_addWork 53 = .ok (.aload_n 0, 1) := by decide +kernel
theorem dX7_addWork_54 : decode cX7_addWork 54 = .ok (.getfield 42, 3) := by decide +kernel
theorem dX7_addWork_57 : decode cX7_addWork 57 = .ok (.aaload, 1) := by decide +kernel
theorem dX7_addWork_58 : decode cX7_addWork 58 = .ok (.iconst 0, 1) := by decide +kernel
theorem dX7_addWork_59 : decode cX7_addWork 59 = .ok (.bipush 6, 2) := by decide +kernel
theorem dX7_addWork_61 : decode cX7_addWork 61 = .ok (.invokestatic 51, 3) := by decide +kernel
theorem dX7_addWork_64 : decode cX7_addWork 64 = .ok (.aload_n 0, 1) := by decide +kernel
theorem dX7_addWork_65 : decode cX7_addWork 65 = .ok (.dup, 1) := by decide +kernel
theorem dX7_addWork_66 : decode cX7_addWork 66 = .ok (.getfield 42, 3) := by decide +kernel
theorem dX7_addWork_69 : decode cX7_addWork 69 = .ok (.iconst 1, 1) := by decide +kernel
theorem dX7_addWork_70 : decode cX7_addWork 70 = .ok (.iadd, 1) := by decide +kernel
theorem dX7_addWork_71 : decode cX7_addWork 71 = .ok (.putfield 42, 3) := by decide +kernel
theorem dX7_addWork_74 : decode cX7_addWork 74 = .ok (.iconst 1, 1) := by decide +kernel
theorem dX7_addWork_75 : decode cX7_addWork 75 = .ok (.ireturn, 1) := by decide +kernel
theorem dX7_addParts_0 : decode cX7_addParts 0 = .ok (.aload_n 0, 1) := by decide +kernel
theorem dX7_addParts_1 : decode cX7_addParts 1 = .ok (.iload_n 1, 1) := by decide +kernel
theorem dX7_addParts_2 : decode cX7_addParts 2 = .ok (.invokevirtual 61, 3) := by decide +kernel
theorem dX7_addParts_5 : decode cX7_addParts 5 = .ok (.ifCond .eq 22, 3) := by decide +kernel
theorem dX7_addParts_8 : decode cX7_addParts 8 = .ok (.iload_n 2, 1) := by decide +kernel
theorem dX7_addParts_9 : decode cX7_addParts 9 = .ok (.invokestatic 65, 3) := by decide +kernel
theorem dX7_addParts_12 : decode cX7_addParts 12 = .ok (.ifCond .eq 15, 3) := by decide +kernel
theorem dX7_addParts_15 : decode cX7_addParts 15 = .ok (.iload_n 3, 1) := by decide +kernel
theorem dX7_addParts_16 : decode cX7_addParts 16 = .ok (.invokestatic 65, 3) := by decide +kernel
theorem dX7_addParts_19 : decode cX7_addParts 19 = .ok (.ifCond .eq 8, 3) := by decide +kernel
theorem dX7_addParts_22 : decode cX7_addParts 22 = .ok (.iload_n 2, 1) := by decide +kernel
theorem dX7_addParts_23 : decode cX7_addParts 23 = .ok (.iload_n 3, 1) := by decide +kernel
theorem dX7_addParts_24 : decode cX7_addParts 24 = .ok (.if_icmp .le 5, 3) := by decide +kernel
theorem dX7_addParts_27 : decode cX7_addParts 27 = .ok (.iconst 0, 1) := by decide +kernel
theorem dX7_addParts_28 : decode cX7_addParts 28 = .ok (.ireturn, 1) := by decide +kernel
theorem dX7_addParts_29 : decode cX7_addParts 29 = .ok (.iload_n 2, 1) := by decide +kernel
theorem dX7_addParts_30 : decode cX7_addParts 30 = .ok (.istore 4, 2) := by decide +kernel
theorem dX7_addParts_32 : decode cX7_addParts 32 = .ok (.iload 4, 2) := by decide +kernel
theorem dX7_addParts_34 : decode cX7_addParts 34 = .ok (.iload_n 3, 1) := by decide +kernel
theorem dX7_addParts_35 : decode cX7_addParts 35 = .ok (.if_icmp .gt 39, 3) := by decide +kernel
theorem dX7_addParts_38 : decode cX7_addParts 38 = .ok (.aload_n 0, 1) := by decide +kernel
theorem dX7_addParts_39 : decode cX7_addParts 39 = .ok (.getfield 27, 3) := by decide +kernel
theorem dX7_addParts_42 : decode cX7_addParts 42 = .ok (.iload 4, 2) := by decide +kernel
theorem dX7_addParts_44 : decode cX7_addParts 44 = .ok (.iaload, 1) := by decide +kernel
theorem dX7_addParts_45 : decode cX7_addParts 45 = .ok (.iconst 3, 1) := by decide +kernel
theorem dX7_addParts_46 : decode cX7_addParts 46 = .ok (.if_icmp .ge 13, 3) := by decide +kernel
theorem dX7_addParts_49 : decode cX7_addParts 49 = .ok (.aload_n 0, 1) := by decide +kernel
theorem dX7_addParts_50 : decode cX7_addParts 50 = .ok (.iload_n 1, 1) := by decide +kernel
theorem dX7_addParts_51 : decode cX7_addParts 51 = .ok (.iload 4, 2) := by decide +kernel
theorem dX7_addParts_53 : decode cX7_addParts 53 = .ok (.invokevirtual 68, 3) := by decide +kernel
theorem dX7_addParts_56 : decode cX7_addParts 56 = .ok (.ifCond .eq 5, 3) := by decide +kernel
theorem dX7_addParts_59 : decode cX7_addParts 59 = .ok (.iconst 0, 1) := by decide +kernel
theorem dX7_addParts_60 : decode cX7_addParts 60 = .ok (.ireturn, 1) := by decide +kernel
theorem dX7_addParts_61 : decode cX7_addParts 61 = .ok (.aload_n 0, 1) := by decide +kernel
theorem dX7_addParts_62 : decode cX7_addParts 62 = .ok (.iload_n 1, 1) := by decide +kernel
theorem dX7_addParts_63 : decode cX7_addParts 63 = .ok (.iload 4, 2) := by decide +kernel
theorem dX7_addParts_65 : decode cX7_addParts 65 = .ok (.invokevirtual 71, 3) := by decide +kernel
theorem dX7_addParts_68 : decode cX7_addParts 68 = .ok (.iinc 4 1, 3) := by decide +kernel
theorem dX7_addParts_71 : decode cX7_addParts 71 = .ok (.goto (-39), 3) := by decide +kernel
theorem dX7_addParts_74 : decode cX7_addParts 74 = .ok (.iconst 1, 1) := by decide +kernel
theorem dX7_addParts_75 : decode cX7_addParts 75 = .ok (.ireturn, 1) := by decide +kernel
theorem dX7_addPart_0 : decode cX7_addPart 0 = .ok (.aload_n 0, 1) := by decide +kernel
theorem dX7_addPart_1 : decode cX7_addPart 1 = .ok (.getfield 30, 3) := by decide +kernel
theorem dX7_addPart_4 : decode cX7_addPart 4 = .ok (.iload_n 2, 1) := by decide +kernel
theorem dX7_addPart_5 : decode cX7_addPart 5 = .ok (.aaload, 1) := by decide +kernel
theorem dX7_addPart_6 : decode cX7_addPart 6 = .ok (.aload_n 0, 1) := by decide +kernel
theorem dX7_addPart_7 : decode cX7_addPart 7 = .ok (.getfield 27, 3) := by decide +kernel
theorem dX7_addPart_10 : decode cX7_addPart 10 = .ok (.iload_n 2, 1) := by decide +kernel
theorem dX7_addPart_11 : decode cX7_addPart 11 = .ok (.iaload, 1) := by decide +kernel
theorem dX7_addPart_12 : decode cX7_addPart 12 = .ok (.iload_n 1, 1) := by decide +kernel
theorem dX7_addPart_13 : decode cX7_addPart 13 = .ok (.iastore, 1) := by decide +kernel
theorem dX7_addPart_14 : decode cX7_addPart 14 = .ok (.aload_n 0, 1) := by decide +kernel
theorem dX7_addPart_15 : decode cX7_addPart 15 = .ok (.getfield 27, 3) := by decide +kernel
theorem dX7_addPart_18 : decode cX7_addPart 18 = .ok (.iload_n 2, 1) := by decide +kernel
theorem dX7_addPart_19 : decode cX7_addPart 19 = .ok (.dup2, 1) := by decide +kernel
theorem dX7_addPart_20 : decode cX7_addPart 20 = .ok (.iaload, 1) := by decide +kernel
theorem dX7_addPart_21 : decode cX7_addPart 21 = .ok (.iconst 1, 1) := by decide +kernel
theorem dX7_addPart_22 : decode cX7_addPart 22 = .ok (.iadd, 1) := by decide +kernel
theorem dX7_addPart_23 : decode cX7_addPart 23 = .ok (.iastore, 1) := by decide +kernel
theorem dX7_addPart_24 : decode cX7_addPart 24 = .ok (.aload_n 0, 1) := by decide +kernel
theorem dX7_addPart_25 : decode cX7_addPart 25 = .ok (.getfield 20, 3) := by decide +kernel
theorem dX7_addPart_28 : decode cX7_addPart 28 = .ok (.iload_n 1, 1) := by decide +kernel
theorem dX7_addPart_29 : decode cX7_addPart 29 = .ok (.dup2, 1) := by decide +kernel
theorem dX7_addPart_30 : decode cX7_addPart 30 = .ok (.iaload, 1) := by decide +kernel
theorem dX7_addPart_31 : decode cX7_addPart 31 = .ok (.iconst 1, 1) := by decide +kernel
theorem dX7_addPart_32 : decode cX7_addPart 32 = .ok (.iload_n 2, 1) := by decide +kernel
theorem dX7_addPart_33 : decode cX7_addPart 33 = .ok (.ishl, 1) := by decide +kernel
theorem dX7_addPart_34 : decode cX7_addPart 34 = .ok (.ior, 1) := by decide +kernel
theorem dX7_addPart_35 : decode cX7_addPart 35 = .ok (.iastore, 1) := by decide +kernel
theorem dX7_addPart_36 : decode cX7_addPart 36 = .ok (.return_, 1) := by decide +kernel
theorem dX7_takeOnlyPart_0 : decode cX7_takeOnlyPart 0 = .ok (.aload_n 0, 1) := by decide +kernel
theorem dX7_takeOnlyPart_1 : decode cX7_takeOnlyPart 1 = .ok (.getfield 27, 3) := by decide +kernel
theorem dX7_takeOnlyPart_4 : decode cX7_takeOnlyPart 4 = .ok (.iload_n 2, 1) := by decide +kernel
theorem dX7_takeOnlyPart_5 : decode cX7_takeOnlyPart 5 = .ok (.iconst 0, 1) := by decide +kernel
theorem dX7_takeOnlyPart_6 : decode cX7_takeOnlyPart 6 = .ok (.iastore, 1) := by decide +kernel
theorem dX7_takeOnlyPart_7 : decode cX7_takeOnlyPart 7 = .ok (.aload_n 0, 1) := by decide +kernel
theorem dX7_takeOnlyPart_8 : decode cX7_takeOnlyPart 8 = .ok (.getfield 20, 3) := by decide +kernel
theorem dX7_takeOnlyPart_11 : decode cX7_takeOnlyPart 11 = .ok (.iload_n 1, 1) := by decide +kernel
theorem dX7_takeOnlyPart_12 : decode cX7_takeOnlyPart 12 = .ok (.dup2, 1) := by decide +kernel
theorem dX7_takeOnlyPart_13 : decode cX7_takeOnlyPart 13 = .ok (.iaload, 1) := by decide +kernel
theorem dX7_takeOnlyPart_14 : decode cX7_takeOnlyPart 14 = .ok (.iconst 1, 1) := by decide +kernel
theorem dX7_takeOnlyPart_15 : decode cX7_takeOnlyPart 15 = .ok (.iload_n 2, 1) := by decide +kernel
theorem dX7_takeOnlyPart_16 : decode cX7_takeOnlyPart 16 = .ok (.ishl, 1) := by decide +kernel
theorem dX7_takeOnlyPart_17 : decode cX7_takeOnlyPart 17 = .ok (.iconst (-1), 1) := by decide +kernel
theorem dX7_takeOnlyPart_18 : decode cX7_takeOnlyPart 18 = .ok (.ixor, 1) := by decide +kernel
theorem dX7_takeOnlyPart_19 : decode cX7_takeOnlyPart 19 = .ok (.iand, 1) := by decide +kernel
theorem dX7_takeOnlyPart_20 : decode cX7_takeOnlyPart 20 = .ok (.iastore, 1) := by decide +kernel
theorem dX7_takeOnlyPart_21 : decode cX7_takeOnlyPart 21 = .ok (.return_, 1) := by decide +kernel
theorem dX7_unwed_0 : decode cX7_unwed 0 = .ok (.aload_n 0, 1) := by decide +kernel
theorem dX7_unwed_1 : decode cX7_unwed 1 = .ok (.getfield 24, 3) := by decide +kernel
theorem dX7_unwed_4 : decode cX7_unwed 4 = .ok (.iload_n 1, 1) := by decide +kernel
theorem dX7_unwed_5 : decode cX7_unwed 5 = .ok (.iaload, 1) := by decide +kernel
theorem dX7_unwed_6 : decode cX7_unwed 6 = .ok (.istore_n 2, 1) := by decide +kernel
theorem dX7_unwed_7 : decode cX7_unwed 7 = .ok (.iload_n 2, 1) := by decide +kernel
theorem dX7_unwed_8 : decode cX7_unwed 8 = .ok (.ifCond .lt 11, 3) := by decide +kernel
theorem dX7_unwed_11 : decode cX7_unwed 11 = .ok (.aload_n 0, 1) := by decide +kernel
theorem dX7_unwed_12 : decode cX7_unwed 12 = .ok (.getfield 24, 3) := by decide +kernel
theorem dX7_unwed_15 : decode cX7_unwed 15 = .ok (.iload_n 2, 1) := by decide +kernel
theorem dX7_unwed_16 : decode cX7_unwed 16 = .ok (.bipush (-9), 2) := by decide +kernel
theorem dX7_unwed_18 : decode cX7_unwed 18 = .ok (.iastore, 1) := by decide +kernel
theorem dX7_unwed_19 : decode cX7_unwed 19 = .ok (.aload_n 0, 1) := by decide +kernel
theorem dX7_unwed_20 : decode cX7_unwed 20 = .ok (.getfield 24, 3) := by decide +kernel
theorem dX7_unwed_23 : decode cX7_unwed 23 = .ok (.iload_n 1, 1) := by decide +kernel
theorem dX7_unwed_24 : decode cX7_unwed 24 = .ok (.bipush (-9), 2) := by decide +kernel
theorem dX7_unwed_26 : decode cX7_unwed 26 = .ok (.iastore, 1) := by decide +kernel
theorem dX7_unwed_27 : decode cX7_unwed 27 = .ok (.return_, 1) := by decide +kernel
theorem dX7_isFree_0 : decode cX7_isFree 0 = .ok (.aload_n 0, 1) := by decide +kernel
theorem dX7_isFree_1 : decode cX7_isFree 1 = .ok (.getfield 33, 3) := by decide +kernel
theorem dX7_isFree_4 : decode cX7_isFree 4 = .ok (.iload_n 1, 1) := by decide +kernel
theorem dX7_isFree_5 : decode cX7_isFree 5 = .ok (.aaload, 1) := by decide +kernel
theorem dX7_isFree_6 : decode cX7_isFree 6 = .ok (.iconst 0, 1) := by decide +kernel
theorem dX7_isFree_7 : decode cX7_isFree 7 = .ok (.iaload, 1) := by decide +kernel
theorem dX7_isFree_8 : decode cX7_isFree 8 = .ok (.istore 4, 2) := by decide +kernel
theorem dX7_isFree_10 : decode cX7_isFree 10 = .ok (.iload_n 2, 1) := by decide +kernel
theorem dX7_isFree_11 : decode cX7_isFree 11 = .ok (.iload 4, 2) := by decide +kernel
theorem dX7_isFree_13 : decode cX7_isFree 13 = .ok (.if_icmp .eq 37, 3) := by decide +kernel
theorem dX7_isFree_16 : decode cX7_isFree 16 = .ok (.aload_n 0, 1) := by decide +kernel
theorem dX7_isFree_17 : decode cX7_isFree 17 = .ok (.getfield 24, 3) := by decide +kernel
theorem dX7_isFree_20 : decode cX7_isFree 20 = .ok (.iload 4, 2) := by decide +kernel
theorem dX7_isFree_22 : decode cX7_isFree 22 = .ok (.iaload, 1) := by decide +kernel
theorem dX7_isFree_23 : decode cX7_isFree 23 = .ok (.iload_n 2, 1) := by decide +kernel
theorem dX7_isFree_24 : decode cX7_isFree 24 = .ok (.if_icmp .eq 26, 3) := by decide +kernel
theorem dX7_isFree_27 : decode cX7_isFree 27 = .ok (.iload_n 3, 1) := by decide +kernel
theorem dX7_isFree_28 : decode cX7_isFree 28 = .ok (.aload_n 0, 1) := by decide +kernel
theorem dX7_isFree_29 : decode cX7_isFree 29 = .ok (.getfield 9, 3) := by decide +kernel
theorem dX7_isFree_32 : decode cX7_isFree 32 = .ok (.if_icmp .ne 22, 3) := by decide +kernel
theorem dX7_isFree_35 : decode cX7_isFree 35 = .ok (.aload_n 0, 1) := by decide +kernel
theorem dX7_isFree_36 : decode cX7_isFree 36 = .ok (.getfield 33, 3) := by decide +kernel
theorem dX7_isFree_39 : decode cX7_isFree 39 = .ok (.iload_n 1, 1) := by decide +kernel
theorem dX7_isFree_40 : decode cX7_isFree 40 = .ok (.aaload, 1) := by decide +kernel
theorem dX7_isFree_41 : decode cX7_isFree 41 = .ok (.iconst 5, 1) := by decide +kernel
theorem dX7_isFree_42 : decode cX7_isFree 42 = .ok (.iaload, 1) := by decide +kernel
theorem dX7_isFree_43 : decode cX7_isFree 43 = .ok (.aload_n 0, 1) := by decide +kernel
theorem dX7_isFree_44 : decode cX7_isFree 44 = .ok (.getfield 48, 3) := by decide +kernel
theorem dX7_isFree_47 : decode cX7_isFree 47 = .ok (.if_icmp .ne 7, 3) := by decide +kernel
theorem dX7_isFree_50 : decode cX7_isFree 50 = .ok (.iconst 1, 1) := by decide +kernel
theorem dX7_isFree_51 : decode cX7_isFree 51 = .ok (.goto 4, 3) := by decide +kernel
theorem dX7_isFree_54 : decode cX7_isFree 54 = .ok (.iconst 0, 1) := by decide +kernel
theorem dX7_isFree_55 : decode cX7_isFree 55 = .ok (.ireturn, 1) := by decide +kernel
theorem dX7_kindLets_0 : decode cX7_kindLets 0 = .ok (.aload_n 0, 1) := by decide +kernel
theorem dX7_kindLets_1 : decode cX7_kindLets 1 = .ok (.getfield 17, 3) := by decide +kernel
theorem dX7_kindLets_4 : decode cX7_kindLets 4 = .ok (.iload_n 2, 1) := by decide +kernel
theorem dX7_kindLets_5 : decode cX7_kindLets 5 = .ok (.aaload, 1) := by decide +kernel
theorem dX7_kindLets_6 : decode cX7_kindLets 6 = .ok (.iconst 0, 1) := by decide +kernel
theorem dX7_kindLets_7 : decode cX7_kindLets 7 = .ok (.iaload, 1) := by decide +kernel
theorem dX7_kindLets_8 : decode cX7_kindLets 8 = .ok (.istore_n 3, 1) := by decide +kernel
theorem dX7_kindLets_9 : decode cX7_kindLets 9 = .ok (.iload_n 3, 1) := by decide +kernel
theorem dX7_kindLets_10 : decode cX7_kindLets 10 = .ok (.bipush 6, 2) := by decide +kernel
theorem dX7_kindLets_12 : decode cX7_kindLets 12 = .ok (.if_icmp .ne 5, 3) := by decide +kernel
theorem dX7_kindLets_15 : decode cX7_kindLets 15 = .ok (.iconst 0, 1) := by decide +kernel
theorem dX7_kindLets_16 : decode cX7_kindLets 16 = .ok (.ireturn, 1) := by decide +kernel
theorem dX7_kindLets_17 : decode cX7_kindLets 17 = .ok (.iload_n 3, 1) := by decide +kernel
theorem dX7_kindLets_18 : decode cX7_kindLets 18 = .ok (.iconst 4, 1) := by decide +kernel
theorem dX7_kindLets_19 : decode cX7_kindLets 19 = .ok (.if_icmp .ne 22, 3) := by decide +kernel
theorem dX7_kindLets_22 : decode cX7_kindLets 22 = .ok (.aload_n 0, 1) := by decide +kernel
theorem dX7_kindLets_23 : decode cX7_kindLets 23 = .ok (.getfield 17, 3) := by decide +kernel
theorem dX7_kindLets_26 : decode cX7_kindLets 26 = .ok (.iload_n 2, 1) := by decide +kernel
theorem dX7_kindLets_27 : decode cX7_kindLets 27 = .ok (.aaload, 1) := by decide +kernel
theorem dX7_kindLets_28 : decode cX7_kindLets 28 = .ok (.iconst 2, 1) := by decide +kernel
theorem dX7_kindLets_29 : decode cX7_kindLets 29 = .ok (.iaload, 1) := by decide +kernel
theorem dX7_kindLets_30 : decode cX7_kindLets 30 = .ok (.aload_n 0, 1) := by decide +kernel
theorem dX7_kindLets_31 : decode cX7_kindLets 31 = .ok (.getfield 33, 3) := by decide +kernel
theorem dX7_kindLets_34 : decode cX7_kindLets 34 = .ok (.iload_n 1, 1) := by decide +kernel
theorem dX7_kindLets_35 : decode cX7_kindLets 35 = .ok (.aaload, 1) := by decide +kernel
theorem dX7_kindLets_36 : decode cX7_kindLets 36 = .ok (.iconst 5, 1) := by decide +kernel
theorem dX7_kindLets_37 : decode cX7_kindLets 37 = .ok (.iaload, 1) := by decide +kernel
theorem dX7_kindLets_38 : decode cX7_kindLets 38 = .ok (.if_icmp .ne 7, 3) := by decide +kernel
theorem dX7_kindLets_41 : decode cX7_kindLets 41 = .ok (.iconst 1, 1) := by decide +kernel
theorem dX7_kindLets_42 : decode cX7_kindLets 42 = .ok (.goto 4, 3) := by decide +kernel
theorem dX7_kindLets_45 : decode cX7_kindLets 45 = .ok (.iconst 0, 1) := by decide +kernel
theorem dX7_kindLets_46 : decode cX7_kindLets 46 = .ok (.ireturn, 1) := by decide +kernel
theorem dX8_init_0 : decode cX8_init 0 = .ok (.aload_n 0, 1) := by decide +kernel
theorem dX8_init_1 : decode cX8_init 1 = .ok (.invokespecial 1, 3) := by decide +kernel
theorem dX8_init_4 : decode cX8_init 4 = .ok (.aload_n 0, 1) := by decide +kernel
theorem dX8_init_5 : decode cX8_init 5 = .ok (.new 7, 3) := by decide +kernel
theorem dX8_init_8 : decode cX8_init 8 = .ok (.dup, 1) := by decide +kernel
theorem dX8_init_9 : decode cX8_init 9 = .ok (.invokespecial 9, 3) := by decide +kernel
theorem dX8_init_12 : decode cX8_init 12 = .ok (.putfield 10, 3) := by decide +kernel
theorem dX8_init_15 : decode cX8_init 15 = .ok (.aload_n 0, 1) := by decide +kernel
theorem dX8_init_16 : decode cX8_init 16 = .ok (.new 7, 3) := by decide +kernel
theorem dX8_init_19 : decode cX8_init 19 = .ok (.dup, 1) := by decide +kernel
theorem dX8_init_20 : decode cX8_init 20 = .ok (.invokespecial 9, 3) := by decide +kernel
theorem dX8_init_23 : decode cX8_init 23 = .ok (.putfield 16, 3) := by decide +kernel
theorem dX8_init_26 : decode cX8_init 26 = .ok (.aload_n 0, 1) := by decide +kernel
theorem dX8_init_27 : decode cX8_init 27 = .ok (.new 7, 3) := by decide +kernel
theorem dX8_init_30 : decode cX8_init 30 = .ok (.dup, 1) := by decide +kernel
theorem dX8_init_31 : decode cX8_init 31 = .ok (.invokespecial 9, 3) := by decide +kernel
theorem dX8_init_34 : decode cX8_init 34 = .ok (.putfield 19, 3) := by decide +kernel
theorem dX8_init_37 : decode cX8_init 37 = .ok (.aload_n 0, 1) := by decide +kernel
theorem dX8_init_38 : decode cX8_init 38 = .ok (.new 22, 3) := by decide +kernel
theorem dX8_init_41 : decode cX8_init 41 = .ok (.dup, 1) := by decide +kernel
theorem dX8_init_42 : decode cX8_init 42 = .ok (.invokespecial 24, 3) := by decide +kernel
theorem dX8_init_45 : decode cX8_init 45 = .ok (.putfield 25, 3) := by decide +kernel
theorem dX8_init_48 : decode cX8_init 48 = .ok (.aload_n 0, 1) := by decide +kernel
theorem dX8_init_49 : decode cX8_init 49 = .ok (.new 29, 3) := by decide +kernel
theorem dX8_init_52 : decode cX8_init 52 = .ok (.dup, 1) := by decide +kernel
theorem dX8_init_53 : decode cX8_init 53 = .ok (.aload_n 0, 1) := by decide +kernel
theorem dX8_init_54 : decode cX8_init 54 = .ok (.getfield 10, 3) := by decide +kernel
theorem dX8_init_57 : decode cX8_init 57 = .ok (.invokespecial 31, 3) := by decide +kernel
theorem dX8_init_60 : decode cX8_init 60 = .ok (.putfield 34, 3) := by decide +kernel
theorem dX8_init_63 : decode cX8_init 63 = .ok (.aload_n 0, 1) := by decide +kernel
theorem dX8_init_64 : decode cX8_init 64 = .ok (.new 38, 3) := by decide +kernel
theorem dX8_init_67 : decode cX8_init 67 = .ok (.dup, 1) := by decide +kernel
theorem dX8_init_68 : decode cX8_init 68 = .ok (.aload_n 0, 1) := by decide +kernel
theorem dX8_init_69 : decode cX8_init 69 = .ok (.getfield 10, 3) := by decide +kernel
theorem dX8_init_72 : decode cX8_init 72 = .ok (.aload_n 0, 1) := by decide +kernel
theorem dX8_init_73 : decode cX8_init 73 = .ok (.getfield 34, 3) := by decide +kernel
theorem dX8_init_76 : decode cX8_init 76 = .ok (.invokespecial 40, 3) := by decide +kernel
theorem dX8_init_79 : decode cX8_init 79 = .ok (.putfield 43, 3) := by decide +kernel
theorem dX8_init_82 : decode cX8_init 82 = .ok (.aload_n 0, 1) := by decide +kernel
theorem dX8_init_83 : decode cX8_init 83 = .ok (.new 47, 3) := by decide +kernel
theorem dX8_init_86 : decode cX8_init 86 = .ok (.dup, 1) := by decide +kernel
theorem dX8_init_87 : decode cX8_init 87 = .ok (.aload_n 0, 1) := by decide +kernel
theorem dX8_init_88 : decode cX8_init 88 = .ok (.getfield 10, 3) := by decide +kernel
theorem dX8_init_91 : decode cX8_init 91 = .ok (.aload_n 0, 1) := by decide +kernel
theorem dX8_init_92 : decode cX8_init 92 = .ok (.getfield 34, 3) := by decide +kernel
theorem dX8_init_95 : decode cX8_init 95 = .ok (.invokespecial 49, 3) := by decide +kernel
theorem dX8_init_98 : decode cX8_init 98 = .ok (.putfield 50, 3) := by decide +kernel
theorem dX8_init_101 : decode cX8_init 101 = .ok (.aload_n 0, 1) := by decide +kernel
theorem dX8_init_102 : decode cX8_init 102 = .ok (.new 54, 3) := by decide +kernel
theorem dX8_init_105 : decode cX8_init 105 = .ok (.dup, 1) := by decide +kernel
theorem dX8_init_106 : decode cX8_init 106 = .ok (.aload_n 0, 1) := by decide +kernel
theorem dX8_init_107 : decode cX8_init 107 = .ok (.getfield 10, 3) := by decide +kernel
theorem dX8_init_110 : decode cX8_init 110 = .ok (.invokespecial 56, 3) := by decide +kernel
theorem dX8_init_113 : decode cX8_init 113 = .ok (.putfield 57, 3) := by decide +kernel
theorem dX8_init_116 : decode cX8_init 116 = .ok (.aload_n 0, 1) := by decide +kernel
theorem dX8_init_117 : decode cX8_init 117 = .ok (.new 61, 3) := by decide +kernel
theorem dX8_init_120 : decode cX8_init 120 = .ok (.dup, 1) := by decide +kernel
theorem dX8_init_121 : decode cX8_init 121 = .ok (.aload_n 0, 1) := by decide +kernel
theorem dX8_init_122 : decode cX8_init 122 = .ok (.getfield 10, 3) := by decide +kernel
theorem dX8_init_125 : decode cX8_init 125 = .ok (.aload_n 0, 1) := by decide +kernel
theorem dX8_init_126 : decode cX8_init 126 = .ok (.getfield 34, 3) := by decide +kernel
theorem dX8_init_129 : decode cX8_init 129 = .ok (.invokespecial 63, 3) := by decide +kernel
theorem dX8_init_132 : decode cX8_init 132 = .ok (.putfield 64, 3) := by decide +kernel
theorem dX8_init_135 : decode cX8_init 135 = .ok (.aload_n 0, 1) := by decide +kernel
theorem dX8_init_136 : decode cX8_init 136 = .ok (.new 68, 3) := by decide +kernel
theorem dX8_init_139 : decode cX8_init 139 = .ok (.dup, 1) := by decide +kernel
theorem dX8_init_140 : decode cX8_init 140 = .ok (.aload_n 0, 1) := by decide +kernel
theorem dX8_init_141 : decode cX8_init 141 = .ok (.getfield 10, 3) := by decide +kernel
theorem dX8_init_144 : decode cX8_init 144 = .ok (.aload_n 0, 1) := by decide +kernel
theorem dX8_init_145 : decode cX8_init 145 = .ok (.getfield 34, 3) := by decide +kernel
theorem dX8_init_148 : decode cX8_init 148 = .ok (.invokespecial 70, 3) := by decide +kernel
theorem dX8_init_151 : decode cX8_init 151 = .ok (.putfield 71, 3) := by decide +kernel
theorem dX8_init_154 : decode cX8_init 154 = .ok (.aload_n 0, 1) := by decide +kernel
theorem dX8_init_155 : decode cX8_init 155 = .ok (.bipush 7, 2) := by decide +kernel
theorem dX8_init_157 : decode cX8_init 157 = .ok (.newarray .int, 2) := by decide +kernel
theorem dX8_init_159 : decode cX8_init 159 = .ok (.putfield 75, 3) := by decide +kernel
theorem dX8_init_162 : decode cX8_init 162 = .ok (.return_, 1) := by decide +kernel
theorem dX8_feed_0 : decode cX8_feed 0 = .ok (.iload_n 1, 1) := by decide +kernel
theorem dX8_feed_1 : decode cX8_feed 1 = .ok (.iconst 1, 1) := by decide +kernel
theorem dX8_feed_2 : decode cX8_feed 2 = .ok (.if_icmp .ge 10, 3) := by decide +kernel
theorem dX8_feed_5 : decode cX8_feed 5 = .ok (.aload_n 0, 1) := by decide +kernel
theorem dX8_feed_6 : decode cX8_feed 6 = .ok (.bipush (-4), 2) := by decide +kernel
theorem dX8_feed_8 : decode cX8_feed 8 = .ok (.invokevirtual 79, 3) := by decide +kernel
theorem dX8_feed_11 : decode cX8_feed 11 = .ok (.ireturn, 1) := by decide +kernel
theorem dX8_feed_12 : decode cX8_feed 12 = .ok (.iload_n 1, 1) := by decide +kernel
theorem dX8_feed_13 : decode cX8_feed 13 = .ok (.bipush 8, 2) := by decide +kernel
theorem dX8_feed_15 : decode cX8_feed 15 = .ok (.if_icmp .gt 17, 3) := by decide +kernel
theorem dX8_feed_18 : decode cX8_feed 18 = .ok (.aload_n 0, 1) := by decide +kernel
theorem dX8_feed_19 : decode cX8_feed 19 = .ok (.getfield 25, 3) := by decide +kernel
theorem dX8_feed_22 : decode cX8_feed 22 = .ok (.getfield 83, 3) := by decide +kernel
theorem dX8_feed_25 : decode cX8_feed 25 = .ok (.iload_n 1, 1) := by decide +kernel
theorem dX8_feed_26 : decode cX8_feed 26 = .ok (.iadd, 1) := by decide +kernel
theorem dX8_feed_27 : decode cX8_feed 27 = .ok (.bipush 64, 2) := by decide +kernel
theorem dX8_feed_29 : decode cX8_feed 29 = .ok (.if_icmp .le 10, 3) := by decide +kernel
theorem dX8_feed_32 : decode cX8_feed 32 = .ok (.aload_n 0, 1) := by decide +kernel
theorem dX8_feed_33 : decode cX8_feed 33 = .ok (.bipush (-6), 2) := by decide +kernel
theorem dX8_feed_35 : decode cX8_feed 35 = .ok (.invokevirtual 79, 3) := by decide +kernel
theorem dX8_feed_38 : decode cX8_feed 38 = .ok (.ireturn, 1) := by decide +kernel
theorem dX8_feed_39 : decode cX8_feed 39 = .ok (.aload_n 0, 1) := by decide +kernel
theorem dX8_feed_40 : decode cX8_feed 40 = .ok (.getfield 25, 3) := by decide +kernel
theorem dX8_feed_43 : decode cX8_feed 43 = .ok (.iload_n 1, 1) := by decide +kernel
theorem dX8_feed_44 : decode cX8_feed 44 = .ok (.lload_n 2, 1) := by decide +kernel
theorem dX8_feed_45 : decode cX8_feed 45 = .ok (.invokevirtual 87, 3) := by decide +kernel
theorem dX8_feed_48 : decode cX8_feed 48 = .ok (.aload_n 0, 1) := by decide +kernel
theorem dX8_feed_49 : decode cX8_feed 49 = .ok (.getfield 25, 3) := by decide +kernel
theorem dX8_feed_52 : decode cX8_feed 52 = .ok (.getfield 83, 3) := by decide +kernel
theorem dX8_feed_55 : decode cX8_feed 55 = .ok (.ireturn, 1) := by decide +kernel
theorem dX8_town_0 : decode cX8_town 0 = .ok (.aload_n 0, 1) := by decide +kernel
theorem dX8_town_1 : decode cX8_town 1 = .ok (.getfield 25, 3) := by decide +kernel
theorem dX8_town_4 : decode cX8_town 4 = .ok (.invokevirtual 91, 3) := by decide +kernel
theorem dX8_town_7 : decode cX8_town 7 = .ok (.istore_n 1, 1) := by decide +kernel
theorem dX8_town_8 : decode cX8_town 8 = .ok (.iload_n 1, 1) := by decide +kernel
theorem dX8_town_9 : decode cX8_town 9 = .ok (.ifCond .ne 41, 3) := by decide +kernel
theorem dX8_town_12 : decode cX8_town 12 = .ok (.aload_n 0, 1) := by decide +kernel
theorem dX8_town_13 : decode cX8_town 13 = .ok (.getfield 16, 3) := by decide +kernel
theorem dX8_town_16 : decode cX8_town 16 = .ok (.aload_n 0, 1) := by decide +kernel
theorem dX8_town_17 : decode cX8_town 17 = .ok (.getfield 10, 3) := by decide +kernel
theorem dX8_town_20 : decode cX8_town 20 = .ok (.invokevirtual 95, 3) := by decide +kernel
theorem dX8_town_23 : decode cX8_town 23 = .ok (.aload_n 0, 1) := by decide +kernel
theorem dX8_town_24 : decode cX8_town 24 = .ok (.getfield 25, 3) := by decide +kernel
theorem dX8_town_27 : decode cX8_town 27 = .ok (.aload_n 0, 1) := by decide +kernel
theorem dX8_town_28 : decode cX8_town 28 = .ok (.getfield 16, 3) := by decide +kernel
theorem dX8_town_31 : decode cX8_town 31 = .ok (.invokevirtual 98, 3) := by decide +kernel
theorem dX8_town_34 : decode cX8_town 34 = .ok (.istore_n 1, 1) := by decide +kernel
theorem dX8_town_35 : decode cX8_town 35 = .ok (.iload_n 1, 1) := by decide +kernel
theorem dX8_town_36 : decode cX8_town 36 = .ok (.ifCond .le 14, 3) := by decide +kernel
theorem dX8_town_39 : decode cX8_town 39 = .ok (.aload_n 0, 1) := by decide +kernel
theorem dX8_town_40 : decode cX8_town 40 = .ok (.getfield 10, 3) := by decide +kernel
theorem dX8_town_43 : decode cX8_town 43 = .ok (.aload_n 0, 1) := by decide +kernel
theorem dX8_town_44 : decode cX8_town 44 = .ok (.getfield 16, 3) := by decide +kernel
theorem dX8_town_47 : decode cX8_town 47 = .ok (.invokevirtual 95, 3) := by decide +kernel
theorem dX8_town_50 : decode cX8_town 50 = .ok (.aload_n 0, 1) := by decide +kernel
theorem dX8_town_51 : decode cX8_town 51 = .ok (.getfield 25, 3) := by decide +kernel
theorem dX8_town_54 : decode cX8_town 54 = .ok (.iconst 0, 1) := by decide +kernel
theorem dX8_town_55 : decode cX8_town 55 = .ok (.putfield 83, 3) := by decide +kernel
theorem dX8_town_58 : decode cX8_town 58 = .ok (.iload_n 1, 1) := by decide +kernel
theorem dX8_town_59 : decode cX8_town 59 = .ok (.ireturn, 1) := by decide +kernel
theorem dX8_holder_0 : decode cX8_holder 0 = .ok (.aload_n 0, 1) := by decide +kernel
theorem dX8_holder_1 : decode cX8_holder 1 = .ok (.getfield 10, 3) := by decide +kernel
theorem dX8_holder_4 : decode cX8_holder 4 = .ok (.iload_n 1, 1) := by decide +kernel
theorem dX8_holder_5 : decode cX8_holder 5 = .ok (.invokevirtual 102, 3) := by decide +kernel
theorem dX8_holder_8 : decode cX8_holder 8 = .ok (.ifCond .ne 9, 3) := by decide +kernel
theorem dX8_holder_11 : decode cX8_holder 11 = .ok (.aload_n 0, 1) := by decide +kernel
theorem dX8_holder_12 : decode cX8_holder 12 = .ok (.iconst (-1), 1) := by decide +kernel
theorem dX8_holder_13 : decode cX8_holder 13 = .ok (.invokevirtual 79, 3) := by decide +kernel
theorem dX8_holder_16 : decode cX8_holder 16 = .ok (.ireturn, 1) := by decide +kernel
theorem dX8_holder_17 : decode cX8_holder 17 = .ok (.iload_n 2, 1) := by decide +kernel
theorem dX8_holder_18 : decode cX8_holder 18 = .ok (.ifCond .lt 8, 3) := by decide +kernel
theorem dX8_holder_21 : decode cX8_holder 21 = .ok (.iload_n 2, 1) := by decide +kernel
theorem dX8_holder_22 : decode cX8_holder 22 = .ok (.iconst 4, 1) := by decide +kernel
theorem dX8_holder_23 : decode cX8_holder 23 = .ok (.if_icmp .le 10, 3) := by decide +kernel
theorem dX8_holder_26 : decode cX8_holder 26 = .ok (.aload_n 0, 1) := by decide +kernel
theorem dX8_holder_27 : decode cX8_holder 27 = .ok (.bipush (-2), 2) := by decide +kernel
theorem dX8_holder_29 : decode cX8_holder 29 = .ok (.invokevirtual 79, 3) := by decide +kernel
theorem dX8_holder_32 : decode cX8_holder 32 = .ok (.ireturn, 1) := by decide +kernel
theorem dX8_holder_33 : decode cX8_holder 33 = .ok (.iload_n 2, 1) := by decide +kernel
theorem dX8_holder_34 : decode cX8_holder 34 = .ok (.iconst 3, 1) := by decide +kernel
theorem dX8_holder_35 : decode cX8_holder 35 = .ok (.if_icmp .ne 16, 3) := by decide +kernel
theorem dX8_holder_38 : decode cX8_holder 38 = .ok (.aload_n 0, 1) := by decide +kernel
theorem dX8_holder_39 : decode cX8_holder 39 = .ok (.getfield 10, 3) := by decide +kernel
theorem dX8_holder_42 : decode cX8_holder 42 = .ok (.getfield 106, 3) := by decide +kernel
theorem dX8_holder_45 : decode cX8_holder 45 = .ok (.iload_n 1, 1) := by decide +kernel
theorem dX8_holder_46 : decode cX8_holder 46 = .ok (.iaload, 1) := by decide +kernel
theorem dX8_holder_47 : decode cX8_holder 47 = .ok (.invokestatic 109, 3) := by decide +kernel
theorem dX8_holder_50 : decode cX8_holder 50 = .ok (.ireturn, 1) := by decide +kernel
theorem dX8_holder_51 : decode cX8_holder 51 = .ok (.iload_n 2, 1) := by decide +kernel
theorem dX8_holder_52 : decode cX8_holder 52 = .ok (.iconst 4, 1) := by decide +kernel
theorem dX8_holder_53 : decode cX8_holder 53 = .ok (.if_icmp .ne 12, 3) := by decide +kernel
theorem dX8_holder_56 : decode cX8_holder 56 = .ok (.aload_n 0, 1) := by decide +kernel
theorem dX8_holder_57 : decode cX8_holder 57 = .ok (.getfield 43, 3) := by decide +kernel
theorem dX8_holder_60 : decode cX8_holder 60 = .ok (.iload_n 1, 1) := by decide +kernel
theorem dX8_holder_61 : decode cX8_holder 61 = .ok (.invokevirtual 114, 3) := by decide +kernel
theorem dX8_holder_64 : decode cX8_holder 64 = .ok (.ireturn, 1) := by decide +kernel
theorem dX8_holder_65 : decode cX8_holder 65 = .ok (.aload_n 0, 1) := by decide +kernel
theorem dX8_holder_66 : decode cX8_holder 66 = .ok (.getfield 10, 3) := by decide +kernel
theorem dX8_holder_69 : decode cX8_holder 69 = .ok (.getfield 117, 3) := by decide +kernel
theorem dX8_holder_72 : decode cX8_holder 72 = .ok (.iload_n 1, 1) := by decide +kernel
theorem dX8_holder_73 : decode cX8_holder 73 = .ok (.aaload, 1) := by decide +kernel
theorem dX8_holder_74 : decode cX8_holder 74 = .ok (.iload_n 2, 1) := by decide +kernel
theorem dX8_holder_75 : decode cX8_holder 75 = .ok (.iaload, 1) := by decide +kernel
theorem dX8_holder_76 : decode cX8_holder 76 = .ok (.ireturn, 1) := by decide +kernel
theorem dX8_hour_0 : decode cX8_hour 0 = .ok (.iload_n 1, 1) := by decide +kernel
theorem dX8_hour_1 : decode cX8_hour 1 = .ok (.invokestatic 121, 3) := by decide +kernel
theorem dX8_hour_4 : decode cX8_hour 4 = .ok (.ifCond .ne 9, 3) := by decide +kernel
theorem dX8_hour_7 : decode cX8_hour 7 = .ok (.aload_n 0, 1) := by decide +kernel
theorem dX8_hour_8 : decode cX8_hour 8 = .ok (.iconst (-1), 1) := by decide +kernel
theorem dX8_hour_9 : decode cX8_hour 9 = .ok (.invokevirtual 79, 3) := by decide +kernel
theorem dX8_hour_12 : decode cX8_hour 12 = .ok (.ireturn, 1) := by decide +kernel
theorem dX8_hour_13 : decode cX8_hour 13 = .ok (.iload_n 2, 1) := by decide +kernel
theorem dX8_hour_14 : decode cX8_hour 14 = .ok (.iconst (-1), 1) := by decide +kernel
theorem dX8_hour_15 : decode cX8_hour 15 = .ok (.if_icmp .ge 10, 3) := by decide +kernel
theorem dX8_hour_18 : decode cX8_hour 18 = .ok (.aload_n 0, 1) := by decide +kernel
theorem dX8_hour_19 : decode cX8_hour 19 = .ok (.bipush (-4), 2) := by decide +kernel
theorem dX8_hour_21 : decode cX8_hour 21 = .ok (.invokevirtual 79, 3) := by decide +kernel
theorem dX8_hour_24 : decode cX8_hour 24 = .ok (.ireturn, 1) := by decide +kernel
theorem dX8_hour_25 : decode cX8_hour 25 = .ok (.iload_n 2, 1) := by decide +kernel
theorem dX8_hour_26 : decode cX8_hour 26 = .ok (.iconst (-1), 1) := by decide +kernel
theorem dX8_hour_27 : decode cX8_hour 27 = .ok (.if_icmp .ne 13, 3) := by decide +kernel
theorem dX8_hour_30 : decode cX8_hour 30 = .ok (.aload_n 0, 1) := by decide +kernel
theorem dX8_hour_31 : decode cX8_hour 31 = .ok (.getfield 10, 3) := by decide +kernel
theorem dX8_hour_34 : decode cX8_hour 34 = .ok (.getfield 124, 3) := by decide +kernel
theorem dX8_hour_37 : decode cX8_hour 37 = .ok (.iload_n 1, 1) := by decide +kernel
theorem dX8_hour_38 : decode cX8_hour 38 = .ok (.iaload, 1) := by decide +kernel
theorem dX8_hour_39 : decode cX8_hour 39 = .ok (.ireturn, 1) := by decide +kernel
theorem dX8_hour_40 : decode cX8_hour 40 = .ok (.iload_n 2, 1) := by decide +kernel
theorem dX8_hour_41 : decode cX8_hour 41 = .ok (.aload_n 0, 1) := by decide +kernel
theorem dX8_hour_42 : decode cX8_hour 42 = .ok (.getfield 10, 3) := by decide +kernel
theorem dX8_hour_45 : decode cX8_hour 45 = .ok (.getfield 124, 3) := by decide +kernel
theorem dX8_hour_48 : decode cX8_hour 48 = .ok (.iload_n 1, 1) := by decide +kernel
theorem dX8_hour_49 : decode cX8_hour 49 = .ok (.iaload, 1) := by decide +kernel
theorem dX8_hour_50 : decode cX8_hour 50 = .ok (.if_icmp .ge 17, 3) := by decide +kernel
theorem dX8_hour_53 : decode cX8_hour 53 = .ok (.aload_n 0, 1) := by decide +kernel
theorem dX8_hour_54 : decode cX8_hour 54 = .ok (.getfield 10, 3) := by decide +kernel
theorem dX8_hour_57 : decode cX8_hour 57 = .ok (.getfield 127, 3) := by decide +kernel
theorem dX8_hour_60 : decode cX8_hour 60 = .ok (.iload_n 1, 1) := by decide +kernel
theorem dX8_hour_61 : decode cX8_hour 61 = .ok (.aaload, 1) := by decide +kernel
theorem dX8_hour_62 : decode cX8_hour 62 = .ok (.iload_n 2, 1) := by decide +kernel
theorem dX8_hour_63 : decode cX8_hour 63 = .ok (.iaload, 1) := by decide +kernel
theorem dX8_hour_64 : decode cX8_hour 64 = .ok (.goto 5, 3) := by decide +kernel
theorem dX8_hour_67 : decode cX8_hour 67 = .ok (.bipush (-9), 2) := by decide +kernel
theorem dX8_hour_69 : decode cX8_hour 69 = .ok (.ireturn, 1) := by decide +kernel
theorem dX8_work_0 : decode cX8_work 0 = .ok (.aload_n 0, 1) := by decide +kernel
theorem dX8_work_1 : decode cX8_work 1 = .ok (.getfield 10, 3) := by decide +kernel
theorem dX8_work_4 : decode cX8_work 4 = .ok (.iload_n 1, 1) := by decide +kernel
theorem dX8_work_5 : decode cX8_work 5 = .ok (.invokevirtual 130, 3) := by decide +kernel
theorem dX8_work_8 : decode cX8_work 8 = .ok (.ifCond .ne 9, 3) := by decide +kernel
theorem dX8_work_11 : decode cX8_work 11 = .ok (.aload_n 0, 1) := by decide +kernel
theorem dX8_work_12 : decode cX8_work 12 = .ok (.iconst (-1), 1) := by decide +kernel
theorem dX8_work_13 : decode cX8_work 13 = .ok (.invokevirtual 79, 3) := by decide +kernel
theorem dX8_work_16 : decode cX8_work 16 = .ok (.ireturn, 1) := by decide +kernel
theorem dX8_work_17 : decode cX8_work 17 = .ok (.iload_n 2, 1) := by decide +kernel
theorem dX8_work_18 : decode cX8_work 18 = .ok (.ifCond .lt 9, 3) := by decide +kernel
theorem dX8_work_21 : decode cX8_work 21 = .ok (.iload_n 2, 1) := by decide +kernel
theorem dX8_work_22 : decode cX8_work 22 = .ok (.bipush 6, 2) := by decide +kernel
theorem dX8_work_24 : decode cX8_work 24 = .ok (.if_icmp .lt 10, 3) := by decide +kernel
theorem dX8_work_27 : decode cX8_work 27 = .ok (.aload_n 0, 1) := by decide +kernel
theorem dX8_work_28 : decode cX8_work 28 = .ok (.bipush (-2), 2) := by decide +kernel
theorem dX8_work_30 : decode cX8_work 30 = .ok (.invokevirtual 79, 3) := by decide +kernel
theorem dX8_work_33 : decode cX8_work 33 = .ok (.ireturn, 1) := by decide +kernel
theorem dX8_work_34 : decode cX8_work 34 = .ok (.aload_n 0, 1) := by decide +kernel
theorem dX8_work_35 : decode cX8_work 35 = .ok (.getfield 10, 3) := by decide +kernel
theorem dX8_work_38 : decode cX8_work 38 = .ok (.getfield 133, 3) := by decide +kernel
theorem dX8_work_41 : decode cX8_work 41 = .ok (.iload_n 1, 1) := by decide +kernel
theorem dX8_work_42 : decode cX8_work 42 = .ok (.aaload, 1) := by decide +kernel
theorem dX8_work_43 : decode cX8_work 43 = .ok (.iload_n 2, 1) := by decide +kernel
theorem dX8_work_44 : decode cX8_work 44 = .ok (.iaload, 1) := by decide +kernel
theorem dX8_work_45 : decode cX8_work 45 = .ok (.ireturn, 1) := by decide +kernel
theorem dX8_price_0 : decode cX8_price 0 = .ok (.aload_n 0, 1) := by decide +kernel
theorem dX8_price_1 : decode cX8_price 1 = .ok (.getfield 10, 3) := by decide +kernel
theorem dX8_price_4 : decode cX8_price 4 = .ok (.iload_n 1, 1) := by decide +kernel
theorem dX8_price_5 : decode cX8_price 5 = .ok (.invokevirtual 102, 3) := by decide +kernel
theorem dX8_price_8 : decode cX8_price 8 = .ok (.ifCond .ne 9, 3) := by decide +kernel
theorem dX8_price_11 : decode cX8_price 11 = .ok (.aload_n 0, 1) := by decide +kernel
theorem dX8_price_12 : decode cX8_price 12 = .ok (.iconst (-1), 1) := by decide +kernel
theorem dX8_price_13 : decode cX8_price 13 = .ok (.invokevirtual 79, 3) := by decide +kernel
theorem dX8_price_16 : decode cX8_price 16 = .ok (.ireturn, 1) := by decide +kernel
theorem dX8_price_17 : decode cX8_price 17 = .ok (.iload_n 2, 1) := by decide +kernel
theorem dX8_price_18 : decode cX8_price 18 = .ok (.bipush 9, 2) := by decide +kernel
theorem dX8_price_20 : decode cX8_price 20 = .ok (.invokestatic 136, 3) := by decide +kernel
theorem dX8_price_23 : decode cX8_price 23 = .ok (.istore_n 3, 1) := by decide +kernel
theorem dX8_price_24 : decode cX8_price 24 = .ok (.iload_n 3, 1) := by decide +kernel
theorem dX8_price_25 : decode cX8_price 25 = .ok (.ifCond .eq 9, 3) := by decide +kernel
theorem dX8_price_28 : decode cX8_price 28 = .ok (.aload_n 0, 1) := by decide +kernel
theorem dX8_price_29 : decode cX8_price 29 = .ok (.iload_n 3, 1) := by decide +kernel
theorem dX8_price_30 : decode cX8_price 30 = .ok (.invokevirtual 79, 3) := by decide +kernel
theorem dX8_price_33 : decode cX8_price 33 = .ok (.ireturn, 1) := by decide +kernel
theorem dX8_price_34 : decode cX8_price 34 = .ok (.aload_n 0, 1) := by decide +kernel
theorem dX8_price_35 : decode cX8_price 35 = .ok (.getfield 10, 3) := by decide +kernel
theorem dX8_price_38 : decode cX8_price 38 = .ok (.getfield 117, 3) := by decide +kernel
theorem dX8_price_41 : decode cX8_price 41 = .ok (.iload_n 1, 1) := by decide +kernel
theorem dX8_price_42 : decode cX8_price 42 = .ok (.aaload, 1) := by decide +kernel
theorem dX8_price_43 : decode cX8_price 43 = .ok (.iconst 1, 1) := by decide +kernel
theorem dX8_price_44 : decode cX8_price 44 = .ok (.iaload, 1) := by decide +kernel
theorem dX8_price_45 : decode cX8_price 45 = .ok (.istore 4, 2) := by decide +kernel
theorem dX8_price_47 : decode cX8_price 47 = .ok (.aload_n 0, 1) := by decide +kernel
theorem dX8_price_48 : decode cX8_price 48 = .ok (.getfield 10, 3) := by decide +kernel
theorem dX8_price_51 : decode cX8_price 51 = .ok (.getfield 117, 3) := by decide +kernel
theorem dX8_price_54 : decode cX8_price 54 = .ok (.iload_n 1, 1) := by decide +kernel
theorem dX8_price_55 : decode cX8_price 55 = .ok (.aaload, 1) := by decide +kernel
theorem dX8_price_56 : decode cX8_price 56 = .ok (.iconst 1, 1) := by decide +kernel
theorem dX8_price_57 : decode cX8_price 57 = .ok (.iload_n 2, 1) := by decide +kernel
theorem dX8_price_58 : decode cX8_price 58 = .ok (.iastore, 1) := by decide +kernel
theorem dX8_price_59 : decode cX8_price 59 = .ok (.iload 4, 2) := by decide +kernel
theorem dX8_price_61 : decode cX8_price 61 = .ok (.ireturn, 1) := by decide +kernel
theorem dX8_strike_0 : decode cX8_strike 0 = .ok (.iload_n 1, 1) := by decide +kernel
theorem dX8_strike_1 : decode cX8_strike 1 = .ok (.aload_n 0, 1) := by decide +kernel
theorem dX8_strike_2 : decode cX8_strike 2 = .ok (.getfield 10, 3) := by decide +kernel
theorem dX8_strike_5 : decode cX8_strike 5 = .ok (.invokevirtual 140, 3) := by decide +kernel
theorem dX8_strike_8 : decode cX8_strike 8 = .ok (.iconst (-1), 1) := by decide +kernel
theorem dX8_strike_9 : decode cX8_strike 9 = .ok (.ixor, 1) := by decide +kernel
theorem dX8_strike_10 : decode cX8_strike 10 = .ok (.iand, 1) := by decide +kernel
theorem dX8_strike_11 : decode cX8_strike 11 = .ok (.ifCond .eq 9, 3) := by decide +kernel
theorem dX8_strike_14 : decode cX8_strike 14 = .ok (.aload_n 0, 1) := by decide +kernel
theorem dX8_strike_15 : decode cX8_strike 15 = .ok (.iconst (-1), 1) := by decide +kernel
theorem dX8_strike_16 : decode cX8_strike 16 = .ok (.invokevirtual 79, 3) := by decide +kernel
theorem dX8_strike_19 : decode cX8_strike 19 = .ok (.ireturn, 1) := by decide +kernel
theorem dX8_strike_20 : decode cX8_strike 20 = .ok (.aload_n 0, 1) := by decide +kernel
theorem dX8_strike_21 : decode cX8_strike 21 = .ok (.getfield 10, 3) := by decide +kernel
theorem dX8_strike_24 : decode cX8_strike 24 = .ok (.getfield 143, 3) := by decide +kernel
theorem dX8_strike_27 : decode cX8_strike 27 = .ok (.istore_n 2, 1) := by decide +kernel
theorem dX8_strike_28 : decode cX8_strike 28 = .ok (.aload_n 0, 1) := by decide +kernel
theorem dX8_strike_29 : decode cX8_strike 29 = .ok (.getfield 10, 3) := by decide +kernel
theorem dX8_strike_32 : decode cX8_strike 32 = .ok (.iload_n 1, 1) := by decide +kernel
theorem dX8_strike_33 : decode cX8_strike 33 = .ok (.putfield 143, 3) := by decide +kernel
theorem dX8_strike_36 : decode cX8_strike 36 = .ok (.iload_n 2, 1) := by decide +kernel
theorem dX8_strike_37 : decode cX8_strike 37 = .ok (.ireturn, 1) := by decide +kernel
theorem dX8_bell_0 : decode cX8_bell 0 = .ok (.iload_n 1, 1) := by decide +kernel
theorem dX8_bell_1 : decode cX8_bell 1 = .ok (.iconst (-1), 1) := by decide +kernel
theorem dX8_bell_2 : decode cX8_bell 2 = .ok (.if_icmp .eq 16, 3) := by decide +kernel
theorem dX8_bell_5 : decode cX8_bell 5 = .ok (.iload_n 1, 1) := by decide +kernel
theorem dX8_bell_6 : decode cX8_bell 6 = .ok (.invokestatic 121, 3) := by decide +kernel
theorem dX8_bell_9 : decode cX8_bell 9 = .ok (.ifCond .ne 9, 3) := by decide +kernel
theorem dX8_bell_12 : decode cX8_bell 12 = .ok (.aload_n 0, 1) := by decide +kernel
theorem dX8_bell_13 : decode cX8_bell 13 = .ok (.iconst (-1), 1) := by decide +kernel
theorem dX8_bell_14 : decode cX8_bell 14 = .ok (.invokevirtual 79, 3) := by decide +kernel
theorem dX8_bell_17 : decode cX8_bell 17 = .ok (.ireturn, 1) := by decide +kernel
theorem dX8_bell_18 : decode cX8_bell 18 = .ok (.iload_n 2, 1) := by decide +kernel
theorem dX8_bell_19 : decode cX8_bell 19 = .ok (.bipush 9, 2) := by decide +kernel
theorem dX8_bell_21 : decode cX8_bell 21 = .ok (.invokestatic 136, 3) := by decide +kernel
theorem dX8_bell_24 : decode cX8_bell 24 = .ok (.istore_n 3, 1) := by decide +kernel
theorem dX8_bell_25 : decode cX8_bell 25 = .ok (.iload_n 3, 1) := by decide +kernel
theorem dX8_bell_26 : decode cX8_bell 26 = .ok (.ifCond .eq 9, 3) := by decide +kernel
theorem dX8_bell_29 : decode cX8_bell 29 = .ok (.aload_n 0, 1) := by decide +kernel
theorem dX8_bell_30 : decode cX8_bell 30 = .ok (.iload_n 3, 1) := by decide +kernel
theorem dX8_bell_31 : decode cX8_bell 31 = .ok (.invokevirtual 79, 3) := by decide +kernel
theorem dX8_bell_34 : decode cX8_bell 34 = .ok (.ireturn, 1) := by decide +kernel
theorem dX8_bell_35 : decode cX8_bell 35 = .ok (.aload_n 0, 1) := by decide +kernel
theorem dX8_bell_36 : decode cX8_bell 36 = .ok (.getfield 10, 3) := by decide +kernel
theorem dX8_bell_39 : decode cX8_bell 39 = .ok (.getfield 146, 3) := by decide +kernel
theorem dX8_bell_42 : decode cX8_bell 42 = .ok (.istore 4, 2) := by decide +kernel
theorem dX8_bell_44 : decode cX8_bell 44 = .ok (.aload_n 0, 1) := by decide +kernel
theorem dX8_bell_45 : decode cX8_bell 45 = .ok (.getfield 10, 3) := by decide +kernel
theorem dX8_bell_48 : decode cX8_bell 48 = .ok (.iload_n 1, 1) := by decide +kernel
theorem dX8_bell_49 : decode cX8_bell 49 = .ok (.iconst (-1), 1) := by decide +kernel
theorem dX8_bell_50 : decode cX8_bell 50 = .ok (.if_icmp .ne 8, 3) := by decide +kernel
theorem dX8_bell_53 : decode cX8_bell 53 = .ok (.bipush (-9), 2) := by decide +kernel
theorem dX8_bell_55 : decode cX8_bell 55 = .ok (.goto 4, 3) := by decide +kernel
theorem dX8_bell_58 : decode cX8_bell 58 = .ok (.iload_n 1, 1) := by decide +kernel
theorem dX8_bell_59 : decode cX8_bell 59 = .ok (.putfield 146, 3) := by decide +kernel
theorem dX8_bell_62 : decode cX8_bell 62 = .ok (.aload_n 0, 1) := by decide +kernel
theorem dX8_bell_63 : decode cX8_bell 63 = .ok (.getfield 10, 3) := by decide +kernel
theorem dX8_bell_66 : decode cX8_bell 66 = .ok (.iload_n 2, 1) := by decide +kernel
theorem dX8_bell_67 : decode cX8_bell 67 = .ok (.putfield 149, 3) := by decide +kernel
theorem dX8_bell_70 : decode cX8_bell 70 = .ok (.iload 4, 2) := by decide +kernel
theorem dX8_bell_72 : decode cX8_bell 72 = .ok (.ireturn, 1) := by decide +kernel
theorem dX8_leave_0 : decode cX8_leave 0 = .ok (.aload_n 0, 1) := by decide +kernel
theorem dX8_leave_1 : decode cX8_leave 1 = .ok (.getfield 10, 3) := by decide +kernel
theorem dX8_leave_4 : decode cX8_leave 4 = .ok (.iload_n 1, 1) := by decide +kernel
theorem dX8_leave_5 : decode cX8_leave 5 = .ok (.invokevirtual 130, 3) := by decide +kernel
theorem dX8_leave_8 : decode cX8_leave 8 = .ok (.ifCond .eq 21, 3) := by decide +kernel
theorem dX8_leave_11 : decode cX8_leave 11 = .ok (.aload_n 0, 1) := by decide +kernel
theorem dX8_leave_12 : decode cX8_leave 12 = .ok (.getfield 10, 3) := by decide +kernel
theorem dX8_leave_15 : decode cX8_leave 15 = .ok (.iload_n 2, 1) := by decide +kernel
theorem dX8_leave_16 : decode cX8_leave 16 = .ok (.invokevirtual 102, 3) := by decide +kernel
theorem dX8_leave_19 : decode cX8_leave 19 = .ok (.ifCond .eq 10, 3) := by decide +kernel
theorem dX8_leave_22 : decode cX8_leave 22 = .ok (.iload_n 3, 1) := by decide +kernel
theorem dX8_leave_23 : decode cX8_leave 23 = .ok (.invokestatic 121, 3) := by decide +kernel
theorem dX8_leave_26 : decode cX8_leave 26 = .ok (.ifCond .ne 9, 3) := by decide +kernel
theorem dX8_leave_29 : decode cX8_leave 29 = .ok (.aload_n 0, 1) := by decide +kernel
theorem dX8_leave_30 : decode cX8_leave 30 = .ok (.iconst (-1), 1) := by decide +kernel
theorem dX8_leave_31 : decode cX8_leave 31 = .ok (.invokevirtual 79, 3) := by decide +kernel
theorem dX8_leave_34 : decode cX8_leave 34 = .ok (.ireturn, 1) := by decide +kernel
theorem dX8_leave_35 : decode cX8_leave 35 = .ok (.aload_n 0, 1) := by decide +kernel
theorem dX8_leave_36 : decode cX8_leave 36 = .ok (.getfield 10, 3) := by decide +kernel
theorem dX8_leave_39 : decode cX8_leave 39 = .ok (.iload_n 2, 1) := by decide +kernel
theorem dX8_leave_40 : decode cX8_leave 40 = .ok (.iload_n 3, 1) := by decide +kernel
theorem dX8_leave_41 : decode cX8_leave 41 = .ok (.invokevirtual 152, 3) := by decide +kernel
theorem dX8_leave_44 : decode cX8_leave 44 = .ok (.ifCond .eq 16, 3) := by decide +kernel
theorem dX8_leave_47 : decode cX8_leave 47 = .ok (.aload_n 0, 1) := by decide +kernel
theorem dX8_leave_48 : decode cX8_leave 48 = .ok (.getfield 34, 3) := by decide +kernel
theorem dX8_leave_51 : decode cX8_leave 51 = .ok (.iload_n 1, 1) := by decide +kernel
theorem dX8_leave_52 : decode cX8_leave 52 = .ok (.iload_n 2, 1) := by decide +kernel
theorem dX8_leave_53 : decode cX8_leave 53 = .ok (.iload_n 3, 1) := by decide +kernel
theorem dX8_leave_54 : decode cX8_leave 54 = .ok (.invokevirtual 156, 3) := by decide +kernel
theorem dX8_leave_57 : decode cX8_leave 57 = .ok (.goto 4, 3) := by decide +kernel
theorem dX8_leave_60 : decode cX8_leave 60 = .ok (.iconst 0, 1) := by decide +kernel
theorem dX8_leave_61 : decode cX8_leave 61 = .ok (.ireturn, 1) := by decide +kernel
theorem dX8_one_0 : decode cX8_one 0 = .ok (.aload_n 0, 1) := by decide +kernel
theorem dX8_one_1 : decode cX8_one 1 = .ok (.getfield 10, 3) := by decide +kernel
theorem dX8_one_4 : decode cX8_one 4 = .ok (.iload_n 1, 1) := by decide +kernel
theorem dX8_one_5 : decode cX8_one 5 = .ok (.invokevirtual 130, 3) := by decide +kernel
theorem dX8_one_8 : decode cX8_one 8 = .ok (.ifCond .ne 9, 3) := by decide +kernel
theorem dX8_one_11 : decode cX8_one 11 = .ok (.aload_n 0, 1) := by decide +kernel
theorem dX8_one_12 : decode cX8_one 12 = .ok (.iconst (-1), 1) := by decide +kernel
theorem dX8_one_13 : decode cX8_one 13 = .ok (.invokevirtual 79, 3) := by decide +kernel
theorem dX8_one_16 : decode cX8_one 16 = .ok (.ireturn, 1) := by decide +kernel
theorem dX8_one_17 : decode cX8_one 17 = .ok (.aload_n 0, 1) := by decide +kernel
theorem dX8_one_18 : decode cX8_one 18 = .ok (.getfield 34, 3) := by decide +kernel
theorem dX8_one_21 : decode cX8_one 21 = .ok (.iload_n 1, 1) := by decide +kernel
theorem dX8_one_22 : decode cX8_one 22 = .ok (.invokevirtual 160, 3) := by decide +kernel
theorem dX8_one_25 : decode cX8_one 25 = .ok (.aload_n 0, 1) := by decide +kernel
theorem dX8_one_26 : decode cX8_one 26 = .ok (.getfield 34, 3) := by decide +kernel
theorem dX8_one_29 : decode cX8_one 29 = .ok (.getfield 164, 3) := by decide +kernel
theorem dX8_one_32 : decode cX8_one 32 = .ok (.ireturn, 1) := by decide +kernel
theorem dX8_cost_0 : decode cX8_cost 0 = .ok (.aload_n 0, 1) := by decide +kernel
theorem dX8_cost_1 : decode cX8_cost 1 = .ok (.getfield 10, 3) := by decide +kernel
theorem dX8_cost_4 : decode cX8_cost 4 = .ok (.iload_n 1, 1) := by decide +kernel
theorem dX8_cost_5 : decode cX8_cost 5 = .ok (.invokevirtual 130, 3) := by decide +kernel
theorem dX8_cost_8 : decode cX8_cost 8 = .ok (.ifCond .ne 9, 3) := by decide +kernel
theorem dX8_cost_11 : decode cX8_cost 11 = .ok (.aload_n 0, 1) := by decide +kernel
theorem dX8_cost_12 : decode cX8_cost 12 = .ok (.iconst (-1), 1) := by decide +kernel
theorem dX8_cost_13 : decode cX8_cost 13 = .ok (.invokevirtual 79, 3) := by decide +kernel
theorem dX8_cost_16 : decode cX8_cost 16 = .ok (.ireturn, 1) := by decide +kernel
theorem dX8_cost_17 : decode cX8_cost 17 = .ok (.aload_n 0, 1) := by decide +kernel
theorem dX8_cost_18 : decode cX8_cost 18 = .ok (.getfield 34, 3) := by decide +kernel
theorem dX8_cost_21 : decode cX8_cost 21 = .ok (.iload_n 1, 1) := by decide +kernel
theorem dX8_cost_22 : decode cX8_cost 22 = .ok (.invokevirtual 160, 3) := by decide +kernel
theorem dX8_cost_25 : decode cX8_cost 25 = .ok (.aload_n 0, 1) := by decide +kernel
theorem dX8_cost_26 : decode cX8_cost 26 = .ok (.getfield 34, 3) := by decide +kernel
theorem dX8_cost_29 : decode cX8_cost 29 = .ok (.getfield 167, 3) := by decide +kernel
theorem dX8_cost_32 : decode cX8_cost 32 = .ok (.ireturn, 1) := by decide +kernel
theorem dX8_net_0 : decode cX8_net 0 = .ok (.aload_n 0, 1) := by decide +kernel
theorem dX8_net_1 : decode cX8_net 1 = .ok (.getfield 10, 3) := by decide +kernel
theorem dX8_net_4 : decode cX8_net 4 = .ok (.iload_n 1, 1) := by decide +kernel
theorem dX8_net_5 : decode cX8_net 5 = .ok (.invokevirtual 130, 3) := by decide +kernel
theorem dX8_net_8 : decode cX8_net 8 = .ok (.ifCond .ne 9, 3) := by decide +kernel
theorem dX8_net_11 : decode cX8_net 11 = .ok (.aload_n 0, 1) := by decide +kernel
theorem dX8_net_12 : decode cX8_net 12 = .ok (.iconst (-1), 1) := by decide +kernel
theorem dX8_net_13 : decode cX8_net 13 = .ok (.invokevirtual 79, 3) := by decide +kernel
theorem dX8_net_16 : decode cX8_net 16 = .ok (.ireturn, 1) := by decide +kernel
theorem dX8_net_17 : decode cX8_net 17 = .ok (.aload_n 0, 1) := by decide +kernel
theorem dX8_net_18 : decode cX8_net 18 = .ok (.getfield 34, 3) := by decide +kernel
theorem dX8_net_21 : decode cX8_net 21 = .ok (.iload_n 1, 1) := by decide +kernel
theorem dX8_net_22 : decode cX8_net 22 = .ok (.invokevirtual 160, 3) := by decide +kernel
theorem dX8_net_25 : decode cX8_net 25 = .ok (.aload_n 0, 1) := by decide +kernel
theorem dX8_net_26 : decode cX8_net 26 = .ok (.getfield 10, 3) := by decide +kernel
theorem dX8_net_29 : decode cX8_net 29 = .ok (.getfield 133, 3) := by decide +kernel
theorem dX8_net_32 : decode cX8_net 32 = .ok (.iload_n 1, 1) := by decide +kernel
theorem dX8_net_33 : decode cX8_net 33 = .ok (.aaload, 1) := by decide +kernel
theorem dX8_net_34 : decode cX8_net 34 = .ok (.iconst 4, 1) := by decide +kernel
theorem dX8_net_35 : decode cX8_net 35 = .ok (.iaload, 1) := by decide +kernel
theorem dX8_net_36 : decode cX8_net 36 = .ok (.aload_n 0, 1) := by decide +kernel
theorem dX8_net_37 : decode cX8_net 37 = .ok (.getfield 34, 3) := by decide +kernel
theorem dX8_net_40 : decode cX8_net 40 = .ok (.getfield 167, 3) := by decide +kernel
theorem dX8_net_43 : decode cX8_net 43 = .ok (.invokestatic 170, 3) := by decide +kernel
theorem dX8_net_46 : decode cX8_net 46 = .ok (.ireturn, 1) := by decide +kernel
theorem dX8_bars_0 : decode cX8_bars 0 = .ok (.aload_n 0, 1) := by decide +kernel
theorem dX8_bars_1 : decode cX8_bars 1 = .ok (.getfield 10, 3) := by decide +kernel
theorem dX8_bars_4 : decode cX8_bars 4 = .ok (.iload_n 1, 1) := by decide +kernel
theorem dX8_bars_5 : decode cX8_bars 5 = .ok (.invokevirtual 130, 3) := by decide +kernel
theorem dX8_bars_8 : decode cX8_bars 8 = .ok (.ifCond .ne 9, 3) := by decide +kernel
theorem dX8_bars_11 : decode cX8_bars 11 = .ok (.aload_n 0, 1) := by decide +kernel
theorem dX8_bars_12 : decode cX8_bars 12 = .ok (.iconst (-1), 1) := by decide +kernel
theorem dX8_bars_13 : decode cX8_bars 13 = .ok (.invokevirtual 79, 3) := by decide +kernel
theorem dX8_bars_16 : decode cX8_bars 16 = .ok (.ireturn, 1) := by decide +kernel
theorem dX8_bars_17 : decode cX8_bars 17 = .ok (.aload_n 0, 1) := by decide +kernel
theorem dX8_bars_18 : decode cX8_bars 18 = .ok (.getfield 57, 3) := by decide +kernel
theorem dX8_bars_21 : decode cX8_bars 21 = .ok (.iload_n 1, 1) := by decide +kernel
theorem dX8_bars_22 : decode cX8_bars 22 = .ok (.invokevirtual 173, 3) := by decide +kernel
theorem dX8_bars_25 : decode cX8_bars 25 = .ok (.istore_n 2, 1) := by decide +kernel
theorem dX8_bars_26 : decode cX8_bars 26 = .ok (.iload_n 2, 1) := by decide +kernel
theorem dX8_bars_27 : decode cX8_bars 27 = .ok (.bipush (-9), 2) := by decide +kernel
theorem dX8_bars_29 : decode cX8_bars 29 = .ok (.if_icmp .ne 12, 3) := by decide +kernel
theorem dX8_bars_32 : decode cX8_bars 32 = .ok (.aload_n 0, 1) := by decide +kernel
theorem dX8_bars_33 : decode cX8_bars 33 = .ok (.bipush (-3), 2) := by decide +kernel
theorem dX8_bars_35 : decode cX8_bars 35 = .ok (.invokevirtual 79, 3) := by decide +kernel
theorem dX8_bars_38 : decode cX8_bars 38 = .ok (.goto 4, 3) := by decide +kernel
theorem dX8_bars_41 : decode cX8_bars 41 = .ok (.iload_n 2, 1) := by decide +kernel
theorem dX8_bars_42 : decode cX8_bars 42 = .ok (.ireturn, 1) := by decide +kernel
theorem dX8_all_0 : decode cX8_all 0 = .ok (.aload_n 0, 1) := by decide +kernel
theorem dX8_all_1 : decode cX8_all 1 = .ok (.getfield 10, 3) := by decide +kernel
theorem dX8_all_4 : decode cX8_all 4 = .ok (.invokevirtual 176, 3) := by decide +kernel
theorem dX8_all_7 : decode cX8_all 7 = .ok (.iconst 3, 1) := by decide +kernel
theorem dX8_all_8 : decode cX8_all 8 = .ok (.if_icmp .le 10, 3) := by decide +kernel
theorem dX8_all_11 : decode cX8_all 11 = .ok (.aload_n 0, 1) := by decide +kernel
theorem dX8_all_12 : decode cX8_all 12 = .ok (.bipush (-6), 2) := by decide +kernel
theorem dX8_all_14 : decode cX8_all 14 = .ok (.invokevirtual 79, 3) := by decide +kernel
theorem dX8_all_17 : decode cX8_all 17 = .ok (.ireturn, 1) := by decide +kernel
theorem dX8_all_18 : decode cX8_all 18 = .ok (.aload_n 0, 1) := by decide +kernel
theorem dX8_all_19 : decode cX8_all 19 = .ok (.getfield 50, 3) := by decide +kernel
theorem dX8_all_22 : decode cX8_all 22 = .ok (.invokevirtual 179, 3) := by decide +kernel
theorem dX8_all_25 : decode cX8_all 25 = .ok (.aload_n 0, 1) := by decide +kernel
theorem dX8_all_26 : decode cX8_all 26 = .ok (.getfield 50, 3) := by decide +kernel
theorem dX8_all_29 : decode cX8_all 29 = .ok (.getfield 182, 3) := by decide +kernel
theorem dX8_all_32 : decode cX8_all 32 = .ok (.ireturn, 1) := by decide +kernel
theorem dX8_begin_0 : decode cX8_begin 0 = .ok (.aload_n 0, 1) := by decide +kernel
theorem dX8_begin_1 : decode cX8_begin 1 = .ok (.getfield 10, 3) := by decide +kernel
theorem dX8_begin_4 : decode cX8_begin 4 = .ok (.iload_n 1, 1) := by decide +kernel
theorem dX8_begin_5 : decode cX8_begin 5 = .ok (.invokevirtual 130, 3) := by decide +kernel
theorem dX8_begin_8 : decode cX8_begin 8 = .ok (.ifCond .ne 9, 3) := by decide +kernel
theorem dX8_begin_11 : decode cX8_begin 11 = .ok (.aload_n 0, 1) := by decide +kernel
theorem dX8_begin_12 : decode cX8_begin 12 = .ok (.iconst (-1), 1) := by decide +kernel
theorem dX8_begin_13 : decode cX8_begin 13 = .ok (.invokevirtual 79, 3) := by decide +kernel
theorem dX8_begin_16 : decode cX8_begin 16 = .ok (.ireturn, 1) := by decide +kernel
theorem dX8_begin_17 : decode cX8_begin 17 = .ok (.aload_n 0, 1) := by decide +kernel
theorem dX8_begin_18 : decode cX8_begin 18 = .ok (.getfield 10, 3) := by decide +kernel
theorem dX8_begin_21 : decode cX8_begin 21 = .ok (.invokevirtual 176, 3) := by decide +kernel
theorem dX8_begin_24 : decode cX8_begin 24 = .ok (.iconst 3, 1) := by decide +kernel
theorem dX8_begin_25 : decode cX8_begin 25 = .ok (.if_icmp .le 10, 3) := by decide +kernel
theorem dX8_begin_28 : decode cX8_begin 28 = .ok (.aload_n 0, 1) := by decide +kernel
theorem dX8_begin_29 : decode cX8_begin 29 = .ok (.bipush (-6), 2) := by decide +kernel
theorem dX8_begin_31 : decode cX8_begin 31 = .ok (.invokevirtual 79, 3) := by decide +kernel
theorem dX8_begin_34 : decode cX8_begin 34 = .ok (.ireturn, 1) := by decide +kernel
theorem dX8_begin_35 : decode cX8_begin 35 = .ok (.aload_n 0, 1) := by decide +kernel
theorem dX8_begin_36 : decode cX8_begin 36 = .ok (.getfield 50, 3) := by decide +kernel
theorem dX8_begin_39 : decode cX8_begin 39 = .ok (.invokevirtual 179, 3) := by decide +kernel
theorem dX8_begin_42 : decode cX8_begin 42 = .ok (.aload_n 0, 1) := by decide +kernel
theorem dX8_begin_43 : decode cX8_begin 43 = .ok (.getfield 50, 3) := by decide +kernel
theorem dX8_begin_46 : decode cX8_begin 46 = .ok (.iload_n 1, 1) := by decide +kernel
theorem dX8_begin_47 : decode cX8_begin 47 = .ok (.invokevirtual 185, 3) := by decide +kernel
theorem dX8_begin_50 : decode cX8_begin 50 = .ok (.ireturn, 1) := by decide +kernel
theorem dX8_ask_0 : decode cX8_ask 0 = .ok (.aload_n 0, 1) := by decide +kernel
theorem dX8_ask_1 : decode cX8_ask 1 = .ok (.getfield 10, 3) := by decide +kernel
theorem dX8_ask_4 : decode cX8_ask 4 = .ok (.iload_n 1, 1) := by decide +kernel
theorem dX8_ask_5 : decode cX8_ask 5 = .ok (.invokevirtual 102, 3) := by decide +kernel
theorem dX8_ask_8 : decode cX8_ask 8 = .ok (.ifCond .eq 14, 3) := by decide +kernel
theorem dX8_ask_11 : decode cX8_ask 11 = .ok (.aload_n 0, 1) := by decide +kernel
theorem dX8_ask_12 : decode cX8_ask 12 = .ok (.getfield 43, 3) := by decide +kernel
theorem dX8_ask_15 : decode cX8_ask 15 = .ok (.iload_n 1, 1) := by decide +kernel
theorem dX8_ask_16 : decode cX8_ask 16 = .ok (.invokevirtual 188, 3) := by decide +kernel
theorem dX8_ask_19 : decode cX8_ask 19 = .ok (.goto 8, 3) := by decide +kernel
theorem dX8_ask_22 : decode cX8_ask 22 = .ok (.aload_n 0, 1) := by decide +kernel
theorem dX8_ask_23 : decode cX8_ask 23 = .ok (.iconst (-1), 1) := by decide +kernel
theorem dX8_ask_24 : decode cX8_ask 24 = .ok (.invokevirtual 79, 3) := by decide +kernel
theorem dX8_ask_27 : decode cX8_ask 27 = .ok (.ireturn, 1) := by decide +kernel
theorem dX8_rest_0 : decode cX8_rest 0 = .ok (.aload_n 0, 1) := by decide +kernel
theorem dX8_rest_1 : decode cX8_rest 1 = .ok (.getfield 43, 3) := by decide +kernel
theorem dX8_rest_4 : decode cX8_rest 4 = .ok (.invokevirtual 191, 3) := by decide +kernel
theorem dX8_rest_7 : decode cX8_rest 7 = .ok (.ireturn, 1) := by decide +kernel
theorem dX8_stop_0 : decode cX8_stop 0 = .ok (.aload_n 0, 1) := by decide +kernel
theorem dX8_stop_1 : decode cX8_stop 1 = .ok (.getfield 10, 3) := by decide +kernel
theorem dX8_stop_4 : decode cX8_stop 4 = .ok (.iload_n 1, 1) := by decide +kernel
theorem dX8_stop_5 : decode cX8_stop 5 = .ok (.invokevirtual 130, 3) := by decide +kernel
theorem dX8_stop_8 : decode cX8_stop 8 = .ok (.ifCond .eq 14, 3) := by decide +kernel
theorem dX8_stop_11 : decode cX8_stop 11 = .ok (.aload_n 0, 1) := by decide +kernel
theorem dX8_stop_12 : decode cX8_stop 12 = .ok (.getfield 57, 3) := by decide +kernel
theorem dX8_stop_15 : decode cX8_stop 15 = .ok (.iload_n 1, 1) := by decide +kernel
theorem dX8_stop_16 : decode cX8_stop 16 = .ok (.invokevirtual 194, 3) := by decide +kernel
theorem dX8_stop_19 : decode cX8_stop 19 = .ok (.goto 8, 3) := by decide +kernel
theorem dX8_stop_22 : decode cX8_stop 22 = .ok (.aload_n 0, 1) := by decide +kernel
theorem dX8_stop_23 : decode cX8_stop 23 = .ok (.iconst (-1), 1) := by decide +kernel
theorem dX8_stop_24 : decode cX8_stop 24 = .ok (.invokevirtual 79, 3) := by decide +kernel
theorem dX8_stop_27 : decode cX8_stop 27 = .ok (.ireturn, 1) := by decide +kernel
theorem dX8_stopAll_0 : decode cX8_stopAll 0 = .ok (.aload_n 0, 1) := by decide +kernel
theorem dX8_stopAll_1 : decode cX8_stopAll 1 = .ok (.getfield 57, 3) := by decide +kernel
theorem dX8_stopAll_4 : decode cX8_stopAll 4 = .ok (.invokevirtual 197, 3) := by decide +kernel
theorem dX8_stopAll_7 : decode cX8_stopAll 7 = .ok (.ireturn, 1) := by decide +kernel
theorem dX8_power_0 : decode cX8_power 0 = .ok (.aload_n 0, 1) := by decide +kernel
theorem dX8_power_1 : decode cX8_power 1 = .ok (.getfield 10, 3) := by decide +kernel
theorem dX8_power_4 : decode cX8_power 4 = .ok (.iload_n 1, 1) := by decide +kernel
theorem dX8_power_5 : decode cX8_power 5 = .ok (.invokevirtual 102, 3) := by decide +kernel
theorem dX8_power_8 : decode cX8_power 8 = .ok (.ifCond .eq 29, 3) := by decide +kernel
theorem dX8_power_11 : decode cX8_power 11 = .ok (.aload_n 0, 1) := by decide +kernel
theorem dX8_power_12 : decode cX8_power 12 = .ok (.getfield 10, 3) := by decide +kernel
theorem dX8_power_15 : decode cX8_power 15 = .ok (.iload_n 2, 1) := by decide +kernel
theorem dX8_power_16 : decode cX8_power 16 = .ok (.invokevirtual 130, 3) := by decide +kernel
theorem dX8_power_19 : decode cX8_power 19 = .ok (.ifCond .eq 18, 3) := by decide +kernel
theorem dX8_power_22 : decode cX8_power 22 = .ok (.aload_n 0, 1) := by decide +kernel
theorem dX8_power_23 : decode cX8_power 23 = .ok (.getfield 10, 3) := by decide +kernel
theorem dX8_power_26 : decode cX8_power 26 = .ok (.getfield 133, 3) := by decide +kernel
theorem dX8_power_29 : decode cX8_power 29 = .ok (.iload_n 2, 1) := by decide +kernel
theorem dX8_power_30 : decode cX8_power 30 = .ok (.aaload, 1) := by decide +kernel
theorem dX8_power_31 : decode cX8_power 31 = .ok (.iconst 0, 1) := by decide +kernel
theorem dX8_power_32 : decode cX8_power 32 = .ok (.iaload, 1) := by decide +kernel
theorem dX8_power_33 : decode cX8_power 33 = .ok (.iload_n 1, 1) := by decide +kernel
theorem dX8_power_34 : decode cX8_power 34 = .ok (.if_icmp .ne 9, 3) := by decide +kernel
theorem dX8_power_37 : decode cX8_power 37 = .ok (.aload_n 0, 1) := by decide +kernel
theorem dX8_power_38 : decode cX8_power 38 = .ok (.iconst (-1), 1) := by decide +kernel
theorem dX8_power_39 : decode cX8_power 39 = .ok (.invokevirtual 79, 3) := by decide +kernel
theorem dX8_power_42 : decode cX8_power 42 = .ok (.ireturn, 1) := by decide +kernel
theorem dX8_power_43 : decode cX8_power 43 = .ok (.iload_n 3, 1) := by decide +kernel
theorem dX8_power_44 : decode cX8_power 44 = .ok (.ifCond .lt 8, 3) := by decide +kernel
theorem dX8_power_47 : decode cX8_power 47 = .ok (.iload_n 3, 1) := by decide +kernel
theorem dX8_power_48 : decode cX8_power 48 = .ok (.iconst 1, 1) := by decide +kernel
theorem dX8_power_49 : decode cX8_power 49 = .ok (.if_icmp .le 10, 3) := by decide +kernel
theorem dX8_power_52 : decode cX8_power 52 = .ok (.aload_n 0, 1) := by decide +kernel
theorem dX8_power_53 : decode cX8_power 53 = .ok (.bipush (-2), 2) := by decide +kernel
theorem dX8_power_55 : decode cX8_power 55 = .ok (.invokevirtual 79, 3) := by decide +kernel
theorem dX8_power_58 : decode cX8_power 58 = .ok (.ireturn, 1) := by decide +kernel
theorem dX8_power_59 : decode cX8_power 59 = .ok (.aload_n 0, 1) := by decide +kernel
theorem dX8_power_60 : decode cX8_power 60 = .ok (.getfield 10, 3) := by decide +kernel
theorem dX8_power_63 : decode cX8_power 63 = .ok (.getfield 200, 3) := by decide +kernel
theorem dX8_power_66 : decode cX8_power 66 = .ok (.bipush 6, 2) := by decide +kernel
theorem dX8_power_68 : decode cX8_power 68 = .ok (.if_icmp .le 10, 3) := by decide +kernel
theorem dX8_power_71 : decode cX8_power 71 = .ok (.aload_n 0, 1) := by decide +kernel
theorem dX8_power_72 : decode cX8_power 72 = .ok (.bipush (-6), 2) := by decide +kernel
theorem dX8_power_74 : decode cX8_power 74 = .ok (.invokevirtual 79, 3) := by decide +kernel
theorem dX8_power_77 : decode cX8_power 77 = .ok (.ireturn, 1) := by decide +kernel
theorem dX8_power_78 : decode cX8_power 78 = .ok (.aload_n 0, 1) := by decide +kernel
theorem dX8_power_79 : decode cX8_power 79 = .ok (.getfield 57, 3) := by decide +kernel
theorem dX8_power_82 : decode cX8_power 82 = .ok (.iload_n 1, 1) := by decide +kernel
theorem dX8_power_83 : decode cX8_power 83 = .ok (.iload_n 2, 1) := by decide +kernel
theorem dX8_power_84 : decode cX8_power 84 = .ok (.invokevirtual 203, 3) := by decide +kernel
theorem dX8_power_87 : decode cX8_power 87 = .ok (.istore 4, 2) := by decide +kernel
theorem dX8_power_89 : decode cX8_power 89 = .ok (.aload_n 0, 1) := by decide +kernel
theorem dX8_power_90 : decode cX8_power 90 = .ok (.getfield 57, 3) := by decide +kernel
theorem dX8_power_93 : decode cX8_power 93 = .ok (.invokevirtual 206, 3) := by decide +kernel
theorem dX8_power_96 : decode cX8_power 96 = .ok (.istore 5, 2) := by decide +kernel
theorem dX8_power_98 : decode cX8_power 98 = .ok (.iload 4, 2) := by decide +kernel
theorem dX8_power_100 : decode cX8_power 100 = .ok (.iload 5, 2) := by decide +kernel
theorem dX8_power_102 : decode cX8_power 102 = .ok (.invokestatic 209, 3) := by decide +kernel
theorem dX8_power_105 : decode cX8_power 105 = .ok (.istore 6, 2) := by decide +kernel
theorem dX8_power_107 : decode cX8_power 107 = .ok (.iload_n 3, 1) := by decide +kernel
theorem dX8_power_108 : decode cX8_power 108 = .ok (.ifCond .ne 8, 3) := by decide +kernel
theorem dX8_power_111 : decode cX8_power 111 = .ok (.iload 4, 2) := by decide +kernel
theorem dX8_power_113 : decode cX8_power 113 = .ok (.goto 5, 3) := by decide +kernel
theorem dX8_power_116 : decode cX8_power 116 = .ok (.iload 5, 2) := by decide +kernel
theorem dX8_power_118 : decode cX8_power 118 = .ok (.iconst 1, 1) := by decide +kernel
theorem dX8_power_119 : decode cX8_power 119 = .ok (.iload 6, 2) := by decide +kernel
theorem dX8_power_121 : decode cX8_power 121 = .ok (.invokestatic 212, 3) := by decide +kernel
theorem dX8_power_124 : decode cX8_power 124 = .ok (.idiv, 1) := by decide +kernel
theorem dX8_power_125 : decode cX8_power 125 = .ok (.ireturn, 1) := by decide +kernel
theorem dX8_wed_0 : decode cX8_wed 0 = .ok (.aload_n 0, 1) := by decide +kernel
theorem dX8_wed_1 : decode cX8_wed 1 = .ok (.getfield 10, 3) := by decide +kernel
theorem dX8_wed_4 : decode cX8_wed 4 = .ok (.iload_n 1, 1) := by decide +kernel
theorem dX8_wed_5 : decode cX8_wed 5 = .ok (.invokevirtual 102, 3) := by decide +kernel
theorem dX8_wed_8 : decode cX8_wed 8 = .ok (.ifCond .eq 14, 3) := by decide +kernel
theorem dX8_wed_11 : decode cX8_wed 11 = .ok (.aload_n 0, 1) := by decide +kernel
theorem dX8_wed_12 : decode cX8_wed 12 = .ok (.getfield 64, 3) := by decide +kernel
theorem dX8_wed_15 : decode cX8_wed 15 = .ok (.iload_n 1, 1) := by decide +kernel
theorem dX8_wed_16 : decode cX8_wed 16 = .ok (.invokevirtual 217, 3) := by decide +kernel
theorem dX8_wed_19 : decode cX8_wed 19 = .ok (.goto 8, 3) := by decide +kernel
theorem dX8_wed_22 : decode cX8_wed 22 = .ok (.aload_n 0, 1) := by decide +kernel
theorem dX8_wed_23 : decode cX8_wed 23 = .ok (.iconst (-1), 1) := by decide +kernel
theorem dX8_wed_24 : decode cX8_wed 24 = .ok (.invokevirtual 79, 3) := by decide +kernel
theorem dX8_wed_27 : decode cX8_wed 27 = .ok (.ireturn, 1) := by decide +kernel
theorem dX8_marry_0 : decode cX8_marry 0 = .ok (.aload_n 0, 1) := by decide +kernel
theorem dX8_marry_1 : decode cX8_marry 1 = .ok (.getfield 10, 3) := by decide +kernel
theorem dX8_marry_4 : decode cX8_marry 4 = .ok (.iload_n 1, 1) := by decide +kernel
theorem dX8_marry_5 : decode cX8_marry 5 = .ok (.invokevirtual 102, 3) := by decide +kernel
theorem dX8_marry_8 : decode cX8_marry 8 = .ok (.ifCond .eq 19, 3) := by decide +kernel
theorem dX8_marry_11 : decode cX8_marry 11 = .ok (.aload_n 0, 1) := by decide +kernel
theorem dX8_marry_12 : decode cX8_marry 12 = .ok (.getfield 10, 3) := by decide +kernel
theorem dX8_marry_15 : decode cX8_marry 15 = .ok (.iload_n 2, 1) := by decide +kernel
theorem dX8_marry_16 : decode cX8_marry 16 = .ok (.invokevirtual 102, 3) := by decide +kernel
theorem dX8_marry_19 : decode cX8_marry 19 = .ok (.ifCond .eq 8, 3) := by decide +kernel
theorem dX8_marry_22 : decode cX8_marry 22 = .ok (.iload_n 1, 1) := by decide +kernel
theorem dX8_marry_23 : decode cX8_marry 23 = .ok (.iload_n 2, 1) := by decide +kernel
theorem dX8_marry_24 : decode cX8_marry 24 = .ok (.if_icmp .ne 9, 3) := by decide +kernel
theorem dX8_marry_27 : decode cX8_marry 27 = .ok (.aload_n 0, 1) := by decide +kernel
theorem dX8_marry_28 : decode cX8_marry 28 = .ok (.iconst (-1), 1) := by decide +kernel
theorem dX8_marry_29 : decode cX8_marry 29 = .ok (.invokevirtual 79, 3) := by decide +kernel
theorem dX8_marry_32 : decode cX8_marry 32 = .ok (.ireturn, 1) := by decide +kernel
theorem dX8_marry_33 : decode cX8_marry 33 = .ok (.aload_n 0, 1) := by decide +kernel
theorem dX8_marry_34 : decode cX8_marry 34 = .ok (.getfield 10, 3) := by decide +kernel
theorem dX8_marry_37 : decode cX8_marry 37 = .ok (.iload_n 1, 1) := by decide +kernel
theorem dX8_marry_38 : decode cX8_marry 38 = .ok (.invokevirtual 220, 3) := by decide +kernel
theorem dX8_marry_41 : decode cX8_marry 41 = .ok (.aload_n 0, 1) := by decide +kernel
theorem dX8_marry_42 : decode cX8_marry 42 = .ok (.getfield 10, 3) := by decide +kernel
theorem dX8_marry_45 : decode cX8_marry 45 = .ok (.iload_n 2, 1) := by decide +kernel
theorem dX8_marry_46 : decode cX8_marry 46 = .ok (.invokevirtual 220, 3) := by decide +kernel
theorem dX8_marry_49 : decode cX8_marry 49 = .ok (.aload_n 0, 1) := by decide +kernel
theorem dX8_marry_50 : decode cX8_marry 50 = .ok (.getfield 10, 3) := by decide +kernel
theorem dX8_marry_53 : decode cX8_marry 53 = .ok (.getfield 223, 3) := by decide +kernel
theorem dX8_marry_56 : decode cX8_marry 56 = .ok (.iload_n 1, 1) := by decide +kernel
theorem dX8_marry_57 : decode cX8_marry 57 = .ok (.iload_n 2, 1) := by decide +kernel
theorem dX8_marry_58 : decode cX8_marry 58 = .ok (.iastore, 1) := by decide +kernel
theorem dX8_marry_59 : decode cX8_marry 59 = .ok (.aload_n 0, 1) := by decide +kernel
theorem dX8_marry_60 : decode cX8_marry 60 = .ok (.getfield 10, 3) := by decide +kernel
theorem dX8_marry_63 : decode cX8_marry 63 = .ok (.getfield 223, 3) := by decide +kernel
theorem dX8_marry_66 : decode cX8_marry 66 = .ok (.iload_n 2, 1) := by decide +kernel
theorem dX8_marry_67 : decode cX8_marry 67 = .ok (.iload_n 1, 1) := by decide +kernel
theorem dX8_marry_68 : decode cX8_marry 68 = .ok (.iastore, 1) := by decide +kernel
theorem dX8_marry_69 : decode cX8_marry 69 = .ok (.iconst 1, 1) := by decide +kernel
theorem dX8_marry_70 : decode cX8_marry 70 = .ok (.ireturn, 1) := by decide +kernel
theorem dX8_wedTo_0 : decode cX8_wedTo 0 = .ok (.aload_n 0, 1) := by decide +kernel
theorem dX8_wedTo_1 : decode cX8_wedTo 1 = .ok (.getfield 10, 3) := by decide +kernel
theorem dX8_wedTo_4 : decode cX8_wedTo 4 = .ok (.iload_n 1, 1) := by decide +kernel
theorem dX8_wedTo_5 : decode cX8_wedTo 5 = .ok (.invokevirtual 102, 3) := by decide +kernel
theorem dX8_wedTo_8 : decode cX8_wedTo 8 = .ok (.ifCond .eq 15, 3) := by decide +kernel
theorem dX8_wedTo_11 : decode cX8_wedTo 11 = .ok (.aload_n 0, 1) := by decide +kernel
theorem dX8_wedTo_12 : decode cX8_wedTo 12 = .ok (.getfield 10, 3) := by decide +kernel
theorem dX8_wedTo_15 : decode cX8_wedTo 15 = .ok (.getfield 223, 3) := by decide +kernel
theorem dX8_wedTo_18 : decode cX8_wedTo 18 = .ok (.iload_n 1, 1) := by decide +kernel
theorem dX8_wedTo_19 : decode cX8_wedTo 19 = .ok (.iaload, 1) := by decide +kernel
theorem dX8_wedTo_20 : decode cX8_wedTo 20 = .ok (.goto 8, 3) := by decide +kernel
theorem dX8_wedTo_23 : decode cX8_wedTo 23 = .ok (.aload_n 0, 1) := by decide +kernel
theorem dX8_wedTo_24 : decode cX8_wedTo 24 = .ok (.iconst (-1), 1) := by decide +kernel
theorem dX8_wedTo_25 : decode cX8_wedTo 25 = .ok (.invokevirtual 79, 3) := by decide +kernel
theorem dX8_wedTo_28 : decode cX8_wedTo 28 = .ok (.ireturn, 1) := by decide +kernel
theorem dX8_heirs_0 : decode cX8_heirs 0 = .ok (.iload_n 1, 1) := by decide +kernel
theorem dX8_heirs_1 : decode cX8_heirs 1 = .ok (.invokestatic 121, 3) := by decide +kernel
theorem dX8_heirs_4 : decode cX8_heirs 4 = .ok (.ifCond .ne 9, 3) := by decide +kernel
theorem dX8_heirs_7 : decode cX8_heirs 7 = .ok (.aload_n 0, 1) := by decide +kernel
theorem dX8_heirs_8 : decode cX8_heirs 8 = .ok (.iconst (-1), 1) := by decide +kernel
theorem dX8_heirs_9 : decode cX8_heirs 9 = .ok (.invokevirtual 79, 3) := by decide +kernel
theorem dX8_heirs_12 : decode cX8_heirs 12 = .ok (.ireturn, 1) := by decide +kernel
theorem dX8_heirs_13 : decode cX8_heirs 13 = .ok (.iload_n 2, 1) := by decide +kernel
theorem dX8_heirs_14 : decode cX8_heirs 14 = .ok (.sipush 9999, 3) := by decide +kernel
theorem dX8_heirs_17 : decode cX8_heirs 17 = .ok (.invokestatic 136, 3) := by decide +kernel
theorem dX8_heirs_20 : decode cX8_heirs 20 = .ok (.istore_n 3, 1) := by decide +kernel
theorem dX8_heirs_21 : decode cX8_heirs 21 = .ok (.iload_n 3, 1) := by decide +kernel
theorem dX8_heirs_22 : decode cX8_heirs 22 = .ok (.ifCond .eq 9, 3) := by decide +kernel
theorem dX8_heirs_25 : decode cX8_heirs 25 = .ok (.aload_n 0, 1) := by decide +kernel
theorem dX8_heirs_26 : decode cX8_heirs 26 = .ok (.iload_n 3, 1) := by decide +kernel
theorem dX8_heirs_27 : decode cX8_heirs 27 = .ok (.invokevirtual 79, 3) := by decide +kernel
theorem dX8_heirs_30 : decode cX8_heirs 30 = .ok (.ireturn, 1) := by decide +kernel
theorem dX8_heirs_31 : decode cX8_heirs 31 = .ok (.iconst 0, 1) := by decide +kernel
theorem dX8_heirs_32 : decode cX8_heirs 32 = .ok (.istore 4, 2) := by decide +kernel
theorem dX8_heirs_34 : decode cX8_heirs 34 = .ok (.iload 4, 2) := by decide +kernel
theorem dX8_heirs_36 : decode cX8_heirs 36 = .ok (.bipush 20, 2) := by decide +kernel
theorem dX8_heirs_38 : decode cX8_heirs 38 = .ok (.if_icmp .gt 28, 3) := by decide +kernel
theorem dX8_heirs_41 : decode cX8_heirs 41 = .ok (.aload_n 0, 1) := by decide +kernel
theorem dX8_heirs_42 : decode cX8_heirs 42 = .ok (.getfield 10, 3) := by decide +kernel
theorem dX8_heirs_45 : decode cX8_heirs 45 = .ok (.getfield 124, 3) := by decide +kernel
theorem dX8_heirs_48 : decode cX8_heirs 48 = .ok (.iload_n 1, 1) := by decide +kernel
theorem dX8_heirs_49 : decode cX8_heirs 49 = .ok (.iaload, 1) := by decide +kernel
theorem dX8_heirs_50 : decode cX8_heirs 50 = .ok (.iload 4, 2) := by decide +kernel
theorem dX8_heirs_52 : decode cX8_heirs 52 = .ok (.ishl, 1) := by decide +kernel
theorem dX8_heirs_53 : decode cX8_heirs 53 = .ok (.iload_n 2, 1) := by decide +kernel
theorem dX8_heirs_54 : decode cX8_heirs 54 = .ok (.if_icmp .le 6, 3) := by decide +kernel
theorem dX8_heirs_57 : decode cX8_heirs 57 = .ok (.iload 4, 2) := by decide +kernel
theorem dX8_heirs_59 : decode cX8_heirs 59 = .ok (.ireturn, 1) := by decide +kernel
theorem dX8_heirs_60 : decode cX8_heirs 60 = .ok (.iinc 4 1, 3) := by decide +kernel
theorem dX8_heirs_63 : decode cX8_heirs 63 = .ok (.goto (-29), 3) := by decide +kernel
theorem dX8_heirs_66 : decode cX8_heirs 66 = .ok (.bipush (-9), 2) := by decide +kernel
theorem dX8_heirs_68 : decode cX8_heirs 68 = .ok (.ireturn, 1) := by decide +kernel
theorem dX8_give_0 : decode cX8_give 0 = .ok (.aload_n 0, 1) := by decide +kernel
theorem dX8_give_1 : decode cX8_give 1 = .ok (.getfield 64, 3) := by decide +kernel
theorem dX8_give_4 : decode cX8_give 4 = .ok (.invokevirtual 226, 3) := by decide +kernel
theorem dX8_give_7 : decode cX8_give 7 = .ok (.ireturn, 1) := by decide +kernel
theorem dX8_together_0 : decode cX8_together 0 = .ok (.aload_n 0, 1) := by decide +kernel
theorem dX8_together_1 : decode cX8_together 1 = .ok (.getfield 10, 3) := by decide +kernel
theorem dX8_together_4 : decode cX8_together 4 = .ok (.iload_n 1, 1) := by decide +kernel
theorem dX8_together_5 : decode cX8_together 5 = .ok (.invokevirtual 102, 3) := by decide +kernel
theorem dX8_together_8 : decode cX8_together 8 = .ok (.ifCond .eq 19, 3) := by decide +kernel
theorem dX8_together_11 : decode cX8_together 11 = .ok (.aload_n 0, 1) := by decide +kernel
theorem dX8_together_12 : decode cX8_together 12 = .ok (.getfield 10, 3) := by decide +kernel
theorem dX8_together_15 : decode cX8_together 15 = .ok (.iload_n 2, 1) := by decide +kernel
theorem dX8_together_16 : decode cX8_together 16 = .ok (.invokevirtual 102, 3) := by decide +kernel
theorem dX8_together_19 : decode cX8_together 19 = .ok (.ifCond .eq 8, 3) := by decide +kernel
theorem dX8_together_22 : decode cX8_together 22 = .ok (.iload_n 1, 1) := by decide +kernel
theorem dX8_together_23 : decode cX8_together 23 = .ok (.iload_n 2, 1) := by decide +kernel
theorem dX8_together_24 : decode cX8_together 24 = .ok (.if_icmp .ne 9, 3) := by decide +kernel
theorem dX8_together_27 : decode cX8_together 27 = .ok (.aload_n 0, 1) := by decide +kernel
theorem dX8_together_28 : decode cX8_together 28 = .ok (.iconst (-1), 1) := by decide +kernel
theorem dX8_together_29 : decode cX8_together 29 = .ok (.invokevirtual 79, 3) := by decide +kernel
theorem dX8_together_32 : decode cX8_together 32 = .ok (.ireturn, 1) := by decide +kernel
theorem dX8_together_33 : decode cX8_together 33 = .ok (.aload_n 0, 1) := by decide +kernel
theorem dX8_together_34 : decode cX8_together 34 = .ok (.getfield 10, 3) := by decide +kernel
theorem dX8_together_37 : decode cX8_together 37 = .ok (.getfield 106, 3) := by decide +kernel
theorem dX8_together_40 : decode cX8_together 40 = .ok (.iload_n 1, 1) := by decide +kernel
theorem dX8_together_41 : decode cX8_together 41 = .ok (.iaload, 1) := by decide +kernel
theorem dX8_together_42 : decode cX8_together 42 = .ok (.aload_n 0, 1) := by decide +kernel
theorem dX8_together_43 : decode cX8_together 43 = .ok (.getfield 10, 3) := by decide +kernel
theorem dX8_together_46 : decode cX8_together 46 = .ok (.getfield 106, 3) := by decide +kernel
theorem dX8_together_49 : decode cX8_together 49 = .ok (.iload_n 2, 1) := by decide +kernel
theorem dX8_together_50 : decode cX8_together 50 = .ok (.iaload, 1) := by decide +kernel
theorem dX8_together_51 : decode cX8_together 51 = .ok (.iand, 1) := by decide +kernel
theorem dX8_together_52 : decode cX8_together 52 = .ok (.invokestatic 109, 3) := by decide +kernel
theorem dX8_together_55 : decode cX8_together 55 = .ok (.ireturn, 1) := by decide +kernel
theorem dX8_season_0 : decode cX8_season 0 = .ok (.iload_n 1, 1) := by decide +kernel
theorem dX8_season_1 : decode cX8_season 1 = .ok (.ifCond .lt 8, 3) := by decide +kernel
theorem dX8_season_4 : decode cX8_season 4 = .ok (.iload_n 1, 1) := by decide +kernel
theorem dX8_season_5 : decode cX8_season 5 = .ok (.iconst 4, 1) := by decide +kernel
theorem dX8_season_6 : decode cX8_season 6 = .ok (.if_icmp .lt 9, 3) := by decide +kernel
theorem dX8_season_9 : decode cX8_season 9 = .ok (.aload_n 0, 1) := by decide +kernel
theorem dX8_season_10 : decode cX8_season 10 = .ok (.iconst (-1), 1) := by decide +kernel
theorem dX8_season_11 : decode cX8_season 11 = .ok (.invokevirtual 79, 3) := by decide +kernel
theorem dX8_season_14 : decode cX8_season 14 = .ok (.ireturn, 1) := by decide +kernel
theorem dX8_season_15 : decode cX8_season 15 = .ok (.iload_n 2, 1) := by decide +kernel
theorem dX8_season_16 : decode cX8_season 16 = .ok (.sipush 300, 3) := by decide +kernel
theorem dX8_season_19 : decode cX8_season 19 = .ok (.invokestatic 136, 3) := by decide +kernel
theorem dX8_season_22 : decode cX8_season 22 = .ok (.istore_n 3, 1) := by decide +kernel
theorem dX8_season_23 : decode cX8_season 23 = .ok (.iload_n 3, 1) := by decide +kernel
theorem dX8_season_24 : decode cX8_season 24 = .ok (.ifCond .eq 9, 3) := by decide +kernel
theorem dX8_season_27 : decode cX8_season 27 = .ok (.aload_n 0, 1) := by decide +kernel
theorem dX8_season_28 : decode cX8_season 28 = .ok (.iload_n 3, 1) := by decide +kernel
theorem dX8_season_29 : decode cX8_season 29 = .ok (.invokevirtual 79, 3) := by decide +kernel
theorem dX8_season_32 : decode cX8_season 32 = .ok (.ireturn, 1) := by decide +kernel
theorem dX8_season_33 : decode cX8_season 33 = .ok (.aload_n 0, 1) := by decide +kernel
theorem dX8_season_34 : decode cX8_season 34 = .ok (.getfield 10, 3) := by decide +kernel
theorem dX8_season_37 : decode cX8_season 37 = .ok (.getfield 229, 3) := by decide +kernel
theorem dX8_season_40 : decode cX8_season 40 = .ok (.iload_n 1, 1) := by decide +kernel
theorem dX8_season_41 : decode cX8_season 41 = .ok (.iaload, 1) := by decide +kernel
theorem dX8_season_42 : decode cX8_season 42 = .ok (.istore 4, 2) := by decide +kernel
theorem dX8_season_44 : decode cX8_season 44 = .ok (.aload_n 0, 1) := by decide +kernel
theorem dX8_season_45 : decode cX8_season 45 = .ok (.getfield 10, 3) := by decide +kernel
theorem dX8_season_48 : decode cX8_season 48 = .ok (.getfield 229, 3) := by decide +kernel
theorem dX8_season_51 : decode cX8_season 51 = .ok (.iload_n 1, 1) := by decide +kernel
theorem dX8_season_52 : decode cX8_season 52 = .ok (.iload_n 2, 1) := by decide +kernel
theorem dX8_season_53 : decode cX8_season 53 = .ok (.iastore, 1) := by decide +kernel
theorem dX8_season_54 : decode cX8_season 54 = .ok (.iload 4, 2) := by decide +kernel
theorem dX8_season_56 : decode cX8_season 56 = .ok (.ireturn, 1) := by decide +kernel
theorem dX8_year_0 : decode cX8_year 0 = .ok (.aload_n 0, 1) := by decide +kernel
theorem dX8_year_1 : decode cX8_year 1 = .ok (.getfield 64, 3) := by decide +kernel
theorem dX8_year_4 : decode cX8_year 4 = .ok (.invokevirtual 232, 3) := by decide +kernel
theorem dX8_year_7 : decode cX8_year 7 = .ok (.ireturn, 1) := by decide +kernel
theorem dX8_years_0 : decode cX8_years 0 = .ok (.iload_n 1, 1) := by decide +kernel
theorem dX8_years_1 : decode cX8_years 1 = .ok (.iconst 1, 1) := by decide +kernel
theorem dX8_years_2 : decode cX8_years 2 = .ok (.if_icmp .ge 10, 3) := by decide +kernel
theorem dX8_years_5 : decode cX8_years 5 = .ok (.aload_n 0, 1) := by decide +kernel
theorem dX8_years_6 : decode cX8_years 6 = .ok (.bipush (-4), 2) := by decide +kernel
theorem dX8_years_8 : decode cX8_years 8 = .ok (.invokevirtual 79, 3) := by decide +kernel
theorem dX8_years_11 : decode cX8_years 11 = .ok (.ireturn, 1) := by decide +kernel
theorem dX8_years_12 : decode cX8_years 12 = .ok (.iload_n 1, 1) := by decide +kernel
theorem dX8_years_13 : decode cX8_years 13 = .ok (.bipush 10, 2) := by decide +kernel
theorem dX8_years_15 : decode cX8_years 15 = .ok (.if_icmp .le 10, 3) := by decide +kernel
theorem dX8_years_18 : decode cX8_years 18 = .ok (.aload_n 0, 1) := by decide +kernel
theorem dX8_years_19 : decode cX8_years 19 = .ok (.bipush (-6), 2) := by decide +kernel
theorem dX8_years_21 : decode cX8_years 21 = .ok (.invokevirtual 79, 3) := by decide +kernel
theorem dX8_years_24 : decode cX8_years 24 = .ok (.ireturn, 1) := by decide +kernel
theorem dX8_years_25 : decode cX8_years 25 = .ok (.aload_n 0, 1) := by decide +kernel
theorem dX8_years_26 : decode cX8_years 26 = .ok (.getfield 64, 3) := by decide +kernel
theorem dX8_years_29 : decode cX8_years 29 = .ok (.iload_n 1, 1) := by decide +kernel
theorem dX8_years_30 : decode cX8_years 30 = .ok (.iload_n 2, 1) := by decide +kernel
theorem dX8_years_31 : decode cX8_years 31 = .ok (.invokevirtual 235, 3) := by decide +kernel
theorem dX8_years_34 : decode cX8_years 34 = .ok (.ireturn, 1) := by decide +kernel
theorem dX8_row_0 : decode cX8_row 0 = .ok (.iload_n 1, 1) := by decide +kernel
theorem dX8_row_1 : decode cX8_row 1 = .ok (.ifCond .ge 10, 3) := by decide +kernel
theorem dX8_row_4 : decode cX8_row 4 = .ok (.aload_n 0, 1) := by decide +kernel
theorem dX8_row_5 : decode cX8_row 5 = .ok (.bipush (-4), 2) := by decide +kernel
theorem dX8_row_7 : decode cX8_row 7 = .ok (.invokevirtual 79, 3) := by decide +kernel
theorem dX8_row_10 : decode cX8_row 10 = .ok (.ireturn, 1) := by decide +kernel
theorem dX8_row_11 : decode cX8_row 11 = .ok (.iload_n 1, 1) := by decide +kernel
theorem dX8_row_12 : decode cX8_row 12 = .ok (.bipush 9, 2) := by decide +kernel
theorem dX8_row_14 : decode cX8_row 14 = .ok (.if_icmp .gt 15, 3) := by decide +kernel
theorem dX8_row_17 : decode cX8_row 17 = .ok (.aload_n 0, 1) := by decide +kernel
theorem dX8_row_18 : decode cX8_row 18 = .ok (.getfield 71, 3) := by decide +kernel
theorem dX8_row_21 : decode cX8_row 21 = .ok (.getfield 238, 3) := by decide +kernel
theorem dX8_row_24 : decode cX8_row 24 = .ok (.bipush 28, 2) := by decide +kernel
theorem dX8_row_26 : decode cX8_row 26 = .ok (.if_icmp .lt 10, 3) := by decide +kernel
theorem dX8_row_29 : decode cX8_row 29 = .ok (.aload_n 0, 1) := by decide +kernel
theorem dX8_row_30 : decode cX8_row 30 = .ok (.bipush (-6), 2) := by decide +kernel
theorem dX8_row_32 : decode cX8_row 32 = .ok (.invokevirtual 79, 3) := by decide +kernel
theorem dX8_row_35 : decode cX8_row 35 = .ok (.ireturn, 1) := by decide +kernel
theorem dX8_row_36 : decode cX8_row 36 = .ok (.aload_n 0, 1) := by decide +kernel
theorem dX8_row_37 : decode cX8_row 37 = .ok (.getfield 71, 3) := by decide +kernel
theorem dX8_row_40 : decode cX8_row 40 = .ok (.iload_n 1, 1) := by decide +kernel
theorem dX8_row_41 : decode cX8_row 41 = .ok (.invokevirtual 239, 3) := by decide +kernel
theorem dX8_row_44 : decode cX8_row 44 = .ok (.aload_n 0, 1) := by decide +kernel
theorem dX8_row_45 : decode cX8_row 45 = .ok (.getfield 71, 3) := by decide +kernel
theorem dX8_row_48 : decode cX8_row 48 = .ok (.getfield 238, 3) := by decide +kernel
theorem dX8_row_51 : decode cX8_row 51 = .ok (.ireturn, 1) := by decide +kernel
theorem dX8_judge_0 : decode cX8_judge 0 = .ok (.iload_n 1, 1) := by decide +kernel
theorem dX8_judge_1 : decode cX8_judge 1 = .ok (.ifCond .lt 8, 3) := by decide +kernel
theorem dX8_judge_4 : decode cX8_judge 4 = .ok (.iload_n 1, 1) := by decide +kernel
theorem dX8_judge_5 : decode cX8_judge 5 = .ok (.iconst 1, 1) := by decide +kernel
theorem dX8_judge_6 : decode cX8_judge 6 = .ok (.if_icmp .le 10, 3) := by decide +kernel
theorem dX8_judge_9 : decode cX8_judge 9 = .ok (.aload_n 0, 1) := by decide +kernel
theorem dX8_judge_10 : decode cX8_judge 10 = .ok (.bipush (-2), 2) := by decide +kernel
theorem dX8_judge_12 : decode cX8_judge 12 = .ok (.invokevirtual 79, 3) := by decide +kernel
theorem dX8_judge_15 : decode cX8_judge 15 = .ok (.ireturn, 1) := by decide +kernel
theorem dX8_judge_16 : decode cX8_judge 16 = .ok (.iload_n 1, 1) := by decide +kernel
theorem dX8_judge_17 : decode cX8_judge 17 = .ok (.ifCond .ne 13, 3) := by decide +kernel
theorem dX8_judge_20 : decode cX8_judge 20 = .ok (.aload_n 0, 1) := by decide +kernel
theorem dX8_judge_21 : decode cX8_judge 21 = .ok (.getfield 71, 3) := by decide +kernel
theorem dX8_judge_24 : decode cX8_judge 24 = .ok (.invokevirtual 241, 3) := by decide +kernel
theorem dX8_judge_27 : decode cX8_judge 27 = .ok (.goto 10, 3) := by decide +kernel
theorem dX8_judge_30 : decode cX8_judge 30 = .ok (.aload_n 0, 1) := by decide +kernel
theorem dX8_judge_31 : decode cX8_judge 31 = .ok (.getfield 71, 3) := by decide +kernel
theorem dX8_judge_34 : decode cX8_judge 34 = .ok (.invokevirtual 244, 3) := by decide +kernel
theorem dX8_judge_37 : decode cX8_judge 37 = .ok (.istore_n 2, 1) := by decide +kernel
theorem dX8_judge_38 : decode cX8_judge 38 = .ok (.aload_n 0, 1) := by decide +kernel
theorem dX8_judge_39 : decode cX8_judge 39 = .ok (.getfield 71, 3) := by decide +kernel
theorem dX8_judge_42 : decode cX8_judge 42 = .ok (.iconst 0, 1) := by decide +kernel
theorem dX8_judge_43 : decode cX8_judge 43 = .ok (.putfield 238, 3) := by decide +kernel
theorem dX8_judge_46 : decode cX8_judge 46 = .ok (.iload_n 2, 1) := by decide +kernel
theorem dX8_judge_47 : decode cX8_judge 47 = .ok (.ireturn, 1) := by decide +kernel
theorem dX8_image_0 : decode cX8_image 0 = .ok (.aload_n 0, 1) := by decide +kernel
theorem dX8_image_1 : decode cX8_image 1 = .ok (.getfield 19, 3) := by decide +kernel
theorem dX8_image_4 : decode cX8_image 4 = .ok (.aload_n 0, 1) := by decide +kernel
theorem dX8_image_5 : decode cX8_image 5 = .ok (.getfield 10, 3) := by decide +kernel
theorem dX8_image_8 : decode cX8_image 8 = .ok (.invokevirtual 95, 3) := by decide +kernel
theorem dX8_image_11 : decode cX8_image 11 = .ok (.aload_n 0, 1) := by decide +kernel
theorem dX8_image_12 : decode cX8_image 12 = .ok (.iconst 1, 1) := by decide +kernel
theorem dX8_image_13 : decode cX8_image 13 = .ok (.putfield 247, 3) := by decide +kernel
theorem dX8_image_16 : decode cX8_image 16 = .ok (.aload_n 0, 1) := by decide +kernel
theorem dX8_image_17 : decode cX8_image 17 = .ok (.getfield 19, 3) := by decide +kernel
theorem dX8_image_20 : decode cX8_image 20 = .ok (.getfield 200, 3) := by decide +kernel
theorem dX8_image_23 : decode cX8_image 23 = .ok (.ireturn, 1) := by decide +kernel
theorem dX8_on_0 : decode cX8_on 0 = .ok (.aload_n 0, 1) := by decide +kernel
theorem dX8_on_1 : decode cX8_on 1 = .ok (.getfield 247, 3) := by decide +kernel
theorem dX8_on_4 : decode cX8_on 4 = .ok (.ifCond .ne 10, 3) := by decide +kernel
theorem dX8_on_7 : decode cX8_on 7 = .ok (.aload_n 0, 1) := by decide +kernel
theorem dX8_on_8 : decode cX8_on 8 = .ok (.bipush (-3), 2) := by decide +kernel
theorem dX8_on_10 : decode cX8_on 10 = .ok (.invokevirtual 79, 3) := by decide +kernel
theorem dX8_on_13 : decode cX8_on 13 = .ok (.ireturn, 1) := by decide +kernel
theorem dX8_on_14 : decode cX8_on 14 = .ok (.aload_n 0, 1) := by decide +kernel
theorem dX8_on_15 : decode cX8_on 15 = .ok (.getfield 10, 3) := by decide +kernel
theorem dX8_on_18 : decode cX8_on 18 = .ok (.aload_n 0, 1) := by decide +kernel
theorem dX8_on_19 : decode cX8_on 19 = .ok (.getfield 19, 3) := by decide +kernel
theorem dX8_on_22 : decode cX8_on 22 = .ok (.invokevirtual 95, 3) := by decide +kernel
theorem dX8_on_25 : decode cX8_on 25 = .ok (.aload_n 0, 1) := by decide +kernel
theorem dX8_on_26 : decode cX8_on 26 = .ok (.getfield 10, 3) := by decide +kernel
theorem dX8_on_29 : decode cX8_on 29 = .ok (.getfield 200, 3) := by decide +kernel
theorem dX8_on_32 : decode cX8_on 32 = .ok (.ireturn, 1) := by decide +kernel
theorem dX8_count_0 : decode cX8_count 0 = .ok (.iload_n 1, 1) := by decide +kernel
theorem dX8_count_1 : decode cX8_count 1 = .ok (.tableswitch 102 0 6 #[43, 51, 59, 67, 75, 86, 94], 43) := by decide +kernel
theorem dX8_count_44 : decode cX8_count 44 = .ok (.aload_n 0, 1) := by decide +kernel
theorem dX8_count_45 : decode cX8_count 45 = .ok (.getfield 10, 3) := by decide +kernel
theorem dX8_count_48 : decode cX8_count 48 = .ok (.getfield 200, 3) := by decide +kernel
theorem dX8_count_51 : decode cX8_count 51 = .ok (.ireturn, 1) := by decide +kernel
theorem dX8_count_52 : decode cX8_count 52 = .ok (.aload_n 0, 1) := by decide +kernel
theorem dX8_count_53 : decode cX8_count 53 = .ok (.getfield 10, 3) := by decide +kernel
theorem dX8_count_56 : decode cX8_count 56 = .ok (.getfield 251, 3) := by decide +kernel
theorem dX8_count_59 : decode cX8_count 59 = .ok (.ireturn, 1) := by decide +kernel
theorem dX8_count_60 : decode cX8_count 60 = .ok (.aload_n 0, 1) := by decide +kernel
theorem dX8_count_61 : decode cX8_count 61 = .ok (.getfield 10, 3) := by decide +kernel
theorem dX8_count_64 : decode cX8_count 64 = .ok (.invokevirtual 254, 3) := by decide +kernel
theorem dX8_count_67 : decode cX8_count 67 = .ok (.ireturn, 1) := by decide +kernel
theorem dX8_count_68 : decode cX8_count 68 = .ok (.aload_n 0, 1) := by decide +kernel
theorem dX8_count_69 : decode cX8_count 69 = .ok (.getfield 10, 3) := by decide +kernel
theorem dX8_count_72 : decode cX8_count 72 = .ok (.invokevirtual 257, 3) := by decide +kernel
theorem dX8_count_75 : decode cX8_count 75 = .ok (.ireturn, 1) := by decide +kernel
theorem dX8_count_76 : decode cX8_count 76 = .ok (.aload_n 0, 1) := by decide +kernel
theorem dX8_count_77 : decode cX8_count 77 = .ok (.getfield 10, 3) := by decide +kernel
theorem dX8_count_80 : decode cX8_count 80 = .ok (.getfield 143, 3) := by decide +kernel
theorem dX8_count_83 : decode cX8_count 83 = .ok (.invokestatic 109, 3) := by decide +kernel
theorem dX8_count_86 : decode cX8_count 86 = .ok (.ireturn, 1) := by decide +kernel
theorem dX8_count_87 : decode cX8_count 87 = .ok (.aload_n 0, 1) := by decide +kernel
theorem dX8_count_88 : decode cX8_count 88 = .ok (.getfield 71, 3) := by decide +kernel
theorem dX8_count_91 : decode cX8_count 91 = .ok (.getfield 238, 3) := by decide +kernel
theorem dX8_count_94 : decode cX8_count 94 = .ok (.ireturn, 1) := by decide +kernel
theorem dX8_count_95 : decode cX8_count 95 = .ok (.aload_n 0, 1) := by decide +kernel
theorem dX8_count_96 : decode cX8_count 96 = .ok (.getfield 25, 3) := by decide +kernel
theorem dX8_count_99 : decode cX8_count 99 = .ok (.getfield 83, 3) := by decide +kernel
theorem dX8_count_102 : decode cX8_count 102 = .ok (.ireturn, 1) := by decide +kernel
theorem dX8_count_103 : decode cX8_count 103 = .ok (.iload_n 1, 1) := by decide +kernel
theorem dX8_count_104 : decode cX8_count 104 = .ok (.bipush 10, 2) := by decide +kernel
theorem dX8_count_106 : decode cX8_count 106 = .ok (.if_icmp .le 21, 3) := by decide +kernel
theorem dX8_count_109 : decode cX8_count 109 = .ok (.iload_n 1, 1) := by decide +kernel
theorem dX8_count_110 : decode cX8_count 110 = .ok (.bipush 16, 2) := by decide +kernel
theorem dX8_count_112 : decode cX8_count 112 = .ok (.if_icmp .gt 15, 3) := by decide +kernel
theorem dX8_count_115 : decode cX8_count 115 = .ok (.aload_n 0, 1) := by decide +kernel
theorem dX8_count_116 : decode cX8_count 116 = .ok (.getfield 75, 3) := by decide +kernel
theorem dX8_count_119 : decode cX8_count 119 = .ok (.iload_n 1, 1) := by decide +kernel
theorem dX8_count_120 : decode cX8_count 120 = .ok (.bipush 10, 2) := by decide +kernel
theorem dX8_count_122 : decode cX8_count 122 = .ok (.isub, 1) := by decide +kernel
theorem dX8_count_123 : decode cX8_count 123 = .ok (.iaload, 1) := by decide +kernel
theorem dX8_count_124 : decode cX8_count 124 = .ok (.goto 5, 3) := by decide +kernel
theorem dX8_count_127 : decode cX8_count 127 = .ok (.bipush (-9), 2) := by decide +kernel
theorem dX8_count_129 : decode cX8_count 129 = .ok (.ireturn, 1) := by decide +kernel
theorem dX8_refuse_0 : decode cX8_refuse 0 = .ok (.iload_n 1, 1) := by decide +kernel
theorem dX8_refuse_1 : decode cX8_refuse 1 = .ok (.ifCond .ge 20, 3) := by decide +kernel
theorem dX8_refuse_4 : decode cX8_refuse 4 = .ok (.iload_n 1, 1) := by decide +kernel
theorem dX8_refuse_5 : decode cX8_refuse 5 = .ok (.bipush (-6), 2) := by decide +kernel
theorem dX8_refuse_7 : decode cX8_refuse 7 = .ok (.if_icmp .lt 14, 3) := by decide +kernel
theorem dX8_refuse_10 : decode cX8_refuse 10 = .ok (.aload_n 0, 1) := by decide +kernel
theorem dX8_refuse_11 : decode cX8_refuse 11 = .ok (.getfield 75, 3) := by decide +kernel
theorem dX8_refuse_14 : decode cX8_refuse 14 = .ok (.iload_n 1, 1) := by decide +kernel
theorem dX8_refuse_15 : decode cX8_refuse 15 = .ok (.ineg, 1) := by decide +kernel
theorem dX8_refuse_16 : decode cX8_refuse 16 = .ok (.dup2, 1) := by decide +kernel
theorem dX8_refuse_17 : decode cX8_refuse 17 = .ok (.iaload, 1) := by decide +kernel
theorem dX8_refuse_18 : decode cX8_refuse 18 = .ok (.iconst 1, 1) := by decide +kernel
theorem dX8_refuse_19 : decode cX8_refuse 19 = .ok (.iadd, 1) := by decide +kernel
theorem dX8_refuse_20 : decode cX8_refuse 20 = .ok (.iastore, 1) := by decide +kernel
theorem dX8_refuse_21 : decode cX8_refuse 21 = .ok (.iload_n 1, 1) := by decide +kernel
theorem dX8_refuse_22 : decode cX8_refuse 22 = .ok (.ireturn, 1) := by decide +kernel
theorem dX8_outside_0 : decode cX8_outside 0 = .ok (.iload_n 0, 1) := by decide +kernel
theorem dX8_outside_1 : decode cX8_outside 1 = .ok (.ifCond .ge 6, 3) := by decide +kernel
theorem dX8_outside_4 : decode cX8_outside 4 = .ok (.bipush (-4), 2) := by decide +kernel
theorem dX8_outside_6 : decode cX8_outside 6 = .ok (.ireturn, 1) := by decide +kernel
theorem dX8_outside_7 : decode cX8_outside 7 = .ok (.iload_n 0, 1) := by decide +kernel
theorem dX8_outside_8 : decode cX8_outside 8 = .ok (.iload_n 1, 1) := by decide +kernel
theorem dX8_outside_9 : decode cX8_outside 9 = .ok (.if_icmp .le 8, 3) := by decide +kernel
theorem dX8_outside_12 : decode cX8_outside 12 = .ok (.bipush (-6), 2) := by decide +kernel
theorem dX8_outside_14 : decode cX8_outside 14 = .ok (.goto 4, 3) := by decide +kernel
theorem dX8_outside_17 : decode cX8_outside 17 = .ok (.iconst 0, 1) := by decide +kernel
theorem dX8_outside_18 : decode cX8_outside 18 = .ok (.ireturn, 1) := by decide +kernel
theorem dX8_isHour_0 : decode cX8_isHour 0 = .ok (.iload_n 0, 1) := by decide +kernel
theorem dX8_isHour_1 : decode cX8_isHour 1 = .ok (.ifCond .lt 13, 3) := by decide +kernel
theorem dX8_isHour_4 : decode cX8_isHour 4 = .ok (.iload_n 0, 1) := by decide +kernel
theorem dX8_isHour_5 : decode cX8_isHour 5 = .ok (.bipush 28, 2) := by decide +kernel
theorem dX8_isHour_7 : decode cX8_isHour 7 = .ok (.if_icmp .ge 7, 3) := by decide +kernel
theorem dX8_isHour_10 : decode cX8_isHour 10 = .ok (.iconst 1, 1) := by decide +kernel
theorem dX8_isHour_11 : decode cX8_isHour 11 = .ok (.goto 4, 3) := by decide +kernel
theorem dX8_isHour_14 : decode cX8_isHour 14 = .ok (.iconst 0, 1) := by decide +kernel
theorem dX8_isHour_15 : decode cX8_isHour 15 = .ok (.ireturn, 1) := by decide +kernel
theorem dX8_isIn_0 : decode cX8_isIn 0 = .ok (.iload_n 0, 1) := by decide +kernel
theorem dX8_isIn_1 : decode cX8_isIn 1 = .ok (.iload_n 1, 1) := by decide +kernel
theorem dX8_isIn_2 : decode cX8_isIn 2 = .ok (.ishr, 1) := by decide +kernel
theorem dX8_isIn_3 : decode cX8_isIn 3 = .ok (.iconst 1, 1) := by decide +kernel
theorem dX8_isIn_4 : decode cX8_isIn 4 = .ok (.iand, 1) := by decide +kernel
theorem dX8_isIn_5 : decode cX8_isIn 5 = .ok (.iconst 1, 1) := by decide +kernel
theorem dX8_isIn_6 : decode cX8_isIn 6 = .ok (.if_icmp .ne 7, 3) := by decide +kernel
theorem dX8_isIn_9 : decode cX8_isIn 9 = .ok (.iconst 1, 1) := by decide +kernel
theorem dX8_isIn_10 : decode cX8_isIn 10 = .ok (.goto 4, 3) := by decide +kernel
theorem dX8_isIn_13 : decode cX8_isIn 13 = .ok (.iconst 0, 1) := by decide +kernel
theorem dX8_isIn_14 : decode cX8_isIn 14 = .ok (.ireturn, 1) := by decide +kernel
theorem dX8_netOf_0 : decode cX8_netOf 0 = .ok (.iload_n 1, 1) := by decide +kernel
theorem dX8_netOf_1 : decode cX8_netOf 1 = .ok (.bipush (-9), 2) := by decide +kernel
theorem dX8_netOf_3 : decode cX8_netOf 3 = .ok (.if_icmp .eq 8, 3) := by decide +kernel
theorem dX8_netOf_6 : decode cX8_netOf 6 = .ok (.iload_n 0, 1) := by decide +kernel
theorem dX8_netOf_7 : decode cX8_netOf 7 = .ok (.iload_n 1, 1) := by decide +kernel
theorem dX8_netOf_8 : decode cX8_netOf 8 = .ok (.if_icmp .ge 8, 3) := by decide +kernel
theorem dX8_netOf_11 : decode cX8_netOf 11 = .ok (.bipush (-9), 2) := by decide +kernel
theorem dX8_netOf_13 : decode cX8_netOf 13 = .ok (.goto 6, 3) := by decide +kernel
theorem dX8_netOf_16 : decode cX8_netOf 16 = .ok (.iload_n 0, 1) := by decide +kernel
theorem dX8_netOf_17 : decode cX8_netOf 17 = .ok (.iload_n 1, 1) := by decide +kernel
theorem dX8_netOf_18 : decode cX8_netOf 18 = .ok (.isub, 1) := by decide +kernel
theorem dX8_netOf_19 : decode cX8_netOf 19 = .ok (.ireturn, 1) := by decide +kernel
theorem dX8_greatestShared_0 : decode cX8_greatestShared 0 = .ok (.iload_n 1, 1) := by decide +kernel
theorem dX8_greatestShared_1 : decode cX8_greatestShared 1 = .ok (.istore_n 2, 1) := by decide +kernel
theorem dX8_greatestShared_2 : decode cX8_greatestShared 2 = .ok (.iload_n 2, 1) := by decide +kernel
theorem dX8_greatestShared_3 : decode cX8_greatestShared 3 = .ok (.iconst 1, 1) := by decide +kernel
theorem dX8_greatestShared_4 : decode cX8_greatestShared 4 = .ok (.if_icmp .le 23, 3) := by decide +kernel
theorem dX8_greatestShared_7 : decode cX8_greatestShared 7 = .ok (.iload_n 0, 1) := by decide +kernel
theorem dX8_greatestShared_8 : decode cX8_greatestShared 8 = .ok (.iload_n 2, 1) := by decide +kernel
theorem dX8_greatestShared_9 : decode cX8_greatestShared 9 = .ok (.irem, 1) := by decide +kernel
theorem dX8_greatestShared_10 : decode cX8_greatestShared 10 = .ok (.ifCond .ne 11, 3) := by decide +kernel
theorem dX8_greatestShared_13 : decode cX8_greatestShared 13 = .ok (.iload_n 1, 1) := by decide +kernel
theorem dX8_greatestShared_14 : decode cX8_greatestShared 14 = .ok (.iload_n 2, 1) := by decide +kernel
theorem dX8_greatestShared_15 : decode cX8_greatestShared 15 = .ok (.irem, 1) := by decide +kernel
theorem dX8_greatestShared_16 : decode cX8_greatestShared 16 = .ok (.ifCond .ne 5, 3) := by decide +kernel
theorem dX8_greatestShared_19 : decode cX8_greatestShared 19 = .ok (.iload_n 2, 1) := by decide +kernel
theorem dX8_greatestShared_20 : decode cX8_greatestShared 20 = .ok (.ireturn, 1) := by decide +kernel
theorem dX8_greatestShared_21 : decode cX8_greatestShared 21 = .ok (.iinc 2 (-1), 3) := by decide +kernel
theorem dX8_greatestShared_24 : decode cX8_greatestShared 24 = .ok (.goto (-22), 3) := by decide +kernel
theorem dX8_greatestShared_27 : decode cX8_greatestShared 27 = .ok (.iconst 1, 1) := by decide +kernel
theorem dX8_greatestShared_28 : decode cX8_greatestShared 28 = .ok (.ireturn, 1) := by decide +kernel
theorem dJ11_isValidCodePoint_9a6ad_0 : decode cJ11_isValidCodePoint_9a6ad 0 = .ok (.iload_n 0, 1) := by decide +kernel
theorem dJ11_isValidCodePoint_9a6ad_1 : decode cJ11_isValidCodePoint_9a6ad 1 = .ok (.bipush 16, 2) := by decide +kernel
theorem dJ11_isValidCodePoint_9a6ad_3 : decode cJ11_isValidCodePoint_9a6ad 3 = .ok (.iushr, 1) := by decide +kernel
theorem dJ11_isValidCodePoint_9a6ad_4 : decode cJ11_isValidCodePoint_9a6ad 4 = .ok (.istore_n 1, 1) := by decide +kernel
theorem dJ11_isValidCodePoint_9a6ad_5 : decode cJ11_isValidCodePoint_9a6ad 5 = .ok (.iload_n 1, 1) := by decide +kernel
theorem dJ11_isValidCodePoint_9a6ad_6 : decode cJ11_isValidCodePoint_9a6ad 6 = .ok (.bipush 17, 2) := by decide +kernel
theorem dJ11_isValidCodePoint_9a6ad_8 : decode cJ11_isValidCodePoint_9a6ad 8 = .ok (.if_icmp .ge 7, 3) := by decide +kernel
theorem dJ11_isValidCodePoint_9a6ad_11 : decode cJ11_isValidCodePoint_9a6ad 11 = .ok (.iconst 1, 1) := by decide +kernel
theorem dJ11_isValidCodePoint_9a6ad_12 : decode cJ11_isValidCodePoint_9a6ad 12 = .ok (.goto 4, 3) := by decide +kernel
theorem dJ11_isValidCodePoint_9a6ad_15 : decode cJ11_isValidCodePoint_9a6ad 15 = .ok (.iconst 0, 1) := by decide +kernel
theorem dJ11_isValidCodePoint_9a6ad_16 : decode cJ11_isValidCodePoint_9a6ad 16 = .ok (.ireturn, 1) := by decide +kernel
theorem dJ11_highSurrogate_5068e_0 : decode cJ11_highSurrogate_5068e 0 = .ok (.iload_n 0, 1) := by decide +kernel
theorem dJ11_highSurrogate_5068e_1 : decode cJ11_highSurrogate_5068e 1 = .ok (.bipush 10, 2) := by decide +kernel
theorem dJ11_highSurrogate_5068e_3 : decode cJ11_highSurrogate_5068e 3 = .ok (.iushr, 1) := by decide +kernel
theorem dJ11_highSurrogate_5068e_4 : decode cJ11_highSurrogate_5068e 4 = .ok (.ldc 110, 2) := by decide +kernel
theorem dJ11_highSurrogate_5068e_6 : decode cJ11_highSurrogate_5068e 6 = .ok (.iadd, 1) := by decide +kernel
theorem dJ11_highSurrogate_5068e_7 : decode cJ11_highSurrogate_5068e 7 = .ok (.i2c, 1) := by decide +kernel
theorem dJ11_highSurrogate_5068e_8 : decode cJ11_highSurrogate_5068e 8 = .ok (.ireturn, 1) := by decide +kernel
theorem dJ11_lowSurrogate_5068e_0 : decode cJ11_lowSurrogate_5068e 0 = .ok (.iload_n 0, 1) := by decide +kernel
theorem dJ11_lowSurrogate_5068e_1 : decode cJ11_lowSurrogate_5068e 1 = .ok (.sipush 1023, 3) := by decide +kernel
theorem dJ11_lowSurrogate_5068e_4 : decode cJ11_lowSurrogate_5068e 4 = .ok (.iand, 1) := by decide +kernel
theorem dJ11_lowSurrogate_5068e_5 : decode cJ11_lowSurrogate_5068e 5 = .ok (.ldc 76, 2) := by decide +kernel
theorem dJ11_lowSurrogate_5068e_7 : decode cJ11_lowSurrogate_5068e 7 = .ok (.iadd, 1) := by decide +kernel
theorem dJ11_lowSurrogate_5068e_8 : decode cJ11_lowSurrogate_5068e 8 = .ok (.i2c, 1) := by decide +kernel
theorem dJ11_lowSurrogate_5068e_9 : decode cJ11_lowSurrogate_5068e 9 = .ok (.ireturn, 1) := by decide +kernel
theorem dJ6_bitCount_0f7a4_0 : decode cJ6_bitCount_0f7a4 0 = .ok (.iload_n 0, 1) := by decide +kernel
theorem dJ6_bitCount_0f7a4_1 : decode cJ6_bitCount_0f7a4 1 = .ok (.iload_n 0, 1) := by decide +kernel
theorem dJ6_bitCount_0f7a4_2 : decode cJ6_bitCount_0f7a4 2 = .ok (.iconst 1, 1) := by decide +kernel
theorem dJ6_bitCount_0f7a4_3 : decode cJ6_bitCount_0f7a4 3 = .ok (.iushr, 1) := by decide +kernel
theorem dJ6_bitCount_0f7a4_4 : decode cJ6_bitCount_0f7a4 4 = .ok (.ldc_w 265, 3) := by decide +kernel
theorem dJ6_bitCount_0f7a4_7 : decode cJ6_bitCount_0f7a4 7 = .ok (.iand, 1) := by decide +kernel
theorem dJ6_bitCount_0f7a4_8 : decode cJ6_bitCount_0f7a4 8 = .ok (.isub, 1) := by decide +kernel
theorem dJ6_bitCount_0f7a4_9 : decode cJ6_bitCount_0f7a4 9 = .ok (.istore_n 0, 1) := by decide +kernel
theorem dJ6_bitCount_0f7a4_10 : decode cJ6_bitCount_0f7a4 10 = .ok (.iload_n 0, 1) := by decide +kernel
theorem dJ6_bitCount_0f7a4_11 : decode cJ6_bitCount_0f7a4 11 = .ok (.ldc_w 266, 3) := by decide +kernel
theorem dJ6_bitCount_0f7a4_14 : decode cJ6_bitCount_0f7a4 14 = .ok (.iand, 1) := by decide +kernel
theorem dJ6_bitCount_0f7a4_15 : decode cJ6_bitCount_0f7a4 15 = .ok (.iload_n 0, 1) := by decide +kernel
theorem dJ6_bitCount_0f7a4_16 : decode cJ6_bitCount_0f7a4 16 = .ok (.iconst 2, 1) := by decide +kernel
theorem dJ6_bitCount_0f7a4_17 : decode cJ6_bitCount_0f7a4 17 = .ok (.iushr, 1) := by decide +kernel
theorem dJ6_bitCount_0f7a4_18 : decode cJ6_bitCount_0f7a4 18 = .ok (.ldc_w 266, 3) := by decide +kernel
theorem dJ6_bitCount_0f7a4_21 : decode cJ6_bitCount_0f7a4 21 = .ok (.iand, 1) := by decide +kernel
theorem dJ6_bitCount_0f7a4_22 : decode cJ6_bitCount_0f7a4 22 = .ok (.iadd, 1) := by decide +kernel
theorem dJ6_bitCount_0f7a4_23 : decode cJ6_bitCount_0f7a4 23 = .ok (.istore_n 0, 1) := by decide +kernel
theorem dJ6_bitCount_0f7a4_24 : decode cJ6_bitCount_0f7a4 24 = .ok (.iload_n 0, 1) := by decide +kernel
theorem dJ6_bitCount_0f7a4_25 : decode cJ6_bitCount_0f7a4 25 = .ok (.iload_n 0, 1) := by decide +kernel
theorem dJ6_bitCount_0f7a4_26 : decode cJ6_bitCount_0f7a4 26 = .ok (.iconst 4, 1) := by decide +kernel
theorem dJ6_bitCount_0f7a4_27 : decode cJ6_bitCount_0f7a4 27 = .ok (.iushr, 1) := by decide +kernel
theorem dJ6_bitCount_0f7a4_28 : decode cJ6_bitCount_0f7a4 28 = .ok (.iadd, 1) := by decide +kernel
theorem dJ6_bitCount_0f7a4_29 : decode cJ6_bitCount_0f7a4 29 = .ok (.ldc_w 267, 3) := by decide +kernel
theorem dJ6_bitCount_0f7a4_32 : decode cJ6_bitCount_0f7a4 32 = .ok (.iand, 1) := by decide +kernel
theorem dJ6_bitCount_0f7a4_33 : decode cJ6_bitCount_0f7a4 33 = .ok (.istore_n 0, 1) := by decide +kernel
theorem dJ6_bitCount_0f7a4_34 : decode cJ6_bitCount_0f7a4 34 = .ok (.iload_n 0, 1) := by decide +kernel
theorem dJ6_bitCount_0f7a4_35 : decode cJ6_bitCount_0f7a4 35 = .ok (.iload_n 0, 1) := by decide +kernel
theorem dJ6_bitCount_0f7a4_36 : decode cJ6_bitCount_0f7a4 36 = .ok (.bipush 8, 2) := by decide +kernel
theorem dJ6_bitCount_0f7a4_38 : decode cJ6_bitCount_0f7a4 38 = .ok (.iushr, 1) := by decide +kernel
theorem dJ6_bitCount_0f7a4_39 : decode cJ6_bitCount_0f7a4 39 = .ok (.iadd, 1) := by decide +kernel
theorem dJ6_bitCount_0f7a4_40 : decode cJ6_bitCount_0f7a4 40 = .ok (.istore_n 0, 1) := by decide +kernel
theorem dJ6_bitCount_0f7a4_41 : decode cJ6_bitCount_0f7a4 41 = .ok (.iload_n 0, 1) := by decide +kernel
theorem dJ6_bitCount_0f7a4_42 : decode cJ6_bitCount_0f7a4 42 = .ok (.iload_n 0, 1) := by decide +kernel
theorem dJ6_bitCount_0f7a4_43 : decode cJ6_bitCount_0f7a4 43 = .ok (.bipush 16, 2) := by decide +kernel
theorem dJ6_bitCount_0f7a4_45 : decode cJ6_bitCount_0f7a4 45 = .ok (.iushr, 1) := by decide +kernel
theorem dJ6_bitCount_0f7a4_46 : decode cJ6_bitCount_0f7a4 46 = .ok (.iadd, 1) := by decide +kernel
theorem dJ6_bitCount_0f7a4_47 : decode cJ6_bitCount_0f7a4 47 = .ok (.istore_n 0, 1) := by decide +kernel
theorem dJ6_bitCount_0f7a4_48 : decode cJ6_bitCount_0f7a4 48 = .ok (.iload_n 0, 1) := by decide +kernel
theorem dJ6_bitCount_0f7a4_49 : decode cJ6_bitCount_0f7a4 49 = .ok (.bipush 63, 2) := by decide +kernel
theorem dJ6_bitCount_0f7a4_51 : decode cJ6_bitCount_0f7a4 51 = .ok (.iand, 1) := by decide +kernel
theorem dJ6_bitCount_0f7a4_52 : decode cJ6_bitCount_0f7a4 52 = .ok (.ireturn, 1) := by decide +kernel
theorem dJ9_max_7cf53_0 : decode cJ9_max_7cf53 0 = .ok (.iload_n 0, 1) := by decide +kernel
theorem dJ9_max_7cf53_1 : decode cJ9_max_7cf53 1 = .ok (.iload_n 1, 1) := by decide +kernel
theorem dJ9_max_7cf53_2 : decode cJ9_max_7cf53 2 = .ok (.if_icmp .lt 7, 3) := by decide +kernel
theorem dJ9_max_7cf53_5 : decode cJ9_max_7cf53 5 = .ok (.iload_n 0, 1) := by decide +kernel
theorem dJ9_max_7cf53_6 : decode cJ9_max_7cf53 6 = .ok (.goto 4, 3) := by decide +kernel
theorem dJ9_max_7cf53_9 : decode cJ9_max_7cf53 9 = .ok (.iload_n 1, 1) := by decide +kernel
theorem dJ9_max_7cf53_10 : decode cJ9_max_7cf53 10 = .ok (.ireturn, 1) := by decide +kernel
theorem dJ9_min_7cf53_0 : decode cJ9_min_7cf53 0 = .ok (.iload_n 0, 1) := by decide +kernel
theorem dJ9_min_7cf53_1 : decode cJ9_min_7cf53 1 = .ok (.iload_n 1, 1) := by decide +kernel
theorem dJ9_min_7cf53_2 : decode cJ9_min_7cf53 2 = .ok (.if_icmp .gt 7, 3) := by decide +kernel
theorem dJ9_min_7cf53_5 : decode cJ9_min_7cf53 5 = .ok (.iload_n 0, 1) := by decide +kernel
theorem dJ9_min_7cf53_6 : decode cJ9_min_7cf53 6 = .ok (.goto 4, 3) := by decide +kernel
theorem dJ9_min_7cf53_9 : decode cJ9_min_7cf53 9 = .ok (.iload_n 1, 1) := by decide +kernel
theorem dJ9_min_7cf53_10 : decode cJ9_min_7cf53 10 = .ok (.ireturn, 1) := by decide +kernel
theorem dJ0_length_8abf5_0 : decode cJ0_length_8abf5 0 = .ok (.aload_n 0, 1) := by decide +kernel
theorem dJ0_length_8abf5_1 : decode cJ0_length_8abf5 1 = .ok (.getfield 9, 3) := by decide +kernel
theorem dJ0_length_8abf5_4 : decode cJ0_length_8abf5 4 = .ok (.arraylength, 1) := by decide +kernel
theorem dJ0_length_8abf5_5 : decode cJ0_length_8abf5 5 = .ok (.aload_n 0, 1) := by decide +kernel
theorem dJ0_length_8abf5_6 : decode cJ0_length_8abf5 6 = .ok (.invokevirtual 335, 3) := by decide +kernel
theorem dJ0_length_8abf5_9 : decode cJ0_length_8abf5 9 = .ok (.ishr, 1) := by decide +kernel
theorem dJ0_length_8abf5_10 : decode cJ0_length_8abf5 10 = .ok (.ireturn, 1) := by decide +kernel
theorem dJ0_charAt_5068e_0 : decode cJ0_charAt_5068e 0 = .ok (.aload_n 0, 1) := by decide +kernel
theorem dJ0_charAt_5068e_1 : decode cJ0_charAt_5068e 1 = .ok (.invokevirtual 492, 3) := by decide +kernel
theorem dJ0_charAt_5068e_4 : decode cJ0_charAt_5068e 4 = .ok (.ifCond .eq 12, 3) := by decide +kernel
theorem dJ0_charAt_5068e_7 : decode cJ0_charAt_5068e 7 = .ok (.aload_n 0, 1) := by decide +kernel
theorem dJ0_charAt_5068e_8 : decode cJ0_charAt_5068e 8 = .ok (.getfield 9, 3) := by decide +kernel
theorem dJ0_charAt_5068e_11 : decode cJ0_charAt_5068e 11 = .ok (.iload_n 1, 1) := by decide +kernel
theorem dJ0_charAt_5068e_12 : decode cJ0_charAt_5068e 12 = .ok (.invokestatic 495, 3) := by decide +kernel
theorem dJ0_charAt_5068e_15 : decode cJ0_charAt_5068e 15 = .ok (.ireturn, 1) := by decide +kernel
theorem dJ0_charAt_5068e_16 : decode cJ0_charAt_5068e 16 = .ok (.aload_n 0, 1) := by decide +kernel
theorem dJ0_charAt_5068e_17 : decode cJ0_charAt_5068e 17 = .ok (.getfield 9, 3) := by decide +kernel
theorem dJ0_charAt_5068e_20 : decode cJ0_charAt_5068e 20 = .ok (.iload_n 1, 1) := by decide +kernel
theorem dJ0_charAt_5068e_21 : decode cJ0_charAt_5068e 21 = .ok (.invokestatic 498, 3) := by decide +kernel
theorem dJ0_charAt_5068e_24 : decode cJ0_charAt_5068e 24 = .ok (.ireturn, 1) := by decide +kernel
theorem dJ0_indexOf_0f7a4_0 : decode cJ0_indexOf_0f7a4 0 = .ok (.aload_n 0, 1) := by decide +kernel
theorem dJ0_indexOf_0f7a4_1 : decode cJ0_indexOf_0f7a4 1 = .ok (.iload_n 1, 1) := by decide +kernel
theorem dJ0_indexOf_0f7a4_2 : decode cJ0_indexOf_0f7a4 2 = .ok (.iconst 0, 1) := by decide +kernel
theorem dJ0_indexOf_0f7a4_3 : decode cJ0_indexOf_0f7a4 3 = .ok (.invokevirtual 633, 3) := by decide +kernel
theorem dJ0_indexOf_0f7a4_6 : decode cJ0_indexOf_0f7a4 6 = .ok (.ireturn, 1) := by decide +kernel
theorem dJ0_indexOf_7cf53_0 : decode cJ0_indexOf_7cf53 0 = .ok (.aload_n 0, 1) := by decide +kernel
theorem dJ0_indexOf_7cf53_1 : decode cJ0_indexOf_7cf53 1 = .ok (.invokevirtual 492, 3) := by decide +kernel
theorem dJ0_indexOf_7cf53_4 : decode cJ0_indexOf_7cf53 4 = .ok (.ifCond .eq 19, 3) := by decide +kernel
theorem dJ0_indexOf_7cf53_7 : decode cJ0_indexOf_7cf53 7 = .ok (.aload_n 0, 1) := by decide +kernel
theorem dJ0_indexOf_7cf53_8 : decode cJ0_indexOf_7cf53 8 = .ok (.getfield 9, 3) := by decide +kernel
theorem dJ0_indexOf_7cf53_11 : decode cJ0_indexOf_7cf53 11 = .ok (.iload_n 1, 1) := by decide +kernel
theorem dJ0_indexOf_7cf53_12 : decode cJ0_indexOf_7cf53 12 = .ok (.iload_n 2, 1) := by decide +kernel
theorem dJ0_indexOf_7cf53_13 : decode cJ0_indexOf_7cf53 13 = .ok (.aload_n 0, 1) := by decide +kernel
theorem dJ0_indexOf_7cf53_14 : decode cJ0_indexOf_7cf53 14 = .ok (.invokevirtual 505, 3) := by decide +kernel
theorem dJ0_indexOf_7cf53_17 : decode cJ0_indexOf_7cf53 17 = .ok (.invokestatic 637, 3) := by decide +kernel
theorem dJ0_indexOf_7cf53_20 : decode cJ0_indexOf_7cf53 20 = .ok (.goto 16, 3) := by decide +kernel
theorem dJ0_indexOf_7cf53_23 : decode cJ0_indexOf_7cf53 23 = .ok (.aload_n 0, 1) := by decide +kernel
theorem dJ0_indexOf_7cf53_24 : decode cJ0_indexOf_7cf53 24 = .ok (.getfield 9, 3) := by decide +kernel
theorem dJ0_indexOf_7cf53_27 : decode cJ0_indexOf_7cf53 27 = .ok (.iload_n 1, 1) := by decide +kernel
theorem dJ0_indexOf_7cf53_28 : decode cJ0_indexOf_7cf53 28 = .ok (.iload_n 2, 1) := by decide +kernel
theorem dJ0_indexOf_7cf53_29 : decode cJ0_indexOf_7cf53 29 = .ok (.aload_n 0, 1) := by decide +kernel
theorem dJ0_indexOf_7cf53_30 : decode cJ0_indexOf_7cf53 30 = .ok (.invokevirtual 505, 3) := by decide +kernel
theorem dJ0_indexOf_7cf53_33 : decode cJ0_indexOf_7cf53 33 = .ok (.invokestatic 640, 3) := by decide +kernel
theorem dJ0_indexOf_7cf53_36 : decode cJ0_indexOf_7cf53 36 = .ok (.ireturn, 1) := by decide +kernel
theorem dJ0_coder_7d493_0 : decode cJ0_coder_7d493 0 = .ok (.getstatic 38, 3) := by decide +kernel
theorem dJ0_coder_7d493_3 : decode cJ0_coder_7d493 3 = .ok (.ifCond .eq 10, 3) := by decide +kernel
theorem dJ0_coder_7d493_6 : decode cJ0_coder_7d493 6 = .ok (.aload_n 0, 1) := by decide +kernel
theorem dJ0_coder_7d493_7 : decode cJ0_coder_7d493 7 = .ok (.getfield 15, 3) := by decide +kernel
theorem dJ0_coder_7d493_10 : decode cJ0_coder_7d493 10 = .ok (.goto 4, 3) := by decide +kernel
theorem dJ0_coder_7d493_13 : decode cJ0_coder_7d493 13 = .ok (.iconst 1, 1) := by decide +kernel
theorem dJ0_coder_7d493_14 : decode cJ0_coder_7d493 14 = .ok (.ireturn, 1) := by decide +kernel
theorem dJ0_isLatin1_aae02_0 : decode cJ0_isLatin1_aae02 0 = .ok (.getstatic 38, 3) := by decide +kernel
theorem dJ0_isLatin1_aae02_3 : decode cJ0_isLatin1_aae02 3 = .ok (.ifCond .eq 14, 3) := by decide +kernel
theorem dJ0_isLatin1_aae02_6 : decode cJ0_isLatin1_aae02 6 = .ok (.aload_n 0, 1) := by decide +kernel
theorem dJ0_isLatin1_aae02_7 : decode cJ0_isLatin1_aae02 7 = .ok (.getfield 15, 3) := by decide +kernel
theorem dJ0_isLatin1_aae02_10 : decode cJ0_isLatin1_aae02 10 = .ok (.ifCond .ne 7, 3) := by decide +kernel
theorem dJ0_isLatin1_aae02_13 : decode cJ0_isLatin1_aae02 13 = .ok (.iconst 1, 1) := by decide +kernel
theorem dJ0_isLatin1_aae02_14 : decode cJ0_isLatin1_aae02 14 = .ok (.goto 4, 3) := by decide +kernel
theorem dJ0_isLatin1_aae02_17 : decode cJ0_isLatin1_aae02 17 = .ok (.iconst 0, 1) := by decide +kernel
theorem dJ0_isLatin1_aae02_18 : decode cJ0_isLatin1_aae02 18 = .ok (.ireturn, 1) := by decide +kernel
theorem dJ0_checkIndex_df160_0 : decode cJ0_checkIndex_df160 0 = .ok (.iload_n 0, 1) := by decide +kernel
theorem dJ0_checkIndex_df160_1 : decode cJ0_checkIndex_df160 1 = .ok (.iload_n 1, 1) := by decide +kernel
theorem dJ0_checkIndex_df160_2 : decode cJ0_checkIndex_df160 2 = .ok (.getstatic 1053, 3) := by decide +kernel
theorem dJ0_checkIndex_df160_5 : decode cJ0_checkIndex_df160 5 = .ok (.invokestatic 1059, 3) := by decide +kernel
theorem dJ0_checkIndex_df160_8 : decode cJ0_checkIndex_df160 8 = .ok (.pop, 1) := by decide +kernel
theorem dJ0_checkIndex_df160_9 : decode cJ0_checkIndex_df160 9 = .ok (.return_, 1) := by decide +kernel
theorem dJ0_checkBoundsBeginEnd_23922_0 : decode cJ0_checkBoundsBeginEnd_23922 0 = .ok (.iload_n 0, 1) := by decide +kernel
theorem dJ0_checkBoundsBeginEnd_23922_1 : decode cJ0_checkBoundsBeginEnd_23922 1 = .ok (.iload_n 1, 1) := by decide +kernel
theorem dJ0_checkBoundsBeginEnd_23922_2 : decode cJ0_checkBoundsBeginEnd_23922 2 = .ok (.iload_n 2, 1) := by decide +kernel
theorem dJ0_checkBoundsBeginEnd_23922_3 : decode cJ0_checkBoundsBeginEnd_23922 3 = .ok (.getstatic 1053, 3) := by decide +kernel
theorem dJ0_checkBoundsBeginEnd_23922_6 : decode cJ0_checkBoundsBeginEnd_23922 6 = .ok (.invokestatic 1062, 3) := by decide +kernel
theorem dJ0_checkBoundsBeginEnd_23922_9 : decode cJ0_checkBoundsBeginEnd_23922 9 = .ok (.pop, 1) := by decide +kernel
theorem dJ0_checkBoundsBeginEnd_23922_10 : decode cJ0_checkBoundsBeginEnd_23922 10 = .ok (.return_, 1) := by decide +kernel
theorem dJ1_charAt_3b067_0 : decode cJ1_charAt_3b067 0 = .ok (.iload_n 1, 1) := by decide +kernel
theorem dJ1_charAt_3b067_1 : decode cJ1_charAt_3b067 1 = .ok (.aload_n 0, 1) := by decide +kernel
theorem dJ1_charAt_3b067_2 : decode cJ1_charAt_3b067 2 = .ok (.arraylength, 1) := by decide +kernel
theorem dJ1_charAt_3b067_3 : decode cJ1_charAt_3b067 3 = .ok (.invokestatic 9, 3) := by decide +kernel
theorem dJ1_charAt_3b067_6 : decode cJ1_charAt_3b067 6 = .ok (.aload_n 0, 1) := by decide +kernel
theorem dJ1_charAt_3b067_7 : decode cJ1_charAt_3b067 7 = .ok (.iload_n 1, 1) := by decide +kernel
theorem dJ1_charAt_3b067_8 : decode cJ1_charAt_3b067 8 = .ok (.baload, 1) := by decide +kernel
theorem dJ1_charAt_3b067_9 : decode cJ1_charAt_3b067 9 = .ok (.sipush 255, 3) := by decide +kernel
theorem dJ1_charAt_3b067_12 : decode cJ1_charAt_3b067 12 = .ok (.iand, 1) := by decide +kernel
theorem dJ1_charAt_3b067_13 : decode cJ1_charAt_3b067 13 = .ok (.i2c, 1) := by decide +kernel
theorem dJ1_charAt_3b067_14 : decode cJ1_charAt_3b067 14 = .ok (.ireturn, 1) := by decide +kernel
theorem dJ1_canEncode_9a6ad_0 : decode cJ1_canEncode_9a6ad 0 = .ok (.iload_n 0, 1) := by decide +kernel
theorem dJ1_canEncode_9a6ad_1 : decode cJ1_canEncode_9a6ad 1 = .ok (.ifCond .lt 14, 3) := by decide +kernel
theorem dJ1_canEncode_9a6ad_4 : decode cJ1_canEncode_9a6ad 4 = .ok (.iload_n 0, 1) := by decide +kernel
theorem dJ1_canEncode_9a6ad_5 : decode cJ1_canEncode_9a6ad 5 = .ok (.sipush 255, 3) := by decide +kernel
theorem dJ1_canEncode_9a6ad_8 : decode cJ1_canEncode_9a6ad 8 = .ok (.if_icmp .gt 7, 3) := by decide +kernel
theorem dJ1_canEncode_9a6ad_11 : decode cJ1_canEncode_9a6ad 11 = .ok (.iconst 1, 1) := by decide +kernel
theorem dJ1_canEncode_9a6ad_12 : decode cJ1_canEncode_9a6ad 12 = .ok (.goto 4, 3) := by decide +kernel
theorem dJ1_canEncode_9a6ad_15 : decode cJ1_canEncode_9a6ad 15 = .ok (.iconst 0, 1) := by decide +kernel
theorem dJ1_canEncode_9a6ad_16 : decode cJ1_canEncode_9a6ad 16 = .ok (.ireturn, 1) := by decide +kernel
theorem dJ1_indexOf_4cfef_0 : decode cJ1_indexOf_4cfef 0 = .ok (.iload_n 1, 1) := by decide +kernel
theorem dJ1_indexOf_4cfef_1 : decode cJ1_indexOf_4cfef 1 = .ok (.invokestatic 88, 3) := by decide +kernel
theorem dJ1_indexOf_4cfef_4 : decode cJ1_indexOf_4cfef 4 = .ok (.ifCond .ne 5, 3) := by decide +kernel
theorem dJ1_indexOf_4cfef_7 : decode cJ1_indexOf_4cfef 7 = .ok (.iconst (-1), 1) := by decide +kernel
theorem dJ1_indexOf_4cfef_8 : decode cJ1_indexOf_4cfef 8 = .ok (.ireturn, 1) := by decide +kernel
theorem dJ1_indexOf_4cfef_9 : decode cJ1_indexOf_4cfef 9 = .ok (.iload_n 2, 1) := by decide +kernel
theorem dJ1_indexOf_4cfef_10 : decode cJ1_indexOf_4cfef 10 = .ok (.iconst 0, 1) := by decide +kernel
theorem dJ1_indexOf_4cfef_11 : decode cJ1_indexOf_4cfef 11 = .ok (.invokestatic 92, 3) := by decide +kernel
theorem dJ1_indexOf_4cfef_14 : decode cJ1_indexOf_4cfef 14 = .ok (.istore_n 2, 1) := by decide +kernel
theorem dJ1_indexOf_4cfef_15 : decode cJ1_indexOf_4cfef 15 = .ok (.iload_n 3, 1) := by decide +kernel
theorem dJ1_indexOf_4cfef_16 : decode cJ1_indexOf_4cfef 16 = .ok (.aload_n 0, 1) := by decide +kernel
theorem dJ1_indexOf_4cfef_17 : decode cJ1_indexOf_4cfef 17 = .ok (.arraylength, 1) := by decide +kernel
theorem dJ1_indexOf_4cfef_18 : decode cJ1_indexOf_4cfef 18 = .ok (.invokestatic 38, 3) := by decide +kernel
theorem dJ1_indexOf_4cfef_21 : decode cJ1_indexOf_4cfef 21 = .ok (.istore_n 3, 1) := by decide +kernel
theorem dJ1_indexOf_4cfef_22 : decode cJ1_indexOf_4cfef 22 = .ok (.iload_n 2, 1) := by decide +kernel
theorem dJ1_indexOf_4cfef_23 : decode cJ1_indexOf_4cfef 23 = .ok (.iload_n 3, 1) := by decide +kernel
theorem dJ1_indexOf_4cfef_24 : decode cJ1_indexOf_4cfef 24 = .ok (.if_icmp .lt 5, 3) := by decide +kernel
theorem dJ1_indexOf_4cfef_27 : decode cJ1_indexOf_4cfef 27 = .ok (.iconst (-1), 1) := by decide +kernel
theorem dJ1_indexOf_4cfef_28 : decode cJ1_indexOf_4cfef 28 = .ok (.ireturn, 1) := by decide +kernel
theorem dJ1_indexOf_4cfef_29 : decode cJ1_indexOf_4cfef 29 = .ok (.aload_n 0, 1) := by decide +kernel
theorem dJ1_indexOf_4cfef_30 : decode cJ1_indexOf_4cfef 30 = .ok (.iload_n 1, 1) := by decide +kernel
theorem dJ1_indexOf_4cfef_31 : decode cJ1_indexOf_4cfef 31 = .ok (.iload_n 2, 1) := by decide +kernel
theorem dJ1_indexOf_4cfef_32 : decode cJ1_indexOf_4cfef 32 = .ok (.iload_n 3, 1) := by decide +kernel
theorem dJ1_indexOf_4cfef_33 : decode cJ1_indexOf_4cfef 33 = .ok (.invokestatic 95, 3) := by decide +kernel
theorem dJ1_indexOf_4cfef_36 : decode cJ1_indexOf_4cfef 36 = .ok (.ireturn, 1) := by decide +kernel
theorem dJ1_indexOfChar_4cfef_0 : decode cJ1_indexOfChar_4cfef 0 = .ok (.iload_n 1, 1) := by decide +kernel
theorem dJ1_indexOfChar_4cfef_1 : decode cJ1_indexOfChar_4cfef 1 = .ok (.i2b, 1) := by decide +kernel
theorem dJ1_indexOfChar_4cfef_2 : decode cJ1_indexOfChar_4cfef 2 = .ok (.istore 4, 2) := by decide +kernel
theorem dJ1_indexOfChar_4cfef_4 : decode cJ1_indexOfChar_4cfef 4 = .ok (.iload_n 2, 1) := by decide +kernel
theorem dJ1_indexOfChar_4cfef_5 : decode cJ1_indexOfChar_4cfef 5 = .ok (.istore 5, 2) := by decide +kernel
theorem dJ1_indexOfChar_4cfef_7 : decode cJ1_indexOfChar_4cfef 7 = .ok (.iload 5, 2) := by decide +kernel
theorem dJ1_indexOfChar_4cfef_9 : decode cJ1_indexOfChar_4cfef 9 = .ok (.iload_n 3, 1) := by decide +kernel
theorem dJ1_indexOfChar_4cfef_10 : decode cJ1_indexOfChar_4cfef 10 = .ok (.if_icmp .ge 21, 3) := by decide +kernel
theorem dJ1_indexOfChar_4cfef_13 : decode cJ1_indexOfChar_4cfef 13 = .ok (.aload_n 0, 1) := by decide +kernel
theorem dJ1_indexOfChar_4cfef_14 : decode cJ1_indexOfChar_4cfef 14 = .ok (.iload 5, 2) := by decide +kernel
theorem dJ1_indexOfChar_4cfef_16 : decode cJ1_indexOfChar_4cfef 16 = .ok (.baload, 1) := by decide +kernel
theorem dJ1_indexOfChar_4cfef_17 : decode cJ1_indexOfChar_4cfef 17 = .ok (.iload 4, 2) := by decide +kernel
theorem dJ1_indexOfChar_4cfef_19 : decode cJ1_indexOfChar_4cfef 19 = .ok (.if_icmp .ne 6, 3) := by decide +kernel
theorem dJ1_indexOfChar_4cfef_22 : decode cJ1_indexOfChar_4cfef 22 = .ok (.iload 5, 2) := by decide +kernel
theorem dJ1_indexOfChar_4cfef_24 : decode cJ1_indexOfChar_4cfef 24 = .ok (.ireturn, 1) := by decide +kernel
theorem dJ1_indexOfChar_4cfef_25 : decode cJ1_indexOfChar_4cfef 25 = .ok (.iinc 5 1, 3) := by decide +kernel
theorem dJ1_indexOfChar_4cfef_28 : decode cJ1_indexOfChar_4cfef 28 = .ok (.goto (-21), 3) := by decide +kernel
theorem dJ1_indexOfChar_4cfef_31 : decode cJ1_indexOfChar_4cfef 31 = .ok (.iconst (-1), 1) := by decide +kernel
theorem dJ1_indexOfChar_4cfef_32 : decode cJ1_indexOfChar_4cfef 32 = .ok (.ireturn, 1) := by decide +kernel
theorem dJ2_getChar_3b067_0 : decode cJ2_getChar_3b067 0 = .ok (.getstatic 44, 3) := by decide +kernel
theorem dJ2_getChar_3b067_3 : decode cJ2_getChar_3b067 3 = .ok (.ifCond .ne 25, 3) := by decide +kernel
theorem dJ2_getChar_3b067_6 : decode cJ2_getChar_3b067 6 = .ok (.iload_n 1, 1) := by decide +kernel
theorem dJ2_getChar_3b067_7 : decode cJ2_getChar_3b067 7 = .ok (.ifCond .lt 11, 3) := by decide +kernel
theorem dJ2_getChar_3b067_10 : decode cJ2_getChar_3b067 10 = .ok (.iload_n 1, 1) := by decide +kernel
theorem dJ2_getChar_3b067_11 : decode cJ2_getChar_3b067 11 = .ok (.aload_n 0, 1) := by decide +kernel
theorem dJ2_getChar_3b067_12 : decode cJ2_getChar_3b067 12 = .ok (.invokestatic 48, 3) := by decide +kernel
theorem dJ2_getChar_3b067_15 : decode cJ2_getChar_3b067 15 = .ok (.if_icmp .lt 13, 3) := by decide +kernel
theorem dJ2_getChar_3b067_18 : decode cJ2_getChar_3b067 18 = .ok (.new 52, 3) := by decide +kernel
theorem dJ2_getChar_3b067_21 : decode cJ2_getChar_3b067 21 = .ok (.dup, 1) := by decide +kernel
theorem dJ2_getChar_3b067_22 : decode cJ2_getChar_3b067 22 = .ok (.ldc 54, 2) := by decide +kernel
theorem dJ2_getChar_3b067_24 : decode cJ2_getChar_3b067 24 = .ok (.invokespecial 56, 3) := by decide +kernel
theorem dJ2_getChar_3b067_27 : decode cJ2_getChar_3b067 27 = .ok (.athrow, 1) := by decide +kernel
theorem dJ2_getChar_3b067_28 : decode cJ2_getChar_3b067 28 = .ok (.iload_n 1, 1) := by decide +kernel
theorem dJ2_getChar_3b067_29 : decode cJ2_getChar_3b067 29 = .ok (.iconst 1, 1) := by decide +kernel
theorem dJ2_getChar_3b067_30 : decode cJ2_getChar_3b067 30 = .ok (.ishl, 1) := by decide +kernel
theorem dJ2_getChar_3b067_31 : decode cJ2_getChar_3b067 31 = .ok (.istore_n 1, 1) := by decide +kernel
theorem dJ2_getChar_3b067_32 : decode cJ2_getChar_3b067 32 = .ok (.aload_n 0, 1) := by decide +kernel
theorem dJ2_getChar_3b067_33 : decode cJ2_getChar_3b067 33 = .ok (.iload_n 1, 1) := by decide +kernel
theorem dJ2_getChar_3b067_34 : decode cJ2_getChar_3b067 34 = .ok (.iinc 1 1, 3) := by decide +kernel
theorem dJ2_getChar_3b067_37 : decode cJ2_getChar_3b067 37 = .ok (.baload, 1) := by decide +kernel
theorem dJ2_getChar_3b067_38 : decode cJ2_getChar_3b067 38 = .ok (.sipush 255, 3) := by decide +kernel
theorem dJ2_getChar_3b067_41 : decode cJ2_getChar_3b067 41 = .ok (.iand, 1) := by decide +kernel
theorem dJ2_getChar_3b067_42 : decode cJ2_getChar_3b067 42 = .ok (.getstatic 59, 3) := by decide +kernel
theorem dJ2_getChar_3b067_45 : decode cJ2_getChar_3b067 45 = .ok (.ishl, 1) := by decide +kernel
theorem dJ2_getChar_3b067_46 : decode cJ2_getChar_3b067 46 = .ok (.aload_n 0, 1) := by decide +kernel
theorem dJ2_getChar_3b067_47 : decode cJ2_getChar_3b067 47 = .ok (.iload_n 1, 1) := by decide +kernel
theorem dJ2_getChar_3b067_48 : decode cJ2_getChar_3b067 48 = .ok (.baload, 1) := by decide +kernel
theorem dJ2_getChar_3b067_49 : decode cJ2_getChar_3b067 49 = .ok (.sipush 255, 3) := by decide +kernel
theorem dJ2_getChar_3b067_52 : decode cJ2_getChar_3b067 52 = .ok (.iand, 1) := by decide +kernel
theorem dJ2_getChar_3b067_53 : decode cJ2_getChar_3b067 53 = .ok (.getstatic 63, 3) := by decide +kernel
theorem dJ2_getChar_3b067_56 : decode cJ2_getChar_3b067 56 = .ok (.ishl, 1) := by decide +kernel
theorem dJ2_getChar_3b067_57 : decode cJ2_getChar_3b067 57 = .ok (.ior, 1) := by decide +kernel
theorem dJ2_getChar_3b067_58 : decode cJ2_getChar_3b067 58 = .ok (.i2c, 1) := by decide +kernel
theorem dJ2_getChar_3b067_59 : decode cJ2_getChar_3b067 59 = .ok (.ireturn, 1) := by decide +kernel
theorem dJ2_length_9d52b_0 : decode cJ2_length_9d52b 0 = .ok (.aload_n 0, 1) := by decide +kernel
theorem dJ2_length_9d52b_1 : decode cJ2_length_9d52b 1 = .ok (.arraylength, 1) := by decide +kernel
theorem dJ2_length_9d52b_2 : decode cJ2_length_9d52b 2 = .ok (.iconst 1, 1) := by decide +kernel
theorem dJ2_length_9d52b_3 : decode cJ2_length_9d52b 3 = .ok (.ishr, 1) := by decide +kernel
theorem dJ2_length_9d52b_4 : decode cJ2_length_9d52b 4 = .ok (.ireturn, 1) := by decide +kernel
theorem dJ2_indexOf_4cfef_0 : decode cJ2_indexOf_4cfef 0 = .ok (.iload_n 2, 1) := by decide +kernel
theorem dJ2_indexOf_4cfef_1 : decode cJ2_indexOf_4cfef 1 = .ok (.iconst 0, 1) := by decide +kernel
theorem dJ2_indexOf_4cfef_2 : decode cJ2_indexOf_4cfef 2 = .ok (.invokestatic 224, 3) := by decide +kernel
theorem dJ2_indexOf_4cfef_5 : decode cJ2_indexOf_4cfef 5 = .ok (.istore_n 2, 1) := by decide +kernel
theorem dJ2_indexOf_4cfef_6 : decode cJ2_indexOf_4cfef 6 = .ok (.iload_n 3, 1) := by decide +kernel
theorem dJ2_indexOf_4cfef_7 : decode cJ2_indexOf_4cfef 7 = .ok (.aload_n 0, 1) := by decide +kernel
theorem dJ2_indexOf_4cfef_8 : decode cJ2_indexOf_4cfef 8 = .ok (.arraylength, 1) := by decide +kernel
theorem dJ2_indexOf_4cfef_9 : decode cJ2_indexOf_4cfef 9 = .ok (.iconst 1, 1) := by decide +kernel
theorem dJ2_indexOf_4cfef_10 : decode cJ2_indexOf_4cfef 10 = .ok (.ishr, 1) := by decide +kernel
theorem dJ2_indexOf_4cfef_11 : decode cJ2_indexOf_4cfef 11 = .ok (.invokestatic 183, 3) := by decide +kernel
theorem dJ2_indexOf_4cfef_14 : decode cJ2_indexOf_4cfef 14 = .ok (.istore_n 3, 1) := by decide +kernel
theorem dJ2_indexOf_4cfef_15 : decode cJ2_indexOf_4cfef 15 = .ok (.iload_n 2, 1) := by decide +kernel
theorem dJ2_indexOf_4cfef_16 : decode cJ2_indexOf_4cfef 16 = .ok (.iload_n 3, 1) := by decide +kernel
theorem dJ2_indexOf_4cfef_17 : decode cJ2_indexOf_4cfef 17 = .ok (.if_icmp .lt 5, 3) := by decide +kernel
theorem dJ2_indexOf_4cfef_20 : decode cJ2_indexOf_4cfef 20 = .ok (.iconst (-1), 1) := by decide +kernel
theorem dJ2_indexOf_4cfef_21 : decode cJ2_indexOf_4cfef 21 = .ok (.ireturn, 1) := by decide +kernel
theorem dJ2_indexOf_4cfef_22 : decode cJ2_indexOf_4cfef 22 = .ok (.iload_n 1, 1) := by decide +kernel
theorem dJ2_indexOf_4cfef_23 : decode cJ2_indexOf_4cfef 23 = .ok (.ldc 227, 2) := by decide +kernel
theorem dJ2_indexOf_4cfef_25 : decode cJ2_indexOf_4cfef 25 = .ok (.if_icmp .ge 11, 3) := by decide +kernel
theorem dJ2_indexOf_4cfef_28 : decode cJ2_indexOf_4cfef 28 = .ok (.aload_n 0, 1) := by decide +kernel
theorem dJ2_indexOf_4cfef_29 : decode cJ2_indexOf_4cfef 29 = .ok (.iload_n 1, 1) := by decide +kernel
theorem dJ2_indexOf_4cfef_30 : decode cJ2_indexOf_4cfef 30 = .ok (.iload_n 2, 1) := by decide +kernel
theorem dJ2_indexOf_4cfef_31 : decode cJ2_indexOf_4cfef 31 = .ok (.iload_n 3, 1) := by decide +kernel
theorem dJ2_indexOf_4cfef_32 : decode cJ2_indexOf_4cfef 32 = .ok (.invokestatic 228, 3) := by decide +kernel
theorem dJ2_indexOf_4cfef_35 : decode cJ2_indexOf_4cfef 35 = .ok (.ireturn, 1) := by decide +kernel
theorem dJ2_indexOf_4cfef_36 : decode cJ2_indexOf_4cfef 36 = .ok (.aload_n 0, 1) := by decide +kernel
theorem dJ2_indexOf_4cfef_37 : decode cJ2_indexOf_4cfef 37 = .ok (.iload_n 1, 1) := by decide +kernel
theorem dJ2_indexOf_4cfef_38 : decode cJ2_indexOf_4cfef 38 = .ok (.iload_n 2, 1) := by decide +kernel
theorem dJ2_indexOf_4cfef_39 : decode cJ2_indexOf_4cfef 39 = .ok (.iload_n 3, 1) := by decide +kernel
theorem dJ2_indexOf_4cfef_40 : decode cJ2_indexOf_4cfef 40 = .ok (.invokestatic 232, 3) := by decide +kernel
theorem dJ2_indexOf_4cfef_43 : decode cJ2_indexOf_4cfef 43 = .ok (.ireturn, 1) := by decide +kernel
theorem dJ2_indexOfChar_4cfef_0 : decode cJ2_indexOfChar_4cfef 0 = .ok (.iload_n 2, 1) := by decide +kernel
theorem dJ2_indexOfChar_4cfef_1 : decode cJ2_indexOfChar_4cfef 1 = .ok (.iload_n 3, 1) := by decide +kernel
theorem dJ2_indexOfChar_4cfef_2 : decode cJ2_indexOfChar_4cfef 2 = .ok (.aload_n 0, 1) := by decide +kernel
theorem dJ2_indexOfChar_4cfef_3 : decode cJ2_indexOfChar_4cfef 3 = .ok (.invokestatic 96, 3) := by decide +kernel
theorem dJ2_indexOfChar_4cfef_6 : decode cJ2_indexOfChar_4cfef 6 = .ok (.aload_n 0, 1) := by decide +kernel
theorem dJ2_indexOfChar_4cfef_7 : decode cJ2_indexOfChar_4cfef 7 = .ok (.iload_n 1, 1) := by decide +kernel
theorem dJ2_indexOfChar_4cfef_8 : decode cJ2_indexOfChar_4cfef 8 = .ok (.iload_n 2, 1) := by decide +kernel
theorem dJ2_indexOfChar_4cfef_9 : decode cJ2_indexOfChar_4cfef 9 = .ok (.iload_n 3, 1) := by decide +kernel
theorem dJ2_indexOfChar_4cfef_10 : decode cJ2_indexOfChar_4cfef 10 = .ok (.invokestatic 244, 3) := by decide +kernel
theorem dJ2_indexOfChar_4cfef_13 : decode cJ2_indexOfChar_4cfef 13 = .ok (.ireturn, 1) := by decide +kernel
theorem dJ2_indexOfCharUnsafe_4cfef_0 : decode cJ2_indexOfCharUnsafe_4cfef 0 = .ok (.iload_n 2, 1) := by decide +kernel
theorem dJ2_indexOfCharUnsafe_4cfef_1 : decode cJ2_indexOfCharUnsafe_4cfef 1 = .ok (.istore 4, 2) := by decide +kernel
theorem dJ2_indexOfCharUnsafe_4cfef_3 : decode cJ2_indexOfCharUnsafe_4cfef 3 = .ok (.iload 4, 2) := by decide +kernel
theorem dJ2_indexOfCharUnsafe_4cfef_5 : decode cJ2_indexOfCharUnsafe_4cfef 5 = .ok (.iload_n 3, 1) := by decide +kernel
theorem dJ2_indexOfCharUnsafe_4cfef_6 : decode cJ2_indexOfCharUnsafe_4cfef 6 = .ok (.if_icmp .ge 22, 3) := by decide +kernel
theorem dJ2_indexOfCharUnsafe_4cfef_9 : decode cJ2_indexOfCharUnsafe_4cfef 9 = .ok (.aload_n 0, 1) := by decide +kernel
theorem dJ2_indexOfCharUnsafe_4cfef_10 : decode cJ2_indexOfCharUnsafe_4cfef 10 = .ok (.iload 4, 2) := by decide +kernel
theorem dJ2_indexOfCharUnsafe_4cfef_12 : decode cJ2_indexOfCharUnsafe_4cfef 12 = .ok (.invokestatic 71, 3) := by decide +kernel
theorem dJ2_indexOfCharUnsafe_4cfef_15 : decode cJ2_indexOfCharUnsafe_4cfef 15 = .ok (.iload_n 1, 1) := by decide +kernel
theorem dJ2_indexOfCharUnsafe_4cfef_16 : decode cJ2_indexOfCharUnsafe_4cfef 16 = .ok (.if_icmp .ne 6, 3) := by decide +kernel
theorem dJ2_indexOfCharUnsafe_4cfef_19 : decode cJ2_indexOfCharUnsafe_4cfef 19 = .ok (.iload 4, 2) := by decide +kernel
theorem dJ2_indexOfCharUnsafe_4cfef_21 : decode cJ2_indexOfCharUnsafe_4cfef 21 = .ok (.ireturn, 1) := by decide +kernel
theorem dJ2_indexOfCharUnsafe_4cfef_22 : decode cJ2_indexOfCharUnsafe_4cfef 22 = .ok (.iinc 4 1, 3) := by decide +kernel
theorem dJ2_indexOfCharUnsafe_4cfef_25 : decode cJ2_indexOfCharUnsafe_4cfef 25 = .ok (.goto (-22), 3) := by decide +kernel
theorem dJ2_indexOfCharUnsafe_4cfef_28 : decode cJ2_indexOfCharUnsafe_4cfef 28 = .ok (.iconst (-1), 1) := by decide +kernel
theorem dJ2_indexOfCharUnsafe_4cfef_29 : decode cJ2_indexOfCharUnsafe_4cfef 29 = .ok (.ireturn, 1) := by decide +kernel
theorem dJ2_indexOfSupplementary_4cfef_0 : decode cJ2_indexOfSupplementary_4cfef 0 = .ok (.iload_n 1, 1) := by decide +kernel
theorem dJ2_indexOfSupplementary_4cfef_1 : decode cJ2_indexOfSupplementary_4cfef 1 = .ok (.invokestatic 164, 3) := by decide +kernel
theorem dJ2_indexOfSupplementary_4cfef_4 : decode cJ2_indexOfSupplementary_4cfef 4 = .ok (.ifCond .eq 65, 3) := by decide +kernel
theorem dJ2_indexOfSupplementary_4cfef_7 : decode cJ2_indexOfSupplementary_4cfef 7 = .ok (.iload_n 1, 1) := by decide +kernel
theorem dJ2_indexOfSupplementary_4cfef_8 : decode cJ2_indexOfSupplementary_4cfef 8 = .ok (.invokestatic 157, 3) := by decide +kernel
theorem dJ2_indexOfSupplementary_4cfef_11 : decode cJ2_indexOfSupplementary_4cfef 11 = .ok (.istore 4, 2) := by decide +kernel
theorem dJ2_indexOfSupplementary_4cfef_13 : decode cJ2_indexOfSupplementary_4cfef 13 = .ok (.iload_n 1, 1) := by decide +kernel
theorem dJ2_indexOfSupplementary_4cfef_14 : decode cJ2_indexOfSupplementary_4cfef 14 = .ok (.invokestatic 161, 3) := by decide +kernel
theorem dJ2_indexOfSupplementary_4cfef_17 : decode cJ2_indexOfSupplementary_4cfef 17 = .ok (.istore 5, 2) := by decide +kernel
theorem dJ2_indexOfSupplementary_4cfef_19 : decode cJ2_indexOfSupplementary_4cfef 19 = .ok (.iload_n 2, 1) := by decide +kernel
theorem dJ2_indexOfSupplementary_4cfef_20 : decode cJ2_indexOfSupplementary_4cfef 20 = .ok (.iload_n 3, 1) := by decide +kernel
theorem dJ2_indexOfSupplementary_4cfef_21 : decode cJ2_indexOfSupplementary_4cfef 21 = .ok (.aload_n 0, 1) := by decide +kernel
theorem dJ2_indexOfSupplementary_4cfef_22 : decode cJ2_indexOfSupplementary_4cfef 22 = .ok (.invokestatic 96, 3) := by decide +kernel
theorem dJ2_indexOfSupplementary_4cfef_25 : decode cJ2_indexOfSupplementary_4cfef 25 = .ok (.iload_n 2, 1) := by decide +kernel
theorem dJ2_indexOfSupplementary_4cfef_26 : decode cJ2_indexOfSupplementary_4cfef 26 = .ok (.istore 6, 2) := by decide +kernel
theorem dJ2_indexOfSupplementary_4cfef_28 : decode cJ2_indexOfSupplementary_4cfef 28 = .ok (.iload 6, 2) := by decide +kernel
theorem dJ2_indexOfSupplementary_4cfef_30 : decode cJ2_indexOfSupplementary_4cfef 30 = .ok (.iload_n 3, 1) := by decide +kernel
theorem dJ2_indexOfSupplementary_4cfef_31 : decode cJ2_indexOfSupplementary_4cfef 31 = .ok (.iconst 1, 1) := by decide +kernel
theorem dJ2_indexOfSupplementary_4cfef_32 : decode cJ2_indexOfSupplementary_4cfef 32 = .ok (.isub, 1) := by decide +kernel
theorem dJ2_indexOfSupplementary_4cfef_33 : decode cJ2_indexOfSupplementary_4cfef 33 = .ok (.if_icmp .ge 36, 3) := by decide +kernel
theorem dJ2_indexOfSupplementary_4cfef_36 : decode cJ2_indexOfSupplementary_4cfef 36 = .ok (.aload_n 0, 1) := by decide +kernel
theorem dJ2_indexOfSupplementary_4cfef_37 : decode cJ2_indexOfSupplementary_4cfef 37 = .ok (.iload 6, 2) := by decide +kernel
theorem dJ2_indexOfSupplementary_4cfef_39 : decode cJ2_indexOfSupplementary_4cfef 39 = .ok (.invokestatic 71, 3) := by decide +kernel
theorem dJ2_indexOfSupplementary_4cfef_42 : decode cJ2_indexOfSupplementary_4cfef 42 = .ok (.iload 4, 2) := by decide +kernel
theorem dJ2_indexOfSupplementary_4cfef_44 : decode cJ2_indexOfSupplementary_4cfef 44 = .ok (.if_icmp .ne 19, 3) := by decide +kernel
theorem dJ2_indexOfSupplementary_4cfef_47 : decode cJ2_indexOfSupplementary_4cfef 47 = .ok (.aload_n 0, 1) := by decide +kernel
theorem dJ2_indexOfSupplementary_4cfef_48 : decode cJ2_indexOfSupplementary_4cfef 48 = .ok (.iload 6, 2) := by decide +kernel
theorem dJ2_indexOfSupplementary_4cfef_50 : decode cJ2_indexOfSupplementary_4cfef 50 = .ok (.iconst 1, 1) := by decide +kernel
theorem dJ2_indexOfSupplementary_4cfef_51 : decode cJ2_indexOfSupplementary_4cfef 51 = .ok (.iadd, 1) := by decide +kernel
theorem dJ2_indexOfSupplementary_4cfef_52 : decode cJ2_indexOfSupplementary_4cfef 52 = .ok (.invokestatic 71, 3) := by decide +kernel
theorem dJ2_indexOfSupplementary_4cfef_55 : decode cJ2_indexOfSupplementary_4cfef 55 = .ok (.iload 5, 2) := by decide +kernel
theorem dJ2_indexOfSupplementary_4cfef_57 : decode cJ2_indexOfSupplementary_4cfef 57 = .ok (.if_icmp .ne 6, 3) := by decide +kernel
theorem dJ2_indexOfSupplementary_4cfef_60 : decode cJ2_indexOfSupplementary_4cfef 60 = .ok (.iload 6, 2) := by decide +kernel
theorem dJ2_indexOfSupplementary_4cfef_62 : decode cJ2_indexOfSupplementary_4cfef 62 = .ok (.ireturn, 1) := by decide +kernel
theorem dJ2_indexOfSupplementary_4cfef_63 : decode cJ2_indexOfSupplementary_4cfef 63 = .ok (.iinc 6 1, 3) := by decide +kernel
theorem dJ2_indexOfSupplementary_4cfef_66 : decode cJ2_indexOfSupplementary_4cfef 66 = .ok (.goto (-38), 3) := by decide +kernel
theorem dJ2_indexOfSupplementary_4cfef_69 : decode cJ2_indexOfSupplementary_4cfef 69 = .ok (.iconst (-1), 1) := by decide +kernel
theorem dJ2_indexOfSupplementary_4cfef_70 : decode cJ2_indexOfSupplementary_4cfef 70 = .ok (.ireturn, 1) := by decide +kernel
theorem dJ2_charAt_3b067_0 : decode cJ2_charAt_3b067 0 = .ok (.iload_n 1, 1) := by decide +kernel
theorem dJ2_charAt_3b067_1 : decode cJ2_charAt_3b067 1 = .ok (.aload_n 0, 1) := by decide +kernel
theorem dJ2_charAt_3b067_2 : decode cJ2_charAt_3b067 2 = .ok (.invokestatic 67, 3) := by decide +kernel
theorem dJ2_charAt_3b067_5 : decode cJ2_charAt_3b067 5 = .ok (.aload_n 0, 1) := by decide +kernel
theorem dJ2_charAt_3b067_6 : decode cJ2_charAt_3b067 6 = .ok (.iload_n 1, 1) := by decide +kernel
theorem dJ2_charAt_3b067_7 : decode cJ2_charAt_3b067 7 = .ok (.invokestatic 71, 3) := by decide +kernel
theorem dJ2_charAt_3b067_10 : decode cJ2_charAt_3b067 10 = .ok (.ireturn, 1) := by decide +kernel
theorem dJ2_checkIndex_2214a_0 : decode cJ2_checkIndex_2214a 0 = .ok (.iload_n 0, 1) := by decide +kernel
theorem dJ2_checkIndex_2214a_1 : decode cJ2_checkIndex_2214a 1 = .ok (.aload_n 1, 1) := by decide +kernel
theorem dJ2_checkIndex_2214a_2 : decode cJ2_checkIndex_2214a 2 = .ok (.invokestatic 48, 3) := by decide +kernel
theorem dJ2_checkIndex_2214a_5 : decode cJ2_checkIndex_2214a 5 = .ok (.invokestatic 414, 3) := by decide +kernel
theorem dJ2_checkIndex_2214a_8 : decode cJ2_checkIndex_2214a 8 = .ok (.return_, 1) := by decide +kernel
theorem dJ2_checkBoundsBeginEnd_d044e_0 : decode cJ2_checkBoundsBeginEnd_d044e 0 = .ok (.iload_n 0, 1) := by decide +kernel
theorem dJ2_checkBoundsBeginEnd_d044e_1 : decode cJ2_checkBoundsBeginEnd_d044e 1 = .ok (.iload_n 1, 1) := by decide +kernel
theorem dJ2_checkBoundsBeginEnd_d044e_2 : decode cJ2_checkBoundsBeginEnd_d044e 2 = .ok (.aload_n 2, 1) := by decide +kernel
theorem dJ2_checkBoundsBeginEnd_d044e_3 : decode cJ2_checkBoundsBeginEnd_d044e 3 = .ok (.invokestatic 48, 3) := by decide +kernel
theorem dJ2_checkBoundsBeginEnd_d044e_6 : decode cJ2_checkBoundsBeginEnd_d044e 6 = .ok (.invokestatic 241, 3) := by decide +kernel
theorem dJ2_checkBoundsBeginEnd_d044e_9 : decode cJ2_checkBoundsBeginEnd_d044e 9 = .ok (.return_, 1) := by decide +kernel
theorem dJ3_checkIndex_8e157_0 : decode cJ3_checkIndex_8e157 0 = .ok (.iload_n 0, 1) := by decide +kernel
theorem dJ3_checkIndex_8e157_1 : decode cJ3_checkIndex_8e157 1 = .ok (.ifCond .lt 8, 3) := by decide +kernel
theorem dJ3_checkIndex_8e157_4 : decode cJ3_checkIndex_8e157 4 = .ok (.iload_n 0, 1) := by decide +kernel
theorem dJ3_checkIndex_8e157_5 : decode cJ3_checkIndex_8e157 5 = .ok (.iload_n 1, 1) := by decide +kernel
theorem dJ3_checkIndex_8e157_6 : decode cJ3_checkIndex_8e157 6 = .ok (.if_icmp .lt 10, 3) := by decide +kernel
theorem dJ3_checkIndex_8e157_9 : decode cJ3_checkIndex_8e157 9 = .ok (.aload_n 2, 1) := by decide +kernel
theorem dJ3_checkIndex_8e157_10 : decode cJ3_checkIndex_8e157 10 = .ok (.iload_n 0, 1) := by decide +kernel
theorem dJ3_checkIndex_8e157_11 : decode cJ3_checkIndex_8e157 11 = .ok (.iload_n 1, 1) := by decide +kernel
theorem dJ3_checkIndex_8e157_12 : decode cJ3_checkIndex_8e157 12 = .ok (.invokestatic 95, 3) := by decide +kernel
theorem dJ3_checkIndex_8e157_15 : decode cJ3_checkIndex_8e157 15 = .ok (.athrow, 1) := by decide +kernel
theorem dJ3_checkIndex_8e157_16 : decode cJ3_checkIndex_8e157 16 = .ok (.iload_n 0, 1) := by decide +kernel
theorem dJ3_checkIndex_8e157_17 : decode cJ3_checkIndex_8e157 17 = .ok (.ireturn, 1) := by decide +kernel
theorem dJ3_checkFromToIndex_8c36e_0 : decode cJ3_checkFromToIndex_8c36e 0 = .ok (.iload_n 0, 1) := by decide +kernel
theorem dJ3_checkFromToIndex_8c36e_1 : decode cJ3_checkFromToIndex_8c36e 1 = .ok (.ifCond .lt 13, 3) := by decide +kernel
theorem dJ3_checkFromToIndex_8c36e_4 : decode cJ3_checkFromToIndex_8c36e 4 = .ok (.iload_n 0, 1) := by decide +kernel
theorem dJ3_checkFromToIndex_8c36e_5 : decode cJ3_checkFromToIndex_8c36e 5 = .ok (.iload_n 1, 1) := by decide +kernel
theorem dJ3_checkFromToIndex_8c36e_6 : decode cJ3_checkFromToIndex_8c36e 6 = .ok (.if_icmp .gt 8, 3) := by decide +kernel
theorem dJ3_checkFromToIndex_8c36e_9 : decode cJ3_checkFromToIndex_8c36e 9 = .ok (.iload_n 1, 1) := by decide +kernel
theorem dJ3_checkFromToIndex_8c36e_10 : decode cJ3_checkFromToIndex_8c36e 10 = .ok (.iload_n 2, 1) := by decide +kernel
theorem dJ3_checkFromToIndex_8c36e_11 : decode cJ3_checkFromToIndex_8c36e 11 = .ok (.if_icmp .le 11, 3) := by decide +kernel
theorem dJ3_checkFromToIndex_8c36e_14 : decode cJ3_checkFromToIndex_8c36e 14 = .ok (.aload_n 3, 1) := by decide +kernel
theorem dJ3_checkFromToIndex_8c36e_15 : decode cJ3_checkFromToIndex_8c36e 15 = .ok (.iload_n 0, 1) := by decide +kernel
theorem dJ3_checkFromToIndex_8c36e_16 : decode cJ3_checkFromToIndex_8c36e 16 = .ok (.iload_n 1, 1) := by decide +kernel
theorem dJ3_checkFromToIndex_8c36e_17 : decode cJ3_checkFromToIndex_8c36e 17 = .ok (.iload_n 2, 1) := by decide +kernel
theorem dJ3_checkFromToIndex_8c36e_18 : decode cJ3_checkFromToIndex_8c36e 18 = .ok (.invokestatic 99, 3) := by decide +kernel
theorem dJ3_checkFromToIndex_8c36e_21 : decode cJ3_checkFromToIndex_8c36e 21 = .ok (.athrow, 1) := by decide +kernel
theorem dJ3_checkFromToIndex_8c36e_22 : decode cJ3_checkFromToIndex_8c36e 22 = .ok (.iload_n 0, 1) := by decide +kernel
theorem dJ3_checkFromToIndex_8c36e_23 : decode cJ3_checkFromToIndex_8c36e 23 = .ok (.ireturn, 1) := by decide +kernel
end
section
theorem dX9_init_0 : decode cX9_init 0 = .ok (.aload_n 0, 1) := by decide +kernel
theorem dX9_init_1 : decode cX9_init 1 = .ok (.invokespecial 1, 3) := by decide +kernel
theorem dX9_init_4 : decode cX9_init 4 = .ok (.aload_n 0, 1) := by decide +kernel
theorem dX9_init_5 : decode cX9_init 5 = .ok (.bipush 7, 2) := by decide +kernel
theorem dX9_init_7 : decode cX9_init 7 = .ok (.newarray .int, 2) := by decide +kernel
theorem dX9_init_9 : decode cX9_init 9 = .ok (.putfield 7, 3) := by decide +kernel
theorem dX9_init_12 : decode cX9_init 12 = .ok (.aload_n 0, 1) := by decide +kernel
theorem dX9_init_13 : decode cX9_init 13 = .ok (.sipush 189, 3) := by decide +kernel
theorem dX9_init_16 : decode cX9_init 16 = .ok (.newarray .int, 2) := by decide +kernel
theorem dX9_init_18 : decode cX9_init 18 = .ok (.putfield 13, 3) := by decide +kernel
theorem dX9_init_21 : decode cX9_init 21 = .ok (.aload_n 0, 1) := by decide +kernel
theorem dX9_init_22 : decode cX9_init 22 = .ok (.sipush 189, 3) := by decide +kernel
theorem dX9_init_25 : decode cX9_init 25 = .ok (.newarray .int, 2) := by decide +kernel
theorem dX9_init_27 : decode cX9_init 27 = .ok (.putfield 16, 3) := by decide +kernel
theorem dX9_init_30 : decode cX9_init 30 = .ok (.aload_n 0, 1) := by decide +kernel
theorem dX9_init_31 : decode cX9_init 31 = .ok (.sipush 189, 3) := by decide +kernel
theorem dX9_init_34 : decode cX9_init 34 = .ok (.newarray .int, 2) := by decide +kernel
theorem dX9_init_36 : decode cX9_init 36 = .ok (.putfield 19, 3) := by decide +kernel
theorem dX9_init_39 : decode cX9_init 39 = .ok (.aload_n 0, 1) := by decide +kernel
theorem dX9_init_40 : decode cX9_init 40 = .ok (.sipush 189, 3) := by decide +kernel
theorem dX9_init_43 : decode cX9_init 43 = .ok (.newarray .int, 2) := by decide +kernel
theorem dX9_init_45 : decode cX9_init 45 = .ok (.putfield 22, 3) := by decide +kernel
theorem dX9_init_48 : decode cX9_init 48 = .ok (.aload_n 0, 1) := by decide +kernel
theorem dX9_init_49 : decode cX9_init 49 = .ok (.bipush 64, 2) := by decide +kernel
theorem dX9_init_51 : decode cX9_init 51 = .ok (.newarray .int, 2) := by decide +kernel
theorem dX9_init_53 : decode cX9_init 53 = .ok (.putfield 25, 3) := by decide +kernel
theorem dX9_init_56 : decode cX9_init 56 = .ok (.aload_n 0, 1) := by decide +kernel
theorem dX9_init_57 : decode cX9_init 57 = .ok (.bipush 6, 2) := by decide +kernel
theorem dX9_init_59 : decode cX9_init 59 = .ok (.newarray .int, 2) := by decide +kernel
theorem dX9_init_61 : decode cX9_init 61 = .ok (.putfield 28, 3) := by decide +kernel
theorem dX9_init_64 : decode cX9_init 64 = .ok (.aload_n 0, 1) := by decide +kernel
theorem dX9_init_65 : decode cX9_init 65 = .ok (.bipush (-9), 2) := by decide +kernel
theorem dX9_init_67 : decode cX9_init 67 = .ok (.putfield 31, 3) := by decide +kernel
theorem dX9_init_70 : decode cX9_init 70 = .ok (.aload_n 0, 1) := by decide +kernel
theorem dX9_init_71 : decode cX9_init 71 = .ok (.bipush 7, 2) := by decide +kernel
theorem dX9_init_73 : decode cX9_init 73 = .ok (.newarray .int, 2) := by decide +kernel
theorem dX9_init_75 : decode cX9_init 75 = .ok (.putfield 35, 3) := by decide +kernel
theorem dX9_init_78 : decode cX9_init 78 = .ok (.aload_n 0, 1) := by decide +kernel
theorem dX9_init_79 : decode cX9_init 79 = .ok (.bipush 7, 2) := by decide +kernel
theorem dX9_init_81 : decode cX9_init 81 = .ok (.newarray .int, 2) := by decide +kernel
theorem dX9_init_83 : decode cX9_init 83 = .ok (.putfield 38, 3) := by decide +kernel
theorem dX9_init_86 : decode cX9_init 86 = .ok (.aload_n 0, 1) := by decide +kernel
theorem dX9_init_87 : decode cX9_init 87 = .ok (.bipush 6, 2) := by decide +kernel
theorem dX9_init_89 : decode cX9_init 89 = .ok (.newarray .int, 2) := by decide +kernel
theorem dX9_init_91 : decode cX9_init 91 = .ok (.putfield 41, 3) := by decide +kernel
theorem dX9_init_94 : decode cX9_init 94 = .ok (.aload_n 0, 1) := by decide +kernel
theorem dX9_init_95 : decode cX9_init 95 = .ok (.bipush 6, 2) := by decide +kernel
theorem dX9_init_97 : decode cX9_init 97 = .ok (.newarray .int, 2) := by decide +kernel
theorem dX9_init_99 : decode cX9_init 99 = .ok (.putfield 44, 3) := by decide +kernel
theorem dX9_init_102 : decode cX9_init 102 = .ok (.aload_n 0, 1) := by decide +kernel
theorem dX9_init_103 : decode cX9_init 103 = .ok (.bipush 28, 2) := by decide +kernel
theorem dX9_init_105 : decode cX9_init 105 = .ok (.newarray .int, 2) := by decide +kernel
theorem dX9_init_107 : decode cX9_init 107 = .ok (.putfield 47, 3) := by decide +kernel
theorem dX9_init_110 : decode cX9_init 110 = .ok (.aload_n 0, 1) := by decide +kernel
theorem dX9_init_111 : decode cX9_init 111 = .ok (.getfield 13, 3) := by decide +kernel
theorem dX9_init_114 : decode cX9_init 114 = .ok (.iconst 3, 1) := by decide +kernel
theorem dX9_init_115 : decode cX9_init 115 = .ok (.bipush (-9), 2) := by decide +kernel
theorem dX9_init_117 : decode cX9_init 117 = .ok (.iastore, 1) := by decide +kernel
theorem dX9_init_118 : decode cX9_init 118 = .ok (.iconst 0, 1) := by decide +kernel
theorem dX9_init_119 : decode cX9_init 119 = .ok (.istore_n 1, 1) := by decide +kernel
theorem dX9_init_120 : decode cX9_init 120 = .ok (.iload_n 1, 1) := by decide +kernel
theorem dX9_init_121 : decode cX9_init 121 = .ok (.iconst 4, 1) := by decide +kernel
theorem dX9_init_122 : decode cX9_init 122 = .ok (.if_icmp .ge 19, 3) := by decide +kernel
theorem dX9_init_125 : decode cX9_init 125 = .ok (.aload_n 0, 1) := by decide +kernel
theorem dX9_init_126 : decode cX9_init 126 = .ok (.getfield 13, 3) := by decide +kernel
theorem dX9_init_129 : decode cX9_init 129 = .ok (.iconst 5, 1) := by decide +kernel
theorem dX9_init_130 : decode cX9_init 130 = .ok (.iload_n 1, 1) := by decide +kernel
theorem dX9_init_131 : decode cX9_init 131 = .ok (.iadd, 1) := by decide +kernel
theorem dX9_init_132 : decode cX9_init 132 = .ok (.bipush 100, 2) := by decide +kernel
theorem dX9_init_134 : decode cX9_init 134 = .ok (.iastore, 1) := by decide +kernel
theorem dX9_init_135 : decode cX9_init 135 = .ok (.iinc 1 1, 3) := by decide +kernel
theorem dX9_init_138 : decode cX9_init 138 = .ok (.goto (-18), 3) := by decide +kernel
theorem dX9_init_141 : decode cX9_init 141 = .ok (.iconst 0, 1) := by decide +kernel
theorem dX9_init_142 : decode cX9_init 142 = .ok (.istore_n 1, 1) := by decide +kernel
theorem dX9_init_143 : decode cX9_init 143 = .ok (.iload_n 1, 1) := by decide +kernel
theorem dX9_init_144 : decode cX9_init 144 = .ok (.bipush 8, 2) := by decide +kernel
theorem dX9_init_146 : decode cX9_init 146 = .ok (.if_icmp .ge 24, 3) := by decide +kernel
theorem dX9_init_149 : decode cX9_init 149 = .ok (.aload_n 0, 1) := by decide +kernel
theorem dX9_init_150 : decode cX9_init 150 = .ok (.getfield 13, 3) := by decide +kernel
theorem dX9_init_153 : decode cX9_init 153 = .ok (.bipush 121, 2) := by decide +kernel
theorem dX9_init_155 : decode cX9_init 155 = .ok (.iconst 4, 1) := by decide +kernel
theorem dX9_init_156 : decode cX9_init 156 = .ok (.iload_n 1, 1) := by decide +kernel
theorem dX9_init_157 : decode cX9_init 157 = .ok (.imul, 1) := by decide +kernel
theorem dX9_init_158 : decode cX9_init 158 = .ok (.iadd, 1) := by decide +kernel
theorem dX9_init_159 : decode cX9_init 159 = .ok (.iconst 3, 1) := by decide +kernel
theorem dX9_init_160 : decode cX9_init 160 = .ok (.iadd, 1) := by decide +kernel
theorem dX9_init_161 : decode cX9_init 161 = .ok (.bipush (-9), 2) := by decide +kernel
theorem dX9_init_163 : decode cX9_init 163 = .ok (.iastore, 1) := by decide +kernel
theorem dX9_init_164 : decode cX9_init 164 = .ok (.iinc 1 1, 3) := by decide +kernel
theorem dX9_init_167 : decode cX9_init 167 = .ok (.goto (-24), 3) := by decide +kernel
theorem dX9_init_170 : decode cX9_init 170 = .ok (.return_, 1) := by decide +kernel
theorem dX9_refuse_0 : decode cX9_refuse 0 = .ok (.aload_n 0, 1) := by decide +kernel
theorem dX9_refuse_1 : decode cX9_refuse 1 = .ok (.getfield 7, 3) := by decide +kernel
theorem dX9_refuse_4 : decode cX9_refuse 4 = .ok (.iload_n 1, 1) := by decide +kernel
theorem dX9_refuse_5 : decode cX9_refuse 5 = .ok (.ineg, 1) := by decide +kernel
theorem dX9_refuse_6 : decode cX9_refuse 6 = .ok (.dup2, 1) := by decide +kernel
theorem dX9_refuse_7 : decode cX9_refuse 7 = .ok (.iaload, 1) := by decide +kernel
theorem dX9_refuse_8 : decode cX9_refuse 8 = .ok (.iconst 1, 1) := by decide +kernel
theorem dX9_refuse_9 : decode cX9_refuse 9 = .ok (.iadd, 1) := by decide +kernel
theorem dX9_refuse_10 : decode cX9_refuse 10 = .ok (.iastore, 1) := by decide +kernel
theorem dX9_refuse_11 : decode cX9_refuse 11 = .ok (.iload_n 1, 1) := by decide +kernel
theorem dX9_refuse_12 : decode cX9_refuse 12 = .ok (.ireturn, 1) := by decide +kernel
theorem dX9_isIn_0 : decode cX9_isIn 0 = .ok (.iload_n 0, 1) := by decide +kernel
theorem dX9_isIn_1 : decode cX9_isIn 1 = .ok (.ifCond .lt 12, 3) := by decide +kernel
theorem dX9_isIn_4 : decode cX9_isIn 4 = .ok (.iload_n 0, 1) := by decide +kernel
theorem dX9_isIn_5 : decode cX9_isIn 5 = .ok (.iload_n 1, 1) := by decide +kernel
theorem dX9_isIn_6 : decode cX9_isIn 6 = .ok (.if_icmp .ge 7, 3) := by decide +kernel
theorem dX9_isIn_9 : decode cX9_isIn 9 = .ok (.iconst 1, 1) := by decide +kernel
theorem dX9_isIn_10 : decode cX9_isIn 10 = .ok (.goto 4, 3) := by decide +kernel
theorem dX9_isIn_13 : decode cX9_isIn 13 = .ok (.iconst 0, 1) := by decide +kernel
theorem dX9_isIn_14 : decode cX9_isIn 14 = .ok (.ireturn, 1) := by decide +kernel
theorem dX9_within_0 : decode cX9_within 0 = .ok (.iload_n 0, 1) := by decide +kernel
theorem dX9_within_1 : decode cX9_within 1 = .ok (.iload_n 1, 1) := by decide +kernel
theorem dX9_within_2 : decode cX9_within 2 = .ok (.if_icmp .ge 8, 3) := by decide +kernel
theorem dX9_within_5 : decode cX9_within 5 = .ok (.bipush (-4), 2) := by decide +kernel
theorem dX9_within_7 : decode cX9_within 7 = .ok (.goto 14, 3) := by decide +kernel
theorem dX9_within_10 : decode cX9_within 10 = .ok (.iload_n 0, 1) := by decide +kernel
theorem dX9_within_11 : decode cX9_within 11 = .ok (.iload_n 2, 1) := by decide +kernel
theorem dX9_within_12 : decode cX9_within 12 = .ok (.if_icmp .le 8, 3) := by decide +kernel
theorem dX9_within_15 : decode cX9_within 15 = .ok (.bipush (-6), 2) := by decide +kernel
theorem dX9_within_17 : decode cX9_within 17 = .ok (.goto 4, 3) := by decide +kernel
theorem dX9_within_20 : decode cX9_within 20 = .ok (.iconst 0, 1) := by decide +kernel
theorem dX9_within_21 : decode cX9_within 21 = .ok (.ireturn, 1) := by decide +kernel
theorem dX9_isHolder_0 : decode cX9_isHolder 0 = .ok (.iload_n 1, 1) := by decide +kernel
theorem dX9_isHolder_1 : decode cX9_isHolder 1 = .ok (.aload_n 0, 1) := by decide +kernel
theorem dX9_isHolder_2 : decode cX9_isHolder 2 = .ok (.getfield 13, 3) := by decide +kernel
theorem dX9_isHolder_5 : decode cX9_isHolder 5 = .ok (.iconst 0, 1) := by decide +kernel
theorem dX9_isHolder_6 : decode cX9_isHolder 6 = .ok (.iaload, 1) := by decide +kernel
theorem dX9_isHolder_7 : decode cX9_isHolder 7 = .ok (.invokestatic 50, 3) := by decide +kernel
theorem dX9_isHolder_10 : decode cX9_isHolder 10 = .ok (.ireturn, 1) := by decide +kernel
theorem dX9_isWork_0 : decode cX9_isWork 0 = .ok (.iload_n 1, 1) := by decide +kernel
theorem dX9_isWork_1 : decode cX9_isWork 1 = .ok (.aload_n 0, 1) := by decide +kernel
theorem dX9_isWork_2 : decode cX9_isWork 2 = .ok (.getfield 13, 3) := by decide +kernel
theorem dX9_isWork_5 : decode cX9_isWork 5 = .ok (.iconst 1, 1) := by decide +kernel
theorem dX9_isWork_6 : decode cX9_isWork 6 = .ok (.iaload, 1) := by decide +kernel
theorem dX9_isWork_7 : decode cX9_isWork 7 = .ok (.invokestatic 50, 3) := by decide +kernel
theorem dX9_isWork_10 : decode cX9_isWork 10 = .ok (.ireturn, 1) := by decide +kernel
theorem dX9_isHour_0 : decode cX9_isHour 0 = .ok (.iload_n 0, 1) := by decide +kernel
theorem dX9_isHour_1 : decode cX9_isHour 1 = .ok (.bipush 28, 2) := by decide +kernel
theorem dX9_isHour_3 : decode cX9_isHour 3 = .ok (.invokestatic 50, 3) := by decide +kernel
theorem dX9_isHour_6 : decode cX9_isHour 6 = .ok (.ireturn, 1) := by decide +kernel
theorem dX9_get_0 : decode cX9_get 0 = .ok (.aload_n 0, 1) := by decide +kernel
theorem dX9_get_1 : decode cX9_get 1 = .ok (.getfield 13, 3) := by decide +kernel
theorem dX9_get_4 : decode cX9_get 4 = .ok (.bipush 121, 2) := by decide +kernel
theorem dX9_get_6 : decode cX9_get 6 = .ok (.iconst 4, 1) := by decide +kernel
theorem dX9_get_7 : decode cX9_get 7 = .ok (.iload_n 1, 1) := by decide +kernel
theorem dX9_get_8 : decode cX9_get 8 = .ok (.imul, 1) := by decide +kernel
theorem dX9_get_9 : decode cX9_get 9 = .ok (.iadd, 1) := by decide +kernel
theorem dX9_get_10 : decode cX9_get 10 = .ok (.iload_n 2, 1) := by decide +kernel
theorem dX9_get_11 : decode cX9_get 11 = .ok (.iadd, 1) := by decide +kernel
theorem dX9_get_12 : decode cX9_get 12 = .ok (.iaload, 1) := by decide +kernel
theorem dX9_get_13 : decode cX9_get 13 = .ok (.ireturn, 1) := by decide +kernel
theorem dX9_of_0 : decode cX9_of 0 = .ok (.aload_n 0, 1) := by decide +kernel
theorem dX9_of_1 : decode cX9_of 1 = .ok (.getfield 13, 3) := by decide +kernel
theorem dX9_of_4 : decode cX9_of 4 = .ok (.sipush 153, 3) := by decide +kernel
theorem dX9_of_7 : decode cX9_of 7 = .ok (.bipush 6, 2) := by decide +kernel
theorem dX9_of_9 : decode cX9_of 9 = .ok (.iload_n 1, 1) := by decide +kernel
theorem dX9_of_10 : decode cX9_of 10 = .ok (.imul, 1) := by decide +kernel
theorem dX9_of_11 : decode cX9_of 11 = .ok (.iadd, 1) := by decide +kernel
theorem dX9_of_12 : decode cX9_of 12 = .ok (.iload_n 2, 1) := by decide +kernel
theorem dX9_of_13 : decode cX9_of 13 = .ok (.iadd, 1) := by decide +kernel
theorem dX9_of_14 : decode cX9_of 14 = .ok (.iaload, 1) := by decide +kernel
theorem dX9_of_15 : decode cX9_of 15 = .ok (.ireturn, 1) := by decide +kernel
theorem dX9_feed_0 : decode cX9_feed 0 = .ok (.iload_n 1, 1) := by decide +kernel
theorem dX9_feed_1 : decode cX9_feed 1 = .ok (.iconst 1, 1) := by decide +kernel
theorem dX9_feed_2 : decode cX9_feed 2 = .ok (.if_icmp .ge 10, 3) := by decide +kernel
theorem dX9_feed_5 : decode cX9_feed 5 = .ok (.aload_n 0, 1) := by decide +kernel
theorem dX9_feed_6 : decode cX9_feed 6 = .ok (.bipush (-4), 2) := by decide +kernel
theorem dX9_feed_8 : decode cX9_feed 8 = .ok (.invokevirtual 54, 3) := by decide +kernel
theorem dX9_feed_11 : decode cX9_feed 11 = .ok (.ireturn, 1) := by decide +kernel
theorem dX9_feed_12 : decode cX9_feed 12 = .ok (.iload_n 1, 1) := by decide +kernel
theorem dX9_feed_13 : decode cX9_feed 13 = .ok (.bipush 8, 2) := by decide +kernel
theorem dX9_feed_15 : decode cX9_feed 15 = .ok (.if_icmp .gt 14, 3) := by decide +kernel
theorem dX9_feed_18 : decode cX9_feed 18 = .ok (.aload_n 0, 1) := by decide +kernel
theorem dX9_feed_19 : decode cX9_feed 19 = .ok (.getfield 58, 3) := by decide +kernel
theorem dX9_feed_22 : decode cX9_feed 22 = .ok (.iload_n 1, 1) := by decide +kernel
theorem dX9_feed_23 : decode cX9_feed 23 = .ok (.iadd, 1) := by decide +kernel
theorem dX9_feed_24 : decode cX9_feed 24 = .ok (.bipush 64, 2) := by decide +kernel
theorem dX9_feed_26 : decode cX9_feed 26 = .ok (.if_icmp .le 10, 3) := by decide +kernel
theorem dX9_feed_29 : decode cX9_feed 29 = .ok (.aload_n 0, 1) := by decide +kernel
theorem dX9_feed_30 : decode cX9_feed 30 = .ok (.bipush (-6), 2) := by decide +kernel
theorem dX9_feed_32 : decode cX9_feed 32 = .ok (.invokevirtual 54, 3) := by decide +kernel
theorem dX9_feed_35 : decode cX9_feed 35 = .ok (.ireturn, 1) := by decide +kernel
theorem dX9_feed_36 : decode cX9_feed 36 = .ok (.iconst 0, 1) := by decide +kernel
theorem dX9_feed_37 : decode cX9_feed 37 = .ok (.istore 4, 2) := by decide +kernel
theorem dX9_feed_39 : decode cX9_feed 39 = .ok (.iload 4, 2) := by decide +kernel
theorem dX9_feed_41 : decode cX9_feed 41 = .ok (.iload_n 1, 1) := by decide +kernel
theorem dX9_feed_42 : decode cX9_feed 42 = .ok (.if_icmp .ge 40, 3) := by decide +kernel
theorem dX9_feed_45 : decode cX9_feed 45 = .ok (.aload_n 0, 1) := by decide +kernel
theorem dX9_feed_46 : decode cX9_feed 46 = .ok (.getfield 25, 3) := by decide +kernel
theorem dX9_feed_49 : decode cX9_feed 49 = .ok (.aload_n 0, 1) := by decide +kernel
theorem dX9_feed_50 : decode cX9_feed 50 = .ok (.getfield 58, 3) := by decide +kernel
theorem dX9_feed_53 : decode cX9_feed 53 = .ok (.lload_n 2, 1) := by decide +kernel
theorem dX9_feed_54 : decode cX9_feed 54 = .ok (.bipush 8, 2) := by decide +kernel
theorem dX9_feed_56 : decode cX9_feed 56 = .ok (.iload 4, 2) := by decide +kernel
theorem dX9_feed_58 : decode cX9_feed 58 = .ok (.imul, 1) := by decide +kernel
theorem dX9_feed_59 : decode cX9_feed 59 = .ok (.lshr, 1) := by decide +kernel
theorem dX9_feed_60 : decode cX9_feed 60 = .ok (.ldc2_w 61, 3) := by decide +kernel
theorem dX9_feed_63 : decode cX9_feed 63 = .ok (.land, 1) := by decide +kernel
theorem dX9_feed_64 : decode cX9_feed 64 = .ok (.l2i, 1) := by decide +kernel
theorem dX9_feed_65 : decode cX9_feed 65 = .ok (.iastore, 1) := by decide +kernel
theorem dX9_feed_66 : decode cX9_feed 66 = .ok (.aload_n 0, 1) := by decide +kernel
theorem dX9_feed_67 : decode cX9_feed 67 = .ok (.dup, 1) := by decide +kernel
theorem dX9_feed_68 : decode cX9_feed 68 = .ok (.getfield 58, 3) := by decide +kernel
theorem dX9_feed_71 : decode cX9_feed 71 = .ok (.iconst 1, 1) := by decide +kernel
theorem dX9_feed_72 : decode cX9_feed 72 = .ok (.iadd, 1) := by decide +kernel
theorem dX9_feed_73 : decode cX9_feed 73 = .ok (.putfield 58, 3) := by decide +kernel
theorem dX9_feed_76 : decode cX9_feed 76 = .ok (.iinc 4 1, 3) := by decide +kernel
theorem dX9_feed_79 : decode cX9_feed 79 = .ok (.goto (-40), 3) := by decide +kernel
theorem dX9_feed_82 : decode cX9_feed 82 = .ok (.aload_n 0, 1) := by decide +kernel
theorem dX9_feed_83 : decode cX9_feed 83 = .ok (.getfield 58, 3) := by decide +kernel
theorem dX9_feed_86 : decode cX9_feed 86 = .ok (.ireturn, 1) := by decide +kernel
theorem dX9_sign_0 : decode cX9_sign 0 = .ok (.aload_n 0, 1) := by decide +kernel
theorem dX9_sign_1 : decode cX9_sign 1 = .ok (.getfield 63, 3) := by decide +kernel
theorem dX9_sign_4 : decode cX9_sign 4 = .ok (.aload_n 0, 1) := by decide +kernel
theorem dX9_sign_5 : decode cX9_sign 5 = .ok (.getfield 58, 3) := by decide +kernel
theorem dX9_sign_8 : decode cX9_sign 8 = .ok (.if_icmp .lt 7, 3) := by decide +kernel
theorem dX9_sign_11 : decode cX9_sign 11 = .ok (.iconst (-1), 1) := by decide +kernel
theorem dX9_sign_12 : decode cX9_sign 12 = .ok (.goto 12, 3) := by decide +kernel
theorem dX9_sign_15 : decode cX9_sign 15 = .ok (.aload_n 0, 1) := by decide +kernel
theorem dX9_sign_16 : decode cX9_sign 16 = .ok (.getfield 25, 3) := by decide +kernel
theorem dX9_sign_19 : decode cX9_sign 19 = .ok (.aload_n 0, 1) := by decide +kernel
theorem dX9_sign_20 : decode cX9_sign 20 = .ok (.getfield 63, 3) := by decide +kernel
theorem dX9_sign_23 : decode cX9_sign 23 = .ok (.iaload, 1) := by decide +kernel
theorem dX9_sign_24 : decode cX9_sign 24 = .ok (.ireturn, 1) := by decide +kernel
theorem dX9_takes_0 : decode cX9_takes 0 = .ok (.aload_n 0, 1) := by decide +kernel
theorem dX9_takes_1 : decode cX9_takes 1 = .ok (.invokevirtual 66, 3) := by decide +kernel
theorem dX9_takes_4 : decode cX9_takes 4 = .ok (.iload_n 1, 1) := by decide +kernel
theorem dX9_takes_5 : decode cX9_takes 5 = .ok (.if_icmp .eq 5, 3) := by decide +kernel
theorem dX9_takes_8 : decode cX9_takes 8 = .ok (.iconst 0, 1) := by decide +kernel
theorem dX9_takes_9 : decode cX9_takes 9 = .ok (.ireturn, 1) := by decide +kernel
theorem dX9_takes_10 : decode cX9_takes 10 = .ok (.aload_n 0, 1) := by decide +kernel
theorem dX9_takes_11 : decode cX9_takes 11 = .ok (.dup, 1) := by decide +kernel
theorem dX9_takes_12 : decode cX9_takes 12 = .ok (.getfield 63, 3) := by decide +kernel
theorem dX9_takes_15 : decode cX9_takes 15 = .ok (.iconst 1, 1) := by decide +kernel
theorem dX9_takes_16 : decode cX9_takes 16 = .ok (.iadd, 1) := by decide +kernel
theorem dX9_takes_17 : decode cX9_takes 17 = .ok (.putfield 63, 3) := by decide +kernel
theorem dX9_takes_20 : decode cX9_takes 20 = .ok (.iconst 1, 1) := by decide +kernel
theorem dX9_takes_21 : decode cX9_takes 21 = .ok (.ireturn, 1) := by decide +kernel
theorem dX9_readsNumber_0 : decode cX9_readsNumber 0 = .ok (.aload_n 0, 1) := by decide +kernel
theorem dX9_readsNumber_1 : decode cX9_readsNumber 1 = .ok (.getfield 28, 3) := by decide +kernel
theorem dX9_readsNumber_4 : decode cX9_readsNumber 4 = .ok (.iload_n 1, 1) := by decide +kernel
theorem dX9_readsNumber_5 : decode cX9_readsNumber 5 = .ok (.iconst 0, 1) := by decide +kernel
theorem dX9_readsNumber_6 : decode cX9_readsNumber 6 = .ok (.iastore, 1) := by decide +kernel
theorem dX9_readsNumber_7 : decode cX9_readsNumber 7 = .ok (.iconst 0, 1) := by decide +kernel
theorem dX9_readsNumber_8 : decode cX9_readsNumber 8 = .ok (.istore_n 3, 1) := by decide +kernel
theorem dX9_readsNumber_9 : decode cX9_readsNumber 9 = .ok (.iload_n 3, 1) := by decide +kernel
theorem dX9_readsNumber_10 : decode cX9_readsNumber 10 = .ok (.iload_n 2, 1) := by decide +kernel
theorem dX9_readsNumber_11 : decode cX9_readsNumber 11 = .ok (.if_icmp .ge 60, 3) := by decide +kernel
theorem dX9_readsNumber_14 : decode cX9_readsNumber 14 = .ok (.aload_n 0, 1) := by decide +kernel
theorem dX9_readsNumber_15 : decode cX9_readsNumber 15 = .ok (.invokevirtual 66, 3) := by decide +kernel
theorem dX9_readsNumber_18 : decode cX9_readsNumber 18 = .ok (.bipush 48, 2) := by decide +kernel
theorem dX9_readsNumber_20 : decode cX9_readsNumber 20 = .ok (.if_icmp .lt 51, 3) := by decide +kernel
theorem dX9_readsNumber_23 : decode cX9_readsNumber 23 = .ok (.aload_n 0, 1) := by decide +kernel
theorem dX9_readsNumber_24 : decode cX9_readsNumber 24 = .ok (.invokevirtual 66, 3) := by decide +kernel
theorem dX9_readsNumber_27 : decode cX9_readsNumber 27 = .ok (.bipush 57, 2) := by decide +kernel
theorem dX9_readsNumber_29 : decode cX9_readsNumber 29 = .ok (.if_icmp .gt 42, 3) := by decide +kernel
theorem dX9_readsNumber_32 : decode cX9_readsNumber 32 = .ok (.aload_n 0, 1) := by decide +kernel
theorem dX9_readsNumber_33 : decode cX9_readsNumber 33 = .ok (.getfield 28, 3) := by decide +kernel
theorem dX9_readsNumber_36 : decode cX9_readsNumber 36 = .ok (.iload_n 1, 1) := by decide +kernel
theorem dX9_readsNumber_37 : decode cX9_readsNumber 37 = .ok (.bipush 10, 2) := by decide +kernel
theorem dX9_readsNumber_39 : decode cX9_readsNumber 39 = .ok (.aload_n 0, 1) := by decide +kernel
theorem dX9_readsNumber_40 : decode cX9_readsNumber 40 = .ok (.getfield 28, 3) := by decide +kernel
theorem dX9_readsNumber_43 : decode cX9_readsNumber 43 = .ok (.iload_n 1, 1) := by decide +kernel
theorem dX9_readsNumber_44 : decode cX9_readsNumber 44 = .ok (.iaload, 1) := by decide +kernel
theorem dX9_readsNumber_45 : decode cX9_readsNumber 45 = .ok (.imul, 1) := by decide +kernel
theorem dX9_readsNumber_46 : decode cX9_readsNumber 46 = .ok (.aload_n 0, 1) := by decide +kernel
theorem dX9_readsNumber_47 : decode cX9_readsNumber 47 = .ok (.invokevirtual 66, 3) := by decide +kernel
theorem dX9_readsNumber_50 : decode cX9_readsNumber 50 = .ok (.iadd, 1) := by decide +kernel
theorem dX9_readsNumber_51 : decode cX9_readsNumber 51 = .ok (.bipush 48, 2) := by decide +kernel
theorem dX9_readsNumber_53 : decode cX9_readsNumber 53 = .ok (.isub, 1) := by decide +kernel
theorem dX9_readsNumber_54 : decode cX9_readsNumber 54 = .ok (.iastore, 1) := by decide +kernel
theorem dX9_readsNumber_55 : decode cX9_readsNumber 55 = .ok (.aload_n 0, 1) := by decide +kernel
theorem dX9_readsNumber_56 : decode cX9_readsNumber 56 = .ok (.dup, 1) := by decide +kernel
theorem dX9_readsNumber_57 : decode cX9_readsNumber 57 = .ok (.getfield 63, 3) := by decide +kernel
theorem dX9_readsNumber_60 : decode cX9_readsNumber 60 = .ok (.iconst 1, 1) := by decide +kernel
theorem dX9_readsNumber_61 : decode cX9_readsNumber 61 = .ok (.iadd, 1) := by decide +kernel
theorem dX9_readsNumber_62 : decode cX9_readsNumber 62 = .ok (.putfield 63, 3) := by decide +kernel
theorem dX9_readsNumber_65 : decode cX9_readsNumber 65 = .ok (.iinc 3 1, 3) := by decide +kernel
theorem dX9_readsNumber_68 : decode cX9_readsNumber 68 = .ok (.goto (-59), 3) := by decide +kernel
theorem dX9_readsNumber_71 : decode cX9_readsNumber 71 = .ok (.iload_n 3, 1) := by decide +kernel
theorem dX9_readsNumber_72 : decode cX9_readsNumber 72 = .ok (.ifCond .le 7, 3) := by decide +kernel
theorem dX9_readsNumber_75 : decode cX9_readsNumber 75 = .ok (.iconst 1, 1) := by decide +kernel
theorem dX9_readsNumber_76 : decode cX9_readsNumber 76 = .ok (.goto 4, 3) := by decide +kernel
theorem dX9_readsNumber_79 : decode cX9_readsNumber 79 = .ok (.iconst 0, 1) := by decide +kernel
theorem dX9_readsNumber_80 : decode cX9_readsNumber 80 = .ok (.ireturn, 1) := by decide +kernel
theorem dX9_kindOf_0 : decode cX9_kindOf 0 = .ok (.iload_n 0, 1) := by decide +kernel
theorem dX9_kindOf_1 : decode cX9_kindOf 1 = .ok (.tableswitch 94 106 121 #[85, 87, 94, 94, 89, 79, 94, 94, 94, 83, 91, 94, 94, 94, 94, 81], 79) := by decide +kernel
theorem dX9_kindOf_80 : decode cX9_kindOf 80 = .ok (.iconst 0, 1) := by decide +kernel
theorem dX9_kindOf_81 : decode cX9_kindOf 81 = .ok (.ireturn, 1) := by decide +kernel
theorem dX9_kindOf_82 : decode cX9_kindOf 82 = .ok (.iconst 1, 1) := by decide +kernel
theorem dX9_kindOf_83 : decode cX9_kindOf 83 = .ok (.ireturn, 1) := by decide +kernel
theorem dX9_kindOf_84 : decode cX9_kindOf 84 = .ok (.iconst 2, 1) := by decide +kernel
theorem dX9_kindOf_85 : decode cX9_kindOf 85 = .ok (.ireturn, 1) := by decide +kernel
theorem dX9_kindOf_86 : decode cX9_kindOf 86 = .ok (.iconst 3, 1) := by decide +kernel
theorem dX9_kindOf_87 : decode cX9_kindOf 87 = .ok (.ireturn, 1) := by decide +kernel
theorem dX9_kindOf_88 : decode cX9_kindOf 88 = .ok (.iconst 4, 1) := by decide +kernel
theorem dX9_kindOf_89 : decode cX9_kindOf 89 = .ok (.ireturn, 1) := by decide +kernel
theorem dX9_kindOf_90 : decode cX9_kindOf 90 = .ok (.iconst 5, 1) := by decide +kernel
theorem dX9_kindOf_91 : decode cX9_kindOf 91 = .ok (.ireturn, 1) := by decide +kernel
theorem dX9_kindOf_92 : decode cX9_kindOf 92 = .ok (.bipush 6, 2) := by decide +kernel
theorem dX9_kindOf_94 : decode cX9_kindOf 94 = .ok (.ireturn, 1) := by decide +kernel
theorem dX9_kindOf_95 : decode cX9_kindOf 95 = .ok (.bipush (-9), 2) := by decide +kernel
theorem dX9_kindOf_97 : decode cX9_kindOf 97 = .ok (.ireturn, 1) := by decide +kernel
theorem dX9_readsStatement_0 : decode cX9_readsStatement 0 = .ok (.aload_n 0, 1) := by decide +kernel
theorem dX9_readsStatement_1 : decode cX9_readsStatement 1 = .ok (.invokevirtual 66, 3) := by decide +kernel
theorem dX9_readsStatement_4 : decode cX9_readsStatement 4 = .ok (.istore_n 1, 1) := by decide +kernel
theorem dX9_readsStatement_5 : decode cX9_readsStatement 5 = .ok (.iload_n 1, 1) := by decide +kernel
theorem dX9_readsStatement_6 : decode cX9_readsStatement 6 = .ok (.bipush 112, 2) := by decide +kernel
theorem dX9_readsStatement_8 : decode cX9_readsStatement 8 = .ok (.if_icmp .eq 17, 3) := by decide +kernel
theorem dX9_readsStatement_11 : decode cX9_readsStatement 11 = .ok (.iload_n 1, 1) := by decide +kernel
theorem dX9_readsStatement_12 : decode cX9_readsStatement 12 = .ok (.bipush 104, 2) := by decide +kernel
theorem dX9_readsStatement_14 : decode cX9_readsStatement 14 = .ok (.if_icmp .eq 11, 3) := by decide +kernel
theorem dX9_readsStatement_17 : decode cX9_readsStatement 17 = .ok (.iload_n 1, 1) := by decide +kernel
theorem dX9_readsStatement_18 : decode cX9_readsStatement 18 = .ok (.bipush 119, 2) := by decide +kernel
theorem dX9_readsStatement_20 : decode cX9_readsStatement 20 = .ok (.if_icmp .eq 5, 3) := by decide +kernel
theorem dX9_readsStatement_23 : decode cX9_readsStatement 23 = .ok (.iconst 0, 1) := by decide +kernel
theorem dX9_readsStatement_24 : decode cX9_readsStatement 24 = .ok (.ireturn, 1) := by decide +kernel
theorem dX9_readsStatement_25 : decode cX9_readsStatement 25 = .ok (.aload_n 0, 1) := by decide +kernel
theorem dX9_readsStatement_26 : decode cX9_readsStatement 26 = .ok (.dup, 1) := by decide +kernel
theorem dX9_readsStatement_27 : decode cX9_readsStatement 27 = .ok (.getfield 63, 3) := by decide +kernel
theorem dX9_readsStatement_30 : decode cX9_readsStatement 30 = .ok (.iconst 1, 1) := by decide +kernel
theorem dX9_readsStatement_31 : decode cX9_readsStatement 31 = .ok (.iadd, 1) := by decide +kernel
theorem dX9_readsStatement_32 : decode cX9_readsStatement 32 = .ok (.putfield 63, 3) := by decide +kernel
theorem dX9_readsStatement_35 : decode cX9_readsStatement 35 = .ok (.iload_n 1, 1) := by decide +kernel
theorem dX9_readsStatement_36 : decode cX9_readsStatement 36 = .ok (.bipush 112, 2) := by decide +kernel
theorem dX9_readsStatement_38 : decode cX9_readsStatement 38 = .ok (.if_icmp .ne 70, 3) := by decide +kernel
theorem dX9_readsStatement_41 : decode cX9_readsStatement 41 = .ok (.aload_n 0, 1) := by decide +kernel
theorem dX9_readsStatement_42 : decode cX9_readsStatement 42 = .ok (.getfield 28, 3) := by decide +kernel
theorem dX9_readsStatement_45 : decode cX9_readsStatement 45 = .ok (.iconst 0, 1) := by decide +kernel
theorem dX9_readsStatement_46 : decode cX9_readsStatement 46 = .ok (.aload_n 0, 1) := by decide +kernel
theorem dX9_readsStatement_47 : decode cX9_readsStatement 47 = .ok (.invokevirtual 66, 3) := by decide +kernel
theorem dX9_readsStatement_50 : decode cX9_readsStatement 50 = .ok (.invokestatic 70, 3) := by decide +kernel
theorem dX9_readsStatement_53 : decode cX9_readsStatement 53 = .ok (.iastore, 1) := by decide +kernel
theorem dX9_readsStatement_54 : decode cX9_readsStatement 54 = .ok (.aload_n 0, 1) := by decide +kernel
theorem dX9_readsStatement_55 : decode cX9_readsStatement 55 = .ok (.getfield 28, 3) := by decide +kernel
theorem dX9_readsStatement_58 : decode cX9_readsStatement 58 = .ok (.iconst 0, 1) := by decide +kernel
theorem dX9_readsStatement_59 : decode cX9_readsStatement 59 = .ok (.iaload, 1) := by decide +kernel
theorem dX9_readsStatement_60 : decode cX9_readsStatement 60 = .ok (.ifCond .ge 5, 3) := by decide +kernel
theorem dX9_readsStatement_63 : decode cX9_readsStatement 63 = .ok (.iconst 0, 1) := by decide +kernel
theorem dX9_readsStatement_64 : decode cX9_readsStatement 64 = .ok (.ireturn, 1) := by decide +kernel
theorem dX9_readsStatement_65 : decode cX9_readsStatement 65 = .ok (.aload_n 0, 1) := by decide +kernel
theorem dX9_readsStatement_66 : decode cX9_readsStatement 66 = .ok (.dup, 1) := by decide +kernel
theorem dX9_readsStatement_67 : decode cX9_readsStatement 67 = .ok (.getfield 63, 3) := by decide +kernel
theorem dX9_readsStatement_70 : decode cX9_readsStatement 70 = .ok (.iconst 1, 1) := by decide +kernel
theorem dX9_readsStatement_71 : decode cX9_readsStatement 71 = .ok (.iadd, 1) := by decide +kernel
theorem dX9_readsStatement_72 : decode cX9_readsStatement 72 = .ok (.putfield 63, 3) := by decide +kernel
theorem dX9_readsStatement_75 : decode cX9_readsStatement 75 = .ok (.aload_n 0, 1) := by decide +kernel
theorem dX9_readsStatement_76 : decode cX9_readsStatement 76 = .ok (.iconst 1, 1) := by decide +kernel
theorem dX9_readsStatement_77 : decode cX9_readsStatement 77 = .ok (.iconst 1, 1) := by decide +kernel
theorem dX9_readsStatement_78 : decode cX9_readsStatement 78 = .ok (.invokevirtual 73, 3) := by decide +kernel
theorem dX9_readsStatement_81 : decode cX9_readsStatement 81 = .ok (.ifCond .eq 25, 3) := by decide +kernel
theorem dX9_readsStatement_84 : decode cX9_readsStatement 84 = .ok (.aload_n 0, 1) := by decide +kernel
theorem dX9_readsStatement_85 : decode cX9_readsStatement 85 = .ok (.iconst 2, 1) := by decide +kernel
theorem dX9_readsStatement_86 : decode cX9_readsStatement 86 = .ok (.iconst 1, 1) := by decide +kernel
theorem dX9_readsStatement_87 : decode cX9_readsStatement 87 = .ok (.invokevirtual 73, 3) := by decide +kernel
theorem dX9_readsStatement_90 : decode cX9_readsStatement 90 = .ok (.ifCond .eq 16, 3) := by decide +kernel
theorem dX9_readsStatement_93 : decode cX9_readsStatement 93 = .ok (.aload_n 0, 1) := by decide +kernel
theorem dX9_readsStatement_94 : decode cX9_readsStatement 94 = .ok (.bipush 59, 2) := by decide +kernel
theorem dX9_readsStatement_96 : decode cX9_readsStatement 96 = .ok (.invokevirtual 76, 3) := by decide +kernel
theorem dX9_readsStatement_99 : decode cX9_readsStatement 99 = .ok (.ifCond .eq 7, 3) := by decide +kernel
theorem dX9_readsStatement_102 : decode cX9_readsStatement 102 = .ok (.iconst 1, 1) := by decide +kernel
theorem dX9_readsStatement_103 : decode cX9_readsStatement 103 = .ok (.goto 4, 3) := by decide +kernel
theorem dX9_readsStatement_106 : decode cX9_readsStatement 106 = .ok (.iconst 0, 1) := by decide +kernel
theorem dX9_readsStatement_107 : decode cX9_readsStatement 107 = .ok (.ireturn, 1) := by decide +kernel
theorem dX9_readsStatement_108 : decode cX9_readsStatement 108 = .ok (.aload_n 0, 1) := by decide +kernel
theorem dX9_readsStatement_109 : decode cX9_readsStatement 109 = .ok (.iconst 0, 1) := by decide +kernel
theorem dX9_readsStatement_110 : decode cX9_readsStatement 110 = .ok (.iconst 1, 1) := by decide +kernel
theorem dX9_readsStatement_111 : decode cX9_readsStatement 111 = .ok (.invokevirtual 73, 3) := by decide +kernel
theorem dX9_readsStatement_114 : decode cX9_readsStatement 114 = .ok (.ifCond .ne 5, 3) := by decide +kernel
theorem dX9_readsStatement_117 : decode cX9_readsStatement 117 = .ok (.iconst 0, 1) := by decide +kernel
theorem dX9_readsStatement_118 : decode cX9_readsStatement 118 = .ok (.ireturn, 1) := by decide +kernel
theorem dX9_readsStatement_119 : decode cX9_readsStatement 119 = .ok (.iload_n 1, 1) := by decide +kernel
theorem dX9_readsStatement_120 : decode cX9_readsStatement 120 = .ok (.bipush 104, 2) := by decide +kernel
theorem dX9_readsStatement_122 : decode cX9_readsStatement 122 = .ok (.if_icmp .ne 45, 3) := by decide +kernel
theorem dX9_readsStatement_125 : decode cX9_readsStatement 125 = .ok (.aload_n 0, 1) := by decide +kernel
theorem dX9_readsStatement_126 : decode cX9_readsStatement 126 = .ok (.iconst 1, 1) := by decide +kernel
theorem dX9_readsStatement_127 : decode cX9_readsStatement 127 = .ok (.iconst 2, 1) := by decide +kernel
theorem dX9_readsStatement_128 : decode cX9_readsStatement 128 = .ok (.invokevirtual 73, 3) := by decide +kernel
theorem dX9_readsStatement_131 : decode cX9_readsStatement 131 = .ok (.ifCond .eq 34, 3) := by decide +kernel
theorem dX9_readsStatement_134 : decode cX9_readsStatement 134 = .ok (.aload_n 0, 1) := by decide +kernel
theorem dX9_readsStatement_135 : decode cX9_readsStatement 135 = .ok (.bipush 45, 2) := by decide +kernel
theorem dX9_readsStatement_137 : decode cX9_readsStatement 137 = .ok (.invokevirtual 76, 3) := by decide +kernel
theorem dX9_readsStatement_140 : decode cX9_readsStatement 140 = .ok (.ifCond .eq 25, 3) := by decide +kernel
theorem dX9_readsStatement_143 : decode cX9_readsStatement 143 = .ok (.aload_n 0, 1) := by decide +kernel
theorem dX9_readsStatement_144 : decode cX9_readsStatement 144 = .ok (.iconst 2, 1) := by decide +kernel
theorem dX9_readsStatement_145 : decode cX9_readsStatement 145 = .ok (.iconst 2, 1) := by decide +kernel
theorem dX9_readsStatement_146 : decode cX9_readsStatement 146 = .ok (.invokevirtual 73, 3) := by decide +kernel
theorem dX9_readsStatement_149 : decode cX9_readsStatement 149 = .ok (.ifCond .eq 16, 3) := by decide +kernel
theorem dX9_readsStatement_152 : decode cX9_readsStatement 152 = .ok (.aload_n 0, 1) := by decide +kernel
theorem dX9_readsStatement_153 : decode cX9_readsStatement 153 = .ok (.bipush 59, 2) := by decide +kernel
theorem dX9_readsStatement_155 : decode cX9_readsStatement 155 = .ok (.invokevirtual 76, 3) := by decide +kernel
theorem dX9_readsStatement_158 : decode cX9_readsStatement 158 = .ok (.ifCond .eq 7, 3) := by decide +kernel
theorem dX9_readsStatement_161 : decode cX9_readsStatement 161 = .ok (.iconst 1, 1) := by decide +kernel
theorem dX9_readsStatement_162 : decode cX9_readsStatement 162 = .ok (.goto 4, 3) := by decide +kernel
theorem dX9_readsStatement_165 : decode cX9_readsStatement 165 = .ok (.iconst 0, 1) := by decide +kernel
theorem dX9_readsStatement_166 : decode cX9_readsStatement 166 = .ok (.ireturn, 1) := by decide +kernel
theorem dX9_readsStatement_167 : decode cX9_readsStatement 167 = .ok (.aload_n 0, 1) := by decide +kernel
theorem dX9_readsStatement_168 : decode cX9_readsStatement 168 = .ok (.invokevirtual 66, 3) := by decide +kernel
theorem dX9_readsStatement_171 : decode cX9_readsStatement 171 = .ok (.bipush 114, 2) := by decide +kernel
theorem dX9_readsStatement_173 : decode cX9_readsStatement 173 = .ok (.if_icmp .eq 14, 3) := by decide +kernel
theorem dX9_readsStatement_176 : decode cX9_readsStatement 176 = .ok (.aload_n 0, 1) := by decide +kernel
theorem dX9_readsStatement_177 : decode cX9_readsStatement 177 = .ok (.invokevirtual 66, 3) := by decide +kernel
theorem dX9_readsStatement_180 : decode cX9_readsStatement 180 = .ok (.bipush 115, 2) := by decide +kernel
theorem dX9_readsStatement_182 : decode cX9_readsStatement 182 = .ok (.if_icmp .eq 5, 3) := by decide +kernel
theorem dX9_readsStatement_185 : decode cX9_readsStatement 185 = .ok (.iconst 0, 1) := by decide +kernel
theorem dX9_readsStatement_186 : decode cX9_readsStatement 186 = .ok (.ireturn, 1) := by decide +kernel
theorem dX9_readsStatement_187 : decode cX9_readsStatement 187 = .ok (.aload_n 0, 1) := by decide +kernel
theorem dX9_readsStatement_188 : decode cX9_readsStatement 188 = .ok (.getfield 28, 3) := by decide +kernel
theorem dX9_readsStatement_191 : decode cX9_readsStatement 191 = .ok (.iconst 1, 1) := by decide +kernel
theorem dX9_readsStatement_192 : decode cX9_readsStatement 192 = .ok (.aload_n 0, 1) := by decide +kernel
theorem dX9_readsStatement_193 : decode cX9_readsStatement 193 = .ok (.invokevirtual 66, 3) := by decide +kernel
theorem dX9_readsStatement_196 : decode cX9_readsStatement 196 = .ok (.bipush 115, 2) := by decide +kernel
theorem dX9_readsStatement_198 : decode cX9_readsStatement 198 = .ok (.if_icmp .ne 7, 3) := by decide +kernel
theorem dX9_readsStatement_201 : decode cX9_readsStatement 201 = .ok (.iconst 1, 1) := by decide +kernel
theorem dX9_readsStatement_202 : decode cX9_readsStatement 202 = .ok (.goto 4, 3) := by decide +kernel
theorem dX9_readsStatement_205 : decode cX9_readsStatement 205 = .ok (.iconst 0, 1) := by decide +kernel
theorem dX9_readsStatement_206 : decode cX9_readsStatement 206 = .ok (.iastore, 1) := by decide +kernel
theorem dX9_readsStatement_207 : decode cX9_readsStatement 207 = .ok (.aload_n 0, 1) := by decide +kernel
theorem dX9_readsStatement_208 : decode cX9_readsStatement 208 = .ok (.dup, 1) := by decide +kernel
theorem dX9_readsStatement_209 : decode cX9_readsStatement 209 = .ok (.getfield 63, 3) := by decide +kernel
theorem dX9_readsStatement_212 : decode cX9_readsStatement 212 = .ok (.iconst 1, 1) := by decide +kernel
theorem dX9_readsStatement_213 : decode cX9_readsStatement 213 = .ok (.iadd, 1) := by decide +kernel
theorem dX9_readsStatement_214 : decode cX9_readsStatement 214 = .ok (.putfield 63, 3) := by decide +kernel
theorem dX9_readsStatement_217 : decode cX9_readsStatement 217 = .ok (.aload_n 0, 1) := by decide +kernel
theorem dX9_readsStatement_218 : decode cX9_readsStatement 218 = .ok (.iconst 2, 1) := by decide +kernel
theorem dX9_readsStatement_219 : decode cX9_readsStatement 219 = .ok (.iconst 1, 1) := by decide +kernel
theorem dX9_readsStatement_220 : decode cX9_readsStatement 220 = .ok (.invokevirtual 73, 3) := by decide +kernel
theorem dX9_readsStatement_223 : decode cX9_readsStatement 223 = .ok (.ifCond .eq 70, 3) := by decide +kernel
theorem dX9_readsStatement_226 : decode cX9_readsStatement 226 = .ok (.aload_n 0, 1) := by decide +kernel
theorem dX9_readsStatement_227 : decode cX9_readsStatement 227 = .ok (.bipush 44, 2) := by decide +kernel
theorem dX9_readsStatement_229 : decode cX9_readsStatement 229 = .ok (.invokevirtual 76, 3) := by decide +kernel
theorem dX9_readsStatement_232 : decode cX9_readsStatement 232 = .ok (.ifCond .eq 61, 3) := by decide +kernel
theorem dX9_readsStatement_235 : decode cX9_readsStatement 235 = .ok (.aload_n 0, 1) := by decide +kernel
theorem dX9_readsStatement_236 : decode cX9_readsStatement 236 = .ok (.iconst 3, 1) := by decide +kernel
theorem dX9_readsStatement_237 : decode cX9_readsStatement 237 = .ok (.iconst 2, 1) := by decide +kernel
theorem dX9_readsStatement_238 : decode cX9_readsStatement 238 = .ok (.invokevirtual 73, 3) := by decide +kernel
theorem dX9_readsStatement_241 : decode cX9_readsStatement 241 = .ok (.ifCond .eq 52, 3) := by decide +kernel
theorem dX9_readsStatement_244 : decode cX9_readsStatement 244 = .ok (.aload_n 0, 1) := by decide +kernel
theorem dX9_readsStatement_245 : decode cX9_readsStatement 245 = .ok (.bipush 44, 2) := by decide +kernel
theorem dX9_readsStatement_247 : decode cX9_readsStatement 247 = .ok (.invokevirtual 76, 3) := by decide +kernel
theorem dX9_readsStatement_250 : decode cX9_readsStatement 250 = .ok (.ifCond .eq 43, 3) := by decide +kernel
theorem dX9_readsStatement_253 : decode cX9_readsStatement 253 = .ok (.aload_n 0, 1) := by decide +kernel
theorem dX9_readsStatement_254 : decode cX9_readsStatement 254 = .ok (.iconst 4, 1) := by decide +kernel
theorem dX9_readsStatement_255 : decode cX9_readsStatement 255 = .ok (.iconst 2, 1) := by decide +kernel
theorem dX9_readsStatement_256 : decode cX9_readsStatement 256 = .ok (.invokevirtual 73, 3) := by decide +kernel
theorem dX9_readsStatement_259 : decode cX9_readsStatement 259 = .ok (.ifCond .eq 34, 3) := by decide +kernel
theorem dX9_readsStatement_262 : decode cX9_readsStatement 262 = .ok (.aload_n 0, 1) := by decide +kernel
theorem dX9_readsStatement_263 : decode cX9_readsStatement 263 = .ok (.bipush 44, 2) := by decide +kernel
theorem dX9_readsStatement_265 : decode cX9_readsStatement 265 = .ok (.invokevirtual 76, 3) := by decide +kernel
theorem dX9_readsStatement_268 : decode cX9_readsStatement 268 = .ok (.ifCond .eq 25, 3) := by decide +kernel
theorem dX9_readsStatement_271 : decode cX9_readsStatement 271 = .ok (.aload_n 0, 1) := by decide +kernel
theorem dX9_readsStatement_272 : decode cX9_readsStatement 272 = .ok (.iconst 5, 1) := by decide +kernel
theorem dX9_readsStatement_273 : decode cX9_readsStatement 273 = .ok (.iconst 1, 1) := by decide +kernel
theorem dX9_readsStatement_274 : decode cX9_readsStatement 274 = .ok (.invokevirtual 73, 3) := by decide +kernel
theorem dX9_readsStatement_277 : decode cX9_readsStatement 277 = .ok (.ifCond .eq 16, 3) := by decide +kernel
theorem dX9_readsStatement_280 : decode cX9_readsStatement 280 = .ok (.aload_n 0, 1) := by decide +kernel
theorem dX9_readsStatement_281 : decode cX9_readsStatement 281 = .ok (.bipush 59, 2) := by decide +kernel
theorem dX9_readsStatement_283 : decode cX9_readsStatement 283 = .ok (.invokevirtual 76, 3) := by decide +kernel
theorem dX9_readsStatement_286 : decode cX9_readsStatement 286 = .ok (.ifCond .eq 7, 3) := by decide +kernel
theorem dX9_readsStatement_289 : decode cX9_readsStatement 289 = .ok (.iconst 1, 1) := by decide +kernel
theorem dX9_readsStatement_290 : decode cX9_readsStatement 290 = .ok (.goto 4, 3) := by decide +kernel
theorem dX9_readsStatement_293 : decode cX9_readsStatement 293 = .ok (.iconst 0, 1) := by decide +kernel
theorem dX9_readsStatement_294 : decode cX9_readsStatement 294 = .ok (.ireturn, 1) := by decide +kernel
theorem dX9_hasPart_0 : decode cX9_hasPart 0 = .ok (.bipush 9, 2) := by decide +kernel
theorem dX9_hasPart_2 : decode cX9_hasPart 2 = .ok (.iconst 4, 1) := by decide +kernel
theorem dX9_hasPart_3 : decode cX9_hasPart 3 = .ok (.iload_n 1, 1) := by decide +kernel
theorem dX9_hasPart_4 : decode cX9_hasPart 4 = .ok (.imul, 1) := by decide +kernel
theorem dX9_hasPart_5 : decode cX9_hasPart 5 = .ok (.iadd, 1) := by decide +kernel
theorem dX9_hasPart_6 : decode cX9_hasPart 6 = .ok (.istore_n 3, 1) := by decide +kernel
theorem dX9_hasPart_7 : decode cX9_hasPart 7 = .ok (.iconst 0, 1) := by decide +kernel
theorem dX9_hasPart_8 : decode cX9_hasPart 8 = .ok (.istore 4, 2) := by decide +kernel
theorem dX9_hasPart_10 : decode cX9_hasPart 10 = .ok (.iload 4, 2) := by decide +kernel
theorem dX9_hasPart_12 : decode cX9_hasPart 12 = .ok (.aload_n 0, 1) := by decide +kernel
theorem dX9_hasPart_13 : decode cX9_hasPart 13 = .ok (.iload_n 3, 1) := by decide +kernel
theorem dX9_hasPart_14 : decode cX9_hasPart 14 = .ok (.iaload, 1) := by decide +kernel
theorem dX9_hasPart_15 : decode cX9_hasPart 15 = .ok (.if_icmp .ge 23, 3) := by decide +kernel
theorem dX9_hasPart_18 : decode cX9_hasPart 18 = .ok (.aload_n 0, 1) := by decide +kernel
theorem dX9_hasPart_19 : decode cX9_hasPart 19 = .ok (.iload_n 3, 1) := by decide +kernel
theorem dX9_hasPart_20 : decode cX9_hasPart 20 = .ok (.iconst 1, 1) := by decide +kernel
theorem dX9_hasPart_21 : decode cX9_hasPart 21 = .ok (.iadd, 1) := by decide +kernel
theorem dX9_hasPart_22 : decode cX9_hasPart 22 = .ok (.iload 4, 2) := by decide +kernel
theorem dX9_hasPart_24 : decode cX9_hasPart 24 = .ok (.iadd, 1) := by decide +kernel
theorem dX9_hasPart_25 : decode cX9_hasPart 25 = .ok (.iaload, 1) := by decide +kernel
theorem dX9_hasPart_26 : decode cX9_hasPart 26 = .ok (.iload_n 2, 1) := by decide +kernel
theorem dX9_hasPart_27 : decode cX9_hasPart 27 = .ok (.if_icmp .ne 5, 3) := by decide +kernel
theorem dX9_hasPart_30 : decode cX9_hasPart 30 = .ok (.iconst 1, 1) := by decide +kernel
theorem dX9_hasPart_31 : decode cX9_hasPart 31 = .ok (.ireturn, 1) := by decide +kernel
theorem dX9_hasPart_32 : decode cX9_hasPart 32 = .ok (.iinc 4 1, 3) := by decide +kernel
theorem dX9_hasPart_35 : decode cX9_hasPart 35 = .ok (.goto (-25), 3) := by decide +kernel
theorem dX9_hasPart_38 : decode cX9_hasPart 38 = .ok (.iconst 0, 1) := by decide +kernel
theorem dX9_hasPart_39 : decode cX9_hasPart 39 = .ok (.ireturn, 1) := by decide +kernel
theorem dX9_adds_0 : decode cX9_adds 0 = .ok (.bipush 9, 2) := by decide +kernel
theorem dX9_adds_2 : decode cX9_adds 2 = .ok (.iconst 4, 1) := by decide +kernel
theorem dX9_adds_3 : decode cX9_adds 3 = .ok (.iload_n 1, 1) := by decide +kernel
theorem dX9_adds_4 : decode cX9_adds 4 = .ok (.imul, 1) := by decide +kernel
theorem dX9_adds_5 : decode cX9_adds 5 = .ok (.iadd, 1) := by decide +kernel
theorem dX9_adds_6 : decode cX9_adds 6 = .ok (.istore_n 3, 1) := by decide +kernel
theorem dX9_adds_7 : decode cX9_adds 7 = .ok (.aload_n 0, 1) := by decide +kernel
theorem dX9_adds_8 : decode cX9_adds 8 = .ok (.iload_n 3, 1) := by decide +kernel
theorem dX9_adds_9 : decode cX9_adds 9 = .ok (.iconst 1, 1) := by decide +kernel
theorem dX9_adds_10 : decode cX9_adds 10 = .ok (.iadd, 1) := by decide +kernel
theorem dX9_adds_11 : decode cX9_adds 11 = .ok (.aload_n 0, 1) := by decide +kernel
theorem dX9_adds_12 : decode cX9_adds 12 = .ok (.iload_n 3, 1) := by decide +kernel
theorem dX9_adds_13 : decode cX9_adds 13 = .ok (.iaload, 1) := by decide +kernel
theorem dX9_adds_14 : decode cX9_adds 14 = .ok (.iadd, 1) := by decide +kernel
theorem dX9_adds_15 : decode cX9_adds 15 = .ok (.iload_n 2, 1) := by decide +kernel
theorem dX9_adds_16 : decode cX9_adds 16 = .ok (.iastore, 1) := by decide +kernel
theorem dX9_adds_17 : decode cX9_adds 17 = .ok (.aload_n 0, 1) := by decide +kernel
theorem dX9_adds_18 : decode cX9_adds 18 = .ok (.iload_n 3, 1) := by decide +kernel
theorem dX9_adds_19 : decode cX9_adds 19 = .ok (.dup2, 1) := by decide +kernel
theorem dX9_adds_20 : decode cX9_adds 20 = .ok (.iaload, 1) := by decide +kernel
theorem dX9_adds_21 : decode cX9_adds 21 = .ok (.iconst 1, 1) := by decide +kernel
theorem dX9_adds_22 : decode cX9_adds 22 = .ok (.iadd, 1) := by decide +kernel
theorem dX9_adds_23 : decode cX9_adds 23 = .ok (.iastore, 1) := by decide +kernel
theorem dX9_adds_24 : decode cX9_adds 24 = .ok (.return_, 1) := by decide +kernel
theorem dX9_comesHours_0 : decode cX9_comesHours 0 = .ok (.iload_n 1, 1) := by decide +kernel
theorem dX9_comesHours_1 : decode cX9_comesHours 1 = .ok (.aload_n 0, 1) := by decide +kernel
theorem dX9_comesHours_2 : decode cX9_comesHours 2 = .ok (.getfield 19, 3) := by decide +kernel
theorem dX9_comesHours_5 : decode cX9_comesHours 5 = .ok (.iconst 0, 1) := by decide +kernel
theorem dX9_comesHours_6 : decode cX9_comesHours 6 = .ok (.iaload, 1) := by decide +kernel
theorem dX9_comesHours_7 : decode cX9_comesHours 7 = .ok (.if_icmp .ge 20, 3) := by decide +kernel
theorem dX9_comesHours_10 : decode cX9_comesHours 10 = .ok (.iload_n 2, 1) := by decide +kernel
theorem dX9_comesHours_11 : decode cX9_comesHours 11 = .ok (.bipush 28, 2) := by decide +kernel
theorem dX9_comesHours_13 : decode cX9_comesHours 13 = .ok (.if_icmp .ge 14, 3) := by decide +kernel
theorem dX9_comesHours_16 : decode cX9_comesHours 16 = .ok (.iload_n 3, 1) := by decide +kernel
theorem dX9_comesHours_17 : decode cX9_comesHours 17 = .ok (.bipush 28, 2) := by decide +kernel
theorem dX9_comesHours_19 : decode cX9_comesHours 19 = .ok (.if_icmp .ge 8, 3) := by decide +kernel
theorem dX9_comesHours_22 : decode cX9_comesHours 22 = .ok (.iload_n 2, 1) := by decide +kernel
theorem dX9_comesHours_23 : decode cX9_comesHours 23 = .ok (.iload_n 3, 1) := by decide +kernel
theorem dX9_comesHours_24 : decode cX9_comesHours 24 = .ok (.if_icmp .le 5, 3) := by decide +kernel
theorem dX9_comesHours_27 : decode cX9_comesHours 27 = .ok (.iconst 0, 1) := by decide +kernel
theorem dX9_comesHours_28 : decode cX9_comesHours 28 = .ok (.ireturn, 1) := by decide +kernel
theorem dX9_comesHours_29 : decode cX9_comesHours 29 = .ok (.iload_n 2, 1) := by decide +kernel
theorem dX9_comesHours_30 : decode cX9_comesHours 30 = .ok (.istore 4, 2) := by decide +kernel
theorem dX9_comesHours_32 : decode cX9_comesHours 32 = .ok (.iload 4, 2) := by decide +kernel
theorem dX9_comesHours_34 : decode cX9_comesHours 34 = .ok (.iload_n 3, 1) := by decide +kernel
theorem dX9_comesHours_35 : decode cX9_comesHours 35 = .ok (.if_icmp .gt 40, 3) := by decide +kernel
theorem dX9_comesHours_38 : decode cX9_comesHours 38 = .ok (.aload_n 0, 1) := by decide +kernel
theorem dX9_comesHours_39 : decode cX9_comesHours 39 = .ok (.getfield 19, 3) := by decide +kernel
theorem dX9_comesHours_42 : decode cX9_comesHours 42 = .ok (.iload 4, 2) := by decide +kernel
theorem dX9_comesHours_44 : decode cX9_comesHours 44 = .ok (.iload_n 1, 1) := by decide +kernel
theorem dX9_comesHours_45 : decode cX9_comesHours 45 = .ok (.invokestatic 80, 3) := by decide +kernel
theorem dX9_comesHours_48 : decode cX9_comesHours 48 = .ok (.ifCond .ne 19, 3) := by decide +kernel
theorem dX9_comesHours_51 : decode cX9_comesHours 51 = .ok (.aload_n 0, 1) := by decide +kernel
theorem dX9_comesHours_52 : decode cX9_comesHours 52 = .ok (.getfield 19, 3) := by decide +kernel
theorem dX9_comesHours_55 : decode cX9_comesHours 55 = .ok (.bipush 9, 2) := by decide +kernel
theorem dX9_comesHours_57 : decode cX9_comesHours 57 = .ok (.iconst 4, 1) := by decide +kernel
theorem dX9_comesHours_58 : decode cX9_comesHours 58 = .ok (.iload 4, 2) := by decide +kernel
theorem dX9_comesHours_60 : decode cX9_comesHours 60 = .ok (.imul, 1) := by decide +kernel
theorem dX9_comesHours_61 : decode cX9_comesHours 61 = .ok (.iadd, 1) := by decide +kernel
theorem dX9_comesHours_62 : decode cX9_comesHours 62 = .ok (.iaload, 1) := by decide +kernel
theorem dX9_comesHours_63 : decode cX9_comesHours 63 = .ok (.iconst 3, 1) := by decide +kernel
theorem dX9_comesHours_64 : decode cX9_comesHours 64 = .ok (.if_icmp .ne 5, 3) := by decide +kernel
theorem dX9_comesHours_67 : decode cX9_comesHours 67 = .ok (.iconst 0, 1) := by decide +kernel
theorem dX9_comesHours_68 : decode cX9_comesHours 68 = .ok (.ireturn, 1) := by decide +kernel
theorem dX9_comesHours_69 : decode cX9_comesHours 69 = .ok (.iinc 4 1, 3) := by decide +kernel
theorem dX9_comesHours_72 : decode cX9_comesHours 72 = .ok (.goto (-40), 3) := by decide +kernel
theorem dX9_comesHours_75 : decode cX9_comesHours 75 = .ok (.iload_n 2, 1) := by decide +kernel
theorem dX9_comesHours_76 : decode cX9_comesHours 76 = .ok (.istore 4, 2) := by decide +kernel
theorem dX9_comesHours_78 : decode cX9_comesHours 78 = .ok (.iload 4, 2) := by decide +kernel
theorem dX9_comesHours_80 : decode cX9_comesHours 80 = .ok (.iload_n 3, 1) := by decide +kernel
theorem dX9_comesHours_81 : decode cX9_comesHours 81 = .ok (.if_icmp .gt 19, 3) := by decide +kernel
theorem dX9_comesHours_84 : decode cX9_comesHours 84 = .ok (.aload_n 0, 1) := by decide +kernel
theorem dX9_comesHours_85 : decode cX9_comesHours 85 = .ok (.getfield 19, 3) := by decide +kernel
theorem dX9_comesHours_88 : decode cX9_comesHours 88 = .ok (.iload 4, 2) := by decide +kernel
theorem dX9_comesHours_90 : decode cX9_comesHours 90 = .ok (.iload_n 1, 1) := by decide +kernel
theorem dX9_comesHours_91 : decode cX9_comesHours 91 = .ok (.invokestatic 84, 3) := by decide +kernel
theorem dX9_comesHours_94 : decode cX9_comesHours 94 = .ok (.iinc 4 1, 3) := by decide +kernel
theorem dX9_comesHours_97 : decode cX9_comesHours 97 = .ok (.goto (-19), 3) := by decide +kernel
theorem dX9_comesHours_100 : decode cX9_comesHours 100 = .ok (.iconst 1, 1) := by decide +kernel
theorem dX9_comesHours_101 : decode cX9_comesHours 101 = .ok (.ireturn, 1) := by decide +kernel
theorem dX9_comes_0 : decode cX9_comes 0 = .ok (.iload_n 1, 1) := by decide +kernel
theorem dX9_comes_1 : decode cX9_comes 1 = .ok (.lookupswitch 124 #[(104, 101), (112, 27)], 27) := by decide +kernel
theorem dX9_comes_28 : decode cX9_comes 28 = .ok (.aload_n 0, 1) := by decide +kernel
theorem dX9_comes_29 : decode cX9_comes 29 = .ok (.getfield 19, 3) := by decide +kernel
theorem dX9_comes_32 : decode cX9_comes 32 = .ok (.iconst 0, 1) := by decide +kernel
theorem dX9_comes_33 : decode cX9_comes 33 = .ok (.iaload, 1) := by decide +kernel
theorem dX9_comes_34 : decode cX9_comes 34 = .ok (.bipush 8, 2) := by decide +kernel
theorem dX9_comes_36 : decode cX9_comes 36 = .ok (.if_icmp .ne 5, 3) := by decide +kernel
theorem dX9_comes_39 : decode cX9_comes 39 = .ok (.iconst 0, 1) := by decide +kernel
theorem dX9_comes_40 : decode cX9_comes 40 = .ok (.ireturn, 1) := by decide +kernel
theorem dX9_comes_41 : decode cX9_comes 41 = .ok (.bipush 121, 2) := by decide +kernel
theorem dX9_comes_43 : decode cX9_comes 43 = .ok (.iconst 4, 1) := by decide +kernel
theorem dX9_comes_44 : decode cX9_comes 44 = .ok (.aload_n 0, 1) := by decide +kernel
theorem dX9_comes_45 : decode cX9_comes 45 = .ok (.getfield 19, 3) := by decide +kernel
theorem dX9_comes_48 : decode cX9_comes 48 = .ok (.iconst 0, 1) := by decide +kernel
theorem dX9_comes_49 : decode cX9_comes 49 = .ok (.iaload, 1) := by decide +kernel
theorem dX9_comes_50 : decode cX9_comes 50 = .ok (.imul, 1) := by decide +kernel
theorem dX9_comes_51 : decode cX9_comes 51 = .ok (.iadd, 1) := by decide +kernel
theorem dX9_comes_52 : decode cX9_comes 52 = .ok (.istore_n 2, 1) := by decide +kernel
theorem dX9_comes_53 : decode cX9_comes 53 = .ok (.iconst 0, 1) := by decide +kernel
theorem dX9_comes_54 : decode cX9_comes 54 = .ok (.istore_n 3, 1) := by decide +kernel
theorem dX9_comes_55 : decode cX9_comes 55 = .ok (.iload_n 3, 1) := by decide +kernel
theorem dX9_comes_56 : decode cX9_comes 56 = .ok (.iconst 3, 1) := by decide +kernel
theorem dX9_comes_57 : decode cX9_comes 57 = .ok (.if_icmp .ge 23, 3) := by decide +kernel
theorem dX9_comes_60 : decode cX9_comes 60 = .ok (.aload_n 0, 1) := by decide +kernel
theorem dX9_comes_61 : decode cX9_comes 61 = .ok (.getfield 19, 3) := by decide +kernel
theorem dX9_comes_64 : decode cX9_comes 64 = .ok (.iload_n 2, 1) := by decide +kernel
theorem dX9_comes_65 : decode cX9_comes 65 = .ok (.iload_n 3, 1) := by decide +kernel
theorem dX9_comes_66 : decode cX9_comes 66 = .ok (.iadd, 1) := by decide +kernel
theorem dX9_comes_67 : decode cX9_comes 67 = .ok (.aload_n 0, 1) := by decide +kernel
theorem dX9_comes_68 : decode cX9_comes 68 = .ok (.getfield 28, 3) := by decide +kernel
theorem dX9_comes_71 : decode cX9_comes 71 = .ok (.iload_n 3, 1) := by decide +kernel
theorem dX9_comes_72 : decode cX9_comes 72 = .ok (.iaload, 1) := by decide +kernel
theorem dX9_comes_73 : decode cX9_comes 73 = .ok (.iastore, 1) := by decide +kernel
theorem dX9_comes_74 : decode cX9_comes 74 = .ok (.iinc 3 1, 3) := by decide +kernel
theorem dX9_comes_77 : decode cX9_comes 77 = .ok (.goto (-22), 3) := by decide +kernel
theorem dX9_comes_80 : decode cX9_comes 80 = .ok (.aload_n 0, 1) := by decide +kernel
theorem dX9_comes_81 : decode cX9_comes 81 = .ok (.getfield 19, 3) := by decide +kernel
theorem dX9_comes_84 : decode cX9_comes 84 = .ok (.iload_n 2, 1) := by decide +kernel
theorem dX9_comes_85 : decode cX9_comes 85 = .ok (.iconst 3, 1) := by decide +kernel
theorem dX9_comes_86 : decode cX9_comes 86 = .ok (.iadd, 1) := by decide +kernel
theorem dX9_comes_87 : decode cX9_comes 87 = .ok (.bipush (-9), 2) := by decide +kernel
theorem dX9_comes_89 : decode cX9_comes 89 = .ok (.iastore, 1) := by decide +kernel
theorem dX9_comes_90 : decode cX9_comes 90 = .ok (.aload_n 0, 1) := by decide +kernel
theorem dX9_comes_91 : decode cX9_comes 91 = .ok (.getfield 19, 3) := by decide +kernel
theorem dX9_comes_94 : decode cX9_comes 94 = .ok (.iconst 0, 1) := by decide +kernel
theorem dX9_comes_95 : decode cX9_comes 95 = .ok (.dup2, 1) := by decide +kernel
theorem dX9_comes_96 : decode cX9_comes 96 = .ok (.iaload, 1) := by decide +kernel
theorem dX9_comes_97 : decode cX9_comes 97 = .ok (.iconst 1, 1) := by decide +kernel
theorem dX9_comes_98 : decode cX9_comes 98 = .ok (.iadd, 1) := by decide +kernel
theorem dX9_comes_99 : decode cX9_comes 99 = .ok (.iastore, 1) := by decide +kernel
theorem dX9_comes_100 : decode cX9_comes 100 = .ok (.iconst 1, 1) := by decide +kernel
theorem dX9_comes_101 : decode cX9_comes 101 = .ok (.ireturn, 1) := by decide +kernel
theorem dX9_comes_102 : decode cX9_comes 102 = .ok (.aload_n 0, 1) := by decide +kernel
theorem dX9_comes_103 : decode cX9_comes 103 = .ok (.aload_n 0, 1) := by decide +kernel
theorem dX9_comes_104 : decode cX9_comes 104 = .ok (.getfield 28, 3) := by decide +kernel
theorem dX9_comes_107 : decode cX9_comes 107 = .ok (.iconst 0, 1) := by decide +kernel
theorem dX9_comes_108 : decode cX9_comes 108 = .ok (.iaload, 1) := by decide +kernel
theorem dX9_comes_109 : decode cX9_comes 109 = .ok (.aload_n 0, 1) := by decide +kernel
theorem dX9_comes_110 : decode cX9_comes 110 = .ok (.getfield 28, 3) := by decide +kernel
theorem dX9_comes_113 : decode cX9_comes 113 = .ok (.iconst 1, 1) := by decide +kernel
theorem dX9_comes_114 : decode cX9_comes 114 = .ok (.iaload, 1) := by decide +kernel
theorem dX9_comes_115 : decode cX9_comes 115 = .ok (.aload_n 0, 1) := by decide +kernel
theorem dX9_comes_116 : decode cX9_comes 116 = .ok (.getfield 28, 3) := by decide +kernel
theorem dX9_comes_119 : decode cX9_comes 119 = .ok (.iconst 2, 1) := by decide +kernel
theorem dX9_comes_120 : decode cX9_comes 120 = .ok (.iaload, 1) := by decide +kernel
theorem dX9_comes_121 : decode cX9_comes 121 = .ok (.invokevirtual 88, 3) := by decide +kernel
theorem dX9_comes_124 : decode cX9_comes 124 = .ok (.ireturn, 1) := by decide +kernel
theorem dX9_comes_125 : decode cX9_comes 125 = .ok (.aload_n 0, 1) := by decide +kernel
theorem dX9_comes_126 : decode cX9_comes 126 = .ok (.getfield 28, 3) := by decide +kernel
theorem dX9_comes_129 : decode cX9_comes 129 = .ok (.iconst 0, 1) := by decide +kernel
theorem dX9_comes_130 : decode cX9_comes 130 = .ok (.iaload, 1) := by decide +kernel
theorem dX9_comes_131 : decode cX9_comes 131 = .ok (.aload_n 0, 1) := by decide +kernel
theorem dX9_comes_132 : decode cX9_comes 132 = .ok (.getfield 19, 3) := by decide +kernel
theorem dX9_comes_135 : decode cX9_comes 135 = .ok (.iconst 0, 1) := by decide +kernel
theorem dX9_comes_136 : decode cX9_comes 136 = .ok (.iaload, 1) := by decide +kernel
theorem dX9_comes_137 : decode cX9_comes 137 = .ok (.if_icmp .ge 46, 3) := by decide +kernel
theorem dX9_comes_140 : decode cX9_comes 140 = .ok (.aload_n 0, 1) := by decide +kernel
theorem dX9_comes_141 : decode cX9_comes 141 = .ok (.getfield 28, 3) := by decide +kernel
theorem dX9_comes_144 : decode cX9_comes 144 = .ok (.iconst 2, 1) := by decide +kernel
theorem dX9_comes_145 : decode cX9_comes 145 = .ok (.iaload, 1) := by decide +kernel
theorem dX9_comes_146 : decode cX9_comes 146 = .ok (.iconst 1, 1) := by decide +kernel
theorem dX9_comes_147 : decode cX9_comes 147 = .ok (.if_icmp .lt 36, 3) := by decide +kernel
theorem dX9_comes_150 : decode cX9_comes 150 = .ok (.aload_n 0, 1) := by decide +kernel
theorem dX9_comes_151 : decode cX9_comes 151 = .ok (.getfield 28, 3) := by decide +kernel
theorem dX9_comes_154 : decode cX9_comes 154 = .ok (.iconst 2, 1) := by decide +kernel
theorem dX9_comes_155 : decode cX9_comes 155 = .ok (.iaload, 1) := by decide +kernel
theorem dX9_comes_156 : decode cX9_comes 156 = .ok (.bipush 6, 2) := by decide +kernel
theorem dX9_comes_158 : decode cX9_comes 158 = .ok (.if_icmp .gt 25, 3) := by decide +kernel
theorem dX9_comes_161 : decode cX9_comes 161 = .ok (.aload_n 0, 1) := by decide +kernel
theorem dX9_comes_162 : decode cX9_comes 162 = .ok (.getfield 28, 3) := by decide +kernel
theorem dX9_comes_165 : decode cX9_comes 165 = .ok (.iconst 3, 1) := by decide +kernel
theorem dX9_comes_166 : decode cX9_comes 166 = .ok (.iaload, 1) := by decide +kernel
theorem dX9_comes_167 : decode cX9_comes 167 = .ok (.bipush 28, 2) := by decide +kernel
theorem dX9_comes_169 : decode cX9_comes 169 = .ok (.if_icmp .ge 14, 3) := by decide +kernel
theorem dX9_comes_172 : decode cX9_comes 172 = .ok (.aload_n 0, 1) := by decide +kernel
theorem dX9_comes_173 : decode cX9_comes 173 = .ok (.getfield 19, 3) := by decide +kernel
theorem dX9_comes_176 : decode cX9_comes 176 = .ok (.iconst 1, 1) := by decide +kernel
theorem dX9_comes_177 : decode cX9_comes 177 = .ok (.iaload, 1) := by decide +kernel
theorem dX9_comes_178 : decode cX9_comes 178 = .ok (.bipush 6, 2) := by decide +kernel
theorem dX9_comes_180 : decode cX9_comes 180 = .ok (.if_icmp .ne 5, 3) := by decide +kernel
theorem dX9_comes_183 : decode cX9_comes 183 = .ok (.iconst 0, 1) := by decide +kernel
theorem dX9_comes_184 : decode cX9_comes 184 = .ok (.ireturn, 1) := by decide +kernel
theorem dX9_comes_185 : decode cX9_comes 185 = .ok (.iconst 0, 1) := by decide +kernel
theorem dX9_comes_186 : decode cX9_comes 186 = .ok (.istore_n 2, 1) := by decide +kernel
theorem dX9_comes_187 : decode cX9_comes 187 = .ok (.iload_n 2, 1) := by decide +kernel
theorem dX9_comes_188 : decode cX9_comes 188 = .ok (.bipush 6, 2) := by decide +kernel
theorem dX9_comes_190 : decode cX9_comes 190 = .ok (.if_icmp .ge 35, 3) := by decide +kernel
theorem dX9_comes_193 : decode cX9_comes 193 = .ok (.aload_n 0, 1) := by decide +kernel
theorem dX9_comes_194 : decode cX9_comes 194 = .ok (.getfield 19, 3) := by decide +kernel
theorem dX9_comes_197 : decode cX9_comes 197 = .ok (.sipush 153, 3) := by decide +kernel
theorem dX9_comes_200 : decode cX9_comes 200 = .ok (.bipush 6, 2) := by decide +kernel
theorem dX9_comes_202 : decode cX9_comes 202 = .ok (.aload_n 0, 1) := by decide +kernel
theorem dX9_comes_203 : decode cX9_comes 203 = .ok (.getfield 19, 3) := by decide +kernel
theorem dX9_comes_206 : decode cX9_comes 206 = .ok (.iconst 1, 1) := by decide +kernel
theorem dX9_comes_207 : decode cX9_comes 207 = .ok (.iaload, 1) := by decide +kernel
theorem dX9_comes_208 : decode cX9_comes 208 = .ok (.imul, 1) := by decide +kernel
theorem dX9_comes_209 : decode cX9_comes 209 = .ok (.iadd, 1) := by decide +kernel
theorem dX9_comes_210 : decode cX9_comes 210 = .ok (.iload_n 2, 1) := by decide +kernel
theorem dX9_comes_211 : decode cX9_comes 211 = .ok (.iadd, 1) := by decide +kernel
theorem dX9_comes_212 : decode cX9_comes 212 = .ok (.aload_n 0, 1) := by decide +kernel
theorem dX9_comes_213 : decode cX9_comes 213 = .ok (.getfield 28, 3) := by decide +kernel
theorem dX9_comes_216 : decode cX9_comes 216 = .ok (.iload_n 2, 1) := by decide +kernel
theorem dX9_comes_217 : decode cX9_comes 217 = .ok (.iaload, 1) := by decide +kernel
theorem dX9_comes_218 : decode cX9_comes 218 = .ok (.iastore, 1) := by decide +kernel
theorem dX9_comes_219 : decode cX9_comes 219 = .ok (.iinc 2 1, 3) := by decide +kernel
theorem dX9_comes_222 : decode cX9_comes 222 = .ok (.goto (-35), 3) := by decide +kernel
theorem dX9_comes_225 : decode cX9_comes 225 = .ok (.aload_n 0, 1) := by decide +kernel
theorem dX9_comes_226 : decode cX9_comes 226 = .ok (.getfield 19, 3) := by decide +kernel
theorem dX9_comes_229 : decode cX9_comes 229 = .ok (.iconst 1, 1) := by decide +kernel
theorem dX9_comes_230 : decode cX9_comes 230 = .ok (.dup2, 1) := by decide +kernel
theorem dX9_comes_231 : decode cX9_comes 231 = .ok (.iaload, 1) := by decide +kernel
theorem dX9_comes_232 : decode cX9_comes 232 = .ok (.iconst 1, 1) := by decide +kernel
theorem dX9_comes_233 : decode cX9_comes 233 = .ok (.iadd, 1) := by decide +kernel
theorem dX9_comes_234 : decode cX9_comes 234 = .ok (.iastore, 1) := by decide +kernel
theorem dX9_comes_235 : decode cX9_comes 235 = .ok (.iconst 1, 1) := by decide +kernel
theorem dX9_comes_236 : decode cX9_comes 236 = .ok (.ireturn, 1) := by decide +kernel
theorem dX9_reads_0 : decode cX9_reads 0 = .ok (.aload_n 0, 1) := by decide +kernel
theorem dX9_reads_1 : decode cX9_reads 1 = .ok (.iconst 0, 1) := by decide +kernel
theorem dX9_reads_2 : decode cX9_reads 2 = .ok (.putfield 63, 3) := by decide +kernel
theorem dX9_reads_5 : decode cX9_reads 5 = .ok (.iconst 0, 1) := by decide +kernel
theorem dX9_reads_6 : decode cX9_reads 6 = .ok (.istore_n 1, 1) := by decide +kernel
theorem dX9_reads_7 : decode cX9_reads 7 = .ok (.aload_n 0, 1) := by decide +kernel
theorem dX9_reads_8 : decode cX9_reads 8 = .ok (.invokevirtual 92, 3) := by decide +kernel
theorem dX9_reads_11 : decode cX9_reads 11 = .ok (.ifCond .ne 12, 3) := by decide +kernel
theorem dX9_reads_14 : decode cX9_reads 14 = .ok (.sipush (-1000), 3) := by decide +kernel
theorem dX9_reads_17 : decode cX9_reads 17 = .ok (.aload_n 0, 1) := by decide +kernel
theorem dX9_reads_18 : decode cX9_reads 18 = .ok (.getfield 63, 3) := by decide +kernel
theorem dX9_reads_21 : decode cX9_reads 21 = .ok (.isub, 1) := by decide +kernel
theorem dX9_reads_22 : decode cX9_reads 22 = .ok (.ireturn, 1) := by decide +kernel
theorem dX9_reads_23 : decode cX9_reads 23 = .ok (.iinc 1 1, 3) := by decide +kernel
theorem dX9_reads_26 : decode cX9_reads 26 = .ok (.aload_n 0, 1) := by decide +kernel
theorem dX9_reads_27 : decode cX9_reads 27 = .ok (.getfield 63, 3) := by decide +kernel
theorem dX9_reads_30 : decode cX9_reads 30 = .ok (.aload_n 0, 1) := by decide +kernel
theorem dX9_reads_31 : decode cX9_reads 31 = .ok (.getfield 58, 3) := by decide +kernel
theorem dX9_reads_34 : decode cX9_reads 34 = .ok (.if_icmp .lt (-27), 3) := by decide +kernel
theorem dX9_reads_37 : decode cX9_reads 37 = .ok (.aload_n 0, 1) := by decide +kernel
theorem dX9_reads_38 : decode cX9_reads 38 = .ok (.getfield 13, 3) := by decide +kernel
theorem dX9_reads_41 : decode cX9_reads 41 = .ok (.aload_n 0, 1) := by decide +kernel
theorem dX9_reads_42 : decode cX9_reads 42 = .ok (.getfield 19, 3) := by decide +kernel
theorem dX9_reads_45 : decode cX9_reads 45 = .ok (.invokestatic 96, 3) := by decide +kernel
theorem dX9_reads_48 : decode cX9_reads 48 = .ok (.aload_n 0, 1) := by decide +kernel
theorem dX9_reads_49 : decode cX9_reads 49 = .ok (.iconst 0, 1) := by decide +kernel
theorem dX9_reads_50 : decode cX9_reads 50 = .ok (.putfield 63, 3) := by decide +kernel
theorem dX9_reads_53 : decode cX9_reads 53 = .ok (.aload_n 0, 1) := by decide +kernel
theorem dX9_reads_54 : decode cX9_reads 54 = .ok (.getfield 63, 3) := by decide +kernel
theorem dX9_reads_57 : decode cX9_reads 57 = .ok (.aload_n 0, 1) := by decide +kernel
theorem dX9_reads_58 : decode cX9_reads 58 = .ok (.getfield 58, 3) := by decide +kernel
theorem dX9_reads_61 : decode cX9_reads 61 = .ok (.if_icmp .ge 36, 3) := by decide +kernel
theorem dX9_reads_64 : decode cX9_reads 64 = .ok (.aload_n 0, 1) := by decide +kernel
theorem dX9_reads_65 : decode cX9_reads 65 = .ok (.getfield 63, 3) := by decide +kernel
theorem dX9_reads_68 : decode cX9_reads 68 = .ok (.istore_n 2, 1) := by decide +kernel
theorem dX9_reads_69 : decode cX9_reads 69 = .ok (.aload_n 0, 1) := by decide +kernel
theorem dX9_reads_70 : decode cX9_reads 70 = .ok (.invokevirtual 66, 3) := by decide +kernel
theorem dX9_reads_73 : decode cX9_reads 73 = .ok (.istore_n 3, 1) := by decide +kernel
theorem dX9_reads_74 : decode cX9_reads 74 = .ok (.aload_n 0, 1) := by decide +kernel
theorem dX9_reads_75 : decode cX9_reads 75 = .ok (.invokevirtual 92, 3) := by decide +kernel
theorem dX9_reads_78 : decode cX9_reads 78 = .ok (.istore 4, 2) := by decide +kernel
theorem dX9_reads_80 : decode cX9_reads 80 = .ok (.aload_n 0, 1) := by decide +kernel
theorem dX9_reads_81 : decode cX9_reads 81 = .ok (.iload_n 3, 1) := by decide +kernel
theorem dX9_reads_82 : decode cX9_reads 82 = .ok (.invokevirtual 100, 3) := by decide +kernel
theorem dX9_reads_85 : decode cX9_reads 85 = .ok (.ifCond .ne 9, 3) := by decide +kernel
theorem dX9_reads_88 : decode cX9_reads 88 = .ok (.sipush (-2000), 3) := by decide +kernel
theorem dX9_reads_91 : decode cX9_reads 91 = .ok (.iload_n 2, 1) := by decide +kernel
theorem dX9_reads_92 : decode cX9_reads 92 = .ok (.isub, 1) := by decide +kernel
theorem dX9_reads_93 : decode cX9_reads 93 = .ok (.ireturn, 1) := by decide +kernel
theorem dX9_reads_94 : decode cX9_reads 94 = .ok (.goto (-41), 3) := by decide +kernel
theorem dX9_reads_97 : decode cX9_reads 97 = .ok (.aload_n 0, 1) := by decide +kernel
theorem dX9_reads_98 : decode cX9_reads 98 = .ok (.getfield 19, 3) := by decide +kernel
theorem dX9_reads_101 : decode cX9_reads 101 = .ok (.aload_n 0, 1) := by decide +kernel
theorem dX9_reads_102 : decode cX9_reads 102 = .ok (.getfield 13, 3) := by decide +kernel
theorem dX9_reads_105 : decode cX9_reads 105 = .ok (.invokestatic 96, 3) := by decide +kernel
theorem dX9_reads_108 : decode cX9_reads 108 = .ok (.iload_n 1, 1) := by decide +kernel
theorem dX9_reads_109 : decode cX9_reads 109 = .ok (.ireturn, 1) := by decide +kernel
theorem dX9_copies_0 : decode cX9_copies 0 = .ok (.iconst 0, 1) := by decide +kernel
theorem dX9_copies_1 : decode cX9_copies 1 = .ok (.istore_n 2, 1) := by decide +kernel
theorem dX9_copies_2 : decode cX9_copies 2 = .ok (.iload_n 2, 1) := by decide +kernel
theorem dX9_copies_3 : decode cX9_copies 3 = .ok (.sipush 189, 3) := by decide +kernel
theorem dX9_copies_6 : decode cX9_copies 6 = .ok (.if_icmp .ge 15, 3) := by decide +kernel
theorem dX9_copies_9 : decode cX9_copies 9 = .ok (.aload_n 1, 1) := by decide +kernel
theorem dX9_copies_10 : decode cX9_copies 10 = .ok (.iload_n 2, 1) := by decide +kernel
theorem dX9_copies_11 : decode cX9_copies 11 = .ok (.aload_n 0, 1) := by decide +kernel
theorem dX9_copies_12 : decode cX9_copies 12 = .ok (.iload_n 2, 1) := by decide +kernel
theorem dX9_copies_13 : decode cX9_copies 13 = .ok (.iaload, 1) := by decide +kernel
theorem dX9_copies_14 : decode cX9_copies 14 = .ok (.iastore, 1) := by decide +kernel
theorem dX9_copies_15 : decode cX9_copies 15 = .ok (.iinc 2 1, 3) := by decide +kernel
theorem dX9_copies_18 : decode cX9_copies 18 = .ok (.goto (-16), 3) := by decide +kernel
theorem dX9_copies_21 : decode cX9_copies 21 = .ok (.return_, 1) := by decide +kernel
theorem dX9_town_0 : decode cX9_town 0 = .ok (.aload_n 0, 1) := by decide +kernel
theorem dX9_town_1 : decode cX9_town 1 = .ok (.invokevirtual 103, 3) := by decide +kernel
theorem dX9_town_4 : decode cX9_town 4 = .ok (.istore_n 1, 1) := by decide +kernel
theorem dX9_town_5 : decode cX9_town 5 = .ok (.aload_n 0, 1) := by decide +kernel
theorem dX9_town_6 : decode cX9_town 6 = .ok (.iconst 0, 1) := by decide +kernel
theorem dX9_town_7 : decode cX9_town 7 = .ok (.putfield 58, 3) := by decide +kernel
theorem dX9_town_10 : decode cX9_town 10 = .ok (.iload_n 1, 1) := by decide +kernel
theorem dX9_town_11 : decode cX9_town 11 = .ok (.ireturn, 1) := by decide +kernel
theorem dX9_holder_0 : decode cX9_holder 0 = .ok (.aload_n 0, 1) := by decide +kernel
theorem dX9_holder_1 : decode cX9_holder 1 = .ok (.iload_n 1, 1) := by decide +kernel
theorem dX9_holder_2 : decode cX9_holder 2 = .ok (.invokevirtual 106, 3) := by decide +kernel
theorem dX9_holder_5 : decode cX9_holder 5 = .ok (.ifCond .ne 9, 3) := by decide +kernel
theorem dX9_holder_8 : decode cX9_holder 8 = .ok (.aload_n 0, 1) := by decide +kernel
theorem dX9_holder_9 : decode cX9_holder 9 = .ok (.iconst (-1), 1) := by decide +kernel
theorem dX9_holder_10 : decode cX9_holder 10 = .ok (.invokevirtual 54, 3) := by decide +kernel
theorem dX9_holder_13 : decode cX9_holder 13 = .ok (.ireturn, 1) := by decide +kernel
theorem dX9_holder_14 : decode cX9_holder 14 = .ok (.iload_n 2, 1) := by decide +kernel
theorem dX9_holder_15 : decode cX9_holder 15 = .ok (.tableswitch 87 0 4 #[33, 33, 33, 40, 81], 33) := by decide +kernel
theorem dX9_holder_48 : decode cX9_holder 48 = .ok (.aload_n 0, 1) := by decide +kernel
theorem dX9_holder_49 : decode cX9_holder 49 = .ok (.iload_n 1, 1) := by decide +kernel
theorem dX9_holder_50 : decode cX9_holder 50 = .ok (.iload_n 2, 1) := by decide +kernel
theorem dX9_holder_51 : decode cX9_holder 51 = .ok (.invokevirtual 109, 3) := by decide +kernel
theorem dX9_holder_54 : decode cX9_holder 54 = .ok (.ireturn, 1) := by decide +kernel
theorem dX9_holder_55 : decode cX9_holder 55 = .ok (.iconst 0, 1) := by decide +kernel
theorem dX9_holder_56 : decode cX9_holder 56 = .ok (.istore_n 3, 1) := by decide +kernel
theorem dX9_holder_57 : decode cX9_holder 57 = .ok (.iconst 0, 1) := by decide +kernel
theorem dX9_holder_58 : decode cX9_holder 58 = .ok (.istore 4, 2) := by decide +kernel
theorem dX9_holder_60 : decode cX9_holder 60 = .ok (.iload 4, 2) := by decide +kernel
theorem dX9_holder_62 : decode cX9_holder 62 = .ok (.bipush 28, 2) := by decide +kernel
theorem dX9_holder_64 : decode cX9_holder 64 = .ok (.if_icmp .ge 30, 3) := by decide +kernel
theorem dX9_holder_67 : decode cX9_holder 67 = .ok (.iload_n 3, 1) := by decide +kernel
theorem dX9_holder_68 : decode cX9_holder 68 = .ok (.aload_n 0, 1) := by decide +kernel
theorem dX9_holder_69 : decode cX9_holder 69 = .ok (.getfield 13, 3) := by decide +kernel
theorem dX9_holder_72 : decode cX9_holder 72 = .ok (.iload 4, 2) := by decide +kernel
theorem dX9_holder_74 : decode cX9_holder 74 = .ok (.iload_n 1, 1) := by decide +kernel
theorem dX9_holder_75 : decode cX9_holder 75 = .ok (.invokestatic 80, 3) := by decide +kernel
theorem dX9_holder_78 : decode cX9_holder 78 = .ok (.ifCond .eq 7, 3) := by decide +kernel
theorem dX9_holder_81 : decode cX9_holder 81 = .ok (.iconst 1, 1) := by decide +kernel
theorem dX9_holder_82 : decode cX9_holder 82 = .ok (.goto 4, 3) := by decide +kernel
theorem dX9_holder_85 : decode cX9_holder 85 = .ok (.iconst 0, 1) := by decide +kernel
theorem dX9_holder_86 : decode cX9_holder 86 = .ok (.iadd, 1) := by decide +kernel
theorem dX9_holder_87 : decode cX9_holder 87 = .ok (.istore_n 3, 1) := by decide +kernel
theorem dX9_holder_88 : decode cX9_holder 88 = .ok (.iinc 4 1, 3) := by decide +kernel
theorem dX9_holder_91 : decode cX9_holder 91 = .ok (.goto (-31), 3) := by decide +kernel
theorem dX9_holder_94 : decode cX9_holder 94 = .ok (.iload_n 3, 1) := by decide +kernel
theorem dX9_holder_95 : decode cX9_holder 95 = .ok (.ireturn, 1) := by decide +kernel
theorem dX9_holder_96 : decode cX9_holder 96 = .ok (.aload_n 0, 1) := by decide +kernel
theorem dX9_holder_97 : decode cX9_holder 97 = .ok (.iload_n 1, 1) := by decide +kernel
theorem dX9_holder_98 : decode cX9_holder 98 = .ok (.invokevirtual 113, 3) := by decide +kernel
theorem dX9_holder_101 : decode cX9_holder 101 = .ok (.ireturn, 1) := by decide +kernel
theorem dX9_holder_102 : decode cX9_holder 102 = .ok (.aload_n 0, 1) := by decide +kernel
theorem dX9_holder_103 : decode cX9_holder 103 = .ok (.bipush (-2), 2) := by decide +kernel
theorem dX9_holder_105 : decode cX9_holder 105 = .ok (.invokevirtual 54, 3) := by decide +kernel
theorem dX9_holder_108 : decode cX9_holder 108 = .ok (.ireturn, 1) := by decide +kernel
theorem dX9_hour_0 : decode cX9_hour 0 = .ok (.iload_n 1, 1) := by decide +kernel
theorem dX9_hour_1 : decode cX9_hour 1 = .ok (.invokestatic 116, 3) := by decide +kernel
theorem dX9_hour_4 : decode cX9_hour 4 = .ok (.ifCond .ne 9, 3) := by decide +kernel
theorem dX9_hour_7 : decode cX9_hour 7 = .ok (.aload_n 0, 1) := by decide +kernel
theorem dX9_hour_8 : decode cX9_hour 8 = .ok (.iconst (-1), 1) := by decide +kernel
theorem dX9_hour_9 : decode cX9_hour 9 = .ok (.invokevirtual 54, 3) := by decide +kernel
theorem dX9_hour_12 : decode cX9_hour 12 = .ok (.ireturn, 1) := by decide +kernel
theorem dX9_hour_13 : decode cX9_hour 13 = .ok (.iload_n 2, 1) := by decide +kernel
theorem dX9_hour_14 : decode cX9_hour 14 = .ok (.iconst (-1), 1) := by decide +kernel
theorem dX9_hour_15 : decode cX9_hour 15 = .ok (.if_icmp .ge 10, 3) := by decide +kernel
theorem dX9_hour_18 : decode cX9_hour 18 = .ok (.aload_n 0, 1) := by decide +kernel
theorem dX9_hour_19 : decode cX9_hour 19 = .ok (.bipush (-4), 2) := by decide +kernel
theorem dX9_hour_21 : decode cX9_hour 21 = .ok (.invokevirtual 54, 3) := by decide +kernel
theorem dX9_hour_24 : decode cX9_hour 24 = .ok (.ireturn, 1) := by decide +kernel
theorem dX9_hour_25 : decode cX9_hour 25 = .ok (.aload_n 0, 1) := by decide +kernel
theorem dX9_hour_26 : decode cX9_hour 26 = .ok (.getfield 13, 3) := by decide +kernel
theorem dX9_hour_29 : decode cX9_hour 29 = .ok (.bipush 9, 2) := by decide +kernel
theorem dX9_hour_31 : decode cX9_hour 31 = .ok (.iconst 4, 1) := by decide +kernel
theorem dX9_hour_32 : decode cX9_hour 32 = .ok (.iload_n 1, 1) := by decide +kernel
theorem dX9_hour_33 : decode cX9_hour 33 = .ok (.imul, 1) := by decide +kernel
theorem dX9_hour_34 : decode cX9_hour 34 = .ok (.iadd, 1) := by decide +kernel
theorem dX9_hour_35 : decode cX9_hour 35 = .ok (.iaload, 1) := by decide +kernel
theorem dX9_hour_36 : decode cX9_hour 36 = .ok (.istore_n 3, 1) := by decide +kernel
theorem dX9_hour_37 : decode cX9_hour 37 = .ok (.iload_n 2, 1) := by decide +kernel
theorem dX9_hour_38 : decode cX9_hour 38 = .ok (.ifCond .ge 7, 3) := by decide +kernel
theorem dX9_hour_41 : decode cX9_hour 41 = .ok (.iload_n 3, 1) := by decide +kernel
theorem dX9_hour_42 : decode cX9_hour 42 = .ok (.goto 28, 3) := by decide +kernel
theorem dX9_hour_45 : decode cX9_hour 45 = .ok (.iload_n 2, 1) := by decide +kernel
theorem dX9_hour_46 : decode cX9_hour 46 = .ok (.iload_n 3, 1) := by decide +kernel
theorem dX9_hour_47 : decode cX9_hour 47 = .ok (.if_icmp .ge 21, 3) := by decide +kernel
theorem dX9_hour_50 : decode cX9_hour 50 = .ok (.aload_n 0, 1) := by decide +kernel
theorem dX9_hour_51 : decode cX9_hour 51 = .ok (.getfield 13, 3) := by decide +kernel
theorem dX9_hour_54 : decode cX9_hour 54 = .ok (.bipush 9, 2) := by decide +kernel
theorem dX9_hour_56 : decode cX9_hour 56 = .ok (.iconst 4, 1) := by decide +kernel
theorem dX9_hour_57 : decode cX9_hour 57 = .ok (.iload_n 1, 1) := by decide +kernel
theorem dX9_hour_58 : decode cX9_hour 58 = .ok (.imul, 1) := by decide +kernel
theorem dX9_hour_59 : decode cX9_hour 59 = .ok (.iadd, 1) := by decide +kernel
theorem dX9_hour_60 : decode cX9_hour 60 = .ok (.iconst 1, 1) := by decide +kernel
theorem dX9_hour_61 : decode cX9_hour 61 = .ok (.iadd, 1) := by decide +kernel
theorem dX9_hour_62 : decode cX9_hour 62 = .ok (.iload_n 2, 1) := by decide +kernel
theorem dX9_hour_63 : decode cX9_hour 63 = .ok (.iadd, 1) := by decide +kernel
theorem dX9_hour_64 : decode cX9_hour 64 = .ok (.iaload, 1) := by decide +kernel
theorem dX9_hour_65 : decode cX9_hour 65 = .ok (.goto 5, 3) := by decide +kernel
theorem dX9_hour_68 : decode cX9_hour 68 = .ok (.bipush (-9), 2) := by decide +kernel
theorem dX9_hour_70 : decode cX9_hour 70 = .ok (.ireturn, 1) := by decide +kernel
theorem dX9_work_0 : decode cX9_work 0 = .ok (.aload_n 0, 1) := by decide +kernel
theorem dX9_work_1 : decode cX9_work 1 = .ok (.iload_n 1, 1) := by decide +kernel
theorem dX9_work_2 : decode cX9_work 2 = .ok (.invokevirtual 119, 3) := by decide +kernel
theorem dX9_work_5 : decode cX9_work 5 = .ok (.ifCond .ne 11, 3) := by decide +kernel
theorem dX9_work_8 : decode cX9_work 8 = .ok (.aload_n 0, 1) := by decide +kernel
theorem dX9_work_9 : decode cX9_work 9 = .ok (.iconst (-1), 1) := by decide +kernel
theorem dX9_work_10 : decode cX9_work 10 = .ok (.invokevirtual 54, 3) := by decide +kernel
theorem dX9_work_13 : decode cX9_work 13 = .ok (.goto 27, 3) := by decide +kernel
theorem dX9_work_16 : decode cX9_work 16 = .ok (.iload_n 2, 1) := by decide +kernel
theorem dX9_work_17 : decode cX9_work 17 = .ok (.bipush 6, 2) := by decide +kernel
theorem dX9_work_19 : decode cX9_work 19 = .ok (.invokestatic 50, 3) := by decide +kernel
theorem dX9_work_22 : decode cX9_work 22 = .ok (.ifCond .eq 12, 3) := by decide +kernel
theorem dX9_work_25 : decode cX9_work 25 = .ok (.aload_n 0, 1) := by decide +kernel
theorem dX9_work_26 : decode cX9_work 26 = .ok (.iload_n 1, 1) := by decide +kernel
theorem dX9_work_27 : decode cX9_work 27 = .ok (.iload_n 2, 1) := by decide +kernel
theorem dX9_work_28 : decode cX9_work 28 = .ok (.invokevirtual 122, 3) := by decide +kernel
theorem dX9_work_31 : decode cX9_work 31 = .ok (.goto 9, 3) := by decide +kernel
theorem dX9_work_34 : decode cX9_work 34 = .ok (.aload_n 0, 1) := by decide +kernel
theorem dX9_work_35 : decode cX9_work 35 = .ok (.bipush (-2), 2) := by decide +kernel
theorem dX9_work_37 : decode cX9_work 37 = .ok (.invokevirtual 54, 3) := by decide +kernel
theorem dX9_work_40 : decode cX9_work 40 = .ok (.ireturn, 1) := by decide +kernel
theorem dX9_becomes_0 : decode cX9_becomes 0 = .ok (.aload_n 0, 1) := by decide +kernel
theorem dX9_becomes_1 : decode cX9_becomes 1 = .ok (.getfield 13, 3) := by decide +kernel
theorem dX9_becomes_4 : decode cX9_becomes 4 = .ok (.iload_n 1, 1) := by decide +kernel
theorem dX9_becomes_5 : decode cX9_becomes 5 = .ok (.iaload, 1) := by decide +kernel
theorem dX9_becomes_6 : decode cX9_becomes 6 = .ok (.istore_n 3, 1) := by decide +kernel
theorem dX9_becomes_7 : decode cX9_becomes 7 = .ok (.aload_n 0, 1) := by decide +kernel
theorem dX9_becomes_8 : decode cX9_becomes 8 = .ok (.getfield 13, 3) := by decide +kernel
theorem dX9_becomes_11 : decode cX9_becomes 11 = .ok (.iload_n 1, 1) := by decide +kernel
theorem dX9_becomes_12 : decode cX9_becomes 12 = .ok (.iload_n 2, 1) := by decide +kernel
theorem dX9_becomes_13 : decode cX9_becomes 13 = .ok (.iastore, 1) := by decide +kernel
theorem dX9_becomes_14 : decode cX9_becomes 14 = .ok (.iload_n 3, 1) := by decide +kernel
theorem dX9_becomes_15 : decode cX9_becomes 15 = .ok (.ireturn, 1) := by decide +kernel
theorem dX9_price_0 : decode cX9_price 0 = .ok (.aload_n 0, 1) := by decide +kernel
theorem dX9_price_1 : decode cX9_price 1 = .ok (.iload_n 1, 1) := by decide +kernel
theorem dX9_price_2 : decode cX9_price 2 = .ok (.invokevirtual 106, 3) := by decide +kernel
theorem dX9_price_5 : decode cX9_price 5 = .ok (.ifCond .eq 13, 3) := by decide +kernel
theorem dX9_price_8 : decode cX9_price 8 = .ok (.iload_n 2, 1) := by decide +kernel
theorem dX9_price_9 : decode cX9_price 9 = .ok (.iconst 0, 1) := by decide +kernel
theorem dX9_price_10 : decode cX9_price 10 = .ok (.bipush 9, 2) := by decide +kernel
theorem dX9_price_12 : decode cX9_price 12 = .ok (.invokestatic 125, 3) := by decide +kernel
theorem dX9_price_15 : decode cX9_price 15 = .ok (.goto 4, 3) := by decide +kernel
theorem dX9_price_18 : decode cX9_price 18 = .ok (.iconst (-1), 1) := by decide +kernel
theorem dX9_price_19 : decode cX9_price 19 = .ok (.istore_n 3, 1) := by decide +kernel
theorem dX9_price_20 : decode cX9_price 20 = .ok (.iload_n 3, 1) := by decide +kernel
theorem dX9_price_21 : decode cX9_price 21 = .ok (.ifCond .eq 11, 3) := by decide +kernel
theorem dX9_price_24 : decode cX9_price 24 = .ok (.aload_n 0, 1) := by decide +kernel
theorem dX9_price_25 : decode cX9_price 25 = .ok (.iload_n 3, 1) := by decide +kernel
theorem dX9_price_26 : decode cX9_price 26 = .ok (.invokevirtual 54, 3) := by decide +kernel
theorem dX9_price_29 : decode cX9_price 29 = .ok (.goto 16, 3) := by decide +kernel
theorem dX9_price_32 : decode cX9_price 32 = .ok (.aload_n 0, 1) := by decide +kernel
theorem dX9_price_33 : decode cX9_price 33 = .ok (.bipush 121, 2) := by decide +kernel
theorem dX9_price_35 : decode cX9_price 35 = .ok (.iconst 4, 1) := by decide +kernel
theorem dX9_price_36 : decode cX9_price 36 = .ok (.iload_n 1, 1) := by decide +kernel
theorem dX9_price_37 : decode cX9_price 37 = .ok (.imul, 1) := by decide +kernel
theorem dX9_price_38 : decode cX9_price 38 = .ok (.iadd, 1) := by decide +kernel
theorem dX9_price_39 : decode cX9_price 39 = .ok (.iconst 1, 1) := by decide +kernel
theorem dX9_price_40 : decode cX9_price 40 = .ok (.iadd, 1) := by decide +kernel
theorem dX9_price_41 : decode cX9_price 41 = .ok (.iload_n 2, 1) := by decide +kernel
theorem dX9_price_42 : decode cX9_price 42 = .ok (.invokevirtual 129, 3) := by decide +kernel
theorem dX9_price_45 : decode cX9_price 45 = .ok (.ireturn, 1) := by decide +kernel
theorem dX9_strike_0 : decode cX9_strike 0 = .ok (.iload_n 1, 1) := by decide +kernel
theorem dX9_strike_1 : decode cX9_strike 1 = .ok (.iconst 1, 1) := by decide +kernel
theorem dX9_strike_2 : decode cX9_strike 2 = .ok (.aload_n 0, 1) := by decide +kernel
theorem dX9_strike_3 : decode cX9_strike 3 = .ok (.getfield 13, 3) := by decide +kernel
theorem dX9_strike_6 : decode cX9_strike 6 = .ok (.iconst 0, 1) := by decide +kernel
theorem dX9_strike_7 : decode cX9_strike 7 = .ok (.iaload, 1) := by decide +kernel
theorem dX9_strike_8 : decode cX9_strike 8 = .ok (.ishl, 1) := by decide +kernel
theorem dX9_strike_9 : decode cX9_strike 9 = .ok (.invokestatic 50, 3) := by decide +kernel
theorem dX9_strike_12 : decode cX9_strike 12 = .ok (.ifCond .eq 12, 3) := by decide +kernel
theorem dX9_strike_15 : decode cX9_strike 15 = .ok (.aload_n 0, 1) := by decide +kernel
theorem dX9_strike_16 : decode cX9_strike 16 = .ok (.iconst 2, 1) := by decide +kernel
theorem dX9_strike_17 : decode cX9_strike 17 = .ok (.iload_n 1, 1) := by decide +kernel
theorem dX9_strike_18 : decode cX9_strike 18 = .ok (.invokevirtual 129, 3) := by decide +kernel
theorem dX9_strike_21 : decode cX9_strike 21 = .ok (.goto 8, 3) := by decide +kernel
theorem dX9_strike_24 : decode cX9_strike 24 = .ok (.aload_n 0, 1) := by decide +kernel
theorem dX9_strike_25 : decode cX9_strike 25 = .ok (.iconst (-1), 1) := by decide +kernel
theorem dX9_strike_26 : decode cX9_strike 26 = .ok (.invokevirtual 54, 3) := by decide +kernel
theorem dX9_strike_29 : decode cX9_strike 29 = .ok (.ireturn, 1) := by decide +kernel
theorem dX9_bell_0 : decode cX9_bell 0 = .ok (.iload_n 1, 1) := by decide +kernel
theorem dX9_bell_1 : decode cX9_bell 1 = .ok (.iconst (-1), 1) := by decide +kernel
theorem dX9_bell_2 : decode cX9_bell 2 = .ok (.if_icmp .eq 10, 3) := by decide +kernel
theorem dX9_bell_5 : decode cX9_bell 5 = .ok (.iload_n 1, 1) := by decide +kernel
theorem dX9_bell_6 : decode cX9_bell 6 = .ok (.invokestatic 116, 3) := by decide +kernel
theorem dX9_bell_9 : decode cX9_bell 9 = .ok (.ifCond .eq 13, 3) := by decide +kernel
theorem dX9_bell_12 : decode cX9_bell 12 = .ok (.iload_n 2, 1) := by decide +kernel
theorem dX9_bell_13 : decode cX9_bell 13 = .ok (.iconst 0, 1) := by decide +kernel
theorem dX9_bell_14 : decode cX9_bell 14 = .ok (.bipush 9, 2) := by decide +kernel
theorem dX9_bell_16 : decode cX9_bell 16 = .ok (.invokestatic 125, 3) := by decide +kernel
theorem dX9_bell_19 : decode cX9_bell 19 = .ok (.goto 4, 3) := by decide +kernel
theorem dX9_bell_22 : decode cX9_bell 22 = .ok (.iconst (-1), 1) := by decide +kernel
theorem dX9_bell_23 : decode cX9_bell 23 = .ok (.istore_n 3, 1) := by decide +kernel
theorem dX9_bell_24 : decode cX9_bell 24 = .ok (.iload_n 3, 1) := by decide +kernel
theorem dX9_bell_25 : decode cX9_bell 25 = .ok (.ifCond .eq 9, 3) := by decide +kernel
theorem dX9_bell_28 : decode cX9_bell 28 = .ok (.aload_n 0, 1) := by decide +kernel
theorem dX9_bell_29 : decode cX9_bell 29 = .ok (.iload_n 3, 1) := by decide +kernel
theorem dX9_bell_30 : decode cX9_bell 30 = .ok (.invokevirtual 54, 3) := by decide +kernel
theorem dX9_bell_33 : decode cX9_bell 33 = .ok (.ireturn, 1) := by decide +kernel
theorem dX9_bell_34 : decode cX9_bell 34 = .ok (.aload_n 0, 1) := by decide +kernel
theorem dX9_bell_35 : decode cX9_bell 35 = .ok (.getfield 13, 3) := by decide +kernel
theorem dX9_bell_38 : decode cX9_bell 38 = .ok (.iconst 4, 1) := by decide +kernel
theorem dX9_bell_39 : decode cX9_bell 39 = .ok (.iload_n 2, 1) := by decide +kernel
theorem dX9_bell_40 : decode cX9_bell 40 = .ok (.iastore, 1) := by decide +kernel
theorem dX9_bell_41 : decode cX9_bell 41 = .ok (.aload_n 0, 1) := by decide +kernel
theorem dX9_bell_42 : decode cX9_bell 42 = .ok (.iconst 3, 1) := by decide +kernel
theorem dX9_bell_43 : decode cX9_bell 43 = .ok (.iload_n 1, 1) := by decide +kernel
theorem dX9_bell_44 : decode cX9_bell 44 = .ok (.ifCond .ge 8, 3) := by decide +kernel
theorem dX9_bell_47 : decode cX9_bell 47 = .ok (.bipush (-9), 2) := by decide +kernel
theorem dX9_bell_49 : decode cX9_bell 49 = .ok (.goto 4, 3) := by decide +kernel
theorem dX9_bell_52 : decode cX9_bell 52 = .ok (.iload_n 1, 1) := by decide +kernel
theorem dX9_bell_53 : decode cX9_bell 53 = .ok (.invokevirtual 129, 3) := by decide +kernel
theorem dX9_bell_56 : decode cX9_bell 56 = .ok (.ireturn, 1) := by decide +kernel
theorem dX9_hasThatDay_0 : decode cX9_hasThatDay 0 = .ok (.iload_n 2, 1) := by decide +kernel
theorem dX9_hasThatDay_1 : decode cX9_hasThatDay 1 = .ok (.iconst 4, 1) := by decide +kernel
theorem dX9_hasThatDay_2 : decode cX9_hasThatDay 2 = .ok (.idiv, 1) := by decide +kernel
theorem dX9_hasThatDay_3 : decode cX9_hasThatDay 3 = .ok (.iconst 4, 1) := by decide +kernel
theorem dX9_hasThatDay_4 : decode cX9_hasThatDay 4 = .ok (.imul, 1) := by decide +kernel
theorem dX9_hasThatDay_5 : decode cX9_hasThatDay 5 = .ok (.istore_n 3, 1) := by decide +kernel
theorem dX9_hasThatDay_6 : decode cX9_hasThatDay 6 = .ok (.iload_n 3, 1) := by decide +kernel
theorem dX9_hasThatDay_7 : decode cX9_hasThatDay 7 = .ok (.iload_n 2, 1) := by decide +kernel
theorem dX9_hasThatDay_8 : decode cX9_hasThatDay 8 = .ok (.iconst 4, 1) := by decide +kernel
theorem dX9_hasThatDay_9 : decode cX9_hasThatDay 9 = .ok (.idiv, 1) := by decide +kernel
theorem dX9_hasThatDay_10 : decode cX9_hasThatDay 10 = .ok (.iconst 4, 1) := by decide +kernel
theorem dX9_hasThatDay_11 : decode cX9_hasThatDay 11 = .ok (.imul, 1) := by decide +kernel
theorem dX9_hasThatDay_12 : decode cX9_hasThatDay 12 = .ok (.iconst 4, 1) := by decide +kernel
theorem dX9_hasThatDay_13 : decode cX9_hasThatDay 13 = .ok (.iadd, 1) := by decide +kernel
theorem dX9_hasThatDay_14 : decode cX9_hasThatDay 14 = .ok (.if_icmp .ge 23, 3) := by decide +kernel
theorem dX9_hasThatDay_17 : decode cX9_hasThatDay 17 = .ok (.aload_n 0, 1) := by decide +kernel
theorem dX9_hasThatDay_18 : decode cX9_hasThatDay 18 = .ok (.getfield 13, 3) := by decide +kernel
theorem dX9_hasThatDay_21 : decode cX9_hasThatDay 21 = .ok (.iload_n 3, 1) := by decide +kernel
theorem dX9_hasThatDay_22 : decode cX9_hasThatDay 22 = .ok (.iload_n 1, 1) := by decide +kernel
theorem dX9_hasThatDay_23 : decode cX9_hasThatDay 23 = .ok (.invokestatic 80, 3) := by decide +kernel
theorem dX9_hasThatDay_26 : decode cX9_hasThatDay 26 = .ok (.ifCond .eq 5, 3) := by decide +kernel
theorem dX9_hasThatDay_29 : decode cX9_hasThatDay 29 = .ok (.iconst 1, 1) := by decide +kernel
theorem dX9_hasThatDay_30 : decode cX9_hasThatDay 30 = .ok (.ireturn, 1) := by decide +kernel
theorem dX9_hasThatDay_31 : decode cX9_hasThatDay 31 = .ok (.iinc 3 1, 3) := by decide +kernel
theorem dX9_hasThatDay_34 : decode cX9_hasThatDay 34 = .ok (.goto (-28), 3) := by decide +kernel
theorem dX9_hasThatDay_37 : decode cX9_hasThatDay 37 = .ok (.iconst 0, 1) := by decide +kernel
theorem dX9_hasThatDay_38 : decode cX9_hasThatDay 38 = .ok (.ireturn, 1) := by decide +kernel
theorem dX9_partOf_0 : decode cX9_partOf 0 = .ok (.aload_n 0, 1) := by decide +kernel
theorem dX9_partOf_1 : decode cX9_partOf 1 = .ok (.iload_n 1, 1) := by decide +kernel
theorem dX9_partOf_2 : decode cX9_partOf 2 = .ok (.iconst 0, 1) := by decide +kernel
theorem dX9_partOf_3 : decode cX9_partOf 3 = .ok (.invokevirtual 122, 3) := by decide +kernel
theorem dX9_partOf_6 : decode cX9_partOf 6 = .ok (.istore 4, 2) := by decide +kernel
theorem dX9_partOf_8 : decode cX9_partOf 8 = .ok (.iload_n 2, 1) := by decide +kernel
theorem dX9_partOf_9 : decode cX9_partOf 9 = .ok (.iload 4, 2) := by decide +kernel
theorem dX9_partOf_11 : decode cX9_partOf 11 = .ok (.if_icmp .eq 39, 3) := by decide +kernel
theorem dX9_partOf_14 : decode cX9_partOf 14 = .ok (.iload_n 3, 1) := by decide +kernel
theorem dX9_partOf_15 : decode cX9_partOf 15 = .ok (.aload_n 0, 1) := by decide +kernel
theorem dX9_partOf_16 : decode cX9_partOf 16 = .ok (.getfield 13, 3) := by decide +kernel
theorem dX9_partOf_19 : decode cX9_partOf 19 = .ok (.iconst 3, 1) := by decide +kernel
theorem dX9_partOf_20 : decode cX9_partOf 20 = .ok (.iaload, 1) := by decide +kernel
theorem dX9_partOf_21 : decode cX9_partOf 21 = .ok (.if_icmp .ne 18, 3) := by decide +kernel
theorem dX9_partOf_24 : decode cX9_partOf 24 = .ok (.aload_n 0, 1) := by decide +kernel
theorem dX9_partOf_25 : decode cX9_partOf 25 = .ok (.iload_n 1, 1) := by decide +kernel
theorem dX9_partOf_26 : decode cX9_partOf 26 = .ok (.iconst 5, 1) := by decide +kernel
theorem dX9_partOf_27 : decode cX9_partOf 27 = .ok (.invokevirtual 122, 3) := by decide +kernel
theorem dX9_partOf_30 : decode cX9_partOf 30 = .ok (.aload_n 0, 1) := by decide +kernel
theorem dX9_partOf_31 : decode cX9_partOf 31 = .ok (.getfield 13, 3) := by decide +kernel
theorem dX9_partOf_34 : decode cX9_partOf 34 = .ok (.iconst 4, 1) := by decide +kernel
theorem dX9_partOf_35 : decode cX9_partOf 35 = .ok (.iaload, 1) := by decide +kernel
theorem dX9_partOf_36 : decode cX9_partOf 36 = .ok (.if_icmp .eq 14, 3) := by decide +kernel
theorem dX9_partOf_39 : decode cX9_partOf 39 = .ok (.aload_n 0, 1) := by decide +kernel
theorem dX9_partOf_40 : decode cX9_partOf 40 = .ok (.iload_n 2, 1) := by decide +kernel
theorem dX9_partOf_41 : decode cX9_partOf 41 = .ok (.iconst 3, 1) := by decide +kernel
theorem dX9_partOf_42 : decode cX9_partOf 42 = .ok (.invokevirtual 109, 3) := by decide +kernel
theorem dX9_partOf_45 : decode cX9_partOf 45 = .ok (.iload 4, 2) := by decide +kernel
theorem dX9_partOf_47 : decode cX9_partOf 47 = .ok (.if_icmp .ne 5, 3) := by decide +kernel
theorem dX9_partOf_50 : decode cX9_partOf 50 = .ok (.iconst 0, 1) := by decide +kernel
theorem dX9_partOf_51 : decode cX9_partOf 51 = .ok (.ireturn, 1) := by decide +kernel
theorem dX9_partOf_52 : decode cX9_partOf 52 = .ok (.iload_n 2, 1) := by decide +kernel
theorem dX9_partOf_53 : decode cX9_partOf 53 = .ok (.aload_n 0, 1) := by decide +kernel
theorem dX9_partOf_54 : decode cX9_partOf 54 = .ok (.getfield 31, 3) := by decide +kernel
theorem dX9_partOf_57 : decode cX9_partOf 57 = .ok (.if_icmp .ne 5, 3) := by decide +kernel
theorem dX9_partOf_60 : decode cX9_partOf 60 = .ok (.iconst 0, 1) := by decide +kernel
theorem dX9_partOf_61 : decode cX9_partOf 61 = .ok (.ireturn, 1) := by decide +kernel
theorem dX9_partOf_62 : decode cX9_partOf 62 = .ok (.aload_n 0, 1) := by decide +kernel
theorem dX9_partOf_63 : decode cX9_partOf 63 = .ok (.getfield 13, 3) := by decide +kernel
theorem dX9_partOf_66 : decode cX9_partOf 66 = .ok (.iconst 2, 1) := by decide +kernel
theorem dX9_partOf_67 : decode cX9_partOf 67 = .ok (.iaload, 1) := by decide +kernel
theorem dX9_partOf_68 : decode cX9_partOf 68 = .ok (.iload_n 2, 1) := by decide +kernel
theorem dX9_partOf_69 : decode cX9_partOf 69 = .ok (.ishr, 1) := by decide +kernel
theorem dX9_partOf_70 : decode cX9_partOf 70 = .ok (.iconst 1, 1) := by decide +kernel
theorem dX9_partOf_71 : decode cX9_partOf 71 = .ok (.iand, 1) := by decide +kernel
theorem dX9_partOf_72 : decode cX9_partOf 72 = .ok (.iconst 1, 1) := by decide +kernel
theorem dX9_partOf_73 : decode cX9_partOf 73 = .ok (.if_icmp .ne 6, 3) := by decide +kernel
theorem dX9_partOf_76 : decode cX9_partOf 76 = .ok (.bipush (-9), 2) := by decide +kernel
theorem dX9_partOf_78 : decode cX9_partOf 78 = .ok (.ireturn, 1) := by decide +kernel
theorem dX9_partOf_79 : decode cX9_partOf 79 = .ok (.aload_n 0, 1) := by decide +kernel
theorem dX9_partOf_80 : decode cX9_partOf 80 = .ok (.iload_n 2, 1) := by decide +kernel
theorem dX9_partOf_81 : decode cX9_partOf 81 = .ok (.iconst 1, 1) := by decide +kernel
theorem dX9_partOf_82 : decode cX9_partOf 82 = .ok (.invokevirtual 109, 3) := by decide +kernel
theorem dX9_partOf_85 : decode cX9_partOf 85 = .ok (.istore 5, 2) := by decide +kernel
theorem dX9_partOf_87 : decode cX9_partOf 87 = .ok (.aload_n 0, 1) := by decide +kernel
theorem dX9_partOf_88 : decode cX9_partOf 88 = .ok (.iload_n 2, 1) := by decide +kernel
theorem dX9_partOf_89 : decode cX9_partOf 89 = .ok (.iconst 0, 1) := by decide +kernel
theorem dX9_partOf_90 : decode cX9_partOf 90 = .ok (.invokevirtual 109, 3) := by decide +kernel
theorem dX9_partOf_93 : decode cX9_partOf 93 = .ok (.tableswitch 134 1 6 #[39, 60, 79, 94, 117, 131], 39) := by decide +kernel
theorem dX9_partOf_132 : decode cX9_partOf 132 = .ok (.iconst 2, 1) := by decide +kernel
theorem dX9_partOf_133 : decode cX9_partOf 133 = .ok (.iload 5, 2) := by decide +kernel
theorem dX9_partOf_135 : decode cX9_partOf 135 = .ok (.imul, 1) := by decide +kernel
theorem dX9_partOf_136 : decode cX9_partOf 136 = .ok (.aload_n 0, 1) := by decide +kernel
theorem dX9_partOf_137 : decode cX9_partOf 137 = .ok (.iload_n 1, 1) := by decide +kernel
theorem dX9_partOf_138 : decode cX9_partOf 138 = .ok (.iconst 2, 1) := by decide +kernel
theorem dX9_partOf_139 : decode cX9_partOf 139 = .ok (.invokevirtual 122, 3) := by decide +kernel
theorem dX9_partOf_142 : decode cX9_partOf 142 = .ok (.iadd, 1) := by decide +kernel
theorem dX9_partOf_143 : decode cX9_partOf 143 = .ok (.iconst 1, 1) := by decide +kernel
theorem dX9_partOf_144 : decode cX9_partOf 144 = .ok (.isub, 1) := by decide +kernel
theorem dX9_partOf_145 : decode cX9_partOf 145 = .ok (.aload_n 0, 1) := by decide +kernel
theorem dX9_partOf_146 : decode cX9_partOf 146 = .ok (.iload_n 1, 1) := by decide +kernel
theorem dX9_partOf_147 : decode cX9_partOf 147 = .ok (.iconst 2, 1) := by decide +kernel
theorem dX9_partOf_148 : decode cX9_partOf 148 = .ok (.invokevirtual 122, 3) := by decide +kernel
theorem dX9_partOf_151 : decode cX9_partOf 151 = .ok (.idiv, 1) := by decide +kernel
theorem dX9_partOf_152 : decode cX9_partOf 152 = .ok (.ireturn, 1) := by decide +kernel
theorem dX9_partOf_153 : decode cX9_partOf 153 = .ok (.aload_n 0, 1) := by decide +kernel
theorem dX9_partOf_154 : decode cX9_partOf 154 = .ok (.iload 4, 2) := by decide +kernel
theorem dX9_partOf_156 : decode cX9_partOf 156 = .ok (.iload_n 3, 1) := by decide +kernel
theorem dX9_partOf_157 : decode cX9_partOf 157 = .ok (.invokevirtual 132, 3) := by decide +kernel
theorem dX9_partOf_160 : decode cX9_partOf 160 = .ok (.ifCond .eq 7, 3) := by decide +kernel
theorem dX9_partOf_163 : decode cX9_partOf 163 = .ok (.iconst 0, 1) := by decide +kernel
theorem dX9_partOf_164 : decode cX9_partOf 164 = .ok (.goto 7, 3) := by decide +kernel
theorem dX9_partOf_167 : decode cX9_partOf 167 = .ok (.iconst 2, 1) := by decide +kernel
theorem dX9_partOf_168 : decode cX9_partOf 168 = .ok (.iload 5, 2) := by decide +kernel
theorem dX9_partOf_170 : decode cX9_partOf 170 = .ok (.imul, 1) := by decide +kernel
theorem dX9_partOf_171 : decode cX9_partOf 171 = .ok (.ireturn, 1) := by decide +kernel
theorem dX9_partOf_172 : decode cX9_partOf 172 = .ok (.iload 5, 2) := by decide +kernel
theorem dX9_partOf_174 : decode cX9_partOf 174 = .ok (.aload_n 0, 1) := by decide +kernel
theorem dX9_partOf_175 : decode cX9_partOf 175 = .ok (.getfield 13, 3) := by decide +kernel
theorem dX9_partOf_178 : decode cX9_partOf 178 = .ok (.bipush 9, 2) := by decide +kernel
theorem dX9_partOf_180 : decode cX9_partOf 180 = .ok (.iconst 4, 1) := by decide +kernel
theorem dX9_partOf_181 : decode cX9_partOf 181 = .ok (.iload_n 3, 1) := by decide +kernel
theorem dX9_partOf_182 : decode cX9_partOf 182 = .ok (.imul, 1) := by decide +kernel
theorem dX9_partOf_183 : decode cX9_partOf 183 = .ok (.iadd, 1) := by decide +kernel
theorem dX9_partOf_184 : decode cX9_partOf 184 = .ok (.iaload, 1) := by decide +kernel
theorem dX9_partOf_185 : decode cX9_partOf 185 = .ok (.imul, 1) := by decide +kernel
theorem dX9_partOf_186 : decode cX9_partOf 186 = .ok (.ireturn, 1) := by decide +kernel
theorem dX9_partOf_187 : decode cX9_partOf 187 = .ok (.aload_n 0, 1) := by decide +kernel
theorem dX9_partOf_188 : decode cX9_partOf 188 = .ok (.iload_n 1, 1) := by decide +kernel
theorem dX9_partOf_189 : decode cX9_partOf 189 = .ok (.iconst 5, 1) := by decide +kernel
theorem dX9_partOf_190 : decode cX9_partOf 190 = .ok (.invokevirtual 122, 3) := by decide +kernel
theorem dX9_partOf_193 : decode cX9_partOf 193 = .ok (.aload_n 0, 1) := by decide +kernel
theorem dX9_partOf_194 : decode cX9_partOf 194 = .ok (.iload_n 2, 1) := by decide +kernel
theorem dX9_partOf_195 : decode cX9_partOf 195 = .ok (.iconst 2, 1) := by decide +kernel
theorem dX9_partOf_196 : decode cX9_partOf 196 = .ok (.invokevirtual 109, 3) := by decide +kernel
theorem dX9_partOf_199 : decode cX9_partOf 199 = .ok (.if_icmp .ne 8, 3) := by decide +kernel
theorem dX9_partOf_202 : decode cX9_partOf 202 = .ok (.iload 5, 2) := by decide +kernel
theorem dX9_partOf_204 : decode cX9_partOf 204 = .ok (.goto 5, 3) := by decide +kernel
theorem dX9_partOf_207 : decode cX9_partOf 207 = .ok (.bipush (-9), 2) := by decide +kernel
theorem dX9_partOf_209 : decode cX9_partOf 209 = .ok (.ireturn, 1) := by decide +kernel
theorem dX9_partOf_210 : decode cX9_partOf 210 = .ok (.iload_n 3, 1) := by decide +kernel
theorem dX9_partOf_211 : decode cX9_partOf 211 = .ok (.iconst 4, 1) := by decide +kernel
theorem dX9_partOf_212 : decode cX9_partOf 212 = .ok (.irem, 1) := by decide +kernel
theorem dX9_partOf_213 : decode cX9_partOf 213 = .ok (.iconst 3, 1) := by decide +kernel
theorem dX9_partOf_214 : decode cX9_partOf 214 = .ok (.if_icmp .ne 7, 3) := by decide +kernel
theorem dX9_partOf_217 : decode cX9_partOf 217 = .ok (.iconst 0, 1) := by decide +kernel
theorem dX9_partOf_218 : decode cX9_partOf 218 = .ok (.goto 5, 3) := by decide +kernel
theorem dX9_partOf_221 : decode cX9_partOf 221 = .ok (.iload 5, 2) := by decide +kernel
theorem dX9_partOf_223 : decode cX9_partOf 223 = .ok (.ireturn, 1) := by decide +kernel
theorem dX9_partOf_224 : decode cX9_partOf 224 = .ok (.bipush (-9), 2) := by decide +kernel
theorem dX9_partOf_226 : decode cX9_partOf 226 = .ok (.ireturn, 1) := by decide +kernel
theorem dX9_partOf_227 : decode cX9_partOf 227 = .ok (.iload 5, 2) := by decide +kernel
theorem dX9_partOf_229 : decode cX9_partOf 229 = .ok (.ireturn, 1) := by decide +kernel
theorem dX9_leave_0 : decode cX9_leave 0 = .ok (.aload_n 0, 1) := by decide +kernel
theorem dX9_leave_1 : decode cX9_leave 1 = .ok (.iload_n 1, 1) := by decide +kernel
theorem dX9_leave_2 : decode cX9_leave 2 = .ok (.invokevirtual 119, 3) := by decide +kernel
theorem dX9_leave_5 : decode cX9_leave 5 = .ok (.ifCond .eq 18, 3) := by decide +kernel
theorem dX9_leave_8 : decode cX9_leave 8 = .ok (.aload_n 0, 1) := by decide +kernel
theorem dX9_leave_9 : decode cX9_leave 9 = .ok (.iload_n 2, 1) := by decide +kernel
theorem dX9_leave_10 : decode cX9_leave 10 = .ok (.invokevirtual 106, 3) := by decide +kernel
theorem dX9_leave_13 : decode cX9_leave 13 = .ok (.ifCond .eq 10, 3) := by decide +kernel
theorem dX9_leave_16 : decode cX9_leave 16 = .ok (.iload_n 3, 1) := by decide +kernel
theorem dX9_leave_17 : decode cX9_leave 17 = .ok (.invokestatic 116, 3) := by decide +kernel
theorem dX9_leave_20 : decode cX9_leave 20 = .ok (.ifCond .ne 11, 3) := by decide +kernel
theorem dX9_leave_23 : decode cX9_leave 23 = .ok (.aload_n 0, 1) := by decide +kernel
theorem dX9_leave_24 : decode cX9_leave 24 = .ok (.iconst (-1), 1) := by decide +kernel
theorem dX9_leave_25 : decode cX9_leave 25 = .ok (.invokevirtual 54, 3) := by decide +kernel
theorem dX9_leave_28 : decode cX9_leave 28 = .ok (.goto 26, 3) := by decide +kernel
theorem dX9_leave_31 : decode cX9_leave 31 = .ok (.aload_n 0, 1) := by decide +kernel
theorem dX9_leave_32 : decode cX9_leave 32 = .ok (.getfield 13, 3) := by decide +kernel
theorem dX9_leave_35 : decode cX9_leave 35 = .ok (.iload_n 3, 1) := by decide +kernel
theorem dX9_leave_36 : decode cX9_leave 36 = .ok (.iload_n 2, 1) := by decide +kernel
theorem dX9_leave_37 : decode cX9_leave 37 = .ok (.invokestatic 80, 3) := by decide +kernel
theorem dX9_leave_40 : decode cX9_leave 40 = .ok (.ifCond .eq 13, 3) := by decide +kernel
theorem dX9_leave_43 : decode cX9_leave 43 = .ok (.aload_n 0, 1) := by decide +kernel
theorem dX9_leave_44 : decode cX9_leave 44 = .ok (.iload_n 1, 1) := by decide +kernel
theorem dX9_leave_45 : decode cX9_leave 45 = .ok (.iload_n 2, 1) := by decide +kernel
theorem dX9_leave_46 : decode cX9_leave 46 = .ok (.iload_n 3, 1) := by decide +kernel
theorem dX9_leave_47 : decode cX9_leave 47 = .ok (.invokevirtual 135, 3) := by decide +kernel
theorem dX9_leave_50 : decode cX9_leave 50 = .ok (.goto 4, 3) := by decide +kernel
theorem dX9_leave_53 : decode cX9_leave 53 = .ok (.iconst 0, 1) := by decide +kernel
theorem dX9_leave_54 : decode cX9_leave 54 = .ok (.ireturn, 1) := by decide +kernel
theorem dX9_hourOf_0 : decode cX9_hourOf 0 = .ok (.iconst 0, 1) := by decide +kernel
theorem dX9_hourOf_1 : decode cX9_hourOf 1 = .ok (.istore_n 3, 1) := by decide +kernel
theorem dX9_hourOf_2 : decode cX9_hourOf 2 = .ok (.iconst 0, 1) := by decide +kernel
theorem dX9_hourOf_3 : decode cX9_hourOf 3 = .ok (.istore 4, 2) := by decide +kernel
theorem dX9_hourOf_5 : decode cX9_hourOf 5 = .ok (.iload 4, 2) := by decide +kernel
theorem dX9_hourOf_7 : decode cX9_hourOf 7 = .ok (.aload_n 0, 1) := by decide +kernel
theorem dX9_hourOf_8 : decode cX9_hourOf 8 = .ok (.getfield 13, 3) := by decide +kernel
theorem dX9_hourOf_11 : decode cX9_hourOf 11 = .ok (.bipush 9, 2) := by decide +kernel
theorem dX9_hourOf_13 : decode cX9_hourOf 13 = .ok (.iconst 4, 1) := by decide +kernel
theorem dX9_hourOf_14 : decode cX9_hourOf 14 = .ok (.iload_n 2, 1) := by decide +kernel
theorem dX9_hourOf_15 : decode cX9_hourOf 15 = .ok (.imul, 1) := by decide +kernel
theorem dX9_hourOf_16 : decode cX9_hourOf 16 = .ok (.iadd, 1) := by decide +kernel
theorem dX9_hourOf_17 : decode cX9_hourOf 17 = .ok (.iaload, 1) := by decide +kernel
theorem dX9_hourOf_18 : decode cX9_hourOf 18 = .ok (.if_icmp .ge 46, 3) := by decide +kernel
theorem dX9_hourOf_21 : decode cX9_hourOf 21 = .ok (.aload_n 0, 1) := by decide +kernel
theorem dX9_hourOf_22 : decode cX9_hourOf 22 = .ok (.iload_n 1, 1) := by decide +kernel
theorem dX9_hourOf_23 : decode cX9_hourOf 23 = .ok (.aload_n 0, 1) := by decide +kernel
theorem dX9_hourOf_24 : decode cX9_hourOf 24 = .ok (.getfield 13, 3) := by decide +kernel
theorem dX9_hourOf_27 : decode cX9_hourOf 27 = .ok (.bipush 9, 2) := by decide +kernel
theorem dX9_hourOf_29 : decode cX9_hourOf 29 = .ok (.iconst 4, 1) := by decide +kernel
theorem dX9_hourOf_30 : decode cX9_hourOf 30 = .ok (.iload_n 2, 1) := by decide +kernel
theorem dX9_hourOf_31 : decode cX9_hourOf 31 = .ok (.imul, 1) := by decide +kernel
theorem dX9_hourOf_32 : decode cX9_hourOf 32 = .ok (.iadd, 1) := by decide +kernel
theorem dX9_hourOf_33 : decode cX9_hourOf 33 = .ok (.iconst 1, 1) := by decide +kernel
theorem dX9_hourOf_34 : decode cX9_hourOf 34 = .ok (.iadd, 1) := by decide +kernel
theorem dX9_hourOf_35 : decode cX9_hourOf 35 = .ok (.iload 4, 2) := by decide +kernel
theorem dX9_hourOf_37 : decode cX9_hourOf 37 = .ok (.iadd, 1) := by decide +kernel
theorem dX9_hourOf_38 : decode cX9_hourOf 38 = .ok (.iaload, 1) := by decide +kernel
theorem dX9_hourOf_39 : decode cX9_hourOf 39 = .ok (.iload_n 2, 1) := by decide +kernel
theorem dX9_hourOf_40 : decode cX9_hourOf 40 = .ok (.invokevirtual 135, 3) := by decide +kernel
theorem dX9_hourOf_43 : decode cX9_hourOf 43 = .ok (.istore 5, 2) := by decide +kernel
theorem dX9_hourOf_45 : decode cX9_hourOf 45 = .ok (.iload 5, 2) := by decide +kernel
theorem dX9_hourOf_47 : decode cX9_hourOf 47 = .ok (.ifCond .ge 6, 3) := by decide +kernel
theorem dX9_hourOf_50 : decode cX9_hourOf 50 = .ok (.ldc 138, 2) := by decide +kernel
theorem dX9_hourOf_52 : decode cX9_hourOf 52 = .ok (.ireturn, 1) := by decide +kernel
theorem dX9_hourOf_53 : decode cX9_hourOf 53 = .ok (.iload_n 3, 1) := by decide +kernel
theorem dX9_hourOf_54 : decode cX9_hourOf 54 = .ok (.iload 5, 2) := by decide +kernel
theorem dX9_hourOf_56 : decode cX9_hourOf 56 = .ok (.iadd, 1) := by decide +kernel
theorem dX9_hourOf_57 : decode cX9_hourOf 57 = .ok (.istore_n 3, 1) := by decide +kernel
theorem dX9_hourOf_58 : decode cX9_hourOf 58 = .ok (.iinc 4 1, 3) := by decide +kernel
theorem dX9_hourOf_61 : decode cX9_hourOf 61 = .ok (.goto (-56), 3) := by decide +kernel
theorem dX9_hourOf_64 : decode cX9_hourOf 64 = .ok (.iload_n 3, 1) := by decide +kernel
theorem dX9_hourOf_65 : decode cX9_hourOf 65 = .ok (.ireturn, 1) := by decide +kernel
theorem dX9_rowOf_0 : decode cX9_rowOf 0 = .ok (.iconst 0, 1) := by decide +kernel
theorem dX9_rowOf_1 : decode cX9_rowOf 1 = .ok (.istore_n 3, 1) := by decide +kernel
theorem dX9_rowOf_2 : decode cX9_rowOf 2 = .ok (.iload_n 2, 1) := by decide +kernel
theorem dX9_rowOf_3 : decode cX9_rowOf 3 = .ok (.istore 4, 2) := by decide +kernel
theorem dX9_rowOf_5 : decode cX9_rowOf 5 = .ok (.iload 4, 2) := by decide +kernel
theorem dX9_rowOf_7 : decode cX9_rowOf 7 = .ok (.iload_n 2, 1) := by decide +kernel
theorem dX9_rowOf_8 : decode cX9_rowOf 8 = .ok (.aload_n 0, 1) := by decide +kernel
theorem dX9_rowOf_9 : decode cX9_rowOf 9 = .ok (.iload_n 1, 1) := by decide +kernel
theorem dX9_rowOf_10 : decode cX9_rowOf 10 = .ok (.iconst 2, 1) := by decide +kernel
theorem dX9_rowOf_11 : decode cX9_rowOf 11 = .ok (.invokevirtual 122, 3) := by decide +kernel
theorem dX9_rowOf_14 : decode cX9_rowOf 14 = .ok (.iadd, 1) := by decide +kernel
theorem dX9_rowOf_15 : decode cX9_rowOf 15 = .ok (.if_icmp .ge 19, 3) := by decide +kernel
theorem dX9_rowOf_18 : decode cX9_rowOf 18 = .ok (.iload_n 3, 1) := by decide +kernel
theorem dX9_rowOf_19 : decode cX9_rowOf 19 = .ok (.aload_n 0, 1) := by decide +kernel
theorem dX9_rowOf_20 : decode cX9_rowOf 20 = .ok (.iload_n 1, 1) := by decide +kernel
theorem dX9_rowOf_21 : decode cX9_rowOf 21 = .ok (.iload 4, 2) := by decide +kernel
theorem dX9_rowOf_23 : decode cX9_rowOf 23 = .ok (.invokevirtual 139, 3) := by decide +kernel
theorem dX9_rowOf_26 : decode cX9_rowOf 26 = .ok (.iadd, 1) := by decide +kernel
theorem dX9_rowOf_27 : decode cX9_rowOf 27 = .ok (.istore_n 3, 1) := by decide +kernel
theorem dX9_rowOf_28 : decode cX9_rowOf 28 = .ok (.iinc 4 1, 3) := by decide +kernel
theorem dX9_rowOf_31 : decode cX9_rowOf 31 = .ok (.goto (-26), 3) := by decide +kernel
theorem dX9_rowOf_34 : decode cX9_rowOf 34 = .ok (.iload_n 3, 1) := by decide +kernel
theorem dX9_rowOf_35 : decode cX9_rowOf 35 = .ok (.ireturn, 1) := by decide +kernel
theorem dX9_weighs_0 : decode cX9_weighs 0 = .ok (.iload_n 2, 1) := by decide +kernel
theorem dX9_weighs_1 : decode cX9_weighs 1 = .ok (.ldc 138, 2) := by decide +kernel
theorem dX9_weighs_3 : decode cX9_weighs 3 = .ok (.if_icmp .ge 34, 3) := by decide +kernel
theorem dX9_weighs_6 : decode cX9_weighs 6 = .ok (.aload_n 0, 1) := by decide +kernel
theorem dX9_weighs_7 : decode cX9_weighs 7 = .ok (.getfield 142, 3) := by decide +kernel
theorem dX9_weighs_10 : decode cX9_weighs 10 = .ok (.ifCond .lt 28, 3) := by decide +kernel
theorem dX9_weighs_13 : decode cX9_weighs 13 = .ok (.iload_n 2, 1) := by decide +kernel
theorem dX9_weighs_14 : decode cX9_weighs 14 = .ok (.aload_n 0, 1) := by decide +kernel
theorem dX9_weighs_15 : decode cX9_weighs 15 = .ok (.getfield 142, 3) := by decide +kernel
theorem dX9_weighs_18 : decode cX9_weighs 18 = .ok (.if_icmp .gt 19, 3) := by decide +kernel
theorem dX9_weighs_21 : decode cX9_weighs 21 = .ok (.iload_n 2, 1) := by decide +kernel
theorem dX9_weighs_22 : decode cX9_weighs 22 = .ok (.aload_n 0, 1) := by decide +kernel
theorem dX9_weighs_23 : decode cX9_weighs 23 = .ok (.getfield 142, 3) := by decide +kernel
theorem dX9_weighs_26 : decode cX9_weighs 26 = .ok (.if_icmp .ne 12, 3) := by decide +kernel
theorem dX9_weighs_29 : decode cX9_weighs 29 = .ok (.iload_n 1, 1) := by decide +kernel
theorem dX9_weighs_30 : decode cX9_weighs 30 = .ok (.aload_n 0, 1) := by decide +kernel
theorem dX9_weighs_31 : decode cX9_weighs 31 = .ok (.getfield 145, 3) := by decide +kernel
theorem dX9_weighs_34 : decode cX9_weighs 34 = .ok (.if_icmp .lt 4, 3) := by decide +kernel
theorem dX9_weighs_37 : decode cX9_weighs 37 = .ok (.return_, 1) := by decide +kernel
theorem dX9_weighs_38 : decode cX9_weighs 38 = .ok (.aload_n 0, 1) := by decide +kernel
theorem dX9_weighs_39 : decode cX9_weighs 39 = .ok (.iload_n 2, 1) := by decide +kernel
theorem dX9_weighs_40 : decode cX9_weighs 40 = .ok (.putfield 142, 3) := by decide +kernel
theorem dX9_weighs_43 : decode cX9_weighs 43 = .ok (.aload_n 0, 1) := by decide +kernel
theorem dX9_weighs_44 : decode cX9_weighs 44 = .ok (.iload_n 1, 1) := by decide +kernel
theorem dX9_weighs_45 : decode cX9_weighs 45 = .ok (.putfield 145, 3) := by decide +kernel
theorem dX9_weighs_48 : decode cX9_weighs 48 = .ok (.return_, 1) := by decide +kernel
theorem dX9_finds_0 : decode cX9_finds 0 = .ok (.aload_n 0, 1) := by decide +kernel
theorem dX9_finds_1 : decode cX9_finds 1 = .ok (.bipush (-9), 2) := by decide +kernel
theorem dX9_finds_3 : decode cX9_finds 3 = .ok (.putfield 142, 3) := by decide +kernel
theorem dX9_finds_6 : decode cX9_finds 6 = .ok (.aload_n 0, 1) := by decide +kernel
theorem dX9_finds_7 : decode cX9_finds 7 = .ok (.iconst 0, 1) := by decide +kernel
theorem dX9_finds_8 : decode cX9_finds 8 = .ok (.putfield 145, 3) := by decide +kernel
theorem dX9_finds_11 : decode cX9_finds 11 = .ok (.aload_n 0, 1) := by decide +kernel
theorem dX9_finds_12 : decode cX9_finds 12 = .ok (.iload_n 1, 1) := by decide +kernel
theorem dX9_finds_13 : decode cX9_finds 13 = .ok (.iconst 2, 1) := by decide +kernel
theorem dX9_finds_14 : decode cX9_finds 14 = .ok (.invokevirtual 122, 3) := by decide +kernel
theorem dX9_finds_17 : decode cX9_finds 17 = .ok (.istore_n 2, 1) := by decide +kernel
theorem dX9_finds_18 : decode cX9_finds 18 = .ok (.aload_n 0, 1) := by decide +kernel
theorem dX9_finds_19 : decode cX9_finds 19 = .ok (.iload_n 1, 1) := by decide +kernel
theorem dX9_finds_20 : decode cX9_finds 20 = .ok (.iconst 1, 1) := by decide +kernel
theorem dX9_finds_21 : decode cX9_finds 21 = .ok (.invokevirtual 122, 3) := by decide +kernel
theorem dX9_finds_24 : decode cX9_finds 24 = .ok (.ifCond .ne 43, 3) := by decide +kernel
theorem dX9_finds_27 : decode cX9_finds 27 = .ok (.iconst 0, 1) := by decide +kernel
theorem dX9_finds_28 : decode cX9_finds 28 = .ok (.istore_n 3, 1) := by decide +kernel
theorem dX9_finds_29 : decode cX9_finds 29 = .ok (.iload_n 3, 1) := by decide +kernel
theorem dX9_finds_30 : decode cX9_finds 30 = .ok (.iload_n 2, 1) := by decide +kernel
theorem dX9_finds_31 : decode cX9_finds 31 = .ok (.iadd, 1) := by decide +kernel
theorem dX9_finds_32 : decode cX9_finds 32 = .ok (.iconst 1, 1) := by decide +kernel
theorem dX9_finds_33 : decode cX9_finds 33 = .ok (.isub, 1) := by decide +kernel
theorem dX9_finds_34 : decode cX9_finds 34 = .ok (.aload_n 0, 1) := by decide +kernel
theorem dX9_finds_35 : decode cX9_finds 35 = .ok (.iload_n 1, 1) := by decide +kernel
theorem dX9_finds_36 : decode cX9_finds 36 = .ok (.iconst 3, 1) := by decide +kernel
theorem dX9_finds_37 : decode cX9_finds 37 = .ok (.invokevirtual 122, 3) := by decide +kernel
theorem dX9_finds_40 : decode cX9_finds 40 = .ok (.if_icmp .gt 26, 3) := by decide +kernel
theorem dX9_finds_43 : decode cX9_finds 43 = .ok (.aload_n 0, 1) := by decide +kernel
theorem dX9_finds_44 : decode cX9_finds 44 = .ok (.iconst 1, 1) := by decide +kernel
theorem dX9_finds_45 : decode cX9_finds 45 = .ok (.iload_n 2, 1) := by decide +kernel
theorem dX9_finds_46 : decode cX9_finds 46 = .ok (.ishl, 1) := by decide +kernel
theorem dX9_finds_47 : decode cX9_finds 47 = .ok (.iconst 1, 1) := by decide +kernel
theorem dX9_finds_48 : decode cX9_finds 48 = .ok (.isub, 1) := by decide +kernel
theorem dX9_finds_49 : decode cX9_finds 49 = .ok (.iload_n 3, 1) := by decide +kernel
theorem dX9_finds_50 : decode cX9_finds 50 = .ok (.ishl, 1) := by decide +kernel
theorem dX9_finds_51 : decode cX9_finds 51 = .ok (.aload_n 0, 1) := by decide +kernel
theorem dX9_finds_52 : decode cX9_finds 52 = .ok (.iload_n 1, 1) := by decide +kernel
theorem dX9_finds_53 : decode cX9_finds 53 = .ok (.iload_n 3, 1) := by decide +kernel
theorem dX9_finds_54 : decode cX9_finds 54 = .ok (.invokevirtual 148, 3) := by decide +kernel
theorem dX9_finds_57 : decode cX9_finds 57 = .ok (.invokevirtual 151, 3) := by decide +kernel
theorem dX9_finds_60 : decode cX9_finds 60 = .ok (.iinc 3 1, 3) := by decide +kernel
theorem dX9_finds_63 : decode cX9_finds 63 = .ok (.goto (-34), 3) := by decide +kernel
theorem dX9_finds_66 : decode cX9_finds 66 = .ok (.return_, 1) := by decide +kernel
theorem dX9_finds_67 : decode cX9_finds 67 = .ok (.iconst 0, 1) := by decide +kernel
theorem dX9_finds_68 : decode cX9_finds 68 = .ok (.istore_n 3, 1) := by decide +kernel
theorem dX9_finds_69 : decode cX9_finds 69 = .ok (.iload_n 3, 1) := by decide +kernel
theorem dX9_finds_70 : decode cX9_finds 70 = .ok (.bipush 7, 2) := by decide +kernel
theorem dX9_finds_72 : decode cX9_finds 72 = .ok (.if_icmp .ge 97, 3) := by decide +kernel
theorem dX9_finds_75 : decode cX9_finds 75 = .ok (.aload_n 0, 1) := by decide +kernel
theorem dX9_finds_76 : decode cX9_finds 76 = .ok (.getfield 35, 3) := by decide +kernel
theorem dX9_finds_79 : decode cX9_finds 79 = .ok (.iload_n 3, 1) := by decide +kernel
theorem dX9_finds_80 : decode cX9_finds 80 = .ok (.bipush (-9), 2) := by decide +kernel
theorem dX9_finds_82 : decode cX9_finds 82 = .ok (.iastore, 1) := by decide +kernel
theorem dX9_finds_83 : decode cX9_finds 83 = .ok (.aload_n 0, 1) := by decide +kernel
theorem dX9_finds_84 : decode cX9_finds 84 = .ok (.getfield 38, 3) := by decide +kernel
theorem dX9_finds_87 : decode cX9_finds 87 = .ok (.iload_n 3, 1) := by decide +kernel
theorem dX9_finds_88 : decode cX9_finds 88 = .ok (.ldc 138, 2) := by decide +kernel
theorem dX9_finds_90 : decode cX9_finds 90 = .ok (.iastore, 1) := by decide +kernel
theorem dX9_finds_91 : decode cX9_finds 91 = .ok (.iconst 4, 1) := by decide +kernel
theorem dX9_finds_92 : decode cX9_finds 92 = .ok (.iload_n 3, 1) := by decide +kernel
theorem dX9_finds_93 : decode cX9_finds 93 = .ok (.imul, 1) := by decide +kernel
theorem dX9_finds_94 : decode cX9_finds 94 = .ok (.istore 4, 2) := by decide +kernel
theorem dX9_finds_96 : decode cX9_finds 96 = .ok (.iload 4, 2) := by decide +kernel
theorem dX9_finds_98 : decode cX9_finds 98 = .ok (.iconst 4, 1) := by decide +kernel
theorem dX9_finds_99 : decode cX9_finds 99 = .ok (.iload_n 3, 1) := by decide +kernel
theorem dX9_finds_100 : decode cX9_finds 100 = .ok (.imul, 1) := by decide +kernel
theorem dX9_finds_101 : decode cX9_finds 101 = .ok (.iconst 4, 1) := by decide +kernel
theorem dX9_finds_102 : decode cX9_finds 102 = .ok (.iadd, 1) := by decide +kernel
theorem dX9_finds_103 : decode cX9_finds 103 = .ok (.if_icmp .ge 60, 3) := by decide +kernel
theorem dX9_finds_106 : decode cX9_finds 106 = .ok (.iload 4, 2) := by decide +kernel
theorem dX9_finds_108 : decode cX9_finds 108 = .ok (.aload_n 0, 1) := by decide +kernel
theorem dX9_finds_109 : decode cX9_finds 109 = .ok (.iload_n 1, 1) := by decide +kernel
theorem dX9_finds_110 : decode cX9_finds 110 = .ok (.iconst 3, 1) := by decide +kernel
theorem dX9_finds_111 : decode cX9_finds 111 = .ok (.invokevirtual 122, 3) := by decide +kernel
theorem dX9_finds_114 : decode cX9_finds 114 = .ok (.if_icmp .gt 49, 3) := by decide +kernel
theorem dX9_finds_117 : decode cX9_finds 117 = .ok (.aload_n 0, 1) := by decide +kernel
theorem dX9_finds_118 : decode cX9_finds 118 = .ok (.iload_n 1, 1) := by decide +kernel
theorem dX9_finds_119 : decode cX9_finds 119 = .ok (.iload 4, 2) := by decide +kernel
theorem dX9_finds_121 : decode cX9_finds 121 = .ok (.invokevirtual 139, 3) := by decide +kernel
theorem dX9_finds_124 : decode cX9_finds 124 = .ok (.aload_n 0, 1) := by decide +kernel
theorem dX9_finds_125 : decode cX9_finds 125 = .ok (.getfield 38, 3) := by decide +kernel
theorem dX9_finds_128 : decode cX9_finds 128 = .ok (.iload_n 3, 1) := by decide +kernel
theorem dX9_finds_129 : decode cX9_finds 129 = .ok (.iaload, 1) := by decide +kernel
theorem dX9_finds_130 : decode cX9_finds 130 = .ok (.if_icmp .lt 6, 3) := by decide +kernel
theorem dX9_finds_133 : decode cX9_finds 133 = .ok (.goto 24, 3) := by decide +kernel
theorem dX9_finds_136 : decode cX9_finds 136 = .ok (.aload_n 0, 1) := by decide +kernel
theorem dX9_finds_137 : decode cX9_finds 137 = .ok (.getfield 35, 3) := by decide +kernel
theorem dX9_finds_140 : decode cX9_finds 140 = .ok (.iload_n 3, 1) := by decide +kernel
theorem dX9_finds_141 : decode cX9_finds 141 = .ok (.iload 4, 2) := by decide +kernel
theorem dX9_finds_143 : decode cX9_finds 143 = .ok (.iastore, 1) := by decide +kernel
theorem dX9_finds_144 : decode cX9_finds 144 = .ok (.aload_n 0, 1) := by decide +kernel
theorem dX9_finds_145 : decode cX9_finds 145 = .ok (.getfield 38, 3) := by decide +kernel
theorem dX9_finds_148 : decode cX9_finds 148 = .ok (.iload_n 3, 1) := by decide +kernel
theorem dX9_finds_149 : decode cX9_finds 149 = .ok (.aload_n 0, 1) := by decide +kernel
theorem dX9_finds_150 : decode cX9_finds 150 = .ok (.iload_n 1, 1) := by decide +kernel
theorem dX9_finds_151 : decode cX9_finds 151 = .ok (.iload 4, 2) := by decide +kernel
theorem dX9_finds_153 : decode cX9_finds 153 = .ok (.invokevirtual 139, 3) := by decide +kernel
theorem dX9_finds_156 : decode cX9_finds 156 = .ok (.iastore, 1) := by decide +kernel
theorem dX9_finds_157 : decode cX9_finds 157 = .ok (.iinc 4 1, 3) := by decide +kernel
theorem dX9_finds_160 : decode cX9_finds 160 = .ok (.goto (-64), 3) := by decide +kernel
theorem dX9_finds_163 : decode cX9_finds 163 = .ok (.iinc 3 1, 3) := by decide +kernel
theorem dX9_finds_166 : decode cX9_finds 166 = .ok (.goto (-97), 3) := by decide +kernel
theorem dX9_finds_169 : decode cX9_finds 169 = .ok (.iconst 0, 1) := by decide +kernel
theorem dX9_finds_170 : decode cX9_finds 170 = .ok (.istore_n 3, 1) := by decide +kernel
theorem dX9_finds_171 : decode cX9_finds 171 = .ok (.iload_n 3, 1) := by decide +kernel
theorem dX9_finds_172 : decode cX9_finds 172 = .ok (.sipush 128, 3) := by decide +kernel
theorem dX9_finds_175 : decode cX9_finds 175 = .ok (.if_icmp .ge 103, 3) := by decide +kernel
theorem dX9_finds_178 : decode cX9_finds 178 = .ok (.iconst 0, 1) := by decide +kernel
theorem dX9_finds_179 : decode cX9_finds 179 = .ok (.istore 4, 2) := by decide +kernel
theorem dX9_finds_181 : decode cX9_finds 181 = .ok (.iconst 0, 1) := by decide +kernel
theorem dX9_finds_182 : decode cX9_finds 182 = .ok (.istore 5, 2) := by decide +kernel
theorem dX9_finds_184 : decode cX9_finds 184 = .ok (.iconst 0, 1) := by decide +kernel
theorem dX9_finds_185 : decode cX9_finds 185 = .ok (.istore 6, 2) := by decide +kernel
theorem dX9_finds_187 : decode cX9_finds 187 = .ok (.iconst 0, 1) := by decide +kernel
theorem dX9_finds_188 : decode cX9_finds 188 = .ok (.istore 7, 2) := by decide +kernel
theorem dX9_finds_190 : decode cX9_finds 190 = .ok (.iload 7, 2) := by decide +kernel
theorem dX9_finds_192 : decode cX9_finds 192 = .ok (.bipush 7, 2) := by decide +kernel
theorem dX9_finds_194 : decode cX9_finds 194 = .ok (.if_icmp .ge 64, 3) := by decide +kernel
theorem dX9_finds_197 : decode cX9_finds 197 = .ok (.iload_n 3, 1) := by decide +kernel
theorem dX9_finds_198 : decode cX9_finds 198 = .ok (.iload 7, 2) := by decide +kernel
theorem dX9_finds_200 : decode cX9_finds 200 = .ok (.ishr, 1) := by decide +kernel
theorem dX9_finds_201 : decode cX9_finds 201 = .ok (.iconst 1, 1) := by decide +kernel
theorem dX9_finds_202 : decode cX9_finds 202 = .ok (.iand, 1) := by decide +kernel
theorem dX9_finds_203 : decode cX9_finds 203 = .ok (.ifCond .ne 6, 3) := by decide +kernel
theorem dX9_finds_206 : decode cX9_finds 206 = .ok (.goto 46, 3) := by decide +kernel
theorem dX9_finds_209 : decode cX9_finds 209 = .ok (.iinc 4 1, 3) := by decide +kernel
theorem dX9_finds_212 : decode cX9_finds 212 = .ok (.iload 6, 2) := by decide +kernel
theorem dX9_finds_214 : decode cX9_finds 214 = .ok (.aload_n 0, 1) := by decide +kernel
theorem dX9_finds_215 : decode cX9_finds 215 = .ok (.getfield 38, 3) := by decide +kernel
theorem dX9_finds_218 : decode cX9_finds 218 = .ok (.iload 7, 2) := by decide +kernel
theorem dX9_finds_220 : decode cX9_finds 220 = .ok (.iaload, 1) := by decide +kernel
theorem dX9_finds_221 : decode cX9_finds 221 = .ok (.iadd, 1) := by decide +kernel
theorem dX9_finds_222 : decode cX9_finds 222 = .ok (.istore 6, 2) := by decide +kernel
theorem dX9_finds_224 : decode cX9_finds 224 = .ok (.iload 5, 2) := by decide +kernel
theorem dX9_finds_226 : decode cX9_finds 226 = .ok (.aload_n 0, 1) := by decide +kernel
theorem dX9_finds_227 : decode cX9_finds 227 = .ok (.getfield 35, 3) := by decide +kernel
theorem dX9_finds_230 : decode cX9_finds 230 = .ok (.iload 7, 2) := by decide +kernel
theorem dX9_finds_232 : decode cX9_finds 232 = .ok (.iaload, 1) := by decide +kernel
theorem dX9_finds_233 : decode cX9_finds 233 = .ok (.ifCond .ge 7, 3) := by decide +kernel
theorem dX9_finds_236 : decode cX9_finds 236 = .ok (.iconst 0, 1) := by decide +kernel
theorem dX9_finds_237 : decode cX9_finds 237 = .ok (.goto 12, 3) := by decide +kernel
theorem dX9_finds_240 : decode cX9_finds 240 = .ok (.iconst 1, 1) := by decide +kernel
theorem dX9_finds_241 : decode cX9_finds 241 = .ok (.aload_n 0, 1) := by decide +kernel
theorem dX9_finds_242 : decode cX9_finds 242 = .ok (.getfield 35, 3) := by decide +kernel
theorem dX9_finds_245 : decode cX9_finds 245 = .ok (.iload 7, 2) := by decide +kernel
theorem dX9_finds_247 : decode cX9_finds 247 = .ok (.iaload, 1) := by decide +kernel
theorem dX9_finds_248 : decode cX9_finds 248 = .ok (.ishl, 1) := by decide +kernel
theorem dX9_finds_249 : decode cX9_finds 249 = .ok (.ior, 1) := by decide +kernel
theorem dX9_finds_250 : decode cX9_finds 250 = .ok (.istore 5, 2) := by decide +kernel
theorem dX9_finds_252 : decode cX9_finds 252 = .ok (.iinc 7 1, 3) := by decide +kernel
theorem dX9_finds_255 : decode cX9_finds 255 = .ok (.goto (-65), 3) := by decide +kernel
theorem dX9_finds_258 : decode cX9_finds 258 = .ok (.iload 4, 2) := by decide +kernel
theorem dX9_finds_260 : decode cX9_finds 260 = .ok (.iload_n 2, 1) := by decide +kernel
theorem dX9_finds_261 : decode cX9_finds 261 = .ok (.if_icmp .ne 11, 3) := by decide +kernel
theorem dX9_finds_264 : decode cX9_finds 264 = .ok (.aload_n 0, 1) := by decide +kernel
theorem dX9_finds_265 : decode cX9_finds 265 = .ok (.iload 5, 2) := by decide +kernel
theorem dX9_finds_267 : decode cX9_finds 267 = .ok (.iload 6, 2) := by decide +kernel
theorem dX9_finds_269 : decode cX9_finds 269 = .ok (.invokevirtual 151, 3) := by decide +kernel
theorem dX9_finds_272 : decode cX9_finds 272 = .ok (.iinc 3 1, 3) := by decide +kernel
theorem dX9_finds_275 : decode cX9_finds 275 = .ok (.goto (-104), 3) := by decide +kernel
theorem dX9_finds_278 : decode cX9_finds 278 = .ok (.return_, 1) := by decide +kernel
theorem dX9_costOf_0 : decode cX9_costOf 0 = .ok (.aload_n 0, 1) := by decide +kernel
theorem dX9_costOf_1 : decode cX9_costOf 1 = .ok (.iload_n 1, 1) := by decide +kernel
theorem dX9_costOf_2 : decode cX9_costOf 2 = .ok (.invokevirtual 155, 3) := by decide +kernel
theorem dX9_costOf_5 : decode cX9_costOf 5 = .ok (.aload_n 0, 1) := by decide +kernel
theorem dX9_costOf_6 : decode cX9_costOf 6 = .ok (.getfield 142, 3) := by decide +kernel
theorem dX9_costOf_9 : decode cX9_costOf 9 = .ok (.ireturn, 1) := by decide +kernel
theorem dX9_one_0 : decode cX9_one 0 = .ok (.aload_n 0, 1) := by decide +kernel
theorem dX9_one_1 : decode cX9_one 1 = .ok (.iload_n 1, 1) := by decide +kernel
theorem dX9_one_2 : decode cX9_one 2 = .ok (.invokevirtual 119, 3) := by decide +kernel
theorem dX9_one_5 : decode cX9_one 5 = .ok (.ifCond .ne 9, 3) := by decide +kernel
theorem dX9_one_8 : decode cX9_one 8 = .ok (.aload_n 0, 1) := by decide +kernel
theorem dX9_one_9 : decode cX9_one 9 = .ok (.iconst (-1), 1) := by decide +kernel
theorem dX9_one_10 : decode cX9_one 10 = .ok (.invokevirtual 54, 3) := by decide +kernel
theorem dX9_one_13 : decode cX9_one 13 = .ok (.ireturn, 1) := by decide +kernel
theorem dX9_one_14 : decode cX9_one 14 = .ok (.aload_n 0, 1) := by decide +kernel
theorem dX9_one_15 : decode cX9_one 15 = .ok (.iload_n 1, 1) := by decide +kernel
theorem dX9_one_16 : decode cX9_one 16 = .ok (.invokevirtual 155, 3) := by decide +kernel
theorem dX9_one_19 : decode cX9_one 19 = .ok (.aload_n 0, 1) := by decide +kernel
theorem dX9_one_20 : decode cX9_one 20 = .ok (.getfield 145, 3) := by decide +kernel
theorem dX9_one_23 : decode cX9_one 23 = .ok (.ireturn, 1) := by decide +kernel
theorem dX9_cost_0 : decode cX9_cost 0 = .ok (.aload_n 0, 1) := by decide +kernel
theorem dX9_cost_1 : decode cX9_cost 1 = .ok (.iload_n 1, 1) := by decide +kernel
theorem dX9_cost_2 : decode cX9_cost 2 = .ok (.invokevirtual 119, 3) := by decide +kernel
theorem dX9_cost_5 : decode cX9_cost 5 = .ok (.ifCond .eq 11, 3) := by decide +kernel
theorem dX9_cost_8 : decode cX9_cost 8 = .ok (.aload_n 0, 1) := by decide +kernel
theorem dX9_cost_9 : decode cX9_cost 9 = .ok (.iload_n 1, 1) := by decide +kernel
theorem dX9_cost_10 : decode cX9_cost 10 = .ok (.invokevirtual 159, 3) := by decide +kernel
theorem dX9_cost_13 : decode cX9_cost 13 = .ok (.goto 8, 3) := by decide +kernel
theorem dX9_cost_16 : decode cX9_cost 16 = .ok (.aload_n 0, 1) := by decide +kernel
theorem dX9_cost_17 : decode cX9_cost 17 = .ok (.iconst (-1), 1) := by decide +kernel
theorem dX9_cost_18 : decode cX9_cost 18 = .ok (.invokevirtual 54, 3) := by decide +kernel
theorem dX9_cost_21 : decode cX9_cost 21 = .ok (.ireturn, 1) := by decide +kernel
theorem dX9_netBy_0 : decode cX9_netBy 0 = .ok (.aload_n 0, 1) := by decide +kernel
theorem dX9_netBy_1 : decode cX9_netBy 1 = .ok (.iload_n 1, 1) := by decide +kernel
theorem dX9_netBy_2 : decode cX9_netBy 2 = .ok (.invokevirtual 159, 3) := by decide +kernel
theorem dX9_netBy_5 : decode cX9_netBy 5 = .ok (.istore_n 3, 1) := by decide +kernel
theorem dX9_netBy_6 : decode cX9_netBy 6 = .ok (.iload_n 3, 1) := by decide +kernel
theorem dX9_netBy_7 : decode cX9_netBy 7 = .ok (.ifCond .lt 8, 3) := by decide +kernel
theorem dX9_netBy_10 : decode cX9_netBy 10 = .ok (.iload_n 2, 1) := by decide +kernel
theorem dX9_netBy_11 : decode cX9_netBy 11 = .ok (.iload_n 3, 1) := by decide +kernel
theorem dX9_netBy_12 : decode cX9_netBy 12 = .ok (.if_icmp .ge 8, 3) := by decide +kernel
theorem dX9_netBy_15 : decode cX9_netBy 15 = .ok (.bipush (-9), 2) := by decide +kernel
theorem dX9_netBy_17 : decode cX9_netBy 17 = .ok (.goto 6, 3) := by decide +kernel
theorem dX9_netBy_20 : decode cX9_netBy 20 = .ok (.iload_n 2, 1) := by decide +kernel
theorem dX9_netBy_21 : decode cX9_netBy 21 = .ok (.iload_n 3, 1) := by decide +kernel
theorem dX9_netBy_22 : decode cX9_netBy 22 = .ok (.isub, 1) := by decide +kernel
theorem dX9_netBy_23 : decode cX9_netBy 23 = .ok (.ireturn, 1) := by decide +kernel
theorem dX9_netOf_0 : decode cX9_netOf 0 = .ok (.aload_n 0, 1) := by decide +kernel
theorem dX9_netOf_1 : decode cX9_netOf 1 = .ok (.iload_n 1, 1) := by decide +kernel
theorem dX9_netOf_2 : decode cX9_netOf 2 = .ok (.aload_n 0, 1) := by decide +kernel
theorem dX9_netOf_3 : decode cX9_netOf 3 = .ok (.iload_n 1, 1) := by decide +kernel
theorem dX9_netOf_4 : decode cX9_netOf 4 = .ok (.iconst 4, 1) := by decide +kernel
theorem dX9_netOf_5 : decode cX9_netOf 5 = .ok (.invokevirtual 122, 3) := by decide +kernel
theorem dX9_netOf_8 : decode cX9_netOf 8 = .ok (.invokevirtual 162, 3) := by decide +kernel
theorem dX9_netOf_11 : decode cX9_netOf 11 = .ok (.ireturn, 1) := by decide +kernel
theorem dX9_net_0 : decode cX9_net 0 = .ok (.aload_n 0, 1) := by decide +kernel
theorem dX9_net_1 : decode cX9_net 1 = .ok (.iload_n 1, 1) := by decide +kernel
theorem dX9_net_2 : decode cX9_net 2 = .ok (.invokevirtual 119, 3) := by decide +kernel
theorem dX9_net_5 : decode cX9_net 5 = .ok (.ifCond .eq 11, 3) := by decide +kernel
theorem dX9_net_8 : decode cX9_net 8 = .ok (.aload_n 0, 1) := by decide +kernel
theorem dX9_net_9 : decode cX9_net 9 = .ok (.iload_n 1, 1) := by decide +kernel
theorem dX9_net_10 : decode cX9_net 10 = .ok (.invokevirtual 165, 3) := by decide +kernel
theorem dX9_net_13 : decode cX9_net 13 = .ok (.goto 8, 3) := by decide +kernel
theorem dX9_net_16 : decode cX9_net 16 = .ok (.aload_n 0, 1) := by decide +kernel
theorem dX9_net_17 : decode cX9_net 17 = .ok (.iconst (-1), 1) := by decide +kernel
theorem dX9_net_18 : decode cX9_net 18 = .ok (.invokevirtual 54, 3) := by decide +kernel
theorem dX9_net_21 : decode cX9_net 21 = .ok (.ireturn, 1) := by decide +kernel
theorem dX9_bars_0 : decode cX9_bars 0 = .ok (.aload_n 0, 1) := by decide +kernel
theorem dX9_bars_1 : decode cX9_bars 1 = .ok (.iload_n 1, 1) := by decide +kernel
theorem dX9_bars_2 : decode cX9_bars 2 = .ok (.invokevirtual 119, 3) := by decide +kernel
theorem dX9_bars_5 : decode cX9_bars 5 = .ok (.ifCond .ne 9, 3) := by decide +kernel
theorem dX9_bars_8 : decode cX9_bars 8 = .ok (.aload_n 0, 1) := by decide +kernel
theorem dX9_bars_9 : decode cX9_bars 9 = .ok (.iconst (-1), 1) := by decide +kernel
theorem dX9_bars_10 : decode cX9_bars 10 = .ok (.invokevirtual 54, 3) := by decide +kernel
theorem dX9_bars_13 : decode cX9_bars 13 = .ok (.ireturn, 1) := by decide +kernel
theorem dX9_bars_14 : decode cX9_bars 14 = .ok (.aload_n 0, 1) := by decide +kernel
theorem dX9_bars_15 : decode cX9_bars 15 = .ok (.iload_n 1, 1) := by decide +kernel
theorem dX9_bars_16 : decode cX9_bars 16 = .ok (.invokevirtual 159, 3) := by decide +kernel
theorem dX9_bars_19 : decode cX9_bars 19 = .ok (.ifCond .lt 10, 3) := by decide +kernel
theorem dX9_bars_22 : decode cX9_bars 22 = .ok (.aload_n 0, 1) := by decide +kernel
theorem dX9_bars_23 : decode cX9_bars 23 = .ok (.bipush (-3), 2) := by decide +kernel
theorem dX9_bars_25 : decode cX9_bars 25 = .ok (.invokevirtual 54, 3) := by decide +kernel
theorem dX9_bars_28 : decode cX9_bars 28 = .ok (.ireturn, 1) := by decide +kernel
theorem dX9_bars_29 : decode cX9_bars 29 = .ok (.iconst 0, 1) := by decide +kernel
theorem dX9_bars_30 : decode cX9_bars 30 = .ok (.istore_n 2, 1) := by decide +kernel
theorem dX9_bars_31 : decode cX9_bars 31 = .ok (.iconst 0, 1) := by decide +kernel
theorem dX9_bars_32 : decode cX9_bars 32 = .ok (.istore_n 3, 1) := by decide +kernel
theorem dX9_bars_33 : decode cX9_bars 33 = .ok (.iload_n 3, 1) := by decide +kernel
theorem dX9_bars_34 : decode cX9_bars 34 = .ok (.aload_n 0, 1) := by decide +kernel
theorem dX9_bars_35 : decode cX9_bars 35 = .ok (.getfield 13, 3) := by decide +kernel
theorem dX9_bars_38 : decode cX9_bars 38 = .ok (.iconst 0, 1) := by decide +kernel
theorem dX9_bars_39 : decode cX9_bars 39 = .ok (.iaload, 1) := by decide +kernel
theorem dX9_bars_40 : decode cX9_bars 40 = .ok (.if_icmp .ge 32, 3) := by decide +kernel
theorem dX9_bars_43 : decode cX9_bars 43 = .ok (.aload_n 0, 1) := by decide +kernel
theorem dX9_bars_44 : decode cX9_bars 44 = .ok (.iload_n 3, 1) := by decide +kernel
theorem dX9_bars_45 : decode cX9_bars 45 = .ok (.putfield 31, 3) := by decide +kernel
theorem dX9_bars_48 : decode cX9_bars 48 = .ok (.iload_n 2, 1) := by decide +kernel
theorem dX9_bars_49 : decode cX9_bars 49 = .ok (.aload_n 0, 1) := by decide +kernel
theorem dX9_bars_50 : decode cX9_bars 50 = .ok (.iload_n 1, 1) := by decide +kernel
theorem dX9_bars_51 : decode cX9_bars 51 = .ok (.invokevirtual 159, 3) := by decide +kernel
theorem dX9_bars_54 : decode cX9_bars 54 = .ok (.ifCond .lt 9, 3) := by decide +kernel
theorem dX9_bars_57 : decode cX9_bars 57 = .ok (.iconst 1, 1) := by decide +kernel
theorem dX9_bars_58 : decode cX9_bars 58 = .ok (.iload_n 3, 1) := by decide +kernel
theorem dX9_bars_59 : decode cX9_bars 59 = .ok (.ishl, 1) := by decide +kernel
theorem dX9_bars_60 : decode cX9_bars 60 = .ok (.goto 4, 3) := by decide +kernel
theorem dX9_bars_63 : decode cX9_bars 63 = .ok (.iconst 0, 1) := by decide +kernel
theorem dX9_bars_64 : decode cX9_bars 64 = .ok (.ior, 1) := by decide +kernel
theorem dX9_bars_65 : decode cX9_bars 65 = .ok (.istore_n 2, 1) := by decide +kernel
theorem dX9_bars_66 : decode cX9_bars 66 = .ok (.iinc 3 1, 3) := by decide +kernel
theorem dX9_bars_69 : decode cX9_bars 69 = .ok (.goto (-36), 3) := by decide +kernel
theorem dX9_bars_72 : decode cX9_bars 72 = .ok (.aload_n 0, 1) := by decide +kernel
theorem dX9_bars_73 : decode cX9_bars 73 = .ok (.bipush (-9), 2) := by decide +kernel
theorem dX9_bars_75 : decode cX9_bars 75 = .ok (.putfield 31, 3) := by decide +kernel
theorem dX9_bars_78 : decode cX9_bars 78 = .ok (.iload_n 2, 1) := by decide +kernel
theorem dX9_bars_79 : decode cX9_bars 79 = .ok (.ireturn, 1) := by decide +kernel
theorem dX9_ways_0 : decode cX9_ways 0 = .ok (.iload_n 1, 1) := by decide +kernel
theorem dX9_ways_1 : decode cX9_ways 1 = .ok (.aload_n 0, 1) := by decide +kernel
theorem dX9_ways_2 : decode cX9_ways 2 = .ok (.getfield 13, 3) := by decide +kernel
theorem dX9_ways_5 : decode cX9_ways 5 = .ok (.iconst 1, 1) := by decide +kernel
theorem dX9_ways_6 : decode cX9_ways 6 = .ok (.iaload, 1) := by decide +kernel
theorem dX9_ways_7 : decode cX9_ways 7 = .ok (.if_icmp .ne 59, 3) := by decide +kernel
theorem dX9_ways_10 : decode cX9_ways 10 = .ok (.iload_n 3, 1) := by decide +kernel
theorem dX9_ways_11 : decode cX9_ways 11 = .ok (.aload_n 0, 1) := by decide +kernel
theorem dX9_ways_12 : decode cX9_ways 12 = .ok (.getfield 168, 3) := by decide +kernel
theorem dX9_ways_15 : decode cX9_ways 15 = .ok (.if_icmp .gt 4, 3) := by decide +kernel
theorem dX9_ways_18 : decode cX9_ways 18 = .ok (.return_, 1) := by decide +kernel
theorem dX9_ways_19 : decode cX9_ways 19 = .ok (.aload_n 0, 1) := by decide +kernel
theorem dX9_ways_20 : decode cX9_ways 20 = .ok (.iload_n 3, 1) := by decide +kernel
theorem dX9_ways_21 : decode cX9_ways 21 = .ok (.putfield 168, 3) := by decide +kernel
theorem dX9_ways_24 : decode cX9_ways 24 = .ok (.iconst 0, 1) := by decide +kernel
theorem dX9_ways_25 : decode cX9_ways 25 = .ok (.istore 4, 2) := by decide +kernel
theorem dX9_ways_27 : decode cX9_ways 27 = .ok (.iload 4, 2) := by decide +kernel
theorem dX9_ways_29 : decode cX9_ways 29 = .ok (.bipush 6, 2) := by decide +kernel
theorem dX9_ways_31 : decode cX9_ways 31 = .ok (.if_icmp .ge 34, 3) := by decide +kernel
theorem dX9_ways_34 : decode cX9_ways 34 = .ok (.aload_n 0, 1) := by decide +kernel
theorem dX9_ways_35 : decode cX9_ways 35 = .ok (.getfield 44, 3) := by decide +kernel
theorem dX9_ways_38 : decode cX9_ways 38 = .ok (.iload 4, 2) := by decide +kernel
theorem dX9_ways_40 : decode cX9_ways 40 = .ok (.iload 4, 2) := by decide +kernel
theorem dX9_ways_42 : decode cX9_ways 42 = .ok (.iload_n 1, 1) := by decide +kernel
theorem dX9_ways_43 : decode cX9_ways 43 = .ok (.if_icmp .ge 13, 3) := by decide +kernel
theorem dX9_ways_46 : decode cX9_ways 46 = .ok (.aload_n 0, 1) := by decide +kernel
theorem dX9_ways_47 : decode cX9_ways 47 = .ok (.getfield 41, 3) := by decide +kernel
theorem dX9_ways_50 : decode cX9_ways 50 = .ok (.iload 4, 2) := by decide +kernel
theorem dX9_ways_52 : decode cX9_ways 52 = .ok (.iaload, 1) := by decide +kernel
theorem dX9_ways_53 : decode cX9_ways 53 = .ok (.goto 5, 3) := by decide +kernel
theorem dX9_ways_56 : decode cX9_ways 56 = .ok (.bipush (-9), 2) := by decide +kernel
theorem dX9_ways_58 : decode cX9_ways 58 = .ok (.iastore, 1) := by decide +kernel
theorem dX9_ways_59 : decode cX9_ways 59 = .ok (.iinc 4 1, 3) := by decide +kernel
theorem dX9_ways_62 : decode cX9_ways 62 = .ok (.goto (-35), 3) := by decide +kernel
theorem dX9_ways_65 : decode cX9_ways 65 = .ok (.return_, 1) := by decide +kernel
theorem dX9_ways_66 : decode cX9_ways 66 = .ok (.aload_n 0, 1) := by decide +kernel
theorem dX9_ways_67 : decode cX9_ways 67 = .ok (.getfield 41, 3) := by decide +kernel
theorem dX9_ways_70 : decode cX9_ways 70 = .ok (.iload_n 1, 1) := by decide +kernel
theorem dX9_ways_71 : decode cX9_ways 71 = .ok (.bipush (-9), 2) := by decide +kernel
theorem dX9_ways_73 : decode cX9_ways 73 = .ok (.iastore, 1) := by decide +kernel
theorem dX9_ways_74 : decode cX9_ways 74 = .ok (.aload_n 0, 1) := by decide +kernel
theorem dX9_ways_75 : decode cX9_ways 75 = .ok (.iload_n 1, 1) := by decide +kernel
theorem dX9_ways_76 : decode cX9_ways 76 = .ok (.iconst 1, 1) := by decide +kernel
theorem dX9_ways_77 : decode cX9_ways 77 = .ok (.iadd, 1) := by decide +kernel
theorem dX9_ways_78 : decode cX9_ways 78 = .ok (.iload_n 2, 1) := by decide +kernel
theorem dX9_ways_79 : decode cX9_ways 79 = .ok (.iload_n 3, 1) := by decide +kernel
theorem dX9_ways_80 : decode cX9_ways 80 = .ok (.invokevirtual 171, 3) := by decide +kernel
theorem dX9_ways_83 : decode cX9_ways 83 = .ok (.aload_n 0, 1) := by decide +kernel
theorem dX9_ways_84 : decode cX9_ways 84 = .ok (.iload_n 1, 1) := by decide +kernel
theorem dX9_ways_85 : decode cX9_ways 85 = .ok (.iconst 1, 1) := by decide +kernel
theorem dX9_ways_86 : decode cX9_ways 86 = .ok (.invokevirtual 122, 3) := by decide +kernel
theorem dX9_ways_89 : decode cX9_ways 89 = .ok (.iconst 1, 1) := by decide +kernel
theorem dX9_ways_90 : decode cX9_ways 90 = .ok (.if_icmp .ne 4, 3) := by decide +kernel
theorem dX9_ways_93 : decode cX9_ways 93 = .ok (.return_, 1) := by decide +kernel
theorem dX9_ways_94 : decode cX9_ways 94 = .ok (.aload_n 0, 1) := by decide +kernel
theorem dX9_ways_95 : decode cX9_ways 95 = .ok (.iload_n 1, 1) := by decide +kernel
theorem dX9_ways_96 : decode cX9_ways 96 = .ok (.iconst 2, 1) := by decide +kernel
theorem dX9_ways_97 : decode cX9_ways 97 = .ok (.invokevirtual 122, 3) := by decide +kernel
theorem dX9_ways_100 : decode cX9_ways 100 = .ok (.istore 4, 2) := by decide +kernel
theorem dX9_ways_102 : decode cX9_ways 102 = .ok (.iconst 0, 1) := by decide +kernel
theorem dX9_ways_103 : decode cX9_ways 103 = .ok (.istore 5, 2) := by decide +kernel
theorem dX9_ways_105 : decode cX9_ways 105 = .ok (.iload 5, 2) := by decide +kernel
theorem dX9_ways_107 : decode cX9_ways 107 = .ok (.iload 4, 2) := by decide +kernel
theorem dX9_ways_109 : decode cX9_ways 109 = .ok (.iadd, 1) := by decide +kernel
theorem dX9_ways_110 : decode cX9_ways 110 = .ok (.iconst 1, 1) := by decide +kernel
theorem dX9_ways_111 : decode cX9_ways 111 = .ok (.isub, 1) := by decide +kernel
theorem dX9_ways_112 : decode cX9_ways 112 = .ok (.aload_n 0, 1) := by decide +kernel
theorem dX9_ways_113 : decode cX9_ways 113 = .ok (.iload_n 1, 1) := by decide +kernel
theorem dX9_ways_114 : decode cX9_ways 114 = .ok (.iconst 3, 1) := by decide +kernel
theorem dX9_ways_115 : decode cX9_ways 115 = .ok (.invokevirtual 122, 3) := by decide +kernel
theorem dX9_ways_118 : decode cX9_ways 118 = .ok (.if_icmp .gt 77, 3) := by decide +kernel
theorem dX9_ways_121 : decode cX9_ways 121 = .ok (.iconst 1, 1) := by decide +kernel
theorem dX9_ways_122 : decode cX9_ways 122 = .ok (.iload 4, 2) := by decide +kernel
theorem dX9_ways_124 : decode cX9_ways 124 = .ok (.ishl, 1) := by decide +kernel
theorem dX9_ways_125 : decode cX9_ways 125 = .ok (.iconst 1, 1) := by decide +kernel
theorem dX9_ways_126 : decode cX9_ways 126 = .ok (.isub, 1) := by decide +kernel
theorem dX9_ways_127 : decode cX9_ways 127 = .ok (.iload 5, 2) := by decide +kernel
theorem dX9_ways_129 : decode cX9_ways 129 = .ok (.ishl, 1) := by decide +kernel
theorem dX9_ways_130 : decode cX9_ways 130 = .ok (.istore 6, 2) := by decide +kernel
theorem dX9_ways_132 : decode cX9_ways 132 = .ok (.iload 6, 2) := by decide +kernel
theorem dX9_ways_134 : decode cX9_ways 134 = .ok (.iload_n 2, 1) := by decide +kernel
theorem dX9_ways_135 : decode cX9_ways 135 = .ok (.iand, 1) := by decide +kernel
theorem dX9_ways_136 : decode cX9_ways 136 = .ok (.ifCond .ne 53, 3) := by decide +kernel
theorem dX9_ways_139 : decode cX9_ways 139 = .ok (.aload_n 0, 1) := by decide +kernel
theorem dX9_ways_140 : decode cX9_ways 140 = .ok (.iload_n 1, 1) := by decide +kernel
theorem dX9_ways_141 : decode cX9_ways 141 = .ok (.iload 5, 2) := by decide +kernel
theorem dX9_ways_143 : decode cX9_ways 143 = .ok (.invokevirtual 148, 3) := by decide +kernel
theorem dX9_ways_146 : decode cX9_ways 146 = .ok (.ldc 138, 2) := by decide +kernel
theorem dX9_ways_148 : decode cX9_ways 148 = .ok (.if_icmp .lt 6, 3) := by decide +kernel
theorem dX9_ways_151 : decode cX9_ways 151 = .ok (.goto 38, 3) := by decide +kernel
theorem dX9_ways_154 : decode cX9_ways 154 = .ok (.aload_n 0, 1) := by decide +kernel
theorem dX9_ways_155 : decode cX9_ways 155 = .ok (.getfield 41, 3) := by decide +kernel
theorem dX9_ways_158 : decode cX9_ways 158 = .ok (.iload_n 1, 1) := by decide +kernel
theorem dX9_ways_159 : decode cX9_ways 159 = .ok (.iload 5, 2) := by decide +kernel
theorem dX9_ways_161 : decode cX9_ways 161 = .ok (.iastore, 1) := by decide +kernel
theorem dX9_ways_162 : decode cX9_ways 162 = .ok (.aload_n 0, 1) := by decide +kernel
theorem dX9_ways_163 : decode cX9_ways 163 = .ok (.iload_n 1, 1) := by decide +kernel
theorem dX9_ways_164 : decode cX9_ways 164 = .ok (.iconst 1, 1) := by decide +kernel
theorem dX9_ways_165 : decode cX9_ways 165 = .ok (.iadd, 1) := by decide +kernel
theorem dX9_ways_166 : decode cX9_ways 166 = .ok (.iload_n 2, 1) := by decide +kernel
theorem dX9_ways_167 : decode cX9_ways 167 = .ok (.iload 6, 2) := by decide +kernel
theorem dX9_ways_169 : decode cX9_ways 169 = .ok (.ior, 1) := by decide +kernel
theorem dX9_ways_170 : decode cX9_ways 170 = .ok (.iload_n 3, 1) := by decide +kernel
theorem dX9_ways_171 : decode cX9_ways 171 = .ok (.aload_n 0, 1) := by decide +kernel
theorem dX9_ways_172 : decode cX9_ways 172 = .ok (.iload_n 1, 1) := by decide +kernel
theorem dX9_ways_173 : decode cX9_ways 173 = .ok (.iconst 4, 1) := by decide +kernel
theorem dX9_ways_174 : decode cX9_ways 174 = .ok (.invokevirtual 122, 3) := by decide +kernel
theorem dX9_ways_177 : decode cX9_ways 177 = .ok (.iadd, 1) := by decide +kernel
theorem dX9_ways_178 : decode cX9_ways 178 = .ok (.aload_n 0, 1) := by decide +kernel
theorem dX9_ways_179 : decode cX9_ways 179 = .ok (.iload_n 1, 1) := by decide +kernel
theorem dX9_ways_180 : decode cX9_ways 180 = .ok (.iload 5, 2) := by decide +kernel
theorem dX9_ways_182 : decode cX9_ways 182 = .ok (.invokevirtual 148, 3) := by decide +kernel
theorem dX9_ways_185 : decode cX9_ways 185 = .ok (.isub, 1) := by decide +kernel
theorem dX9_ways_186 : decode cX9_ways 186 = .ok (.invokevirtual 171, 3) := by decide +kernel
theorem dX9_ways_189 : decode cX9_ways 189 = .ok (.iinc 5 1, 3) := by decide +kernel
theorem dX9_ways_192 : decode cX9_ways 192 = .ok (.goto (-87), 3) := by decide +kernel
theorem dX9_ways_195 : decode cX9_ways 195 = .ok (.return_, 1) := by decide +kernel
theorem dX9_areFew_0 : decode cX9_areFew 0 = .ok (.iconst 0, 1) := by decide +kernel
theorem dX9_areFew_1 : decode cX9_areFew 1 = .ok (.istore_n 1, 1) := by decide +kernel
theorem dX9_areFew_2 : decode cX9_areFew 2 = .ok (.iconst 0, 1) := by decide +kernel
theorem dX9_areFew_3 : decode cX9_areFew 3 = .ok (.istore_n 2, 1) := by decide +kernel
theorem dX9_areFew_4 : decode cX9_areFew 4 = .ok (.iload_n 2, 1) := by decide +kernel
theorem dX9_areFew_5 : decode cX9_areFew 5 = .ok (.aload_n 0, 1) := by decide +kernel
theorem dX9_areFew_6 : decode cX9_areFew 6 = .ok (.getfield 13, 3) := by decide +kernel
theorem dX9_areFew_9 : decode cX9_areFew 9 = .ok (.iconst 1, 1) := by decide +kernel
theorem dX9_areFew_10 : decode cX9_areFew 10 = .ok (.iaload, 1) := by decide +kernel
theorem dX9_areFew_11 : decode cX9_areFew 11 = .ok (.if_icmp .ge 20, 3) := by decide +kernel
theorem dX9_areFew_14 : decode cX9_areFew 14 = .ok (.iload_n 1, 1) := by decide +kernel
theorem dX9_areFew_15 : decode cX9_areFew 15 = .ok (.iconst 1, 1) := by decide +kernel
theorem dX9_areFew_16 : decode cX9_areFew 16 = .ok (.aload_n 0, 1) := by decide +kernel
theorem dX9_areFew_17 : decode cX9_areFew 17 = .ok (.iload_n 2, 1) := by decide +kernel
theorem dX9_areFew_18 : decode cX9_areFew 18 = .ok (.iconst 1, 1) := by decide +kernel
theorem dX9_areFew_19 : decode cX9_areFew 19 = .ok (.invokevirtual 122, 3) := by decide +kernel
theorem dX9_areFew_22 : decode cX9_areFew 22 = .ok (.isub, 1) := by decide +kernel
theorem dX9_areFew_23 : decode cX9_areFew 23 = .ok (.iadd, 1) := by decide +kernel
theorem dX9_areFew_24 : decode cX9_areFew 24 = .ok (.istore_n 1, 1) := by decide +kernel
theorem dX9_areFew_25 : decode cX9_areFew 25 = .ok (.iinc 2 1, 3) := by decide +kernel
theorem dX9_areFew_28 : decode cX9_areFew 28 = .ok (.goto (-24), 3) := by decide +kernel
theorem dX9_areFew_31 : decode cX9_areFew 31 = .ok (.iload_n 1, 1) := by decide +kernel
theorem dX9_areFew_32 : decode cX9_areFew 32 = .ok (.iconst 3, 1) := by decide +kernel
theorem dX9_areFew_33 : decode cX9_areFew 33 = .ok (.if_icmp .gt 7, 3) := by decide +kernel
theorem dX9_areFew_36 : decode cX9_areFew 36 = .ok (.iconst 1, 1) := by decide +kernel
theorem dX9_areFew_37 : decode cX9_areFew 37 = .ok (.goto 4, 3) := by decide +kernel
theorem dX9_areFew_40 : decode cX9_areFew 40 = .ok (.iconst 0, 1) := by decide +kernel
theorem dX9_areFew_41 : decode cX9_areFew 41 = .ok (.ireturn, 1) := by decide +kernel
theorem dX9_findsAll_0 : decode cX9_findsAll 0 = .ok (.aload_n 0, 1) := by decide +kernel
theorem dX9_findsAll_1 : decode cX9_findsAll 1 = .ok (.ldc 175, 2) := by decide +kernel
theorem dX9_findsAll_3 : decode cX9_findsAll 3 = .ok (.putfield 168, 3) := by decide +kernel
theorem dX9_findsAll_6 : decode cX9_findsAll 6 = .ok (.aload_n 0, 1) := by decide +kernel
theorem dX9_findsAll_7 : decode cX9_findsAll 7 = .ok (.iconst 0, 1) := by decide +kernel
theorem dX9_findsAll_8 : decode cX9_findsAll 8 = .ok (.iconst 0, 1) := by decide +kernel
theorem dX9_findsAll_9 : decode cX9_findsAll 9 = .ok (.iconst 0, 1) := by decide +kernel
theorem dX9_findsAll_10 : decode cX9_findsAll 10 = .ok (.invokevirtual 171, 3) := by decide +kernel
theorem dX9_findsAll_13 : decode cX9_findsAll 13 = .ok (.return_, 1) := by decide +kernel
theorem dX9_all_0 : decode cX9_all 0 = .ok (.aload_n 0, 1) := by decide +kernel
theorem dX9_all_1 : decode cX9_all 1 = .ok (.invokevirtual 176, 3) := by decide +kernel
theorem dX9_all_4 : decode cX9_all 4 = .ok (.ifCond .ne 10, 3) := by decide +kernel
theorem dX9_all_7 : decode cX9_all 7 = .ok (.aload_n 0, 1) := by decide +kernel
theorem dX9_all_8 : decode cX9_all 8 = .ok (.bipush (-6), 2) := by decide +kernel
theorem dX9_all_10 : decode cX9_all 10 = .ok (.invokevirtual 54, 3) := by decide +kernel
theorem dX9_all_13 : decode cX9_all 13 = .ok (.ireturn, 1) := by decide +kernel
theorem dX9_all_14 : decode cX9_all 14 = .ok (.aload_n 0, 1) := by decide +kernel
theorem dX9_all_15 : decode cX9_all 15 = .ok (.invokevirtual 179, 3) := by decide +kernel
theorem dX9_all_18 : decode cX9_all 18 = .ok (.aload_n 0, 1) := by decide +kernel
theorem dX9_all_19 : decode cX9_all 19 = .ok (.getfield 168, 3) := by decide +kernel
theorem dX9_all_22 : decode cX9_all 22 = .ok (.ireturn, 1) := by decide +kernel
theorem dX9_begin_0 : decode cX9_begin 0 = .ok (.aload_n 0, 1) := by decide +kernel
theorem dX9_begin_1 : decode cX9_begin 1 = .ok (.iload_n 1, 1) := by decide +kernel
theorem dX9_begin_2 : decode cX9_begin 2 = .ok (.invokevirtual 119, 3) := by decide +kernel
theorem dX9_begin_5 : decode cX9_begin 5 = .ok (.ifCond .ne 7, 3) := by decide +kernel
theorem dX9_begin_8 : decode cX9_begin 8 = .ok (.iconst (-1), 1) := by decide +kernel
theorem dX9_begin_9 : decode cX9_begin 9 = .ok (.goto 16, 3) := by decide +kernel
theorem dX9_begin_12 : decode cX9_begin 12 = .ok (.aload_n 0, 1) := by decide +kernel
theorem dX9_begin_13 : decode cX9_begin 13 = .ok (.invokevirtual 176, 3) := by decide +kernel
theorem dX9_begin_16 : decode cX9_begin 16 = .ok (.ifCond .eq 7, 3) := by decide +kernel
theorem dX9_begin_19 : decode cX9_begin 19 = .ok (.iconst 0, 1) := by decide +kernel
theorem dX9_begin_20 : decode cX9_begin 20 = .ok (.goto 5, 3) := by decide +kernel
theorem dX9_begin_23 : decode cX9_begin 23 = .ok (.bipush (-6), 2) := by decide +kernel
theorem dX9_begin_25 : decode cX9_begin 25 = .ok (.istore_n 2, 1) := by decide +kernel
theorem dX9_begin_26 : decode cX9_begin 26 = .ok (.iload_n 2, 1) := by decide +kernel
theorem dX9_begin_27 : decode cX9_begin 27 = .ok (.ifCond .eq 9, 3) := by decide +kernel
theorem dX9_begin_30 : decode cX9_begin 30 = .ok (.aload_n 0, 1) := by decide +kernel
theorem dX9_begin_31 : decode cX9_begin 31 = .ok (.iload_n 2, 1) := by decide +kernel
theorem dX9_begin_32 : decode cX9_begin 32 = .ok (.invokevirtual 54, 3) := by decide +kernel
theorem dX9_begin_35 : decode cX9_begin 35 = .ok (.ireturn, 1) := by decide +kernel
theorem dX9_begin_36 : decode cX9_begin 36 = .ok (.aload_n 0, 1) := by decide +kernel
theorem dX9_begin_37 : decode cX9_begin 37 = .ok (.invokevirtual 179, 3) := by decide +kernel
theorem dX9_begin_40 : decode cX9_begin 40 = .ok (.aload_n 0, 1) := by decide +kernel
theorem dX9_begin_41 : decode cX9_begin 41 = .ok (.getfield 44, 3) := by decide +kernel
theorem dX9_begin_44 : decode cX9_begin 44 = .ok (.iload_n 1, 1) := by decide +kernel
theorem dX9_begin_45 : decode cX9_begin 45 = .ok (.iaload, 1) := by decide +kernel
theorem dX9_begin_46 : decode cX9_begin 46 = .ok (.ireturn, 1) := by decide +kernel
theorem dX9_incomeOf_0 : decode cX9_incomeOf 0 = .ok (.iconst 0, 1) := by decide +kernel
theorem dX9_incomeOf_1 : decode cX9_incomeOf 1 = .ok (.istore_n 2, 1) := by decide +kernel
theorem dX9_incomeOf_2 : decode cX9_incomeOf 2 = .ok (.iconst 0, 1) := by decide +kernel
theorem dX9_incomeOf_3 : decode cX9_incomeOf 3 = .ok (.istore_n 3, 1) := by decide +kernel
theorem dX9_incomeOf_4 : decode cX9_incomeOf 4 = .ok (.iload_n 3, 1) := by decide +kernel
theorem dX9_incomeOf_5 : decode cX9_incomeOf 5 = .ok (.aload_n 0, 1) := by decide +kernel
theorem dX9_incomeOf_6 : decode cX9_incomeOf 6 = .ok (.getfield 13, 3) := by decide +kernel
theorem dX9_incomeOf_9 : decode cX9_incomeOf 9 = .ok (.iconst 1, 1) := by decide +kernel
theorem dX9_incomeOf_10 : decode cX9_incomeOf 10 = .ok (.iaload, 1) := by decide +kernel
theorem dX9_incomeOf_11 : decode cX9_incomeOf 11 = .ok (.if_icmp .ge 73, 3) := by decide +kernel
theorem dX9_incomeOf_14 : decode cX9_incomeOf 14 = .ok (.aload_n 0, 1) := by decide +kernel
theorem dX9_incomeOf_15 : decode cX9_incomeOf 15 = .ok (.iload_n 3, 1) := by decide +kernel
theorem dX9_incomeOf_16 : decode cX9_incomeOf 16 = .ok (.invokevirtual 165, 3) := by decide +kernel
theorem dX9_incomeOf_19 : decode cX9_incomeOf 19 = .ok (.ifCond .ge 6, 3) := by decide +kernel
theorem dX9_incomeOf_22 : decode cX9_incomeOf 22 = .ok (.goto 56, 3) := by decide +kernel
theorem dX9_incomeOf_25 : decode cX9_incomeOf 25 = .ok (.iconst 0, 1) := by decide +kernel
theorem dX9_incomeOf_26 : decode cX9_incomeOf 26 = .ok (.istore 4, 2) := by decide +kernel
theorem dX9_incomeOf_28 : decode cX9_incomeOf 28 = .ok (.iload 4, 2) := by decide +kernel
theorem dX9_incomeOf_30 : decode cX9_incomeOf 30 = .ok (.bipush 28, 2) := by decide +kernel
theorem dX9_incomeOf_32 : decode cX9_incomeOf 32 = .ok (.if_icmp .ge 46, 3) := by decide +kernel
theorem dX9_incomeOf_35 : decode cX9_incomeOf 35 = .ok (.aload_n 0, 1) := by decide +kernel
theorem dX9_incomeOf_36 : decode cX9_incomeOf 36 = .ok (.getfield 145, 3) := by decide +kernel
theorem dX9_incomeOf_39 : decode cX9_incomeOf 39 = .ok (.iload 4, 2) := by decide +kernel
theorem dX9_incomeOf_41 : decode cX9_incomeOf 41 = .ok (.ishr, 1) := by decide +kernel
theorem dX9_incomeOf_42 : decode cX9_incomeOf 42 = .ok (.iconst 1, 1) := by decide +kernel
theorem dX9_incomeOf_43 : decode cX9_incomeOf 43 = .ok (.iand, 1) := by decide +kernel
theorem dX9_incomeOf_44 : decode cX9_incomeOf 44 = .ok (.iconst 1, 1) := by decide +kernel
theorem dX9_incomeOf_45 : decode cX9_incomeOf 45 = .ok (.if_icmp .ne 27, 3) := by decide +kernel
theorem dX9_incomeOf_48 : decode cX9_incomeOf 48 = .ok (.aload_n 0, 1) := by decide +kernel
theorem dX9_incomeOf_49 : decode cX9_incomeOf 49 = .ok (.getfield 13, 3) := by decide +kernel
theorem dX9_incomeOf_52 : decode cX9_incomeOf 52 = .ok (.iload 4, 2) := by decide +kernel
theorem dX9_incomeOf_54 : decode cX9_incomeOf 54 = .ok (.iload_n 1, 1) := by decide +kernel
theorem dX9_incomeOf_55 : decode cX9_incomeOf 55 = .ok (.invokestatic 80, 3) := by decide +kernel
theorem dX9_incomeOf_58 : decode cX9_incomeOf 58 = .ok (.ifCond .eq 14, 3) := by decide +kernel
theorem dX9_incomeOf_61 : decode cX9_incomeOf 61 = .ok (.iload_n 2, 1) := by decide +kernel
theorem dX9_incomeOf_62 : decode cX9_incomeOf 62 = .ok (.aload_n 0, 1) := by decide +kernel
theorem dX9_incomeOf_63 : decode cX9_incomeOf 63 = .ok (.iload_n 3, 1) := by decide +kernel
theorem dX9_incomeOf_64 : decode cX9_incomeOf 64 = .ok (.iload_n 1, 1) := by decide +kernel
theorem dX9_incomeOf_65 : decode cX9_incomeOf 65 = .ok (.iload 4, 2) := by decide +kernel
theorem dX9_incomeOf_67 : decode cX9_incomeOf 67 = .ok (.invokevirtual 135, 3) := by decide +kernel
theorem dX9_incomeOf_70 : decode cX9_incomeOf 70 = .ok (.iadd, 1) := by decide +kernel
theorem dX9_incomeOf_71 : decode cX9_incomeOf 71 = .ok (.istore_n 2, 1) := by decide +kernel
theorem dX9_incomeOf_72 : decode cX9_incomeOf 72 = .ok (.iinc 4 1, 3) := by decide +kernel
theorem dX9_incomeOf_75 : decode cX9_incomeOf 75 = .ok (.goto (-47), 3) := by decide +kernel
theorem dX9_incomeOf_78 : decode cX9_incomeOf 78 = .ok (.iinc 3 1, 3) := by decide +kernel
theorem dX9_incomeOf_81 : decode cX9_incomeOf 81 = .ok (.goto (-77), 3) := by decide +kernel
theorem dX9_incomeOf_84 : decode cX9_incomeOf 84 = .ok (.iload_n 2, 1) := by decide +kernel
theorem dX9_incomeOf_85 : decode cX9_incomeOf 85 = .ok (.ireturn, 1) := by decide +kernel
theorem dX9_askOf_0 : decode cX9_askOf 0 = .ok (.bipush 121, 2) := by decide +kernel
theorem dX9_askOf_2 : decode cX9_askOf 2 = .ok (.iconst 4, 1) := by decide +kernel
theorem dX9_askOf_3 : decode cX9_askOf 3 = .ok (.iload_n 1, 1) := by decide +kernel
theorem dX9_askOf_4 : decode cX9_askOf 4 = .ok (.imul, 1) := by decide +kernel
theorem dX9_askOf_5 : decode cX9_askOf 5 = .ok (.iadd, 1) := by decide +kernel
theorem dX9_askOf_6 : decode cX9_askOf 6 = .ok (.iconst 1, 1) := by decide +kernel
theorem dX9_askOf_7 : decode cX9_askOf 7 = .ok (.iadd, 1) := by decide +kernel
theorem dX9_askOf_8 : decode cX9_askOf 8 = .ok (.istore_n 2, 1) := by decide +kernel
theorem dX9_askOf_9 : decode cX9_askOf 9 = .ok (.aload_n 0, 1) := by decide +kernel
theorem dX9_askOf_10 : decode cX9_askOf 10 = .ok (.getfield 13, 3) := by decide +kernel
theorem dX9_askOf_13 : decode cX9_askOf 13 = .ok (.iload_n 2, 1) := by decide +kernel
theorem dX9_askOf_14 : decode cX9_askOf 14 = .ok (.iaload, 1) := by decide +kernel
theorem dX9_askOf_15 : decode cX9_askOf 15 = .ok (.istore_n 3, 1) := by decide +kernel
theorem dX9_askOf_16 : decode cX9_askOf 16 = .ok (.bipush (-9), 2) := by decide +kernel
theorem dX9_askOf_18 : decode cX9_askOf 18 = .ok (.istore 4, 2) := by decide +kernel
theorem dX9_askOf_20 : decode cX9_askOf 20 = .ok (.iconst 0, 1) := by decide +kernel
theorem dX9_askOf_21 : decode cX9_askOf 21 = .ok (.istore 5, 2) := by decide +kernel
theorem dX9_askOf_23 : decode cX9_askOf 23 = .ok (.iconst 0, 1) := by decide +kernel
theorem dX9_askOf_24 : decode cX9_askOf 24 = .ok (.istore 6, 2) := by decide +kernel
theorem dX9_askOf_26 : decode cX9_askOf 26 = .ok (.iload 6, 2) := by decide +kernel
theorem dX9_askOf_28 : decode cX9_askOf 28 = .ok (.bipush 10, 2) := by decide +kernel
theorem dX9_askOf_30 : decode cX9_askOf 30 = .ok (.if_icmp .ge 47, 3) := by decide +kernel
theorem dX9_askOf_33 : decode cX9_askOf 33 = .ok (.aload_n 0, 1) := by decide +kernel
theorem dX9_askOf_34 : decode cX9_askOf 34 = .ok (.getfield 13, 3) := by decide +kernel
theorem dX9_askOf_37 : decode cX9_askOf 37 = .ok (.iload_n 2, 1) := by decide +kernel
theorem dX9_askOf_38 : decode cX9_askOf 38 = .ok (.iload 6, 2) := by decide +kernel
theorem dX9_askOf_40 : decode cX9_askOf 40 = .ok (.iastore, 1) := by decide +kernel
theorem dX9_askOf_41 : decode cX9_askOf 41 = .ok (.aload_n 0, 1) := by decide +kernel
theorem dX9_askOf_42 : decode cX9_askOf 42 = .ok (.iload_n 1, 1) := by decide +kernel
theorem dX9_askOf_43 : decode cX9_askOf 43 = .ok (.invokevirtual 113, 3) := by decide +kernel
theorem dX9_askOf_46 : decode cX9_askOf 46 = .ok (.istore 7, 2) := by decide +kernel
theorem dX9_askOf_48 : decode cX9_askOf 48 = .ok (.iload 4, 2) := by decide +kernel
theorem dX9_askOf_50 : decode cX9_askOf 50 = .ok (.ifCond .lt 13, 3) := by decide +kernel
theorem dX9_askOf_53 : decode cX9_askOf 53 = .ok (.iload 7, 2) := by decide +kernel
theorem dX9_askOf_55 : decode cX9_askOf 55 = .ok (.iload 5, 2) := by decide +kernel
theorem dX9_askOf_57 : decode cX9_askOf 57 = .ok (.if_icmp .gt 6, 3) := by decide +kernel
theorem dX9_askOf_60 : decode cX9_askOf 60 = .ok (.goto 11, 3) := by decide +kernel
theorem dX9_askOf_63 : decode cX9_askOf 63 = .ok (.iload 6, 2) := by decide +kernel
theorem dX9_askOf_65 : decode cX9_askOf 65 = .ok (.istore 4, 2) := by decide +kernel
theorem dX9_askOf_67 : decode cX9_askOf 67 = .ok (.iload 7, 2) := by decide +kernel
theorem dX9_askOf_69 : decode cX9_askOf 69 = .ok (.istore 5, 2) := by decide +kernel
theorem dX9_askOf_71 : decode cX9_askOf 71 = .ok (.iinc 6 1, 3) := by decide +kernel
theorem dX9_askOf_74 : decode cX9_askOf 74 = .ok (.goto (-48), 3) := by decide +kernel
theorem dX9_askOf_77 : decode cX9_askOf 77 = .ok (.aload_n 0, 1) := by decide +kernel
theorem dX9_askOf_78 : decode cX9_askOf 78 = .ok (.getfield 13, 3) := by decide +kernel
theorem dX9_askOf_81 : decode cX9_askOf 81 = .ok (.iload_n 2, 1) := by decide +kernel
theorem dX9_askOf_82 : decode cX9_askOf 82 = .ok (.iload_n 3, 1) := by decide +kernel
theorem dX9_askOf_83 : decode cX9_askOf 83 = .ok (.iastore, 1) := by decide +kernel
theorem dX9_askOf_84 : decode cX9_askOf 84 = .ok (.iload 4, 2) := by decide +kernel
theorem dX9_askOf_86 : decode cX9_askOf 86 = .ok (.ireturn, 1) := by decide +kernel
theorem dX9_ask_0 : decode cX9_ask 0 = .ok (.aload_n 0, 1) := by decide +kernel
theorem dX9_ask_1 : decode cX9_ask 1 = .ok (.iload_n 1, 1) := by decide +kernel
theorem dX9_ask_2 : decode cX9_ask 2 = .ok (.invokevirtual 106, 3) := by decide +kernel
theorem dX9_ask_5 : decode cX9_ask 5 = .ok (.ifCond .eq 11, 3) := by decide +kernel
theorem dX9_ask_8 : decode cX9_ask 8 = .ok (.aload_n 0, 1) := by decide +kernel
theorem dX9_ask_9 : decode cX9_ask 9 = .ok (.iload_n 1, 1) := by decide +kernel
theorem dX9_ask_10 : decode cX9_ask 10 = .ok (.invokevirtual 182, 3) := by decide +kernel
theorem dX9_ask_13 : decode cX9_ask 13 = .ok (.goto 8, 3) := by decide +kernel
theorem dX9_ask_16 : decode cX9_ask 16 = .ok (.aload_n 0, 1) := by decide +kernel
theorem dX9_ask_17 : decode cX9_ask 17 = .ok (.iconst (-1), 1) := by decide +kernel
theorem dX9_ask_18 : decode cX9_ask 18 = .ok (.invokevirtual 54, 3) := by decide +kernel
theorem dX9_ask_21 : decode cX9_ask 21 = .ok (.ireturn, 1) := by decide +kernel
theorem dX9_rest_0 : decode cX9_rest 0 = .ok (.aload_n 0, 1) := by decide +kernel
theorem dX9_rest_1 : decode cX9_rest 1 = .ok (.getfield 13, 3) := by decide +kernel
theorem dX9_rest_4 : decode cX9_rest 4 = .ok (.aload_n 0, 1) := by decide +kernel
theorem dX9_rest_5 : decode cX9_rest 5 = .ok (.getfield 22, 3) := by decide +kernel
theorem dX9_rest_8 : decode cX9_rest 8 = .ok (.invokestatic 96, 3) := by decide +kernel
theorem dX9_rest_11 : decode cX9_rest 11 = .ok (.bipush (-9), 2) := by decide +kernel
theorem dX9_rest_13 : decode cX9_rest 13 = .ok (.istore_n 1, 1) := by decide +kernel
theorem dX9_rest_14 : decode cX9_rest 14 = .ok (.iconst 1, 1) := by decide +kernel
theorem dX9_rest_15 : decode cX9_rest 15 = .ok (.istore_n 2, 1) := by decide +kernel
theorem dX9_rest_16 : decode cX9_rest 16 = .ok (.iload_n 2, 1) := by decide +kernel
theorem dX9_rest_17 : decode cX9_rest 17 = .ok (.bipush 10, 2) := by decide +kernel
theorem dX9_rest_19 : decode cX9_rest 19 = .ok (.if_icmp .gt 92, 3) := by decide +kernel
theorem dX9_rest_22 : decode cX9_rest 22 = .ok (.iload_n 1, 1) := by decide +kernel
theorem dX9_rest_23 : decode cX9_rest 23 = .ok (.ifCond .ge 88, 3) := by decide +kernel
theorem dX9_rest_26 : decode cX9_rest 26 = .ok (.iconst 0, 1) := by decide +kernel
theorem dX9_rest_27 : decode cX9_rest 27 = .ok (.istore_n 3, 1) := by decide +kernel
theorem dX9_rest_28 : decode cX9_rest 28 = .ok (.iconst 0, 1) := by decide +kernel
theorem dX9_rest_29 : decode cX9_rest 29 = .ok (.istore 4, 2) := by decide +kernel
theorem dX9_rest_31 : decode cX9_rest 31 = .ok (.iload 4, 2) := by decide +kernel
theorem dX9_rest_33 : decode cX9_rest 33 = .ok (.aload_n 0, 1) := by decide +kernel
theorem dX9_rest_34 : decode cX9_rest 34 = .ok (.getfield 13, 3) := by decide +kernel
theorem dX9_rest_37 : decode cX9_rest 37 = .ok (.iconst 0, 1) := by decide +kernel
theorem dX9_rest_38 : decode cX9_rest 38 = .ok (.iaload, 1) := by decide +kernel
theorem dX9_rest_39 : decode cX9_rest 39 = .ok (.if_icmp .ge 55, 3) := by decide +kernel
theorem dX9_rest_42 : decode cX9_rest 42 = .ok (.aload_n 0, 1) := by decide +kernel
theorem dX9_rest_43 : decode cX9_rest 43 = .ok (.iload 4, 2) := by decide +kernel
theorem dX9_rest_45 : decode cX9_rest 45 = .ok (.invokevirtual 182, 3) := by decide +kernel
theorem dX9_rest_48 : decode cX9_rest 48 = .ok (.istore 5, 2) := by decide +kernel
theorem dX9_rest_50 : decode cX9_rest 50 = .ok (.iload_n 3, 1) := by decide +kernel
theorem dX9_rest_51 : decode cX9_rest 51 = .ok (.ifCond .ne 15, 3) := by decide +kernel
theorem dX9_rest_54 : decode cX9_rest 54 = .ok (.iload 5, 2) := by decide +kernel
theorem dX9_rest_56 : decode cX9_rest 56 = .ok (.aload_n 0, 1) := by decide +kernel
theorem dX9_rest_57 : decode cX9_rest 57 = .ok (.iload 4, 2) := by decide +kernel
theorem dX9_rest_59 : decode cX9_rest 59 = .ok (.iconst 1, 1) := by decide +kernel
theorem dX9_rest_60 : decode cX9_rest 60 = .ok (.invokevirtual 109, 3) := by decide +kernel
theorem dX9_rest_63 : decode cX9_rest 63 = .ok (.if_icmp .eq 7, 3) := by decide +kernel
theorem dX9_rest_66 : decode cX9_rest 66 = .ok (.iconst 1, 1) := by decide +kernel
theorem dX9_rest_67 : decode cX9_rest 67 = .ok (.goto 4, 3) := by decide +kernel
theorem dX9_rest_70 : decode cX9_rest 70 = .ok (.iconst 0, 1) := by decide +kernel
theorem dX9_rest_71 : decode cX9_rest 71 = .ok (.istore_n 3, 1) := by decide +kernel
theorem dX9_rest_72 : decode cX9_rest 72 = .ok (.aload_n 0, 1) := by decide +kernel
theorem dX9_rest_73 : decode cX9_rest 73 = .ok (.getfield 13, 3) := by decide +kernel
theorem dX9_rest_76 : decode cX9_rest 76 = .ok (.bipush 121, 2) := by decide +kernel
theorem dX9_rest_78 : decode cX9_rest 78 = .ok (.iconst 4, 1) := by decide +kernel
theorem dX9_rest_79 : decode cX9_rest 79 = .ok (.iload 4, 2) := by decide +kernel
theorem dX9_rest_81 : decode cX9_rest 81 = .ok (.imul, 1) := by decide +kernel
theorem dX9_rest_82 : decode cX9_rest 82 = .ok (.iadd, 1) := by decide +kernel
theorem dX9_rest_83 : decode cX9_rest 83 = .ok (.iconst 1, 1) := by decide +kernel
theorem dX9_rest_84 : decode cX9_rest 84 = .ok (.iadd, 1) := by decide +kernel
theorem dX9_rest_85 : decode cX9_rest 85 = .ok (.iload 5, 2) := by decide +kernel
theorem dX9_rest_87 : decode cX9_rest 87 = .ok (.iastore, 1) := by decide +kernel
theorem dX9_rest_88 : decode cX9_rest 88 = .ok (.iinc 4 1, 3) := by decide +kernel
theorem dX9_rest_91 : decode cX9_rest 91 = .ok (.goto (-60), 3) := by decide +kernel
theorem dX9_rest_94 : decode cX9_rest 94 = .ok (.iload_n 3, 1) := by decide +kernel
theorem dX9_rest_95 : decode cX9_rest 95 = .ok (.ifCond .eq 8, 3) := by decide +kernel
theorem dX9_rest_98 : decode cX9_rest 98 = .ok (.bipush (-9), 2) := by decide +kernel
theorem dX9_rest_100 : decode cX9_rest 100 = .ok (.goto 4, 3) := by decide +kernel
theorem dX9_rest_103 : decode cX9_rest 103 = .ok (.iload_n 2, 1) := by decide +kernel
theorem dX9_rest_104 : decode cX9_rest 104 = .ok (.istore_n 1, 1) := by decide +kernel
theorem dX9_rest_105 : decode cX9_rest 105 = .ok (.iinc 2 1, 3) := by decide +kernel
theorem dX9_rest_108 : decode cX9_rest 108 = .ok (.goto (-92), 3) := by decide +kernel
theorem dX9_rest_111 : decode cX9_rest 111 = .ok (.aload_n 0, 1) := by decide +kernel
theorem dX9_rest_112 : decode cX9_rest 112 = .ok (.getfield 22, 3) := by decide +kernel
theorem dX9_rest_115 : decode cX9_rest 115 = .ok (.aload_n 0, 1) := by decide +kernel
theorem dX9_rest_116 : decode cX9_rest 116 = .ok (.getfield 13, 3) := by decide +kernel
theorem dX9_rest_119 : decode cX9_rest 119 = .ok (.invokestatic 96, 3) := by decide +kernel
theorem dX9_rest_122 : decode cX9_rest 122 = .ok (.iload_n 1, 1) := by decide +kernel
theorem dX9_rest_123 : decode cX9_rest 123 = .ok (.ireturn, 1) := by decide +kernel
theorem dX9_bits_0 : decode cX9_bits 0 = .ok (.iconst 0, 1) := by decide +kernel
theorem dX9_bits_1 : decode cX9_bits 1 = .ok (.istore_n 1, 1) := by decide +kernel
theorem dX9_bits_2 : decode cX9_bits 2 = .ok (.iload_n 0, 1) := by decide +kernel
theorem dX9_bits_3 : decode cX9_bits 3 = .ok (.istore_n 2, 1) := by decide +kernel
theorem dX9_bits_4 : decode cX9_bits 4 = .ok (.iload_n 2, 1) := by decide +kernel
theorem dX9_bits_5 : decode cX9_bits 5 = .ok (.ifCond .le 16, 3) := by decide +kernel
theorem dX9_bits_8 : decode cX9_bits 8 = .ok (.iload_n 1, 1) := by decide +kernel
theorem dX9_bits_9 : decode cX9_bits 9 = .ok (.iload_n 2, 1) := by decide +kernel
theorem dX9_bits_10 : decode cX9_bits 10 = .ok (.iconst 1, 1) := by decide +kernel
theorem dX9_bits_11 : decode cX9_bits 11 = .ok (.iand, 1) := by decide +kernel
theorem dX9_bits_12 : decode cX9_bits 12 = .ok (.iadd, 1) := by decide +kernel
theorem dX9_bits_13 : decode cX9_bits 13 = .ok (.istore_n 1, 1) := by decide +kernel
theorem dX9_bits_14 : decode cX9_bits 14 = .ok (.iload_n 2, 1) := by decide +kernel
theorem dX9_bits_15 : decode cX9_bits 15 = .ok (.iconst 1, 1) := by decide +kernel
theorem dX9_bits_16 : decode cX9_bits 16 = .ok (.ishr, 1) := by decide +kernel
theorem dX9_bits_17 : decode cX9_bits 17 = .ok (.istore_n 2, 1) := by decide +kernel
theorem dX9_bits_18 : decode cX9_bits 18 = .ok (.goto (-14), 3) := by decide +kernel
theorem dX9_bits_21 : decode cX9_bits 21 = .ok (.iload_n 1, 1) := by decide +kernel
theorem dX9_bits_22 : decode cX9_bits 22 = .ok (.ireturn, 1) := by decide +kernel
theorem dX9_stop_0 : decode cX9_stop 0 = .ok (.aload_n 0, 1) := by decide +kernel
theorem dX9_stop_1 : decode cX9_stop 1 = .ok (.iload_n 1, 1) := by decide +kernel
theorem dX9_stop_2 : decode cX9_stop 2 = .ok (.invokevirtual 119, 3) := by decide +kernel
theorem dX9_stop_5 : decode cX9_stop 5 = .ok (.ifCond .ne 9, 3) := by decide +kernel
theorem dX9_stop_8 : decode cX9_stop 8 = .ok (.aload_n 0, 1) := by decide +kernel
theorem dX9_stop_9 : decode cX9_stop 9 = .ok (.iconst (-1), 1) := by decide +kernel
theorem dX9_stop_10 : decode cX9_stop 10 = .ok (.invokevirtual 54, 3) := by decide +kernel
theorem dX9_stop_13 : decode cX9_stop 13 = .ok (.ireturn, 1) := by decide +kernel
theorem dX9_stop_14 : decode cX9_stop 14 = .ok (.aload_n 0, 1) := by decide +kernel
theorem dX9_stop_15 : decode cX9_stop 15 = .ok (.getfield 13, 3) := by decide +kernel
theorem dX9_stop_18 : decode cX9_stop 18 = .ok (.iconst 2, 1) := by decide +kernel
theorem dX9_stop_19 : decode cX9_stop 19 = .ok (.iaload, 1) := by decide +kernel
theorem dX9_stop_20 : decode cX9_stop 20 = .ok (.istore_n 2, 1) := by decide +kernel
theorem dX9_stop_21 : decode cX9_stop 21 = .ok (.bipush (-9), 2) := by decide +kernel
theorem dX9_stop_23 : decode cX9_stop 23 = .ok (.istore_n 3, 1) := by decide +kernel
theorem dX9_stop_24 : decode cX9_stop 24 = .ok (.iconst 0, 1) := by decide +kernel
theorem dX9_stop_25 : decode cX9_stop 25 = .ok (.istore 4, 2) := by decide +kernel
theorem dX9_stop_27 : decode cX9_stop 27 = .ok (.iload 4, 2) := by decide +kernel
theorem dX9_stop_29 : decode cX9_stop 29 = .ok (.iconst 1, 1) := by decide +kernel
theorem dX9_stop_30 : decode cX9_stop 30 = .ok (.aload_n 0, 1) := by decide +kernel
theorem dX9_stop_31 : decode cX9_stop 31 = .ok (.getfield 13, 3) := by decide +kernel
theorem dX9_stop_34 : decode cX9_stop 34 = .ok (.iconst 0, 1) := by decide +kernel
theorem dX9_stop_35 : decode cX9_stop 35 = .ok (.iaload, 1) := by decide +kernel
theorem dX9_stop_36 : decode cX9_stop 36 = .ok (.ishl, 1) := by decide +kernel
theorem dX9_stop_37 : decode cX9_stop 37 = .ok (.if_icmp .ge 68, 3) := by decide +kernel
theorem dX9_stop_40 : decode cX9_stop 40 = .ok (.iload 4, 2) := by decide +kernel
theorem dX9_stop_42 : decode cX9_stop 42 = .ok (.aload_n 0, 1) := by decide +kernel
theorem dX9_stop_43 : decode cX9_stop 43 = .ok (.iload_n 1, 1) := by decide +kernel
theorem dX9_stop_44 : decode cX9_stop 44 = .ok (.iconst 0, 1) := by decide +kernel
theorem dX9_stop_45 : decode cX9_stop 45 = .ok (.invokevirtual 122, 3) := by decide +kernel
theorem dX9_stop_48 : decode cX9_stop 48 = .ok (.ishr, 1) := by decide +kernel
theorem dX9_stop_49 : decode cX9_stop 49 = .ok (.iconst 1, 1) := by decide +kernel
theorem dX9_stop_50 : decode cX9_stop 50 = .ok (.iand, 1) := by decide +kernel
theorem dX9_stop_51 : decode cX9_stop 51 = .ok (.iconst 1, 1) := by decide +kernel
theorem dX9_stop_52 : decode cX9_stop 52 = .ok (.if_icmp .eq 47, 3) := by decide +kernel
theorem dX9_stop_55 : decode cX9_stop 55 = .ok (.iload_n 3, 1) := by decide +kernel
theorem dX9_stop_56 : decode cX9_stop 56 = .ok (.ifCond .lt 18, 3) := by decide +kernel
theorem dX9_stop_59 : decode cX9_stop 59 = .ok (.iload 4, 2) := by decide +kernel
theorem dX9_stop_61 : decode cX9_stop 61 = .ok (.invokestatic 185, 3) := by decide +kernel
theorem dX9_stop_64 : decode cX9_stop 64 = .ok (.iload_n 3, 1) := by decide +kernel
theorem dX9_stop_65 : decode cX9_stop 65 = .ok (.invokestatic 185, 3) := by decide +kernel
theorem dX9_stop_68 : decode cX9_stop 68 = .ok (.if_icmp .lt 6, 3) := by decide +kernel
theorem dX9_stop_71 : decode cX9_stop 71 = .ok (.goto 28, 3) := by decide +kernel
theorem dX9_stop_74 : decode cX9_stop 74 = .ok (.aload_n 0, 1) := by decide +kernel
theorem dX9_stop_75 : decode cX9_stop 75 = .ok (.getfield 13, 3) := by decide +kernel
theorem dX9_stop_78 : decode cX9_stop 78 = .ok (.iconst 2, 1) := by decide +kernel
theorem dX9_stop_79 : decode cX9_stop 79 = .ok (.iload_n 2, 1) := by decide +kernel
theorem dX9_stop_80 : decode cX9_stop 80 = .ok (.iload 4, 2) := by decide +kernel
theorem dX9_stop_82 : decode cX9_stop 82 = .ok (.ior, 1) := by decide +kernel
theorem dX9_stop_83 : decode cX9_stop 83 = .ok (.iastore, 1) := by decide +kernel
theorem dX9_stop_84 : decode cX9_stop 84 = .ok (.aload_n 0, 1) := by decide +kernel
theorem dX9_stop_85 : decode cX9_stop 85 = .ok (.iload_n 1, 1) := by decide +kernel
theorem dX9_stop_86 : decode cX9_stop 86 = .ok (.invokevirtual 159, 3) := by decide +kernel
theorem dX9_stop_89 : decode cX9_stop 89 = .ok (.ifCond .ge 8, 3) := by decide +kernel
theorem dX9_stop_92 : decode cX9_stop 92 = .ok (.iload 4, 2) := by decide +kernel
theorem dX9_stop_94 : decode cX9_stop 94 = .ok (.goto 4, 3) := by decide +kernel
theorem dX9_stop_97 : decode cX9_stop 97 = .ok (.iload_n 3, 1) := by decide +kernel
theorem dX9_stop_98 : decode cX9_stop 98 = .ok (.istore_n 3, 1) := by decide +kernel
theorem dX9_stop_99 : decode cX9_stop 99 = .ok (.iinc 4 1, 3) := by decide +kernel
theorem dX9_stop_102 : decode cX9_stop 102 = .ok (.goto (-75), 3) := by decide +kernel
theorem dX9_stop_105 : decode cX9_stop 105 = .ok (.aload_n 0, 1) := by decide +kernel
theorem dX9_stop_106 : decode cX9_stop 106 = .ok (.getfield 13, 3) := by decide +kernel
theorem dX9_stop_109 : decode cX9_stop 109 = .ok (.iconst 2, 1) := by decide +kernel
theorem dX9_stop_110 : decode cX9_stop 110 = .ok (.iload_n 2, 1) := by decide +kernel
theorem dX9_stop_111 : decode cX9_stop 111 = .ok (.iastore, 1) := by decide +kernel
theorem dX9_stop_112 : decode cX9_stop 112 = .ok (.iload_n 3, 1) := by decide +kernel
theorem dX9_stop_113 : decode cX9_stop 113 = .ok (.ireturn, 1) := by decide +kernel
theorem dX9_areStopped_0 : decode cX9_areStopped 0 = .ok (.iconst 0, 1) := by decide +kernel
theorem dX9_areStopped_1 : decode cX9_areStopped 1 = .ok (.istore_n 2, 1) := by decide +kernel
theorem dX9_areStopped_2 : decode cX9_areStopped 2 = .ok (.iload_n 2, 1) := by decide +kernel
theorem dX9_areStopped_3 : decode cX9_areStopped 3 = .ok (.aload_n 0, 1) := by decide +kernel
theorem dX9_areStopped_4 : decode cX9_areStopped 4 = .ok (.getfield 13, 3) := by decide +kernel
theorem dX9_areStopped_7 : decode cX9_areStopped 7 = .ok (.iconst 1, 1) := by decide +kernel
theorem dX9_areStopped_8 : decode cX9_areStopped 8 = .ok (.iaload, 1) := by decide +kernel
theorem dX9_areStopped_9 : decode cX9_areStopped 9 = .ok (.if_icmp .ge 32, 3) := by decide +kernel
theorem dX9_areStopped_12 : decode cX9_areStopped 12 = .ok (.iload_n 1, 1) := by decide +kernel
theorem dX9_areStopped_13 : decode cX9_areStopped 13 = .ok (.aload_n 0, 1) := by decide +kernel
theorem dX9_areStopped_14 : decode cX9_areStopped 14 = .ok (.iload_n 2, 1) := by decide +kernel
theorem dX9_areStopped_15 : decode cX9_areStopped 15 = .ok (.iconst 0, 1) := by decide +kernel
theorem dX9_areStopped_16 : decode cX9_areStopped 16 = .ok (.invokevirtual 122, 3) := by decide +kernel
theorem dX9_areStopped_19 : decode cX9_areStopped 19 = .ok (.ishr, 1) := by decide +kernel
theorem dX9_areStopped_20 : decode cX9_areStopped 20 = .ok (.iconst 1, 1) := by decide +kernel
theorem dX9_areStopped_21 : decode cX9_areStopped 21 = .ok (.iand, 1) := by decide +kernel
theorem dX9_areStopped_22 : decode cX9_areStopped 22 = .ok (.ifCond .ne 13, 3) := by decide +kernel
theorem dX9_areStopped_25 : decode cX9_areStopped 25 = .ok (.aload_n 0, 1) := by decide +kernel
theorem dX9_areStopped_26 : decode cX9_areStopped 26 = .ok (.iload_n 2, 1) := by decide +kernel
theorem dX9_areStopped_27 : decode cX9_areStopped 27 = .ok (.invokevirtual 159, 3) := by decide +kernel
theorem dX9_areStopped_30 : decode cX9_areStopped 30 = .ok (.ifCond .lt 5, 3) := by decide +kernel
theorem dX9_areStopped_33 : decode cX9_areStopped 33 = .ok (.iconst 0, 1) := by decide +kernel
theorem dX9_areStopped_34 : decode cX9_areStopped 34 = .ok (.ireturn, 1) := by decide +kernel
theorem dX9_areStopped_35 : decode cX9_areStopped 35 = .ok (.iinc 2 1, 3) := by decide +kernel
theorem dX9_areStopped_38 : decode cX9_areStopped 38 = .ok (.goto (-36), 3) := by decide +kernel
theorem dX9_areStopped_41 : decode cX9_areStopped 41 = .ok (.iconst 1, 1) := by decide +kernel
theorem dX9_areStopped_42 : decode cX9_areStopped 42 = .ok (.ireturn, 1) := by decide +kernel
theorem dX9_stopAll_0 : decode cX9_stopAll 0 = .ok (.aload_n 0, 1) := by decide +kernel
theorem dX9_stopAll_1 : decode cX9_stopAll 1 = .ok (.getfield 13, 3) := by decide +kernel
theorem dX9_stopAll_4 : decode cX9_stopAll 4 = .ok (.iconst 2, 1) := by decide +kernel
theorem dX9_stopAll_5 : decode cX9_stopAll 5 = .ok (.iaload, 1) := by decide +kernel
theorem dX9_stopAll_6 : decode cX9_stopAll 6 = .ok (.istore_n 1, 1) := by decide +kernel
theorem dX9_stopAll_7 : decode cX9_stopAll 7 = .ok (.bipush (-9), 2) := by decide +kernel
theorem dX9_stopAll_9 : decode cX9_stopAll 9 = .ok (.istore_n 2, 1) := by decide +kernel
theorem dX9_stopAll_10 : decode cX9_stopAll 10 = .ok (.iconst 0, 1) := by decide +kernel
theorem dX9_stopAll_11 : decode cX9_stopAll 11 = .ok (.istore_n 3, 1) := by decide +kernel
theorem dX9_stopAll_12 : decode cX9_stopAll 12 = .ok (.iload_n 3, 1) := by decide +kernel
theorem dX9_stopAll_13 : decode cX9_stopAll 13 = .ok (.iconst 1, 1) := by decide +kernel
theorem dX9_stopAll_14 : decode cX9_stopAll 14 = .ok (.aload_n 0, 1) := by decide +kernel
theorem dX9_stopAll_15 : decode cX9_stopAll 15 = .ok (.getfield 13, 3) := by decide +kernel
theorem dX9_stopAll_18 : decode cX9_stopAll 18 = .ok (.iconst 0, 1) := by decide +kernel
theorem dX9_stopAll_19 : decode cX9_stopAll 19 = .ok (.iaload, 1) := by decide +kernel
theorem dX9_stopAll_20 : decode cX9_stopAll 20 = .ok (.ishl, 1) := by decide +kernel
theorem dX9_stopAll_21 : decode cX9_stopAll 21 = .ok (.if_icmp .ge 50, 3) := by decide +kernel
theorem dX9_stopAll_24 : decode cX9_stopAll 24 = .ok (.iload_n 2, 1) := by decide +kernel
theorem dX9_stopAll_25 : decode cX9_stopAll 25 = .ok (.ifCond .lt 17, 3) := by decide +kernel
theorem dX9_stopAll_28 : decode cX9_stopAll 28 = .ok (.iload_n 3, 1) := by decide +kernel
theorem dX9_stopAll_29 : decode cX9_stopAll 29 = .ok (.invokestatic 185, 3) := by decide +kernel
theorem dX9_stopAll_32 : decode cX9_stopAll 32 = .ok (.iload_n 2, 1) := by decide +kernel
theorem dX9_stopAll_33 : decode cX9_stopAll 33 = .ok (.invokestatic 185, 3) := by decide +kernel
theorem dX9_stopAll_36 : decode cX9_stopAll 36 = .ok (.if_icmp .lt 6, 3) := by decide +kernel
theorem dX9_stopAll_39 : decode cX9_stopAll 39 = .ok (.goto 26, 3) := by decide +kernel
theorem dX9_stopAll_42 : decode cX9_stopAll 42 = .ok (.aload_n 0, 1) := by decide +kernel
theorem dX9_stopAll_43 : decode cX9_stopAll 43 = .ok (.getfield 13, 3) := by decide +kernel
theorem dX9_stopAll_46 : decode cX9_stopAll 46 = .ok (.iconst 2, 1) := by decide +kernel
theorem dX9_stopAll_47 : decode cX9_stopAll 47 = .ok (.iload_n 1, 1) := by decide +kernel
theorem dX9_stopAll_48 : decode cX9_stopAll 48 = .ok (.iload_n 3, 1) := by decide +kernel
theorem dX9_stopAll_49 : decode cX9_stopAll 49 = .ok (.ior, 1) := by decide +kernel
theorem dX9_stopAll_50 : decode cX9_stopAll 50 = .ok (.iastore, 1) := by decide +kernel
theorem dX9_stopAll_51 : decode cX9_stopAll 51 = .ok (.aload_n 0, 1) := by decide +kernel
theorem dX9_stopAll_52 : decode cX9_stopAll 52 = .ok (.iload_n 3, 1) := by decide +kernel
theorem dX9_stopAll_53 : decode cX9_stopAll 53 = .ok (.invokevirtual 188, 3) := by decide +kernel
theorem dX9_stopAll_56 : decode cX9_stopAll 56 = .ok (.ifCond .eq 7, 3) := by decide +kernel
theorem dX9_stopAll_59 : decode cX9_stopAll 59 = .ok (.iload_n 3, 1) := by decide +kernel
theorem dX9_stopAll_60 : decode cX9_stopAll 60 = .ok (.goto 4, 3) := by decide +kernel
theorem dX9_stopAll_63 : decode cX9_stopAll 63 = .ok (.iload_n 2, 1) := by decide +kernel
theorem dX9_stopAll_64 : decode cX9_stopAll 64 = .ok (.istore_n 2, 1) := by decide +kernel
theorem dX9_stopAll_65 : decode cX9_stopAll 65 = .ok (.iinc 3 1, 3) := by decide +kernel
theorem dX9_stopAll_68 : decode cX9_stopAll 68 = .ok (.goto (-56), 3) := by decide +kernel
theorem dX9_stopAll_71 : decode cX9_stopAll 71 = .ok (.aload_n 0, 1) := by decide +kernel
theorem dX9_stopAll_72 : decode cX9_stopAll 72 = .ok (.getfield 13, 3) := by decide +kernel
theorem dX9_stopAll_75 : decode cX9_stopAll 75 = .ok (.iconst 2, 1) := by decide +kernel
theorem dX9_stopAll_76 : decode cX9_stopAll 76 = .ok (.iload_n 1, 1) := by decide +kernel
theorem dX9_stopAll_77 : decode cX9_stopAll 77 = .ok (.iastore, 1) := by decide +kernel
theorem dX9_stopAll_78 : decode cX9_stopAll 78 = .ok (.iload_n 2, 1) := by decide +kernel
theorem dX9_stopAll_79 : decode cX9_stopAll 79 = .ok (.ireturn, 1) := by decide +kernel
theorem dX9_lines_0 : decode cX9_lines 0 = .ok (.iload 4, 2) := by decide +kernel
theorem dX9_lines_2 : decode cX9_lines 2 = .ok (.iload 5, 2) := by decide +kernel
theorem dX9_lines_4 : decode cX9_lines 4 = .ok (.if_icmp .ne 14, 3) := by decide +kernel
theorem dX9_lines_7 : decode cX9_lines 7 = .ok (.aload_n 0, 1) := by decide +kernel
theorem dX9_lines_8 : decode cX9_lines 8 = .ok (.dup, 1) := by decide +kernel
theorem dX9_lines_9 : decode cX9_lines 9 = .ok (.getfield 191, 3) := by decide +kernel
theorem dX9_lines_12 : decode cX9_lines 12 = .ok (.iconst 1, 1) := by decide +kernel
theorem dX9_lines_13 : decode cX9_lines 13 = .ok (.iadd, 1) := by decide +kernel
theorem dX9_lines_14 : decode cX9_lines 14 = .ok (.putfield 191, 3) := by decide +kernel
theorem dX9_lines_17 : decode cX9_lines 17 = .ok (.return_, 1) := by decide +kernel
theorem dX9_lines_18 : decode cX9_lines 18 = .ok (.iconst 0, 1) := by decide +kernel
theorem dX9_lines_19 : decode cX9_lines 19 = .ok (.istore 6, 2) := by decide +kernel
theorem dX9_lines_21 : decode cX9_lines 21 = .ok (.iload 6, 2) := by decide +kernel
theorem dX9_lines_23 : decode cX9_lines 23 = .ok (.aload_n 0, 1) := by decide +kernel
theorem dX9_lines_24 : decode cX9_lines 24 = .ok (.getfield 13, 3) := by decide +kernel
theorem dX9_lines_27 : decode cX9_lines 27 = .ok (.iconst 0, 1) := by decide +kernel
theorem dX9_lines_28 : decode cX9_lines 28 = .ok (.iaload, 1) := by decide +kernel
theorem dX9_lines_29 : decode cX9_lines 29 = .ok (.if_icmp .ge 147, 3) := by decide +kernel
theorem dX9_lines_32 : decode cX9_lines 32 = .ok (.iload 5, 2) := by decide +kernel
theorem dX9_lines_34 : decode cX9_lines 34 = .ok (.iload 6, 2) := by decide +kernel
theorem dX9_lines_36 : decode cX9_lines 36 = .ok (.ishr, 1) := by decide +kernel
theorem dX9_lines_37 : decode cX9_lines 37 = .ok (.iconst 1, 1) := by decide +kernel
theorem dX9_lines_38 : decode cX9_lines 38 = .ok (.iand, 1) := by decide +kernel
theorem dX9_lines_39 : decode cX9_lines 39 = .ok (.ifCond .eq 131, 3) := by decide +kernel
theorem dX9_lines_42 : decode cX9_lines 42 = .ok (.iload 4, 2) := by decide +kernel
theorem dX9_lines_44 : decode cX9_lines 44 = .ok (.iload 6, 2) := by decide +kernel
theorem dX9_lines_46 : decode cX9_lines 46 = .ok (.ishr, 1) := by decide +kernel
theorem dX9_lines_47 : decode cX9_lines 47 = .ok (.iconst 1, 1) := by decide +kernel
theorem dX9_lines_48 : decode cX9_lines 48 = .ok (.iand, 1) := by decide +kernel
theorem dX9_lines_49 : decode cX9_lines 49 = .ok (.iconst 1, 1) := by decide +kernel
theorem dX9_lines_50 : decode cX9_lines 50 = .ok (.if_icmp .ne 6, 3) := by decide +kernel
theorem dX9_lines_53 : decode cX9_lines 53 = .ok (.goto 117, 3) := by decide +kernel
theorem dX9_lines_56 : decode cX9_lines 56 = .ok (.aload_n 0, 1) := by decide +kernel
theorem dX9_lines_57 : decode cX9_lines 57 = .ok (.getfield 191, 3) := by decide +kernel
theorem dX9_lines_60 : decode cX9_lines 60 = .ok (.istore 7, 2) := by decide +kernel
theorem dX9_lines_62 : decode cX9_lines 62 = .ok (.aload_n 0, 1) := by decide +kernel
theorem dX9_lines_63 : decode cX9_lines 63 = .ok (.iload_n 1, 1) := by decide +kernel
theorem dX9_lines_64 : decode cX9_lines 64 = .ok (.iload_n 2, 1) := by decide +kernel
theorem dX9_lines_65 : decode cX9_lines 65 = .ok (.iload_n 3, 1) := by decide +kernel
theorem dX9_lines_66 : decode cX9_lines 66 = .ok (.iload 4, 2) := by decide +kernel
theorem dX9_lines_68 : decode cX9_lines 68 = .ok (.iconst 1, 1) := by decide +kernel
theorem dX9_lines_69 : decode cX9_lines 69 = .ok (.iload 6, 2) := by decide +kernel
theorem dX9_lines_71 : decode cX9_lines 71 = .ok (.ishl, 1) := by decide +kernel
theorem dX9_lines_72 : decode cX9_lines 72 = .ok (.ior, 1) := by decide +kernel
theorem dX9_lines_73 : decode cX9_lines 73 = .ok (.iload 5, 2) := by decide +kernel
theorem dX9_lines_75 : decode cX9_lines 75 = .ok (.invokevirtual 194, 3) := by decide +kernel
theorem dX9_lines_78 : decode cX9_lines 78 = .ok (.iload 6, 2) := by decide +kernel
theorem dX9_lines_80 : decode cX9_lines 80 = .ok (.iload_n 1, 1) := by decide +kernel
theorem dX9_lines_81 : decode cX9_lines 81 = .ok (.if_icmp .eq 6, 3) := by decide +kernel
theorem dX9_lines_84 : decode cX9_lines 84 = .ok (.goto 86, 3) := by decide +kernel
theorem dX9_lines_87 : decode cX9_lines 87 = .ok (.aload_n 0, 1) := by decide +kernel
theorem dX9_lines_88 : decode cX9_lines 88 = .ok (.getfield 13, 3) := by decide +kernel
theorem dX9_lines_91 : decode cX9_lines 91 = .ok (.iconst 2, 1) := by decide +kernel
theorem dX9_lines_92 : decode cX9_lines 92 = .ok (.iload_n 3, 1) := by decide +kernel
theorem dX9_lines_93 : decode cX9_lines 93 = .ok (.iload 5, 2) := by decide +kernel
theorem dX9_lines_95 : decode cX9_lines 95 = .ok (.iload 4, 2) := by decide +kernel
theorem dX9_lines_97 : decode cX9_lines 97 = .ok (.iconst (-1), 1) := by decide +kernel
theorem dX9_lines_98 : decode cX9_lines 98 = .ok (.ixor, 1) := by decide +kernel
theorem dX9_lines_99 : decode cX9_lines 99 = .ok (.iand, 1) := by decide +kernel
theorem dX9_lines_100 : decode cX9_lines 100 = .ok (.ior, 1) := by decide +kernel
theorem dX9_lines_101 : decode cX9_lines 101 = .ok (.iastore, 1) := by decide +kernel
theorem dX9_lines_102 : decode cX9_lines 102 = .ok (.aload_n 0, 1) := by decide +kernel
theorem dX9_lines_103 : decode cX9_lines 103 = .ok (.iload_n 2, 1) := by decide +kernel
theorem dX9_lines_104 : decode cX9_lines 104 = .ok (.invokevirtual 159, 3) := by decide +kernel
theorem dX9_lines_107 : decode cX9_lines 107 = .ok (.ifCond .lt 7, 3) := by decide +kernel
theorem dX9_lines_110 : decode cX9_lines 110 = .ok (.iconst 1, 1) := by decide +kernel
theorem dX9_lines_111 : decode cX9_lines 111 = .ok (.goto 4, 3) := by decide +kernel
theorem dX9_lines_114 : decode cX9_lines 114 = .ok (.iconst 0, 1) := by decide +kernel
theorem dX9_lines_115 : decode cX9_lines 115 = .ok (.istore 8, 2) := by decide +kernel
theorem dX9_lines_117 : decode cX9_lines 117 = .ok (.aload_n 0, 1) := by decide +kernel
theorem dX9_lines_118 : decode cX9_lines 118 = .ok (.getfield 13, 3) := by decide +kernel
theorem dX9_lines_121 : decode cX9_lines 121 = .ok (.iconst 2, 1) := by decide +kernel
theorem dX9_lines_122 : decode cX9_lines 122 = .ok (.iload_n 3, 1) := by decide +kernel
theorem dX9_lines_123 : decode cX9_lines 123 = .ok (.iload 5, 2) := by decide +kernel
theorem dX9_lines_125 : decode cX9_lines 125 = .ok (.iload 4, 2) := by decide +kernel
theorem dX9_lines_127 : decode cX9_lines 127 = .ok (.iconst 1, 1) := by decide +kernel
theorem dX9_lines_128 : decode cX9_lines 128 = .ok (.iload 6, 2) := by decide +kernel
theorem dX9_lines_130 : decode cX9_lines 130 = .ok (.ishl, 1) := by decide +kernel
theorem dX9_lines_131 : decode cX9_lines 131 = .ok (.ior, 1) := by decide +kernel
theorem dX9_lines_132 : decode cX9_lines 132 = .ok (.iconst (-1), 1) := by decide +kernel
theorem dX9_lines_133 : decode cX9_lines 133 = .ok (.ixor, 1) := by decide +kernel
theorem dX9_lines_134 : decode cX9_lines 134 = .ok (.iand, 1) := by decide +kernel
theorem dX9_lines_135 : decode cX9_lines 135 = .ok (.ior, 1) := by decide +kernel
theorem dX9_lines_136 : decode cX9_lines 136 = .ok (.iastore, 1) := by decide +kernel
theorem dX9_lines_137 : decode cX9_lines 137 = .ok (.aload_n 0, 1) := by decide +kernel
theorem dX9_lines_138 : decode cX9_lines 138 = .ok (.dup, 1) := by decide +kernel
theorem dX9_lines_139 : decode cX9_lines 139 = .ok (.getfield 198, 3) := by decide +kernel
theorem dX9_lines_142 : decode cX9_lines 142 = .ok (.iload 8, 2) := by decide +kernel
theorem dX9_lines_144 : decode cX9_lines 144 = .ok (.ifCond .ne 21, 3) := by decide +kernel
theorem dX9_lines_147 : decode cX9_lines 147 = .ok (.aload_n 0, 1) := by decide +kernel
theorem dX9_lines_148 : decode cX9_lines 148 = .ok (.iload_n 2, 1) := by decide +kernel
theorem dX9_lines_149 : decode cX9_lines 149 = .ok (.invokevirtual 159, 3) := by decide +kernel
theorem dX9_lines_152 : decode cX9_lines 152 = .ok (.ifCond .lt 13, 3) := by decide +kernel
theorem dX9_lines_155 : decode cX9_lines 155 = .ok (.aload_n 0, 1) := by decide +kernel
theorem dX9_lines_156 : decode cX9_lines 156 = .ok (.getfield 191, 3) := by decide +kernel
theorem dX9_lines_159 : decode cX9_lines 159 = .ok (.iload 7, 2) := by decide +kernel
theorem dX9_lines_161 : decode cX9_lines 161 = .ok (.isub, 1) := by decide +kernel
theorem dX9_lines_162 : decode cX9_lines 162 = .ok (.goto 4, 3) := by decide +kernel
theorem dX9_lines_165 : decode cX9_lines 165 = .ok (.iconst 0, 1) := by decide +kernel
theorem dX9_lines_166 : decode cX9_lines 166 = .ok (.iadd, 1) := by decide +kernel
theorem dX9_lines_167 : decode cX9_lines 167 = .ok (.putfield 198, 3) := by decide +kernel
theorem dX9_lines_170 : decode cX9_lines 170 = .ok (.iinc 6 1, 3) := by decide +kernel
theorem dX9_lines_173 : decode cX9_lines 173 = .ok (.goto (-152), 3) := by decide +kernel
theorem dX9_lines_176 : decode cX9_lines 176 = .ok (.return_, 1) := by decide +kernel
theorem dX9_common_0 : decode cX9_common 0 = .ok (.iload_n 1, 1) := by decide +kernel
theorem dX9_common_1 : decode cX9_common 1 = .ok (.ifCond .ne 7, 3) := by decide +kernel
theorem dX9_common_4 : decode cX9_common 4 = .ok (.iload_n 0, 1) := by decide +kernel
theorem dX9_common_5 : decode cX9_common 5 = .ok (.goto 10, 3) := by decide +kernel
theorem dX9_common_8 : decode cX9_common 8 = .ok (.iload_n 1, 1) := by decide +kernel
theorem dX9_common_9 : decode cX9_common 9 = .ok (.iload_n 0, 1) := by decide +kernel
theorem dX9_common_10 : decode cX9_common 10 = .ok (.iload_n 1, 1) := by decide +kernel
theorem dX9_common_11 : decode cX9_common 11 = .ok (.irem, 1) := by decide +kernel
theorem dX9_common_12 : decode cX9_common 12 = .ok (.invokestatic 201, 3) := by decide +kernel
theorem dX9_common_15 : decode cX9_common 15 = .ok (.ireturn, 1) := by decide +kernel
theorem dX9_power_0 : decode cX9_power 0 = .ok (.aload_n 0, 1) := by decide +kernel
theorem dX9_power_1 : decode cX9_power 1 = .ok (.iload_n 1, 1) := by decide +kernel
theorem dX9_power_2 : decode cX9_power 2 = .ok (.invokevirtual 106, 3) := by decide +kernel
theorem dX9_power_5 : decode cX9_power 5 = .ok (.ifCond .eq 21, 3) := by decide +kernel
theorem dX9_power_8 : decode cX9_power 8 = .ok (.aload_n 0, 1) := by decide +kernel
theorem dX9_power_9 : decode cX9_power 9 = .ok (.iload_n 2, 1) := by decide +kernel
theorem dX9_power_10 : decode cX9_power 10 = .ok (.invokevirtual 119, 3) := by decide +kernel
theorem dX9_power_13 : decode cX9_power 13 = .ok (.ifCond .eq 13, 3) := by decide +kernel
theorem dX9_power_16 : decode cX9_power 16 = .ok (.aload_n 0, 1) := by decide +kernel
theorem dX9_power_17 : decode cX9_power 17 = .ok (.iload_n 2, 1) := by decide +kernel
theorem dX9_power_18 : decode cX9_power 18 = .ok (.iconst 0, 1) := by decide +kernel
theorem dX9_power_19 : decode cX9_power 19 = .ok (.invokevirtual 122, 3) := by decide +kernel
theorem dX9_power_22 : decode cX9_power 22 = .ok (.iload_n 1, 1) := by decide +kernel
theorem dX9_power_23 : decode cX9_power 23 = .ok (.if_icmp .ne 9, 3) := by decide +kernel
theorem dX9_power_26 : decode cX9_power 26 = .ok (.aload_n 0, 1) := by decide +kernel
theorem dX9_power_27 : decode cX9_power 27 = .ok (.iconst (-1), 1) := by decide +kernel
theorem dX9_power_28 : decode cX9_power 28 = .ok (.invokevirtual 54, 3) := by decide +kernel
theorem dX9_power_31 : decode cX9_power 31 = .ok (.ireturn, 1) := by decide +kernel
theorem dX9_power_32 : decode cX9_power 32 = .ok (.iload_n 3, 1) := by decide +kernel
theorem dX9_power_33 : decode cX9_power 33 = .ok (.iconst 2, 1) := by decide +kernel
theorem dX9_power_34 : decode cX9_power 34 = .ok (.invokestatic 50, 3) := by decide +kernel
theorem dX9_power_37 : decode cX9_power 37 = .ok (.ifCond .ne 10, 3) := by decide +kernel
theorem dX9_power_40 : decode cX9_power 40 = .ok (.aload_n 0, 1) := by decide +kernel
theorem dX9_power_41 : decode cX9_power 41 = .ok (.bipush (-2), 2) := by decide +kernel
theorem dX9_power_43 : decode cX9_power 43 = .ok (.invokevirtual 54, 3) := by decide +kernel
theorem dX9_power_46 : decode cX9_power 46 = .ok (.ireturn, 1) := by decide +kernel
theorem dX9_power_47 : decode cX9_power 47 = .ok (.aload_n 0, 1) := by decide +kernel
theorem dX9_power_48 : decode cX9_power 48 = .ok (.getfield 13, 3) := by decide +kernel
theorem dX9_power_51 : decode cX9_power 51 = .ok (.iconst 0, 1) := by decide +kernel
theorem dX9_power_52 : decode cX9_power 52 = .ok (.iaload, 1) := by decide +kernel
theorem dX9_power_53 : decode cX9_power 53 = .ok (.bipush 6, 2) := by decide +kernel
theorem dX9_power_55 : decode cX9_power 55 = .ok (.if_icmp .le 10, 3) := by decide +kernel
theorem dX9_power_58 : decode cX9_power 58 = .ok (.aload_n 0, 1) := by decide +kernel
theorem dX9_power_59 : decode cX9_power 59 = .ok (.bipush (-6), 2) := by decide +kernel
theorem dX9_power_61 : decode cX9_power 61 = .ok (.invokevirtual 54, 3) := by decide +kernel
theorem dX9_power_64 : decode cX9_power 64 = .ok (.ireturn, 1) := by decide +kernel
theorem dX9_power_65 : decode cX9_power 65 = .ok (.aload_n 0, 1) := by decide +kernel
theorem dX9_power_66 : decode cX9_power 66 = .ok (.getfield 13, 3) := by decide +kernel
theorem dX9_power_69 : decode cX9_power 69 = .ok (.iconst 2, 1) := by decide +kernel
theorem dX9_power_70 : decode cX9_power 70 = .ok (.iaload, 1) := by decide +kernel
theorem dX9_power_71 : decode cX9_power 71 = .ok (.istore 4, 2) := by decide +kernel
theorem dX9_power_73 : decode cX9_power 73 = .ok (.aload_n 0, 1) := by decide +kernel
theorem dX9_power_74 : decode cX9_power 74 = .ok (.iconst 0, 1) := by decide +kernel
theorem dX9_power_75 : decode cX9_power 75 = .ok (.putfield 198, 3) := by decide +kernel
theorem dX9_power_78 : decode cX9_power 78 = .ok (.aload_n 0, 1) := by decide +kernel
theorem dX9_power_79 : decode cX9_power 79 = .ok (.iconst 0, 1) := by decide +kernel
theorem dX9_power_80 : decode cX9_power 80 = .ok (.putfield 191, 3) := by decide +kernel
theorem dX9_power_83 : decode cX9_power 83 = .ok (.aload_n 0, 1) := by decide +kernel
theorem dX9_power_84 : decode cX9_power 84 = .ok (.iload_n 1, 1) := by decide +kernel
theorem dX9_power_85 : decode cX9_power 85 = .ok (.iload_n 2, 1) := by decide +kernel
theorem dX9_power_86 : decode cX9_power 86 = .ok (.iload 4, 2) := by decide +kernel
theorem dX9_power_88 : decode cX9_power 88 = .ok (.iconst 0, 1) := by decide +kernel
theorem dX9_power_89 : decode cX9_power 89 = .ok (.iconst 1, 1) := by decide +kernel
theorem dX9_power_90 : decode cX9_power 90 = .ok (.aload_n 0, 1) := by decide +kernel
theorem dX9_power_91 : decode cX9_power 91 = .ok (.getfield 13, 3) := by decide +kernel
theorem dX9_power_94 : decode cX9_power 94 = .ok (.iconst 0, 1) := by decide +kernel
theorem dX9_power_95 : decode cX9_power 95 = .ok (.iaload, 1) := by decide +kernel
theorem dX9_power_96 : decode cX9_power 96 = .ok (.ishl, 1) := by decide +kernel
theorem dX9_power_97 : decode cX9_power 97 = .ok (.iconst 1, 1) := by decide +kernel
theorem dX9_power_98 : decode cX9_power 98 = .ok (.isub, 1) := by decide +kernel
theorem dX9_power_99 : decode cX9_power 99 = .ok (.iconst 1, 1) := by decide +kernel
theorem dX9_power_100 : decode cX9_power 100 = .ok (.aload_n 0, 1) := by decide +kernel
theorem dX9_power_101 : decode cX9_power 101 = .ok (.iload_n 2, 1) := by decide +kernel
theorem dX9_power_102 : decode cX9_power 102 = .ok (.iconst 0, 1) := by decide +kernel
theorem dX9_power_103 : decode cX9_power 103 = .ok (.invokevirtual 122, 3) := by decide +kernel
theorem dX9_power_106 : decode cX9_power 106 = .ok (.ishl, 1) := by decide +kernel
theorem dX9_power_107 : decode cX9_power 107 = .ok (.iconst (-1), 1) := by decide +kernel
theorem dX9_power_108 : decode cX9_power 108 = .ok (.ixor, 1) := by decide +kernel
theorem dX9_power_109 : decode cX9_power 109 = .ok (.iand, 1) := by decide +kernel
theorem dX9_power_110 : decode cX9_power 110 = .ok (.invokevirtual 194, 3) := by decide +kernel
theorem dX9_power_113 : decode cX9_power 113 = .ok (.aload_n 0, 1) := by decide +kernel
theorem dX9_power_114 : decode cX9_power 114 = .ok (.getfield 13, 3) := by decide +kernel
theorem dX9_power_117 : decode cX9_power 117 = .ok (.iconst 2, 1) := by decide +kernel
theorem dX9_power_118 : decode cX9_power 118 = .ok (.iload 4, 2) := by decide +kernel
theorem dX9_power_120 : decode cX9_power 120 = .ok (.iastore, 1) := by decide +kernel
theorem dX9_power_121 : decode cX9_power 121 = .ok (.aload_n 0, 1) := by decide +kernel
theorem dX9_power_122 : decode cX9_power 122 = .ok (.getfield 191, 3) := by decide +kernel
theorem dX9_power_125 : decode cX9_power 125 = .ok (.aload_n 0, 1) := by decide +kernel
theorem dX9_power_126 : decode cX9_power 126 = .ok (.getfield 198, 3) := by decide +kernel
theorem dX9_power_129 : decode cX9_power 129 = .ok (.invokestatic 201, 3) := by decide +kernel
theorem dX9_power_132 : decode cX9_power 132 = .ok (.istore 5, 2) := by decide +kernel
theorem dX9_power_134 : decode cX9_power 134 = .ok (.iload_n 3, 1) := by decide +kernel
theorem dX9_power_135 : decode cX9_power 135 = .ok (.ifCond .ne 13, 3) := by decide +kernel
theorem dX9_power_138 : decode cX9_power 138 = .ok (.aload_n 0, 1) := by decide +kernel
theorem dX9_power_139 : decode cX9_power 139 = .ok (.getfield 198, 3) := by decide +kernel
theorem dX9_power_142 : decode cX9_power 142 = .ok (.iload 5, 2) := by decide +kernel
theorem dX9_power_144 : decode cX9_power 144 = .ok (.idiv, 1) := by decide +kernel
theorem dX9_power_145 : decode cX9_power 145 = .ok (.goto 10, 3) := by decide +kernel
theorem dX9_power_148 : decode cX9_power 148 = .ok (.aload_n 0, 1) := by decide +kernel
theorem dX9_power_149 : decode cX9_power 149 = .ok (.getfield 191, 3) := by decide +kernel
theorem dX9_power_152 : decode cX9_power 152 = .ok (.iload 5, 2) := by decide +kernel
theorem dX9_power_154 : decode cX9_power 154 = .ok (.idiv, 1) := by decide +kernel
theorem dX9_power_155 : decode cX9_power 155 = .ok (.ireturn, 1) := by decide +kernel
theorem dX9_weds_0 : decode cX9_weds 0 = .ok (.iconst 0, 1) := by decide +kernel
theorem dX9_weds_1 : decode cX9_weds 1 = .ok (.istore_n 3, 1) := by decide +kernel
theorem dX9_weds_2 : decode cX9_weds 2 = .ok (.iload_n 3, 1) := by decide +kernel
theorem dX9_weds_3 : decode cX9_weds 3 = .ok (.aload_n 0, 1) := by decide +kernel
theorem dX9_weds_4 : decode cX9_weds 4 = .ok (.getfield 13, 3) := by decide +kernel
theorem dX9_weds_7 : decode cX9_weds 7 = .ok (.iconst 0, 1) := by decide +kernel
theorem dX9_weds_8 : decode cX9_weds 8 = .ok (.iaload, 1) := by decide +kernel
theorem dX9_weds_9 : decode cX9_weds 9 = .ok (.if_icmp .ge 44, 3) := by decide +kernel
theorem dX9_weds_12 : decode cX9_weds 12 = .ok (.aload_n 0, 1) := by decide +kernel
theorem dX9_weds_13 : decode cX9_weds 13 = .ok (.iload_n 3, 1) := by decide +kernel
theorem dX9_weds_14 : decode cX9_weds 14 = .ok (.iconst 3, 1) := by decide +kernel
theorem dX9_weds_15 : decode cX9_weds 15 = .ok (.invokevirtual 109, 3) := by decide +kernel
theorem dX9_weds_18 : decode cX9_weds 18 = .ok (.iload_n 1, 1) := by decide +kernel
theorem dX9_weds_19 : decode cX9_weds 19 = .ok (.if_icmp .eq 13, 3) := by decide +kernel
theorem dX9_weds_22 : decode cX9_weds 22 = .ok (.aload_n 0, 1) := by decide +kernel
theorem dX9_weds_23 : decode cX9_weds 23 = .ok (.iload_n 3, 1) := by decide +kernel
theorem dX9_weds_24 : decode cX9_weds 24 = .ok (.iconst 3, 1) := by decide +kernel
theorem dX9_weds_25 : decode cX9_weds 25 = .ok (.invokevirtual 109, 3) := by decide +kernel
theorem dX9_weds_28 : decode cX9_weds 28 = .ok (.iload_n 2, 1) := by decide +kernel
theorem dX9_weds_29 : decode cX9_weds 29 = .ok (.if_icmp .ne 18, 3) := by decide +kernel
theorem dX9_weds_32 : decode cX9_weds 32 = .ok (.aload_n 0, 1) := by decide +kernel
theorem dX9_weds_33 : decode cX9_weds 33 = .ok (.getfield 13, 3) := by decide +kernel
theorem dX9_weds_36 : decode cX9_weds 36 = .ok (.bipush 121, 2) := by decide +kernel
theorem dX9_weds_38 : decode cX9_weds 38 = .ok (.iconst 4, 1) := by decide +kernel
theorem dX9_weds_39 : decode cX9_weds 39 = .ok (.iload_n 3, 1) := by decide +kernel
theorem dX9_weds_40 : decode cX9_weds 40 = .ok (.imul, 1) := by decide +kernel
theorem dX9_weds_41 : decode cX9_weds 41 = .ok (.iadd, 1) := by decide +kernel
theorem dX9_weds_42 : decode cX9_weds 42 = .ok (.iconst 3, 1) := by decide +kernel
theorem dX9_weds_43 : decode cX9_weds 43 = .ok (.iadd, 1) := by decide +kernel
theorem dX9_weds_44 : decode cX9_weds 44 = .ok (.bipush (-9), 2) := by decide +kernel
theorem dX9_weds_46 : decode cX9_weds 46 = .ok (.iastore, 1) := by decide +kernel
theorem dX9_weds_47 : decode cX9_weds 47 = .ok (.iinc 3 1, 3) := by decide +kernel
theorem dX9_weds_50 : decode cX9_weds 50 = .ok (.goto (-48), 3) := by decide +kernel
theorem dX9_weds_53 : decode cX9_weds 53 = .ok (.aload_n 0, 1) := by decide +kernel
theorem dX9_weds_54 : decode cX9_weds 54 = .ok (.getfield 13, 3) := by decide +kernel
theorem dX9_weds_57 : decode cX9_weds 57 = .ok (.bipush 121, 2) := by decide +kernel
theorem dX9_weds_59 : decode cX9_weds 59 = .ok (.iconst 4, 1) := by decide +kernel
theorem dX9_weds_60 : decode cX9_weds 60 = .ok (.iload_n 1, 1) := by decide +kernel
theorem dX9_weds_61 : decode cX9_weds 61 = .ok (.imul, 1) := by decide +kernel
theorem dX9_weds_62 : decode cX9_weds 62 = .ok (.iadd, 1) := by decide +kernel
theorem dX9_weds_63 : decode cX9_weds 63 = .ok (.iconst 3, 1) := by decide +kernel
theorem dX9_weds_64 : decode cX9_weds 64 = .ok (.iadd, 1) := by decide +kernel
theorem dX9_weds_65 : decode cX9_weds 65 = .ok (.iload_n 2, 1) := by decide +kernel
theorem dX9_weds_66 : decode cX9_weds 66 = .ok (.iastore, 1) := by decide +kernel
theorem dX9_weds_67 : decode cX9_weds 67 = .ok (.aload_n 0, 1) := by decide +kernel
theorem dX9_weds_68 : decode cX9_weds 68 = .ok (.getfield 13, 3) := by decide +kernel
theorem dX9_weds_71 : decode cX9_weds 71 = .ok (.bipush 121, 2) := by decide +kernel
theorem dX9_weds_73 : decode cX9_weds 73 = .ok (.iconst 4, 1) := by decide +kernel
theorem dX9_weds_74 : decode cX9_weds 74 = .ok (.iload_n 2, 1) := by decide +kernel
theorem dX9_weds_75 : decode cX9_weds 75 = .ok (.imul, 1) := by decide +kernel
theorem dX9_weds_76 : decode cX9_weds 76 = .ok (.iadd, 1) := by decide +kernel
theorem dX9_weds_77 : decode cX9_weds 77 = .ok (.iconst 3, 1) := by decide +kernel
theorem dX9_weds_78 : decode cX9_weds 78 = .ok (.iadd, 1) := by decide +kernel
theorem dX9_weds_79 : decode cX9_weds 79 = .ok (.iload_n 1, 1) := by decide +kernel
theorem dX9_weds_80 : decode cX9_weds 80 = .ok (.iastore, 1) := by decide +kernel
theorem dX9_weds_81 : decode cX9_weds 81 = .ok (.return_, 1) := by decide +kernel
theorem dX9_costsOf_0 : decode cX9_costsOf 0 = .ok (.iconst 0, 1) := by decide +kernel
theorem dX9_costsOf_1 : decode cX9_costsOf 1 = .ok (.istore_n 2, 1) := by decide +kernel
theorem dX9_costsOf_2 : decode cX9_costsOf 2 = .ok (.iconst 0, 1) := by decide +kernel
theorem dX9_costsOf_3 : decode cX9_costsOf 3 = .ok (.istore_n 3, 1) := by decide +kernel
theorem dX9_costsOf_4 : decode cX9_costsOf 4 = .ok (.iload_n 3, 1) := by decide +kernel
theorem dX9_costsOf_5 : decode cX9_costsOf 5 = .ok (.aload_n 0, 1) := by decide +kernel
theorem dX9_costsOf_6 : decode cX9_costsOf 6 = .ok (.getfield 13, 3) := by decide +kernel
theorem dX9_costsOf_9 : decode cX9_costsOf 9 = .ok (.iconst 1, 1) := by decide +kernel
theorem dX9_costsOf_10 : decode cX9_costsOf 10 = .ok (.iaload, 1) := by decide +kernel
theorem dX9_costsOf_11 : decode cX9_costsOf 11 = .ok (.if_icmp .ge 44, 3) := by decide +kernel
theorem dX9_costsOf_14 : decode cX9_costsOf 14 = .ok (.aload_n 0, 1) := by decide +kernel
theorem dX9_costsOf_15 : decode cX9_costsOf 15 = .ok (.iload_n 3, 1) := by decide +kernel
theorem dX9_costsOf_16 : decode cX9_costsOf 16 = .ok (.iconst 0, 1) := by decide +kernel
theorem dX9_costsOf_17 : decode cX9_costsOf 17 = .ok (.invokevirtual 122, 3) := by decide +kernel
theorem dX9_costsOf_20 : decode cX9_costsOf 20 = .ok (.iload_n 1, 1) := by decide +kernel
theorem dX9_costsOf_21 : decode cX9_costsOf 21 = .ok (.if_icmp .eq 6, 3) := by decide +kernel
theorem dX9_costsOf_24 : decode cX9_costsOf 24 = .ok (.goto 25, 3) := by decide +kernel
theorem dX9_costsOf_27 : decode cX9_costsOf 27 = .ok (.aload_n 0, 1) := by decide +kernel
theorem dX9_costsOf_28 : decode cX9_costsOf 28 = .ok (.iload_n 3, 1) := by decide +kernel
theorem dX9_costsOf_29 : decode cX9_costsOf 29 = .ok (.invokevirtual 159, 3) := by decide +kernel
theorem dX9_costsOf_32 : decode cX9_costsOf 32 = .ok (.istore 4, 2) := by decide +kernel
theorem dX9_costsOf_34 : decode cX9_costsOf 34 = .ok (.iload_n 2, 1) := by decide +kernel
theorem dX9_costsOf_35 : decode cX9_costsOf 35 = .ok (.iload 4, 2) := by decide +kernel
theorem dX9_costsOf_37 : decode cX9_costsOf 37 = .ok (.ifCond .ge 8, 3) := by decide +kernel
theorem dX9_costsOf_40 : decode cX9_costsOf 40 = .ok (.bipush 100, 2) := by decide +kernel
theorem dX9_costsOf_42 : decode cX9_costsOf 42 = .ok (.goto 5, 3) := by decide +kernel
theorem dX9_costsOf_45 : decode cX9_costsOf 45 = .ok (.iload 4, 2) := by decide +kernel
theorem dX9_costsOf_47 : decode cX9_costsOf 47 = .ok (.iadd, 1) := by decide +kernel
theorem dX9_costsOf_48 : decode cX9_costsOf 48 = .ok (.istore_n 2, 1) := by decide +kernel
theorem dX9_costsOf_49 : decode cX9_costsOf 49 = .ok (.iinc 3 1, 3) := by decide +kernel
theorem dX9_costsOf_52 : decode cX9_costsOf 52 = .ok (.goto (-48), 3) := by decide +kernel
theorem dX9_costsOf_55 : decode cX9_costsOf 55 = .ok (.iload_n 2, 1) := by decide +kernel
theorem dX9_costsOf_56 : decode cX9_costsOf 56 = .ok (.ireturn, 1) := by decide +kernel
theorem dX9_wed_0 : decode cX9_wed 0 = .ok (.aload_n 0, 1) := by decide +kernel
theorem dX9_wed_1 : decode cX9_wed 1 = .ok (.iload_n 1, 1) := by decide +kernel
theorem dX9_wed_2 : decode cX9_wed 2 = .ok (.invokevirtual 106, 3) := by decide +kernel
theorem dX9_wed_5 : decode cX9_wed 5 = .ok (.ifCond .ne 9, 3) := by decide +kernel
theorem dX9_wed_8 : decode cX9_wed 8 = .ok (.aload_n 0, 1) := by decide +kernel
theorem dX9_wed_9 : decode cX9_wed 9 = .ok (.iconst (-1), 1) := by decide +kernel
theorem dX9_wed_10 : decode cX9_wed 10 = .ok (.invokevirtual 54, 3) := by decide +kernel
theorem dX9_wed_13 : decode cX9_wed 13 = .ok (.ireturn, 1) := by decide +kernel
theorem dX9_wed_14 : decode cX9_wed 14 = .ok (.bipush (-9), 2) := by decide +kernel
theorem dX9_wed_16 : decode cX9_wed 16 = .ok (.istore_n 2, 1) := by decide +kernel
theorem dX9_wed_17 : decode cX9_wed 17 = .ok (.aload_n 0, 1) := by decide +kernel
theorem dX9_wed_18 : decode cX9_wed 18 = .ok (.iload_n 1, 1) := by decide +kernel
theorem dX9_wed_19 : decode cX9_wed 19 = .ok (.invokevirtual 204, 3) := by decide +kernel
theorem dX9_wed_22 : decode cX9_wed 22 = .ok (.istore_n 3, 1) := by decide +kernel
theorem dX9_wed_23 : decode cX9_wed 23 = .ok (.aload_n 0, 1) := by decide +kernel
theorem dX9_wed_24 : decode cX9_wed 24 = .ok (.getfield 13, 3) := by decide +kernel
theorem dX9_wed_27 : decode cX9_wed 27 = .ok (.aload_n 0, 1) := by decide +kernel
theorem dX9_wed_28 : decode cX9_wed 28 = .ok (.getfield 22, 3) := by decide +kernel
theorem dX9_wed_31 : decode cX9_wed 31 = .ok (.invokestatic 96, 3) := by decide +kernel
theorem dX9_wed_34 : decode cX9_wed 34 = .ok (.iconst 0, 1) := by decide +kernel
theorem dX9_wed_35 : decode cX9_wed 35 = .ok (.istore 4, 2) := by decide +kernel
theorem dX9_wed_37 : decode cX9_wed 37 = .ok (.iload 4, 2) := by decide +kernel
theorem dX9_wed_39 : decode cX9_wed 39 = .ok (.aload_n 0, 1) := by decide +kernel
theorem dX9_wed_40 : decode cX9_wed 40 = .ok (.getfield 13, 3) := by decide +kernel
theorem dX9_wed_43 : decode cX9_wed 43 = .ok (.iconst 0, 1) := by decide +kernel
theorem dX9_wed_44 : decode cX9_wed 44 = .ok (.iaload, 1) := by decide +kernel
theorem dX9_wed_45 : decode cX9_wed 45 = .ok (.if_icmp .ge 58, 3) := by decide +kernel
theorem dX9_wed_48 : decode cX9_wed 48 = .ok (.iload 4, 2) := by decide +kernel
theorem dX9_wed_50 : decode cX9_wed 50 = .ok (.iload_n 1, 1) := by decide +kernel
theorem dX9_wed_51 : decode cX9_wed 51 = .ok (.if_icmp .ne 6, 3) := by decide +kernel
theorem dX9_wed_54 : decode cX9_wed 54 = .ok (.goto 43, 3) := by decide +kernel
theorem dX9_wed_57 : decode cX9_wed 57 = .ok (.aload_n 0, 1) := by decide +kernel
theorem dX9_wed_58 : decode cX9_wed 58 = .ok (.iload_n 1, 1) := by decide +kernel
theorem dX9_wed_59 : decode cX9_wed 59 = .ok (.iload 4, 2) := by decide +kernel
theorem dX9_wed_61 : decode cX9_wed 61 = .ok (.invokevirtual 207, 3) := by decide +kernel
theorem dX9_wed_64 : decode cX9_wed 64 = .ok (.aload_n 0, 1) := by decide +kernel
theorem dX9_wed_65 : decode cX9_wed 65 = .ok (.iload_n 1, 1) := by decide +kernel
theorem dX9_wed_66 : decode cX9_wed 66 = .ok (.invokevirtual 204, 3) := by decide +kernel
theorem dX9_wed_69 : decode cX9_wed 69 = .ok (.istore 5, 2) := by decide +kernel
theorem dX9_wed_71 : decode cX9_wed 71 = .ok (.aload_n 0, 1) := by decide +kernel
theorem dX9_wed_72 : decode cX9_wed 72 = .ok (.getfield 22, 3) := by decide +kernel
theorem dX9_wed_75 : decode cX9_wed 75 = .ok (.aload_n 0, 1) := by decide +kernel
theorem dX9_wed_76 : decode cX9_wed 76 = .ok (.getfield 13, 3) := by decide +kernel
theorem dX9_wed_79 : decode cX9_wed 79 = .ok (.invokestatic 96, 3) := by decide +kernel
theorem dX9_wed_82 : decode cX9_wed 82 = .ok (.iload 5, 2) := by decide +kernel
theorem dX9_wed_84 : decode cX9_wed 84 = .ok (.iload_n 3, 1) := by decide +kernel
theorem dX9_wed_85 : decode cX9_wed 85 = .ok (.if_icmp .lt 6, 3) := by decide +kernel
theorem dX9_wed_88 : decode cX9_wed 88 = .ok (.goto 9, 3) := by decide +kernel
theorem dX9_wed_91 : decode cX9_wed 91 = .ok (.iload 4, 2) := by decide +kernel
theorem dX9_wed_93 : decode cX9_wed 93 = .ok (.istore_n 2, 1) := by decide +kernel
theorem dX9_wed_94 : decode cX9_wed 94 = .ok (.iload 5, 2) := by decide +kernel
theorem dX9_wed_96 : decode cX9_wed 96 = .ok (.istore_n 3, 1) := by decide +kernel
theorem dX9_wed_97 : decode cX9_wed 97 = .ok (.iinc 4 1, 3) := by decide +kernel
theorem dX9_wed_100 : decode cX9_wed 100 = .ok (.goto (-63), 3) := by decide +kernel
theorem dX9_wed_103 : decode cX9_wed 103 = .ok (.iload_n 2, 1) := by decide +kernel
theorem dX9_wed_104 : decode cX9_wed 104 = .ok (.ireturn, 1) := by decide +kernel
theorem dX9_marry_0 : decode cX9_marry 0 = .ok (.aload_n 0, 1) := by decide +kernel
theorem dX9_marry_1 : decode cX9_marry 1 = .ok (.iload_n 1, 1) := by decide +kernel
theorem dX9_marry_2 : decode cX9_marry 2 = .ok (.invokevirtual 106, 3) := by decide +kernel
theorem dX9_marry_5 : decode cX9_marry 5 = .ok (.ifCond .eq 16, 3) := by decide +kernel
theorem dX9_marry_8 : decode cX9_marry 8 = .ok (.aload_n 0, 1) := by decide +kernel
theorem dX9_marry_9 : decode cX9_marry 9 = .ok (.iload_n 2, 1) := by decide +kernel
theorem dX9_marry_10 : decode cX9_marry 10 = .ok (.invokevirtual 106, 3) := by decide +kernel
theorem dX9_marry_13 : decode cX9_marry 13 = .ok (.ifCond .eq 8, 3) := by decide +kernel
theorem dX9_marry_16 : decode cX9_marry 16 = .ok (.iload_n 1, 1) := by decide +kernel
theorem dX9_marry_17 : decode cX9_marry 17 = .ok (.iload_n 2, 1) := by decide +kernel
theorem dX9_marry_18 : decode cX9_marry 18 = .ok (.if_icmp .ne 9, 3) := by decide +kernel
theorem dX9_marry_21 : decode cX9_marry 21 = .ok (.aload_n 0, 1) := by decide +kernel
theorem dX9_marry_22 : decode cX9_marry 22 = .ok (.iconst (-1), 1) := by decide +kernel
theorem dX9_marry_23 : decode cX9_marry 23 = .ok (.invokevirtual 54, 3) := by decide +kernel
theorem dX9_marry_26 : decode cX9_marry 26 = .ok (.ireturn, 1) := by decide +kernel
theorem dX9_marry_27 : decode cX9_marry 27 = .ok (.aload_n 0, 1) := by decide +kernel
theorem dX9_marry_28 : decode cX9_marry 28 = .ok (.iload_n 1, 1) := by decide +kernel
theorem dX9_marry_29 : decode cX9_marry 29 = .ok (.iload_n 2, 1) := by decide +kernel
theorem dX9_marry_30 : decode cX9_marry 30 = .ok (.invokevirtual 207, 3) := by decide +kernel
theorem dX9_marry_33 : decode cX9_marry 33 = .ok (.iconst 1, 1) := by decide +kernel
theorem dX9_marry_34 : decode cX9_marry 34 = .ok (.ireturn, 1) := by decide +kernel
theorem dX9_wedTo_0 : decode cX9_wedTo 0 = .ok (.aload_n 0, 1) := by decide +kernel
theorem dX9_wedTo_1 : decode cX9_wedTo 1 = .ok (.iload_n 1, 1) := by decide +kernel
theorem dX9_wedTo_2 : decode cX9_wedTo 2 = .ok (.invokevirtual 106, 3) := by decide +kernel
theorem dX9_wedTo_5 : decode cX9_wedTo 5 = .ok (.ifCond .eq 12, 3) := by decide +kernel
theorem dX9_wedTo_8 : decode cX9_wedTo 8 = .ok (.aload_n 0, 1) := by decide +kernel
theorem dX9_wedTo_9 : decode cX9_wedTo 9 = .ok (.iload_n 1, 1) := by decide +kernel
theorem dX9_wedTo_10 : decode cX9_wedTo 10 = .ok (.iconst 3, 1) := by decide +kernel
theorem dX9_wedTo_11 : decode cX9_wedTo 11 = .ok (.invokevirtual 109, 3) := by decide +kernel
theorem dX9_wedTo_14 : decode cX9_wedTo 14 = .ok (.goto 8, 3) := by decide +kernel
theorem dX9_wedTo_17 : decode cX9_wedTo 17 = .ok (.aload_n 0, 1) := by decide +kernel
theorem dX9_wedTo_18 : decode cX9_wedTo 18 = .ok (.iconst (-1), 1) := by decide +kernel
theorem dX9_wedTo_19 : decode cX9_wedTo 19 = .ok (.invokevirtual 54, 3) := by decide +kernel
theorem dX9_wedTo_22 : decode cX9_wedTo 22 = .ok (.ireturn, 1) := by decide +kernel
theorem dX9_heirs_0 : decode cX9_heirs 0 = .ok (.iload_n 1, 1) := by decide +kernel
theorem dX9_heirs_1 : decode cX9_heirs 1 = .ok (.invokestatic 116, 3) := by decide +kernel
theorem dX9_heirs_4 : decode cX9_heirs 4 = .ok (.ifCond .eq 14, 3) := by decide +kernel
theorem dX9_heirs_7 : decode cX9_heirs 7 = .ok (.iload_n 2, 1) := by decide +kernel
theorem dX9_heirs_8 : decode cX9_heirs 8 = .ok (.iconst 0, 1) := by decide +kernel
theorem dX9_heirs_9 : decode cX9_heirs 9 = .ok (.sipush 9999, 3) := by decide +kernel
theorem dX9_heirs_12 : decode cX9_heirs 12 = .ok (.invokestatic 125, 3) := by decide +kernel
theorem dX9_heirs_15 : decode cX9_heirs 15 = .ok (.goto 4, 3) := by decide +kernel
theorem dX9_heirs_18 : decode cX9_heirs 18 = .ok (.iconst (-1), 1) := by decide +kernel
theorem dX9_heirs_19 : decode cX9_heirs 19 = .ok (.istore_n 3, 1) := by decide +kernel
theorem dX9_heirs_20 : decode cX9_heirs 20 = .ok (.iload_n 3, 1) := by decide +kernel
theorem dX9_heirs_21 : decode cX9_heirs 21 = .ok (.ifCond .eq 9, 3) := by decide +kernel
theorem dX9_heirs_24 : decode cX9_heirs 24 = .ok (.aload_n 0, 1) := by decide +kernel
theorem dX9_heirs_25 : decode cX9_heirs 25 = .ok (.iload_n 3, 1) := by decide +kernel
theorem dX9_heirs_26 : decode cX9_heirs 26 = .ok (.invokevirtual 54, 3) := by decide +kernel
theorem dX9_heirs_29 : decode cX9_heirs 29 = .ok (.ireturn, 1) := by decide +kernel
theorem dX9_heirs_30 : decode cX9_heirs 30 = .ok (.iconst 0, 1) := by decide +kernel
theorem dX9_heirs_31 : decode cX9_heirs 31 = .ok (.istore 4, 2) := by decide +kernel
theorem dX9_heirs_33 : decode cX9_heirs 33 = .ok (.iload 4, 2) := by decide +kernel
theorem dX9_heirs_35 : decode cX9_heirs 35 = .ok (.bipush 20, 2) := by decide +kernel
theorem dX9_heirs_37 : decode cX9_heirs 37 = .ok (.if_icmp .gt 30, 3) := by decide +kernel
theorem dX9_heirs_40 : decode cX9_heirs 40 = .ok (.aload_n 0, 1) := by decide +kernel
theorem dX9_heirs_41 : decode cX9_heirs 41 = .ok (.getfield 13, 3) := by decide +kernel
theorem dX9_heirs_44 : decode cX9_heirs 44 = .ok (.bipush 9, 2) := by decide +kernel
theorem dX9_heirs_46 : decode cX9_heirs 46 = .ok (.iconst 4, 1) := by decide +kernel
theorem dX9_heirs_47 : decode cX9_heirs 47 = .ok (.iload_n 1, 1) := by decide +kernel
theorem dX9_heirs_48 : decode cX9_heirs 48 = .ok (.imul, 1) := by decide +kernel
theorem dX9_heirs_49 : decode cX9_heirs 49 = .ok (.iadd, 1) := by decide +kernel
theorem dX9_heirs_50 : decode cX9_heirs 50 = .ok (.iaload, 1) := by decide +kernel
theorem dX9_heirs_51 : decode cX9_heirs 51 = .ok (.iload 4, 2) := by decide +kernel
theorem dX9_heirs_53 : decode cX9_heirs 53 = .ok (.ishl, 1) := by decide +kernel
theorem dX9_heirs_54 : decode cX9_heirs 54 = .ok (.iload_n 2, 1) := by decide +kernel
theorem dX9_heirs_55 : decode cX9_heirs 55 = .ok (.if_icmp .le 6, 3) := by decide +kernel
theorem dX9_heirs_58 : decode cX9_heirs 58 = .ok (.iload 4, 2) := by decide +kernel
theorem dX9_heirs_60 : decode cX9_heirs 60 = .ok (.ireturn, 1) := by decide +kernel
theorem dX9_heirs_61 : decode cX9_heirs 61 = .ok (.iinc 4 1, 3) := by decide +kernel
theorem dX9_heirs_64 : decode cX9_heirs 64 = .ok (.goto (-31), 3) := by decide +kernel
theorem dX9_heirs_67 : decode cX9_heirs 67 = .ok (.bipush (-9), 2) := by decide +kernel
theorem dX9_heirs_69 : decode cX9_heirs 69 = .ok (.ireturn, 1) := by decide +kernel
theorem dX9_netsBy_0 : decode cX9_netsBy 0 = .ok (.iconst 0, 1) := by decide +kernel
theorem dX9_netsBy_1 : decode cX9_netsBy 1 = .ok (.istore_n 2, 1) := by decide +kernel
theorem dX9_netsBy_2 : decode cX9_netsBy 2 = .ok (.iconst 0, 1) := by decide +kernel
theorem dX9_netsBy_3 : decode cX9_netsBy 3 = .ok (.istore_n 3, 1) := by decide +kernel
theorem dX9_netsBy_4 : decode cX9_netsBy 4 = .ok (.iload_n 3, 1) := by decide +kernel
theorem dX9_netsBy_5 : decode cX9_netsBy 5 = .ok (.aload_n 0, 1) := by decide +kernel
theorem dX9_netsBy_6 : decode cX9_netsBy 6 = .ok (.getfield 13, 3) := by decide +kernel
theorem dX9_netsBy_9 : decode cX9_netsBy 9 = .ok (.iconst 1, 1) := by decide +kernel
theorem dX9_netsBy_10 : decode cX9_netsBy 10 = .ok (.iaload, 1) := by decide +kernel
theorem dX9_netsBy_11 : decode cX9_netsBy 11 = .ok (.if_icmp .ge 41, 3) := by decide +kernel
theorem dX9_netsBy_14 : decode cX9_netsBy 14 = .ok (.aload_n 0, 1) := by decide +kernel
theorem dX9_netsBy_15 : decode cX9_netsBy 15 = .ok (.iload_n 3, 1) := by decide +kernel
theorem dX9_netsBy_16 : decode cX9_netsBy 16 = .ok (.aload_n 0, 1) := by decide +kernel
theorem dX9_netsBy_17 : decode cX9_netsBy 17 = .ok (.iload_n 3, 1) := by decide +kernel
theorem dX9_netsBy_18 : decode cX9_netsBy 18 = .ok (.iconst 4, 1) := by decide +kernel
theorem dX9_netsBy_19 : decode cX9_netsBy 19 = .ok (.invokevirtual 122, 3) := by decide +kernel
theorem dX9_netsBy_22 : decode cX9_netsBy 22 = .ok (.iload_n 1, 1) := by decide +kernel
theorem dX9_netsBy_23 : decode cX9_netsBy 23 = .ok (.imul, 1) := by decide +kernel
theorem dX9_netsBy_24 : decode cX9_netsBy 24 = .ok (.bipush 100, 2) := by decide +kernel
theorem dX9_netsBy_26 : decode cX9_netsBy 26 = .ok (.idiv, 1) := by decide +kernel
theorem dX9_netsBy_27 : decode cX9_netsBy 27 = .ok (.invokevirtual 162, 3) := by decide +kernel
theorem dX9_netsBy_30 : decode cX9_netsBy 30 = .ok (.istore 4, 2) := by decide +kernel
theorem dX9_netsBy_32 : decode cX9_netsBy 32 = .ok (.iload_n 2, 1) := by decide +kernel
theorem dX9_netsBy_33 : decode cX9_netsBy 33 = .ok (.iload 4, 2) := by decide +kernel
theorem dX9_netsBy_35 : decode cX9_netsBy 35 = .ok (.ifCond .ge 7, 3) := by decide +kernel
theorem dX9_netsBy_38 : decode cX9_netsBy 38 = .ok (.iconst 0, 1) := by decide +kernel
theorem dX9_netsBy_39 : decode cX9_netsBy 39 = .ok (.goto 5, 3) := by decide +kernel
theorem dX9_netsBy_42 : decode cX9_netsBy 42 = .ok (.iload 4, 2) := by decide +kernel
theorem dX9_netsBy_44 : decode cX9_netsBy 44 = .ok (.iadd, 1) := by decide +kernel
theorem dX9_netsBy_45 : decode cX9_netsBy 45 = .ok (.istore_n 2, 1) := by decide +kernel
theorem dX9_netsBy_46 : decode cX9_netsBy 46 = .ok (.iinc 3 1, 3) := by decide +kernel
theorem dX9_netsBy_49 : decode cX9_netsBy 49 = .ok (.goto (-45), 3) := by decide +kernel
theorem dX9_netsBy_52 : decode cX9_netsBy 52 = .ok (.iload_n 2, 1) := by decide +kernel
theorem dX9_netsBy_53 : decode cX9_netsBy 53 = .ok (.ireturn, 1) := by decide +kernel
theorem dX9_give_0 : decode cX9_give 0 = .ok (.aload_n 0, 1) := by decide +kernel
theorem dX9_give_1 : decode cX9_give 1 = .ok (.getfield 13, 3) := by decide +kernel
theorem dX9_give_4 : decode cX9_give 4 = .ok (.aload_n 0, 1) := by decide +kernel
theorem dX9_give_5 : decode cX9_give 5 = .ok (.getfield 22, 3) := by decide +kernel
theorem dX9_give_8 : decode cX9_give 8 = .ok (.invokestatic 96, 3) := by decide +kernel
theorem dX9_give_11 : decode cX9_give 11 = .ok (.bipush (-9), 2) := by decide +kernel
theorem dX9_give_13 : decode cX9_give 13 = .ok (.istore_n 1, 1) := by decide +kernel
theorem dX9_give_14 : decode cX9_give 14 = .ok (.iconst 0, 1) := by decide +kernel
theorem dX9_give_15 : decode cX9_give 15 = .ok (.istore_n 2, 1) := by decide +kernel
theorem dX9_give_16 : decode cX9_give 16 = .ok (.iconst 0, 1) := by decide +kernel
theorem dX9_give_17 : decode cX9_give 17 = .ok (.istore_n 3, 1) := by decide +kernel
theorem dX9_give_18 : decode cX9_give 18 = .ok (.iload_n 3, 1) := by decide +kernel
theorem dX9_give_19 : decode cX9_give 19 = .ok (.aload_n 0, 1) := by decide +kernel
theorem dX9_give_20 : decode cX9_give 20 = .ok (.getfield 13, 3) := by decide +kernel
theorem dX9_give_23 : decode cX9_give 23 = .ok (.iconst 0, 1) := by decide +kernel
theorem dX9_give_24 : decode cX9_give 24 = .ok (.iaload, 1) := by decide +kernel
theorem dX9_give_25 : decode cX9_give 25 = .ok (.if_icmp .ge 87, 3) := by decide +kernel
theorem dX9_give_28 : decode cX9_give 28 = .ok (.iconst 0, 1) := by decide +kernel
theorem dX9_give_29 : decode cX9_give 29 = .ok (.istore 4, 2) := by decide +kernel
theorem dX9_give_31 : decode cX9_give 31 = .ok (.iload 4, 2) := by decide +kernel
theorem dX9_give_33 : decode cX9_give 33 = .ok (.bipush 28, 2) := by decide +kernel
theorem dX9_give_35 : decode cX9_give 35 = .ok (.if_icmp .ge 34, 3) := by decide +kernel
theorem dX9_give_38 : decode cX9_give 38 = .ok (.aload_n 0, 1) := by decide +kernel
theorem dX9_give_39 : decode cX9_give 39 = .ok (.getfield 13, 3) := by decide +kernel
theorem dX9_give_42 : decode cX9_give 42 = .ok (.bipush 9, 2) := by decide +kernel
theorem dX9_give_44 : decode cX9_give 44 = .ok (.iconst 4, 1) := by decide +kernel
theorem dX9_give_45 : decode cX9_give 45 = .ok (.iload 4, 2) := by decide +kernel
theorem dX9_give_47 : decode cX9_give 47 = .ok (.imul, 1) := by decide +kernel
theorem dX9_give_48 : decode cX9_give 48 = .ok (.iadd, 1) := by decide +kernel
theorem dX9_give_49 : decode cX9_give 49 = .ok (.iaload, 1) := by decide +kernel
theorem dX9_give_50 : decode cX9_give 50 = .ok (.ifCond .ne 13, 3) := by decide +kernel
theorem dX9_give_53 : decode cX9_give 53 = .ok (.aload_n 0, 1) := by decide +kernel
theorem dX9_give_54 : decode cX9_give 54 = .ok (.getfield 13, 3) := by decide +kernel
theorem dX9_give_57 : decode cX9_give 57 = .ok (.iload 4, 2) := by decide +kernel
theorem dX9_give_59 : decode cX9_give 59 = .ok (.iload_n 3, 1) := by decide +kernel
theorem dX9_give_60 : decode cX9_give 60 = .ok (.invokestatic 84, 3) := by decide +kernel
theorem dX9_give_63 : decode cX9_give 63 = .ok (.iinc 4 1, 3) := by decide +kernel
theorem dX9_give_66 : decode cX9_give 66 = .ok (.goto (-35), 3) := by decide +kernel
theorem dX9_give_69 : decode cX9_give 69 = .ok (.aload_n 0, 1) := by decide +kernel
theorem dX9_give_70 : decode cX9_give 70 = .ok (.bipush 100, 2) := by decide +kernel
theorem dX9_give_72 : decode cX9_give 72 = .ok (.invokevirtual 210, 3) := by decide +kernel
theorem dX9_give_75 : decode cX9_give 75 = .ok (.istore 4, 2) := by decide +kernel
theorem dX9_give_77 : decode cX9_give 77 = .ok (.aload_n 0, 1) := by decide +kernel
theorem dX9_give_78 : decode cX9_give 78 = .ok (.getfield 22, 3) := by decide +kernel
theorem dX9_give_81 : decode cX9_give 81 = .ok (.aload_n 0, 1) := by decide +kernel
theorem dX9_give_82 : decode cX9_give 82 = .ok (.getfield 13, 3) := by decide +kernel
theorem dX9_give_85 : decode cX9_give 85 = .ok (.invokestatic 96, 3) := by decide +kernel
theorem dX9_give_88 : decode cX9_give 88 = .ok (.iload_n 1, 1) := by decide +kernel
theorem dX9_give_89 : decode cX9_give 89 = .ok (.ifCond .lt 12, 3) := by decide +kernel
theorem dX9_give_92 : decode cX9_give 92 = .ok (.iload 4, 2) := by decide +kernel
theorem dX9_give_94 : decode cX9_give 94 = .ok (.iload_n 2, 1) := by decide +kernel
theorem dX9_give_95 : decode cX9_give 95 = .ok (.if_icmp .gt 6, 3) := by decide +kernel
theorem dX9_give_98 : decode cX9_give 98 = .ok (.goto 8, 3) := by decide +kernel
theorem dX9_give_101 : decode cX9_give 101 = .ok (.iload_n 3, 1) := by decide +kernel
theorem dX9_give_102 : decode cX9_give 102 = .ok (.istore_n 1, 1) := by decide +kernel
theorem dX9_give_103 : decode cX9_give 103 = .ok (.iload 4, 2) := by decide +kernel
theorem dX9_give_105 : decode cX9_give 105 = .ok (.istore_n 2, 1) := by decide +kernel
theorem dX9_give_106 : decode cX9_give 106 = .ok (.iinc 3 1, 3) := by decide +kernel
theorem dX9_give_109 : decode cX9_give 109 = .ok (.goto (-91), 3) := by decide +kernel
theorem dX9_give_112 : decode cX9_give 112 = .ok (.iload_n 1, 1) := by decide +kernel
theorem dX9_give_113 : decode cX9_give 113 = .ok (.ireturn, 1) := by decide +kernel
theorem dX9_together_0 : decode cX9_together 0 = .ok (.aload_n 0, 1) := by decide +kernel
theorem dX9_together_1 : decode cX9_together 1 = .ok (.iload_n 1, 1) := by decide +kernel
theorem dX9_together_2 : decode cX9_together 2 = .ok (.invokevirtual 106, 3) := by decide +kernel
theorem dX9_together_5 : decode cX9_together 5 = .ok (.ifCond .eq 16, 3) := by decide +kernel
theorem dX9_together_8 : decode cX9_together 8 = .ok (.aload_n 0, 1) := by decide +kernel
theorem dX9_together_9 : decode cX9_together 9 = .ok (.iload_n 2, 1) := by decide +kernel
theorem dX9_together_10 : decode cX9_together 10 = .ok (.invokevirtual 106, 3) := by decide +kernel
theorem dX9_together_13 : decode cX9_together 13 = .ok (.ifCond .eq 8, 3) := by decide +kernel
theorem dX9_together_16 : decode cX9_together 16 = .ok (.iload_n 1, 1) := by decide +kernel
theorem dX9_together_17 : decode cX9_together 17 = .ok (.iload_n 2, 1) := by decide +kernel
theorem dX9_together_18 : decode cX9_together 18 = .ok (.if_icmp .ne 9, 3) := by decide +kernel
theorem dX9_together_21 : decode cX9_together 21 = .ok (.aload_n 0, 1) := by decide +kernel
theorem dX9_together_22 : decode cX9_together 22 = .ok (.iconst (-1), 1) := by decide +kernel
theorem dX9_together_23 : decode cX9_together 23 = .ok (.invokevirtual 54, 3) := by decide +kernel
theorem dX9_together_26 : decode cX9_together 26 = .ok (.ireturn, 1) := by decide +kernel
theorem dX9_together_27 : decode cX9_together 27 = .ok (.iconst 0, 1) := by decide +kernel
theorem dX9_together_28 : decode cX9_together 28 = .ok (.istore_n 3, 1) := by decide +kernel
theorem dX9_together_29 : decode cX9_together 29 = .ok (.iconst 0, 1) := by decide +kernel
theorem dX9_together_30 : decode cX9_together 30 = .ok (.istore 4, 2) := by decide +kernel
theorem dX9_together_32 : decode cX9_together 32 = .ok (.iload 4, 2) := by decide +kernel
theorem dX9_together_34 : decode cX9_together 34 = .ok (.bipush 28, 2) := by decide +kernel
theorem dX9_together_36 : decode cX9_together 36 = .ok (.if_icmp .ge 43, 3) := by decide +kernel
theorem dX9_together_39 : decode cX9_together 39 = .ok (.iload_n 3, 1) := by decide +kernel
theorem dX9_together_40 : decode cX9_together 40 = .ok (.aload_n 0, 1) := by decide +kernel
theorem dX9_together_41 : decode cX9_together 41 = .ok (.getfield 13, 3) := by decide +kernel
theorem dX9_together_44 : decode cX9_together 44 = .ok (.iload 4, 2) := by decide +kernel
theorem dX9_together_46 : decode cX9_together 46 = .ok (.iload_n 1, 1) := by decide +kernel
theorem dX9_together_47 : decode cX9_together 47 = .ok (.invokestatic 80, 3) := by decide +kernel
theorem dX9_together_50 : decode cX9_together 50 = .ok (.ifCond .eq 20, 3) := by decide +kernel
theorem dX9_together_53 : decode cX9_together 53 = .ok (.aload_n 0, 1) := by decide +kernel
theorem dX9_together_54 : decode cX9_together 54 = .ok (.getfield 13, 3) := by decide +kernel
theorem dX9_together_57 : decode cX9_together 57 = .ok (.iload 4, 2) := by decide +kernel
theorem dX9_together_59 : decode cX9_together 59 = .ok (.iload_n 2, 1) := by decide +kernel
theorem dX9_together_60 : decode cX9_together 60 = .ok (.invokestatic 80, 3) := by decide +kernel
theorem dX9_together_63 : decode cX9_together 63 = .ok (.ifCond .eq 7, 3) := by decide +kernel
theorem dX9_together_66 : decode cX9_together 66 = .ok (.iconst 1, 1) := by decide +kernel
theorem dX9_together_67 : decode cX9_together 67 = .ok (.goto 4, 3) := by decide +kernel
theorem dX9_together_70 : decode cX9_together 70 = .ok (.iconst 0, 1) := by decide +kernel
theorem dX9_together_71 : decode cX9_together 71 = .ok (.iadd, 1) := by decide +kernel
theorem dX9_together_72 : decode cX9_together 72 = .ok (.istore_n 3, 1) := by decide +kernel
theorem dX9_together_73 : decode cX9_together 73 = .ok (.iinc 4 1, 3) := by decide +kernel
theorem dX9_together_76 : decode cX9_together 76 = .ok (.goto (-44), 3) := by decide +kernel
theorem dX9_together_79 : decode cX9_together 79 = .ok (.iload_n 3, 1) := by decide +kernel
theorem dX9_together_80 : decode cX9_together 80 = .ok (.ireturn, 1) := by decide +kernel
theorem dX9_season_0 : decode cX9_season 0 = .ok (.iload_n 1, 1) := by decide +kernel
theorem dX9_season_1 : decode cX9_season 1 = .ok (.iconst 4, 1) := by decide +kernel
theorem dX9_season_2 : decode cX9_season 2 = .ok (.invokestatic 50, 3) := by decide +kernel
theorem dX9_season_5 : decode cX9_season 5 = .ok (.ifCond .eq 14, 3) := by decide +kernel
theorem dX9_season_8 : decode cX9_season 8 = .ok (.iload_n 2, 1) := by decide +kernel
theorem dX9_season_9 : decode cX9_season 9 = .ok (.iconst 0, 1) := by decide +kernel
theorem dX9_season_10 : decode cX9_season 10 = .ok (.sipush 300, 3) := by decide +kernel
theorem dX9_season_13 : decode cX9_season 13 = .ok (.invokestatic 125, 3) := by decide +kernel
theorem dX9_season_16 : decode cX9_season 16 = .ok (.goto 4, 3) := by decide +kernel
theorem dX9_season_19 : decode cX9_season 19 = .ok (.iconst (-1), 1) := by decide +kernel
theorem dX9_season_20 : decode cX9_season 20 = .ok (.istore_n 3, 1) := by decide +kernel
theorem dX9_season_21 : decode cX9_season 21 = .ok (.iload_n 3, 1) := by decide +kernel
theorem dX9_season_22 : decode cX9_season 22 = .ok (.ifCond .eq 11, 3) := by decide +kernel
theorem dX9_season_25 : decode cX9_season 25 = .ok (.aload_n 0, 1) := by decide +kernel
theorem dX9_season_26 : decode cX9_season 26 = .ok (.iload_n 3, 1) := by decide +kernel
theorem dX9_season_27 : decode cX9_season 27 = .ok (.invokevirtual 54, 3) := by decide +kernel
theorem dX9_season_30 : decode cX9_season 30 = .ok (.goto 11, 3) := by decide +kernel
theorem dX9_season_33 : decode cX9_season 33 = .ok (.aload_n 0, 1) := by decide +kernel
theorem dX9_season_34 : decode cX9_season 34 = .ok (.iconst 5, 1) := by decide +kernel
theorem dX9_season_35 : decode cX9_season 35 = .ok (.iload_n 1, 1) := by decide +kernel
theorem dX9_season_36 : decode cX9_season 36 = .ok (.iadd, 1) := by decide +kernel
theorem dX9_season_37 : decode cX9_season 37 = .ok (.iload_n 2, 1) := by decide +kernel
theorem dX9_season_38 : decode cX9_season 38 = .ok (.invokevirtual 129, 3) := by decide +kernel
theorem dX9_season_41 : decode cX9_season 41 = .ok (.ireturn, 1) := by decide +kernel
theorem dX9_year_0 : decode cX9_year 0 = .ok (.iconst 0, 1) := by decide +kernel
theorem dX9_year_1 : decode cX9_year 1 = .ok (.istore_n 1, 1) := by decide +kernel
theorem dX9_year_2 : decode cX9_year 2 = .ok (.iconst 0, 1) := by decide +kernel
theorem dX9_year_3 : decode cX9_year 3 = .ok (.istore_n 2, 1) := by decide +kernel
theorem dX9_year_4 : decode cX9_year 4 = .ok (.iload_n 2, 1) := by decide +kernel
theorem dX9_year_5 : decode cX9_year 5 = .ok (.iconst 4, 1) := by decide +kernel
theorem dX9_year_6 : decode cX9_year 6 = .ok (.if_icmp .ge 24, 3) := by decide +kernel
theorem dX9_year_9 : decode cX9_year 9 = .ok (.iload_n 1, 1) := by decide +kernel
theorem dX9_year_10 : decode cX9_year 10 = .ok (.aload_n 0, 1) := by decide +kernel
theorem dX9_year_11 : decode cX9_year 11 = .ok (.aload_n 0, 1) := by decide +kernel
theorem dX9_year_12 : decode cX9_year 12 = .ok (.getfield 13, 3) := by decide +kernel
theorem dX9_year_15 : decode cX9_year 15 = .ok (.iconst 5, 1) := by decide +kernel
theorem dX9_year_16 : decode cX9_year 16 = .ok (.iload_n 2, 1) := by decide +kernel
theorem dX9_year_17 : decode cX9_year 17 = .ok (.iadd, 1) := by decide +kernel
theorem dX9_year_18 : decode cX9_year 18 = .ok (.iaload, 1) := by decide +kernel
theorem dX9_year_19 : decode cX9_year 19 = .ok (.invokevirtual 210, 3) := by decide +kernel
theorem dX9_year_22 : decode cX9_year 22 = .ok (.iadd, 1) := by decide +kernel
theorem dX9_year_23 : decode cX9_year 23 = .ok (.istore_n 1, 1) := by decide +kernel
theorem dX9_year_24 : decode cX9_year 24 = .ok (.iinc 2 1, 3) := by decide +kernel
theorem dX9_year_27 : decode cX9_year 27 = .ok (.goto (-23), 3) := by decide +kernel
theorem dX9_year_30 : decode cX9_year 30 = .ok (.iload_n 1, 1) := by decide +kernel
theorem dX9_year_31 : decode cX9_year 31 = .ok (.ireturn, 1) := by decide +kernel
theorem dX9_years_0 : decode cX9_years 0 = .ok (.iload_n 1, 1) := by decide +kernel
theorem dX9_years_1 : decode cX9_years 1 = .ok (.iconst 1, 1) := by decide +kernel
theorem dX9_years_2 : decode cX9_years 2 = .ok (.bipush 10, 2) := by decide +kernel
theorem dX9_years_4 : decode cX9_years 4 = .ok (.invokestatic 125, 3) := by decide +kernel
theorem dX9_years_7 : decode cX9_years 7 = .ok (.istore_n 3, 1) := by decide +kernel
theorem dX9_years_8 : decode cX9_years 8 = .ok (.iload_n 3, 1) := by decide +kernel
theorem dX9_years_9 : decode cX9_years 9 = .ok (.ifCond .eq 9, 3) := by decide +kernel
theorem dX9_years_12 : decode cX9_years 12 = .ok (.aload_n 0, 1) := by decide +kernel
theorem dX9_years_13 : decode cX9_years 13 = .ok (.iload_n 3, 1) := by decide +kernel
theorem dX9_years_14 : decode cX9_years 14 = .ok (.invokevirtual 54, 3) := by decide +kernel
theorem dX9_years_17 : decode cX9_years 17 = .ok (.ireturn, 1) := by decide +kernel
theorem dX9_years_18 : decode cX9_years 18 = .ok (.iload_n 2, 1) := by decide +kernel
theorem dX9_years_19 : decode cX9_years 19 = .ok (.istore 4, 2) := by decide +kernel
theorem dX9_years_21 : decode cX9_years 21 = .ok (.iconst 0, 1) := by decide +kernel
theorem dX9_years_22 : decode cX9_years 22 = .ok (.istore 5, 2) := by decide +kernel
theorem dX9_years_24 : decode cX9_years 24 = .ok (.iconst 0, 1) := by decide +kernel
theorem dX9_years_25 : decode cX9_years 25 = .ok (.istore 6, 2) := by decide +kernel
theorem dX9_years_27 : decode cX9_years 27 = .ok (.iload 6, 2) := by decide +kernel
theorem dX9_years_29 : decode cX9_years 29 = .ok (.iload_n 1, 1) := by decide +kernel
theorem dX9_years_30 : decode cX9_years 30 = .ok (.if_icmp .ge 84, 3) := by decide +kernel
theorem dX9_years_33 : decode cX9_years 33 = .ok (.iconst 0, 1) := by decide +kernel
theorem dX9_years_34 : decode cX9_years 34 = .ok (.istore 7, 2) := by decide +kernel
theorem dX9_years_36 : decode cX9_years 36 = .ok (.iload 7, 2) := by decide +kernel
theorem dX9_years_38 : decode cX9_years 38 = .ok (.aload_n 0, 1) := by decide +kernel
theorem dX9_years_39 : decode cX9_years 39 = .ok (.getfield 13, 3) := by decide +kernel
theorem dX9_years_42 : decode cX9_years 42 = .ok (.iconst 1, 1) := by decide +kernel
theorem dX9_years_43 : decode cX9_years 43 = .ok (.iaload, 1) := by decide +kernel
theorem dX9_years_44 : decode cX9_years 44 = .ok (.if_icmp .ge 64, 3) := by decide +kernel
theorem dX9_years_47 : decode cX9_years 47 = .ok (.iload 4, 2) := by decide +kernel
theorem dX9_years_49 : decode cX9_years 49 = .ok (.ldc 213, 2) := by decide +kernel
theorem dX9_years_51 : decode cX9_years 51 = .ok (.imul, 1) := by decide +kernel
theorem dX9_years_52 : decode cX9_years 52 = .ok (.ldc 214, 2) := by decide +kernel
theorem dX9_years_54 : decode cX9_years 54 = .ok (.iadd, 1) := by decide +kernel
theorem dX9_years_55 : decode cX9_years 55 = .ok (.istore 4, 2) := by decide +kernel
theorem dX9_years_57 : decode cX9_years 57 = .ok (.aload_n 0, 1) := by decide +kernel
theorem dX9_years_58 : decode cX9_years 58 = .ok (.iload 7, 2) := by decide +kernel
theorem dX9_years_60 : decode cX9_years 60 = .ok (.iload 4, 2) := by decide +kernel
theorem dX9_years_62 : decode cX9_years 62 = .ok (.ldc 215, 2) := by decide +kernel
theorem dX9_years_64 : decode cX9_years 64 = .ok (.iand, 1) := by decide +kernel
theorem dX9_years_65 : decode cX9_years 65 = .ok (.sipush 256, 3) := by decide +kernel
theorem dX9_years_68 : decode cX9_years 68 = .ok (.idiv, 1) := by decide +kernel
theorem dX9_years_69 : decode cX9_years 69 = .ok (.iconst 2, 1) := by decide +kernel
theorem dX9_years_70 : decode cX9_years 70 = .ok (.aload_n 0, 1) := by decide +kernel
theorem dX9_years_71 : decode cX9_years 71 = .ok (.iload 7, 2) := by decide +kernel
theorem dX9_years_73 : decode cX9_years 73 = .ok (.iconst 4, 1) := by decide +kernel
theorem dX9_years_74 : decode cX9_years 74 = .ok (.invokevirtual 122, 3) := by decide +kernel
theorem dX9_years_77 : decode cX9_years 77 = .ok (.imul, 1) := by decide +kernel
theorem dX9_years_78 : decode cX9_years 78 = .ok (.iconst 1, 1) := by decide +kernel
theorem dX9_years_79 : decode cX9_years 79 = .ok (.iadd, 1) := by decide +kernel
theorem dX9_years_80 : decode cX9_years 80 = .ok (.irem, 1) := by decide +kernel
theorem dX9_years_81 : decode cX9_years 81 = .ok (.invokevirtual 162, 3) := by decide +kernel
theorem dX9_years_84 : decode cX9_years 84 = .ok (.istore 8, 2) := by decide +kernel
theorem dX9_years_86 : decode cX9_years 86 = .ok (.iload 5, 2) := by decide +kernel
theorem dX9_years_88 : decode cX9_years 88 = .ok (.iload 8, 2) := by decide +kernel
theorem dX9_years_90 : decode cX9_years 90 = .ok (.ifCond .ge 7, 3) := by decide +kernel
theorem dX9_years_93 : decode cX9_years 93 = .ok (.iconst 0, 1) := by decide +kernel
theorem dX9_years_94 : decode cX9_years 94 = .ok (.goto 5, 3) := by decide +kernel
theorem dX9_years_97 : decode cX9_years 97 = .ok (.iload 8, 2) := by decide +kernel
theorem dX9_years_99 : decode cX9_years 99 = .ok (.iadd, 1) := by decide +kernel
theorem dX9_years_100 : decode cX9_years 100 = .ok (.istore 5, 2) := by decide +kernel
theorem dX9_years_102 : decode cX9_years 102 = .ok (.iinc 7 1, 3) := by decide +kernel
theorem dX9_years_105 : decode cX9_years 105 = .ok (.goto (-69), 3) := by decide +kernel
theorem dX9_years_108 : decode cX9_years 108 = .ok (.iinc 6 1, 3) := by decide +kernel
theorem dX9_years_111 : decode cX9_years 111 = .ok (.goto (-84), 3) := by decide +kernel
theorem dX9_years_114 : decode cX9_years 114 = .ok (.iload 5, 2) := by decide +kernel
theorem dX9_years_116 : decode cX9_years 116 = .ok (.ireturn, 1) := by decide +kernel
theorem dX9_row_0 : decode cX9_row 0 = .ok (.iload_n 1, 1) := by decide +kernel
theorem dX9_row_1 : decode cX9_row 1 = .ok (.iconst 0, 1) := by decide +kernel
theorem dX9_row_2 : decode cX9_row 2 = .ok (.bipush 9, 2) := by decide +kernel
theorem dX9_row_4 : decode cX9_row 4 = .ok (.invokestatic 125, 3) := by decide +kernel
theorem dX9_row_7 : decode cX9_row 7 = .ok (.istore_n 2, 1) := by decide +kernel
theorem dX9_row_8 : decode cX9_row 8 = .ok (.iload_n 2, 1) := by decide +kernel
theorem dX9_row_9 : decode cX9_row 9 = .ok (.ifCond .ne 15, 3) := by decide +kernel
theorem dX9_row_12 : decode cX9_row 12 = .ok (.aload_n 0, 1) := by decide +kernel
theorem dX9_row_13 : decode cX9_row 13 = .ok (.getfield 216, 3) := by decide +kernel
theorem dX9_row_16 : decode cX9_row 16 = .ok (.bipush 28, 2) := by decide +kernel
theorem dX9_row_18 : decode cX9_row 18 = .ok (.if_icmp .ne 6, 3) := by decide +kernel
theorem dX9_row_21 : decode cX9_row 21 = .ok (.bipush (-6), 2) := by decide +kernel
theorem dX9_row_23 : decode cX9_row 23 = .ok (.istore_n 2, 1) := by decide +kernel
theorem dX9_row_24 : decode cX9_row 24 = .ok (.iload_n 2, 1) := by decide +kernel
theorem dX9_row_25 : decode cX9_row 25 = .ok (.ifCond .eq 9, 3) := by decide +kernel
theorem dX9_row_28 : decode cX9_row 28 = .ok (.aload_n 0, 1) := by decide +kernel
theorem dX9_row_29 : decode cX9_row 29 = .ok (.iload_n 2, 1) := by decide +kernel
theorem dX9_row_30 : decode cX9_row 30 = .ok (.invokevirtual 54, 3) := by decide +kernel
theorem dX9_row_33 : decode cX9_row 33 = .ok (.ireturn, 1) := by decide +kernel
theorem dX9_row_34 : decode cX9_row 34 = .ok (.aload_n 0, 1) := by decide +kernel
theorem dX9_row_35 : decode cX9_row 35 = .ok (.getfield 47, 3) := by decide +kernel
theorem dX9_row_38 : decode cX9_row 38 = .ok (.aload_n 0, 1) := by decide +kernel
theorem dX9_row_39 : decode cX9_row 39 = .ok (.getfield 216, 3) := by decide +kernel
theorem dX9_row_42 : decode cX9_row 42 = .ok (.iload_n 1, 1) := by decide +kernel
theorem dX9_row_43 : decode cX9_row 43 = .ok (.iastore, 1) := by decide +kernel
theorem dX9_row_44 : decode cX9_row 44 = .ok (.aload_n 0, 1) := by decide +kernel
theorem dX9_row_45 : decode cX9_row 45 = .ok (.dup, 1) := by decide +kernel
theorem dX9_row_46 : decode cX9_row 46 = .ok (.getfield 216, 3) := by decide +kernel
theorem dX9_row_49 : decode cX9_row 49 = .ok (.iconst 1, 1) := by decide +kernel
theorem dX9_row_50 : decode cX9_row 50 = .ok (.iadd, 1) := by decide +kernel
theorem dX9_row_51 : decode cX9_row 51 = .ok (.putfield 216, 3) := by decide +kernel
theorem dX9_row_54 : decode cX9_row 54 = .ok (.aload_n 0, 1) := by decide +kernel
theorem dX9_row_55 : decode cX9_row 55 = .ok (.getfield 216, 3) := by decide +kernel
theorem dX9_row_58 : decode cX9_row 58 = .ok (.ireturn, 1) := by decide +kernel
theorem dX9_firstWrong_0 : decode cX9_firstWrong 0 = .ok (.iconst 0, 1) := by decide +kernel
theorem dX9_firstWrong_1 : decode cX9_firstWrong 1 = .ok (.istore_n 2, 1) := by decide +kernel
theorem dX9_firstWrong_2 : decode cX9_firstWrong 2 = .ok (.iload_n 2, 1) := by decide +kernel
theorem dX9_firstWrong_3 : decode cX9_firstWrong 3 = .ok (.iload_n 1, 1) := by decide +kernel
theorem dX9_firstWrong_4 : decode cX9_firstWrong 4 = .ok (.if_icmp .ge 56, 3) := by decide +kernel
theorem dX9_firstWrong_7 : decode cX9_firstWrong 7 = .ok (.aload_n 0, 1) := by decide +kernel
theorem dX9_firstWrong_8 : decode cX9_firstWrong 8 = .ok (.getfield 47, 3) := by decide +kernel
theorem dX9_firstWrong_11 : decode cX9_firstWrong 11 = .ok (.iload_n 2, 1) := by decide +kernel
theorem dX9_firstWrong_12 : decode cX9_firstWrong 12 = .ok (.iaload, 1) := by decide +kernel
theorem dX9_firstWrong_13 : decode cX9_firstWrong 13 = .ok (.istore_n 3, 1) := by decide +kernel
theorem dX9_firstWrong_14 : decode cX9_firstWrong 14 = .ok (.iload_n 3, 1) := by decide +kernel
theorem dX9_firstWrong_15 : decode cX9_firstWrong 15 = .ok (.bipush 9, 2) := by decide +kernel
theorem dX9_firstWrong_17 : decode cX9_firstWrong 17 = .ok (.if_icmp .ne 6, 3) := by decide +kernel
theorem dX9_firstWrong_20 : decode cX9_firstWrong 20 = .ok (.goto 34, 3) := by decide +kernel
theorem dX9_firstWrong_23 : decode cX9_firstWrong 23 = .ok (.aload_n 0, 1) := by decide +kernel
theorem dX9_firstWrong_24 : decode cX9_firstWrong 24 = .ok (.iload_n 3, 1) := by decide +kernel
theorem dX9_firstWrong_25 : decode cX9_firstWrong 25 = .ok (.invokevirtual 119, 3) := by decide +kernel
theorem dX9_firstWrong_28 : decode cX9_firstWrong 28 = .ok (.ifCond .eq 24, 3) := by decide +kernel
theorem dX9_firstWrong_31 : decode cX9_firstWrong 31 = .ok (.iload_n 2, 1) := by decide +kernel
theorem dX9_firstWrong_32 : decode cX9_firstWrong 32 = .ok (.aload_n 0, 1) := by decide +kernel
theorem dX9_firstWrong_33 : decode cX9_firstWrong 33 = .ok (.iload_n 3, 1) := by decide +kernel
theorem dX9_firstWrong_34 : decode cX9_firstWrong 34 = .ok (.iconst 3, 1) := by decide +kernel
theorem dX9_firstWrong_35 : decode cX9_firstWrong 35 = .ok (.invokevirtual 122, 3) := by decide +kernel
theorem dX9_firstWrong_38 : decode cX9_firstWrong 38 = .ok (.if_icmp .gt 14, 3) := by decide +kernel
theorem dX9_firstWrong_41 : decode cX9_firstWrong 41 = .ok (.aload_n 0, 1) := by decide +kernel
theorem dX9_firstWrong_42 : decode cX9_firstWrong 42 = .ok (.iload_n 3, 1) := by decide +kernel
theorem dX9_firstWrong_43 : decode cX9_firstWrong 43 = .ok (.iload_n 2, 1) := by decide +kernel
theorem dX9_firstWrong_44 : decode cX9_firstWrong 44 = .ok (.invokevirtual 139, 3) := by decide +kernel
theorem dX9_firstWrong_47 : decode cX9_firstWrong 47 = .ok (.ldc 138, 2) := by decide +kernel
theorem dX9_firstWrong_49 : decode cX9_firstWrong 49 = .ok (.if_icmp .lt 5, 3) := by decide +kernel
theorem dX9_firstWrong_52 : decode cX9_firstWrong 52 = .ok (.iload_n 2, 1) := by decide +kernel
theorem dX9_firstWrong_53 : decode cX9_firstWrong 53 = .ok (.ireturn, 1) := by decide +kernel
theorem dX9_firstWrong_54 : decode cX9_firstWrong 54 = .ok (.iinc 2 1, 3) := by decide +kernel
theorem dX9_firstWrong_57 : decode cX9_firstWrong 57 = .ok (.goto (-55), 3) := by decide +kernel
theorem dX9_firstWrong_60 : decode cX9_firstWrong 60 = .ok (.bipush (-9), 2) := by decide +kernel
theorem dX9_firstWrong_62 : decode cX9_firstWrong 62 = .ok (.ireturn, 1) := by decide +kernel
theorem dX9_isDone_0 : decode cX9_isDone 0 = .ok (.iconst 0, 1) := by decide +kernel
theorem dX9_isDone_1 : decode cX9_isDone 1 = .ok (.istore_n 3, 1) := by decide +kernel
theorem dX9_isDone_2 : decode cX9_isDone 2 = .ok (.iconst 0, 1) := by decide +kernel
theorem dX9_isDone_3 : decode cX9_isDone 3 = .ok (.istore 4, 2) := by decide +kernel
theorem dX9_isDone_5 : decode cX9_isDone 5 = .ok (.bipush (-9), 2) := by decide +kernel
theorem dX9_isDone_7 : decode cX9_isDone 7 = .ok (.istore 5, 2) := by decide +kernel
theorem dX9_isDone_9 : decode cX9_isDone 9 = .ok (.iconst 0, 1) := by decide +kernel
theorem dX9_isDone_10 : decode cX9_isDone 10 = .ok (.istore 6, 2) := by decide +kernel
theorem dX9_isDone_12 : decode cX9_isDone 12 = .ok (.iload 6, 2) := by decide +kernel
theorem dX9_isDone_14 : decode cX9_isDone 14 = .ok (.iload_n 2, 1) := by decide +kernel
theorem dX9_isDone_15 : decode cX9_isDone 15 = .ok (.if_icmp .ge 82, 3) := by decide +kernel
theorem dX9_isDone_18 : decode cX9_isDone 18 = .ok (.aload_n 0, 1) := by decide +kernel
theorem dX9_isDone_19 : decode cX9_isDone 19 = .ok (.getfield 47, 3) := by decide +kernel
theorem dX9_isDone_22 : decode cX9_isDone 22 = .ok (.iload 6, 2) := by decide +kernel
theorem dX9_isDone_24 : decode cX9_isDone 24 = .ok (.iaload, 1) := by decide +kernel
theorem dX9_isDone_25 : decode cX9_isDone 25 = .ok (.iload_n 1, 1) := by decide +kernel
theorem dX9_isDone_26 : decode cX9_isDone 26 = .ok (.if_icmp .eq 6, 3) := by decide +kernel
theorem dX9_isDone_29 : decode cX9_isDone 29 = .ok (.goto 62, 3) := by decide +kernel
theorem dX9_isDone_32 : decode cX9_isDone 32 = .ok (.aload_n 0, 1) := by decide +kernel
theorem dX9_isDone_33 : decode cX9_isDone 33 = .ok (.iload_n 1, 1) := by decide +kernel
theorem dX9_isDone_34 : decode cX9_isDone 34 = .ok (.iconst 1, 1) := by decide +kernel
theorem dX9_isDone_35 : decode cX9_isDone 35 = .ok (.invokevirtual 122, 3) := by decide +kernel
theorem dX9_isDone_38 : decode cX9_isDone 38 = .ok (.iconst 1, 1) := by decide +kernel
theorem dX9_isDone_39 : decode cX9_isDone 39 = .ok (.if_icmp .ne 19, 3) := by decide +kernel
theorem dX9_isDone_42 : decode cX9_isDone 42 = .ok (.iload 4, 2) := by decide +kernel
theorem dX9_isDone_44 : decode cX9_isDone 44 = .ok (.iload 6, 2) := by decide +kernel
theorem dX9_isDone_46 : decode cX9_isDone 46 = .ok (.iconst 4, 1) := by decide +kernel
theorem dX9_isDone_47 : decode cX9_isDone 47 = .ok (.idiv, 1) := by decide +kernel
theorem dX9_isDone_48 : decode cX9_isDone 48 = .ok (.ishr, 1) := by decide +kernel
theorem dX9_isDone_49 : decode cX9_isDone 49 = .ok (.iconst 1, 1) := by decide +kernel
theorem dX9_isDone_50 : decode cX9_isDone 50 = .ok (.iand, 1) := by decide +kernel
theorem dX9_isDone_51 : decode cX9_isDone 51 = .ok (.iconst 1, 1) := by decide +kernel
theorem dX9_isDone_52 : decode cX9_isDone 52 = .ok (.if_icmp .ne 21, 3) := by decide +kernel
theorem dX9_isDone_55 : decode cX9_isDone 55 = .ok (.goto 16, 3) := by decide +kernel
theorem dX9_isDone_58 : decode cX9_isDone 58 = .ok (.iload_n 3, 1) := by decide +kernel
theorem dX9_isDone_59 : decode cX9_isDone 59 = .ok (.ifCond .le 14, 3) := by decide +kernel
theorem dX9_isDone_62 : decode cX9_isDone 62 = .ok (.iload 5, 2) := by decide +kernel
theorem dX9_isDone_64 : decode cX9_isDone 64 = .ok (.iload 6, 2) := by decide +kernel
theorem dX9_isDone_66 : decode cX9_isDone 66 = .ok (.iconst 1, 1) := by decide +kernel
theorem dX9_isDone_67 : decode cX9_isDone 67 = .ok (.isub, 1) := by decide +kernel
theorem dX9_isDone_68 : decode cX9_isDone 68 = .ok (.if_icmp .eq 5, 3) := by decide +kernel
theorem dX9_isDone_71 : decode cX9_isDone 71 = .ok (.iconst 0, 1) := by decide +kernel
theorem dX9_isDone_72 : decode cX9_isDone 72 = .ok (.ireturn, 1) := by decide +kernel
theorem dX9_isDone_73 : decode cX9_isDone 73 = .ok (.iinc 3 1, 3) := by decide +kernel
theorem dX9_isDone_76 : decode cX9_isDone 76 = .ok (.iload 4, 2) := by decide +kernel
theorem dX9_isDone_78 : decode cX9_isDone 78 = .ok (.iconst 1, 1) := by decide +kernel
theorem dX9_isDone_79 : decode cX9_isDone 79 = .ok (.iload 6, 2) := by decide +kernel
theorem dX9_isDone_81 : decode cX9_isDone 81 = .ok (.iconst 4, 1) := by decide +kernel
theorem dX9_isDone_82 : decode cX9_isDone 82 = .ok (.idiv, 1) := by decide +kernel
theorem dX9_isDone_83 : decode cX9_isDone 83 = .ok (.ishl, 1) := by decide +kernel
theorem dX9_isDone_84 : decode cX9_isDone 84 = .ok (.ior, 1) := by decide +kernel
theorem dX9_isDone_85 : decode cX9_isDone 85 = .ok (.istore 4, 2) := by decide +kernel
theorem dX9_isDone_87 : decode cX9_isDone 87 = .ok (.iload 6, 2) := by decide +kernel
theorem dX9_isDone_89 : decode cX9_isDone 89 = .ok (.istore 5, 2) := by decide +kernel
theorem dX9_isDone_91 : decode cX9_isDone 91 = .ok (.iinc 6 1, 3) := by decide +kernel
theorem dX9_isDone_94 : decode cX9_isDone 94 = .ok (.goto (-82), 3) := by decide +kernel
theorem dX9_isDone_97 : decode cX9_isDone 97 = .ok (.iload_n 3, 1) := by decide +kernel
theorem dX9_isDone_98 : decode cX9_isDone 98 = .ok (.aload_n 0, 1) := by decide +kernel
theorem dX9_isDone_99 : decode cX9_isDone 99 = .ok (.iload_n 1, 1) := by decide +kernel
theorem dX9_isDone_100 : decode cX9_isDone 100 = .ok (.iconst 2, 1) := by decide +kernel
theorem dX9_isDone_101 : decode cX9_isDone 101 = .ok (.invokevirtual 122, 3) := by decide +kernel
theorem dX9_isDone_104 : decode cX9_isDone 104 = .ok (.if_icmp .ne 7, 3) := by decide +kernel
theorem dX9_isDone_107 : decode cX9_isDone 107 = .ok (.iconst 1, 1) := by decide +kernel
theorem dX9_isDone_108 : decode cX9_isDone 108 = .ok (.goto 4, 3) := by decide +kernel
theorem dX9_isDone_111 : decode cX9_isDone 111 = .ok (.iconst 0, 1) := by decide +kernel
theorem dX9_isDone_112 : decode cX9_isDone 112 = .ok (.ireturn, 1) := by decide +kernel
theorem dX9_judge_0 : decode cX9_judge 0 = .ok (.iload_n 1, 1) := by decide +kernel
theorem dX9_judge_1 : decode cX9_judge 1 = .ok (.iconst 2, 1) := by decide +kernel
theorem dX9_judge_2 : decode cX9_judge 2 = .ok (.invokestatic 50, 3) := by decide +kernel
theorem dX9_judge_5 : decode cX9_judge 5 = .ok (.ifCond .ne 10, 3) := by decide +kernel
theorem dX9_judge_8 : decode cX9_judge 8 = .ok (.aload_n 0, 1) := by decide +kernel
theorem dX9_judge_9 : decode cX9_judge 9 = .ok (.bipush (-2), 2) := by decide +kernel
theorem dX9_judge_11 : decode cX9_judge 11 = .ok (.invokevirtual 54, 3) := by decide +kernel
theorem dX9_judge_14 : decode cX9_judge 14 = .ok (.ireturn, 1) := by decide +kernel
theorem dX9_judge_15 : decode cX9_judge 15 = .ok (.aload_n 0, 1) := by decide +kernel
theorem dX9_judge_16 : decode cX9_judge 16 = .ok (.getfield 216, 3) := by decide +kernel
theorem dX9_judge_19 : decode cX9_judge 19 = .ok (.istore_n 2, 1) := by decide +kernel
theorem dX9_judge_20 : decode cX9_judge 20 = .ok (.aload_n 0, 1) := by decide +kernel
theorem dX9_judge_21 : decode cX9_judge 21 = .ok (.iconst 0, 1) := by decide +kernel
theorem dX9_judge_22 : decode cX9_judge 22 = .ok (.putfield 216, 3) := by decide +kernel
theorem dX9_judge_25 : decode cX9_judge 25 = .ok (.iload_n 1, 1) := by decide +kernel
theorem dX9_judge_26 : decode cX9_judge 26 = .ok (.ifCond .ne 9, 3) := by decide +kernel
theorem dX9_judge_29 : decode cX9_judge 29 = .ok (.aload_n 0, 1) := by decide +kernel
theorem dX9_judge_30 : decode cX9_judge 30 = .ok (.iload_n 2, 1) := by decide +kernel
theorem dX9_judge_31 : decode cX9_judge 31 = .ok (.invokevirtual 219, 3) := by decide +kernel
theorem dX9_judge_34 : decode cX9_judge 34 = .ok (.ireturn, 1) := by decide +kernel
theorem dX9_judge_35 : decode cX9_judge 35 = .ok (.iconst 0, 1) := by decide +kernel
theorem dX9_judge_36 : decode cX9_judge 36 = .ok (.istore_n 3, 1) := by decide +kernel
theorem dX9_judge_37 : decode cX9_judge 37 = .ok (.iload_n 3, 1) := by decide +kernel
theorem dX9_judge_38 : decode cX9_judge 38 = .ok (.aload_n 0, 1) := by decide +kernel
theorem dX9_judge_39 : decode cX9_judge 39 = .ok (.getfield 13, 3) := by decide +kernel
theorem dX9_judge_42 : decode cX9_judge 42 = .ok (.iconst 1, 1) := by decide +kernel
theorem dX9_judge_43 : decode cX9_judge 43 = .ok (.iaload, 1) := by decide +kernel
theorem dX9_judge_44 : decode cX9_judge 44 = .ok (.if_icmp .ge 20, 3) := by decide +kernel
theorem dX9_judge_47 : decode cX9_judge 47 = .ok (.aload_n 0, 1) := by decide +kernel
theorem dX9_judge_48 : decode cX9_judge 48 = .ok (.iload_n 3, 1) := by decide +kernel
theorem dX9_judge_49 : decode cX9_judge 49 = .ok (.iload_n 2, 1) := by decide +kernel
theorem dX9_judge_50 : decode cX9_judge 50 = .ok (.invokevirtual 222, 3) := by decide +kernel
theorem dX9_judge_53 : decode cX9_judge 53 = .ok (.ifCond .ne 5, 3) := by decide +kernel
theorem dX9_judge_56 : decode cX9_judge 56 = .ok (.iload_n 3, 1) := by decide +kernel
theorem dX9_judge_57 : decode cX9_judge 57 = .ok (.ireturn, 1) := by decide +kernel
theorem dX9_judge_58 : decode cX9_judge 58 = .ok (.iinc 3 1, 3) := by decide +kernel
theorem dX9_judge_61 : decode cX9_judge 61 = .ok (.goto (-24), 3) := by decide +kernel
theorem dX9_judge_64 : decode cX9_judge 64 = .ok (.bipush (-9), 2) := by decide +kernel
theorem dX9_judge_66 : decode cX9_judge 66 = .ok (.ireturn, 1) := by decide +kernel
theorem dX9_image_0 : decode cX9_image 0 = .ok (.aload_n 0, 1) := by decide +kernel
theorem dX9_image_1 : decode cX9_image 1 = .ok (.getfield 13, 3) := by decide +kernel
theorem dX9_image_4 : decode cX9_image 4 = .ok (.aload_n 0, 1) := by decide +kernel
theorem dX9_image_5 : decode cX9_image 5 = .ok (.getfield 16, 3) := by decide +kernel
theorem dX9_image_8 : decode cX9_image 8 = .ok (.invokestatic 96, 3) := by decide +kernel
theorem dX9_image_11 : decode cX9_image 11 = .ok (.aload_n 0, 1) := by decide +kernel
theorem dX9_image_12 : decode cX9_image 12 = .ok (.iconst 1, 1) := by decide +kernel
theorem dX9_image_13 : decode cX9_image 13 = .ok (.putfield 225, 3) := by decide +kernel
theorem dX9_image_16 : decode cX9_image 16 = .ok (.aload_n 0, 1) := by decide +kernel
theorem dX9_image_17 : decode cX9_image 17 = .ok (.getfield 13, 3) := by decide +kernel
theorem dX9_image_20 : decode cX9_image 20 = .ok (.iconst 0, 1) := by decide +kernel
theorem dX9_image_21 : decode cX9_image 21 = .ok (.iaload, 1) := by decide +kernel
theorem dX9_image_22 : decode cX9_image 22 = .ok (.ireturn, 1) := by decide +kernel
theorem dX9_on_0 : decode cX9_on 0 = .ok (.aload_n 0, 1) := by decide +kernel
theorem dX9_on_1 : decode cX9_on 1 = .ok (.getfield 225, 3) := by decide +kernel
theorem dX9_on_4 : decode cX9_on 4 = .ok (.ifCond .ne 10, 3) := by decide +kernel
theorem dX9_on_7 : decode cX9_on 7 = .ok (.aload_n 0, 1) := by decide +kernel
theorem dX9_on_8 : decode cX9_on 8 = .ok (.bipush (-3), 2) := by decide +kernel
theorem dX9_on_10 : decode cX9_on 10 = .ok (.invokevirtual 54, 3) := by decide +kernel
theorem dX9_on_13 : decode cX9_on 13 = .ok (.ireturn, 1) := by decide +kernel
theorem dX9_on_14 : decode cX9_on 14 = .ok (.aload_n 0, 1) := by decide +kernel
theorem dX9_on_15 : decode cX9_on 15 = .ok (.getfield 16, 3) := by decide +kernel
theorem dX9_on_18 : decode cX9_on 18 = .ok (.aload_n 0, 1) := by decide +kernel
theorem dX9_on_19 : decode cX9_on 19 = .ok (.getfield 13, 3) := by decide +kernel
theorem dX9_on_22 : decode cX9_on 22 = .ok (.invokestatic 96, 3) := by decide +kernel
theorem dX9_on_25 : decode cX9_on 25 = .ok (.aload_n 0, 1) := by decide +kernel
theorem dX9_on_26 : decode cX9_on 26 = .ok (.getfield 13, 3) := by decide +kernel
theorem dX9_on_29 : decode cX9_on 29 = .ok (.iconst 0, 1) := by decide +kernel
theorem dX9_on_30 : decode cX9_on 30 = .ok (.iaload, 1) := by decide +kernel
theorem dX9_on_31 : decode cX9_on 31 = .ok (.ireturn, 1) := by decide +kernel
theorem dX9_count_0 : decode cX9_count 0 = .ok (.iload_n 1, 1) := by decide +kernel
theorem dX9_count_1 : decode cX9_count 1 = .ok (.bipush 10, 2) := by decide +kernel
theorem dX9_count_3 : decode cX9_count 3 = .ok (.if_icmp .le 19, 3) := by decide +kernel
theorem dX9_count_6 : decode cX9_count 6 = .ok (.iload_n 1, 1) := by decide +kernel
theorem dX9_count_7 : decode cX9_count 7 = .ok (.bipush 17, 2) := by decide +kernel
theorem dX9_count_9 : decode cX9_count 9 = .ok (.if_icmp .ge 13, 3) := by decide +kernel
theorem dX9_count_12 : decode cX9_count 12 = .ok (.aload_n 0, 1) := by decide +kernel
theorem dX9_count_13 : decode cX9_count 13 = .ok (.getfield 7, 3) := by decide +kernel
theorem dX9_count_16 : decode cX9_count 16 = .ok (.iload_n 1, 1) := by decide +kernel
theorem dX9_count_17 : decode cX9_count 17 = .ok (.bipush 10, 2) := by decide +kernel
theorem dX9_count_19 : decode cX9_count 19 = .ok (.isub, 1) := by decide +kernel
theorem dX9_count_20 : decode cX9_count 20 = .ok (.iaload, 1) := by decide +kernel
theorem dX9_count_21 : decode cX9_count 21 = .ok (.ireturn, 1) := by decide +kernel
theorem dX9_count_22 : decode cX9_count 22 = .ok (.iconst 0, 1) := by decide +kernel
theorem dX9_count_23 : decode cX9_count 23 = .ok (.istore_n 2, 1) := by decide +kernel
theorem dX9_count_24 : decode cX9_count 24 = .ok (.iload_n 1, 1) := by decide +kernel
theorem dX9_count_25 : decode cX9_count 25 = .ok (.tableswitch 127 0 6 #[43, 43, 50, 50, 107, 117, 122], 43) := by decide +kernel
theorem dX9_count_68 : decode cX9_count 68 = .ok (.aload_n 0, 1) := by decide +kernel
theorem dX9_count_69 : decode cX9_count 69 = .ok (.getfield 13, 3) := by decide +kernel
theorem dX9_count_72 : decode cX9_count 72 = .ok (.iload_n 1, 1) := by decide +kernel
theorem dX9_count_73 : decode cX9_count 73 = .ok (.iaload, 1) := by decide +kernel
theorem dX9_count_74 : decode cX9_count 74 = .ok (.ireturn, 1) := by decide +kernel
theorem dX9_count_75 : decode cX9_count 75 = .ok (.iconst 0, 1) := by decide +kernel
theorem dX9_count_76 : decode cX9_count 76 = .ok (.istore_n 3, 1) := by decide +kernel
theorem dX9_count_77 : decode cX9_count 77 = .ok (.iload_n 3, 1) := by decide +kernel
theorem dX9_count_78 : decode cX9_count 78 = .ok (.bipush 28, 2) := by decide +kernel
theorem dX9_count_80 : decode cX9_count 80 = .ok (.if_icmp .ge 50, 3) := by decide +kernel
theorem dX9_count_83 : decode cX9_count 83 = .ok (.iload_n 2, 1) := by decide +kernel
theorem dX9_count_84 : decode cX9_count 84 = .ok (.iload_n 1, 1) := by decide +kernel
theorem dX9_count_85 : decode cX9_count 85 = .ok (.iconst 2, 1) := by decide +kernel
theorem dX9_count_86 : decode cX9_count 86 = .ok (.if_icmp .ne 25, 3) := by decide +kernel
theorem dX9_count_89 : decode cX9_count 89 = .ok (.aload_n 0, 1) := by decide +kernel
theorem dX9_count_90 : decode cX9_count 90 = .ok (.getfield 13, 3) := by decide +kernel
theorem dX9_count_93 : decode cX9_count 93 = .ok (.bipush 9, 2) := by decide +kernel
theorem dX9_count_95 : decode cX9_count 95 = .ok (.iconst 4, 1) := by decide +kernel
theorem dX9_count_96 : decode cX9_count 96 = .ok (.iload_n 3, 1) := by decide +kernel
theorem dX9_count_97 : decode cX9_count 97 = .ok (.imul, 1) := by decide +kernel
theorem dX9_count_98 : decode cX9_count 98 = .ok (.iadd, 1) := by decide +kernel
theorem dX9_count_99 : decode cX9_count 99 = .ok (.iaload, 1) := by decide +kernel
theorem dX9_count_100 : decode cX9_count 100 = .ok (.ifCond .ne 7, 3) := by decide +kernel
theorem dX9_count_103 : decode cX9_count 103 = .ok (.iconst 1, 1) := by decide +kernel
theorem dX9_count_104 : decode cX9_count 104 = .ok (.goto 18, 3) := by decide +kernel
theorem dX9_count_107 : decode cX9_count 107 = .ok (.iconst 0, 1) := by decide +kernel
theorem dX9_count_108 : decode cX9_count 108 = .ok (.goto 14, 3) := by decide +kernel
theorem dX9_count_111 : decode cX9_count 111 = .ok (.aload_n 0, 1) := by decide +kernel
theorem dX9_count_112 : decode cX9_count 112 = .ok (.getfield 13, 3) := by decide +kernel
theorem dX9_count_115 : decode cX9_count 115 = .ok (.bipush 9, 2) := by decide +kernel
theorem dX9_count_117 : decode cX9_count 117 = .ok (.iconst 4, 1) := by decide +kernel
theorem dX9_count_118 : decode cX9_count 118 = .ok (.iload_n 3, 1) := by decide +kernel
theorem dX9_count_119 : decode cX9_count 119 = .ok (.imul, 1) := by decide +kernel
theorem dX9_count_120 : decode cX9_count 120 = .ok (.iadd, 1) := by decide +kernel
theorem dX9_count_121 : decode cX9_count 121 = .ok (.iaload, 1) := by decide +kernel
theorem dX9_count_122 : decode cX9_count 122 = .ok (.iadd, 1) := by decide +kernel
theorem dX9_count_123 : decode cX9_count 123 = .ok (.istore_n 2, 1) := by decide +kernel
theorem dX9_count_124 : decode cX9_count 124 = .ok (.iinc 3 1, 3) := by decide +kernel
theorem dX9_count_127 : decode cX9_count 127 = .ok (.goto (-50), 3) := by decide +kernel
theorem dX9_count_130 : decode cX9_count 130 = .ok (.iload_n 2, 1) := by decide +kernel
theorem dX9_count_131 : decode cX9_count 131 = .ok (.ireturn, 1) := by decide +kernel
theorem dX9_count_132 : decode cX9_count 132 = .ok (.aload_n 0, 1) := by decide +kernel
theorem dX9_count_133 : decode cX9_count 133 = .ok (.getfield 13, 3) := by decide +kernel
theorem dX9_count_136 : decode cX9_count 136 = .ok (.iconst 2, 1) := by decide +kernel
theorem dX9_count_137 : decode cX9_count 137 = .ok (.iaload, 1) := by decide +kernel
theorem dX9_count_138 : decode cX9_count 138 = .ok (.invokestatic 185, 3) := by decide +kernel
theorem dX9_count_141 : decode cX9_count 141 = .ok (.ireturn, 1) := by decide +kernel
theorem dX9_count_142 : decode cX9_count 142 = .ok (.aload_n 0, 1) := by decide +kernel
theorem dX9_count_143 : decode cX9_count 143 = .ok (.getfield 216, 3) := by decide +kernel
theorem dX9_count_146 : decode cX9_count 146 = .ok (.ireturn, 1) := by decide +kernel
theorem dX9_count_147 : decode cX9_count 147 = .ok (.aload_n 0, 1) := by decide +kernel
theorem dX9_count_148 : decode cX9_count 148 = .ok (.getfield 58, 3) := by decide +kernel
theorem dX9_count_151 : decode cX9_count 151 = .ok (.ireturn, 1) := by decide +kernel
theorem dX9_count_152 : decode cX9_count 152 = .ok (.bipush (-9), 2) := by decide +kernel
theorem dX9_count_154 : decode cX9_count 154 = .ok (.ireturn, 1) := by decide +kernel
theorem dL_law_0 : decode cL_law 0 = .ok (.new 7, 3) := by decide +kernel
theorem dL_law_3 : decode cL_law 3 = .ok (.dup, 1) := by decide +kernel
theorem dL_law_4 : decode cL_law 4 = .ok (.invokespecial 9, 3) := by decide +kernel
theorem dL_law_7 : decode cL_law 7 = .ok (.astore_n 1, 1) := by decide +kernel
theorem dL_law_8 : decode cL_law 8 = .ok (.new 10, 3) := by decide +kernel
theorem dL_law_11 : decode cL_law 11 = .ok (.dup, 1) := by decide +kernel
theorem dL_law_12 : decode cL_law 12 = .ok (.invokespecial 12, 3) := by decide +kernel
theorem dL_law_15 : decode cL_law 15 = .ok (.astore_n 2, 1) := by decide +kernel
theorem dL_law_16 : decode cL_law 16 = .ok (.iconst 0, 1) := by decide +kernel
theorem dL_law_17 : decode cL_law 17 = .ok (.istore_n 3, 1) := by decide +kernel
theorem dL_law_18 : decode cL_law 18 = .ok (.iload_n 3, 1) := by decide +kernel
theorem dL_law_19 : decode cL_law 19 = .ok (.aload_n 0, 1) := by decide +kernel
theorem dL_law_20 : decode cL_law 20 = .ok (.arraylength, 1) := by decide +kernel
theorem dL_law_21 : decode cL_law 21 = .ok (.iconst 4, 1) := by decide +kernel
theorem dL_law_22 : decode cL_law 22 = .ok (.isub, 1) := by decide +kernel
theorem dL_law_23 : decode cL_law 23 = .ok (.if_icmp .gt 1049, 3) := by decide +kernel
theorem dL_law_26 : decode cL_law 26 = .ok (.aload_n 0, 1) := by decide +kernel
theorem dL_law_27 : decode cL_law 27 = .ok (.iload_n 3, 1) := by decide +kernel
theorem dL_law_28 : decode cL_law 28 = .ok (.iaload, 1) := by decide +kernel
theorem dL_law_29 : decode cL_law 29 = .ok (.bipush 63, 2) := by decide +kernel
theorem dL_law_31 : decode cL_law 31 = .ok (.iand, 1) := by decide +kernel
theorem dL_law_32 : decode cL_law 32 = .ok (.tableswitch 1034 0 33 #[152, 215, 228, 261, 294, 327, 360, 383, 416, 459, 482, 505, 528, 551, 564, 587, 610, 623, 646, 659, 702, 725, 758, 781, 814, 827, 860, 893, 906, 939, 962, 985, 998, 1011], 152) := by decide +kernel
theorem dL_law_184 : decode cL_law 184 = .ok (.aload_n 1, 1) := by decide +kernel
theorem dL_law_185 : decode cL_law 185 = .ok (.aload_n 0, 1) := by decide +kernel
theorem dL_law_186 : decode cL_law 186 = .ok (.iload_n 3, 1) := by decide +kernel
theorem dL_law_187 : decode cL_law 187 = .ok (.iconst 1, 1) := by decide +kernel
theorem dL_law_188 : decode cL_law 188 = .ok (.iadd, 1) := by decide +kernel
theorem dL_law_189 : decode cL_law 189 = .ok (.iaload, 1) := by decide +kernel
theorem dL_law_190 : decode cL_law 190 = .ok (.aload_n 0, 1) := by decide +kernel
theorem dL_law_191 : decode cL_law 191 = .ok (.iload_n 3, 1) := by decide +kernel
theorem dL_law_192 : decode cL_law 192 = .ok (.iconst 2, 1) := by decide +kernel
theorem dL_law_193 : decode cL_law 193 = .ok (.iadd, 1) := by decide +kernel
theorem dL_law_194 : decode cL_law 194 = .ok (.iaload, 1) := by decide +kernel
theorem dL_law_195 : decode cL_law 195 = .ok (.i2l, 1) := by decide +kernel
theorem dL_law_196 : decode cL_law 196 = .ok (.bipush 32, 2) := by decide +kernel
theorem dL_law_198 : decode cL_law 198 = .ok (.lshl, 1) := by decide +kernel
theorem dL_law_199 : decode cL_law 199 = .ok (.aload_n 0, 1) := by decide +kernel
theorem dL_law_200 : decode cL_law 200 = .ok (.iload_n 3, 1) := by decide +kernel
theorem dL_law_201 : decode cL_law 201 = .ok (.iconst 3, 1) := by decide +kernel
theorem dL_law_202 : decode cL_law 202 = .ok (.iadd, 1) := by decide +kernel
theorem dL_law_203 : decode cL_law 203 = .ok (.iaload, 1) := by decide +kernel
theorem dL_law_204 : decode cL_law 204 = .ok (.i2l, 1) := by decide +kernel
theorem dL_law_205 : decode cL_law 205 = .ok (.ldc2_w 13, 3) := by decide +kernel
theorem dL_law_208 : decode cL_law 208 = .ok (.land, 1) := by decide +kernel
theorem dL_law_209 : decode cL_law 209 = .ok (.lor, 1) := by decide +kernel
theorem dL_law_210 : decode cL_law 210 = .ok (.invokevirtual 15, 3) := by decide +kernel
theorem dL_law_213 : decode cL_law 213 = .ok (.aload_n 2, 1) := by decide +kernel
theorem dL_law_214 : decode cL_law 214 = .ok (.aload_n 0, 1) := by decide +kernel
theorem dL_law_215 : decode cL_law 215 = .ok (.iload_n 3, 1) := by decide +kernel
theorem dL_law_216 : decode cL_law 216 = .ok (.iconst 1, 1) := by decide +kernel
theorem dL_law_217 : decode cL_law 217 = .ok (.iadd, 1) := by decide +kernel
theorem dL_law_218 : decode cL_law 218 = .ok (.iaload, 1) := by decide +kernel
theorem dL_law_219 : decode cL_law 219 = .ok (.aload_n 0, 1) := by decide +kernel
theorem dL_law_220 : decode cL_law 220 = .ok (.iload_n 3, 1) := by decide +kernel
theorem dL_law_221 : decode cL_law 221 = .ok (.iconst 2, 1) := by decide +kernel
theorem dL_law_222 : decode cL_law 222 = .ok (.iadd, 1) := by decide +kernel
theorem dL_law_223 : decode cL_law 223 = .ok (.iaload, 1) := by decide +kernel
theorem dL_law_224 : decode cL_law 224 = .ok (.i2l, 1) := by decide +kernel
theorem dL_law_225 : decode cL_law 225 = .ok (.bipush 32, 2) := by decide +kernel
theorem dL_law_227 : decode cL_law 227 = .ok (.lshl, 1) := by decide +kernel
theorem dL_law_228 : decode cL_law 228 = .ok (.aload_n 0, 1) := by decide +kernel
theorem dL_law_229 : decode cL_law 229 = .ok (.iload_n 3, 1) := by decide +kernel
theorem dL_law_230 : decode cL_law 230 = .ok (.iconst 3, 1) := by decide +kernel
theorem dL_law_231 : decode cL_law 231 = .ok (.iadd, 1) := by decide +kernel
theorem dL_law_232 : decode cL_law 232 = .ok (.iaload, 1) := by decide +kernel
theorem dL_law_233 : decode cL_law 233 = .ok (.i2l, 1) := by decide +kernel
theorem dL_law_234 : decode cL_law 234 = .ok (.ldc2_w 13, 3) := by decide +kernel
theorem dL_law_237 : decode cL_law 237 = .ok (.land, 1) := by decide +kernel
theorem dL_law_238 : decode cL_law 238 = .ok (.lor, 1) := by decide +kernel
theorem dL_law_239 : decode cL_law 239 = .ok (.invokevirtual 19, 3) := by decide +kernel
theorem dL_law_242 : decode cL_law 242 = .ok (.if_icmp .eq 824, 3) := by decide +kernel
theorem dL_law_245 : decode cL_law 245 = .ok (.iconst 0, 1) := by decide +kernel
theorem dL_law_246 : decode cL_law 246 = .ok (.ireturn, 1) := by decide +kernel
theorem dL_law_247 : decode cL_law 247 = .ok (.aload_n 1, 1) := by decide +kernel
theorem dL_law_248 : decode cL_law 248 = .ok (.invokevirtual 20, 3) := by decide +kernel
theorem dL_law_251 : decode cL_law 251 = .ok (.aload_n 2, 1) := by decide +kernel
theorem dL_law_252 : decode cL_law 252 = .ok (.invokevirtual 24, 3) := by decide +kernel
theorem dL_law_255 : decode cL_law 255 = .ok (.if_icmp .eq 811, 3) := by decide +kernel
theorem dL_law_258 : decode cL_law 258 = .ok (.iconst 0, 1) := by decide +kernel
theorem dL_law_259 : decode cL_law 259 = .ok (.ireturn, 1) := by decide +kernel
theorem dL_law_260 : decode cL_law 260 = .ok (.aload_n 1, 1) := by decide +kernel
theorem dL_law_261 : decode cL_law 261 = .ok (.aload_n 0, 1) := by decide +kernel
theorem dL_law_262 : decode cL_law 262 = .ok (.iload_n 3, 1) := by decide +kernel
theorem dL_law_263 : decode cL_law 263 = .ok (.iconst 1, 1) := by decide +kernel
theorem dL_law_264 : decode cL_law 264 = .ok (.iadd, 1) := by decide +kernel
theorem dL_law_265 : decode cL_law 265 = .ok (.iaload, 1) := by decide +kernel
theorem dL_law_266 : decode cL_law 266 = .ok (.aload_n 0, 1) := by decide +kernel
theorem dL_law_267 : decode cL_law 267 = .ok (.iload_n 3, 1) := by decide +kernel
theorem dL_law_268 : decode cL_law 268 = .ok (.iconst 2, 1) := by decide +kernel
theorem dL_law_269 : decode cL_law 269 = .ok (.iadd, 1) := by decide +kernel
theorem dL_law_270 : decode cL_law 270 = .ok (.iaload, 1) := by decide +kernel
theorem dL_law_271 : decode cL_law 271 = .ok (.invokevirtual 25, 3) := by decide +kernel
theorem dL_law_274 : decode cL_law 274 = .ok (.aload_n 2, 1) := by decide +kernel
theorem dL_law_275 : decode cL_law 275 = .ok (.aload_n 0, 1) := by decide +kernel
theorem dL_law_276 : decode cL_law 276 = .ok (.iload_n 3, 1) := by decide +kernel
theorem dL_law_277 : decode cL_law 277 = .ok (.iconst 1, 1) := by decide +kernel
theorem dL_law_278 : decode cL_law 278 = .ok (.iadd, 1) := by decide +kernel
theorem dL_law_279 : decode cL_law 279 = .ok (.iaload, 1) := by decide +kernel
theorem dL_law_280 : decode cL_law 280 = .ok (.aload_n 0, 1) := by decide +kernel
theorem dL_law_281 : decode cL_law 281 = .ok (.iload_n 3, 1) := by decide +kernel
theorem dL_law_282 : decode cL_law 282 = .ok (.iconst 2, 1) := by decide +kernel
theorem dL_law_283 : decode cL_law 283 = .ok (.iadd, 1) := by decide +kernel
theorem dL_law_284 : decode cL_law 284 = .ok (.iaload, 1) := by decide +kernel
theorem dL_law_285 : decode cL_law 285 = .ok (.invokevirtual 29, 3) := by decide +kernel
theorem dL_law_288 : decode cL_law 288 = .ok (.if_icmp .eq 778, 3) := by decide +kernel
theorem dL_law_291 : decode cL_law 291 = .ok (.iconst 0, 1) := by decide +kernel
theorem dL_law_292 : decode cL_law 292 = .ok (.ireturn, 1) := by decide +kernel
theorem dL_law_293 : decode cL_law 293 = .ok (.aload_n 1, 1) := by decide +kernel
theorem dL_law_294 : decode cL_law 294 = .ok (.aload_n 0, 1) := by decide +kernel
theorem dL_law_295 : decode cL_law 295 = .ok (.iload_n 3, 1) := by decide +kernel
theorem dL_law_296 : decode cL_law 296 = .ok (.iconst 1, 1) := by decide +kernel
theorem dL_law_297 : decode cL_law 297 = .ok (.iadd, 1) := by decide +kernel
theorem dL_law_298 : decode cL_law 298 = .ok (.iaload, 1) := by decide +kernel
theorem dL_law_299 : decode cL_law 299 = .ok (.aload_n 0, 1) := by decide +kernel
theorem dL_law_300 : decode cL_law 300 = .ok (.iload_n 3, 1) := by decide +kernel
theorem dL_law_301 : decode cL_law 301 = .ok (.iconst 2, 1) := by decide +kernel
theorem dL_law_302 : decode cL_law 302 = .ok (.iadd, 1) := by decide +kernel
theorem dL_law_303 : decode cL_law 303 = .ok (.iaload, 1) := by decide +kernel
theorem dL_law_304 : decode cL_law 304 = .ok (.invokevirtual 30, 3) := by decide +kernel
theorem dL_law_307 : decode cL_law 307 = .ok (.aload_n 2, 1) := by decide +kernel
theorem dL_law_308 : decode cL_law 308 = .ok (.aload_n 0, 1) := by decide +kernel
theorem dL_law_309 : decode cL_law 309 = .ok (.iload_n 3, 1) := by decide +kernel
theorem dL_law_310 : decode cL_law 310 = .ok (.iconst 1, 1) := by decide +kernel
theorem dL_law_311 : decode cL_law 311 = .ok (.iadd, 1) := by decide +kernel
theorem dL_law_312 : decode cL_law 312 = .ok (.iaload, 1) := by decide +kernel
theorem dL_law_313 : decode cL_law 313 = .ok (.aload_n 0, 1) := by decide +kernel
theorem dL_law_314 : decode cL_law 314 = .ok (.iload_n 3, 1) := by decide +kernel
theorem dL_law_315 : decode cL_law 315 = .ok (.iconst 2, 1) := by decide +kernel
theorem dL_law_316 : decode cL_law 316 = .ok (.iadd, 1) := by decide +kernel
theorem dL_law_317 : decode cL_law 317 = .ok (.iaload, 1) := by decide +kernel
theorem dL_law_318 : decode cL_law 318 = .ok (.invokevirtual 33, 3) := by decide +kernel
theorem dL_law_321 : decode cL_law 321 = .ok (.if_icmp .eq 745, 3) := by decide +kernel
theorem dL_law_324 : decode cL_law 324 = .ok (.iconst 0, 1) := by decide +kernel
theorem dL_law_325 : decode cL_law 325 = .ok (.ireturn, 1) := by decide +kernel
theorem dL_law_326 : decode cL_law 326 = .ok (.aload_n 1, 1) := by decide +kernel
theorem dL_law_327 : decode cL_law 327 = .ok (.aload_n 0, 1) := by decide +kernel
theorem dL_law_328 : decode cL_law 328 = .ok (.iload_n 3, 1) := by decide +kernel
theorem dL_law_329 : decode cL_law 329 = .ok (.iconst 1, 1) := by decide +kernel
theorem dL_law_330 : decode cL_law 330 = .ok (.iadd, 1) := by decide +kernel
theorem dL_law_331 : decode cL_law 331 = .ok (.iaload, 1) := by decide +kernel
theorem dL_law_332 : decode cL_law 332 = .ok (.aload_n 0, 1) := by decide +kernel
theorem dL_law_333 : decode cL_law 333 = .ok (.iload_n 3, 1) := by decide +kernel
theorem dL_law_334 : decode cL_law 334 = .ok (.iconst 2, 1) := by decide +kernel
theorem dL_law_335 : decode cL_law 335 = .ok (.iadd, 1) := by decide +kernel
theorem dL_law_336 : decode cL_law 336 = .ok (.iaload, 1) := by decide +kernel
theorem dL_law_337 : decode cL_law 337 = .ok (.invokevirtual 34, 3) := by decide +kernel
theorem dL_law_340 : decode cL_law 340 = .ok (.aload_n 2, 1) := by decide +kernel
theorem dL_law_341 : decode cL_law 341 = .ok (.aload_n 0, 1) := by decide +kernel
theorem dL_law_342 : decode cL_law 342 = .ok (.iload_n 3, 1) := by decide +kernel
theorem dL_law_343 : decode cL_law 343 = .ok (.iconst 1, 1) := by decide +kernel
theorem dL_law_344 : decode cL_law 344 = .ok (.iadd, 1) := by decide +kernel
theorem dL_law_345 : decode cL_law 345 = .ok (.iaload, 1) := by decide +kernel
theorem dL_law_346 : decode cL_law 346 = .ok (.aload_n 0, 1) := by decide +kernel
theorem dL_law_347 : decode cL_law 347 = .ok (.iload_n 3, 1) := by decide +kernel
theorem dL_law_348 : decode cL_law 348 = .ok (.iconst 2, 1) := by decide +kernel
theorem dL_law_349 : decode cL_law 349 = .ok (.iadd, 1) := by decide +kernel
theorem dL_law_350 : decode cL_law 350 = .ok (.iaload, 1) := by decide +kernel
theorem dL_law_351 : decode cL_law 351 = .ok (.invokevirtual 37, 3) := by decide +kernel
theorem dL_law_354 : decode cL_law 354 = .ok (.if_icmp .eq 712, 3) := by decide +kernel
theorem dL_law_357 : decode cL_law 357 = .ok (.iconst 0, 1) := by decide +kernel
theorem dL_law_358 : decode cL_law 358 = .ok (.ireturn, 1) := by decide +kernel
theorem dL_law_359 : decode cL_law 359 = .ok (.aload_n 1, 1) := by decide +kernel
theorem dL_law_360 : decode cL_law 360 = .ok (.aload_n 0, 1) := by decide +kernel
theorem dL_law_361 : decode cL_law 361 = .ok (.iload_n 3, 1) := by decide +kernel
theorem dL_law_362 : decode cL_law 362 = .ok (.iconst 1, 1) := by decide +kernel
theorem dL_law_363 : decode cL_law 363 = .ok (.iadd, 1) := by decide +kernel
theorem dL_law_364 : decode cL_law 364 = .ok (.iaload, 1) := by decide +kernel
theorem dL_law_365 : decode cL_law 365 = .ok (.aload_n 0, 1) := by decide +kernel
theorem dL_law_366 : decode cL_law 366 = .ok (.iload_n 3, 1) := by decide +kernel
theorem dL_law_367 : decode cL_law 367 = .ok (.iconst 2, 1) := by decide +kernel
theorem dL_law_368 : decode cL_law 368 = .ok (.iadd, 1) := by decide +kernel
theorem dL_law_369 : decode cL_law 369 = .ok (.iaload, 1) := by decide +kernel
theorem dL_law_370 : decode cL_law 370 = .ok (.invokevirtual 38, 3) := by decide +kernel
theorem dL_law_373 : decode cL_law 373 = .ok (.aload_n 2, 1) := by decide +kernel
theorem dL_law_374 : decode cL_law 374 = .ok (.aload_n 0, 1) := by decide +kernel
theorem dL_law_375 : decode cL_law 375 = .ok (.iload_n 3, 1) := by decide +kernel
theorem dL_law_376 : decode cL_law 376 = .ok (.iconst 1, 1) := by decide +kernel
theorem dL_law_377 : decode cL_law 377 = .ok (.iadd, 1) := by decide +kernel
theorem dL_law_378 : decode cL_law 378 = .ok (.iaload, 1) := by decide +kernel
theorem dL_law_379 : decode cL_law 379 = .ok (.aload_n 0, 1) := by decide +kernel
theorem dL_law_380 : decode cL_law 380 = .ok (.iload_n 3, 1) := by decide +kernel
theorem dL_law_381 : decode cL_law 381 = .ok (.iconst 2, 1) := by decide +kernel
theorem dL_law_382 : decode cL_law 382 = .ok (.iadd, 1) := by decide +kernel
theorem dL_law_383 : decode cL_law 383 = .ok (.iaload, 1) := by decide +kernel
theorem dL_law_384 : decode cL_law 384 = .ok (.invokevirtual 41, 3) := by decide +kernel
theorem dL_law_387 : decode cL_law 387 = .ok (.if_icmp .eq 679, 3) := by decide +kernel
theorem dL_law_390 : decode cL_law 390 = .ok (.iconst 0, 1) := by decide +kernel
theorem dL_law_391 : decode cL_law 391 = .ok (.ireturn, 1) := by decide +kernel
theorem dL_law_392 : decode cL_law 392 = .ok (.aload_n 1, 1) := by decide +kernel
theorem dL_law_393 : decode cL_law 393 = .ok (.aload_n 0, 1) := by decide +kernel
theorem dL_law_394 : decode cL_law 394 = .ok (.iload_n 3, 1) := by decide +kernel
theorem dL_law_395 : decode cL_law 395 = .ok (.iconst 1, 1) := by decide +kernel
theorem dL_law_396 : decode cL_law 396 = .ok (.iadd, 1) := by decide +kernel
theorem dL_law_397 : decode cL_law 397 = .ok (.iaload, 1) := by decide +kernel
theorem dL_law_398 : decode cL_law 398 = .ok (.invokevirtual 42, 3) := by decide +kernel
theorem dL_law_401 : decode cL_law 401 = .ok (.aload_n 2, 1) := by decide +kernel
theorem dL_law_402 : decode cL_law 402 = .ok (.aload_n 0, 1) := by decide +kernel
theorem dL_law_403 : decode cL_law 403 = .ok (.iload_n 3, 1) := by decide +kernel
theorem dL_law_404 : decode cL_law 404 = .ok (.iconst 1, 1) := by decide +kernel
theorem dL_law_405 : decode cL_law 405 = .ok (.iadd, 1) := by decide +kernel
theorem dL_law_406 : decode cL_law 406 = .ok (.iaload, 1) := by decide +kernel
theorem dL_law_407 : decode cL_law 407 = .ok (.invokevirtual 46, 3) := by decide +kernel
theorem dL_law_410 : decode cL_law 410 = .ok (.if_icmp .eq 656, 3) := by decide +kernel
theorem dL_law_413 : decode cL_law 413 = .ok (.iconst 0, 1) := by decide +kernel
theorem dL_law_414 : decode cL_law 414 = .ok (.ireturn, 1) := by decide +kernel
theorem dL_law_415 : decode cL_law 415 = .ok (.aload_n 1, 1) := by decide +kernel
theorem dL_law_416 : decode cL_law 416 = .ok (.aload_n 0, 1) := by decide +kernel
theorem dL_law_417 : decode cL_law 417 = .ok (.iload_n 3, 1) := by decide +kernel
theorem dL_law_418 : decode cL_law 418 = .ok (.iconst 1, 1) := by decide +kernel
theorem dL_law_419 : decode cL_law 419 = .ok (.iadd, 1) := by decide +kernel
theorem dL_law_420 : decode cL_law 420 = .ok (.iaload, 1) := by decide +kernel
theorem dL_law_421 : decode cL_law 421 = .ok (.aload_n 0, 1) := by decide +kernel
theorem dL_law_422 : decode cL_law 422 = .ok (.iload_n 3, 1) := by decide +kernel
theorem dL_law_423 : decode cL_law 423 = .ok (.iconst 2, 1) := by decide +kernel
theorem dL_law_424 : decode cL_law 424 = .ok (.iadd, 1) := by decide +kernel
theorem dL_law_425 : decode cL_law 425 = .ok (.iaload, 1) := by decide +kernel
theorem dL_law_426 : decode cL_law 426 = .ok (.invokevirtual 47, 3) := by decide +kernel
theorem dL_law_429 : decode cL_law 429 = .ok (.aload_n 2, 1) := by decide +kernel
theorem dL_law_430 : decode cL_law 430 = .ok (.aload_n 0, 1) := by decide +kernel
theorem dL_law_431 : decode cL_law 431 = .ok (.iload_n 3, 1) := by decide +kernel
theorem dL_law_432 : decode cL_law 432 = .ok (.iconst 1, 1) := by decide +kernel
theorem dL_law_433 : decode cL_law 433 = .ok (.iadd, 1) := by decide +kernel
theorem dL_law_434 : decode cL_law 434 = .ok (.iaload, 1) := by decide +kernel
theorem dL_law_435 : decode cL_law 435 = .ok (.aload_n 0, 1) := by decide +kernel
theorem dL_law_436 : decode cL_law 436 = .ok (.iload_n 3, 1) := by decide +kernel
theorem dL_law_437 : decode cL_law 437 = .ok (.iconst 2, 1) := by decide +kernel
theorem dL_law_438 : decode cL_law 438 = .ok (.iadd, 1) := by decide +kernel
theorem dL_law_439 : decode cL_law 439 = .ok (.iaload, 1) := by decide +kernel
theorem dL_law_440 : decode cL_law 440 = .ok (.invokevirtual 50, 3) := by decide +kernel
theorem dL_law_443 : decode cL_law 443 = .ok (.if_icmp .eq 623, 3) := by decide +kernel
theorem dL_law_446 : decode cL_law 446 = .ok (.iconst 0, 1) := by decide +kernel
theorem dL_law_447 : decode cL_law 447 = .ok (.ireturn, 1) := by decide +kernel
theorem dL_law_448 : decode cL_law 448 = .ok (.aload_n 1, 1) := by decide +kernel
theorem dL_law_449 : decode cL_law 449 = .ok (.aload_n 0, 1) := by decide +kernel
theorem dL_law_450 : decode cL_law 450 = .ok (.iload_n 3, 1) := by decide +kernel
theorem dL_law_451 : decode cL_law 451 = .ok (.iconst 1, 1) := by decide +kernel
theorem dL_law_452 : decode cL_law 452 = .ok (.iadd, 1) := by decide +kernel
theorem dL_law_453 : decode cL_law 453 = .ok (.iaload, 1) := by decide +kernel
theorem dL_law_454 : decode cL_law 454 = .ok (.aload_n 0, 1) := by decide +kernel
theorem dL_law_455 : decode cL_law 455 = .ok (.iload_n 3, 1) := by decide +kernel
theorem dL_law_456 : decode cL_law 456 = .ok (.iconst 2, 1) := by decide +kernel
theorem dL_law_457 : decode cL_law 457 = .ok (.iadd, 1) := by decide +kernel
theorem dL_law_458 : decode cL_law 458 = .ok (.iaload, 1) := by decide +kernel
theorem dL_law_459 : decode cL_law 459 = .ok (.aload_n 0, 1) := by decide +kernel
theorem dL_law_460 : decode cL_law 460 = .ok (.iload_n 3, 1) := by decide +kernel
theorem dL_law_461 : decode cL_law 461 = .ok (.iconst 3, 1) := by decide +kernel
theorem dL_law_462 : decode cL_law 462 = .ok (.iadd, 1) := by decide +kernel
theorem dL_law_463 : decode cL_law 463 = .ok (.iaload, 1) := by decide +kernel
theorem dL_law_464 : decode cL_law 464 = .ok (.invokevirtual 51, 3) := by decide +kernel
theorem dL_law_467 : decode cL_law 467 = .ok (.aload_n 2, 1) := by decide +kernel
theorem dL_law_468 : decode cL_law 468 = .ok (.aload_n 0, 1) := by decide +kernel
theorem dL_law_469 : decode cL_law 469 = .ok (.iload_n 3, 1) := by decide +kernel
theorem dL_law_470 : decode cL_law 470 = .ok (.iconst 1, 1) := by decide +kernel
theorem dL_law_471 : decode cL_law 471 = .ok (.iadd, 1) := by decide +kernel
theorem dL_law_472 : decode cL_law 472 = .ok (.iaload, 1) := by decide +kernel
theorem dL_law_473 : decode cL_law 473 = .ok (.aload_n 0, 1) := by decide +kernel
theorem dL_law_474 : decode cL_law 474 = .ok (.iload_n 3, 1) := by decide +kernel
theorem dL_law_475 : decode cL_law 475 = .ok (.iconst 2, 1) := by decide +kernel
theorem dL_law_476 : decode cL_law 476 = .ok (.iadd, 1) := by decide +kernel
theorem dL_law_477 : decode cL_law 477 = .ok (.iaload, 1) := by decide +kernel
theorem dL_law_478 : decode cL_law 478 = .ok (.aload_n 0, 1) := by decide +kernel
theorem dL_law_479 : decode cL_law 479 = .ok (.iload_n 3, 1) := by decide +kernel
theorem dL_law_480 : decode cL_law 480 = .ok (.iconst 3, 1) := by decide +kernel
theorem dL_law_481 : decode cL_law 481 = .ok (.iadd, 1) := by decide +kernel
theorem dL_law_482 : decode cL_law 482 = .ok (.iaload, 1) := by decide +kernel
theorem dL_law_483 : decode cL_law 483 = .ok (.invokevirtual 55, 3) := by decide +kernel
theorem dL_law_486 : decode cL_law 486 = .ok (.if_icmp .eq 580, 3) := by decide +kernel
theorem dL_law_489 : decode cL_law 489 = .ok (.iconst 0, 1) := by decide +kernel
theorem dL_law_490 : decode cL_law 490 = .ok (.ireturn, 1) := by decide +kernel
theorem dL_law_491 : decode cL_law 491 = .ok (.aload_n 1, 1) := by decide +kernel
theorem dL_law_492 : decode cL_law 492 = .ok (.aload_n 0, 1) := by decide +kernel
theorem dL_law_493 : decode cL_law 493 = .ok (.iload_n 3, 1) := by decide +kernel
theorem dL_law_494 : decode cL_law 494 = .ok (.iconst 1, 1) := by decide +kernel
theorem dL_law_495 : decode cL_law 495 = .ok (.iadd, 1) := by decide +kernel
theorem dL_law_496 : decode cL_law 496 = .ok (.iaload, 1) := by decide +kernel
theorem dL_law_497 : decode cL_law 497 = .ok (.invokevirtual 56, 3) := by decide +kernel
theorem dL_law_500 : decode cL_law 500 = .ok (.aload_n 2, 1) := by decide +kernel
theorem dL_law_501 : decode cL_law 501 = .ok (.aload_n 0, 1) := by decide +kernel
theorem dL_law_502 : decode cL_law 502 = .ok (.iload_n 3, 1) := by decide +kernel
theorem dL_law_503 : decode cL_law 503 = .ok (.iconst 1, 1) := by decide +kernel
theorem dL_law_504 : decode cL_law 504 = .ok (.iadd, 1) := by decide +kernel
theorem dL_law_505 : decode cL_law 505 = .ok (.iaload, 1) := by decide +kernel
theorem dL_law_506 : decode cL_law 506 = .ok (.invokevirtual 59, 3) := by decide +kernel
theorem dL_law_509 : decode cL_law 509 = .ok (.if_icmp .eq 557, 3) := by decide +kernel
theorem dL_law_512 : decode cL_law 512 = .ok (.iconst 0, 1) := by decide +kernel
theorem dL_law_513 : decode cL_law 513 = .ok (.ireturn, 1) := by decide +kernel
theorem dL_law_514 : decode cL_law 514 = .ok (.aload_n 1, 1) := by decide +kernel
theorem dL_law_515 : decode cL_law 515 = .ok (.aload_n 0, 1) := by decide +kernel
theorem dL_law_516 : decode cL_law 516 = .ok (.iload_n 3, 1) := by decide +kernel
theorem dL_law_517 : decode cL_law 517 = .ok (.iconst 1, 1) := by decide +kernel
theorem dL_law_518 : decode cL_law 518 = .ok (.iadd, 1) := by decide +kernel
theorem dL_law_519 : decode cL_law 519 = .ok (.iaload, 1) := by decide +kernel
theorem dL_law_520 : decode cL_law 520 = .ok (.invokevirtual 60, 3) := by decide +kernel
theorem dL_law_523 : decode cL_law 523 = .ok (.aload_n 2, 1) := by decide +kernel
theorem dL_law_524 : decode cL_law 524 = .ok (.aload_n 0, 1) := by decide +kernel
theorem dL_law_525 : decode cL_law 525 = .ok (.iload_n 3, 1) := by decide +kernel
theorem dL_law_526 : decode cL_law 526 = .ok (.iconst 1, 1) := by decide +kernel
theorem dL_law_527 : decode cL_law 527 = .ok (.iadd, 1) := by decide +kernel
theorem dL_law_528 : decode cL_law 528 = .ok (.iaload, 1) := by decide +kernel
theorem dL_law_529 : decode cL_law 529 = .ok (.invokevirtual 63, 3) := by decide +kernel
theorem dL_law_532 : decode cL_law 532 = .ok (.if_icmp .eq 534, 3) := by decide +kernel
theorem dL_law_535 : decode cL_law 535 = .ok (.iconst 0, 1) := by decide +kernel
theorem dL_law_536 : decode cL_law 536 = .ok (.ireturn, 1) := by decide +kernel
theorem dL_law_537 : decode cL_law 537 = .ok (.aload_n 1, 1) := by decide +kernel
theorem dL_law_538 : decode cL_law 538 = .ok (.aload_n 0, 1) := by decide +kernel
theorem dL_law_539 : decode cL_law 539 = .ok (.iload_n 3, 1) := by decide +kernel
theorem dL_law_540 : decode cL_law 540 = .ok (.iconst 1, 1) := by decide +kernel
theorem dL_law_541 : decode cL_law 541 = .ok (.iadd, 1) := by decide +kernel
theorem dL_law_542 : decode cL_law 542 = .ok (.iaload, 1) := by decide +kernel
theorem dL_law_543 : decode cL_law 543 = .ok (.invokevirtual 64, 3) := by decide +kernel
theorem dL_law_546 : decode cL_law 546 = .ok (.aload_n 2, 1) := by decide +kernel
theorem dL_law_547 : decode cL_law 547 = .ok (.aload_n 0, 1) := by decide +kernel
theorem dL_law_548 : decode cL_law 548 = .ok (.iload_n 3, 1) := by decide +kernel
theorem dL_law_549 : decode cL_law 549 = .ok (.iconst 1, 1) := by decide +kernel
theorem dL_law_550 : decode cL_law 550 = .ok (.iadd, 1) := by decide +kernel
theorem dL_law_551 : decode cL_law 551 = .ok (.iaload, 1) := by decide +kernel
theorem dL_law_552 : decode cL_law 552 = .ok (.invokevirtual 67, 3) := by decide +kernel
theorem dL_law_555 : decode cL_law 555 = .ok (.if_icmp .eq 511, 3) := by decide +kernel
theorem dL_law_558 : decode cL_law 558 = .ok (.iconst 0, 1) := by decide +kernel
theorem dL_law_559 : decode cL_law 559 = .ok (.ireturn, 1) := by decide +kernel
theorem dL_law_560 : decode cL_law 560 = .ok (.aload_n 1, 1) := by decide +kernel
theorem dL_law_561 : decode cL_law 561 = .ok (.aload_n 0, 1) := by decide +kernel
theorem dL_law_562 : decode cL_law 562 = .ok (.iload_n 3, 1) := by decide +kernel
theorem dL_law_563 : decode cL_law 563 = .ok (.iconst 1, 1) := by decide +kernel
theorem dL_law_564 : decode cL_law 564 = .ok (.iadd, 1) := by decide +kernel
theorem dL_law_565 : decode cL_law 565 = .ok (.iaload, 1) := by decide +kernel
theorem dL_law_566 : decode cL_law 566 = .ok (.invokevirtual 68, 3) := by decide +kernel
theorem dL_law_569 : decode cL_law 569 = .ok (.aload_n 2, 1) := by decide +kernel
theorem dL_law_570 : decode cL_law 570 = .ok (.aload_n 0, 1) := by decide +kernel
theorem dL_law_571 : decode cL_law 571 = .ok (.iload_n 3, 1) := by decide +kernel
theorem dL_law_572 : decode cL_law 572 = .ok (.iconst 1, 1) := by decide +kernel
theorem dL_law_573 : decode cL_law 573 = .ok (.iadd, 1) := by decide +kernel
theorem dL_law_574 : decode cL_law 574 = .ok (.iaload, 1) := by decide +kernel
theorem dL_law_575 : decode cL_law 575 = .ok (.invokevirtual 71, 3) := by decide +kernel
theorem dL_law_578 : decode cL_law 578 = .ok (.if_icmp .eq 488, 3) := by decide +kernel
theorem dL_law_581 : decode cL_law 581 = .ok (.iconst 0, 1) := by decide +kernel
theorem dL_law_582 : decode cL_law 582 = .ok (.ireturn, 1) := by decide +kernel
theorem dL_law_583 : decode cL_law 583 = .ok (.aload_n 1, 1) := by decide +kernel
theorem dL_law_584 : decode cL_law 584 = .ok (.invokevirtual 72, 3) := by decide +kernel
theorem dL_law_587 : decode cL_law 587 = .ok (.aload_n 2, 1) := by decide +kernel
theorem dL_law_588 : decode cL_law 588 = .ok (.invokevirtual 75, 3) := by decide +kernel
theorem dL_law_591 : decode cL_law 591 = .ok (.if_icmp .eq 475, 3) := by decide +kernel
theorem dL_law_594 : decode cL_law 594 = .ok (.iconst 0, 1) := by decide +kernel
theorem dL_law_595 : decode cL_law 595 = .ok (.ireturn, 1) := by decide +kernel
theorem dL_law_596 : decode cL_law 596 = .ok (.aload_n 1, 1) := by decide +kernel
theorem dL_law_597 : decode cL_law 597 = .ok (.aload_n 0, 1) := by decide +kernel
theorem dL_law_598 : decode cL_law 598 = .ok (.iload_n 3, 1) := by decide +kernel
theorem dL_law_599 : decode cL_law 599 = .ok (.iconst 1, 1) := by decide +kernel
theorem dL_law_600 : decode cL_law 600 = .ok (.iadd, 1) := by decide +kernel
theorem dL_law_601 : decode cL_law 601 = .ok (.iaload, 1) := by decide +kernel
theorem dL_law_602 : decode cL_law 602 = .ok (.invokevirtual 76, 3) := by decide +kernel
theorem dL_law_605 : decode cL_law 605 = .ok (.aload_n 2, 1) := by decide +kernel
theorem dL_law_606 : decode cL_law 606 = .ok (.aload_n 0, 1) := by decide +kernel
theorem dL_law_607 : decode cL_law 607 = .ok (.iload_n 3, 1) := by decide +kernel
theorem dL_law_608 : decode cL_law 608 = .ok (.iconst 1, 1) := by decide +kernel
theorem dL_law_609 : decode cL_law 609 = .ok (.iadd, 1) := by decide +kernel
theorem dL_law_610 : decode cL_law 610 = .ok (.iaload, 1) := by decide +kernel
theorem dL_law_611 : decode cL_law 611 = .ok (.invokevirtual 79, 3) := by decide +kernel
theorem dL_law_614 : decode cL_law 614 = .ok (.if_icmp .eq 452, 3) := by decide +kernel
theorem dL_law_617 : decode cL_law 617 = .ok (.iconst 0, 1) := by decide +kernel
theorem dL_law_618 : decode cL_law 618 = .ok (.ireturn, 1) := by decide +kernel
theorem dL_law_619 : decode cL_law 619 = .ok (.aload_n 1, 1) := by decide +kernel
theorem dL_law_620 : decode cL_law 620 = .ok (.aload_n 0, 1) := by decide +kernel
theorem dL_law_621 : decode cL_law 621 = .ok (.iload_n 3, 1) := by decide +kernel
theorem dL_law_622 : decode cL_law 622 = .ok (.iconst 1, 1) := by decide +kernel
theorem dL_law_623 : decode cL_law 623 = .ok (.iadd, 1) := by decide +kernel
theorem dL_law_624 : decode cL_law 624 = .ok (.iaload, 1) := by decide +kernel
theorem dL_law_625 : decode cL_law 625 = .ok (.invokevirtual 80, 3) := by decide +kernel
theorem dL_law_628 : decode cL_law 628 = .ok (.aload_n 2, 1) := by decide +kernel
theorem dL_law_629 : decode cL_law 629 = .ok (.aload_n 0, 1) := by decide +kernel
theorem dL_law_630 : decode cL_law 630 = .ok (.iload_n 3, 1) := by decide +kernel
theorem dL_law_631 : decode cL_law 631 = .ok (.iconst 1, 1) := by decide +kernel
theorem dL_law_632 : decode cL_law 632 = .ok (.iadd, 1) := by decide +kernel
theorem dL_law_633 : decode cL_law 633 = .ok (.iaload, 1) := by decide +kernel
theorem dL_law_634 : decode cL_law 634 = .ok (.invokevirtual 83, 3) := by decide +kernel
theorem dL_law_637 : decode cL_law 637 = .ok (.if_icmp .eq 429, 3) := by decide +kernel
theorem dL_law_640 : decode cL_law 640 = .ok (.iconst 0, 1) := by decide +kernel
theorem dL_law_641 : decode cL_law 641 = .ok (.ireturn, 1) := by decide +kernel
theorem dL_law_642 : decode cL_law 642 = .ok (.aload_n 1, 1) := by decide +kernel
theorem dL_law_643 : decode cL_law 643 = .ok (.invokevirtual 84, 3) := by decide +kernel
theorem dL_law_646 : decode cL_law 646 = .ok (.aload_n 2, 1) := by decide +kernel
theorem dL_law_647 : decode cL_law 647 = .ok (.invokevirtual 87, 3) := by decide +kernel
theorem dL_law_650 : decode cL_law 650 = .ok (.if_icmp .eq 416, 3) := by decide +kernel
theorem dL_law_653 : decode cL_law 653 = .ok (.iconst 0, 1) := by decide +kernel
theorem dL_law_654 : decode cL_law 654 = .ok (.ireturn, 1) := by decide +kernel
theorem dL_law_655 : decode cL_law 655 = .ok (.aload_n 1, 1) := by decide +kernel
theorem dL_law_656 : decode cL_law 656 = .ok (.aload_n 0, 1) := by decide +kernel
theorem dL_law_657 : decode cL_law 657 = .ok (.iload_n 3, 1) := by decide +kernel
theorem dL_law_658 : decode cL_law 658 = .ok (.iconst 1, 1) := by decide +kernel
theorem dL_law_659 : decode cL_law 659 = .ok (.iadd, 1) := by decide +kernel
theorem dL_law_660 : decode cL_law 660 = .ok (.iaload, 1) := by decide +kernel
theorem dL_law_661 : decode cL_law 661 = .ok (.invokevirtual 88, 3) := by decide +kernel
theorem dL_law_664 : decode cL_law 664 = .ok (.aload_n 2, 1) := by decide +kernel
theorem dL_law_665 : decode cL_law 665 = .ok (.aload_n 0, 1) := by decide +kernel
theorem dL_law_666 : decode cL_law 666 = .ok (.iload_n 3, 1) := by decide +kernel
theorem dL_law_667 : decode cL_law 667 = .ok (.iconst 1, 1) := by decide +kernel
theorem dL_law_668 : decode cL_law 668 = .ok (.iadd, 1) := by decide +kernel
theorem dL_law_669 : decode cL_law 669 = .ok (.iaload, 1) := by decide +kernel
theorem dL_law_670 : decode cL_law 670 = .ok (.invokevirtual 91, 3) := by decide +kernel
theorem dL_law_673 : decode cL_law 673 = .ok (.if_icmp .eq 393, 3) := by decide +kernel
theorem dL_law_676 : decode cL_law 676 = .ok (.iconst 0, 1) := by decide +kernel
theorem dL_law_677 : decode cL_law 677 = .ok (.ireturn, 1) := by decide +kernel
theorem dL_law_678 : decode cL_law 678 = .ok (.aload_n 1, 1) := by decide +kernel
theorem dL_law_679 : decode cL_law 679 = .ok (.invokevirtual 92, 3) := by decide +kernel
theorem dL_law_682 : decode cL_law 682 = .ok (.aload_n 2, 1) := by decide +kernel
theorem dL_law_683 : decode cL_law 683 = .ok (.invokevirtual 95, 3) := by decide +kernel
theorem dL_law_686 : decode cL_law 686 = .ok (.if_icmp .eq 380, 3) := by decide +kernel
theorem dL_law_689 : decode cL_law 689 = .ok (.iconst 0, 1) := by decide +kernel
theorem dL_law_690 : decode cL_law 690 = .ok (.ireturn, 1) := by decide +kernel
theorem dL_law_691 : decode cL_law 691 = .ok (.aload_n 1, 1) := by decide +kernel
theorem dL_law_692 : decode cL_law 692 = .ok (.aload_n 0, 1) := by decide +kernel
theorem dL_law_693 : decode cL_law 693 = .ok (.iload_n 3, 1) := by decide +kernel
theorem dL_law_694 : decode cL_law 694 = .ok (.iconst 1, 1) := by decide +kernel
theorem dL_law_695 : decode cL_law 695 = .ok (.iadd, 1) := by decide +kernel
theorem dL_law_696 : decode cL_law 696 = .ok (.iaload, 1) := by decide +kernel
theorem dL_law_697 : decode cL_law 697 = .ok (.aload_n 0, 1) := by decide +kernel
theorem dL_law_698 : decode cL_law 698 = .ok (.iload_n 3, 1) := by decide +kernel
theorem dL_law_699 : decode cL_law 699 = .ok (.iconst 2, 1) := by decide +kernel
theorem dL_law_700 : decode cL_law 700 = .ok (.iadd, 1) := by decide +kernel
theorem dL_law_701 : decode cL_law 701 = .ok (.iaload, 1) := by decide +kernel
theorem dL_law_702 : decode cL_law 702 = .ok (.aload_n 0, 1) := by decide +kernel
theorem dL_law_703 : decode cL_law 703 = .ok (.iload_n 3, 1) := by decide +kernel
theorem dL_law_704 : decode cL_law 704 = .ok (.iconst 3, 1) := by decide +kernel
theorem dL_law_705 : decode cL_law 705 = .ok (.iadd, 1) := by decide +kernel
theorem dL_law_706 : decode cL_law 706 = .ok (.iaload, 1) := by decide +kernel
theorem dL_law_707 : decode cL_law 707 = .ok (.invokevirtual 96, 3) := by decide +kernel
theorem dL_law_710 : decode cL_law 710 = .ok (.aload_n 2, 1) := by decide +kernel
theorem dL_law_711 : decode cL_law 711 = .ok (.aload_n 0, 1) := by decide +kernel
theorem dL_law_712 : decode cL_law 712 = .ok (.iload_n 3, 1) := by decide +kernel
theorem dL_law_713 : decode cL_law 713 = .ok (.iconst 1, 1) := by decide +kernel
theorem dL_law_714 : decode cL_law 714 = .ok (.iadd, 1) := by decide +kernel
theorem dL_law_715 : decode cL_law 715 = .ok (.iaload, 1) := by decide +kernel
theorem dL_law_716 : decode cL_law 716 = .ok (.aload_n 0, 1) := by decide +kernel
theorem dL_law_717 : decode cL_law 717 = .ok (.iload_n 3, 1) := by decide +kernel
theorem dL_law_718 : decode cL_law 718 = .ok (.iconst 2, 1) := by decide +kernel
theorem dL_law_719 : decode cL_law 719 = .ok (.iadd, 1) := by decide +kernel
theorem dL_law_720 : decode cL_law 720 = .ok (.iaload, 1) := by decide +kernel
theorem dL_law_721 : decode cL_law 721 = .ok (.aload_n 0, 1) := by decide +kernel
theorem dL_law_722 : decode cL_law 722 = .ok (.iload_n 3, 1) := by decide +kernel
theorem dL_law_723 : decode cL_law 723 = .ok (.iconst 3, 1) := by decide +kernel
theorem dL_law_724 : decode cL_law 724 = .ok (.iadd, 1) := by decide +kernel
theorem dL_law_725 : decode cL_law 725 = .ok (.iaload, 1) := by decide +kernel
theorem dL_law_726 : decode cL_law 726 = .ok (.invokevirtual 99, 3) := by decide +kernel
theorem dL_law_729 : decode cL_law 729 = .ok (.if_icmp .eq 337, 3) := by decide +kernel
theorem dL_law_732 : decode cL_law 732 = .ok (.iconst 0, 1) := by decide +kernel
theorem dL_law_733 : decode cL_law 733 = .ok (.ireturn, 1) := by decide +kernel
theorem dL_law_734 : decode cL_law 734 = .ok (.aload_n 1, 1) := by decide +kernel
theorem dL_law_735 : decode cL_law 735 = .ok (.aload_n 0, 1) := by decide +kernel
theorem dL_law_736 : decode cL_law 736 = .ok (.iload_n 3, 1) := by decide +kernel
theorem dL_law_737 : decode cL_law 737 = .ok (.iconst 1, 1) := by decide +kernel
theorem dL_law_738 : decode cL_law 738 = .ok (.iadd, 1) := by decide +kernel
theorem dL_law_739 : decode cL_law 739 = .ok (.iaload, 1) := by decide +kernel
theorem dL_law_740 : decode cL_law 740 = .ok (.invokevirtual 100, 3) := by decide +kernel
theorem dL_law_743 : decode cL_law 743 = .ok (.aload_n 2, 1) := by decide +kernel
theorem dL_law_744 : decode cL_law 744 = .ok (.aload_n 0, 1) := by decide +kernel
theorem dL_law_745 : decode cL_law 745 = .ok (.iload_n 3, 1) := by decide +kernel
theorem dL_law_746 : decode cL_law 746 = .ok (.iconst 1, 1) := by decide +kernel
theorem dL_law_747 : decode cL_law 747 = .ok (.iadd, 1) := by decide +kernel
theorem dL_law_748 : decode cL_law 748 = .ok (.iaload, 1) := by decide +kernel
theorem dL_law_749 : decode cL_law 749 = .ok (.invokevirtual 103, 3) := by decide +kernel
theorem dL_law_752 : decode cL_law 752 = .ok (.if_icmp .eq 314, 3) := by decide +kernel
theorem dL_law_755 : decode cL_law 755 = .ok (.iconst 0, 1) := by decide +kernel
theorem dL_law_756 : decode cL_law 756 = .ok (.ireturn, 1) := by decide +kernel
theorem dL_law_757 : decode cL_law 757 = .ok (.aload_n 1, 1) := by decide +kernel
theorem dL_law_758 : decode cL_law 758 = .ok (.aload_n 0, 1) := by decide +kernel
theorem dL_law_759 : decode cL_law 759 = .ok (.iload_n 3, 1) := by decide +kernel
theorem dL_law_760 : decode cL_law 760 = .ok (.iconst 1, 1) := by decide +kernel
theorem dL_law_761 : decode cL_law 761 = .ok (.iadd, 1) := by decide +kernel
theorem dL_law_762 : decode cL_law 762 = .ok (.iaload, 1) := by decide +kernel
theorem dL_law_763 : decode cL_law 763 = .ok (.aload_n 0, 1) := by decide +kernel
theorem dL_law_764 : decode cL_law 764 = .ok (.iload_n 3, 1) := by decide +kernel
theorem dL_law_765 : decode cL_law 765 = .ok (.iconst 2, 1) := by decide +kernel
theorem dL_law_766 : decode cL_law 766 = .ok (.iadd, 1) := by decide +kernel
theorem dL_law_767 : decode cL_law 767 = .ok (.iaload, 1) := by decide +kernel
theorem dL_law_768 : decode cL_law 768 = .ok (.invokevirtual 104, 3) := by decide +kernel
theorem dL_law_771 : decode cL_law 771 = .ok (.aload_n 2, 1) := by decide +kernel
theorem dL_law_772 : decode cL_law 772 = .ok (.aload_n 0, 1) := by decide +kernel
theorem dL_law_773 : decode cL_law 773 = .ok (.iload_n 3, 1) := by decide +kernel
theorem dL_law_774 : decode cL_law 774 = .ok (.iconst 1, 1) := by decide +kernel
theorem dL_law_775 : decode cL_law 775 = .ok (.iadd, 1) := by decide +kernel
theorem dL_law_776 : decode cL_law 776 = .ok (.iaload, 1) := by decide +kernel
theorem dL_law_777 : decode cL_law 777 = .ok (.aload_n 0, 1) := by decide +kernel
theorem dL_law_778 : decode cL_law 778 = .ok (.iload_n 3, 1) := by decide +kernel
theorem dL_law_779 : decode cL_law 779 = .ok (.iconst 2, 1) := by decide +kernel
theorem dL_law_780 : decode cL_law 780 = .ok (.iadd, 1) := by decide +kernel
theorem dL_law_781 : decode cL_law 781 = .ok (.iaload, 1) := by decide +kernel
theorem dL_law_782 : decode cL_law 782 = .ok (.invokevirtual 107, 3) := by decide +kernel
theorem dL_law_785 : decode cL_law 785 = .ok (.if_icmp .eq 281, 3) := by decide +kernel
theorem dL_law_788 : decode cL_law 788 = .ok (.iconst 0, 1) := by decide +kernel
theorem dL_law_789 : decode cL_law 789 = .ok (.ireturn, 1) := by decide +kernel
theorem dL_law_790 : decode cL_law 790 = .ok (.aload_n 1, 1) := by decide +kernel
theorem dL_law_791 : decode cL_law 791 = .ok (.aload_n 0, 1) := by decide +kernel
theorem dL_law_792 : decode cL_law 792 = .ok (.iload_n 3, 1) := by decide +kernel
theorem dL_law_793 : decode cL_law 793 = .ok (.iconst 1, 1) := by decide +kernel
theorem dL_law_794 : decode cL_law 794 = .ok (.iadd, 1) := by decide +kernel
theorem dL_law_795 : decode cL_law 795 = .ok (.iaload, 1) := by decide +kernel
theorem dL_law_796 : decode cL_law 796 = .ok (.invokevirtual 108, 3) := by decide +kernel
theorem dL_law_799 : decode cL_law 799 = .ok (.aload_n 2, 1) := by decide +kernel
theorem dL_law_800 : decode cL_law 800 = .ok (.aload_n 0, 1) := by decide +kernel
theorem dL_law_801 : decode cL_law 801 = .ok (.iload_n 3, 1) := by decide +kernel
theorem dL_law_802 : decode cL_law 802 = .ok (.iconst 1, 1) := by decide +kernel
theorem dL_law_803 : decode cL_law 803 = .ok (.iadd, 1) := by decide +kernel
theorem dL_law_804 : decode cL_law 804 = .ok (.iaload, 1) := by decide +kernel
theorem dL_law_805 : decode cL_law 805 = .ok (.invokevirtual 111, 3) := by decide +kernel
theorem dL_law_808 : decode cL_law 808 = .ok (.if_icmp .eq 258, 3) := by decide +kernel
theorem dL_law_811 : decode cL_law 811 = .ok (.iconst 0, 1) := by decide +kernel
theorem dL_law_812 : decode cL_law 812 = .ok (.ireturn, 1) := by decide +kernel
theorem dL_law_813 : decode cL_law 813 = .ok (.aload_n 1, 1) := by decide +kernel
theorem dL_law_814 : decode cL_law 814 = .ok (.aload_n 0, 1) := by decide +kernel
theorem dL_law_815 : decode cL_law 815 = .ok (.iload_n 3, 1) := by decide +kernel
theorem dL_law_816 : decode cL_law 816 = .ok (.iconst 1, 1) := by decide +kernel
theorem dL_law_817 : decode cL_law 817 = .ok (.iadd, 1) := by decide +kernel
theorem dL_law_818 : decode cL_law 818 = .ok (.iaload, 1) := by decide +kernel
theorem dL_law_819 : decode cL_law 819 = .ok (.aload_n 0, 1) := by decide +kernel
theorem dL_law_820 : decode cL_law 820 = .ok (.iload_n 3, 1) := by decide +kernel
theorem dL_law_821 : decode cL_law 821 = .ok (.iconst 2, 1) := by decide +kernel
theorem dL_law_822 : decode cL_law 822 = .ok (.iadd, 1) := by decide +kernel
theorem dL_law_823 : decode cL_law 823 = .ok (.iaload, 1) := by decide +kernel
theorem dL_law_824 : decode cL_law 824 = .ok (.invokevirtual 112, 3) := by decide +kernel
theorem dL_law_827 : decode cL_law 827 = .ok (.aload_n 2, 1) := by decide +kernel
theorem dL_law_828 : decode cL_law 828 = .ok (.aload_n 0, 1) := by decide +kernel
theorem dL_law_829 : decode cL_law 829 = .ok (.iload_n 3, 1) := by decide +kernel
theorem dL_law_830 : decode cL_law 830 = .ok (.iconst 1, 1) := by decide +kernel
theorem dL_law_831 : decode cL_law 831 = .ok (.iadd, 1) := by decide +kernel
theorem dL_law_832 : decode cL_law 832 = .ok (.iaload, 1) := by decide +kernel
theorem dL_law_833 : decode cL_law 833 = .ok (.aload_n 0, 1) := by decide +kernel
theorem dL_law_834 : decode cL_law 834 = .ok (.iload_n 3, 1) := by decide +kernel
theorem dL_law_835 : decode cL_law 835 = .ok (.iconst 2, 1) := by decide +kernel
theorem dL_law_836 : decode cL_law 836 = .ok (.iadd, 1) := by decide +kernel
theorem dL_law_837 : decode cL_law 837 = .ok (.iaload, 1) := by decide +kernel
theorem dL_law_838 : decode cL_law 838 = .ok (.invokevirtual 115, 3) := by decide +kernel
theorem dL_law_841 : decode cL_law 841 = .ok (.if_icmp .eq 225, 3) := by decide +kernel
theorem dL_law_844 : decode cL_law 844 = .ok (.iconst 0, 1) := by decide +kernel
theorem dL_law_845 : decode cL_law 845 = .ok (.ireturn, 1) := by decide +kernel
theorem dL_law_846 : decode cL_law 846 = .ok (.aload_n 1, 1) := by decide +kernel
theorem dL_law_847 : decode cL_law 847 = .ok (.invokevirtual 116, 3) := by decide +kernel
theorem dL_law_850 : decode cL_law 850 = .ok (.aload_n 2, 1) := by decide +kernel
theorem dL_law_851 : decode cL_law 851 = .ok (.invokevirtual 119, 3) := by decide +kernel
theorem dL_law_854 : decode cL_law 854 = .ok (.if_icmp .eq 212, 3) := by decide +kernel
theorem dL_law_857 : decode cL_law 857 = .ok (.iconst 0, 1) := by decide +kernel
theorem dL_law_858 : decode cL_law 858 = .ok (.ireturn, 1) := by decide +kernel
theorem dL_law_859 : decode cL_law 859 = .ok (.aload_n 1, 1) := by decide +kernel
theorem dL_law_860 : decode cL_law 860 = .ok (.aload_n 0, 1) := by decide +kernel
theorem dL_law_861 : decode cL_law 861 = .ok (.iload_n 3, 1) := by decide +kernel
theorem dL_law_862 : decode cL_law 862 = .ok (.iconst 1, 1) := by decide +kernel
theorem dL_law_863 : decode cL_law 863 = .ok (.iadd, 1) := by decide +kernel
theorem dL_law_864 : decode cL_law 864 = .ok (.iaload, 1) := by decide +kernel
theorem dL_law_865 : decode cL_law 865 = .ok (.aload_n 0, 1) := by decide +kernel
theorem dL_law_866 : decode cL_law 866 = .ok (.iload_n 3, 1) := by decide +kernel
theorem dL_law_867 : decode cL_law 867 = .ok (.iconst 2, 1) := by decide +kernel
theorem dL_law_868 : decode cL_law 868 = .ok (.iadd, 1) := by decide +kernel
theorem dL_law_869 : decode cL_law 869 = .ok (.iaload, 1) := by decide +kernel
theorem dL_law_870 : decode cL_law 870 = .ok (.invokevirtual 120, 3) := by decide +kernel
theorem dL_law_873 : decode cL_law 873 = .ok (.aload_n 2, 1) := by decide +kernel
theorem dL_law_874 : decode cL_law 874 = .ok (.aload_n 0, 1) := by decide +kernel
theorem dL_law_875 : decode cL_law 875 = .ok (.iload_n 3, 1) := by decide +kernel
theorem dL_law_876 : decode cL_law 876 = .ok (.iconst 1, 1) := by decide +kernel
theorem dL_law_877 : decode cL_law 877 = .ok (.iadd, 1) := by decide +kernel
theorem dL_law_878 : decode cL_law 878 = .ok (.iaload, 1) := by decide +kernel
theorem dL_law_879 : decode cL_law 879 = .ok (.aload_n 0, 1) := by decide +kernel
theorem dL_law_880 : decode cL_law 880 = .ok (.iload_n 3, 1) := by decide +kernel
theorem dL_law_881 : decode cL_law 881 = .ok (.iconst 2, 1) := by decide +kernel
theorem dL_law_882 : decode cL_law 882 = .ok (.iadd, 1) := by decide +kernel
theorem dL_law_883 : decode cL_law 883 = .ok (.iaload, 1) := by decide +kernel
theorem dL_law_884 : decode cL_law 884 = .ok (.invokevirtual 123, 3) := by decide +kernel
theorem dL_law_887 : decode cL_law 887 = .ok (.if_icmp .eq 179, 3) := by decide +kernel
theorem dL_law_890 : decode cL_law 890 = .ok (.iconst 0, 1) := by decide +kernel
theorem dL_law_891 : decode cL_law 891 = .ok (.ireturn, 1) := by decide +kernel
theorem dL_law_892 : decode cL_law 892 = .ok (.aload_n 1, 1) := by decide +kernel
theorem dL_law_893 : decode cL_law 893 = .ok (.aload_n 0, 1) := by decide +kernel
theorem dL_law_894 : decode cL_law 894 = .ok (.iload_n 3, 1) := by decide +kernel
theorem dL_law_895 : decode cL_law 895 = .ok (.iconst 1, 1) := by decide +kernel
theorem dL_law_896 : decode cL_law 896 = .ok (.iadd, 1) := by decide +kernel
theorem dL_law_897 : decode cL_law 897 = .ok (.iaload, 1) := by decide +kernel
theorem dL_law_898 : decode cL_law 898 = .ok (.aload_n 0, 1) := by decide +kernel
theorem dL_law_899 : decode cL_law 899 = .ok (.iload_n 3, 1) := by decide +kernel
theorem dL_law_900 : decode cL_law 900 = .ok (.iconst 2, 1) := by decide +kernel
theorem dL_law_901 : decode cL_law 901 = .ok (.iadd, 1) := by decide +kernel
theorem dL_law_902 : decode cL_law 902 = .ok (.iaload, 1) := by decide +kernel
theorem dL_law_903 : decode cL_law 903 = .ok (.invokevirtual 124, 3) := by decide +kernel
theorem dL_law_906 : decode cL_law 906 = .ok (.aload_n 2, 1) := by decide +kernel
theorem dL_law_907 : decode cL_law 907 = .ok (.aload_n 0, 1) := by decide +kernel
theorem dL_law_908 : decode cL_law 908 = .ok (.iload_n 3, 1) := by decide +kernel
theorem dL_law_909 : decode cL_law 909 = .ok (.iconst 1, 1) := by decide +kernel
theorem dL_law_910 : decode cL_law 910 = .ok (.iadd, 1) := by decide +kernel
theorem dL_law_911 : decode cL_law 911 = .ok (.iaload, 1) := by decide +kernel
theorem dL_law_912 : decode cL_law 912 = .ok (.aload_n 0, 1) := by decide +kernel
theorem dL_law_913 : decode cL_law 913 = .ok (.iload_n 3, 1) := by decide +kernel
theorem dL_law_914 : decode cL_law 914 = .ok (.iconst 2, 1) := by decide +kernel
theorem dL_law_915 : decode cL_law 915 = .ok (.iadd, 1) := by decide +kernel
theorem dL_law_916 : decode cL_law 916 = .ok (.iaload, 1) := by decide +kernel
theorem dL_law_917 : decode cL_law 917 = .ok (.invokevirtual 127, 3) := by decide +kernel
theorem dL_law_920 : decode cL_law 920 = .ok (.if_icmp .eq 146, 3) := by decide +kernel
theorem dL_law_923 : decode cL_law 923 = .ok (.iconst 0, 1) := by decide +kernel
theorem dL_law_924 : decode cL_law 924 = .ok (.ireturn, 1) := by decide +kernel
theorem dL_law_925 : decode cL_law 925 = .ok (.aload_n 1, 1) := by decide +kernel
theorem dL_law_926 : decode cL_law 926 = .ok (.invokevirtual 128, 3) := by decide +kernel
theorem dL_law_929 : decode cL_law 929 = .ok (.aload_n 2, 1) := by decide +kernel
theorem dL_law_930 : decode cL_law 930 = .ok (.invokevirtual 131, 3) := by decide +kernel
theorem dL_law_933 : decode cL_law 933 = .ok (.if_icmp .eq 133, 3) := by decide +kernel
theorem dL_law_936 : decode cL_law 936 = .ok (.iconst 0, 1) := by decide +kernel
theorem dL_law_937 : decode cL_law 937 = .ok (.ireturn, 1) := by decide +kernel
theorem dL_law_938 : decode cL_law 938 = .ok (.aload_n 1, 1) := by decide +kernel
theorem dL_law_939 : decode cL_law 939 = .ok (.aload_n 0, 1) := by decide +kernel
theorem dL_law_940 : decode cL_law 940 = .ok (.iload_n 3, 1) := by decide +kernel
theorem dL_law_941 : decode cL_law 941 = .ok (.iconst 1, 1) := by decide +kernel
theorem dL_law_942 : decode cL_law 942 = .ok (.iadd, 1) := by decide +kernel
theorem dL_law_943 : decode cL_law 943 = .ok (.iaload, 1) := by decide +kernel
theorem dL_law_944 : decode cL_law 944 = .ok (.aload_n 0, 1) := by decide +kernel
theorem dL_law_945 : decode cL_law 945 = .ok (.iload_n 3, 1) := by decide +kernel
theorem dL_law_946 : decode cL_law 946 = .ok (.iconst 2, 1) := by decide +kernel
theorem dL_law_947 : decode cL_law 947 = .ok (.iadd, 1) := by decide +kernel
theorem dL_law_948 : decode cL_law 948 = .ok (.iaload, 1) := by decide +kernel
theorem dL_law_949 : decode cL_law 949 = .ok (.invokevirtual 132, 3) := by decide +kernel
theorem dL_law_952 : decode cL_law 952 = .ok (.aload_n 2, 1) := by decide +kernel
theorem dL_law_953 : decode cL_law 953 = .ok (.aload_n 0, 1) := by decide +kernel
theorem dL_law_954 : decode cL_law 954 = .ok (.iload_n 3, 1) := by decide +kernel
theorem dL_law_955 : decode cL_law 955 = .ok (.iconst 1, 1) := by decide +kernel
theorem dL_law_956 : decode cL_law 956 = .ok (.iadd, 1) := by decide +kernel
theorem dL_law_957 : decode cL_law 957 = .ok (.iaload, 1) := by decide +kernel
theorem dL_law_958 : decode cL_law 958 = .ok (.aload_n 0, 1) := by decide +kernel
theorem dL_law_959 : decode cL_law 959 = .ok (.iload_n 3, 1) := by decide +kernel
theorem dL_law_960 : decode cL_law 960 = .ok (.iconst 2, 1) := by decide +kernel
theorem dL_law_961 : decode cL_law 961 = .ok (.iadd, 1) := by decide +kernel
theorem dL_law_962 : decode cL_law 962 = .ok (.iaload, 1) := by decide +kernel
theorem dL_law_963 : decode cL_law 963 = .ok (.invokevirtual 135, 3) := by decide +kernel
theorem dL_law_966 : decode cL_law 966 = .ok (.if_icmp .eq 100, 3) := by decide +kernel
theorem dL_law_969 : decode cL_law 969 = .ok (.iconst 0, 1) := by decide +kernel
theorem dL_law_970 : decode cL_law 970 = .ok (.ireturn, 1) := by decide +kernel
theorem dL_law_971 : decode cL_law 971 = .ok (.aload_n 1, 1) := by decide +kernel
theorem dL_law_972 : decode cL_law 972 = .ok (.aload_n 0, 1) := by decide +kernel
theorem dL_law_973 : decode cL_law 973 = .ok (.iload_n 3, 1) := by decide +kernel
theorem dL_law_974 : decode cL_law 974 = .ok (.iconst 1, 1) := by decide +kernel
theorem dL_law_975 : decode cL_law 975 = .ok (.iadd, 1) := by decide +kernel
theorem dL_law_976 : decode cL_law 976 = .ok (.iaload, 1) := by decide +kernel
theorem dL_law_977 : decode cL_law 977 = .ok (.invokevirtual 136, 3) := by decide +kernel
theorem dL_law_980 : decode cL_law 980 = .ok (.aload_n 2, 1) := by decide +kernel
theorem dL_law_981 : decode cL_law 981 = .ok (.aload_n 0, 1) := by decide +kernel
theorem dL_law_982 : decode cL_law 982 = .ok (.iload_n 3, 1) := by decide +kernel
theorem dL_law_983 : decode cL_law 983 = .ok (.iconst 1, 1) := by decide +kernel
theorem dL_law_984 : decode cL_law 984 = .ok (.iadd, 1) := by decide +kernel
theorem dL_law_985 : decode cL_law 985 = .ok (.iaload, 1) := by decide +kernel
theorem dL_law_986 : decode cL_law 986 = .ok (.invokevirtual 139, 3) := by decide +kernel
theorem dL_law_989 : decode cL_law 989 = .ok (.if_icmp .eq 77, 3) := by decide +kernel
theorem dL_law_992 : decode cL_law 992 = .ok (.iconst 0, 1) := by decide +kernel
theorem dL_law_993 : decode cL_law 993 = .ok (.ireturn, 1) := by decide +kernel
theorem dL_law_994 : decode cL_law 994 = .ok (.aload_n 1, 1) := by decide +kernel
theorem dL_law_995 : decode cL_law 995 = .ok (.aload_n 0, 1) := by decide +kernel
theorem dL_law_996 : decode cL_law 996 = .ok (.iload_n 3, 1) := by decide +kernel
theorem dL_law_997 : decode cL_law 997 = .ok (.iconst 1, 1) := by decide +kernel
theorem dL_law_998 : decode cL_law 998 = .ok (.iadd, 1) := by decide +kernel
theorem dL_law_999 : decode cL_law 999 = .ok (.iaload, 1) := by decide +kernel
theorem dL_law_1000 : decode cL_law 1000 = .ok (.invokevirtual 140, 3) := by decide +kernel
theorem dL_law_1003 : decode cL_law 1003 = .ok (.aload_n 2, 1) := by decide +kernel
theorem dL_law_1004 : decode cL_law 1004 = .ok (.aload_n 0, 1) := by decide +kernel
theorem dL_law_1005 : decode cL_law 1005 = .ok (.iload_n 3, 1) := by decide +kernel
theorem dL_law_1006 : decode cL_law 1006 = .ok (.iconst 1, 1) := by decide +kernel
theorem dL_law_1007 : decode cL_law 1007 = .ok (.iadd, 1) := by decide +kernel
theorem dL_law_1008 : decode cL_law 1008 = .ok (.iaload, 1) := by decide +kernel
theorem dL_law_1009 : decode cL_law 1009 = .ok (.invokevirtual 143, 3) := by decide +kernel
theorem dL_law_1012 : decode cL_law 1012 = .ok (.if_icmp .eq 54, 3) := by decide +kernel
theorem dL_law_1015 : decode cL_law 1015 = .ok (.iconst 0, 1) := by decide +kernel
theorem dL_law_1016 : decode cL_law 1016 = .ok (.ireturn, 1) := by decide +kernel
theorem dL_law_1017 : decode cL_law 1017 = .ok (.aload_n 1, 1) := by decide +kernel
theorem dL_law_1018 : decode cL_law 1018 = .ok (.invokevirtual 144, 3) := by decide +kernel
theorem dL_law_1021 : decode cL_law 1021 = .ok (.aload_n 2, 1) := by decide +kernel
theorem dL_law_1022 : decode cL_law 1022 = .ok (.invokevirtual 147, 3) := by decide +kernel
theorem dL_law_1025 : decode cL_law 1025 = .ok (.if_icmp .eq 41, 3) := by decide +kernel
theorem dL_law_1028 : decode cL_law 1028 = .ok (.iconst 0, 1) := by decide +kernel
theorem dL_law_1029 : decode cL_law 1029 = .ok (.ireturn, 1) := by decide +kernel
theorem dL_law_1030 : decode cL_law 1030 = .ok (.aload_n 1, 1) := by decide +kernel
theorem dL_law_1031 : decode cL_law 1031 = .ok (.invokevirtual 148, 3) := by decide +kernel
theorem dL_law_1034 : decode cL_law 1034 = .ok (.aload_n 2, 1) := by decide +kernel
theorem dL_law_1035 : decode cL_law 1035 = .ok (.invokevirtual 151, 3) := by decide +kernel
theorem dL_law_1038 : decode cL_law 1038 = .ok (.if_icmp .eq 28, 3) := by decide +kernel
theorem dL_law_1041 : decode cL_law 1041 = .ok (.iconst 0, 1) := by decide +kernel
theorem dL_law_1042 : decode cL_law 1042 = .ok (.ireturn, 1) := by decide +kernel
theorem dL_law_1043 : decode cL_law 1043 = .ok (.aload_n 1, 1) := by decide +kernel
theorem dL_law_1044 : decode cL_law 1044 = .ok (.aload_n 0, 1) := by decide +kernel
theorem dL_law_1045 : decode cL_law 1045 = .ok (.iload_n 3, 1) := by decide +kernel
theorem dL_law_1046 : decode cL_law 1046 = .ok (.iconst 1, 1) := by decide +kernel
theorem dL_law_1047 : decode cL_law 1047 = .ok (.iadd, 1) := by decide +kernel
theorem dL_law_1048 : decode cL_law 1048 = .ok (.iaload, 1) := by decide +kernel
theorem dL_law_1049 : decode cL_law 1049 = .ok (.invokevirtual 152, 3) := by decide +kernel
theorem dL_law_1052 : decode cL_law 1052 = .ok (.aload_n 2, 1) := by decide +kernel
theorem dL_law_1053 : decode cL_law 1053 = .ok (.aload_n 0, 1) := by decide +kernel
theorem dL_law_1054 : decode cL_law 1054 = .ok (.iload_n 3, 1) := by decide +kernel
theorem dL_law_1055 : decode cL_law 1055 = .ok (.iconst 1, 1) := by decide +kernel
theorem dL_law_1056 : decode cL_law 1056 = .ok (.iadd, 1) := by decide +kernel
theorem dL_law_1057 : decode cL_law 1057 = .ok (.iaload, 1) := by decide +kernel
theorem dL_law_1058 : decode cL_law 1058 = .ok (.invokevirtual 155, 3) := by decide +kernel
theorem dL_law_1061 : decode cL_law 1061 = .ok (.if_icmp .eq 5, 3) := by decide +kernel
theorem dL_law_1064 : decode cL_law 1064 = .ok (.iconst 0, 1) := by decide +kernel
theorem dL_law_1065 : decode cL_law 1065 = .ok (.ireturn, 1) := by decide +kernel
theorem dL_law_1066 : decode cL_law 1066 = .ok (.iinc 3 4, 3) := by decide +kernel
theorem dL_law_1069 : decode cL_law 1069 = .ok (.goto (-1051), 3) := by decide +kernel
theorem dL_law_1072 : decode cL_law 1072 = .ok (.iconst 1, 1) := by decide +kernel
theorem dL_law_1073 : decode cL_law 1073 = .ok (.ireturn, 1) := by decide +kernel
end
section
/-! THE CORE: a light judgement G over the machine's W: an abstract heap (count of cells, count of slots, shapes, int contents), relative addresses -/
abbrev mM : Type := Nat → Nat → Int32
/-- a cell's shape: an int row of a length; a row of int rows (how many, the first one's address: they lie one behind the other); an object (number of its kind, its fields: 0 an int, 1 null, r + 2 the cell r) -/
abbrev hSh : Type := Nat ⊕ ((Nat × Nat) ⊕ (Nat × List Nat))
abbrev aH : Type := Nat × Nat × (Nat → hSh) × mM
/-- launch; heap at the law's entry; kinds' tables; classes of int[] and int[][]; places of text constants and of their bytes; place of the static row -/
abbrev eV : Type := Launch × Heap × va_G × ClassId × ClassId × (Nat → Nat) × (Nat → Nat) × Nat
abbrev vL (V : eV) : Launch := V.1
abbrev vH (V : eV) : Heap := V.2.1
abbrev vB (V : eV) : Nat := V.2.1.size
abbrev vD (V : eV) : va_G := V.2.2.1
abbrev vI (V : eV) : ClassId := V.2.2.2.1
abbrev vJ (V : eV) : ClassId := V.2.2.2.2.1
abbrev vK (V : eV) : Nat → Nat := V.2.2.2.2.2.1
abbrev vV (V : eV) : Nat → Nat := V.2.2.2.2.2.2.1
abbrev vF (V : eV) : Nat := V.2.2.2.2.2.2.2
def vA (V : eV) : Nat → Prop := fun q => vB V ≤ q
def m_up (m : mM) (a i : Nat) (v : Int32) : mM := fun b j => if b = a ∧ j = i then v else m b j
theorem m_up_eq (m : mM) (a i : Nat) (v : Int32) : m_up m a i v a i = v := if_pos ⟨rfl, rfl⟩
theorem m_up_na {m : mM} {a i b j : Nat} {v : Int32} (h : b ≠ a) : m_up m a i v b j = m b j := if_neg (fun q => h q.1)
theorem m_up_ni {m : mM} {a i b j : Nat} {v : Int32} (h : j ≠ i) : m_up m a i v b j = m b j := if_neg (fun q => h q.2)
def m_clr (m : mM) (a : Nat) : mM := fun b j => if b = a then 0 else m b j
def m_clrs (m : mM) (a n : Nat) : mM := fun b j => if a ≤ b ∧ b < a + n then 0 else m b j
def s_up (f : Nat → hSh) (a : Nat) (x : hSh) : Nat → hSh := fun b => if b = a then x else f b
def s_ups (f : Nat → hSh) (a n : Nat) (x : hSh) : Nat → hSh := fun b => if a ≤ b ∧ b < a + n then x else f b
def f_v (B : Nat) (m : mM) (a k z : Nat) : Value := match z with
  | 0 => .int (m a k)
  | 1 => .null
  | r + 2 => .ref (B + r)
def c_A (V : eV) (h : aH) (a : Nat) (H : Heap) : Prop := match h.2.2.1 a with
  | .inl n => H[vB V + a]? = some (arrV (vI V) n (fun j => .int (h.2.2.2 a j)))
  | .inr (.inl (n, r)) => H[vB V + a]? = some (arrV (vJ V) n (fun j => .ref (vB V + (r + j))))
  | .inr (.inr (ci, fs)) => ∃ q : vw_C, vwCl[ci]? = some q ∧ t_OB (vB V + a) ((vD V).1 ci) q.2.2 ((vD V).2 ci) H (fun k => f_v (vB V) h.2.2.2 a k (fs.getD k 0))
def mT (V : eV) (h : aH) (H : Heap) : Prop := H.size = vB V + h.1 ∧ (∀ q : Nat, q < vB V → H[q]? = (vH V)[q]?) ∧ ∀ a : Nat, a < h.1 → c_A V h a H
/-- the tables' words that a warmer machine keeps -/
def tB : List Cond := lw_tbl.filter goodWord
theorem tB_in {w : Cond} (i : Nat) (h : lw_tbl[i]? = some w) (hg : goodWord w = true) : w ∈ tB := List.mem_filter.mpr ⟨List.mem_of_getElem? h, hg⟩
theorem tB_good {w : Cond} (h : w ∈ tB) : (w.onTables && w.keeps) = true ∨ ∃ ty, w = .arrayClass ty := good_of_word (List.mem_filter.mp h).2
def nwl : List Cond := lw_tbl.filter (fun w => match w with | .methodLinkNest _ _ _ _ => true | _ => false)
def txK : Nat → Nat × String := fun i => match i with
  | 0 => (66, "hDN-N;")
  | 1 => (68, "wDRD,N,N,D;")
  | 2 => (70, "pKDD;")
  | _ => (72, "oysjknt")
def txL : List Nat := [6, 11, 5, 7]
def txB : List (List Int32) := [[104, 68, 78, 45, 78, 59], [119, 68, 82, 68, 44, 78, 44, 78, 44, 68, 59], [112, 75, 68, 68, 59], [111, 121, 115, 106, 107, 110, 116]]
def fac6 : Nat → Int32 := fun j => [1, 1, 2, 6, 24, 120].getD j 0
/-- what the tables and the cells of the start say, at a state -/
def wK (V : eV) (U : State) : Prop := va_K (vD V) vwCl [(vI V, .int), (vJ V, .array .int)] U ∧ (∀ w ∈ nwl, va_Nw w U) ∧ (∀ i : Nat, i < 4 → vk_R RX6 (txK i).1 (txK i).2 (vK V i) U) ∧ vk_S 4 txL txB (vK V) (vV V) (vA V) U (vH V) ∧
  va_Z RX5 "FACTORIALS" "[I" (.ref (vF V)) (vA V) U (vH V) ∧ va_T .int (vF V) 6 (fun j => .int (fac6 j)) (vA V) U (vH V) ∧ va_Z "java/lang/String" "COMPACT_STRINGS" "Z" (.int 1) (vA V) U (vH V) ∧ va_Zq "jdk/internal/util/Preconditions" "SIOOBE_FORMATTER" "Ljava/util/function/BiFunction;" (vA V) U (vH V)
theorem nwl_nest {w : Cond} (h : w ∈ nwl) : ∃ a i x b, w = .methodLinkNest a i x b := by
  have h2 := (List.mem_filter.mp h).2
  cases w <;> first | exact ⟨_, _, _, _, rfl⟩ | cases h2
theorem wK_warm {V : eV} {s U : State} (hW : s.WarmedH U.vm) (h : wK V s) : wK V U := by
  obtain ⟨h1, h2, h3, h4, h5, h6, h7, h8⟩ := h
  refine ⟨va_K.moved hW.alike h1, fun w hw => ?_, fun i hi => vk_R.warm hW (h3 i hi), vk_S.moved hW.alike h4, va_Z.moved hW.alike h5, va_T.moved hW.alike h6, va_Z.moved hW.alike h7, va_Zq.moved hW.alike h8⟩
  obtain ⟨a, i, x, b, rfl⟩ := nwl_nest hw
  exact va_Nw.warmM hW (h2 _ hw)
theorem wK_same {V : eV} {s U : State} (hv : s.vm = U.vm) (h : wK V s) : wK V U := by
  obtain ⟨h1, h2, h3, h4, h5, h6, h7, h8⟩ := h
  have ha : s.vm.Alike U.vm := by rw [hv]; exact Vm.Alike.refl _
  refine ⟨va_K.moved ha h1, fun w hw => ?_, fun i hi => vk_R.same hv.symm (h3 i hi), vk_S.moved ha h4, va_Z.moved ha h5, va_T.moved ha h6, va_Z.moved ha h7, va_Zq.moved ha h8⟩
  obtain ⟨a, i, x, b, rfl⟩ := nwl_nest hw
  exact va_Nw.same rfl hv (h2 _ hw)
/-- a method: code, class, name, answer's type, locals, depth of calls -/
abbrev kX : Type := ByteArray × String × String × Option FieldType × Nat × Nat
def cX (V : eV) (K : kX) (p : Program) (R : Room) (s : State) (m : MethodId) (args : Array Value) (meth : Method) (c : Code) : Prop :=
  p.tables.exec = Jvm.exec ∧ c.code = K.1 ∧ c.maxLocals = K.2.2.2.2.1 ∧ meth.sig.returnType = K.2.2.2.1 ∧ meth.locks = false ∧ meth.name = K.2.2.1 ∧ s.vm.findClass K.2.1 = some m.cls ∧ (∀ w ∈ tB, w.before args s = true) ∧ wK V s ∧ K.2.2.2.2.2 ≤ R.frames ∧ 64 * K.2.2.2.2.2 ≤ R.locals
/-- an end: the instruction there gives this answer back -/
def rT (K : kX) (pc : Nat) (r : Option Value) : Prop := match r with
  | none => decode K.1 pc = .ok (.return_, 1) ∧ K.2.2.2.1 = none
  | some (.int v) => decode K.1 pc = .ok (.ireturn, 1) ∧ ∃ ty, K.2.2.2.1 = some ty ∧ narrow ty (.int v) = .int v
  | some (.ref _) => decode K.1 pc = .ok (.areturn, 1) ∧ ∃ nm, K.2.2.2.1 = some (.object nm)
  | _ => False
def gG (V : eV) (K : kX) (pc : Nat) (ls : List (Nat × Value)) (st : List Value) (h : aH) (r : Option Value) (h' : aH) : Prop :=
  (h.1 ≤ h'.1 ∧ h.2.1 ≤ h'.2.1) ∧ ∀ (p : Program) (e : Env) (R : Room) (s : State) (m : MethodId) (args : Array Value) (below : List Frame) (meth : Method) (c : Code) (H : Heap) (locs : List Loc) (lsA : Array Slot) (Q : State → Prop) (n0 u0 : Nat),
    cX V K p R s m args meth c → n0 ≤ h.1 → u0 ≤ h.2.1 → h'.1 - n0 ≤ R.cells → h'.2.1 - u0 ≤ R.slots → mT V h H → va_S (vA V) s.heap H locs → lv_has lsA K.2.2.2.2.1 ls →
    (∀ (H' : Heap) (locs' : List Loc) (lsA' : Array Slot) (pc' : Nat), mT V h' H' → va_S (vA V) s.heap H' locs' → rT K pc' r → W p (vL V) e R s m args below meth c H' locs' (h'.1 - n0) (h'.2.1 - u0) Q (F0 m pc' lsA' r.toList)) →
    W p (vL V) e R s m args below meth c H locs (h.1 - n0) (h.2.1 - u0) Q (F0 m pc lsA st)
section Rows
variable {V : eV} {K : kX} {pc pc' : Nat} {ls ls' : List (Nat × Value)} {st st' : List Value} {h h1 h' : aH} {r : Option Value}
theorem g_go (f : ∀ {p : Program} {e : Env} {R : Room} {s : State} {m : MethodId} {args : Array Value} {below : List Frame} {meth : Method} {c : Code} {H : Heap} {locs : List Loc} {lsA : Array Slot} {Q : State → Prop} {x y : Nat}, cX V K p R s m args meth c → lv_has lsA K.2.2.2.2.1 ls → W p (vL V) e R s m args below meth c H locs x y Q (F0 m pc' lsA st') → W p (vL V) e R s m args below meth c H locs x y Q (F0 m pc lsA st))
    (k : gG V K pc' ls st' h r h') : gG V K pc ls st h r h' :=
  ⟨k.1, fun p e R s m args below meth c H locs lsA Q n0 u0 C a1 a2 a3 a4 hM hS hl hk => f C hl (k.2 p e R s m args below meth c H locs lsA Q n0 u0 C a1 a2 a3 a4 hM hS hl hk)⟩
theorem g_sub (ks : List Nat) (hl : lv_pick ls ks = ls') (k : gG V K pc ls' st h r h') : gG V K pc ls st h r h' :=
  ⟨k.1, fun p e R s m args below meth c H locs lsA Q n0 u0 C a1 a2 a3 a4 hM hS hl0 hk => k.2 p e R s m args below meth c H locs lsA Q n0 u0 C a1 a2 a3 a4 hM hS (lv_sub hl0 ks hl) hk⟩
theorem g_iconst {n : Int} {v : Int32} (hd : decode K.1 pc = .ok (.iconst n, 1)) (hv : Int32.ofInt n = v) (k : gG V K (pc + 1) ls (.int v :: st) h r h') : gG V K pc ls st h r h' := g_go (fun C _ k => lv_iconst C.1 C.2.1 hd hv k) k
theorem g_bipush {n : Int} {v : Int32} (hd : decode K.1 pc = .ok (.bipush n, 2)) (hv : (Int8.ofInt n).toInt32 = v) (k : gG V K (pc + 2) ls (.int v :: st) h r h') : gG V K pc ls st h r h' := g_go (fun C _ k => lv_bipush C.1 C.2.1 hd hv k) k
theorem g_sipush {n : Int} {v : Int32} (hd : decode K.1 pc = .ok (.sipush n, 3)) (hv : (Int16.ofInt n).toInt32 = v) (k : gG V K (pc + 3) ls (.int v :: st) h r h') : gG V K pc ls st h r h' := g_go (fun C _ k => lv_sipush C.1 C.2.1 hd hv k) k
theorem g_iload_n {j : Fin 4} {i : Nat} {x : Int32} (q : Nat) (hd : decode K.1 pc = .ok (.iload_n j, 1)) (hi : (j : Nat) = i) (hl : ls[q]? = some (i, .int x)) (k : gG V K (pc + 1) ls (.int x :: st) h r h') : gG V K pc ls st h r h' := g_go (fun C hL k => lv_iload_n C.1 C.2.1 hd hi (lv_at hL q hl) k) k
theorem g_iload {i : Nat} {x : Int32} (q : Nat) (hd : decode K.1 pc = .ok (.iload i, 2)) (hl : ls[q]? = some (i, .int x)) (k : gG V K (pc + 2) ls (.int x :: st) h r h') : gG V K pc ls st h r h' := g_go (fun C hL k => lv_iload C.1 C.2.1 hd (lv_at hL q hl) k) k
theorem g_lload_n {j : Fin 4} {i : Nat} {x : Int64} (q : Nat) (hd : decode K.1 pc = .ok (.lload_n j, 1)) (hi : (j : Nat) = i) (hl : ls[q]? = some (i, .long x)) (k : gG V K (pc + 1) ls (.long x :: st) h r h') : gG V K pc ls st h r h' := g_go (fun C hL k => lv_lload_n C.1 C.2.1 hd hi (lv_at hL q hl) k) k
theorem g_aload_n {j : Fin 4} {i : Nat} {x : Nat} (q : Nat) (hd : decode K.1 pc = .ok (.aload_n j, 1)) (hi : (j : Nat) = i) (hl : ls[q]? = some (i, .ref x)) (k : gG V K (pc + 1) ls (.ref x :: st) h r h') : gG V K pc ls st h r h' := g_go (fun C hL k => lv_aload_n C.1 C.2.1 hd hi (lv_at hL q hl) k) k
theorem g_aload {i : Nat} {x : Nat} (q : Nat) (hd : decode K.1 pc = .ok (.aload i, 2)) (hl : ls[q]? = some (i, .ref x)) (k : gG V K (pc + 2) ls (.ref x :: st) h r h') : gG V K pc ls st h r h' := g_go (fun C hL k => lv_aload C.1 C.2.1 hd (lv_at hL q hl) k) k
/-- locals behind a store -/
def l_st (i : Nat) (v : Value) (ls : List (Nat × Value)) : List (Nat × Value) := (i, v) :: ls.filter (fun q => !(q.1 == i) && !(q.1 + 1 == i && q.2.category == 2))
theorem g_goL (f : ∀ {p : Program} {e : Env} {R : Room} {s : State} {m : MethodId} {args : Array Value} {below : List Frame} {meth : Method} {c : Code} {H : Heap} {locs : List Loc} {lsA : Array Slot} {Q : State → Prop} {x y : Nat}, cX V K p R s m args meth c → lv_has lsA K.2.2.2.2.1 ls → (∀ lsB, lv_has lsB K.2.2.2.2.1 ls' → W p (vL V) e R s m args below meth c H locs x y Q (F0 m pc' lsB st')) → W p (vL V) e R s m args below meth c H locs x y Q (F0 m pc lsA st))
    (k : gG V K pc' ls' st' h r h') : gG V K pc ls st h r h' :=
  ⟨k.1, fun p e R s m args below meth c H locs lsA Q n0 u0 C a1 a2 a3 a4 hM hS hl hk => f C hl (fun lsB hB => k.2 p e R s m args below meth c H locs lsB Q n0 u0 C a1 a2 a3 a4 hM hS hB hk)⟩
theorem g_istore_n {j : Fin 4} {i : Nat} {x : Int32} (hd : decode K.1 pc = .ok (.istore_n j, 1)) (hi : (j : Nat) = i) (hn : i < K.2.2.2.2.1) (hl : l_st i (.int x) ls = ls') (k : gG V K (pc + 1) ls' st h r h') : gG V K pc ls (.int x :: st) h r h' := g_goL (fun C hL k => lv_istore_n C.1 C.2.1 hd hi hL hn hl k) k
theorem g_istore {i : Nat} {x : Int32} (hd : decode K.1 pc = .ok (.istore i, 2)) (hn : i < K.2.2.2.2.1) (hl : l_st i (.int x) ls = ls') (k : gG V K (pc + 2) ls' st h r h') : gG V K pc ls (.int x :: st) h r h' := g_goL (fun C hL k => lv_istore C.1 C.2.1 hd hL hn hl k) k
theorem g_astore_n {j : Fin 4} {i : Nat} {x : Nat} (hd : decode K.1 pc = .ok (.astore_n j, 1)) (hi : (j : Nat) = i) (hn : i < K.2.2.2.2.1) (hl : l_st i (.ref x) ls = ls') (k : gG V K (pc + 1) ls' st h r h') : gG V K pc ls (.ref x :: st) h r h' := g_goL (fun C hL k => lv_astore_n C.1 C.2.1 hd hi hL hn hl k) k
theorem g_astore {i : Nat} {x : Nat} (hd : decode K.1 pc = .ok (.astore i, 2)) (hn : i < K.2.2.2.2.1) (hl : l_st i (.ref x) ls = ls') (k : gG V K (pc + 2) ls' st h r h') : gG V K pc ls (.ref x :: st) h r h' := g_goL (fun C hL k => lv_astore C.1 C.2.1 hd hL hn hl k) k
theorem g_iinc {i q : Nat} {n : Int} {x v : Int32} (hd : decode K.1 pc = .ok (.iinc i n, 3)) (hq : ls[q]? = some (i, .int x)) (hv : x + Int32.ofInt n = v) (hn : i < K.2.2.2.2.1) (hl : l_st i (.int v) ls = ls') (k : gG V K (pc + 3) ls' st h r h') : gG V K pc ls st h r h' := g_goL (fun C hL k => lv_iinc C.1 C.2.1 hd hL hq hv hn hl k) k
theorem g_iadd {x y : Int32} (hd : decode K.1 pc = .ok (.iadd, 1)) (k : gG V K (pc + 1) ls (.int (x + y) :: st) h r h') : gG V K pc ls (.int y :: .int x :: st) h r h' := g_go (fun C _ k => lv_iadd C.1 C.2.1 hd k) k
theorem g_isub {x y : Int32} (hd : decode K.1 pc = .ok (.isub, 1)) (k : gG V K (pc + 1) ls (.int (x - y) :: st) h r h') : gG V K pc ls (.int y :: .int x :: st) h r h' := g_go (fun C _ k => lv_isub C.1 C.2.1 hd k) k
theorem g_imul {x y : Int32} (hd : decode K.1 pc = .ok (.imul, 1)) (k : gG V K (pc + 1) ls (.int (x * y) :: st) h r h') : gG V K pc ls (.int y :: .int x :: st) h r h' := g_go (fun C _ k => lv_imul C.1 C.2.1 hd k) k
theorem g_iand {x y : Int32} (hd : decode K.1 pc = .ok (.iand, 1)) (k : gG V K (pc + 1) ls (.int (x &&& y) :: st) h r h') : gG V K pc ls (.int y :: .int x :: st) h r h' := g_go (fun C _ k => lv_iand C.1 C.2.1 hd k) k
theorem g_ior {x y : Int32} (hd : decode K.1 pc = .ok (.ior, 1)) (k : gG V K (pc + 1) ls (.int (x ||| y) :: st) h r h') : gG V K pc ls (.int y :: .int x :: st) h r h' := g_go (fun C _ k => lv_ior C.1 C.2.1 hd k) k
theorem g_ixor {x y : Int32} (hd : decode K.1 pc = .ok (.ixor, 1)) (k : gG V K (pc + 1) ls (.int (x ^^^ y) :: st) h r h') : gG V K pc ls (.int y :: .int x :: st) h r h' := g_go (fun C _ k => lv_ixor C.1 C.2.1 hd k) k
theorem g_idiv {x y : Int32} (hd : decode K.1 pc = .ok (.idiv, 1)) (hy : ¬ y = 0) (k : gG V K (pc + 1) ls (.int (x / y) :: st) h r h') : gG V K pc ls (.int y :: .int x :: st) h r h' := g_go (fun C _ k => lv_idiv C.1 C.2.1 hd hy k) k
theorem g_irem {x y : Int32} (hd : decode K.1 pc = .ok (.irem, 1)) (hy : ¬ y = 0) (k : gG V K (pc + 1) ls (.int (x - x / y * y) :: st) h r h') : gG V K pc ls (.int y :: .int x :: st) h r h' := g_go (fun C _ k => lv_irem C.1 C.2.1 hd hy k) k
theorem g_ineg {x : Int32} (hd : decode K.1 pc = .ok (.ineg, 1)) (k : gG V K (pc + 1) ls (.int (-x) :: st) h r h') : gG V K pc ls (.int x :: st) h r h' := g_go (fun C _ k => lv_ineg C.1 C.2.1 hd k) k
theorem g_ishl {x y : Int32} (hd : decode K.1 pc = .ok (.ishl, 1)) (k : gG V K (pc + 1) ls (.int (x <<< (y &&& 31)) :: st) h r h') : gG V K pc ls (.int y :: .int x :: st) h r h' := g_go (fun C _ k => lv_ishl C.1 C.2.1 hd k) k
theorem g_ishr {x y : Int32} (hd : decode K.1 pc = .ok (.ishr, 1)) (k : gG V K (pc + 1) ls (.int (x >>> (y &&& 31)) :: st) h r h') : gG V K pc ls (.int y :: .int x :: st) h r h' := g_go (fun C _ k => lv_ishr C.1 C.2.1 hd k) k
theorem g_iushr {x y : Int32} (hd : decode K.1 pc = .ok (.iushr, 1)) (k : gG V K (pc + 1) ls (.int ((x.toUInt32 >>> (y.toUInt32 &&& Int32.toUInt32 31)).toInt32) :: st) h r h') : gG V K pc ls (.int y :: .int x :: st) h r h' := g_go (fun C _ k => lv_iushr C.1 C.2.1 hd rfl k) k
theorem g_i2l {x : Int32} (hd : decode K.1 pc = .ok (.i2l, 1)) (k : gG V K (pc + 1) ls (.long x.toInt64 :: st) h r h') : gG V K pc ls (.int x :: st) h r h' := g_go (fun C _ k => lv_i2l C.1 C.2.1 hd rfl k) k
theorem g_l2i {x : Int64} (hd : decode K.1 pc = .ok (.l2i, 1)) (k : gG V K (pc + 1) ls (.int x.toInt32 :: st) h r h') : gG V K pc ls (.long x :: st) h r h' := g_go (fun C _ k => lv_l2i C.1 C.2.1 hd rfl k) k
theorem g_i2c {x : Int32} (hd : decode K.1 pc = .ok (.i2c, 1)) (k : gG V K (pc + 1) ls (.int (x.toUInt32 % 65536).toInt32 :: st) h r h') : gG V K pc ls (.int x :: st) h r h' := g_go (fun C _ k => lv_i2c C.1 C.2.1 hd rfl k) k
theorem g_i2b {x : Int32} (hd : decode K.1 pc = .ok (.i2b, 1)) (k : gG V K (pc + 1) ls (.int x.toInt8.toInt32 :: st) h r h') : gG V K pc ls (.int x :: st) h r h' := g_go (fun C _ k => lv_i2b C.1 C.2.1 hd rfl k) k
theorem g_lushr {x : Int64} {y : Int32} (hd : decode K.1 pc = .ok (.lushr, 1)) (k : gG V K (pc + 1) ls (.long ((x.toUInt64 >>> (y.toInt64.toUInt64 &&& Int64.toUInt64 63)).toInt64) :: st) h r h') : gG V K pc ls (.int y :: .long x :: st) h r h' := g_go (fun C _ k => lv_lushr C.1 C.2.1 hd rfl k) k
theorem g_lshl {x : Int64} {y : Int32} (hd : decode K.1 pc = .ok (.lshl, 1)) (k : gG V K (pc + 1) ls (.long (x <<< (y.toInt64 &&& 63)) :: st) h r h') : gG V K pc ls (.int y :: .long x :: st) h r h' := g_go (fun C _ k => lv_lshl C.1 C.2.1 hd rfl k) k
theorem g_lshr {x : Int64} {y : Int32} (hd : decode K.1 pc = .ok (.lshr, 1)) (k : gG V K (pc + 1) ls (.long (x >>> (y.toInt64 &&& 63)) :: st) h r h') : gG V K pc ls (.int y :: .long x :: st) h r h' := g_go (fun C _ k => lv_lshr C.1 C.2.1 hd rfl k) k
theorem g_land {x y : Int64} (hd : decode K.1 pc = .ok (.land, 1)) (k : gG V K (pc + 1) ls (.long (x &&& y) :: st) h r h') : gG V K pc ls (.long y :: .long x :: st) h r h' := g_go (fun C _ k => lv_land C.1 C.2.1 hd k) k
theorem g_lor {x y : Int64} (hd : decode K.1 pc = .ok (.lor, 1)) (k : gG V K (pc + 1) ls (.long (x ||| y) :: st) h r h') : gG V K pc ls (.long y :: .long x :: st) h r h' := g_go (fun C _ k => lv_lor C.1 C.2.1 hd k) k
theorem g_dup {v : Value} (hd : decode K.1 pc = .ok (.dup, 1)) (hv : v.category = 1) (k : gG V K (pc + 1) ls (v :: v :: st) h r h') : gG V K pc ls (v :: st) h r h' := g_go (fun C _ k => lv_dup C.1 C.2.1 hd hv k) k
theorem g_dup_x1 {v w : Value} (hd : decode K.1 pc = .ok (.dup_x1, 1)) (hv : v.category = 1) (hw : w.category = 1) (k : gG V K (pc + 1) ls (v :: w :: v :: st) h r h') : gG V K pc ls (v :: w :: st) h r h' := g_go (fun C _ k => lv_dup_x1 C.1 C.2.1 hd hv hw k) k
theorem g_dup2 {v w : Value} (hd : decode K.1 pc = .ok (.dup2, 1)) (hv : v.category = 1) (hw : w.category = 1) (k : gG V K (pc + 1) ls (v :: w :: v :: w :: st) h r h') : gG V K pc ls (v :: w :: st) h r h' := g_go (fun C _ k => lv_dup2_11 C.1 C.2.1 hd hv hw k) k
theorem g_pop {v : Value} (hd : decode K.1 pc = .ok (.pop, 1)) (hv : v.category = 1) (k : gG V K (pc + 1) ls st h r h') : gG V K pc ls (v :: st) h r h' := g_go (fun C _ k => lv_pop C.1 C.2.1 hd hv k) k
theorem g_goto {off : Int} {tgt : Nat} (hd : decode K.1 pc = .ok (.goto off, 3)) (ht : (pc : Int) + off = (tgt : Int)) (k : gG V K tgt ls st h r h') : gG V K pc ls st h r h' := g_go (fun C _ k => lv_goto C.1 C.2.1 hd ht k) k
theorem g_br {P : Prop} {pa pb : Nat} {sa sb : List Value} (hle : h.1 ≤ h'.1 ∧ h.2.1 ≤ h'.2.1) (f : ∀ {p : Program} {e : Env} {R : Room} {s : State} {m : MethodId} {args : Array Value} {below : List Frame} {meth : Method} {c : Code} {H : Heap} {locs : List Loc} {lsA : Array Slot} {Q : State → Prop} {x y : Nat}, cX V K p R s m args meth c → (P → W p (vL V) e R s m args below meth c H locs x y Q (F0 m pa lsA sa)) → (¬ P → W p (vL V) e R s m args below meth c H locs x y Q (F0 m pb lsA sb)) → W p (vL V) e R s m args below meth c H locs x y Q (F0 m pc lsA st))
    (ka : P → gG V K pa ls sa h r h') (kb : ¬ P → gG V K pb ls sb h r h') : gG V K pc ls st h r h' :=
  ⟨hle, fun p e R s m args below meth c H locs lsA Q n0 u0 C a1 a2 a3 a4 hM hS hl hk => f C (fun q => (ka q).2 p e R s m args below meth c H locs lsA Q n0 u0 C a1 a2 a3 a4 hM hS hl hk) (fun q => (kb q).2 p e R s m args below meth c H locs lsA Q n0 u0 C a1 a2 a3 a4 hM hS hl hk)⟩
theorem g_le {P : Prop} {pa pb : Nat} {sa sb : List Value} {la lb : List (Nat × Value)} (ka : P → gG V K pa la sa h r h') (kb : ¬ P → gG V K pb lb sb h r h') : h.1 ≤ h'.1 ∧ h.2.1 ≤ h'.2.1 := by
  by_cases q : P
  · exact (ka q).1
  · exact (kb q).1
theorem g_if_eq {x : Int32} {off : Int} {tgt : Nat} (hd : decode K.1 pc = .ok (.ifCond .eq off, 3)) (ht : (pc : Int) + off = (tgt : Int)) (ka : x = 0 → gG V K tgt ls st h r h') (kb : ¬ x = 0 → gG V K (pc + 3) ls st h r h') : gG V K pc ls (.int x :: st) h r h' := g_br (g_le ka kb) (fun C a b => lv_if_eq C.1 C.2.1 hd ht a b) ka kb
theorem g_if_ne {x : Int32} {off : Int} {tgt : Nat} (hd : decode K.1 pc = .ok (.ifCond .ne off, 3)) (ht : (pc : Int) + off = (tgt : Int)) (ka : ¬ x = 0 → gG V K tgt ls st h r h') (kb : x = 0 → gG V K (pc + 3) ls st h r h') : gG V K pc ls (.int x :: st) h r h' := g_br (g_le kb ka) (fun C a b => lv_if_ne C.1 C.2.1 hd ht b a) kb ka
theorem g_if_lt {x : Int32} {off : Int} {tgt : Nat} (hd : decode K.1 pc = .ok (.ifCond .lt off, 3)) (ht : (pc : Int) + off = (tgt : Int)) (ka : x < 0 → gG V K tgt ls st h r h') (kb : ¬ x < 0 → gG V K (pc + 3) ls st h r h') : gG V K pc ls (.int x :: st) h r h' := g_br (g_le ka kb) (fun C a b => lv_if_lt C.1 C.2.1 hd ht a b) ka kb
theorem g_if_ge {x : Int32} {off : Int} {tgt : Nat} (hd : decode K.1 pc = .ok (.ifCond .ge off, 3)) (ht : (pc : Int) + off = (tgt : Int)) (ka : 0 ≤ x → gG V K tgt ls st h r h') (kb : ¬ 0 ≤ x → gG V K (pc + 3) ls st h r h') : gG V K pc ls (.int x :: st) h r h' := g_br (g_le ka kb) (fun C a b => lv_if_ge C.1 C.2.1 hd ht a b) ka kb
theorem g_if_gt {x : Int32} {off : Int} {tgt : Nat} (hd : decode K.1 pc = .ok (.ifCond .gt off, 3)) (ht : (pc : Int) + off = (tgt : Int)) (ka : 0 < x → gG V K tgt ls st h r h') (kb : ¬ 0 < x → gG V K (pc + 3) ls st h r h') : gG V K pc ls (.int x :: st) h r h' := g_br (g_le ka kb) (fun C a b => lv_if_gt C.1 C.2.1 hd ht a b) ka kb
theorem g_if_le {x : Int32} {off : Int} {tgt : Nat} (hd : decode K.1 pc = .ok (.ifCond .le off, 3)) (ht : (pc : Int) + off = (tgt : Int)) (ka : x ≤ 0 → gG V K tgt ls st h r h') (kb : ¬ x ≤ 0 → gG V K (pc + 3) ls st h r h') : gG V K pc ls (.int x :: st) h r h' := g_br (g_le ka kb) (fun C a b => lv_if_le C.1 C.2.1 hd ht a b) ka kb
theorem g_icmp_eq {x y : Int32} {off : Int} {tgt : Nat} (hd : decode K.1 pc = .ok (.if_icmp .eq off, 3)) (ht : (pc : Int) + off = (tgt : Int)) (ka : x = y → gG V K tgt ls st h r h') (kb : ¬ x = y → gG V K (pc + 3) ls st h r h') : gG V K pc ls (.int y :: .int x :: st) h r h' := g_br (g_le ka kb) (fun C a b => lv_icmp_eq C.1 C.2.1 hd ht a b) ka kb
theorem g_icmp_ne {x y : Int32} {off : Int} {tgt : Nat} (hd : decode K.1 pc = .ok (.if_icmp .ne off, 3)) (ht : (pc : Int) + off = (tgt : Int)) (ka : ¬ x = y → gG V K tgt ls st h r h') (kb : x = y → gG V K (pc + 3) ls st h r h') : gG V K pc ls (.int y :: .int x :: st) h r h' := g_br (g_le kb ka) (fun C a b => lv_icmp_ne C.1 C.2.1 hd ht b a) kb ka
theorem g_icmp_lt {x y : Int32} {off : Int} {tgt : Nat} (hd : decode K.1 pc = .ok (.if_icmp .lt off, 3)) (ht : (pc : Int) + off = (tgt : Int)) (ka : x < y → gG V K tgt ls st h r h') (kb : ¬ x < y → gG V K (pc + 3) ls st h r h') : gG V K pc ls (.int y :: .int x :: st) h r h' := g_br (g_le ka kb) (fun C a b => lv_icmp_lt C.1 C.2.1 hd ht a b) ka kb
theorem g_icmp_ge {x y : Int32} {off : Int} {tgt : Nat} (hd : decode K.1 pc = .ok (.if_icmp .ge off, 3)) (ht : (pc : Int) + off = (tgt : Int)) (ka : y ≤ x → gG V K tgt ls st h r h') (kb : ¬ y ≤ x → gG V K (pc + 3) ls st h r h') : gG V K pc ls (.int y :: .int x :: st) h r h' := g_br (g_le ka kb) (fun C a b => lv_icmp_ge C.1 C.2.1 hd ht a b) ka kb
theorem g_icmp_gt {x y : Int32} {off : Int} {tgt : Nat} (hd : decode K.1 pc = .ok (.if_icmp .gt off, 3)) (ht : (pc : Int) + off = (tgt : Int)) (ka : y < x → gG V K tgt ls st h r h') (kb : ¬ y < x → gG V K (pc + 3) ls st h r h') : gG V K pc ls (.int y :: .int x :: st) h r h' := g_br (g_le ka kb) (fun C a b => lv_icmp_gt C.1 C.2.1 hd ht a b) ka kb
theorem g_icmp_le {x y : Int32} {off : Int} {tgt : Nat} (hd : decode K.1 pc = .ok (.if_icmp .le off, 3)) (ht : (pc : Int) + off = (tgt : Int)) (ka : x ≤ y → gG V K tgt ls st h r h') (kb : ¬ x ≤ y → gG V K (pc + 3) ls st h r h') : gG V K pc ls (.int y :: .int x :: st) h r h' := g_br (g_le ka kb) (fun C a b => lv_icmp_le C.1 C.2.1 hd ht a b) ka kb
theorem g_ldc {i : Nat} {v : Int32} (hc : Cond.constant K.2.1 i v ∈ tB) (hd : decode K.1 pc = .ok (.ldc i, 2)) (k : gG V K (pc + 2) ls (.int v :: st) h r h') : gG V K pc ls st h r h' := g_go (fun C _ k => lv_ldc C.1 C.2.1 C.2.2.2.2.2.2.1 (C.2.2.2.2.2.2.2.1 _ hc) hd k) k
theorem g_ldc2 {i : Nat} {v : Int64} (hc : Cond.constantLong K.2.1 i v ∈ tB) (hd : decode K.1 pc = .ok (.ldc2_w i, 3)) (k : gG V K (pc + 3) ls (.long v :: st) h r h') : gG V K pc ls st h r h' := g_go (fun C _ k => lv_ldc2 C.1 C.2.1 C.2.2.2.2.2.2.1 (C.2.2.2.2.2.2.2.1 _ hc) hd k) k
theorem g_tableIn {dflt lo hi : Int} {offs : Array Int} {len : Nat} {x : Int32} {off : Int} {tgt : Nat} (hd : decode K.1 pc = .ok (.tableswitch dflt lo hi offs, len)) (h1 : ¬ x.toInt < lo) (h2 : ¬ hi < x.toInt) (ho : offs[(x.toInt - lo).toNat]? = some off) (ht : (pc : Int) + off = (tgt : Int)) (k : gG V K tgt ls st h r h') : gG V K pc ls (.int x :: st) h r h' := g_go (fun C _ k => lv_tableIn C.1 C.2.1 hd h1 h2 ho ht k) k
theorem g_tableOut {dflt lo hi : Int} {offs : Array Int} {len : Nat} {x : Int32} {tgt : Nat} (hd : decode K.1 pc = .ok (.tableswitch dflt lo hi offs, len)) (h1 : x.toInt < lo ∨ hi < x.toInt) (ht : (pc : Int) + dflt = (tgt : Int)) (k : gG V K tgt ls st h r h') : gG V K pc ls (.int x :: st) h r h' := g_go (fun C _ k => lv_tableOut C.1 C.2.1 hd h1 ht k) k
theorem g_lookup {dflt : Int} {ps : Array (Int × Int)} {len : Nat} {x : Int32} {off : Int} {tgt : Nat} (hd : decode K.1 pc = .ok (.lookupswitch dflt ps, len)) (hp : (ps.toList.zip (ps.toList.drop 1)).all (fun (a, next) => a.1 < next.1) = true) (ho : Op.lookupswitch.offset ps.toList dflt x.toInt = off) (ht : (pc : Int) + off = (tgt : Int)) (k : gG V K tgt ls st h r h') : gG V K pc ls (.int x :: st) h r h' := g_go (fun C _ k => lv_lookup C.1 C.2.1 hd hp ho ht k) k
end Rows
end
section
/-! rows over the abstract heap, the contract eE, calls -/
theorem mT_kept {V : eV} {h h2 : aH} {H H1 : Heap} (hM : mT V h H) (a : Nat) (hz : H1.size = H.size) (ho : ∀ q : Nat, q ≠ vB V + a → H1[q]? = H[q]?) (h1 : h2.1 = h.1) (hs : ∀ b, b ≠ a → h2.2.2.1 b = h.2.2.1 b) (hm : ∀ b, b ≠ a → h2.2.2.2 b = h.2.2.2 b) (hc : a < h.1 → c_A V h2 a H1) : mT V h2 H1 := by
  obtain ⟨m1, m2, m3⟩ := hM
  refine ⟨by rw [hz, h1]; exact m1, fun q hq => by rw [ho q (by omega)]; exact m2 q hq, fun b hb => ?_⟩
  rw [h1] at hb
  by_cases e : b = a
  · subst e; exact hc hb
  · have h3 := m3 b hb
    have ne : vB V + b ≠ vB V + a := by omega
    unfold c_A at h3 ⊢
    rw [hs b e]
    cases hsb : h.2.2.1 b with
    | inl n => rw [hsb] at h3; simp only at h3 ⊢; rw [ho _ ne, hm b e]; exact h3
    | inr x =>
      cases x with
      | inl y => rw [hsb] at h3; simp only at h3 ⊢; rw [ho _ ne]; exact h3
      | inr y =>
        rw [hsb] at h3; simp only at h3 ⊢
        obtain ⟨q, q1, q2⟩ := h3
        refine ⟨q, q1, (q2.kept (ho _ ne)).to fun k _ => ?_⟩
        unfold f_v
        rw [hm b e]
/-- a cell more -/
theorem mT_push {V : eV} {h h2 : aH} {H H1 : Heap} (hM : mT V h H) (hz : H1.size = H.size + 1) (ho : ∀ q : Nat, q < H.size → H1[q]? = H[q]?) (h1 : h2.1 = h.1 + 1) (hs : ∀ b, b < h.1 → h2.2.2.1 b = h.2.2.1 b) (hm : ∀ b, b < h.1 → h2.2.2.2 b = h.2.2.2 b) (hc : c_A V h2 h.1 H1) : mT V h2 H1 := by
  obtain ⟨m1, m2, m3⟩ := hM
  refine ⟨by rw [hz, h1, m1]; omega, fun q hq => by rw [ho q (by omega)]; exact m2 q hq, fun b hb => ?_⟩
  rw [h1] at hb
  by_cases e : b = h.1
  · subst e; exact hc
  · have hb2 : b < h.1 := by omega
    have h3 := m3 b hb2
    have ne : vB V + b < H.size := by omega
    unfold c_A at h3 ⊢
    rw [hs b hb2]
    cases hsb : h.2.2.1 b with
    | inl n => rw [hsb] at h3; simp only at h3 ⊢; rw [ho _ ne, hm b hb2]; exact h3
    | inr x =>
      cases x with
      | inl y => rw [hsb] at h3; simp only at h3 ⊢; rw [ho _ ne]; exact h3
      | inr y =>
        rw [hsb] at h3; simp only at h3 ⊢
        obtain ⟨q, q1, q2⟩ := h3
        refine ⟨q, q1, (q2.kept (ho _ ne)).to fun k _ => ?_⟩
        unfold f_v
        rw [hm b hb2]
theorem mT_arr {V : eV} {h : aH} {H : Heap} {a n : Nat} (hM : mT V h H) (ha : a < h.1) (hs : h.2.2.1 a = .inl n) : H[vB V + a]? = some (arrV (vI V) n (fun j => .int (h.2.2.2 a j))) := by
  have := hM.2.2 a ha
  unfold c_A at this
  rw [hs] at this
  exact this
theorem mT_rows {V : eV} {h : aH} {H : Heap} {a n r : Nat} (hM : mT V h H) (ha : a < h.1) (hs : h.2.2.1 a = .inr (.inl (n, r))) : H[vB V + a]? = some (arrV (vJ V) n (fun j => .ref (vB V + (r + j)))) := by
  have := hM.2.2 a ha
  unfold c_A at this
  rw [hs] at this
  exact this
theorem mT_obj {V : eV} {h : aH} {H : Heap} {a ci : Nat} {fs : List Nat} (hM : mT V h H) (ha : a < h.1) (hs : h.2.2.1 a = .inr (.inr (ci, fs))) : ∃ q : vw_C, vwCl[ci]? = some q ∧ t_OB (vB V + a) ((vD V).1 ci) q.2.2 ((vD V).2 ci) H (fun k => f_v (vB V) h.2.2.2 a k (fs.getD k 0)) := by
  have := hM.2.2 a ha
  unfold c_A at this
  rw [hs] at this
  exact this
theorem vA_S {V : eV} {H0 H H1 : Heap} {locs : List Loc} {a k : Nat} (hS : va_S (vA V) H0 H locs) (z : H1.size = H.size) (oq : ∀ q : Nat, q ≠ vB V + a → H1[q]? = H[q]?) : va_S (vA V) H0 H1 (locs ++ [⟨vB V + a, k⟩]) := hS.put z oq (show vB V ≤ vB V + a by omega)
section RowsH
variable {V : eV} {K : kX} {pc pc' : Nat} {ls ls' : List (Nat × Value)} {st st' : List Value} {h h1 h' : aH} {r : Option Value}
theorem g_iald {a n : Nat} {i : Int32} (hd : decode K.1 pc = .ok (.iaload, 1)) (ha : a < h.1) (hs : h.2.2.1 a = .inl n) (hi : vp_in i n) (k : gG V K (pc + 1) ls (.int (h.2.2.2 a i.toNatClampNeg) :: st) h r h') : gG V K pc ls (.int i :: .ref (vB V + a) :: st) h r h' :=
  ⟨k.1, fun p e R s m args below meth c H locs lsA Q n0 u0 C a1 a2 a3 a4 hM hS hl hk => by
    have hlt : i.toNatClampNeg < n := Nat.not_le.mp fun q => hi (Or.inr q)
    exact W.iald (v := .int (h.2.2.2 a i.toNatClampNeg)) C.1 C.2.1 (mT_arr hM ha hs) ((C.2.2.2.2.2.2.2.2.1.1.2 0 _ rfl).1 n _) (fun q => by cases q) (by rw [arrV_size]; exact hi) (by rw [arrV_read _ _ hlt]) rfl rfl hd (k.2 p e R s m args below meth c H locs lsA Q n0 u0 C a1 a2 a3 a4 hM hS hl hk)⟩
theorem g_alen {a n : Nat} {v : Int32} (hd : decode K.1 pc = .ok (.arraylength, 1)) (ha : a < h.1) (hs : h.2.2.1 a = .inl n) (hv : Int32.ofNat n = v) (k : gG V K (pc + 1) ls (.int v :: st) h r h') : gG V K pc ls (.ref (vB V + a) :: st) h r h' :=
  ⟨k.1, fun p e R s m args below meth c H locs lsA Q n0 u0 C a1 a2 a3 a4 hM hS hl hk => by
    refine W.alen (n := v) C.1 C.2.1 (mT_arr hM ha hs) ((C.2.2.2.2.2.2.2.2.1.1.2 0 _ rfl).1 n _) (by rw [arrV_size]; exact hv) rfl rfl hd (k.2 p e R s m args below meth c H locs lsA Q n0 u0 C a1 a2 a3 a4 hM hS hl hk)⟩
theorem g_aald {a n f : Nat} {i : Int32} (hd : decode K.1 pc = .ok (.aaload, 1)) (ha : a < h.1) (hs : h.2.2.1 a = .inr (.inl (n, f))) (hi : vp_in i n) (k : gG V K (pc + 1) ls (.ref (vB V + (f + i.toNatClampNeg)) :: st) h r h') : gG V K pc ls (.int i :: .ref (vB V + a) :: st) h r h' :=
  ⟨k.1, fun p e R s m args below meth c H locs lsA Q n0 u0 C a1 a2 a3 a4 hM hS hl hk => by
    have hlt : i.toNatClampNeg < n := Nat.not_le.mp fun q => hi (Or.inr q)
    exact W.aald (v := .ref (vB V + (f + i.toNatClampNeg))) (ty := .array .int) C.1 C.2.1 (mT_rows hM ha hs) ((C.2.2.2.2.2.2.2.2.1.1.2 1 _ rfl).1 n _) rfl (fun q => by cases q) (by rw [arrV_size]; exact hi) (by rw [arrV_read _ _ hlt]) rfl rfl hd (k.2 p e R s m args below meth c H locs lsA Q n0 u0 C a1 a2 a3 a4 hM hS hl hk)⟩
theorem g_iast {a n : Nat} {i x : Int32} (hd : decode K.1 pc = .ok (.iastore, 1)) (ha : a < h.1) (hs : h.2.2.1 a = .inl n) (hi : vp_in i n) (k : gG V K (pc + 1) ls st (h.1, h.2.1, h.2.2.1, m_up h.2.2.2 a i.toNatClampNeg x) r h') : gG V K pc ls (.int x :: .int i :: .ref (vB V + a) :: st) h r h' :=
  ⟨k.1, fun p e R s m args below meth c H locs lsA Q n0 u0 C a1 a2 a3 a4 hM hS hl hk => by
    refine W.iast C.1 C.2.1 (mT_arr hM ha hs) ((C.2.2.2.2.2.2.2.2.1.1.2 0 _ rfl).1 n _) (fun q => by cases q) (by rw [arrV_size]; exact hi) rfl rfl hd fun H1 e1 z oq => ?_
    refine k.2 p e R s m args below meth c H1 _ lsA Q n0 u0 C a1 a2 a3 a4 (mT_kept hM a z oq rfl (fun _ _ => rfl) (fun b hb => by funext j; exact m_up_na hb) (fun _ => ?_)) (vA_S hS z oq) hl hk
    unfold c_A
    simp only [hs]
    rw [e1, arrV_store]
    congr 2
    funext j
    by_cases hj : j = i.toNatClampNeg
    · subst hj; simp [updV, m_up]
    · simp [updV, m_up, hj]⟩
theorem g_get {a ci k : Nat} {fs : List Nat} {T : u_T} {N : Nat} {C : String} {ix : Nat} {v : Value} (hd : decode K.1 pc = .ok (.getfield ix, 3)) (ha : a < h.1) (hs : h.2.2.1 a = .inr (.inr (ci, fs))) (hc : vwCl[ci]? = some (C, T, N)) (hk : k < N) (hin : ∀ w ∈ u_ws C T N, w ∈ tB) (hl : Cond.fieldLink K.2.1 ix (T k).1 (T k).2.1 (T k).2.2.1 ∈ tB) (hv : f_v (vB V) h.2.2.2 a k (fs.getD k 0) = v)
    (kk : gG V K (pc + 3) ls (v :: st) h r h') : gG V K pc ls (.ref (vB V + a) :: st) h r h' :=
  ⟨kk.1, fun p e R s m args below meth c H locs lsA Q n0 u0 C0 a1 a2 a3 a4 hM hS hL hkk => by
    obtain ⟨q, h1, cell, q1, q2, q3, q4⟩ := mT_obj hM ha hs
    have hr : q = (C, T, N) := Option.some.inj (h1.symm.trans hc)
    subst hr
    have hts := C0.2.2.2.2.2.2.2.1
    obtain ⟨hSl, hfc, kC, hkC, hkind⟩ := C0.2.2.2.2.2.2.2.2.1.1.1 ci _ hc
    obtain ⟨cf, kf, fi, f, hi, hsl⟩ := hSl k hk
    refine W.getf C0.1 C0.2.1 C0.2.2.2.2.2.2.1 (hts _ hl) hi (u_facts hfc hkC (u_lays hts hin hk) hi).1 q1 (by rw [q3]; exact fun h => by cases h) (v := v) ?_ rfl rfl hd (kk.2 p e R s m args below meth c H locs lsA Q n0 u0 C0 a1 a2 a3 a4 hM hS hL hkk)
    rw [hsl, q4 k hk]
    exact congrArg some hv⟩
theorem fs_upd {fs : List Nat} {k z : Nat} (hk : k < fs.length) (j : Nat) : (fs.set k z).getD j 0 = if j = k then z else fs.getD j 0 := by
  simp only [List.getD_eq_getElem?_getD, List.getElem?_set]
  by_cases e : j = k
  · subst e; simp [hk]
  · simp [e, Ne.symm e]
/-- what a store into a field makes of the heap -/
def h_put (h : aH) (a ci k : Nat) (fs : List Nat) (v : Int32) : aH := (h.1, h.2.1, h.2.2.1, m_up h.2.2.2 a k v)
theorem g_putI {a ci k : Nat} {fs : List Nat} {T : u_T} {N : Nat} {C : String} {ix : Nat} {v : Int32} {ty : FieldType} (ty0 : Nat → FieldType) (hd : decode K.1 pc = .ok (.putfield ix, 3)) (ha : a < h.1) (hs : h.2.2.1 a = .inr (.inr (ci, fs))) (hc : vwCl[ci]? = some (C, T, N)) (hk : k < N) (hin : ∀ w ∈ u_ws C T N, w ∈ tB) (hty : ∀ k, k < N → parseFieldDescriptor (T k).2.2.1 = some (ty0 k)) (hnm : ∀ a, a < N → ∀ b, b < N → a ≠ b → (T a).2.1 ≠ (T b).2.1) (hl : Cond.fieldLink K.2.1 ix (T k).1 (T k).2.1 (T k).2.2.1 ∈ tB) (hfin : (T k).2.2.2 = false) (hz : fs.getD k 0 = 0) (hd2 : parseFieldDescriptor (T k).2.2.1 = some ty) (hn : narrow ty (.int v) = .int v) (hfit : fits ty (.int v) = true)
    (kk : gG V K (pc + 3) ls st (h.1, h.2.1, h.2.2.1, m_up h.2.2.2 a k v) r h') : gG V K pc ls (.int v :: .ref (vB V + a) :: st) h r h' :=
  ⟨kk.1, fun p e R s m args below meth c H locs lsA Q n0 u0 C0 a1 a2 a3 a4 hM hS hL hkk => by
    obtain ⟨q, h1, cell, q1, q2, q3, q4⟩ := mT_obj hM ha hs
    have hr : q = (C, T, N) := Option.some.inj (h1.symm.trans hc)
    subst hr
    have hts := C0.2.2.2.2.2.2.2.1
    have hap := va_apart (own := K.2.1) hts hin ty0 hty hnm C0.2.2.2.2.2.2.2.2.1.1 hc
    obtain ⟨hSl, hfc, kC, hkC, hkind⟩ := C0.2.2.2.2.2.2.2.2.1.1.1 ci _ hc
    obtain ⟨cf, kf, fi, f, hi, hsl⟩ := hSl k hk
    have hlay := hts _ (hin _ (u_in_lay hk))
    unfold u_lay at hlay
    rw [if_neg (by rw [hfin]; decide)] at hlay
    have hst := (u_facts hfc hkC (u_lays hts hin hk) hi).1
    have h6 := u_store hfc hkC hkind hlay hi hd2 hn hfit
    refine W.putK C0.1 C0.2.1 (f := f) ⟨C0.2.2.2.2.2.2.1, hts _ hl, ⟨_, _, _, hi⟩, hst⟩ (by rw [q2]; exact h6) q1 q3 (by rw [hsl]; exact k2_hasslot (q4 k hk)) rfl rfl hd fun H' e1 e2 e3 => ?_
    rw [hsl] at e1 ⊢
    refine kk.2 p e R s m args below meth c H' _ lsA Q n0 u0 C0 a1 a2 a3 a4 (mT_kept hM a e2 e3 rfl (fun _ _ => rfl) (fun b hb => by funext j; exact m_up_na hb) (fun _ => ?_)) (vA_S hS e2 e3) hL hkk
    unfold c_A
    simp only [hs]
    refine ⟨_, hc, t_OB.to (V := updV _ k (.int v)) ⟨_, e1, q2, q3, t_set q4 hap hk (.int v)⟩ (fun j _ => ?_)⟩
    by_cases ej : j = k
    · subst ej; simp only [updV, if_true, hz]; simp [f_v, m_up]
    · simp only [updV, if_neg ej]
      unfold f_v
      rw [m_up_ni ej]⟩
theorem g_putR {a ci k x : Nat} {fs : List Nat} {T : u_T} {N : Nat} {C : String} {ix : Nat} {ty : FieldType} (ty0 : Nat → FieldType) (hd : decode K.1 pc = .ok (.putfield ix, 3)) (ha : a < h.1) (hs : h.2.2.1 a = .inr (.inr (ci, fs))) (hc : vwCl[ci]? = some (C, T, N)) (hk : k < N) (hin : ∀ w ∈ u_ws C T N, w ∈ tB) (hty : ∀ k, k < N → parseFieldDescriptor (T k).2.2.1 = some (ty0 k)) (hnm : ∀ a, a < N → ∀ b, b < N → a ≠ b → (T a).2.1 ≠ (T b).2.1) (hl : Cond.fieldLink K.2.1 ix (T k).1 (T k).2.1 (T k).2.2.1 ∈ tB) (hfin : (T k).2.2.2 = true) (hnmK : K.2.2.1 = "<init>") (hdecl : (T k).1 = K.2.1) (hlen : k < fs.length) (hd2 : parseFieldDescriptor (T k).2.2.1 = some ty) (hn : narrow ty (.ref (vB V + x)) = .ref (vB V + x)) (hfit : fits ty (.ref (vB V + x)) = true)
    (kk : gG V K (pc + 3) ls st (h.1, h.2.1, s_up h.2.2.1 a (.inr (.inr (ci, fs.set k (x + 2)))), h.2.2.2) r h') : gG V K pc ls (.ref (vB V + x) :: .ref (vB V + a) :: st) h r h' :=
  ⟨kk.1, fun p e R s m args below meth c H locs lsA Q n0 u0 C0 a1 a2 a3 a4 hM hS hL hkk => by
    obtain ⟨q, h1, cell, q1, q2, q3, q4⟩ := mT_obj hM ha hs
    have hr : q = (C, T, N) := Option.some.inj (h1.symm.trans hc)
    subst hr
    have hts := C0.2.2.2.2.2.2.2.1
    have hap := va_apart (own := K.2.1) hts hin ty0 hty hnm C0.2.2.2.2.2.2.2.2.1.1 hc
    obtain ⟨hSl, hfc, kC, hkC, hkind⟩ := C0.2.2.2.2.2.2.2.2.1.1.1 ci _ hc
    obtain ⟨cf, kf, fi, f, hi, hsl⟩ := hSl k hk
    have hlay := hts _ (hin _ (u_in_lay hk))
    unfold u_lay at hlay
    rw [if_pos hfin] at hlay
    have hst := (u_facts hfc hkC (u_lays hts hin hk) hi).1
    have hcf : m.cls = cf := by
      obtain ⟨_, _, c', _, _, _, -, -, hf', -, -, -, hown2, -⟩ := Cond.laysFinal_spec hlay
      have e1 : c' = cf := by have := hi.symm.trans hf'; simp at this; exact this.1.symm
      rw [hdecl] at hown2
      rw [← e1]; exact Option.some.inj (C0.2.2.2.2.2.2.1.symm.trans hown2)
    have h6 := u_fits hfc hkC hkind (Or.inr hlay) hi hd2 hn hfit
    refine W.putFinK C0.1 C0.2.1 C0.2.2.2.2.2.2.1 (hts _ hl) hi hst hcf (C0.2.2.2.2.2.1.trans hnmK) (by rw [q2]; exact h6) q1 q3 (by rw [hsl]; exact k2_hasslot (q4 k hk)) rfl rfl hd fun H' e1 e2 e3 => ?_
    rw [hsl] at e1 ⊢
    refine kk.2 p e R s m args below meth c H' _ lsA Q n0 u0 C0 a1 a2 a3 a4 (mT_kept hM a e2 e3 rfl (fun b hb => if_neg hb) (fun b hb => rfl) (fun _ => ?_)) (vA_S hS e2 e3) hL hkk
    unfold c_A
    simp only [s_up, if_true]
    refine ⟨_, hc, t_OB.to (V := updV _ k (.ref (vB V + x))) ⟨_, e1, q2, q3, t_set q4 hap hk (.ref (vB V + x))⟩ (fun j _ => ?_)⟩
    rw [fs_upd hlen]
    by_cases ej : j = k
    · subst ej; simp only [updV, if_true]; simp [f_v]
    · simp only [updV, if_neg ej]⟩
/-- ends -/
theorem g_ret {pc : Nat} (hd : rT K pc r) (hst : st = r.toList) : gG V K pc ls st h r h := by
  subst hst
  exact ⟨⟨Nat.le_refl _, Nat.le_refl _⟩, fun p e R s m args below meth c H locs lsA Q n0 u0 C a1 a2 a3 a4 hM hS hl hk => hk H locs lsA pc hM hS hd⟩
theorem g_iret {v : Int32} (hd : decode K.1 pc = .ok (.ireturn, 1)) (ty : FieldType) (ht : K.2.2.2.1 = some ty) (hn : narrow ty (.int v) = .int v) : gG V K pc ls [.int v] h (some (.int v)) h := g_ret ⟨hd, ty, ht, hn⟩ rfl
theorem g_aret {a : Nat} (hd : decode K.1 pc = .ok (.areturn, 1)) (nm : String) (ht : K.2.2.2.1 = some (.object nm)) : gG V K pc ls [.ref a] h (some (.ref a)) h := g_ret ⟨hd, nm, ht⟩ rfl
theorem g_vret (hd : decode K.1 pc = .ok (.return_, 1)) (ht : K.2.2.2.1 = none) : gG V K pc ls [] h none h := g_ret ⟨hd, ht⟩ rfl
end RowsH
/-- THE CONTRACT: from the abstract heap h, with these arguments, the method answers r and leaves h' -/
def eE (V : eV) (d : Nat) (y : MethodName) (cc : ByteArray) (nL : Nat) (rt : Option FieldType) (av : List Value) (h : aH) (r : Option Value) (h' : aH) : Prop :=
  (h.1 ≤ h'.1 ∧ h.2.1 ≤ h'.2.1) ∧ Met (vL V) y (.code y cc nL rt :: tB) { frames := d, cells := h'.1 - h.1, slots := h'.2.1 - h.2.1, locals := 64 * d } (va_Pc av (fun U => wK V U ∧ mT V h U.heap)) (fun _ st o t => o = .returned r ∧ mT V h' t.heap ∧ va_F (vA V) st t) (h'.1 - h.1) (h'.2.1 - h.2.1) (vA V)
theorem eE_of {V : eV} {d : Nat} {y : MethodName} {cc : ByteArray} {nL : Nat} {rt : Option FieldType} {av : List Value} {h : aH} {r : Option Value} {h' : aH} (hy : plainName y.cls = true) (hn : (lg_sl av).length ≤ nL)
    (k : gG V (cc, y.cls, y.name, rt, nL, d) 0 (lv_args 0 av) [] h r h') : eE V d y cc nL rt av h r h' := by
  refine ⟨k.1, Met.ofW (cc := cc) (maxL := nL) (ret := rt) hy rfl ?_⟩
  intro p e s m args below meth c s₁ B hml hv
  obtain ⟨rfl, hwk, hM⟩ := hv
  have hts : ∀ w ∈ tB, w.before av.toArray s = true := fun w hw => atoms_spec (ws := .code y cc nL rt :: tB) B.pre w (List.mem_cons_of_mem _ hw)
  have hl := lv_entry av (n := nL) hn
  rw [lg_entry_eq]
  generalize (lg_sl av ++ List.replicate (nL - (lg_sl av).length) Slot.unset).toArray = lsA at hl ⊢
  have hlocks := B.notSynchronized
  have hC : cX V (cc, y.cls, y.name, rt, nL, d) p (headSpec (.code y cc nL rt :: tB) { frames := d, cells := h'.1 - h.1, slots := h'.2.1 - h.2.1, locals := 64 * d }).room s m av.toArray meth c :=
    ⟨B.exec, B.bytes, hml, B.returns, hlocks, (name_of_methodNamed B.named B.method).1, findClass_of_methodNamed B.named, hts, hwk, Nat.le_refl _, Nat.le_refl _⟩
  have key := k.2 p e _ s m av.toArray below meth c s.heap [] lsA (MQ below (fun _ st o t => o = .returned r ∧ mT V h' t.heap ∧ va_F (vA V) st t) av.toArray s (h'.1 - h.1) (h'.2.1 - h.2.1) (vA V)) h.1 h.2.1 hC (Nat.le_refl _) (Nat.le_refl _) (Nat.le_refl _) (Nat.le_refl _) hM va_S.rf hl ?_
  · rw [Nat.sub_self, Nat.sub_self] at key
    exact key
  · intro H' locs' lsA' pc' hM' hS' hr
    have hr2 : meth.sig.returnType = rt := B.returns
    cases r with
    | none =>
      obtain ⟨hd, ht⟩ := hr
      exact W.vret B.exec B.bytes (hr2.trans ht) (fun t ht hW => ⟨rfl, by rw [ht]; exact hM', hS'.F ht⟩) hS'.2.2 hd
    | some v =>
      cases v with
      | int x =>
        obtain ⟨hd, ty, ht, hn⟩ := hr
        exact W.zret B.exec B.bytes (hr2.trans ht) hn (fun t ht hW => ⟨rfl, by rw [ht]; exact hM', hS'.F ht⟩) hS'.2.2 hd
      | ref x =>
        obtain ⟨hd, nm, ht⟩ := hr
        exact W.aret B.exec B.bytes (hr2.trans ht) (Or.inl ⟨nm, rfl⟩) (Or.inr ⟨x, rfl⟩) (fun t ht hW => ⟨rfl, by rw [ht]; exact hM', hS'.F ht⟩) hS'.2.2 hd
      | _ => exact hr.elim
end
section
/-! calls -/
theorem g_blind {V : eV} {h : aH} {av : List Value} : FrameBlind (va_Pc av (fun U => wK V U ∧ mT V h U.heap)) := fun a U g mk q => by
  obtain ⟨q0, q1, q2⟩ := q
  exact ⟨q0, wK_same (s := U) (U := U.calling g mk a) rfl q1, q2⟩
theorem tB_ws {V : eV} {y : MethodName} {cc : ByteArray} {nL : Nat} {rt : Option FieldType} (h : Cond.code y cc nL rt ∈ tB) : GoodIn tB (.code y cc nL rt :: tB) := fun w hw => by
  rcases List.mem_cons.mp hw with e | e
  · rw [e]; exact ⟨h, tB_good h⟩
  · exact ⟨e, tB_good e⟩
theorem g_after {V : eV} {p : Program} {l : Launch} {e : Env} {R : Room} {s : State} {m : MethodId} {args : Array Value} {below : List Frame} {meth : Method} {c : Code} {H : Heap} {locs : List Loc} {cells slots mc ms pc : Nat} {Q : State → Prop} {lsA : Array Slot} {st0 rest : List Value} {r1 : Option Value} {h1 : aH}
    (hr : va_Run p l e R s m args below meth c H locs cells slots mc ms (F0 m pc lsA st0) rest (fun st o t => o = .returned r1 ∧ mT V h1 t.heap ∧ va_F (vA V) st t) (vA V)) (hS : va_S (vA V) s.heap H locs)
    (kk : ∀ (H1 : Heap) (locs1 : List Loc), mT V h1 H1 → va_S (vA V) s.heap H1 locs1 → W p l e R s m args below meth c H1 locs1 (cells + mc) (slots + ms) Q (F0 m (pc + 3) lsA (r1.toList ++ rest))) : W p l e R s m args below meth c H locs cells slots Q (F0 m pc lsA st0) := by
  intro T hT X
  obtain ⟨v, st₀, t, T', L, h0, X', hL, e1, e2, ⟨hv, hM1, hz, hk⟩, st⟩ := hr T hT X
  cases hv
  rw [h0] at hz hk
  obtain ⟨t2, b1, b2⟩ := kk T'.heap (locs ++ L) (by rw [e1]; exact hM1) ⟨Nat.le_trans hS.1 (by rw [e1]; exact hz), fun q h1 h2 => by rw [e1, hk q (Nat.lt_of_lt_of_le h1 hS.1) h2]; exact hS.2.1 q h1 h2, fun q hq => by
      rcases List.mem_append.mp hq with h | h
      · exact hS.2.2 q h
      · exact hL q h⟩ T' rfl X'
  exact ⟨t2, st t2 b1, b2⟩
/-- what the tables say of a call -/
def cW (own : String) (ix : Nat) (y : MethodName) (cc : ByteArray) (nL : Nat) (rt : Option FieldType) (n : Nat) : Prop :=
  Cond.methodLink own ix y ∈ tB ∧ Cond.code y cc nL rt ∈ tB ∧ Cond.initialized y.cls ∈ tB ∧ (y.cls ≠ "java/lang/invoke/MethodHandle" ∧ y.cls ≠ "java/lang/invoke/VarHandle" ∧ (parseMethodDescriptor y.desc).map (fun d => d.parameters.length) = some n) ∧ nL ≤ 45
def cWN (own : String) (ix : Nat) (y : MethodName) (host : String) (cc : ByteArray) (nL : Nat) (rt : Option FieldType) (n : Nat) : Prop :=
  Cond.methodLinkNest own ix y host ∈ nwl ∧ Cond.code y cc nL rt ∈ tB ∧ Cond.initialized y.cls ∈ tB ∧ (y.cls ≠ "java/lang/invoke/MethodHandle" ∧ y.cls ≠ "java/lang/invoke/VarHandle" ∧ (parseMethodDescriptor y.desc).map (fun d => d.parameters.length) = some n) ∧ nL ≤ 45
section Calls7
variable {V : eV} {K : kX} {pc d : Nat} {ls : List (Nat × Value)} {st rest As : List Value} {h h1 h' : aH} {r r1 : Option Value} {y : MethodName} {cc : ByteArray} {nL n ix : Nat} {rt : Option FieldType}
theorem g_callV {C : String} {a ci N : Nat} {fs : List Nat} {T : u_T} (hE : eE V d y cc nL rt (.ref (vB V + a) :: As) h r1 h1) (hw : cW K.2.1 ix y cc nL rt n) (hi : Cond.instanceMethod y ∈ tB) (hse : Cond.selects C y y ∈ tB) (ha : a < h.1) (hs : h.2.2.1 a = .inr (.inr (ci, fs))) (hc : vwCl[ci]? = some (C, T, N)) (hdp : d + 1 ≤ K.2.2.2.2.2) (hn : As.length = n) (hst : st = As.reverse ++ .ref (vB V + a) :: rest) (hca : (rest.map fun v => v.category).sum ≤ 8) (hd : decode K.1 pc = .ok (.invokevirtual ix, 3))
    (k : gG V K (pc + 3) ls (r1.toList ++ rest) h1 r h') : gG V K pc ls st h r h' := by
  refine ⟨⟨Nat.le_trans hE.1.1 k.1.1, Nat.le_trans hE.1.2 k.1.2⟩, fun p e R s m args below meth c H locs lsA Q n0 u0 C0 a1 a2 a3 a4 hM hS hL hk => ?_⟩
  obtain ⟨q, g1, cell, q1, q2, q3, q4⟩ := mT_obj hM ha hs
  have hr : q = (C, T, N) := Option.some.inj (g1.symm.trans hc)
  subst hr
  obtain ⟨-, hfc, -⟩ := C0.2.2.2.2.2.2.2.2.1.1.1 ci _ hc
  have hts := C0.2.2.2.2.2.2.2.1
  have hwk := C0.2.2.2.2.2.2.2.2.1
  have b1 := C0.2.2.2.2.2.2.2.2.2.1
  have b2 := C0.2.2.2.2.2.2.2.2.2.2
  have b3 := hw.2.2.2.2
  have c1 := hE.1.1
  have c2 := hE.1.2
  have c3 := k.1.1
  have c4 := k.1.2
  have hB := callB_of (R := R) (s := s) (args := args) (rm := { frames := d, cells := h1.1 - h.1, slots := h1.2.1 - h.2.1, locals := 64 * d }) (mc := h1.1 - h.1) (ms := h1.2.1 - h.2.1) n hts (tB_ws (V := V) hw.2.1) rfl rfl rfl (hts _ hw.2.2.1) (hts _ hw.1) hw.2.2.2.1 ⟨by show d + 1 ≤ R.frames; omega, by show 8 + (nL + 11) + 64 * d ≤ R.locals; omega⟩
  refine g_after (V := V) (va_runV (As := As) (rest := rest) ⟨C0.1, C0.2.1, C0.2.2.1, C0.2.2.2.2.2.2.1, hts⟩ hE.2 ⟨hB, hts _ hi, hts _ hse⟩ ⟨g_blind, ⟨cell, q1, by rw [q3]; rfl, by rw [q2]; exact hfc⟩, fun U hU hW => ⟨rfl, wK_warm hW hwk, by rw [hU]; exact hM⟩⟩ rfl hn hL.1 hst (lv_room hca) hd ⟨by omega, by omega⟩) hS (fun H1 locs1 hM1 hS1 => ?_)
  have e1 : h.1 - n0 + (h1.1 - h.1) = h1.1 - n0 := by omega
  have e2 : h.2.1 - u0 + (h1.2.1 - h.2.1) = h1.2.1 - u0 := by omega
  rw [e1, e2]
  exact k.2 p e R s m args below meth c H1 locs1 lsA Q n0 u0 C0 (by omega) (by omega) a3 a4 hM1 hS1 hL hk
theorem g_callS (hE : eE V d y cc nL rt As h r1 h1) (hw : cW K.2.1 ix y cc nL rt n) (hi : Cond.static y ∈ tB) (hdp : d + 1 ≤ K.2.2.2.2.2) (hn : As.length = n) (hst : st = As.reverse ++ rest) (hca : (rest.map fun v => v.category).sum ≤ 8) (hd : decode K.1 pc = .ok (.invokestatic ix, 3))
    (k : gG V K (pc + 3) ls (r1.toList ++ rest) h1 r h') : gG V K pc ls st h r h' := by
  refine ⟨⟨Nat.le_trans hE.1.1 k.1.1, Nat.le_trans hE.1.2 k.1.2⟩, fun p e R s m args below meth c H locs lsA Q n0 u0 C0 a1 a2 a3 a4 hM hS hL hk => ?_⟩
  have hts := C0.2.2.2.2.2.2.2.1
  have hwk := C0.2.2.2.2.2.2.2.2.1
  have b1 := C0.2.2.2.2.2.2.2.2.2.1
  have b2 := C0.2.2.2.2.2.2.2.2.2.2
  have b3 := hw.2.2.2.2
  have c1 := hE.1.1
  have c2 := hE.1.2
  have c3 := k.1.1
  have c4 := k.1.2
  have hB := callB_of (R := R) (s := s) (args := args) (rm := { frames := d, cells := h1.1 - h.1, slots := h1.2.1 - h.2.1, locals := 64 * d }) (mc := h1.1 - h.1) (ms := h1.2.1 - h.2.1) n hts (tB_ws (V := V) hw.2.1) rfl rfl rfl (hts _ hw.2.2.1) (hts _ hw.1) hw.2.2.2.1 ⟨by show d + 1 ≤ R.frames; omega, by show 8 + (nL + 11) + 64 * d ≤ R.locals; omega⟩
  refine g_after (V := V) (va_runS (As := As) (rest := rest) ⟨C0.1, C0.2.1, C0.2.2.1, C0.2.2.2.2.2.2.1, hts⟩ hE.2 ⟨hB, hts _ hi⟩ ⟨g_blind, fun U hU hW => ⟨rfl, wK_warm hW hwk, by rw [hU]; exact hM⟩⟩ rfl hn hL.1 hst (lv_room hca) hd ⟨by omega, by omega⟩) hS (fun H1 locs1 hM1 hS1 => ?_)
  have e1 : h.1 - n0 + (h1.1 - h.1) = h1.1 - n0 := by omega
  have e2 : h.2.1 - u0 + (h1.2.1 - h.2.1) = h1.2.1 - u0 := by omega
  rw [e1, e2]
  exact k.2 p e R s m args below meth c H1 locs1 lsA Q n0 u0 C0 (by omega) (by omega) a3 a4 hM1 hS1 hL hk
theorem g_callI {a : Nat} (hE : eE V d y cc nL none (.ref a :: As) h r1 h1) (hw : cW K.2.1 ix y cc nL none n) (hi : Cond.instanceMethod y ∈ tB) (hy : y.name = "<init>") (hdp : d + 1 ≤ K.2.2.2.2.2) (hn : As.length = n) (hst : st = As.reverse ++ .ref a :: rest) (hca : (rest.map fun v => v.category).sum ≤ 8) (hd : decode K.1 pc = .ok (.invokespecial ix, 3))
    (k : gG V K (pc + 3) ls (r1.toList ++ rest) h1 r h') : gG V K pc ls st h r h' := by
  refine ⟨⟨Nat.le_trans hE.1.1 k.1.1, Nat.le_trans hE.1.2 k.1.2⟩, fun p e R s m args below meth c H locs lsA Q n0 u0 C0 a1 a2 a3 a4 hM hS hL hk => ?_⟩
  have hts := C0.2.2.2.2.2.2.2.1
  have hwk := C0.2.2.2.2.2.2.2.2.1
  have b1 := C0.2.2.2.2.2.2.2.2.2.1
  have b2 := C0.2.2.2.2.2.2.2.2.2.2
  have b3 := hw.2.2.2.2
  have c1 := hE.1.1
  have c2 := hE.1.2
  have c3 := k.1.1
  have c4 := k.1.2
  have hB := callB_of (R := R) (s := s) (args := args) (rm := { frames := d, cells := h1.1 - h.1, slots := h1.2.1 - h.2.1, locals := 64 * d }) (mc := h1.1 - h.1) (ms := h1.2.1 - h.2.1) n hts (tB_ws (V := V) hw.2.1) rfl rfl rfl (hts _ hw.2.2.1) (hts _ hw.1) hw.2.2.2.1 ⟨by show d + 1 ≤ R.frames; omega, by show 8 + (nL + 11) + 64 * d ≤ R.locals; omega⟩
  refine g_after (V := V) (va_runI (b := a) (As := As) (rest := rest) ⟨C0.1, C0.2.1, C0.2.2.1, C0.2.2.2.2.2.2.1, hts⟩ hE.2 ⟨hB, hy, hts _ hi⟩ ⟨g_blind, fun U hU hW => ⟨rfl, wK_warm hW hwk, by rw [hU]; exact hM⟩⟩ rfl hn hL.1 hst (lv_room hca) hd ⟨by omega, by omega⟩) hS (fun H1 locs1 hM1 hS1 => ?_)
  have e1 : h.1 - n0 + (h1.1 - h.1) = h1.1 - n0 := by omega
  have e2 : h.2.1 - u0 + (h1.2.1 - h.2.1) = h1.2.1 - u0 := by omega
  rw [e1, e2]
  exact k.2 p e R s m args below meth c H1 locs1 lsA Q n0 u0 C0 (by omega) (by omega) a3 a4 hM1 hS1 hL hk
theorem g_callSN {host : String} (hE : eE V d y cc nL rt As h r1 h1) (hw : cWN K.2.1 ix y host cc nL rt n) (hi : Cond.static y ∈ tB) (hdp : d + 1 ≤ K.2.2.2.2.2) (hn : As.length = n) (hst : st = As.reverse ++ rest) (hca : (rest.map fun v => v.category).sum ≤ 8) (hd : decode K.1 pc = .ok (.invokestatic ix, 3))
    (k : gG V K (pc + 3) ls (r1.toList ++ rest) h1 r h') : gG V K pc ls st h r h' := by
  refine ⟨⟨Nat.le_trans hE.1.1 k.1.1, Nat.le_trans hE.1.2 k.1.2⟩, fun p e R s m args below meth c H locs lsA Q n0 u0 C0 a1 a2 a3 a4 hM hS hL hk => ?_⟩
  have hts := C0.2.2.2.2.2.2.2.1
  have hwk := C0.2.2.2.2.2.2.2.2.1
  have b1 := C0.2.2.2.2.2.2.2.2.2.1
  have b2 := C0.2.2.2.2.2.2.2.2.2.2
  have b3 := hw.2.2.2.2
  have c1 := hE.1.1
  have c2 := hE.1.2
  have c3 := k.1.1
  have c4 := k.1.2
  have hB := va_cnB (R := R) (s := s) (args := args) (rm := { frames := d, cells := h1.1 - h.1, slots := h1.2.1 - h.2.1, locals := 64 * d }) (mc := h1.1 - h.1) (ms := h1.2.1 - h.2.1) n hts (tB_ws (V := V) hw.2.1) rfl rfl rfl (hwk.2.1 _ hw.1) (hts _ hw.2.2.1) hw.2.2.2.1 ⟨by show d + 1 ≤ R.frames; omega, by show 8 + (nL + 11) + 64 * d ≤ R.locals; omega⟩
  refine g_after (V := V) (va_runSN (As := As) (rest := rest) ⟨C0.1, C0.2.1, C0.2.2.1, C0.2.2.2.2.2.2.1, hts⟩ hE.2 ⟨hB, hts _ hi, trivial⟩ ⟨g_blind, fun U hU hW => ⟨rfl, wK_warm hW hwk, by rw [hU]; exact hM⟩⟩ rfl hn hL.1 hst (lv_room hca) hd ⟨by omega, by omega⟩) hS (fun H1 locs1 hM1 hS1 => ?_)
  have e1 : h.1 - n0 + (h1.1 - h.1) = h1.1 - n0 := by omega
  have e2 : h.2.1 - u0 + (h1.2.1 - h.2.1) = h1.2.1 - u0 := by omega
  rw [e1, e2]
  exact k.2 p e R s m args below meth c H1 locs1 lsA Q n0 u0 C0 (by omega) (by omega) a3 a4 hM1 hS1 hL hk
theorem g_callIN {a : Nat} {host : String} (hE : eE V d y cc nL none (.ref a :: As) h r1 h1) (hw : cWN K.2.1 ix y host cc nL none n) (hi : Cond.instanceMethod y ∈ tB) (hy : y.name = "<init>") (hdp : d + 1 ≤ K.2.2.2.2.2) (hn : As.length = n) (hst : st = As.reverse ++ .ref a :: rest) (hca : (rest.map fun v => v.category).sum ≤ 8) (hd : decode K.1 pc = .ok (.invokespecial ix, 3))
    (k : gG V K (pc + 3) ls (r1.toList ++ rest) h1 r h') : gG V K pc ls st h r h' := by
  refine ⟨⟨Nat.le_trans hE.1.1 k.1.1, Nat.le_trans hE.1.2 k.1.2⟩, fun p e R s m args below meth c H locs lsA Q n0 u0 C0 a1 a2 a3 a4 hM hS hL hk => ?_⟩
  have hts := C0.2.2.2.2.2.2.2.1
  have hwk := C0.2.2.2.2.2.2.2.2.1
  have b1 := C0.2.2.2.2.2.2.2.2.2.1
  have b2 := C0.2.2.2.2.2.2.2.2.2.2
  have b3 := hw.2.2.2.2
  have c1 := hE.1.1
  have c2 := hE.1.2
  have c3 := k.1.1
  have c4 := k.1.2
  have hB := va_cnB (R := R) (s := s) (args := args) (rm := { frames := d, cells := h1.1 - h.1, slots := h1.2.1 - h.2.1, locals := 64 * d }) (mc := h1.1 - h.1) (ms := h1.2.1 - h.2.1) n hts (tB_ws (V := V) hw.2.1) rfl rfl rfl (hwk.2.1 _ hw.1) (hts _ hw.2.2.1) hw.2.2.2.1 ⟨by show d + 1 ≤ R.frames; omega, by show 8 + (nL + 11) + 64 * d ≤ R.locals; omega⟩
  refine g_after (V := V) (va_runIN (b := a) (As := As) (rest := rest) ⟨C0.1, C0.2.1, C0.2.2.1, C0.2.2.2.2.2.2.1, hts⟩ hE.2 ⟨hB, hy, hts _ hi⟩ ⟨g_blind, fun U hU hW => ⟨rfl, wK_warm hW hwk, by rw [hU]; exact hM⟩⟩ rfl hn hL.1 hst (lv_room hca) hd ⟨by omega, by omega⟩) hS (fun H1 locs1 hM1 hS1 => ?_)
  have e1 : h.1 - n0 + (h1.1 - h.1) = h1.1 - n0 := by omega
  have e2 : h.2.1 - u0 + (h1.2.1 - h.2.1) = h1.2.1 - u0 := by omega
  rw [e1, e2]
  exact k.2 p e R s m args below meth c H1 locs1 lsA Q n0 u0 C0 (by omega) (by omega) a3 a4 hM1 hS1 hL hk
/-- Object's own constructor -/
theorem g_objInit {a : Nat} (hl : Cond.methodLink K.2.1 ix Lib.objectInit ∈ tB) (hi : Cond.instanceMethod Lib.objectInit ∈ tB) (hcd : Cond.code Lib.objectInit ⟨#[0xb1]⟩ 1 none ∈ tB) (hdp : 1 ≤ K.2.2.2.2.2) (hca : (rest.map fun v => v.category).sum ≤ 8) (hd : decode K.1 pc = .ok (.invokespecial ix, 3)) (k : gG V K (pc + 3) ls rest h r h') : gG V K pc ls (.ref a :: rest) h r h' :=
  g_go (fun C0 hL k => by
    have hts := C0.2.2.2.2.2.2.2.1
    have b1 := C0.2.2.2.2.2.2.2.2.2.1
    have b2 := C0.2.2.2.2.2.2.2.2.2.2
    exact W.objInit C0.1 C0.2.1 C0.2.2.2.2.2.2.1 (hts _ hl) (hts _ hi) (hts _ hcd) rfl (hL.1.trans C0.2.2.1.symm) rfl hd (by omega) (by show 2 * 0 + _ + 12 ≤ _; omega) k) k
theorem g_max {x z : Int32} (hl : Cond.methodLink K.2.1 ix Lib.Math.max.name ∈ tB) (hi : Cond.static Lib.Math.max.name ∈ tB) (hini : Cond.initialized "java/lang/Math" ∈ tB) (hcd : Cond.code Lib.Math.max.name Lib.Math.max.code 2 (some .int) ∈ tB) (hdp : 1 ≤ K.2.2.2.2.2) (hca : (rest.map fun v => v.category).sum ≤ 8) (hd : decode K.1 pc = .ok (.invokestatic ix, 3)) (k : gG V K (pc + 3) ls (.int (if x < z then z else x) :: rest) h r h') : gG V K pc ls (.int z :: .int x :: rest) h r h' :=
  ⟨k.1, fun p e R s m args below meth c H locs lsA Q n0 u0 C0 a1 a2 a3 a4 hM hS hL hk => by
    have hts := C0.2.2.2.2.2.2.2.1
    have b1 := C0.2.2.2.2.2.2.2.2.2.1
    have b2 := C0.2.2.2.2.2.2.2.2.2.2
    have c3 := k.1.1
    have c4 := k.1.2
    exact va_mmax C0.1 C0.2.1 (C0.2.2.1.trans hL.1.symm) C0.2.2.2.2.2.2.1 (hts _ hl) (hts _ hi) (hts _ hini) (hts _ hcd) (by omega) (by omega) (by omega) (by omega) hd (k.2 p e R s m args below meth c H locs lsA Q n0 u0 C0 a1 a2 a3 a4 hM hS hL hk)⟩
theorem g_min {x z : Int32} (hl : Cond.methodLink K.2.1 ix Lib.Math.min.name ∈ tB) (hi : Cond.static Lib.Math.min.name ∈ tB) (hini : Cond.initialized "java/lang/Math" ∈ tB) (hcd : Cond.code Lib.Math.min.name Lib.Math.min.code 2 (some .int) ∈ tB) (hdp : 1 ≤ K.2.2.2.2.2) (hca : (rest.map fun v => v.category).sum ≤ 8) (hd : decode K.1 pc = .ok (.invokestatic ix, 3)) (k : gG V K (pc + 3) ls (.int (if z < x then z else x) :: rest) h r h') : gG V K pc ls (.int z :: .int x :: rest) h r h' :=
  ⟨k.1, fun p e R s m args below meth c H locs lsA Q n0 u0 C0 a1 a2 a3 a4 hM hS hL hk => by
    have hts := C0.2.2.2.2.2.2.2.1
    have b1 := C0.2.2.2.2.2.2.2.2.2.1
    have b2 := C0.2.2.2.2.2.2.2.2.2.2
    have c3 := k.1.1
    have c4 := k.1.2
    exact va_mmin C0.1 C0.2.1 (C0.2.2.1.trans hL.1.symm) C0.2.2.2.2.2.2.1 (hts _ hl) (hts _ hi) (hts _ hini) (hts _ hcd) (by omega) (by omega) (by omega) (by omega) hd (k.2 p e R s m args below meth c H locs lsA Q n0 u0 C0 a1 a2 a3 a4 hM hS hL hk)⟩
end Calls7
end
section
/-! making cells; copying; what lies outside -/
def m_cpy (m : mM) (a0 a n : Nat) : mM := fun b j => if b = a ∧ j < n then m a0 j else m b j
section Rows8
variable {V : eV} {K : kX} {pc d : Nat} {ls : List (Nat × Value)} {st rest As : List Value} {h h1 h' : aH} {r r1 : Option Value} {ix : Nat}
theorem g_newa {n : Int32} {N : Nat} (harr : Cond.arrayClass .int ∈ tB) (hd : decode K.1 pc = .ok (.newarray .int, 2)) (hn : ¬ n < 0) (hN : n.toNatClampNeg = N) (hb : N * 4 ≤ 536870912)
    (k : gG V K (pc + 2) ls (.ref (vB V + h.1) :: st) (h.1 + 1, h.2.1 + N, s_up h.2.2.1 h.1 (.inl N), m_clr h.2.2.2 h.1) r h') : gG V K pc ls (.int n :: st) h r h' := by
  have c3 : h.1 + 1 ≤ h'.1 := k.1.1
  have c4 : h.2.1 + N ≤ h'.2.1 := k.1.2
  refine ⟨⟨by omega, by omega⟩, fun p e R s m args below meth c H locs lsA Q n0 u0 C0 a1 a2 a3 a4 hM hS hL hk => ?_⟩
  have hts := C0.2.2.2.2.2.2.2.1
  have hRA : s.vm.findClass ("[" ++ (FieldType.int).toString) = some (vI V) := (C0.2.2.2.2.2.2.2.2.1.1.2 0 _ rfl).2
  refine W.newa C0.1 C0.2.1 (atype := .int) (hts _ harr) rfl hd rfl hn (by rw [hN]; exact hb) (by omega) (by rw [hN]; omega) fun cA kA comp q1 q2 q3 => ?_
  have eA : cA = vI V := Option.some.inj (q1.symm.trans hRA)
  subst eA
  rw [hN, arrV_new]
  have e1 : h.1 - n0 + 1 = h.1 + 1 - n0 := by omega
  have e2 : h.2.1 - u0 + N = h.2.1 + N - u0 := by omega
  have hz := hM.1
  show W p (vL V) e R s m args below meth c _ locs _ _ Q (F0 m (pc + 2) lsA (.ref H.size :: st))
  rw [e1, e2, hz]
  refine k.2 p e R s m args below meth c _ locs lsA Q n0 u0 C0 (by show n0 ≤ h.1 + 1; omega) (by show u0 ≤ h.2.1 + N; omega) a3 a4 (mT_push hM (by simp) (fun q hq => by rw [Array.getElem?_push, if_neg (Nat.ne_of_lt hq)]) rfl (fun b hb => if_neg (by omega)) (fun b hb => by funext j; exact if_neg (by omega)) ?_) ⟨by simp; exact Nat.le_succ_of_le hS.1, fun q g1 g2 => ?_, hS.2.2⟩ hL hk
  · unfold c_A
    simp only [s_up, if_true]
    rw [← hz]
    simp [m_clr, defaultValue, newarray.typeOf]
  · rw [Array.getElem?_push, if_neg (Nat.ne_of_lt (Nat.lt_of_lt_of_le g1 hS.1))]
    exact hS.2.1 q g1 g2
theorem g_new {ci N : Nat} {C : String} {T : u_T} {ty0 : Nat → FieldType} {fs : List Nat} (hcl : Cond.classLink K.2.1 ix C ∈ tB) (hin : Cond.instantiable C N ∈ tB) (hini : Cond.initialized C ∈ tB) (hd : decode K.1 pc = .ok (.new ix, 3)) (hc : vwCl[ci]? = some (C, T, N)) (hws : ∀ w ∈ u_ws C T N, w ∈ tB) (hty : ∀ k, k < N → parseFieldDescriptor (T k).2.2.1 = some (ty0 k)) (hfs : ∀ j, j < N → defaultValue (ty0 j) = f_v 0 (fun _ _ => 0) 0 j (fs.getD j 0)) (hle : ∀ j, j < N → fs.getD j 0 ≤ 1)
    (k : gG V K (pc + 3) ls (.ref (vB V + h.1) :: st) (h.1 + 1, h.2.1 + N, s_up h.2.2.1 h.1 (.inr (.inr (ci, fs))), m_clr h.2.2.2 h.1) r h') : gG V K pc ls st h r h' := by
  have c3 : h.1 + 1 ≤ h'.1 := k.1.1
  have c4 : h.2.1 + N ≤ h'.2.1 := k.1.2
  refine ⟨⟨by omega, by omega⟩, fun p e R s m args below meth c H locs lsA Q n0 u0 C0 a1 a2 a3 a4 hM hS hL hk => ?_⟩
  have hts := C0.2.2.2.2.2.2.2.1
  have hK := C0.2.2.2.2.2.2.2.2.1.1
  have hKn := hK.1 ci _ hc
  have hz := hM.1
  refine W.newcK C0.1 C0.2.1 C0.2.2.2.2.2.2.1 (hts _ hcl) (hts _ hin) (hts _ hini) rfl hd (by omega) (by omega) hKn.2.1 hz fun H1 kC hkC e1 z1 o1 => ?_
  have g1 : h.1 - n0 + 1 = h.1 + 1 - n0 := by omega
  have g2 : h.2.1 - u0 + N = h.2.1 + N - u0 := by omega
  show W p (vL V) e R s m args below meth c _ locs _ _ Q (F0 m (pc + 3) lsA (.ref (vB V + h.1) :: st))
  rw [g1, g2]
  refine k.2 p e R s m args below meth c _ locs lsA Q n0 u0 C0 (by show n0 ≤ h.1 + 1; omega) (by show u0 ≤ h.2.1 + N; omega) a3 a4 (mT_push hM (by rw [z1, hz]) (fun q hq => o1 q (by rw [hz] at hq; exact hq)) rfl (fun b hb => if_neg (by omega)) (fun b hb => by funext j; exact if_neg (by omega)) ?_) ⟨by rw [z1]; have := hS.1; omega, fun q q1 q2 => ?_, hS.2.2⟩ hL hk
  · unfold c_A
    simp only [s_up, if_true]
    refine ⟨_, hc, ?_⟩
    have hob := u_born ty0 hts hws hKn hkC e1 hty
    refine hob.to fun j hj => ?_
    rw [hfs j hj]
    have := hle j hj
    generalize fs.getD j 0 = z at this
    match z, this with
    | 0, _ => simp [f_v, m_clr]
    | 1, _ => simp [f_v]
  · rw [o1 q (Nat.lt_of_lt_of_le q1 (by have := hS.1; omega))]
    exact hS.2.1 q q1 q2
/-- System.arraycopy of the first n places -/
theorem g_copy {a0 a n0' n1 : Nat} {n : Int32} {N : Nat} (hl : Cond.methodLink K.2.1 ix arraycopyName ∈ tB) (hnat : Cond.native arraycopyName ∈ tB) (hstat : Cond.static arraycopyName ∈ tB) (hini : Cond.initialized "java/lang/System" ∈ tB) (hd : decode K.1 pc = .ok (.invokestatic ix, 3)) (hdp : 1 ≤ K.2.2.2.2.2) (ha0 : a0 < h.1) (hs0 : h.2.2.1 a0 = .inl n0') (ha : a < h.1) (hs : h.2.2.1 a = .inl n1) (h3 : ¬ n < 0) (hN : n.toNatClampNeg = N) (h4 : N ≤ n0') (h5 : N ≤ n1) (hca : (st.map fun v => v.category).sum ≤ 8)
    (k : gG V K (pc + 3) ls st (h.1, h.2.1, h.2.2.1, m_cpy h.2.2.2 a0 a N) r h') : gG V K pc ls (.int n :: .int 0 :: .ref (vB V + a) :: .int 0 :: .ref (vB V + a0) :: st) h r h' := by
  refine ⟨k.1, fun p e R s m args below meth c H locs lsA Q n0 u0 C0 a1 a2 a3 a4 hM hS hL hk => ?_⟩
  have hts := C0.2.2.2.2.2.2.2.1
  have b1 := C0.2.2.2.2.2.2.2.2.2.1
  have b2 := C0.2.2.2.2.2.2.2.2.2.2
  have hK := C0.2.2.2.2.2.2.2.2.1.1
  subst hN
  have nn : ∀ z : Int32, ¬ z < 0 → z.toInt = (z.toNatClampNeg : Int) := by
    intro z hz
    have hz0 : (0 : Int) ≤ z.toInt := by
      have := Int32.not_lt.mp hz
      simpa using Int32.le_iff_toInt_le.mp this
    show z.toInt = ((z.toInt.toNat : Nat) : Int)
    omega
  have z0 : ((0 : Int32)).toNatClampNeg = 0 := rfl
  have nf : nativeFrameWords "java/lang/System" "arraycopy" 5 + 11 ≤ 50 := by decide
  intro T hT X
  have hc0 : H[vB V + a0]? = some (vp_cell (vI V) (n0', .inl (h.2.2.2 a0))) := mT_arr hM ha0 hs0
  have hc1 : H[vB V + a]? = some (vp_cell (vI V) (n1, .inl (h.2.2.2 a))) := mT_arr hM ha hs
  obtain ⟨-, k0, hk0, cm0, hkk0⟩ := (hK.2 0 _ rfl).1 n0' (fun j => .int (h.2.2.2 a0 j))
  obtain ⟨-, k1, hk1, cm1, hkk1⟩ := (hK.2 0 _ rfl).1 n1 (fun j => .int (h.2.2.2 a j))
  obtain ⟨vm', X', step⟩ := X.arraycopy C0.1 C0.2.2.2.2.2.2.1 (hts _ hl) (hts _ hnat) (hts _ hstat) (hts _ hini) (src := vB V + a0) (dst := vB V + a) (cs := vp_cell (vI V) (n0', .inl (h.2.2.2 a0))) (cd := vp_cell (vI V) (n1, .inl (h.2.2.2 a))) (srcPos := 0) (destPos := 0) (n := n) (by rw [hT]; exact hc0) (by rw [hT]; exact hc1)
    (fun _ h => by cases h) (fun _ h => by cases h) (fun h => by cases h) (fun h => by cases h) hk0 hk1 hkk0 hkk1 (by simp [refKind]) (by decide) (by decide) h3
    (by rw [nn n h3]; show ¬ _ > ((arrV (vI V) n0' (fun j => .int (h.2.2.2 a0 j))).slots.size : Int); rw [arrV_size]; show ¬ (0 : Int) + _ > _; omega)
    (by rw [nn n h3]; show ¬ _ > ((arrV (vI V) n1 (fun j => .int (h.2.2.2 a j))).slots.size : Int); rw [arrV_size]; show ¬ (0 : Int) + _ > _; omega)
    (fun vm₁ _ i hi => by
      have e : (vp_cell (vI V) (n0', .inl (h.2.2.2 a0))).slots.getD ((0 : Int32).toNatClampNeg + i) .null = .int (h.2.2.2 a0 ((0 : Int32).toNatClampNeg + i)) := by
        show (arrV (vI V) n0' (fun j => .int (h.2.2.2 a0 j))).slots.getD _ _ = _
        rw [Array.getD_eq_getD_getElem?, arrV_read _ _ (by rw [z0]; omega)]
        rfl
      refine ⟨?_, ?_⟩
      · rw [e]
        rfl
      · rw [e]
        exact trivial)
    (g := F0 m pc lsA (.int n :: .int 0 :: .ref (vB V + a) :: .int 0 :: .ref (vB V + a0) :: st)) rfl (by show lsA.size = _; rw [hL.1, C0.2.2.1]) (rest := st) rfl (by rw [C0.2.1]; exact hd) (by omega) (by show 2 * 0 + _ + (nativeFrameWords "java/lang/System" "arraycopy" 5 + 11) ≤ _; omega)
  have e1 : copied (vp_cell (vI V) (n0', .inl (h.2.2.2 a0))) (vp_cell (vI V) (n1, .inl (h.2.2.2 a))) 0 0 n = vp_cell (vI V) (n1, .inl (va_cpy (h.2.2.2 a0) (h.2.2.2 a) (0 : Int32).toNatClampNeg (0 : Int32).toNatClampNeg n.toNatClampNeg)) := va_copied (fun z => .int z) (vI V) (vI V) (h.2.2.2 a0) (h.2.2.2 a) (by rw [z0]; omega)
  rw [e1] at X' step
  have hl : vB V + a < H.size := (Array.getElem?_eq_some_iff.mp hc1).1
  generalize hG : vp_cell (vI V) (n1, .inl (va_cpy (h.2.2.2 a0) (h.2.2.2 a) (0 : Int32).toNatClampNeg (0 : Int32).toNatClampNeg n.toNatClampNeg)) = cl at X' step
  have hheap : ((T.setVm vm').setCell (vB V + a) cl).heap = H.setIfInBounds (vB V + a) cl := by rw [← hT]; rfl
  have oq : ∀ q : Nat, q ≠ vB V + a → (H.setIfInBounds (vB V + a) cl)[q]? = H[q]? := fun q hq => by simp [Array.getElem?_setIfInBounds, Ne.symm hq]
  obtain ⟨t, x1, x2⟩ := k.2 p e R s m args below meth c _ _ lsA Q n0 u0 C0 a1 a2 a3 a4 (mT_kept hM a (H1 := H.setIfInBounds (vB V + a) cl) (by simp) oq rfl (fun _ _ => rfl) (fun b hb => by funext j; exact if_neg (fun q => hb q.1)) (fun _ => by
      unfold c_A
      simp only [hs]
      rw [Array.getElem?_setIfInBounds]
      simp only [if_true, hl, ← hG]
      rw [vp_cell_i]
      congr 2
      funext j
      simp only [va_cpy, m_cpy, z0]
      by_cases hj : j < n.toNatClampNeg
      · simp [hj]
      · simp [hj])) ⟨by simp; exact hS.1, fun q g1 g2 => by
      rw [oq q (fun e => g2 (by rw [e]; show vB V ≤ vB V + a; omega))]
      exact hS.2.1 q g1 g2, fun q hq => by
      rcases List.mem_append.mp hq with h | h
      · exact hS.2.2 q h
      · obtain ⟨z, -, hz⟩ := List.mem_map.mp h
        rw [← hz]
        show vB V ≤ vB V + a
        omega⟩ hL hk _ hheap X'
  exact ⟨t, step t x1, x2⟩
end Rows8
end
