-- ===== PART A: goes FIRST, ahead of the names: the tables' words, and 'selects' of the private methods out of them =====
/-- a private method of a class that the tables say can be made, by its rows of tables_1 -/
def lw_okq (q : MethodName × Nat) : Prop := (q.1.cls ≠ "java/lang/invoke/MethodHandle" ∧ q.1.cls ≠ "java/lang/invoke/VarHandle") ∧ Cond.instantiable q.1.cls q.2 ∈ tables_1 ∧ Cond.privateMethod q.1 ∈ tables_1 ∧ Cond.instanceMethod q.1 ∈ tables_1
theorem lw_p0 : lw_okq (⟨"ToastMap", "deny", "(I)Z"⟩, 19) := ⟨⟨by decide +kernel, by decide +kernel⟩, List.mem_of_getElem? (i := 22) (by decide +kernel), List.mem_of_getElem? (i := 505) (by decide +kernel), List.mem_of_getElem? (i := 506) (by decide +kernel)⟩
theorem lw_p1 : lw_okq (⟨"ToastMap", "grant", "()Z"⟩, 19) := ⟨⟨by decide +kernel, by decide +kernel⟩, List.mem_of_getElem? (i := 22) (by decide +kernel), List.mem_of_getElem? (i := 513) (by decide +kernel), List.mem_of_getElem? (i := 514) (by decide +kernel)⟩
theorem lw_p2 : lw_okq (⟨"ToastMap", "placeStatus", "(II)I"⟩, 19) := ⟨⟨by decide +kernel, by decide +kernel⟩, List.mem_of_getElem? (i := 22) (by decide +kernel), List.mem_of_getElem? (i := 521) (by decide +kernel), List.mem_of_getElem? (i := 522) (by decide +kernel)⟩
theorem lw_p3 : lw_okq (⟨"ToastMap", "refuse", "(I)I"⟩, 19) := ⟨⟨by decide +kernel, by decide +kernel⟩, List.mem_of_getElem? (i := 22) (by decide +kernel), List.mem_of_getElem? (i := 544) (by decide +kernel), List.mem_of_getElem? (i := 545) (by decide +kernel)⟩
theorem lw_p4 : lw_okq (⟨"ToastMap", "pourStatus", "(IIIII)I"⟩, 19) := ⟨⟨by decide +kernel, by decide +kernel⟩, List.mem_of_getElem? (i := 22) (by decide +kernel), List.mem_of_getElem? (i := 556) (by decide +kernel), List.mem_of_getElem? (i := 557) (by decide +kernel)⟩
theorem lw_p5 : lw_okq (⟨"ToastMap$Tape", "stepWord", "()V"⟩, 13) := ⟨⟨by decide +kernel, by decide +kernel⟩, List.mem_of_getElem? (i := 50) (by decide +kernel), List.mem_of_getElem? (i := 618) (by decide +kernel), List.mem_of_getElem? (i := 619) (by decide +kernel)⟩
theorem lw_p6 : lw_okq (⟨"ToastMap$Tape", "wordOf", "(J)I"⟩, 13) := ⟨⟨by decide +kernel, by decide +kernel⟩, List.mem_of_getElem? (i := 50) (by decide +kernel), List.mem_of_getElem? (i := 622) (by decide +kernel), List.mem_of_getElem? (i := 623) (by decide +kernel)⟩
theorem lw_p7 : lw_okq (⟨"ToastMap$Tape", "stepNumber", "()V"⟩, 13) := ⟨⟨by decide +kernel, by decide +kernel⟩, List.mem_of_getElem? (i := 50) (by decide +kernel), List.mem_of_getElem? (i := 629) (by decide +kernel), List.mem_of_getElem? (i := 630) (by decide +kernel)⟩
theorem lw_p8 : lw_okq (⟨"ToastMap$MapReader", "readPart", "()Z"⟩, 3) := ⟨⟨by decide +kernel, by decide +kernel⟩, List.mem_of_getElem? (i := 266) (by decide +kernel), List.mem_of_getElem? (i := 640) (by decide +kernel), List.mem_of_getElem? (i := 641) (by decide +kernel)⟩
theorem lw_p9 : lw_okq (⟨"ToastMap$MapReader", "readRule", "(I)Z"⟩, 3) := ⟨⟨by decide +kernel, by decide +kernel⟩, List.mem_of_getElem? (i := 266) (by decide +kernel), List.mem_of_getElem? (i := 644) (by decide +kernel), List.mem_of_getElem? (i := 645) (by decide +kernel)⟩
theorem lw_p10 : lw_okq (⟨"ToastMap$MapReader", "readPerson", "()Z"⟩, 3) := ⟨⟨by decide +kernel, by decide +kernel⟩, List.mem_of_getElem? (i := 266) (by decide +kernel), List.mem_of_getElem? (i := 670) (by decide +kernel), List.mem_of_getElem? (i := 671) (by decide +kernel)⟩
theorem lw_p11 : lw_okq (⟨"ToastMap$MapReader", "readPerhaps", "(I[III)Z"⟩, 3) := ⟨⟨by decide +kernel, by decide +kernel⟩, List.mem_of_getElem? (i := 266) (by decide +kernel), List.mem_of_getElem? (i := 691) (by decide +kernel), List.mem_of_getElem? (i := 692) (by decide +kernel)⟩
theorem lw_p12 : lw_okq (⟨"ToastMap$MapReader", "readToast", "()Z"⟩, 3) := ⟨⟨by decide +kernel, by decide +kernel⟩, List.mem_of_getElem? (i := 266) (by decide +kernel), List.mem_of_getElem? (i := 695) (by decide +kernel), List.mem_of_getElem? (i := 696) (by decide +kernel)⟩
theorem lw_p13 : lw_okq (⟨"ToastMap", "answer", "(I)I"⟩, 19) := ⟨⟨by decide +kernel, by decide +kernel⟩, List.mem_of_getElem? (i := 22) (by decide +kernel), List.mem_of_getElem? (i := 724) (by decide +kernel), List.mem_of_getElem? (i := 725) (by decide +kernel)⟩
theorem lw_p14 : lw_okq (⟨"ToastMap$TimesReader", "readStep", "(LToastMap$Company;)Z"⟩, 4) := ⟨⟨by decide +kernel, by decide +kernel⟩, List.mem_of_getElem? (i := 284) (by decide +kernel), List.mem_of_getElem? (i := 739) (by decide +kernel), List.mem_of_getElem? (i := 740) (by decide +kernel)⟩
theorem lw_p15 : lw_okq (⟨"ToastMap$TimesReader", "readEnd", "()Z"⟩, 4) := ⟨⟨by decide +kernel, by decide +kernel⟩, List.mem_of_getElem? (i := 284) (by decide +kernel), List.mem_of_getElem? (i := 743) (by decide +kernel), List.mem_of_getElem? (i := 744) (by decide +kernel)⟩
def lw_privs_1 : List (MethodName × Nat) := [(⟨"ToastMap", "deny", "(I)Z"⟩, 19), (⟨"ToastMap", "grant", "()Z"⟩, 19), (⟨"ToastMap", "placeStatus", "(II)I"⟩, 19), (⟨"ToastMap", "refuse", "(I)I"⟩, 19), (⟨"ToastMap", "pourStatus", "(IIIII)I"⟩, 19), (⟨"ToastMap$Tape", "stepWord", "()V"⟩, 13), (⟨"ToastMap$Tape", "wordOf", "(J)I"⟩, 13), (⟨"ToastMap$Tape", "stepNumber", "()V"⟩, 13), (⟨"ToastMap$MapReader", "readPart", "()Z"⟩, 3), (⟨"ToastMap$MapReader", "readRule", "(I)Z"⟩, 3), (⟨"ToastMap$MapReader", "readPerson", "()Z"⟩, 3), (⟨"ToastMap$MapReader", "readPerhaps", "(I[III)Z"⟩, 3), (⟨"ToastMap$MapReader", "readToast", "()Z"⟩, 3), (⟨"ToastMap", "answer", "(I)I"⟩, 19), (⟨"ToastMap$TimesReader", "readStep", "(LToastMap$Company;)Z"⟩, 4), (⟨"ToastMap$TimesReader", "readEnd", "()Z"⟩, 4)]
theorem lw_r1 : ∀ q ∈ lw_privs_1, lw_okq q := List.forall_mem_cons.mpr ⟨lw_p0, List.forall_mem_cons.mpr ⟨lw_p1, List.forall_mem_cons.mpr ⟨lw_p2, List.forall_mem_cons.mpr ⟨lw_p3, List.forall_mem_cons.mpr ⟨lw_p4, List.forall_mem_cons.mpr ⟨lw_p5, List.forall_mem_cons.mpr ⟨lw_p6, List.forall_mem_cons.mpr ⟨lw_p7, List.forall_mem_cons.mpr ⟨lw_p8, List.forall_mem_cons.mpr ⟨lw_p9, List.forall_mem_cons.mpr ⟨lw_p10, List.forall_mem_cons.mpr ⟨lw_p11, List.forall_mem_cons.mpr ⟨lw_p12, List.forall_mem_cons.mpr ⟨lw_p13, List.forall_mem_cons.mpr ⟨lw_p14, List.forall_mem_cons.mpr ⟨lw_p15, fun _ h => absurd h List.not_mem_nil⟩⟩⟩⟩⟩⟩⟩⟩⟩⟩⟩⟩⟩⟩⟩⟩
theorem lw_p16 : lw_okq (⟨"ToastMap$TimesReader", "readWho", "(ILToastMap$Company;)Z"⟩, 4) := ⟨⟨by decide +kernel, by decide +kernel⟩, List.mem_of_getElem? (i := 284) (by decide +kernel), List.mem_of_getElem? (i := 755) (by decide +kernel), List.mem_of_getElem? (i := 756) (by decide +kernel)⟩
theorem lw_p17 : lw_okq (⟨"ToastMap$TimesReader", "readAmount", "(III)Z"⟩, 4) := ⟨⟨by decide +kernel, by decide +kernel⟩, List.mem_of_getElem? (i := 284) (by decide +kernel), List.mem_of_getElem? (i := 760) (by decide +kernel), List.mem_of_getElem? (i := 761) (by decide +kernel)⟩
theorem lw_p18 : lw_okq (⟨"ToastMap$TimesReader", "readTest", "(ILToastMap$Company;)Z"⟩, 4) := ⟨⟨by decide +kernel, by decide +kernel⟩, List.mem_of_getElem? (i := 284) (by decide +kernel), List.mem_of_getElem? (i := 766) (by decide +kernel), List.mem_of_getElem? (i := 767) (by decide +kernel)⟩
theorem lw_p19 : lw_okq (⟨"ToastMap$TimesReader", "readCompares", "(I)Z"⟩, 4) := ⟨⟨by decide +kernel, by decide +kernel⟩, List.mem_of_getElem? (i := 284) (by decide +kernel), List.mem_of_getElem? (i := 770) (by decide +kernel), List.mem_of_getElem? (i := 771) (by decide +kernel)⟩
theorem lw_p20 : lw_okq (⟨"ToastMap", "isCouple", "(II)Z"⟩, 19) := ⟨⟨by decide +kernel, by decide +kernel⟩, List.mem_of_getElem? (i := 22) (by decide +kernel), List.mem_of_getElem? (i := 918) (by decide +kernel), List.mem_of_getElem? (i := 919) (by decide +kernel)⟩
theorem lw_p21 : lw_okq (⟨"ToastMap", "lookAhead", "(I)V"⟩, 19) := ⟨⟨by decide +kernel, by decide +kernel⟩, List.mem_of_getElem? (i := 22) (by decide +kernel), List.mem_of_getElem? (i := 947) (by decide +kernel), List.mem_of_getElem? (i := 948) (by decide +kernel)⟩
theorem lw_p22 : lw_okq (⟨"ToastMap", "findPeriod", "()I"⟩, 19) := ⟨⟨by decide +kernel, by decide +kernel⟩, List.mem_of_getElem? (i := 22) (by decide +kernel), List.mem_of_getElem? (i := 959) (by decide +kernel), List.mem_of_getElem? (i := 960) (by decide +kernel)⟩
theorem lw_p23 : lw_okq (⟨"ToastMap", "firstSettled", "(I)I"⟩, 19) := ⟨⟨by decide +kernel, by decide +kernel⟩, List.mem_of_getElem? (i := 22) (by decide +kernel), List.mem_of_getElem? (i := 967) (by decide +kernel), List.mem_of_getElem? (i := 968) (by decide +kernel)⟩
theorem lw_p24 : lw_okq (⟨"ToastMap$Company", "warmestOf", "(I)I"⟩, 10) := ⟨⟨by decide +kernel, by decide +kernel⟩, List.mem_of_getElem? (i := 153) (by decide +kernel), List.mem_of_getElem? (i := 1023) (by decide +kernel), List.mem_of_getElem? (i := 1024) (by decide +kernel)⟩
theorem lw_p25 : lw_okq (⟨"ToastMap$Company", "canAllBeLit", "(II)Z"⟩, 10) := ⟨⟨by decide +kernel, by decide +kernel⟩, List.mem_of_getElem? (i := 153) (by decide +kernel), List.mem_of_getElem? (i := 1036) (by decide +kernel), List.mem_of_getElem? (i := 1037) (by decide +kernel)⟩
theorem lw_p26 : lw_okq (⟨"ToastMap", "waysStatus", "(II)I"⟩, 19) := ⟨⟨by decide +kernel, by decide +kernel⟩, List.mem_of_getElem? (i := 22) (by decide +kernel), List.mem_of_getElem? (i := 1053) (by decide +kernel), List.mem_of_getElem? (i := 1054) (by decide +kernel)⟩
theorem lw_p27 : lw_okq (⟨"ToastMap", "rowsStatus", "(IIII)I"⟩, 19) := ⟨⟨by decide +kernel, by decide +kernel⟩, List.mem_of_getElem? (i := 22) (by decide +kernel), List.mem_of_getElem? (i := 1057) (by decide +kernel), List.mem_of_getElem? (i := 1058) (by decide +kernel)⟩
theorem lw_p28 : lw_okq (⟨"ToastMap", "findWays", "(II)V"⟩, 19) := ⟨⟨by decide +kernel, by decide +kernel⟩, List.mem_of_getElem? (i := 22) (by decide +kernel), List.mem_of_getElem? (i := 1061) (by decide +kernel), List.mem_of_getElem? (i := 1062) (by decide +kernel)⟩
theorem lw_p29 : lw_okq (⟨"ToastMap$Ways", "spread", "(I)V"⟩, 5) := ⟨⟨by decide +kernel, by decide +kernel⟩, List.mem_of_getElem? (i := 364) (by decide +kernel), List.mem_of_getElem? (i := 1078) (by decide +kernel), List.mem_of_getElem? (i := 1079) (by decide +kernel)⟩
theorem lw_p30 : lw_okq (⟨"ToastMap$Ways", "isOpen", "(III)Z"⟩, 5) := ⟨⟨by decide +kernel, by decide +kernel⟩, List.mem_of_getElem? (i := 364) (by decide +kernel), List.mem_of_getElem? (i := 1083) (by decide +kernel), List.mem_of_getElem? (i := 1084) (by decide +kernel)⟩
theorem lw_p31 : lw_okq (⟨"ToastMap$Ways", "gather", "(I)V"⟩, 5) := ⟨⟨by decide +kernel, by decide +kernel⟩, List.mem_of_getElem? (i := 364) (by decide +kernel), List.mem_of_getElem? (i := 1087) (by decide +kernel), List.mem_of_getElem? (i := 1088) (by decide +kernel)⟩
def lw_privs_2 : List (MethodName × Nat) := [(⟨"ToastMap$TimesReader", "readWho", "(ILToastMap$Company;)Z"⟩, 4), (⟨"ToastMap$TimesReader", "readAmount", "(III)Z"⟩, 4), (⟨"ToastMap$TimesReader", "readTest", "(ILToastMap$Company;)Z"⟩, 4), (⟨"ToastMap$TimesReader", "readCompares", "(I)Z"⟩, 4), (⟨"ToastMap", "isCouple", "(II)Z"⟩, 19), (⟨"ToastMap", "lookAhead", "(I)V"⟩, 19), (⟨"ToastMap", "findPeriod", "()I"⟩, 19), (⟨"ToastMap", "firstSettled", "(I)I"⟩, 19), (⟨"ToastMap$Company", "warmestOf", "(I)I"⟩, 10), (⟨"ToastMap$Company", "canAllBeLit", "(II)Z"⟩, 10), (⟨"ToastMap", "waysStatus", "(II)I"⟩, 19), (⟨"ToastMap", "rowsStatus", "(IIII)I"⟩, 19), (⟨"ToastMap", "findWays", "(II)V"⟩, 19), (⟨"ToastMap$Ways", "spread", "(I)V"⟩, 5), (⟨"ToastMap$Ways", "isOpen", "(III)Z"⟩, 5), (⟨"ToastMap$Ways", "gather", "(I)V"⟩, 5)]
theorem lw_r2 : ∀ q ∈ lw_privs_2, lw_okq q := List.forall_mem_cons.mpr ⟨lw_p16, List.forall_mem_cons.mpr ⟨lw_p17, List.forall_mem_cons.mpr ⟨lw_p18, List.forall_mem_cons.mpr ⟨lw_p19, List.forall_mem_cons.mpr ⟨lw_p20, List.forall_mem_cons.mpr ⟨lw_p21, List.forall_mem_cons.mpr ⟨lw_p22, List.forall_mem_cons.mpr ⟨lw_p23, List.forall_mem_cons.mpr ⟨lw_p24, List.forall_mem_cons.mpr ⟨lw_p25, List.forall_mem_cons.mpr ⟨lw_p26, List.forall_mem_cons.mpr ⟨lw_p27, List.forall_mem_cons.mpr ⟨lw_p28, List.forall_mem_cons.mpr ⟨lw_p29, List.forall_mem_cons.mpr ⟨lw_p30, List.forall_mem_cons.mpr ⟨lw_p31, fun _ h => absurd h List.not_mem_nil⟩⟩⟩⟩⟩⟩⟩⟩⟩⟩⟩⟩⟩⟩⟩⟩
theorem lw_p32 : lw_okq (⟨"ToastMap$Ways", "firstOpen", "(II)I"⟩, 5) := ⟨⟨by decide +kernel, by decide +kernel⟩, List.mem_of_getElem? (i := 364) (by decide +kernel), List.mem_of_getElem? (i := 1103) (by decide +kernel), List.mem_of_getElem? (i := 1104) (by decide +kernel)⟩
theorem lw_p33 : lw_okq (⟨"ToastMap", "tell", "(JJ)Z"⟩, 19) := ⟨⟨by decide +kernel, by decide +kernel⟩, List.mem_of_getElem? (i := 22) (by decide +kernel), List.mem_of_getElem? (i := 1115) (by decide +kernel), List.mem_of_getElem? (i := 1116) (by decide +kernel)⟩
theorem lw_p34 : lw_okq (⟨"ToastMap$Ways", "mostThrough", "(I)I"⟩, 5) := ⟨⟨by decide +kernel, by decide +kernel⟩, List.mem_of_getElem? (i := 364) (by decide +kernel), List.mem_of_getElem? (i := 1133) (by decide +kernel), List.mem_of_getElem? (i := 1134) (by decide +kernel)⟩
theorem lw_p35 : lw_okq (⟨"ToastMap", "lawStatus", "(II)I"⟩, 19) := ⟨⟨by decide +kernel, by decide +kernel⟩, List.mem_of_getElem? (i := 22) (by decide +kernel), List.mem_of_getElem? (i := 1143) (by decide +kernel), List.mem_of_getElem? (i := 1144) (by decide +kernel)⟩
theorem lw_p36 : lw_okq (⟨"ToastMap", "isLaw", "(IIII)Z"⟩, 19) := ⟨⟨by decide +kernel, by decide +kernel⟩, List.mem_of_getElem? (i := 22) (by decide +kernel), List.mem_of_getElem? (i := 1150) (by decide +kernel), List.mem_of_getElem? (i := 1151) (by decide +kernel)⟩
theorem lw_p37 : lw_okq (⟨"ToastMap", "tasteBoth", "(I)V"⟩, 19) := ⟨⟨by decide +kernel, by decide +kernel⟩, List.mem_of_getElem? (i := 22) (by decide +kernel), List.mem_of_getElem? (i := 1163) (by decide +kernel), List.mem_of_getElem? (i := 1164) (by decide +kernel)⟩
theorem lw_p38 : lw_okq (⟨"ToastMap$Game", "litCount", "()I"⟩, 4) := ⟨⟨by decide +kernel, by decide +kernel⟩, List.mem_of_getElem? (i := 386) (by decide +kernel), List.mem_of_getElem? (i := 1200) (by decide +kernel), List.mem_of_getElem? (i := 1201) (by decide +kernel)⟩
theorem lw_p39 : lw_okq (⟨"ToastMap$Game", "behindDrink", "(IIII)I"⟩, 4) := ⟨⟨by decide +kernel, by decide +kernel⟩, List.mem_of_getElem? (i := 386) (by decide +kernel), List.mem_of_getElem? (i := 1207) (by decide +kernel), List.mem_of_getElem? (i := 1208) (by decide +kernel)⟩
theorem lw_p40 : lw_okq (⟨"ToastMap$Game", "draught", "(III)I"⟩, 4) := ⟨⟨by decide +kernel, by decide +kernel⟩, List.mem_of_getElem? (i := 386) (by decide +kernel), List.mem_of_getElem? (i := 1212) (by decide +kernel), List.mem_of_getElem? (i := 1213) (by decide +kernel)⟩
theorem lw_p41 : lw_okq (⟨"ToastMap$Game", "butler", "(III)I"⟩, 4) := ⟨⟨by decide +kernel, by decide +kernel⟩, List.mem_of_getElem? (i := 386) (by decide +kernel), List.mem_of_getElem? (i := 1216) (by decide +kernel), List.mem_of_getElem? (i := 1217) (by decide +kernel)⟩
theorem lw_p42 : lw_okq (⟨"ToastMap$Living", "behindEnd", "(LToastMap$Times;I)I"⟩, 8) := ⟨⟨by decide +kernel, by decide +kernel⟩, List.mem_of_getElem? (i := 327) (by decide +kernel), List.mem_of_getElem? (i := 1251) (by decide +kernel), List.mem_of_getElem? (i := 1252) (by decide +kernel)⟩
theorem lw_p43 : lw_okq (⟨"ToastMap$Living", "behindStep", "(LToastMap$Company;LToastMap$Times;I)I"⟩, 8) := ⟨⟨by decide +kernel, by decide +kernel⟩, List.mem_of_getElem? (i := 327) (by decide +kernel), List.mem_of_getElem? (i := 1255) (by decide +kernel), List.mem_of_getElem? (i := 1256) (by decide +kernel)⟩
theorem lw_p44 : lw_okq (⟨"ToastMap$Living", "liveDrink", "(LToastMap$Company;I)V"⟩, 8) := ⟨⟨by decide +kernel, by decide +kernel⟩, List.mem_of_getElem? (i := 327) (by decide +kernel), List.mem_of_getElem? (i := 1259) (by decide +kernel), List.mem_of_getElem? (i := 1260) (by decide +kernel)⟩
theorem lw_p45 : lw_okq (⟨"ToastMap$Living", "liveNights", "(LToastMap$Company;I)V"⟩, 8) := ⟨⟨by decide +kernel, by decide +kernel⟩, List.mem_of_getElem? (i := 327) (by decide +kernel), List.mem_of_getElem? (i := 1266) (by decide +kernel), List.mem_of_getElem? (i := 1267) (by decide +kernel)⟩
theorem lw_p46 : lw_okq (⟨"ToastMap$Living", "liveEvening", "(LToastMap$Company;)V"⟩, 8) := ⟨⟨by decide +kernel, by decide +kernel⟩, List.mem_of_getElem? (i := 327) (by decide +kernel), List.mem_of_getElem? (i := 1272) (by decide +kernel), List.mem_of_getElem? (i := 1273) (by decide +kernel)⟩
theorem lw_p47 : lw_okq (⟨"ToastMap$Living", "liveFill", "(LToastMap$Company;II)V"⟩, 8) := ⟨⟨by decide +kernel, by decide +kernel⟩, List.mem_of_getElem? (i := 327) (by decide +kernel), List.mem_of_getElem? (i := 1277) (by decide +kernel), List.mem_of_getElem? (i := 1278) (by decide +kernel)⟩
def lw_privs_3 : List (MethodName × Nat) := [(⟨"ToastMap$Ways", "firstOpen", "(II)I"⟩, 5), (⟨"ToastMap", "tell", "(JJ)Z"⟩, 19), (⟨"ToastMap$Ways", "mostThrough", "(I)I"⟩, 5), (⟨"ToastMap", "lawStatus", "(II)I"⟩, 19), (⟨"ToastMap", "isLaw", "(IIII)Z"⟩, 19), (⟨"ToastMap", "tasteBoth", "(I)V"⟩, 19), (⟨"ToastMap$Game", "litCount", "()I"⟩, 4), (⟨"ToastMap$Game", "behindDrink", "(IIII)I"⟩, 4), (⟨"ToastMap$Game", "draught", "(III)I"⟩, 4), (⟨"ToastMap$Game", "butler", "(III)I"⟩, 4), (⟨"ToastMap$Living", "behindEnd", "(LToastMap$Times;I)I"⟩, 8), (⟨"ToastMap$Living", "behindStep", "(LToastMap$Company;LToastMap$Times;I)I"⟩, 8), (⟨"ToastMap$Living", "liveDrink", "(LToastMap$Company;I)V"⟩, 8), (⟨"ToastMap$Living", "liveNights", "(LToastMap$Company;I)V"⟩, 8), (⟨"ToastMap$Living", "liveEvening", "(LToastMap$Company;)V"⟩, 8), (⟨"ToastMap$Living", "liveFill", "(LToastMap$Company;II)V"⟩, 8)]
theorem lw_r3 : ∀ q ∈ lw_privs_3, lw_okq q := List.forall_mem_cons.mpr ⟨lw_p32, List.forall_mem_cons.mpr ⟨lw_p33, List.forall_mem_cons.mpr ⟨lw_p34, List.forall_mem_cons.mpr ⟨lw_p35, List.forall_mem_cons.mpr ⟨lw_p36, List.forall_mem_cons.mpr ⟨lw_p37, List.forall_mem_cons.mpr ⟨lw_p38, List.forall_mem_cons.mpr ⟨lw_p39, List.forall_mem_cons.mpr ⟨lw_p40, List.forall_mem_cons.mpr ⟨lw_p41, List.forall_mem_cons.mpr ⟨lw_p42, List.forall_mem_cons.mpr ⟨lw_p43, List.forall_mem_cons.mpr ⟨lw_p44, List.forall_mem_cons.mpr ⟨lw_p45, List.forall_mem_cons.mpr ⟨lw_p46, List.forall_mem_cons.mpr ⟨lw_p47, fun _ h => absurd h List.not_mem_nil⟩⟩⟩⟩⟩⟩⟩⟩⟩⟩⟩⟩⟩⟩⟩⟩
theorem lw_p48 : lw_okq (⟨"ToastMap$Living", "liveAny", "(LToastMap$Company;)V"⟩, 8) := ⟨⟨by decide +kernel, by decide +kernel⟩, List.mem_of_getElem? (i := 327) (by decide +kernel), List.mem_of_getElem? (i := 1281) (by decide +kernel), List.mem_of_getElem? (i := 1282) (by decide +kernel)⟩
theorem lw_p49 : lw_okq (⟨"ToastMap$Living", "drawBy", "(I)I"⟩, 8) := ⟨⟨by decide +kernel, by decide +kernel⟩, List.mem_of_getElem? (i := 327) (by decide +kernel), List.mem_of_getElem? (i := 1285) (by decide +kernel), List.mem_of_getElem? (i := 1286) (by decide +kernel)⟩
theorem lw_p50 : lw_okq (⟨"ToastMap$Living", "holds", "(LToastMap$Company;LToastMap$Times;I)Z"⟩, 8) := ⟨⟨by decide +kernel, by decide +kernel⟩, List.mem_of_getElem? (i := 327) (by decide +kernel), List.mem_of_getElem? (i := 1291) (by decide +kernel), List.mem_of_getElem? (i := 1292) (by decide +kernel)⟩
theorem lw_p51 : lw_okq (⟨"ToastMapModel", "plain", "(I)V"⟩, 46) := ⟨⟨by decide +kernel, by decide +kernel⟩, List.mem_of_getElem? (i := 1330) (by decide +kernel), List.mem_of_getElem? (i := 1336) (by decide +kernel), List.mem_of_getElem? (i := 1337) (by decide +kernel)⟩
theorem lw_p52 : lw_okq (⟨"ToastMapModel", "is", "(I)Z"⟩, 46) := ⟨⟨by decide +kernel, by decide +kernel⟩, List.mem_of_getElem? (i := 1330) (by decide +kernel), List.mem_of_getElem? (i := 1498) (by decide +kernel), List.mem_of_getElem? (i := 1499) (by decide +kernel)⟩
theorem lw_p53 : lw_okq (⟨"ToastMapModel", "wrongPlace", "(II)I"⟩, 46) := ⟨⟨by decide +kernel, by decide +kernel⟩, List.mem_of_getElem? (i := 1330) (by decide +kernel), List.mem_of_getElem? (i := 1506) (by decide +kernel), List.mem_of_getElem? (i := 1507) (by decide +kernel)⟩
theorem lw_p54 : lw_okq (⟨"ToastMapModel", "four", "(I)V"⟩, 46) := ⟨⟨by decide +kernel, by decide +kernel⟩, List.mem_of_getElem? (i := 1330) (by decide +kernel), List.mem_of_getElem? (i := 1526) (by decide +kernel), List.mem_of_getElem? (i := 1527) (by decide +kernel)⟩
theorem lw_p55 : lw_okq (⟨"ToastMapModel", "begins", "(II)Z"⟩, 46) := ⟨⟨by decide +kernel, by decide +kernel⟩, List.mem_of_getElem? (i := 1330) (by decide +kernel), List.mem_of_getElem? (i := 1538) (by decide +kernel), List.mem_of_getElem? (i := 1539) (by decide +kernel)⟩
theorem lw_p56 : lw_okq (⟨"ToastMapModel", "ahead", "()V"⟩, 46) := ⟨⟨by decide +kernel, by decide +kernel⟩, List.mem_of_getElem? (i := 1330) (by decide +kernel), List.mem_of_getElem? (i := 1542) (by decide +kernel), List.mem_of_getElem? (i := 1543) (by decide +kernel)⟩
theorem lw_p57 : lw_okq (⟨"ToastMapModel", "byteAt", "(I)I"⟩, 46) := ⟨⟨by decide +kernel, by decide +kernel⟩, List.mem_of_getElem? (i := 1330) (by decide +kernel), List.mem_of_getElem? (i := 1546) (by decide +kernel), List.mem_of_getElem? (i := 1547) (by decide +kernel)⟩
theorem lw_p58 : lw_okq (⟨"ToastMapModel", "refuse", "(I)I"⟩, 46) := ⟨⟨by decide +kernel, by decide +kernel⟩, List.mem_of_getElem? (i := 1330) (by decide +kernel), List.mem_of_getElem? (i := 1558) (by decide +kernel), List.mem_of_getElem? (i := 1559) (by decide +kernel)⟩
theorem lw_p59 : lw_okq (⟨"ToastMapModel", "mapPart", "()Z"⟩, 46) := ⟨⟨by decide +kernel, by decide +kernel⟩, List.mem_of_getElem? (i := 1330) (by decide +kernel), List.mem_of_getElem? (i := 1562) (by decide +kernel), List.mem_of_getElem? (i := 1563) (by decide +kernel)⟩
theorem lw_p60 : lw_okq (⟨"ToastMapModel", "inWords", "(Ljava/lang/String;)I"⟩, 46) := ⟨⟨by decide +kernel, by decide +kernel⟩, List.mem_of_getElem? (i := 1330) (by decide +kernel), List.mem_of_getElem? (i := 1567) (by decide +kernel), List.mem_of_getElem? (i := 1568) (by decide +kernel)⟩
theorem lw_p61 : lw_okq (⟨"ToastMapModel", "fails", "(I)Z"⟩, 46) := ⟨⟨by decide +kernel, by decide +kernel⟩, List.mem_of_getElem? (i := 1330) (by decide +kernel), List.mem_of_getElem? (i := 1573) (by decide +kernel), List.mem_of_getElem? (i := 1574) (by decide +kernel)⟩
theorem lw_p62 : lw_okq (⟨"ToastMapModel", "isIn", "(II)Z"⟩, 46) := ⟨⟨by decide +kernel, by decide +kernel⟩, List.mem_of_getElem? (i := 1330) (by decide +kernel), List.mem_of_getElem? (i := 1577) (by decide +kernel), List.mem_of_getElem? (i := 1578) (by decide +kernel)⟩
theorem lw_p63 : lw_okq (⟨"ToastMapModel", "aPerson", "()Z"⟩, 46) := ⟨⟨by decide +kernel, by decide +kernel⟩, List.mem_of_getElem? (i := 1330) (by decide +kernel), List.mem_of_getElem? (i := 1581) (by decide +kernel), List.mem_of_getElem? (i := 1582) (by decide +kernel)⟩
def lw_privs_4 : List (MethodName × Nat) := [(⟨"ToastMap$Living", "liveAny", "(LToastMap$Company;)V"⟩, 8), (⟨"ToastMap$Living", "drawBy", "(I)I"⟩, 8), (⟨"ToastMap$Living", "holds", "(LToastMap$Company;LToastMap$Times;I)Z"⟩, 8), (⟨"ToastMapModel", "plain", "(I)V"⟩, 46), (⟨"ToastMapModel", "is", "(I)Z"⟩, 46), (⟨"ToastMapModel", "wrongPlace", "(II)I"⟩, 46), (⟨"ToastMapModel", "four", "(I)V"⟩, 46), (⟨"ToastMapModel", "begins", "(II)Z"⟩, 46), (⟨"ToastMapModel", "ahead", "()V"⟩, 46), (⟨"ToastMapModel", "byteAt", "(I)I"⟩, 46), (⟨"ToastMapModel", "refuse", "(I)I"⟩, 46), (⟨"ToastMapModel", "mapPart", "()Z"⟩, 46), (⟨"ToastMapModel", "inWords", "(Ljava/lang/String;)I"⟩, 46), (⟨"ToastMapModel", "fails", "(I)Z"⟩, 46), (⟨"ToastMapModel", "isIn", "(II)Z"⟩, 46), (⟨"ToastMapModel", "aPerson", "()Z"⟩, 46)]
theorem lw_r4 : ∀ q ∈ lw_privs_4, lw_okq q := List.forall_mem_cons.mpr ⟨lw_p48, List.forall_mem_cons.mpr ⟨lw_p49, List.forall_mem_cons.mpr ⟨lw_p50, List.forall_mem_cons.mpr ⟨lw_p51, List.forall_mem_cons.mpr ⟨lw_p52, List.forall_mem_cons.mpr ⟨lw_p53, List.forall_mem_cons.mpr ⟨lw_p54, List.forall_mem_cons.mpr ⟨lw_p55, List.forall_mem_cons.mpr ⟨lw_p56, List.forall_mem_cons.mpr ⟨lw_p57, List.forall_mem_cons.mpr ⟨lw_p58, List.forall_mem_cons.mpr ⟨lw_p59, List.forall_mem_cons.mpr ⟨lw_p60, List.forall_mem_cons.mpr ⟨lw_p61, List.forall_mem_cons.mpr ⟨lw_p62, List.forall_mem_cons.mpr ⟨lw_p63, fun _ h => absurd h List.not_mem_nil⟩⟩⟩⟩⟩⟩⟩⟩⟩⟩⟩⟩⟩⟩⟩⟩
theorem lw_p64 : lw_okq (⟨"ToastMapModel", "isName", "(Ljava/lang/String;)Z"⟩, 46) := ⟨⟨by decide +kernel, by decide +kernel⟩, List.mem_of_getElem? (i := 1330) (by decide +kernel), List.mem_of_getElem? (i := 1588) (by decide +kernel), List.mem_of_getElem? (i := 1589) (by decide +kernel)⟩
theorem lw_p65 : lw_okq (⟨"ToastMapModel", "findHere", "(II)I"⟩, 46) := ⟨⟨by decide +kernel, by decide +kernel⟩, List.mem_of_getElem? (i := 1330) (by decide +kernel), List.mem_of_getElem? (i := 1592) (by decide +kernel), List.mem_of_getElem? (i := 1593) (by decide +kernel)⟩
theorem lw_p66 : lw_okq (⟨"ToastMapModel", "nameHere", "()J"⟩, 46) := ⟨⟨by decide +kernel, by decide +kernel⟩, List.mem_of_getElem? (i := 1330) (by decide +kernel), List.mem_of_getElem? (i := 1596) (by decide +kernel), List.mem_of_getElem? (i := 1597) (by decide +kernel)⟩
theorem lw_p67 : lw_okq (⟨"ToastMapModel", "wantWord", "(Ljava/lang/String;I)Z"⟩, 46) := ⟨⟨by decide +kernel, by decide +kernel⟩, List.mem_of_getElem? (i := 1330) (by decide +kernel), List.mem_of_getElem? (i := 1600) (by decide +kernel), List.mem_of_getElem? (i := 1601) (by decide +kernel)⟩
theorem lw_p68 : lw_okq (⟨"ToastMapModel", "number", "(III)Z"⟩, 46) := ⟨⟨by decide +kernel, by decide +kernel⟩, List.mem_of_getElem? (i := 1330) (by decide +kernel), List.mem_of_getElem? (i := 1604) (by decide +kernel), List.mem_of_getElem? (i := 1605) (by decide +kernel)⟩
theorem lw_p69 : lw_okq (⟨"ToastMapModel", "perhaps", "(IIIII)Z"⟩, 46) := ⟨⟨by decide +kernel, by decide +kernel⟩, List.mem_of_getElem? (i := 1330) (by decide +kernel), List.mem_of_getElem? (i := 1608) (by decide +kernel), List.mem_of_getElem? (i := 1609) (by decide +kernel)⟩
theorem lw_p70 : lw_okq (⟨"ToastMapModel", "isThere", "(I)Z"⟩, 46) := ⟨⟨by decide +kernel, by decide +kernel⟩, List.mem_of_getElem? (i := 1330) (by decide +kernel), List.mem_of_getElem? (i := 1612) (by decide +kernel), List.mem_of_getElem? (i := 1613) (by decide +kernel)⟩
theorem lw_p71 : lw_okq (⟨"ToastMapModel", "wantSign", "(I)Z"⟩, 46) := ⟨⟨by decide +kernel, by decide +kernel⟩, List.mem_of_getElem? (i := 1330) (by decide +kernel), List.mem_of_getElem? (i := 1616) (by decide +kernel), List.mem_of_getElem? (i := 1617) (by decide +kernel)⟩
theorem lw_p72 : lw_okq (⟨"ToastMapModel", "isSign", "(I)Z"⟩, 46) := ⟨⟨by decide +kernel, by decide +kernel⟩, List.mem_of_getElem? (i := 1330) (by decide +kernel), List.mem_of_getElem? (i := 1620) (by decide +kernel), List.mem_of_getElem? (i := 1621) (by decide +kernel)⟩
theorem lw_p73 : lw_okq (⟨"ToastMapModel", "aToast", "()Z"⟩, 46) := ⟨⟨by decide +kernel, by decide +kernel⟩, List.mem_of_getElem? (i := 1330) (by decide +kernel), List.mem_of_getElem? (i := 1624) (by decide +kernel), List.mem_of_getElem? (i := 1625) (by decide +kernel)⟩
theorem lw_p74 : lw_okq (⟨"ToastMapModel", "taken", "(I)I"⟩, 46) := ⟨⟨by decide +kernel, by decide +kernel⟩, List.mem_of_getElem? (i := 1330) (by decide +kernel), List.mem_of_getElem? (i := 1634) (by decide +kernel), List.mem_of_getElem? (i := 1635) (by decide +kernel)⟩
theorem lw_p75 : lw_okq (⟨"ToastMapModel", "gives", "(I)I"⟩, 46) := ⟨⟨by decide +kernel, by decide +kernel⟩, List.mem_of_getElem? (i := 1330) (by decide +kernel), List.mem_of_getElem? (i := 1638) (by decide +kernel), List.mem_of_getElem? (i := 1639) (by decide +kernel)⟩
theorem lw_p76 : lw_okq (⟨"ToastMapModel", "timeStep", "()Z"⟩, 46) := ⟨⟨by decide +kernel, by decide +kernel⟩, List.mem_of_getElem? (i := 1330) (by decide +kernel), List.mem_of_getElem? (i := 1646) (by decide +kernel), List.mem_of_getElem? (i := 1647) (by decide +kernel)⟩
theorem lw_p77 : lw_okq (⟨"ToastMapModel", "timeOrder", "(II)Z"⟩, 46) := ⟨⟨by decide +kernel, by decide +kernel⟩, List.mem_of_getElem? (i := 1330) (by decide +kernel), List.mem_of_getElem? (i := 1650) (by decide +kernel), List.mem_of_getElem? (i := 1651) (by decide +kernel)⟩
theorem lw_p78 : lw_okq (⟨"ToastMapModel", "personTo", "(I)Z"⟩, 46) := ⟨⟨by decide +kernel, by decide +kernel⟩, List.mem_of_getElem? (i := 1330) (by decide +kernel), List.mem_of_getElem? (i := 1654) (by decide +kernel), List.mem_of_getElem? (i := 1655) (by decide +kernel)⟩
theorem lw_p79 : lw_okq (⟨"ToastMapModel", "test", "(I)Z"⟩, 46) := ⟨⟨by decide +kernel, by decide +kernel⟩, List.mem_of_getElem? (i := 1330) (by decide +kernel), List.mem_of_getElem? (i := 1658) (by decide +kernel), List.mem_of_getElem? (i := 1659) (by decide +kernel)⟩
def lw_privs_5 : List (MethodName × Nat) := [(⟨"ToastMapModel", "isName", "(Ljava/lang/String;)Z"⟩, 46), (⟨"ToastMapModel", "findHere", "(II)I"⟩, 46), (⟨"ToastMapModel", "nameHere", "()J"⟩, 46), (⟨"ToastMapModel", "wantWord", "(Ljava/lang/String;I)Z"⟩, 46), (⟨"ToastMapModel", "number", "(III)Z"⟩, 46), (⟨"ToastMapModel", "perhaps", "(IIIII)Z"⟩, 46), (⟨"ToastMapModel", "isThere", "(I)Z"⟩, 46), (⟨"ToastMapModel", "wantSign", "(I)Z"⟩, 46), (⟨"ToastMapModel", "isSign", "(I)Z"⟩, 46), (⟨"ToastMapModel", "aToast", "()Z"⟩, 46), (⟨"ToastMapModel", "taken", "(I)I"⟩, 46), (⟨"ToastMapModel", "gives", "(I)I"⟩, 46), (⟨"ToastMapModel", "timeStep", "()Z"⟩, 46), (⟨"ToastMapModel", "timeOrder", "(II)Z"⟩, 46), (⟨"ToastMapModel", "personTo", "(I)Z"⟩, 46), (⟨"ToastMapModel", "test", "(I)Z"⟩, 46)]
theorem lw_r5 : ∀ q ∈ lw_privs_5, lw_okq q := List.forall_mem_cons.mpr ⟨lw_p64, List.forall_mem_cons.mpr ⟨lw_p65, List.forall_mem_cons.mpr ⟨lw_p66, List.forall_mem_cons.mpr ⟨lw_p67, List.forall_mem_cons.mpr ⟨lw_p68, List.forall_mem_cons.mpr ⟨lw_p69, List.forall_mem_cons.mpr ⟨lw_p70, List.forall_mem_cons.mpr ⟨lw_p71, List.forall_mem_cons.mpr ⟨lw_p72, List.forall_mem_cons.mpr ⟨lw_p73, List.forall_mem_cons.mpr ⟨lw_p74, List.forall_mem_cons.mpr ⟨lw_p75, List.forall_mem_cons.mpr ⟨lw_p76, List.forall_mem_cons.mpr ⟨lw_p77, List.forall_mem_cons.mpr ⟨lw_p78, List.forall_mem_cons.mpr ⟨lw_p79, fun _ h => absurd h List.not_mem_nil⟩⟩⟩⟩⟩⟩⟩⟩⟩⟩⟩⟩⟩⟩⟩⟩
theorem lw_p80 : lw_okq (⟨"ToastMapModel", "areLit", "()I"⟩, 46) := ⟨⟨by decide +kernel, by decide +kernel⟩, List.mem_of_getElem? (i := 1330) (by decide +kernel), List.mem_of_getElem? (i := 1666) (by decide +kernel), List.mem_of_getElem? (i := 1667) (by decide +kernel)⟩
theorem lw_p81 : lw_okq (⟨"ToastMapModel", "isLit", "(I)Z"⟩, 46) := ⟨⟨by decide +kernel, by decide +kernel⟩, List.mem_of_getElem? (i := 1330) (by decide +kernel), List.mem_of_getElem? (i := 1670) (by decide +kernel), List.mem_of_getElem? (i := 1671) (by decide +kernel)⟩
theorem lw_p82 : lw_okq (⟨"ToastMapModel", "personOf", "(II)I"⟩, 46) := ⟨⟨by decide +kernel, by decide +kernel⟩, List.mem_of_getElem? (i := 1330) (by decide +kernel), List.mem_of_getElem? (i := 1674) (by decide +kernel), List.mem_of_getElem? (i := 1675) (by decide +kernel)⟩
theorem lw_p83 : lw_okq (⟨"ToastMapModel", "haveWhom", "()I"⟩, 46) := ⟨⟨by decide +kernel, by decide +kernel⟩, List.mem_of_getElem? (i := 1330) (by decide +kernel), List.mem_of_getElem? (i := 1678) (by decide +kernel), List.mem_of_getElem? (i := 1679) (by decide +kernel)⟩
theorem lw_p84 : lw_okq (⟨"ToastMapModel", "whomOf", "(I)I"⟩, 46) := ⟨⟨by decide +kernel, by decide +kernel⟩, List.mem_of_getElem? (i := 1330) (by decide +kernel), List.mem_of_getElem? (i := 1682) (by decide +kernel), List.mem_of_getElem? (i := 1683) (by decide +kernel)⟩
theorem lw_p85 : lw_okq (⟨"ToastMapModel", "together", "(I)I"⟩, 46) := ⟨⟨by decide +kernel, by decide +kernel⟩, List.mem_of_getElem? (i := 1330) (by decide +kernel), List.mem_of_getElem? (i := 1686) (by decide +kernel), List.mem_of_getElem? (i := 1687) (by decide +kernel)⟩
theorem lw_p86 : lw_okq (⟨"ToastMapModel", "isPerson", "(I)Z"⟩, 46) := ⟨⟨by decide +kernel, by decide +kernel⟩, List.mem_of_getElem? (i := 1330) (by decide +kernel), List.mem_of_getElem? (i := 1694) (by decide +kernel), List.mem_of_getElem? (i := 1695) (by decide +kernel)⟩
theorem lw_p87 : lw_okq (⟨"ToastMapModel", "warmersOf", "(I)I"⟩, 46) := ⟨⟨by decide +kernel, by decide +kernel⟩, List.mem_of_getElem? (i := 1330) (by decide +kernel), List.mem_of_getElem? (i := 1698) (by decide +kernel), List.mem_of_getElem? (i := 1699) (by decide +kernel)⟩
theorem lw_p88 : lw_okq (⟨"ToastMapModel", "warmOf", "(I)I"⟩, 46) := ⟨⟨by decide +kernel, by decide +kernel⟩, List.mem_of_getElem? (i := 1330) (by decide +kernel), List.mem_of_getElem? (i := 1702) (by decide +kernel), List.mem_of_getElem? (i := 1703) (by decide +kernel)⟩
theorem lw_p89 : lw_okq (⟨"ToastMapModel", "farBetween", "(II)I"⟩, 46) := ⟨⟨by decide +kernel, by decide +kernel⟩, List.mem_of_getElem? (i := 1330) (by decide +kernel), List.mem_of_getElem? (i := 1706) (by decide +kernel), List.mem_of_getElem? (i := 1707) (by decide +kernel)⟩
theorem lw_p90 : lw_okq (⟨"ToastMapModel", "drinks", "(I)Z"⟩, 46) := ⟨⟨by decide +kernel, by decide +kernel⟩, List.mem_of_getElem? (i := 1330) (by decide +kernel), List.mem_of_getElem? (i := 1722) (by decide +kernel), List.mem_of_getElem? (i := 1723) (by decide +kernel)⟩
theorem lw_p91 : lw_okq (⟨"ToastMapModel", "warms", "(II)V"⟩, 46) := ⟨⟨by decide +kernel, by decide +kernel⟩, List.mem_of_getElem? (i := 1330) (by decide +kernel), List.mem_of_getElem? (i := 1726) (by decide +kernel), List.mem_of_getElem? (i := 1727) (by decide +kernel)⟩
theorem lw_p92 : lw_okq (⟨"ToastMapModel", "nightsGo", "(I)V"⟩, 46) := ⟨⟨by decide +kernel, by decide +kernel⟩, List.mem_of_getElem? (i := 1330) (by decide +kernel), List.mem_of_getElem? (i := 1738) (by decide +kernel), List.mem_of_getElem? (i := 1739) (by decide +kernel)⟩
theorem lw_p93 : lw_okq (⟨"ToastMapModel", "nightGoes", "()V"⟩, 46) := ⟨⟨by decide +kernel, by decide +kernel⟩, List.mem_of_getElem? (i := 1330) (by decide +kernel), List.mem_of_getElem? (i := 1742) (by decide +kernel), List.mem_of_getElem? (i := 1743) (by decide +kernel)⟩
theorem lw_p94 : lw_okq (⟨"ToastMapModel", "cools", "(I)V"⟩, 46) := ⟨⟨by decide +kernel, by decide +kernel⟩, List.mem_of_getElem? (i := 1330) (by decide +kernel), List.mem_of_getElem? (i := 1746) (by decide +kernel), List.mem_of_getElem? (i := 1747) (by decide +kernel)⟩
theorem lw_p95 : lw_okq (⟨"ToastMapModel", "eveningGoes", "(I)I"⟩, 46) := ⟨⟨by decide +kernel, by decide +kernel⟩, List.mem_of_getElem? (i := 1330) (by decide +kernel), List.mem_of_getElem? (i := 1754) (by decide +kernel), List.mem_of_getElem? (i := 1755) (by decide +kernel)⟩
def lw_privs_6 : List (MethodName × Nat) := [(⟨"ToastMapModel", "areLit", "()I"⟩, 46), (⟨"ToastMapModel", "isLit", "(I)Z"⟩, 46), (⟨"ToastMapModel", "personOf", "(II)I"⟩, 46), (⟨"ToastMapModel", "haveWhom", "()I"⟩, 46), (⟨"ToastMapModel", "whomOf", "(I)I"⟩, 46), (⟨"ToastMapModel", "together", "(I)I"⟩, 46), (⟨"ToastMapModel", "isPerson", "(I)Z"⟩, 46), (⟨"ToastMapModel", "warmersOf", "(I)I"⟩, 46), (⟨"ToastMapModel", "warmOf", "(I)I"⟩, 46), (⟨"ToastMapModel", "farBetween", "(II)I"⟩, 46), (⟨"ToastMapModel", "drinks", "(I)Z"⟩, 46), (⟨"ToastMapModel", "warms", "(II)V"⟩, 46), (⟨"ToastMapModel", "nightsGo", "(I)V"⟩, 46), (⟨"ToastMapModel", "nightGoes", "()V"⟩, 46), (⟨"ToastMapModel", "cools", "(I)V"⟩, 46), (⟨"ToastMapModel", "eveningGoes", "(I)I"⟩, 46)]
theorem lw_r6 : ∀ q ∈ lw_privs_6, lw_okq q := List.forall_mem_cons.mpr ⟨lw_p80, List.forall_mem_cons.mpr ⟨lw_p81, List.forall_mem_cons.mpr ⟨lw_p82, List.forall_mem_cons.mpr ⟨lw_p83, List.forall_mem_cons.mpr ⟨lw_p84, List.forall_mem_cons.mpr ⟨lw_p85, List.forall_mem_cons.mpr ⟨lw_p86, List.forall_mem_cons.mpr ⟨lw_p87, List.forall_mem_cons.mpr ⟨lw_p88, List.forall_mem_cons.mpr ⟨lw_p89, List.forall_mem_cons.mpr ⟨lw_p90, List.forall_mem_cons.mpr ⟨lw_p91, List.forall_mem_cons.mpr ⟨lw_p92, List.forall_mem_cons.mpr ⟨lw_p93, List.forall_mem_cons.mpr ⟨lw_p94, List.forall_mem_cons.mpr ⟨lw_p95, fun _ h => absurd h List.not_mem_nil⟩⟩⟩⟩⟩⟩⟩⟩⟩⟩⟩⟩⟩⟩⟩⟩
theorem lw_p96 : lw_okq (⟨"ToastMapModel", "fills", "(II)Z"⟩, 46) := ⟨⟨by decide +kernel, by decide +kernel⟩, List.mem_of_getElem? (i := 1330) (by decide +kernel), List.mem_of_getElem? (i := 1763) (by decide +kernel), List.mem_of_getElem? (i := 1764) (by decide +kernel)⟩
theorem lw_p97 : lw_okq (⟨"ToastMapModel", "areTwo", "(II)Z"⟩, 46) := ⟨⟨by decide +kernel, by decide +kernel⟩, List.mem_of_getElem? (i := 1330) (by decide +kernel), List.mem_of_getElem? (i := 1780) (by decide +kernel), List.mem_of_getElem? (i := 1781) (by decide +kernel)⟩
theorem lw_p98 : lw_okq (⟨"ToastMapModel", "cooled", "(II)I"⟩, 46) := ⟨⟨by decide +kernel, by decide +kernel⟩, List.mem_of_getElem? (i := 1330) (by decide +kernel), List.mem_of_getElem? (i := 1797) (by decide +kernel), List.mem_of_getElem? (i := 1798) (by decide +kernel)⟩
theorem lw_p99 : lw_okq (⟨"ToastMapModel", "keeps", "(I)V"⟩, 46) := ⟨⟨by decide +kernel, by decide +kernel⟩, List.mem_of_getElem? (i := 1330) (by decide +kernel), List.mem_of_getElem? (i := 1809) (by decide +kernel), List.mem_of_getElem? (i := 1810) (by decide +kernel)⟩
theorem lw_p100 : lw_okq (⟨"ToastMapModel", "eveningsGo", "(I)V"⟩, 46) := ⟨⟨by decide +kernel, by decide +kernel⟩, List.mem_of_getElem? (i := 1330) (by decide +kernel), List.mem_of_getElem? (i := 1813) (by decide +kernel), List.mem_of_getElem? (i := 1814) (by decide +kernel)⟩
theorem lw_p101 : lw_okq (⟨"ToastMapModel", "restores", "(I)V"⟩, 46) := ⟨⟨by decide +kernel, by decide +kernel⟩, List.mem_of_getElem? (i := 1330) (by decide +kernel), List.mem_of_getElem? (i := 1817) (by decide +kernel), List.mem_of_getElem? (i := 1818) (by decide +kernel)⟩
theorem lw_p102 : lw_okq (⟨"ToastMapModel", "laysSettled", "()Z"⟩, 46) := ⟨⟨by decide +kernel, by decide +kernel⟩, List.mem_of_getElem? (i := 1330) (by decide +kernel), List.mem_of_getElem? (i := 1829) (by decide +kernel), List.mem_of_getElem? (i := 1830) (by decide +kernel)⟩
theorem lw_p103 : lw_okq (⟨"ToastMapModel", "isAlike", "(II)Z"⟩, 46) := ⟨⟨by decide +kernel, by decide +kernel⟩, List.mem_of_getElem? (i := 1330) (by decide +kernel), List.mem_of_getElem? (i := 1833) (by decide +kernel), List.mem_of_getElem? (i := 1834) (by decide +kernel)⟩
theorem lw_p104 : lw_okq (⟨"ToastMapModel", "laysChain", "(I)V"⟩, 46) := ⟨⟨by decide +kernel, by decide +kernel⟩, List.mem_of_getElem? (i := 1330) (by decide +kernel), List.mem_of_getElem? (i := 1845) (by decide +kernel), List.mem_of_getElem? (i := 1846) (by decide +kernel)⟩
theorem lw_p105 : lw_okq (⟨"ToastMapModel", "ringOf", "(I)I"⟩, 46) := ⟨⟨by decide +kernel, by decide +kernel⟩, List.mem_of_getElem? (i := 1330) (by decide +kernel), List.mem_of_getElem? (i := 1857) (by decide +kernel), List.mem_of_getElem? (i := 1858) (by decide +kernel)⟩
theorem lw_p106 : lw_okq (⟨"ToastMapModel", "needsOf", "(I)I"⟩, 46) := ⟨⟨by decide +kernel, by decide +kernel⟩, List.mem_of_getElem? (i := 1330) (by decide +kernel), List.mem_of_getElem? (i := 1869) (by decide +kernel), List.mem_of_getElem? (i := 1870) (by decide +kernel)⟩
theorem lw_p107 : lw_okq (⟨"ToastMapModel", "mostOfAll", "(I)I"⟩, 46) := ⟨⟨by decide +kernel, by decide +kernel⟩, List.mem_of_getElem? (i := 1330) (by decide +kernel), List.mem_of_getElem? (i := 1879) (by decide +kernel), List.mem_of_getElem? (i := 1880) (by decide +kernel)⟩
theorem lw_p108 : lw_okq (⟨"ToastMapModel", "litBehind", "(I)I"⟩, 46) := ⟨⟨by decide +kernel, by decide +kernel⟩, List.mem_of_getElem? (i := 1330) (by decide +kernel), List.mem_of_getElem? (i := 1894) (by decide +kernel), List.mem_of_getElem? (i := 1895) (by decide +kernel)⟩
theorem lw_p109 : lw_okq (⟨"ToastMapModel", "wrongSeen", "(II)I"⟩, 46) := ⟨⟨by decide +kernel, by decide +kernel⟩, List.mem_of_getElem? (i := 1330) (by decide +kernel), List.mem_of_getElem? (i := 1902) (by decide +kernel), List.mem_of_getElem? (i := 1903) (by decide +kernel)⟩
theorem lw_p110 : lw_okq (⟨"ToastMapModel", "laysWays", "(II)V"⟩, 46) := ⟨⟨by decide +kernel, by decide +kernel⟩, List.mem_of_getElem? (i := 1330) (by decide +kernel), List.mem_of_getElem? (i := 1907) (by decide +kernel), List.mem_of_getElem? (i := 1908) (by decide +kernel)⟩
theorem lw_p111 : lw_okq (⟨"ToastMapModel", "isWay", "(II)Z"⟩, 46) := ⟨⟨by decide +kernel, by decide +kernel⟩, List.mem_of_getElem? (i := 1330) (by decide +kernel), List.mem_of_getElem? (i := 1911) (by decide +kernel), List.mem_of_getElem? (i := 1912) (by decide +kernel)⟩
def lw_privs_7 : List (MethodName × Nat) := [(⟨"ToastMapModel", "fills", "(II)Z"⟩, 46), (⟨"ToastMapModel", "areTwo", "(II)Z"⟩, 46), (⟨"ToastMapModel", "cooled", "(II)I"⟩, 46), (⟨"ToastMapModel", "keeps", "(I)V"⟩, 46), (⟨"ToastMapModel", "eveningsGo", "(I)V"⟩, 46), (⟨"ToastMapModel", "restores", "(I)V"⟩, 46), (⟨"ToastMapModel", "laysSettled", "()Z"⟩, 46), (⟨"ToastMapModel", "isAlike", "(II)Z"⟩, 46), (⟨"ToastMapModel", "laysChain", "(I)V"⟩, 46), (⟨"ToastMapModel", "ringOf", "(I)I"⟩, 46), (⟨"ToastMapModel", "needsOf", "(I)I"⟩, 46), (⟨"ToastMapModel", "mostOfAll", "(I)I"⟩, 46), (⟨"ToastMapModel", "litBehind", "(I)I"⟩, 46), (⟨"ToastMapModel", "wrongSeen", "(II)I"⟩, 46), (⟨"ToastMapModel", "laysWays", "(II)V"⟩, 46), (⟨"ToastMapModel", "isWay", "(II)Z"⟩, 46)]
theorem lw_r7 : ∀ q ∈ lw_privs_7, lw_okq q := List.forall_mem_cons.mpr ⟨lw_p96, List.forall_mem_cons.mpr ⟨lw_p97, List.forall_mem_cons.mpr ⟨lw_p98, List.forall_mem_cons.mpr ⟨lw_p99, List.forall_mem_cons.mpr ⟨lw_p100, List.forall_mem_cons.mpr ⟨lw_p101, List.forall_mem_cons.mpr ⟨lw_p102, List.forall_mem_cons.mpr ⟨lw_p103, List.forall_mem_cons.mpr ⟨lw_p104, List.forall_mem_cons.mpr ⟨lw_p105, List.forall_mem_cons.mpr ⟨lw_p106, List.forall_mem_cons.mpr ⟨lw_p107, List.forall_mem_cons.mpr ⟨lw_p108, List.forall_mem_cons.mpr ⟨lw_p109, List.forall_mem_cons.mpr ⟨lw_p110, List.forall_mem_cons.mpr ⟨lw_p111, fun _ h => absurd h List.not_mem_nil⟩⟩⟩⟩⟩⟩⟩⟩⟩⟩⟩⟩⟩⟩⟩⟩
theorem lw_p112 : lw_okq (⟨"ToastMapModel", "mayHave", "(II)Z"⟩, 46) := ⟨⟨by decide +kernel, by decide +kernel⟩, List.mem_of_getElem? (i := 1330) (by decide +kernel), List.mem_of_getElem? (i := 1915) (by decide +kernel), List.mem_of_getElem? (i := 1916) (by decide +kernel)⟩
theorem lw_p113 : lw_okq (⟨"ToastMapModel", "counts", "()V"⟩, 46) := ⟨⟨by decide +kernel, by decide +kernel⟩, List.mem_of_getElem? (i := 1330) (by decide +kernel), List.mem_of_getElem? (i := 1919) (by decide +kernel), List.mem_of_getElem? (i := 1920) (by decide +kernel)⟩
theorem lw_p114 : lw_okq (⟨"ToastMapModel", "tellsBy", "(JJ)Z"⟩, 46) := ⟨⟨by decide +kernel, by decide +kernel⟩, List.mem_of_getElem? (i := 1330) (by decide +kernel), List.mem_of_getElem? (i := 1931) (by decide +kernel), List.mem_of_getElem? (i := 1932) (by decide +kernel)⟩
theorem lw_p115 : lw_okq (⟨"ToastMapModel", "mostAlike", "(I)I"⟩, 46) := ⟨⟨by decide +kernel, by decide +kernel⟩, List.mem_of_getElem? (i := 1330) (by decide +kernel), List.mem_of_getElem? (i := 1939) (by decide +kernel), List.mem_of_getElem? (i := 1940) (by decide +kernel)⟩
theorem lw_p116 : lw_okq (⟨"ToastMapModel", "wrongLaw", "(II)I"⟩, 46) := ⟨⟨by decide +kernel, by decide +kernel⟩, List.mem_of_getElem? (i := 1330) (by decide +kernel), List.mem_of_getElem? (i := 1947) (by decide +kernel), List.mem_of_getElem? (i := 1948) (by decide +kernel)⟩
theorem lw_p117 : lw_okq (⟨"ToastMapModel", "isLaw", "(III)Z"⟩, 46) := ⟨⟨by decide +kernel, by decide +kernel⟩, List.mem_of_getElem? (i := 1330) (by decide +kernel), List.mem_of_getElem? (i := 1953) (by decide +kernel), List.mem_of_getElem? (i := 1954) (by decide +kernel)⟩
theorem lw_p118 : lw_okq (⟨"ToastMapModel", "errorOf", "(III)J"⟩, 46) := ⟨⟨by decide +kernel, by decide +kernel⟩, List.mem_of_getElem? (i := 1330) (by decide +kernel), List.mem_of_getElem? (i := 1967) (by decide +kernel), List.mem_of_getElem? (i := 1968) (by decide +kernel)⟩
theorem lw_p119 : lw_okq (⟨"ToastMapModel", "atLeast", "(III)J"⟩, 46) := ⟨⟨by decide +kernel, by decide +kernel⟩, List.mem_of_getElem? (i := 1330) (by decide +kernel), List.mem_of_getElem? (i := 1975) (by decide +kernel), List.mem_of_getElem? (i := 1976) (by decide +kernel)⟩
theorem lw_p120 : lw_okq (⟨"ToastMapModel", "playing", "(I)I"⟩, 46) := ⟨⟨by decide +kernel, by decide +kernel⟩, List.mem_of_getElem? (i := 1330) (by decide +kernel), List.mem_of_getElem? (i := 1988) (by decide +kernel), List.mem_of_getElem? (i := 1989) (by decide +kernel)⟩
theorem lw_p121 : lw_okq (⟨"ToastMapModel", "beginsAt", "(I)V"⟩, 46) := ⟨⟨by decide +kernel, by decide +kernel⟩, List.mem_of_getElem? (i := 1330) (by decide +kernel), List.mem_of_getElem? (i := 1992) (by decide +kernel), List.mem_of_getElem? (i := 1993) (by decide +kernel)⟩
theorem lw_p122 : lw_okq (⟨"ToastMapModel", "settlesAt", "(II)V"⟩, 46) := ⟨⟨by decide +kernel, by decide +kernel⟩, List.mem_of_getElem? (i := 1330) (by decide +kernel), List.mem_of_getElem? (i := 1999) (by decide +kernel), List.mem_of_getElem? (i := 2000) (by decide +kernel)⟩
theorem lw_p123 : lw_okq (⟨"ToastMapModel", "lives", "(I)V"⟩, 46) := ⟨⟨by decide +kernel, by decide +kernel⟩, List.mem_of_getElem? (i := 1330) (by decide +kernel), List.mem_of_getElem? (i := 2020) (by decide +kernel), List.mem_of_getElem? (i := 2021) (by decide +kernel)⟩
theorem lw_p124 : lw_okq (⟨"ToastMapModel", "does", "(I)Z"⟩, 46) := ⟨⟨by decide +kernel, by decide +kernel⟩, List.mem_of_getElem? (i := 1330) (by decide +kernel), List.mem_of_getElem? (i := 2024) (by decide +kernel), List.mem_of_getElem? (i := 2025) (by decide +kernel)⟩
theorem lw_p125 : lw_okq (⟨"ToastMapModel", "drinksBy", "(I)Z"⟩, 46) := ⟨⟨by decide +kernel, by decide +kernel⟩, List.mem_of_getElem? (i := 1330) (by decide +kernel), List.mem_of_getElem? (i := 2028) (by decide +kernel), List.mem_of_getElem? (i := 2029) (by decide +kernel)⟩
theorem lw_p126 : lw_okq (⟨"ToastMapModel", "nightsBy", "(I)Z"⟩, 46) := ⟨⟨by decide +kernel, by decide +kernel⟩, List.mem_of_getElem? (i := 1330) (by decide +kernel), List.mem_of_getElem? (i := 2032) (by decide +kernel), List.mem_of_getElem? (i := 2033) (by decide +kernel)⟩
theorem lw_p127 : lw_okq (⟨"ToastMapModel", "eveningsBy", "()Z"⟩, 46) := ⟨⟨by decide +kernel, by decide +kernel⟩, List.mem_of_getElem? (i := 1330) (by decide +kernel), List.mem_of_getElem? (i := 2036) (by decide +kernel), List.mem_of_getElem? (i := 2037) (by decide +kernel)⟩
def lw_privs_8 : List (MethodName × Nat) := [(⟨"ToastMapModel", "mayHave", "(II)Z"⟩, 46), (⟨"ToastMapModel", "counts", "()V"⟩, 46), (⟨"ToastMapModel", "tellsBy", "(JJ)Z"⟩, 46), (⟨"ToastMapModel", "mostAlike", "(I)I"⟩, 46), (⟨"ToastMapModel", "wrongLaw", "(II)I"⟩, 46), (⟨"ToastMapModel", "isLaw", "(III)Z"⟩, 46), (⟨"ToastMapModel", "errorOf", "(III)J"⟩, 46), (⟨"ToastMapModel", "atLeast", "(III)J"⟩, 46), (⟨"ToastMapModel", "playing", "(I)I"⟩, 46), (⟨"ToastMapModel", "beginsAt", "(I)V"⟩, 46), (⟨"ToastMapModel", "settlesAt", "(II)V"⟩, 46), (⟨"ToastMapModel", "lives", "(I)V"⟩, 46), (⟨"ToastMapModel", "does", "(I)Z"⟩, 46), (⟨"ToastMapModel", "drinksBy", "(I)Z"⟩, 46), (⟨"ToastMapModel", "nightsBy", "(I)Z"⟩, 46), (⟨"ToastMapModel", "eveningsBy", "()Z"⟩, 46)]
theorem lw_r8 : ∀ q ∈ lw_privs_8, lw_okq q := List.forall_mem_cons.mpr ⟨lw_p112, List.forall_mem_cons.mpr ⟨lw_p113, List.forall_mem_cons.mpr ⟨lw_p114, List.forall_mem_cons.mpr ⟨lw_p115, List.forall_mem_cons.mpr ⟨lw_p116, List.forall_mem_cons.mpr ⟨lw_p117, List.forall_mem_cons.mpr ⟨lw_p118, List.forall_mem_cons.mpr ⟨lw_p119, List.forall_mem_cons.mpr ⟨lw_p120, List.forall_mem_cons.mpr ⟨lw_p121, List.forall_mem_cons.mpr ⟨lw_p122, List.forall_mem_cons.mpr ⟨lw_p123, List.forall_mem_cons.mpr ⟨lw_p124, List.forall_mem_cons.mpr ⟨lw_p125, List.forall_mem_cons.mpr ⟨lw_p126, List.forall_mem_cons.mpr ⟨lw_p127, fun _ h => absurd h List.not_mem_nil⟩⟩⟩⟩⟩⟩⟩⟩⟩⟩⟩⟩⟩⟩⟩⟩
theorem lw_p128 : lw_okq (⟨"ToastMapModel", "doesAny", "()Z"⟩, 46) := ⟨⟨by decide +kernel, by decide +kernel⟩, List.mem_of_getElem? (i := 1330) (by decide +kernel), List.mem_of_getElem? (i := 2040) (by decide +kernel), List.mem_of_getElem? (i := 2041) (by decide +kernel)⟩
theorem lw_p129 : lw_okq (⟨"ToastMapModel", "draw", "(I)I"⟩, 46) := ⟨⟨by decide +kernel, by decide +kernel⟩, List.mem_of_getElem? (i := 1330) (by decide +kernel), List.mem_of_getElem? (i := 2044) (by decide +kernel), List.mem_of_getElem? (i := 2045) (by decide +kernel)⟩
theorem lw_p130 : lw_okq (⟨"ToastMapModel", "holds", "(I)Z"⟩, 46) := ⟨⟨by decide +kernel, by decide +kernel⟩, List.mem_of_getElem? (i := 1330) (by decide +kernel), List.mem_of_getElem? (i := 2049) (by decide +kernel), List.mem_of_getElem? (i := 2050) (by decide +kernel)⟩
theorem lw_p131 : lw_okq (⟨"ToastMapModel", "behindEnds", "(I)I"⟩, 46) := ⟨⟨by decide +kernel, by decide +kernel⟩, List.mem_of_getElem? (i := 1330) (by decide +kernel), List.mem_of_getElem? (i := 2053) (by decide +kernel), List.mem_of_getElem? (i := 2054) (by decide +kernel)⟩
theorem lw_p132 : lw_okq (⟨"ToastMapModel", "copies", "(II)V"⟩, 46) := ⟨⟨by decide +kernel, by decide +kernel⟩, List.mem_of_getElem? (i := 1330) (by decide +kernel), List.mem_of_getElem? (i := 2069) (by decide +kernel), List.mem_of_getElem? (i := 2070) (by decide +kernel)⟩
def lw_privs_9 : List (MethodName × Nat) := [(⟨"ToastMapModel", "doesAny", "()Z"⟩, 46), (⟨"ToastMapModel", "draw", "(I)I"⟩, 46), (⟨"ToastMapModel", "holds", "(I)Z"⟩, 46), (⟨"ToastMapModel", "behindEnds", "(I)I"⟩, 46), (⟨"ToastMapModel", "copies", "(II)V"⟩, 46)]
theorem lw_r9 : ∀ q ∈ lw_privs_9, lw_okq q := List.forall_mem_cons.mpr ⟨lw_p128, List.forall_mem_cons.mpr ⟨lw_p129, List.forall_mem_cons.mpr ⟨lw_p130, List.forall_mem_cons.mpr ⟨lw_p131, List.forall_mem_cons.mpr ⟨lw_p132, fun _ h => absurd h List.not_mem_nil⟩⟩⟩⟩⟩
def lw_privs : List (MethodName × Nat) := lw_privs_1 ++ (lw_privs_2 ++ (lw_privs_3 ++ (lw_privs_4 ++ (lw_privs_5 ++ (lw_privs_6 ++ (lw_privs_7 ++ (lw_privs_8 ++ (lw_privs_9))))))))
def lw_tbl : List Cond := k2_sels lw_privs ++ tables_1
theorem lw_privs_ok : ∀ q ∈ lw_privs, lw_okq q := by
  show ∀ q ∈ lw_privs_1 ++ (lw_privs_2 ++ (lw_privs_3 ++ (lw_privs_4 ++ (lw_privs_5 ++ (lw_privs_6 ++ (lw_privs_7 ++ (lw_privs_8 ++ (lw_privs_9)))))))), lw_okq q
  exact List.forall_mem_append.mpr ⟨lw_r1, List.forall_mem_append.mpr ⟨lw_r2, List.forall_mem_append.mpr ⟨lw_r3, List.forall_mem_append.mpr ⟨lw_r4, List.forall_mem_append.mpr ⟨lw_r5, List.forall_mem_append.mpr ⟨lw_r6, List.forall_mem_append.mpr ⟨lw_r7, List.forall_mem_append.mpr ⟨lw_r8, lw_r9⟩⟩⟩⟩⟩⟩⟩⟩

def sm_AOA (ty : FieldType) (U : State) : Prop := (Cond.arrayOver (.array ty)).before #[] U = true
theorem sm_AOA.use {ty : FieldType} {A : Array Value} {U : State} (h : sm_AOA ty U) : (Cond.arrayOver (.array ty)).before A U = true := h
/-! ===== BEGIN new T[n][m]: the outer array a place, the inner ones among the pooled ===== -/
/-- f, but v at every address of l -/
def vr_up {α : Type} (f : Nat → α) (l : List Nat) (v : α) : Nat → α := fun a => if a ∈ l then v else f a
theorem vr_up_in {α : Type} {f : Nat → α} {l : List Nat} {v : α} {a : Nat} (h : a ∈ l) : vr_up f l v a = v := if_pos h
theorem vr_up_ne {α : Type} {f : Nat → α} {l : List Nat} {v : α} {a : Nat} (h : a ∉ l) : vr_up f l v a = f a := if_neg h
theorem vr_rows {L l : List Nat} {f : Nat → va_E} {e : va_E} (h : ∀ a, a ∈ l → a ∉ L) : va_pl L f ++ l.map (fun a => (a, e)) = va_pl (L ++ l) (vr_up f l e) := by
  unfold va_pl
  rw [List.map_append]
  congr 1
  · apply List.map_congr_left
    intro a ha
    rw [vr_up_ne (fun q => h a q ha)]
  · apply List.map_congr_left
    intro a ha
    rw [vr_up_in ha]
theorem vr_lay {X rows : va_W} {x : Nat × va_E} {pl : va_W} {D : va_G} {cl : List vw_C} {H : Heap} (hP : va_P D cl (((X ++ pl) ++ [x]) ++ rows) H) : va_P D cl ((X ++ [x]) ++ (pl ++ rows)) H := by
  rw [List.append_assoc (X ++ pl)] at hP
  have h := va_P.swap hP
  rw [← List.append_assoc X] at h
  have h2 := va_P.swap h
  rw [List.append_assoc (X ++ [x])] at h2
  exact h2
theorem vr_layD {X rows : va_W} {x : Nat × va_E} {pl : va_W} {A : Nat → Prop} (hD : va_D A (((X ++ pl) ++ [x]) ++ rows)) : va_D A ((X ++ [x]) ++ (pl ++ rows)) := by
  rw [List.append_assoc (X ++ pl)] at hD
  have h := va_D.swap hD
  rw [← List.append_assoc X] at h
  have h2 := va_D.swap h
  rw [List.append_assoc (X ++ [x])] at h2
  exact h2
/-! ===== END ===== -/
def RX0 : String := "ToastMap$Company"
def TX0 : u_T := fun k => match k with
  | 0 => ("ToastMap$Company", "count", "I", false)
  | 1 => ("ToastMap$Company", "night", "I", false)
  | 2 => ("ToastMap$Company", "rules", "[I", true)
  | 3 => ("ToastMap$Company", "place", "[I", true)
  | 4 => ("ToastMap$Company", "meant", "[I", true)
  | 5 => ("ToastMap$Company", "warmth", "[I", true)
  | 6 => ("ToastMap$Company", "glasses", "[I", true)
  | 7 => ("ToastMap$Company", "whom", "[I", true)
  | 8 => ("ToastMap$Company", "names", "[J", true)
  | _ => ("ToastMap$Company", "sums", "[I", true)
def tyX0 : Nat → FieldType := fun k => match k with
  | 0 => .int
  | 1 => .int
  | 2 => .array .int
  | 3 => .array .int
  | 4 => .array .int
  | 5 => .array .int
  | 6 => .array .int
  | 7 => .array .int
  | 8 => .array .long
  | _ => .array .int
abbrev wsX00 : List Cond := u_ws RX0 TX0 10
theorem nmX0 : ∀ a, a < 10 → ∀ b, b < 10 → a ≠ b → (TX0 a).2.1 ≠ (TX0 b).2.1 := by decide +kernel
theorem tyX0_ok : ∀ k, k < 10 → parseFieldDescriptor (TX0 k).2.2.1 = some (tyX0 k) := by decide +kernel
abbrev cX0_init : ByteArray := prog_2_method_1_code
def yX0_init : MethodName := ⟨RX0, "<init>", "()V"⟩
abbrev cX0_clear : ByteArray := prog_2_method_2_code
def yX0_clear : MethodName := ⟨RX0, "clear", "()V"⟩
abbrev cX0_takeFrom : ByteArray := prog_2_method_3_code
def yX0_takeFrom : MethodName := ⟨RX0, "takeFrom", "(LToastMap$Company;)V"⟩
abbrev cX0_has : ByteArray := prog_2_method_4_code
def yX0_has : MethodName := ⟨RX0, "has", "(I)Z"⟩
abbrev cX0_isFull : ByteArray := prog_2_method_5_code
def yX0_isFull : MethodName := ⟨RX0, "isFull", "()Z"⟩
abbrev cX0_add : ByteArray := prog_2_method_6_code
def yX0_add : MethodName := ⟨RX0, "add", "(IJ)I"⟩
abbrev cX0_named : ByteArray := prog_2_method_7_code
def yX0_named : MethodName := ⟨RX0, "named", "(J)I"⟩
abbrev cX0_hasWhom : ByteArray := prog_2_method_8_code
def yX0_hasWhom : MethodName := ⟨RX0, "hasWhom", "(I)Z"⟩
abbrev cX0_apart : ByteArray := prog_2_method_9_code
def yX0_apart : MethodName := ⟨RX0, "apart", "(II)I"⟩
abbrev cX0_warmOf : ByteArray := prog_2_method_10_code
def yX0_warmOf : MethodName := ⟨RX0, "warmOf", "(I)I"⟩
abbrev cX0_isLit : ByteArray := prog_2_method_11_code
def yX0_isLit : MethodName := ⟨RX0, "isLit", "(I)Z"⟩
abbrev cX0_litSet : ByteArray := prog_2_method_12_code
def yX0_litSet : MethodName := ⟨RX0, "litSet", "()I"⟩
abbrev cX0_toastingSet : ByteArray := prog_2_method_13_code
def yX0_toastingSet : MethodName := ⟨RX0, "toastingSet", "()I"⟩
abbrev cX0_warmersOf : ByteArray := prog_2_method_14_code
def yX0_warmersOf : MethodName := ⟨RX0, "warmersOf", "(I)I"⟩
abbrev cX0_allWarmth : ByteArray := prog_2_method_15_code
def yX0_allWarmth : MethodName := ⟨RX0, "allWarmth", "()I"⟩
abbrev cX0_allGlasses : ByteArray := prog_2_method_16_code
def yX0_allGlasses : MethodName := ⟨RX0, "allGlasses", "()I"⟩
abbrev cX0_warmthAsOne : ByteArray := prog_2_method_17_code
def yX0_warmthAsOne : MethodName := ⟨RX0, "warmthAsOne", "()J"⟩
abbrev cX0_canDrink : ByteArray := prog_2_method_18_code
def yX0_canDrink : MethodName := ⟨RX0, "canDrink", "(I)Z"⟩
abbrev cX0_letDrink : ByteArray := prog_2_method_19_code
def yX0_letDrink : MethodName := ⟨RX0, "letDrink", "(I)I"⟩
abbrev cX0_hasNights : ByteArray := prog_2_method_20_code
def yX0_hasNights : MethodName := ⟨RX0, "hasNights", "(I)Z"⟩
abbrev cX0_warmthIn : ByteArray := prog_2_method_21_code
def yX0_warmthIn : MethodName := ⟨RX0, "warmthIn", "(II)I"⟩
abbrev cX0_passNights : ByteArray := prog_2_method_22_code
def yX0_passNights : MethodName := ⟨RX0, "passNights", "(I)V"⟩
abbrev cX0_passEvening : ByteArray := prog_2_method_23_code
def yX0_passEvening : MethodName := ⟨RX0, "passEvening", "(I)I"⟩
abbrev cX0_chainLength : ByteArray := prog_2_method_24_code
def yX0_chainLength : MethodName := ⟨RX0, "chainLength", "(I)I"⟩
abbrev cX0_alongChain : ByteArray := prog_2_method_25_code
def yX0_alongChain : MethodName := ⟨RX0, "alongChain", "(II)I"⟩
abbrev cX0_isInRing : ByteArray := prog_2_method_26_code
def yX0_isInRing : MethodName := ⟨RX0, "isInRing", "(I)Z"⟩
abbrev cX0_leadsRing : ByteArray := prog_2_method_27_code
def yX0_leadsRing : MethodName := ⟨RX0, "leadsRing", "(I)Z"⟩
abbrev cX0_drinksTo : ByteArray := prog_2_method_28_code
def yX0_drinksTo : MethodName := ⟨RX0, "drinksTo", "(I)I"⟩
abbrev cX0_warmestOf : ByteArray := prog_2_method_29_code
def yX0_warmestOf : MethodName := ⟨RX0, "warmestOf", "(I)I"⟩
abbrev cX0_mostLit : ByteArray := prog_2_method_30_code
def yX0_mostLit : MethodName := ⟨RX0, "mostLit", "(I)I"⟩
abbrev cX0_canAllBeLit : ByteArray := prog_2_method_31_code
def yX0_canAllBeLit : MethodName := ⟨RX0, "canAllBeLit", "(II)Z"⟩
def RX1 : String := "ToastMap$Game"
def TX1 : u_T := fun k => match k with
  | 0 => ("ToastMap$Game", "table", "LToastMap$Company;", true)
  | 1 => ("ToastMap$Game", "turns", "I", false)
  | 2 => ("ToastMap$Game", "worth", "I", false)
  | _ => ("ToastMap$Game", "move", "I", false)
def tyX1 : Nat → FieldType := fun k => match k with
  | 0 => .object "ToastMap$Company"
  | 1 => .int
  | 2 => .int
  | _ => .int
abbrev wsX10 : List Cond := u_ws RX1 TX1 4
theorem nmX1 : ∀ a, a < 4 → ∀ b, b < 4 → a ≠ b → (TX1 a).2.1 ≠ (TX1 b).2.1 := by decide +kernel
theorem tyX1_ok : ∀ k, k < 4 → parseFieldDescriptor (TX1 k).2.2.1 = some (tyX1 k) := by decide +kernel
abbrev cX1_init : ByteArray := prog_3_method_1_code
def yX1_init : MethodName := ⟨RX1, "<init>", "()V"⟩
abbrev cX1_worth : ByteArray := prog_3_method_2_code
def yX1_worth : MethodName := ⟨RX1, "worth", "()I"⟩
abbrev cX1_firstMove : ByteArray := prog_3_method_3_code
def yX1_firstMove : MethodName := ⟨RX1, "firstMove", "()I"⟩
abbrev cX1_playOut : ByteArray := prog_3_method_4_code
def yX1_playOut : MethodName := ⟨RX1, "playOut", "(LToastMap$Company;I)V"⟩
abbrev cX1_litCount : ByteArray := prog_3_method_5_code
def yX1_litCount : MethodName := ⟨RX1, "litCount", "()I"⟩
abbrev cX1_butler : ByteArray := prog_3_method_6_code
def yX1_butler : MethodName := ⟨RX1, "butler", "(III)I"⟩
abbrev cX1_behindDrink : ByteArray := prog_3_method_7_code
def yX1_behindDrink : MethodName := ⟨RX1, "behindDrink", "(IIII)I"⟩
abbrev cX1_draught : ByteArray := prog_3_method_8_code
def yX1_draught : MethodName := ⟨RX1, "draught", "(III)I"⟩
def RX2 : String := "ToastMap$Glasses"
def TX2 : u_T := fun k => match k with
  | 0 => ("ToastMap$Glasses", "counts", "[J", true)
  | _ => ("ToastMap$Glasses", "glasses", "I", false)
def tyX2 : Nat → FieldType := fun k => match k with
  | 0 => .array .long
  | _ => .int
abbrev wsX20 : List Cond := u_ws RX2 TX2 2
theorem nmX2 : ∀ a, a < 2 → ∀ b, b < 2 → a ≠ b → (TX2 a).2.1 ≠ (TX2 b).2.1 := by decide +kernel
theorem tyX2_ok : ∀ k, k < 2 → parseFieldDescriptor (TX2 k).2.2.1 = some (tyX2 k) := by decide +kernel
abbrev cX2_init : ByteArray := prog_4_method_1_code
def yX2_init : MethodName := ⟨RX2, "<init>", "()V"⟩
abbrev cX2_taste : ByteArray := prog_4_method_2_code
def yX2_taste : MethodName := ⟨RX2, "taste", "(II)V"⟩
abbrev cX2_all : ByteArray := prog_4_method_3_code
def yX2_all : MethodName := ⟨RX2, "all", "()J"⟩
abbrev cX2_below : ByteArray := prog_4_method_4_code
def yX2_below : MethodName := ⟨RX2, "below", "(I)J"⟩
abbrev cX2_from : ByteArray := prog_4_method_5_code
def yX2_from : MethodName := ⟨RX2, "from", "(I)J"⟩
def RX3 : String := "ToastMap$Living"
def TX3 : u_T := fun k => match k with
  | 0 => ("ToastMap$Living", "turnsLeft", "[I", true)
  | 1 => ("ToastMap$Living", "drawn", "I", false)
  | 2 => ("ToastMap$Living", "stepsDone", "I", false)
  | 3 => ("ToastMap$Living", "missed", "I", false)
  | 4 => ("ToastMap$Living", "nights", "I", false)
  | 5 => ("ToastMap$Living", "drinks", "I", false)
  | 6 => ("ToastMap$Living", "evenings", "I", false)
  | _ => ("ToastMap$Living", "wasCut", "Z", false)
def tyX3 : Nat → FieldType := fun k => match k with
  | 0 => .array .int
  | 1 => .int
  | 2 => .int
  | 3 => .int
  | 4 => .int
  | 5 => .int
  | 6 => .int
  | _ => .boolean
abbrev wsX30 : List Cond := u_ws RX3 TX3 8
theorem nmX3 : ∀ a, a < 8 → ∀ b, b < 8 → a ≠ b → (TX3 a).2.1 ≠ (TX3 b).2.1 := by decide +kernel
theorem tyX3_ok : ∀ k, k < 8 → parseFieldDescriptor (TX3 k).2.2.1 = some (tyX3 k) := by decide +kernel
abbrev cX3_init : ByteArray := prog_5_method_1_code
def yX3_init : MethodName := ⟨RX3, "<init>", "()V"⟩
abbrev cX3_runThrough : ByteArray := prog_5_method_2_code
def yX3_runThrough : MethodName := ⟨RX3, "runThrough", "(LToastMap$Company;LToastMap$Times;I)V"⟩
abbrev cX3_behindEnd : ByteArray := prog_5_method_3_code
def yX3_behindEnd : MethodName := ⟨RX3, "behindEnd", "(LToastMap$Times;I)I"⟩
abbrev cX3_behindStep : ByteArray := prog_5_method_4_code
def yX3_behindStep : MethodName := ⟨RX3, "behindStep", "(LToastMap$Company;LToastMap$Times;I)I"⟩
abbrev cX3_liveDrink : ByteArray := prog_5_method_5_code
def yX3_liveDrink : MethodName := ⟨RX3, "liveDrink", "(LToastMap$Company;I)V"⟩
abbrev cX3_liveNights : ByteArray := prog_5_method_6_code
def yX3_liveNights : MethodName := ⟨RX3, "liveNights", "(LToastMap$Company;I)V"⟩
abbrev cX3_liveEvening : ByteArray := prog_5_method_7_code
def yX3_liveEvening : MethodName := ⟨RX3, "liveEvening", "(LToastMap$Company;)V"⟩
abbrev cX3_liveFill : ByteArray := prog_5_method_8_code
def yX3_liveFill : MethodName := ⟨RX3, "liveFill", "(LToastMap$Company;II)V"⟩
abbrev cX3_liveAny : ByteArray := prog_5_method_9_code
def yX3_liveAny : MethodName := ⟨RX3, "liveAny", "(LToastMap$Company;)V"⟩
abbrev cX3_drawBy : ByteArray := prog_5_method_10_code
def yX3_drawBy : MethodName := ⟨RX3, "drawBy", "(I)I"⟩
abbrev cX3_holds : ByteArray := prog_5_method_11_code
def yX3_holds : MethodName := ⟨RX3, "holds", "(LToastMap$Company;LToastMap$Times;I)Z"⟩
def RX4 : String := "ToastMap$MapReader"
def TX4 : u_T := fun k => match k with
  | 0 => ("ToastMap$MapReader", "tape", "LToastMap$Tape;", true)
  | 1 => ("ToastMap$MapReader", "company", "LToastMap$Company;", true)
  | _ => ("ToastMap$MapReader", "rulesTold", "I", false)
def tyX4 : Nat → FieldType := fun k => match k with
  | 0 => .object "ToastMap$Tape"
  | 1 => .object "ToastMap$Company"
  | _ => .int
abbrev wsX40 : List Cond := u_ws RX4 TX4 3
theorem nmX4 : ∀ a, a < 3 → ∀ b, b < 3 → a ≠ b → (TX4 a).2.1 ≠ (TX4 b).2.1 := by decide +kernel
theorem tyX4_ok : ∀ k, k < 3 → parseFieldDescriptor (TX4 k).2.2.1 = some (tyX4 k) := by decide +kernel
abbrev cX4_init : ByteArray := prog_6_method_1_code
def yX4_init : MethodName := ⟨RX4, "<init>", "(LToastMap$Tape;)V"⟩
abbrev cX4_draft : ByteArray := prog_6_method_2_code
def yX4_draft : MethodName := ⟨RX4, "draft", "()LToastMap$Company;"⟩
abbrev cX4_readMap : ByteArray := prog_6_method_3_code
def yX4_readMap : MethodName := ⟨RX4, "readMap", "(I)Z"⟩
abbrev cX4_readPart : ByteArray := prog_6_method_4_code
def yX4_readPart : MethodName := ⟨RX4, "readPart", "()Z"⟩
abbrev cX4_readRule : ByteArray := prog_6_method_5_code
def yX4_readRule : MethodName := ⟨RX4, "readRule", "(I)Z"⟩
abbrev cX4_readPerson : ByteArray := prog_6_method_6_code
def yX4_readPerson : MethodName := ⟨RX4, "readPerson", "()Z"⟩
abbrev cX4_readPerhaps : ByteArray := prog_6_method_7_code
def yX4_readPerhaps : MethodName := ⟨RX4, "readPerhaps", "(I[III)Z"⟩
abbrev cX4_readToast : ByteArray := prog_6_method_8_code
def yX4_readToast : MethodName := ⟨RX4, "readToast", "()Z"⟩
def RX5 : String := "ToastMap$Marks"
def TX5 : u_T := fun k => match k with
  | 0 => ("ToastMap$Marks", "companies", "[LToastMap$Company;", true)
  | 1 => ("ToastMap$Marks", "times", "[LToastMap$Times;", true)
  | _ => ("ToastMap$Marks", "count", "I", false)
def tyX5 : Nat → FieldType := fun k => match k with
  | 0 => .array (.object "ToastMap$Company")
  | 1 => .array (.object "ToastMap$Times")
  | _ => .int
abbrev wsX50 : List Cond := u_ws RX5 TX5 3
theorem nmX5 : ∀ a, a < 3 → ∀ b, b < 3 → a ≠ b → (TX5 a).2.1 ≠ (TX5 b).2.1 := by decide +kernel
theorem tyX5_ok : ∀ k, k < 3 → parseFieldDescriptor (TX5 k).2.2.1 = some (tyX5 k) := by decide +kernel
abbrev cX5_init : ByteArray := prog_7_method_1_code
def yX5_init : MethodName := ⟨RX5, "<init>", "()V"⟩
abbrev cX5_isFull : ByteArray := prog_7_method_2_code
def yX5_isFull : MethodName := ⟨RX5, "isFull", "()Z"⟩
abbrev cX5_isEmpty : ByteArray := prog_7_method_3_code
def yX5_isEmpty : MethodName := ⟨RX5, "isEmpty", "()Z"⟩
abbrev cX5_keep : ByteArray := prog_7_method_4_code
def yX5_keep : MethodName := ⟨RX5, "keep", "(LToastMap$Company;LToastMap$Times;)I"⟩
abbrev cX5_giveBack : ByteArray := prog_7_method_5_code
def yX5_giveBack : MethodName := ⟨RX5, "giveBack", "(LToastMap$Company;LToastMap$Times;)I"⟩
def RX6 : String := "ToastMap$Tape"
def TX6 : u_T := fun k => match k with
  | 0 => ("ToastMap$Tape", "bytes", "[B", true)
  | 1 => ("ToastMap$Tape", "words", "[J", true)
  | 2 => ("ToastMap$Tape", "many", "I", false)
  | 3 => ("ToastMap$Tape", "textLength", "I", false)
  | 4 => ("ToastMap$Tape", "next", "I", false)
  | 5 => ("ToastMap$Tape", "kind", "I", false)
  | 6 => ("ToastMap$Tape", "start", "I", false)
  | 7 => ("ToastMap$Tape", "number", "I", false)
  | 8 => ("ToastMap$Tape", "sign", "I", false)
  | 9 => ("ToastMap$Tape", "word", "I", false)
  | 10 => ("ToastMap$Tape", "letters", "J", false)
  | 11 => ("ToastMap$Tape", "faultKind", "I", false)
  | _ => ("ToastMap$Tape", "faultPlace", "I", false)
def tyX6 : Nat → FieldType := fun k => match k with
  | 0 => .array .byte
  | 1 => .array .long
  | 2 => .int
  | 3 => .int
  | 4 => .int
  | 5 => .int
  | 6 => .int
  | 7 => .int
  | 8 => .int
  | 9 => .int
  | 10 => .long
  | 11 => .int
  | _ => .int
abbrev wsX60 : List Cond := u_ws RX6 TX6 13
theorem nmX6 : ∀ a, a < 13 → ∀ b, b < 13 → a ≠ b → (TX6 a).2.1 ≠ (TX6 b).2.1 := by decide +kernel
theorem tyX6_ok : ∀ k, k < 13 → parseFieldDescriptor (TX6 k).2.2.1 = some (tyX6 k) := by decide +kernel
abbrev cX6_init : ByteArray := prog_8_method_1_code
def yX6_init : MethodName := ⟨RX6, "<init>", "()V"⟩
abbrev cX6_length : ByteArray := prog_8_method_2_code
def yX6_length : MethodName := ⟨RX6, "length", "()I"⟩
abbrev cX6_faultKind : ByteArray := prog_8_method_3_code
def yX6_faultKind : MethodName := ⟨RX6, "faultKind", "()I"⟩
abbrev cX6_faultPlace : ByteArray := prog_8_method_4_code
def yX6_faultPlace : MethodName := ⟨RX6, "faultPlace", "()I"⟩
abbrev cX6_hasRoom : ByteArray := prog_8_method_5_code
def yX6_hasRoom : MethodName := ⟨RX6, "hasRoom", "(I)Z"⟩
abbrev cX6_append : ByteArray := prog_8_method_6_code
def yX6_append : MethodName := ⟨RX6, "append", "(I)V"⟩
abbrev cX6_empty : ByteArray := prog_8_method_7_code
def yX6_empty : MethodName := ⟨RX6, "empty", "()V"⟩
abbrev cX6_begin : ByteArray := prog_8_method_8_code
def yX6_begin : MethodName := ⟨RX6, "begin", "(I)V"⟩
abbrev cX6_isAtEnd : ByteArray := prog_8_method_9_code
def yX6_isAtEnd : MethodName := ⟨RX6, "isAtEnd", "()Z"⟩
abbrev cX6_isAtCompares : ByteArray := prog_8_method_10_code
def yX6_isAtCompares : MethodName := ⟨RX6, "isAtCompares", "()Z"⟩
abbrev cX6_sign : ByteArray := prog_8_method_11_code
def yX6_sign : MethodName := ⟨RX6, "sign", "()I"⟩
abbrev cX6_number : ByteArray := prog_8_method_12_code
def yX6_number : MethodName := ⟨RX6, "number", "()I"⟩
abbrev cX6_object : ByteArray := prog_8_method_13_code
def yX6_object : MethodName := ⟨RX6, "object", "(I)Z"⟩
abbrev cX6_passWord : ByteArray := prog_8_method_14_code
def yX6_passWord : MethodName := ⟨RX6, "passWord", "(I)Z"⟩
abbrev cX6_passSemicolon : ByteArray := prog_8_method_15_code
def yX6_passSemicolon : MethodName := ⟨RX6, "passSemicolon", "()Z"⟩
abbrev cX6_isNumber : ByteArray := prog_8_method_16_code
def yX6_isNumber : MethodName := ⟨RX6, "isNumber", "(II)Z"⟩
abbrev cX6_whoIsNamed : ByteArray := prog_8_method_17_code
def yX6_whoIsNamed : MethodName := ⟨RX6, "whoIsNamed", "(LToastMap$Company;)I"⟩
abbrev cX6_step : ByteArray := prog_8_method_18_code
def yX6_step : MethodName := ⟨RX6, "step", "()V"⟩
abbrev cX6_stepWord : ByteArray := prog_8_method_19_code
def yX6_stepWord : MethodName := ⟨RX6, "stepWord", "()V"⟩
abbrev cX6_stepNumber : ByteArray := prog_8_method_20_code
def yX6_stepNumber : MethodName := ⟨RX6, "stepNumber", "()V"⟩
abbrev cX6_wordOf : ByteArray := prog_8_method_21_code
def yX6_wordOf : MethodName := ⟨RX6, "wordOf", "(J)I"⟩
abbrev cX6_withLetter : ByteArray := prog_8_method_22_code
def yX6_withLetter : MethodName := ⟨RX6, "withLetter", "(JI)J"⟩
abbrev cX6_isBlank : ByteArray := prog_8_method_23_code
def yX6_isBlank : MethodName := ⟨RX6, "isBlank", "(B)Z"⟩
abbrev cX6_isLetter : ByteArray := prog_8_method_24_code
def yX6_isLetter : MethodName := ⟨RX6, "isLetter", "(B)Z"⟩
abbrev cX6_isDigit : ByteArray := prog_8_method_25_code
def yX6_isDigit : MethodName := ⟨RX6, "isDigit", "(B)Z"⟩
abbrev cX6_isSign : ByteArray := prog_8_method_26_code
def yX6_isSign : MethodName := ⟨RX6, "isSign", "(B)Z"⟩
def RX7 : String := "ToastMap$Times"
def TX7 : u_T := fun k => match k with
  | 0 => ("ToastMap$Times", "words", "[I", true)
  | 1 => ("ToastMap$Times", "people", "[I", true)
  | 2 => ("ToastMap$Times", "tests", "[I", true)
  | 3 => ("ToastMap$Times", "signs", "[I", true)
  | 4 => ("ToastMap$Times", "numbers", "[I", true)
  | 5 => ("ToastMap$Times", "partners", "[I", true)
  | 6 => ("ToastMap$Times", "rowCount", "I", false)
  | 7 => ("ToastMap$Times", "stepCount", "I", false)
  | _ => ("ToastMap$Times", "isThere", "Z", false)
def tyX7 : Nat → FieldType := fun k => match k with
  | 0 => .array .int
  | 1 => .array .int
  | 2 => .array .int
  | 3 => .array .int
  | 4 => .array .int
  | 5 => .array .int
  | 6 => .int
  | 7 => .int
  | _ => .boolean
abbrev wsX70 : List Cond := u_ws RX7 TX7 9
theorem nmX7 : ∀ a, a < 9 → ∀ b, b < 9 → a ≠ b → (TX7 a).2.1 ≠ (TX7 b).2.1 := by decide +kernel
theorem tyX7_ok : ∀ k, k < 9 → parseFieldDescriptor (TX7 k).2.2.1 = some (tyX7 k) := by decide +kernel
abbrev cX7_init : ByteArray := prog_9_method_1_code
def yX7_init : MethodName := ⟨RX7, "<init>", "()V"⟩
abbrev cX7_forget : ByteArray := prog_9_method_2_code
def yX7_forget : MethodName := ⟨RX7, "forget", "()V"⟩
abbrev cX7_add : ByteArray := prog_9_method_3_code
def yX7_add : MethodName := ⟨RX7, "add", "(I)I"⟩
abbrev cX7_takeFrom : ByteArray := prog_9_method_4_code
def yX7_takeFrom : MethodName := ⟨RX7, "takeFrom", "(LToastMap$Times;)V"⟩
def RX8 : String := "ToastMap$TimesReader"
def TX8 : u_T := fun k => match k with
  | 0 => ("ToastMap$TimesReader", "tape", "LToastMap$Tape;", true)
  | 1 => ("ToastMap$TimesReader", "times", "LToastMap$Times;", true)
  | 2 => ("ToastMap$TimesReader", "open", "[I", true)
  | _ => ("ToastMap$TimesReader", "depth", "I", false)
def tyX8 : Nat → FieldType := fun k => match k with
  | 0 => .object "ToastMap$Tape"
  | 1 => .object "ToastMap$Times"
  | 2 => .array .int
  | _ => .int
abbrev wsX80 : List Cond := u_ws RX8 TX8 4
theorem nmX8 : ∀ a, a < 4 → ∀ b, b < 4 → a ≠ b → (TX8 a).2.1 ≠ (TX8 b).2.1 := by decide +kernel
theorem tyX8_ok : ∀ k, k < 4 → parseFieldDescriptor (TX8 k).2.2.1 = some (tyX8 k) := by decide +kernel
abbrev cX8_init : ByteArray := prog_10_method_1_code
def yX8_init : MethodName := ⟨RX8, "<init>", "(LToastMap$Tape;)V"⟩
abbrev cX8_draft : ByteArray := prog_10_method_2_code
def yX8_draft : MethodName := ⟨RX8, "draft", "()LToastMap$Times;"⟩
abbrev cX8_readTimes : ByteArray := prog_10_method_3_code
def yX8_readTimes : MethodName := ⟨RX8, "readTimes", "(ILToastMap$Company;)Z"⟩
abbrev cX8_readStep : ByteArray := prog_10_method_4_code
def yX8_readStep : MethodName := ⟨RX8, "readStep", "(LToastMap$Company;)Z"⟩
abbrev cX8_readEnd : ByteArray := prog_10_method_5_code
def yX8_readEnd : MethodName := ⟨RX8, "readEnd", "()Z"⟩
abbrev cX8_readTest : ByteArray := prog_10_method_6_code
def yX8_readTest : MethodName := ⟨RX8, "readTest", "(ILToastMap$Company;)Z"⟩
abbrev cX8_readWho : ByteArray := prog_10_method_7_code
def yX8_readWho : MethodName := ⟨RX8, "readWho", "(ILToastMap$Company;)Z"⟩
abbrev cX8_readCompares : ByteArray := prog_10_method_8_code
def yX8_readCompares : MethodName := ⟨RX8, "readCompares", "(I)Z"⟩
abbrev cX8_readAmount : ByteArray := prog_10_method_9_code
def yX8_readAmount : MethodName := ⟨RX8, "readAmount", "(III)Z"⟩
def RX9 : String := "ToastMap$Trays"
def TX9 : u_T := fun k => match k with
  | 0 => ("ToastMap$Trays", "rows", "[[J", true)
  | 1 => ("ToastMap$Trays", "sorts", "[I", true)
  | _ => ("ToastMap$Trays", "lengths", "[I", true)
def tyX9 : Nat → FieldType := fun k => match k with
  | 0 => .array (.array .long)
  | 1 => .array .int
  | _ => .array .int
abbrev wsX90 : List Cond := u_ws RX9 TX9 3
theorem nmX9 : ∀ a, a < 3 → ∀ b, b < 3 → a ≠ b → (TX9 a).2.1 ≠ (TX9 b).2.1 := by decide +kernel
theorem tyX9_ok : ∀ k, k < 3 → parseFieldDescriptor (TX9 k).2.2.1 = some (tyX9 k) := by decide +kernel
abbrev cX9_init : ByteArray := prog_11_method_1_code
def yX9_init : MethodName := ⟨RX9, "<init>", "()V"⟩
abbrev cX9_isTray : ByteArray := prog_11_method_2_code
def yX9_isTray : MethodName := ⟨RX9, "isTray", "(I)Z"⟩
abbrev cX9_isSort : ByteArray := prog_11_method_3_code
def yX9_isSort : MethodName := ⟨RX9, "isSort", "(I)Z"⟩
abbrev cX9_isMissing : ByteArray := prog_11_method_4_code
def yX9_isMissing : MethodName := ⟨RX9, "isMissing", "(I)Z"⟩
abbrev cX9_length : ByteArray := prog_11_method_5_code
def yX9_length : MethodName := ⟨RX9, "length", "(I)I"⟩
abbrev cX9_sort : ByteArray := prog_11_method_6_code
def yX9_sort : MethodName := ⟨RX9, "sort", "(I)I"⟩
abbrev cX9_has : ByteArray := prog_11_method_7_code
def yX9_has : MethodName := ⟨RX9, "has", "(III)Z"⟩
abbrev cX9_lay : ByteArray := prog_11_method_8_code
def yX9_lay : MethodName := ⟨RX9, "lay", "(III)V"⟩
abbrev cX9_at : ByteArray := prog_11_method_9_code
def yX9_at : MethodName := ⟨RX9, "at", "(II)J"⟩
abbrev cX9_put : ByteArray := prog_11_method_10_code
def yX9_put : MethodName := ⟨RX9, "put", "(IIJ)V"⟩
abbrev cX9_copy : ByteArray := prog_11_method_11_code
def yX9_copy : MethodName := ⟨RX9, "copy", "(IIIII)V"⟩
abbrev cX9_cutTo : ByteArray := prog_11_method_12_code
def yX9_cutTo : MethodName := ⟨RX9, "cutTo", "(IJ)J"⟩
def RX10 : String := "ToastMap$Ways"
def TX10 : u_T := fun k => match k with
  | 0 => ("ToastMap$Ways", "allowed", "[I", true)
  | 1 => ("ToastMap$Ways", "ahead", "[I", true)
  | 2 => ("ToastMap$Ways", "behind", "[I", true)
  | 3 => ("ToastMap$Ways", "count", "I", false)
  | _ => ("ToastMap$Ways", "full", "I", false)
def tyX10 : Nat → FieldType := fun k => match k with
  | 0 => .array .int
  | 1 => .array .int
  | 2 => .array .int
  | 3 => .int
  | _ => .int
abbrev wsX100 : List Cond := u_ws RX10 TX10 5
theorem nmX10 : ∀ a, a < 5 → ∀ b, b < 5 → a ≠ b → (TX10 a).2.1 ≠ (TX10 b).2.1 := by decide +kernel
theorem tyX10_ok : ∀ k, k < 5 → parseFieldDescriptor (TX10 k).2.2.1 = some (tyX10 k) := by decide +kernel
abbrev cX10_init : ByteArray := prog_12_method_1_code
def yX10_init : MethodName := ⟨RX10, "<init>", "()V"⟩
abbrev cX10_begin : ByteArray := prog_12_method_2_code
def yX10_begin : MethodName := ⟨RX10, "begin", "(I)V"⟩
abbrev cX10_seen : ByteArray := prog_12_method_3_code
def yX10_seen : MethodName := ⟨RX10, "seen", "(II)V"⟩
abbrev cX10_countAll : ByteArray := prog_12_method_4_code
def yX10_countAll : MethodName := ⟨RX10, "countAll", "()V"⟩
abbrev cX10_spread : ByteArray := prog_12_method_5_code
def yX10_spread : MethodName := ⟨RX10, "spread", "(I)V"⟩
abbrev cX10_gather : ByteArray := prog_12_method_6_code
def yX10_gather : MethodName := ⟨RX10, "gather", "(I)V"⟩
abbrev cX10_isOpen : ByteArray := prog_12_method_7_code
def yX10_isOpen : MethodName := ⟨RX10, "isOpen", "(III)Z"⟩
abbrev cX10_all : ByteArray := prog_12_method_8_code
def yX10_all : MethodName := ⟨RX10, "all", "()I"⟩
abbrev cX10_through : ByteArray := prog_12_method_9_code
def yX10_through : MethodName := ⟨RX10, "through", "(II)I"⟩
abbrev cX10_firstWhom : ByteArray := prog_12_method_10_code
def yX10_firstWhom : MethodName := ⟨RX10, "firstWhom", "(I)I"⟩
abbrev cX10_firstOpen : ByteArray := prog_12_method_11_code
def yX10_firstOpen : MethodName := ⟨RX10, "firstOpen", "(II)I"⟩
abbrev cX10_bestAsked : ByteArray := prog_12_method_12_code
def yX10_bestAsked : MethodName := ⟨RX10, "bestAsked", "()I"⟩
abbrev cX10_mostThrough : ByteArray := prog_12_method_13_code
def yX10_mostThrough : MethodName := ⟨RX10, "mostThrough", "(I)I"⟩
def RX11 : String := "ToastMap"
def TX11 : u_T := fun k => match k with
  | 0 => ("ToastMap", "status", "I", false)
  | 1 => ("ToastMap", "fractionTop", "J", false)
  | 2 => ("ToastMap", "fractionBottom", "J", false)
  | 3 => ("ToastMap", "everLived", "Z", false)
  | 4 => ("ToastMap", "trays", "LToastMap$Trays;", true)
  | 5 => ("ToastMap", "tape", "LToastMap$Tape;", true)
  | 6 => ("ToastMap", "now", "LToastMap$Company;", true)
  | 7 => ("ToastMap", "spare", "LToastMap$Company;", true)
  | 8 => ("ToastMap", "steps", "LToastMap$Times;", true)
  | 9 => ("ToastMap", "mapReader", "LToastMap$MapReader;", true)
  | 10 => ("ToastMap", "timesReader", "LToastMap$TimesReader;", true)
  | 11 => ("ToastMap", "marks", "LToastMap$Marks;", true)
  | 12 => ("ToastMap", "latest", "LToastMap$Living;", true)
  | 13 => ("ToastMap", "trial", "LToastMap$Living;", true)
  | 14 => ("ToastMap", "ways", "LToastMap$Ways;", true)
  | 15 => ("ToastMap", "play", "LToastMap$Game;", true)
  | 16 => ("ToastMap", "honest", "LToastMap$Glasses;", true)
  | 17 => ("ToastMap", "shams", "LToastMap$Glasses;", true)
  | _ => ("ToastMap", "states", "[J", true)
def tyX11 : Nat → FieldType := fun k => match k with
  | 0 => .int
  | 1 => .long
  | 2 => .long
  | 3 => .boolean
  | 4 => .object "ToastMap$Trays"
  | 5 => .object "ToastMap$Tape"
  | 6 => .object "ToastMap$Company"
  | 7 => .object "ToastMap$Company"
  | 8 => .object "ToastMap$Times"
  | 9 => .object "ToastMap$MapReader"
  | 10 => .object "ToastMap$TimesReader"
  | 11 => .object "ToastMap$Marks"
  | 12 => .object "ToastMap$Living"
  | 13 => .object "ToastMap$Living"
  | 14 => .object "ToastMap$Ways"
  | 15 => .object "ToastMap$Game"
  | 16 => .object "ToastMap$Glasses"
  | 17 => .object "ToastMap$Glasses"
  | _ => .array .long
abbrev wsX110 : List Cond := u_ws RX11 TX11 19
theorem nmX11 : ∀ a, a < 19 → ∀ b, b < 19 → a ≠ b → (TX11 a).2.1 ≠ (TX11 b).2.1 := by decide +kernel
theorem tyX11_ok : ∀ k, k < 19 → parseFieldDescriptor (TX11 k).2.2.1 = some (tyX11 k) := by decide +kernel
abbrev cX11_init : ByteArray := prog_1_method_1_code
def yX11_init : MethodName := ⟨RX11, "<init>", "()V"⟩
abbrev cX11_status : ByteArray := prog_1_method_2_code
def yX11_status : MethodName := ⟨RX11, "status", "()I"⟩
abbrev cX11_top : ByteArray := prog_1_method_3_code
def yX11_top : MethodName := ⟨RX11, "top", "()J"⟩
abbrev cX11_bottom : ByteArray := prog_1_method_4_code
def yX11_bottom : MethodName := ⟨RX11, "bottom", "()J"⟩
abbrev cX11_tray : ByteArray := prog_1_method_5_code
def yX11_tray : MethodName := ⟨RX11, "tray", "(III)Z"⟩
abbrev cX11_write : ByteArray := prog_1_method_6_code
def yX11_write : MethodName := ⟨RX11, "write", "(IIJ)Z"⟩
abbrev cX11_read : ByteArray := prog_1_method_7_code
def yX11_read : MethodName := ⟨RX11, "read", "(II)J"⟩
abbrev cX11_pour : ByteArray := prog_1_method_8_code
def yX11_pour : MethodName := ⟨RX11, "pour", "(IIIII)Z"⟩
abbrev cX11_placeStatus : ByteArray := prog_1_method_9_code
def yX11_placeStatus : MethodName := ⟨RX11, "placeStatus", "(II)I"⟩
abbrev cX11_pourStatus : ByteArray := prog_1_method_10_code
def yX11_pourStatus : MethodName := ⟨RX11, "pourStatus", "(IIIII)I"⟩
abbrev cX11_feed : ByteArray := prog_1_method_11_code
def yX11_feed : MethodName := ⟨RX11, "feed", "(IIIII)I"⟩
abbrev cX11_map : ByteArray := prog_1_method_12_code
def yX11_map : MethodName := ⟨RX11, "map", "(I)I"⟩
abbrev cX11_times : ByteArray := prog_1_method_13_code
def yX11_times : MethodName := ⟨RX11, "times", "(I)I"⟩
abbrev cX11_fault : ByteArray := prog_1_method_14_code
def yX11_fault : MethodName := ⟨RX11, "fault", "(I)I"⟩
abbrev cX11_told : ByteArray := prog_1_method_15_code
def yX11_told : MethodName := ⟨RX11, "told", "(I)I"⟩
abbrev cX11_person : ByteArray := prog_1_method_16_code
def yX11_person : MethodName := ⟨RX11, "person", "(II)I"⟩
abbrev cX11_far : ByteArray := prog_1_method_17_code
def yX11_far : MethodName := ⟨RX11, "far", "(II)I"⟩
abbrev cX11_drink : ByteArray := prog_1_method_18_code
def yX11_drink : MethodName := ⟨RX11, "drink", "(I)I"⟩
abbrev cX11_night : ByteArray := prog_1_method_19_code
def yX11_night : MethodName := ⟨RX11, "night", "(I)I"⟩
abbrev cX11_evening : ByteArray := prog_1_method_20_code
def yX11_evening : MethodName := ⟨RX11, "evening", "()I"⟩
abbrev cX11_fill : ByteArray := prog_1_method_21_code
def yX11_fill : MethodName := ⟨RX11, "fill", "(II)I"⟩
abbrev cX11_means : ByteArray := prog_1_method_22_code
def yX11_means : MethodName := ⟨RX11, "means", "(II)I"⟩
abbrev cX11_move : ByteArray := prog_1_method_23_code
def yX11_move : MethodName := ⟨RX11, "move", "(II)I"⟩
abbrev cX11_aim : ByteArray := prog_1_method_24_code
def yX11_aim : MethodName := ⟨RX11, "aim", "(II)I"⟩
abbrev cX11_come : ByteArray := prog_1_method_25_code
def yX11_come : MethodName := ⟨RX11, "come", "(I)I"⟩
abbrev cX11_rule : ByteArray := prog_1_method_26_code
def yX11_rule : MethodName := ⟨RX11, "rule", "(II)Z"⟩
abbrev cX11_warmIn : ByteArray := prog_1_method_27_code
def yX11_warmIn : MethodName := ⟨RX11, "warmIn", "(II)I"⟩
abbrev cX11_darkIn : ByteArray := prog_1_method_28_code
def yX11_darkIn : MethodName := ⟨RX11, "darkIn", "(I)I"⟩
abbrev cX11_eveningIn : ByteArray := prog_1_method_29_code
def yX11_eveningIn : MethodName := ⟨RX11, "eveningIn", "(II)I"⟩
abbrev cX11_litIn : ByteArray := prog_1_method_30_code
def yX11_litIn : MethodName := ⟨RX11, "litIn", "(I)I"⟩
abbrev cX11_settles : ByteArray := prog_1_method_31_code
def yX11_settles : MethodName := ⟨RX11, "settles", "()I"⟩
abbrev cX11_period : ByteArray := prog_1_method_32_code
def yX11_period : MethodName := ⟨RX11, "period", "()I"⟩
abbrev cX11_lookAhead : ByteArray := prog_1_method_33_code
def yX11_lookAhead : MethodName := ⟨RX11, "lookAhead", "(I)V"⟩
abbrev cX11_findPeriod : ByteArray := prog_1_method_34_code
def yX11_findPeriod : MethodName := ⟨RX11, "findPeriod", "()I"⟩
abbrev cX11_firstSettled : ByteArray := prog_1_method_35_code
def yX11_firstSettled : MethodName := ⟨RX11, "firstSettled", "(I)I"⟩
abbrev cX11_chain : ByteArray := prog_1_method_36_code
def yX11_chain : MethodName := ⟨RX11, "chain", "(I)I"⟩
abbrev cX11_chainAt : ByteArray := prog_1_method_37_code
def yX11_chainAt : MethodName := ⟨RX11, "chainAt", "(II)I"⟩
abbrev cX11_rings : ByteArray := prog_1_method_38_code
def yX11_rings : MethodName := ⟨RX11, "rings", "()I"⟩
abbrev cX11_inRings : ByteArray := prog_1_method_39_code
def yX11_inRings : MethodName := ⟨RX11, "inRings", "()I"⟩
abbrev cX11_needs : ByteArray := prog_1_method_40_code
def yX11_needs : MethodName := ⟨RX11, "needs", "(I)I"⟩
abbrev cX11_most : ByteArray := prog_1_method_41_code
def yX11_most : MethodName := ⟨RX11, "most", "(I)I"⟩
abbrev cX11_mostSet : ByteArray := prog_1_method_42_code
def yX11_mostSet : MethodName := ⟨RX11, "mostSet", "(I)I"⟩
abbrev cX11_misses : ByteArray := prog_1_method_43_code
def yX11_misses : MethodName := ⟨RX11, "misses", "(I)I"⟩
abbrev cX11_fits : ByteArray := prog_1_method_44_code
def yX11_fits : MethodName := ⟨RX11, "fits", "(II)I"⟩
abbrev cX11_firstOf : ByteArray := prog_1_method_45_code
def yX11_firstOf : MethodName := ⟨RX11, "firstOf", "(III)I"⟩
abbrev cX11_oddsThat : ByteArray := prog_1_method_46_code
def yX11_oddsThat : MethodName := ⟨RX11, "oddsThat", "(IIII)Z"⟩
abbrev cX11_ask : ByteArray := prog_1_method_47_code
def yX11_ask : MethodName := ⟨RX11, "ask", "(II)I"⟩
abbrev cX11_waysStatus : ByteArray := prog_1_method_48_code
def yX11_waysStatus : MethodName := ⟨RX11, "waysStatus", "(II)I"⟩
abbrev cX11_findWays : ByteArray := prog_1_method_49_code
def yX11_findWays : MethodName := ⟨RX11, "findWays", "(II)V"⟩
abbrev cX11_rowsStatus : ByteArray := prog_1_method_50_code
def yX11_rowsStatus : MethodName := ⟨RX11, "rowsStatus", "(IIII)I"⟩
abbrev cX11_laws : ByteArray := prog_1_method_51_code
def yX11_laws : MethodName := ⟨RX11, "laws", "(II)I"⟩
abbrev cX11_lawOf : ByteArray := prog_1_method_52_code
def yX11_lawOf : MethodName := ⟨RX11, "lawOf", "(III)I"⟩
abbrev cX11_error : ByteArray := prog_1_method_53_code
def yX11_error : MethodName := ⟨RX11, "error", "(III)Z"⟩
abbrev cX11_cut : ByteArray := prog_1_method_54_code
def yX11_cut : MethodName := ⟨RX11, "cut", "(I)I"⟩
abbrev cX11_lawStatus : ByteArray := prog_1_method_55_code
def yX11_lawStatus : MethodName := ⟨RX11, "lawStatus", "(II)I"⟩
abbrev cX11_isLaw : ByteArray := prog_1_method_56_code
def yX11_isLaw : MethodName := ⟨RX11, "isLaw", "(IIII)Z"⟩
abbrev cX11_tasteBoth : ByteArray := prog_1_method_57_code
def yX11_tasteBoth : MethodName := ⟨RX11, "tasteBoth", "(I)V"⟩
abbrev cX11_game : ByteArray := prog_1_method_58_code
def yX11_game : MethodName := ⟨RX11, "game", "(I)I"⟩
abbrev cX11_moveOf : ByteArray := prog_1_method_59_code
def yX11_moveOf : MethodName := ⟨RX11, "moveOf", "(I)I"⟩
abbrev cX11_share : ByteArray := prog_1_method_60_code
def yX11_share : MethodName := ⟨RX11, "share", "(I)Z"⟩
abbrev cX11_copyWarmth : ByteArray := prog_1_method_61_code
def yX11_copyWarmth : MethodName := ⟨RX11, "copyWarmth", "(I)I"⟩
abbrev cX11_live : ByteArray := prog_1_method_62_code
def yX11_live : MethodName := ⟨RX11, "live", "(I)I"⟩
abbrev cX11_lived : ByteArray := prog_1_method_63_code
def yX11_lived : MethodName := ⟨RX11, "lived", "(I)I"⟩
abbrev cX11_mean : ByteArray := prog_1_method_64_code
def yX11_mean : MethodName := ⟨RX11, "mean", "(II)Z"⟩
abbrev cX11_mark : ByteArray := prog_1_method_65_code
def yX11_mark : MethodName := ⟨RX11, "mark", "()I"⟩
abbrev cX11_undo : ByteArray := prog_1_method_66_code
def yX11_undo : MethodName := ⟨RX11, "undo", "()I"⟩
abbrev cX11_answer : ByteArray := prog_1_method_67_code
def yX11_answer : MethodName := ⟨RX11, "answer", "(I)I"⟩
abbrev cX11_refuse : ByteArray := prog_1_method_68_code
def yX11_refuse : MethodName := ⟨RX11, "refuse", "(I)I"⟩
abbrev cX11_grant : ByteArray := prog_1_method_69_code
def yX11_grant : MethodName := ⟨RX11, "grant", "()Z"⟩
abbrev cX11_deny : ByteArray := prog_1_method_70_code
def yX11_deny : MethodName := ⟨RX11, "deny", "(I)Z"⟩
abbrev cX11_tell : ByteArray := prog_1_method_71_code
def yX11_tell : MethodName := ⟨RX11, "tell", "(JJ)Z"⟩
abbrev cX11_commonDivisor : ByteArray := prog_1_method_72_code
def yX11_commonDivisor : MethodName := ⟨RX11, "commonDivisor", "(JJ)J"⟩
abbrev cX11_isCouple : ByteArray := prog_1_method_73_code
def yX11_isCouple : MethodName := ⟨RX11, "isCouple", "(II)Z"⟩
abbrev cX11_within : ByteArray := prog_1_method_74_code
def yX11_within : MethodName := ⟨RX11, "within", "(III)Z"⟩
abbrev cX11_warmBy : ByteArray := prog_1_method_75_code
def yX11_warmBy : MethodName := ⟨RX11, "warmBy", "(IIII)I"⟩
def RX12 : String := "ToastMapModel"
def TX12 : u_T := fun k => match k with
  | 0 => ("ToastMapModel", "at", "[I", true)
  | 1 => ("ToastMapModel", "names", "[J", true)
  | 2 => ("ToastMapModel", "status", "I", false)
  | 3 => ("ToastMapModel", "top", "J", false)
  | 4 => ("ToastMapModel", "bottom", "J", false)
  | 5 => ("ToastMapModel", "sort", "[I", true)
  | 6 => ("ToastMapModel", "trayMany", "[I", true)
  | 7 => ("ToastMapModel", "trays", "[J", true)
  | 8 => ("ToastMapModel", "tape", "[B", true)
  | 9 => ("ToastMapModel", "text", "[B", true)
  | 10 => ("ToastMapModel", "taped", "I", false)
  | 11 => ("ToastMapModel", "size", "I", false)
  | 12 => ("ToastMapModel", "token", "I", false)
  | 13 => ("ToastMapModel", "from", "I", false)
  | 14 => ("ToastMapModel", "end", "I", false)
  | 15 => ("ToastMapModel", "value", "I", false)
  | 16 => ("ToastMapModel", "faultKind", "I", false)
  | 17 => ("ToastMapModel", "faultPlace", "I", false)
  | 18 => ("ToastMapModel", "faults", "I", false)
  | 19 => ("ToastMapModel", "seen", "I", false)
  | 20 => ("ToastMapModel", "toldParts", "I", false)
  | 21 => ("ToastMapModel", "opened", "[I", true)
  | 22 => ("ToastMapModel", "depth", "I", false)
  | 23 => ("ToastMapModel", "counted", "I", false)
  | 24 => ("ToastMapModel", "comesBy", "[I", true)
  | 25 => ("ToastMapModel", "eveningBy", "[I", true)
  | 26 => ("ToastMapModel", "settledAt", "I", false)
  | 27 => ("ToastMapModel", "settledFor", "I", false)
  | 28 => ("ToastMapModel", "chainBy", "[I", true)
  | 29 => ("ToastMapModel", "chainMany", "I", false)
  | 30 => ("ToastMapModel", "needBy", "[I", true)
  | 31 => ("ToastMapModel", "hasBy", "[I", true)
  | 32 => ("ToastMapModel", "firstBy", "[I", true)
  | 33 => ("ToastMapModel", "warmsBy", "[I", true)
  | 34 => ("ToastMapModel", "wayMany", "I", false)
  | 35 => ("ToastMapModel", "testBy", "[J", true)
  | 36 => ("ToastMapModel", "doneAt", "[I", true)
  | 37 => ("ToastMapModel", "gotAt", "[I", true)
  | 38 => ("ToastMapModel", "bestDeed", "[I", true)
  | 39 => ("ToastMapModel", "drawn", "I", false)
  | 40 => ("ToastMapModel", "ranSteps", "I", false)
  | 41 => ("ToastMapModel", "loops", "[I", true)
  | 42 => ("ToastMapModel", "ran", "[I", true)
  | 43 => ("ToastMapModel", "told1", "[I", true)
  | 44 => ("ToastMapModel", "isTold", "Z", false)
  | _ => ("ToastMapModel", "marks", "I", false)
def tyX12 : Nat → FieldType := fun k => match k with
  | 0 => .array .int
  | 1 => .array .long
  | 2 => .int
  | 3 => .long
  | 4 => .long
  | 5 => .array .int
  | 6 => .array .int
  | 7 => .array .long
  | 8 => .array .byte
  | 9 => .array .byte
  | 10 => .int
  | 11 => .int
  | 12 => .int
  | 13 => .int
  | 14 => .int
  | 15 => .int
  | 16 => .int
  | 17 => .int
  | 18 => .int
  | 19 => .int
  | 20 => .int
  | 21 => .array .int
  | 22 => .int
  | 23 => .int
  | 24 => .array .int
  | 25 => .array .int
  | 26 => .int
  | 27 => .int
  | 28 => .array .int
  | 29 => .int
  | 30 => .array .int
  | 31 => .array .int
  | 32 => .array .int
  | 33 => .array .int
  | 34 => .int
  | 35 => .array .long
  | 36 => .array .int
  | 37 => .array .int
  | 38 => .array .int
  | 39 => .int
  | 40 => .int
  | 41 => .array .int
  | 42 => .array .int
  | 43 => .array .int
  | 44 => .boolean
  | _ => .int
abbrev wsX120 : List Cond := u_ws RX12 TX12 46
theorem nmX12 : ∀ a, a < 46 → ∀ b, b < 46 → a ≠ b → (TX12 a).2.1 ≠ (TX12 b).2.1 := by decide +kernel
theorem tyX12_ok : ∀ k, k < 46 → parseFieldDescriptor (TX12 k).2.2.1 = some (tyX12 k) := by decide +kernel
abbrev cX12_init : ByteArray := prog_14_method_1_code
def yX12_init : MethodName := ⟨RX12, "<init>", "()V"⟩
abbrev cX12_plain : ByteArray := prog_14_method_2_code
def yX12_plain : MethodName := ⟨RX12, "plain", "(I)V"⟩
abbrev cX12_status : ByteArray := prog_14_method_3_code
def yX12_status : MethodName := ⟨RX12, "status", "()I"⟩
abbrev cX12_top : ByteArray := prog_14_method_4_code
def yX12_top : MethodName := ⟨RX12, "top", "()J"⟩
abbrev cX12_bottom : ByteArray := prog_14_method_5_code
def yX12_bottom : MethodName := ⟨RX12, "bottom", "()J"⟩
abbrev cX12_is : ByteArray := prog_14_method_6_code
def yX12_is : MethodName := ⟨RX12, "is", "(I)Z"⟩
abbrev cX12_refuse : ByteArray := prog_14_method_7_code
def yX12_refuse : MethodName := ⟨RX12, "refuse", "(I)I"⟩
abbrev cX12_gives : ByteArray := prog_14_method_8_code
def yX12_gives : MethodName := ⟨RX12, "gives", "(I)I"⟩
abbrev cX12_tellsBy : ByteArray := prog_14_method_10_code
def yX12_tellsBy : MethodName := ⟨RX12, "tellsBy", "(JJ)Z"⟩
abbrev cX12_isTray : ByteArray := prog_14_method_11_code
def yX12_isTray : MethodName := ⟨RX12, "isTray", "(I)Z"⟩
abbrev cX12_shrunk : ByteArray := prog_14_method_12_code
def yX12_shrunk : MethodName := ⟨RX12, "shrunk", "(JI)J"⟩
abbrev cX12_tray : ByteArray := prog_14_method_13_code
def yX12_tray : MethodName := ⟨RX12, "tray", "(III)Z"⟩
abbrev cX12_wrongPlace : ByteArray := prog_14_method_14_code
def yX12_wrongPlace : MethodName := ⟨RX12, "wrongPlace", "(II)I"⟩
abbrev cX12_write : ByteArray := prog_14_method_15_code
def yX12_write : MethodName := ⟨RX12, "write", "(IIJ)Z"⟩
abbrev cX12_read : ByteArray := prog_14_method_16_code
def yX12_read : MethodName := ⟨RX12, "read", "(II)J"⟩
abbrev cX12_pour : ByteArray := prog_14_method_17_code
def yX12_pour : MethodName := ⟨RX12, "pour", "(IIIII)Z"⟩
abbrev cX12_isFrom : ByteArray := prog_14_method_18_code
def yX12_isFrom : MethodName := ⟨RX12, "isFrom", "(JJJ)Z"⟩
abbrev cX12_feed : ByteArray := prog_14_method_19_code
def yX12_feed : MethodName := ⟨RX12, "feed", "(IIIII)I"⟩
abbrev cX12_four : ByteArray := prog_14_method_20_code
def yX12_four : MethodName := ⟨RX12, "four", "(I)V"⟩
abbrev cX12_byteAt : ByteArray := prog_14_method_21_code
def yX12_byteAt : MethodName := ⟨RX12, "byteAt", "(I)I"⟩
abbrev cX12_isSmall : ByteArray := prog_14_method_22_code
def yX12_isSmall : MethodName := ⟨RX12, "isSmall", "(I)Z"⟩
abbrev cX12_isDigit : ByteArray := prog_14_method_23_code
def yX12_isDigit : MethodName := ⟨RX12, "isDigit", "(I)Z"⟩
abbrev cX12_ahead : ByteArray := prog_14_method_24_code
def yX12_ahead : MethodName := ⟨RX12, "ahead", "()V"⟩
abbrev cX12_isSign : ByteArray := prog_14_method_25_code
def yX12_isSign : MethodName := ⟨RX12, "isSign", "(I)Z"⟩
abbrev cX12_inWords : ByteArray := prog_14_method_26_code
def yX12_inWords : MethodName := ⟨RX12, "inWords", "(Ljava/lang/String;)I"⟩
abbrev cX12_fails : ByteArray := prog_14_method_27_code
def yX12_fails : MethodName := ⟨RX12, "fails", "(I)Z"⟩
abbrev cX12_begins : ByteArray := prog_14_method_28_code
def yX12_begins : MethodName := ⟨RX12, "begins", "(II)Z"⟩
abbrev cX12_wantSign : ByteArray := prog_14_method_29_code
def yX12_wantSign : MethodName := ⟨RX12, "wantSign", "(I)Z"⟩
abbrev cX12_wantWord : ByteArray := prog_14_method_30_code
def yX12_wantWord : MethodName := ⟨RX12, "wantWord", "(Ljava/lang/String;I)Z"⟩
abbrev cX12_number : ByteArray := prog_14_method_31_code
def yX12_number : MethodName := ⟨RX12, "number", "(III)Z"⟩
abbrev cX12_isName : ByteArray := prog_14_method_32_code
def yX12_isName : MethodName := ⟨RX12, "isName", "(Ljava/lang/String;)Z"⟩
abbrev cX12_nameHere : ByteArray := prog_14_method_33_code
def yX12_nameHere : MethodName := ⟨RX12, "nameHere", "()J"⟩
abbrev cX12_findHere : ByteArray := prog_14_method_34_code
def yX12_findHere : MethodName := ⟨RX12, "findHere", "(II)I"⟩
abbrev cX12_fault : ByteArray := prog_14_method_35_code
def yX12_fault : MethodName := ⟨RX12, "fault", "(I)I"⟩
abbrev cX12_taken : ByteArray := prog_14_method_36_code
def yX12_taken : MethodName := ⟨RX12, "taken", "(I)I"⟩
abbrev cX12_personRow : ByteArray := prog_14_method_37_code
def yX12_personRow : MethodName := ⟨RX12, "personRow", "(I)I"⟩
abbrev cX12_isIn : ByteArray := prog_14_method_38_code
def yX12_isIn : MethodName := ⟨RX12, "isIn", "(II)Z"⟩
abbrev cX12_isThere : ByteArray := prog_14_method_39_code
def yX12_isThere : MethodName := ⟨RX12, "isThere", "(I)Z"⟩
abbrev cX12_perhaps : ByteArray := prog_14_method_40_code
def yX12_perhaps : MethodName := ⟨RX12, "perhaps", "(IIIII)Z"⟩
abbrev cX12_leastOf : ByteArray := prog_14_method_41_code
def yX12_leastOf : MethodName := ⟨RX12, "leastOf", "(I)I"⟩
abbrev cX12_mostOf : ByteArray := prog_14_method_42_code
def yX12_mostOf : MethodName := ⟨RX12, "mostOf", "(I)I"⟩
abbrev cX12_aPerson : ByteArray := prog_14_method_43_code
def yX12_aPerson : MethodName := ⟨RX12, "aPerson", "()Z"⟩
abbrev cX12_aToast : ByteArray := prog_14_method_44_code
def yX12_aToast : MethodName := ⟨RX12, "aToast", "()Z"⟩
abbrev cX12_mapPart : ByteArray := prog_14_method_45_code
def yX12_mapPart : MethodName := ⟨RX12, "mapPart", "()Z"⟩
abbrev cX12_map : ByteArray := prog_14_method_46_code
def yX12_map : MethodName := ⟨RX12, "map", "(I)I"⟩
abbrev cX12_personTo : ByteArray := prog_14_method_47_code
def yX12_personTo : MethodName := ⟨RX12, "personTo", "(I)Z"⟩
abbrev cX12_test : ByteArray := prog_14_method_48_code
def yX12_test : MethodName := ⟨RX12, "test", "(I)Z"⟩
abbrev cX12_timeOrder : ByteArray := prog_14_method_49_code
def yX12_timeOrder : MethodName := ⟨RX12, "timeOrder", "(II)Z"⟩
abbrev cX12_timeStep : ByteArray := prog_14_method_50_code
def yX12_timeStep : MethodName := ⟨RX12, "timeStep", "()Z"⟩
abbrev cX12_times : ByteArray := prog_14_method_51_code
def yX12_times : MethodName := ⟨RX12, "times", "(I)I"⟩
abbrev cX12_isPerson : ByteArray := prog_14_method_52_code
def yX12_isPerson : MethodName := ⟨RX12, "isPerson", "(I)Z"⟩
abbrev cX12_areTwo : ByteArray := prog_14_method_53_code
def yX12_areTwo : MethodName := ⟨RX12, "areTwo", "(II)Z"⟩
abbrev cX12_bits : ByteArray := prog_14_method_54_code
def yX12_bits : MethodName := ⟨RX12, "bits", "(I)I"⟩
abbrev cX12_personOf : ByteArray := prog_14_method_55_code
def yX12_personOf : MethodName := ⟨RX12, "personOf", "(II)I"⟩
abbrev cX12_whomOf : ByteArray := prog_14_method_56_code
def yX12_whomOf : MethodName := ⟨RX12, "whomOf", "(I)I"⟩
abbrev cX12_farBetween : ByteArray := prog_14_method_57_code
def yX12_farBetween : MethodName := ⟨RX12, "farBetween", "(II)I"⟩
abbrev cX12_warmBy : ByteArray := prog_14_method_58_code
def yX12_warmBy : MethodName := ⟨RX12, "warmBy", "(IIII)I"⟩
abbrev cX12_warmOf : ByteArray := prog_14_method_59_code
def yX12_warmOf : MethodName := ⟨RX12, "warmOf", "(I)I"⟩
abbrev cX12_isLit : ByteArray := prog_14_method_60_code
def yX12_isLit : MethodName := ⟨RX12, "isLit", "(I)Z"⟩
abbrev cX12_areLit : ByteArray := prog_14_method_61_code
def yX12_areLit : MethodName := ⟨RX12, "areLit", "()I"⟩
abbrev cX12_haveWhom : ByteArray := prog_14_method_62_code
def yX12_haveWhom : MethodName := ⟨RX12, "haveWhom", "()I"⟩
abbrev cX12_warmersOf : ByteArray := prog_14_method_63_code
def yX12_warmersOf : MethodName := ⟨RX12, "warmersOf", "(I)I"⟩
abbrev cX12_together : ByteArray := prog_14_method_64_code
def yX12_together : MethodName := ⟨RX12, "together", "(I)I"⟩
abbrev cX12_told : ByteArray := prog_14_method_65_code
def yX12_told : MethodName := ⟨RX12, "told", "(I)I"⟩
abbrev cX12_person : ByteArray := prog_14_method_66_code
def yX12_person : MethodName := ⟨RX12, "person", "(II)I"⟩
abbrev cX12_far : ByteArray := prog_14_method_67_code
def yX12_far : MethodName := ⟨RX12, "far", "(II)I"⟩
abbrev cX12_warms : ByteArray := prog_14_method_68_code
def yX12_warms : MethodName := ⟨RX12, "warms", "(II)V"⟩
abbrev cX12_drinks : ByteArray := prog_14_method_69_code
def yX12_drinks : MethodName := ⟨RX12, "drinks", "(I)Z"⟩
abbrev cX12_drink : ByteArray := prog_14_method_70_code
def yX12_drink : MethodName := ⟨RX12, "drink", "(I)I"⟩
abbrev cX12_cools : ByteArray := prog_14_method_71_code
def yX12_cools : MethodName := ⟨RX12, "cools", "(I)V"⟩
abbrev cX12_nightGoes : ByteArray := prog_14_method_72_code
def yX12_nightGoes : MethodName := ⟨RX12, "nightGoes", "()V"⟩
abbrev cX12_nightsGo : ByteArray := prog_14_method_73_code
def yX12_nightsGo : MethodName := ⟨RX12, "nightsGo", "(I)V"⟩
abbrev cX12_night : ByteArray := prog_14_method_74_code
def yX12_night : MethodName := ⟨RX12, "night", "(I)I"⟩
abbrev cX12_eveningGoes : ByteArray := prog_14_method_75_code
def yX12_eveningGoes : MethodName := ⟨RX12, "eveningGoes", "(I)I"⟩
abbrev cX12_evening : ByteArray := prog_14_method_76_code
def yX12_evening : MethodName := ⟨RX12, "evening", "()I"⟩
abbrev cX12_fills : ByteArray := prog_14_method_77_code
def yX12_fills : MethodName := ⟨RX12, "fills", "(II)Z"⟩
abbrev cX12_fill : ByteArray := prog_14_method_78_code
def yX12_fill : MethodName := ⟨RX12, "fill", "(II)I"⟩
abbrev cX12_means : ByteArray := prog_14_method_79_code
def yX12_means : MethodName := ⟨RX12, "means", "(II)I"⟩
abbrev cX12_move : ByteArray := prog_14_method_80_code
def yX12_move : MethodName := ⟨RX12, "move", "(II)I"⟩
abbrev cX12_aim : ByteArray := prog_14_method_81_code
def yX12_aim : MethodName := ⟨RX12, "aim", "(II)I"⟩
abbrev cX12_come : ByteArray := prog_14_method_82_code
def yX12_come : MethodName := ⟨RX12, "come", "(I)I"⟩
abbrev cX12_rule : ByteArray := prog_14_method_83_code
def yX12_rule : MethodName := ⟨RX12, "rule", "(II)Z"⟩
abbrev cX12_levelAt : ByteArray := prog_14_method_84_code
def yX12_levelAt : MethodName := ⟨RX12, "levelAt", "(I)I"⟩
abbrev cX12_keeps : ByteArray := prog_14_method_85_code
def yX12_keeps : MethodName := ⟨RX12, "keeps", "(I)V"⟩
abbrev cX12_restores : ByteArray := prog_14_method_86_code
def yX12_restores : MethodName := ⟨RX12, "restores", "(I)V"⟩
abbrev cX12_cooled : ByteArray := prog_14_method_87_code
def yX12_cooled : MethodName := ⟨RX12, "cooled", "(II)I"⟩
abbrev cX12_warmIn : ByteArray := prog_14_method_88_code
def yX12_warmIn : MethodName := ⟨RX12, "warmIn", "(II)I"⟩
abbrev cX12_darkIn : ByteArray := prog_14_method_89_code
def yX12_darkIn : MethodName := ⟨RX12, "darkIn", "(I)I"⟩
abbrev cX12_eveningsGo : ByteArray := prog_14_method_90_code
def yX12_eveningsGo : MethodName := ⟨RX12, "eveningsGo", "(I)V"⟩
abbrev cX12_eveningIn : ByteArray := prog_14_method_91_code
def yX12_eveningIn : MethodName := ⟨RX12, "eveningIn", "(II)I"⟩
abbrev cX12_litIn : ByteArray := prog_14_method_92_code
def yX12_litIn : MethodName := ⟨RX12, "litIn", "(I)I"⟩
abbrev cX12_isAlike : ByteArray := prog_14_method_93_code
def yX12_isAlike : MethodName := ⟨RX12, "isAlike", "(II)Z"⟩
abbrev cX12_laysSettled : ByteArray := prog_14_method_94_code
def yX12_laysSettled : MethodName := ⟨RX12, "laysSettled", "()Z"⟩
abbrev cX12_settles : ByteArray := prog_14_method_95_code
def yX12_settles : MethodName := ⟨RX12, "settles", "()I"⟩
abbrev cX12_period : ByteArray := prog_14_method_96_code
def yX12_period : MethodName := ⟨RX12, "period", "()I"⟩
abbrev cX12_laysChain : ByteArray := prog_14_method_97_code
def yX12_laysChain : MethodName := ⟨RX12, "laysChain", "(I)V"⟩
abbrev cX12_chain : ByteArray := prog_14_method_98_code
def yX12_chain : MethodName := ⟨RX12, "chain", "(I)I"⟩
abbrev cX12_chainAt : ByteArray := prog_14_method_99_code
def yX12_chainAt : MethodName := ⟨RX12, "chainAt", "(II)I"⟩
abbrev cX12_ringOf : ByteArray := prog_14_method_100_code
def yX12_ringOf : MethodName := ⟨RX12, "ringOf", "(I)I"⟩
abbrev cX12_rings : ByteArray := prog_14_method_101_code
def yX12_rings : MethodName := ⟨RX12, "rings", "()I"⟩
abbrev cX12_inRings : ByteArray := prog_14_method_102_code
def yX12_inRings : MethodName := ⟨RX12, "inRings", "()I"⟩
abbrev cX12_needsOf : ByteArray := prog_14_method_103_code
def yX12_needsOf : MethodName := ⟨RX12, "needsOf", "(I)I"⟩
abbrev cX12_needs : ByteArray := prog_14_method_104_code
def yX12_needs : MethodName := ⟨RX12, "needs", "(I)I"⟩
abbrev cX12_mostOfAll : ByteArray := prog_14_method_105_code
def yX12_mostOfAll : MethodName := ⟨RX12, "mostOfAll", "(I)I"⟩
abbrev cX12_most : ByteArray := prog_14_method_106_code
def yX12_most : MethodName := ⟨RX12, "most", "(I)I"⟩
abbrev cX12_mostSet : ByteArray := prog_14_method_107_code
def yX12_mostSet : MethodName := ⟨RX12, "mostSet", "(I)I"⟩
abbrev cX12_litBehind : ByteArray := prog_14_method_108_code
def yX12_litBehind : MethodName := ⟨RX12, "litBehind", "(I)I"⟩
abbrev cX12_misses : ByteArray := prog_14_method_109_code
def yX12_misses : MethodName := ⟨RX12, "misses", "(I)I"⟩
abbrev cX12_wrongSeen : ByteArray := prog_14_method_110_code
def yX12_wrongSeen : MethodName := ⟨RX12, "wrongSeen", "(II)I"⟩
abbrev cX12_isWay : ByteArray := prog_14_method_111_code
def yX12_isWay : MethodName := ⟨RX12, "isWay", "(II)Z"⟩
abbrev cX12_counts : ByteArray := prog_14_method_112_code
def yX12_counts : MethodName := ⟨RX12, "counts", "()V"⟩
abbrev cX12_mayHave : ByteArray := prog_14_method_113_code
def yX12_mayHave : MethodName := ⟨RX12, "mayHave", "(II)Z"⟩
abbrev cX12_laysWays : ByteArray := prog_14_method_114_code
def yX12_laysWays : MethodName := ⟨RX12, "laysWays", "(II)V"⟩
abbrev cX12_fits : ByteArray := prog_14_method_115_code
def yX12_fits : MethodName := ⟨RX12, "fits", "(II)I"⟩
abbrev cX12_firstOf : ByteArray := prog_14_method_116_code
def yX12_firstOf : MethodName := ⟨RX12, "firstOf", "(III)I"⟩
abbrev cX12_oddsThat : ByteArray := prog_14_method_117_code
def yX12_oddsThat : MethodName := ⟨RX12, "oddsThat", "(IIII)Z"⟩
abbrev cX12_mostAlike : ByteArray := prog_14_method_118_code
def yX12_mostAlike : MethodName := ⟨RX12, "mostAlike", "(I)I"⟩
abbrev cX12_ask : ByteArray := prog_14_method_119_code
def yX12_ask : MethodName := ⟨RX12, "ask", "(II)I"⟩
abbrev cX12_wrongLaw : ByteArray := prog_14_method_120_code
def yX12_wrongLaw : MethodName := ⟨RX12, "wrongLaw", "(II)I"⟩
abbrev cX12_isLaw : ByteArray := prog_14_method_121_code
def yX12_isLaw : MethodName := ⟨RX12, "isLaw", "(III)Z"⟩
abbrev cX12_laws : ByteArray := prog_14_method_122_code
def yX12_laws : MethodName := ⟨RX12, "laws", "(II)I"⟩
abbrev cX12_lawOf : ByteArray := prog_14_method_123_code
def yX12_lawOf : MethodName := ⟨RX12, "lawOf", "(III)I"⟩
abbrev cX12_atLeast : ByteArray := prog_14_method_124_code
def yX12_atLeast : MethodName := ⟨RX12, "atLeast", "(III)J"⟩
abbrev cX12_waysOf : ByteArray := prog_14_method_125_code
def yX12_waysOf : MethodName := ⟨RX12, "waysOf", "(I)J"⟩
abbrev cX12_errorOf : ByteArray := prog_14_method_126_code
def yX12_errorOf : MethodName := ⟨RX12, "errorOf", "(III)J"⟩
abbrev cX12_error : ByteArray := prog_14_method_127_code
def yX12_error : MethodName := ⟨RX12, "error", "(III)Z"⟩
abbrev cX12_cut : ByteArray := prog_14_method_128_code
def yX12_cut : MethodName := ⟨RX12, "cut", "(I)I"⟩
abbrev cX12_settlesAt : ByteArray := prog_14_method_129_code
def yX12_settlesAt : MethodName := ⟨RX12, "settlesAt", "(II)V"⟩
abbrev cX12_beginsAt : ByteArray := prog_14_method_130_code
def yX12_beginsAt : MethodName := ⟨RX12, "beginsAt", "(I)V"⟩
abbrev cX12_playing : ByteArray := prog_14_method_131_code
def yX12_playing : MethodName := ⟨RX12, "playing", "(I)I"⟩
abbrev cX12_game : ByteArray := prog_14_method_132_code
def yX12_game : MethodName := ⟨RX12, "game", "(I)I"⟩
abbrev cX12_moveOf : ByteArray := prog_14_method_133_code
def yX12_moveOf : MethodName := ⟨RX12, "moveOf", "(I)I"⟩
abbrev cX12_share : ByteArray := prog_14_method_134_code
def yX12_share : MethodName := ⟨RX12, "share", "(I)Z"⟩
abbrev cX12_copyWarmth : ByteArray := prog_14_method_135_code
def yX12_copyWarmth : MethodName := ⟨RX12, "copyWarmth", "(I)I"⟩
abbrev cX12_draw : ByteArray := prog_14_method_136_code
def yX12_draw : MethodName := ⟨RX12, "draw", "(I)I"⟩
abbrev cX12_nightsBy : ByteArray := prog_14_method_137_code
def yX12_nightsBy : MethodName := ⟨RX12, "nightsBy", "(I)Z"⟩
abbrev cX12_drinksBy : ByteArray := prog_14_method_138_code
def yX12_drinksBy : MethodName := ⟨RX12, "drinksBy", "(I)Z"⟩
abbrev cX12_eveningsBy : ByteArray := prog_14_method_139_code
def yX12_eveningsBy : MethodName := ⟨RX12, "eveningsBy", "()Z"⟩
abbrev cX12_doesAny : ByteArray := prog_14_method_140_code
def yX12_doesAny : MethodName := ⟨RX12, "doesAny", "()Z"⟩
abbrev cX12_does : ByteArray := prog_14_method_141_code
def yX12_does : MethodName := ⟨RX12, "does", "(I)Z"⟩
abbrev cX12_holds : ByteArray := prog_14_method_142_code
def yX12_holds : MethodName := ⟨RX12, "holds", "(I)Z"⟩
abbrev cX12_behindEnds : ByteArray := prog_14_method_143_code
def yX12_behindEnds : MethodName := ⟨RX12, "behindEnds", "(I)I"⟩
abbrev cX12_lives : ByteArray := prog_14_method_144_code
def yX12_lives : MethodName := ⟨RX12, "lives", "(I)V"⟩
abbrev cX12_live : ByteArray := prog_14_method_145_code
def yX12_live : MethodName := ⟨RX12, "live", "(I)I"⟩
abbrev cX12_lived : ByteArray := prog_14_method_146_code
def yX12_lived : MethodName := ⟨RX12, "lived", "(I)I"⟩
abbrev cX12_mean : ByteArray := prog_14_method_147_code
def yX12_mean : MethodName := ⟨RX12, "mean", "(II)Z"⟩
abbrev cX12_copies : ByteArray := prog_14_method_148_code
def yX12_copies : MethodName := ⟨RX12, "copies", "(II)V"⟩
abbrev cX12_mark : ByteArray := prog_14_method_149_code
def yX12_mark : MethodName := ⟨RX12, "mark", "()I"⟩
abbrev cX12_undo : ByteArray := prog_14_method_150_code
def yX12_undo : MethodName := ⟨RX12, "undo", "()I"⟩
def RJ6 : String := "java/lang/Integer"
def TJ6 : u_T := fun k => match k with
  | _ => ("", "", "", false)
def tyJ6 : Nat → FieldType := fun k => match k with
  | _ => .int
abbrev wsJ60 : List Cond := u_ws RJ6 TJ6 0
theorem nmJ6 : ∀ a, a < 0 → ∀ b, b < 0 → a ≠ b → (TJ6 a).2.1 ≠ (TJ6 b).2.1 := by decide +kernel
theorem tyJ6_ok : ∀ k, k < 0 → parseFieldDescriptor (TJ6 k).2.2.1 = some (tyJ6 k) := by decide +kernel
abbrev cJ6_bitCount_0f7a4 : ByteArray := prog_15_method_49_code
def yJ6_bitCount_0f7a4 : MethodName := ⟨RJ6, "bitCount", "(I)I"⟩
def RJ9 : String := "java/lang/Math"
def TJ9 : u_T := fun k => match k with
  | _ => ("", "", "", false)
def tyJ9 : Nat → FieldType := fun k => match k with
  | _ => .int
abbrev wsJ90 : List Cond := u_ws RJ9 TJ9 0
theorem nmJ9 : ∀ a, a < 0 → ∀ b, b < 0 → a ≠ b → (TJ9 a).2.1 ≠ (TJ9 b).2.1 := by decide +kernel
theorem tyJ9_ok : ∀ k, k < 0 → parseFieldDescriptor (TJ9 k).2.2.1 = some (tyJ9 k) := by decide +kernel
abbrev cJ9_abs_0f7a4 : ByteArray := prog_16_method_59_code
def yJ9_abs_0f7a4 : MethodName := ⟨RJ9, "abs", "(I)I"⟩
abbrev cJ9_max_7cf53 : ByteArray := prog_16_method_65_code
def yJ9_max_7cf53 : MethodName := ⟨RJ9, "max", "(II)I"⟩
abbrev cJ9_max_f86c9 : ByteArray := prog_16_method_66_code
def yJ9_max_f86c9 : MethodName := ⟨RJ9, "max", "(JJ)J"⟩
abbrev cJ9_min_7cf53 : ByteArray := prog_16_method_69_code
def yJ9_min_7cf53 : MethodName := ⟨RJ9, "min", "(II)I"⟩
def RJ0 : String := "java/lang/String"
def TJ0 : u_T := fun k => match k with
  | _ => ("", "", "", false)
def tyJ0 : Nat → FieldType := fun k => match k with
  | _ => .int
abbrev wsJ00 : List Cond := u_ws RJ0 TJ0 0
theorem nmJ0 : ∀ a, a < 0 → ∀ b, b < 0 → a ≠ b → (TJ0 a).2.1 ≠ (TJ0 b).2.1 := by decide +kernel
theorem tyJ0_ok : ∀ k, k < 0 → parseFieldDescriptor (TJ0 k).2.2.1 = some (tyJ0 k) := by decide +kernel
abbrev cJ0_length_8abf5 : ByteArray := prog_17_method_54_code
def yJ0_length_8abf5 : MethodName := ⟨RJ0, "length", "()I"⟩
abbrev cJ0_charAt_5068e : ByteArray := prog_17_method_56_code
def yJ0_charAt_5068e : MethodName := ⟨RJ0, "charAt", "(I)C"⟩
abbrev cJ0_coder_7d493 : ByteArray := prog_17_method_152_code
def yJ0_coder_7d493 : MethodName := ⟨RJ0, "coder", "()B"⟩
abbrev cJ0_isLatin1_aae02 : ByteArray := prog_17_method_154_code
def yJ0_isLatin1_aae02 : MethodName := ⟨RJ0, "isLatin1", "()Z"⟩
abbrev cJ0_checkIndex_df160 : ByteArray := prog_17_method_155_code
def yJ0_checkIndex_df160 : MethodName := ⟨RJ0, "checkIndex", "(II)V"⟩
def RJ1 : String := "java/lang/StringLatin1"
def TJ1 : u_T := fun k => match k with
  | _ => ("", "", "", false)
def tyJ1 : Nat → FieldType := fun k => match k with
  | _ => .int
abbrev wsJ10 : List Cond := u_ws RJ1 TJ1 0
theorem nmJ1 : ∀ a, a < 0 → ∀ b, b < 0 → a ≠ b → (TJ1 a).2.1 ≠ (TJ1 b).2.1 := by decide +kernel
theorem tyJ1_ok : ∀ k, k < 0 → parseFieldDescriptor (TJ1 k).2.2.1 = some (tyJ1 k) := by decide +kernel
abbrev cJ1_charAt_3b067 : ByteArray := prog_18_method_2_code
def yJ1_charAt_3b067 : MethodName := ⟨RJ1, "charAt", "([BI)C"⟩
def RJ2 : String := "java/lang/StringUTF16"
def TJ2 : u_T := fun k => match k with
  | _ => ("", "", "", false)
def tyJ2 : Nat → FieldType := fun k => match k with
  | _ => .int
abbrev wsJ20 : List Cond := u_ws RJ2 TJ2 0
theorem nmJ2 : ∀ a, a < 0 → ∀ b, b < 0 → a ≠ b → (TJ2 a).2.1 ≠ (TJ2 b).2.1 := by decide +kernel
theorem tyJ2_ok : ∀ k, k < 0 → parseFieldDescriptor (TJ2 k).2.2.1 = some (tyJ2 k) := by decide +kernel
abbrev cJ2_getChar_3b067 : ByteArray := prog_19_method_5_code
def yJ2_getChar_3b067 : MethodName := ⟨RJ2, "getChar", "([BI)C"⟩
abbrev cJ2_length_9d52b : ByteArray := prog_19_method_6_code
def yJ2_length_9d52b : MethodName := ⟨RJ2, "length", "([B)I"⟩
abbrev cJ2_charAt_3b067 : ByteArray := prog_19_method_83_code
def yJ2_charAt_3b067 : MethodName := ⟨RJ2, "charAt", "([BI)C"⟩
abbrev cJ2_checkIndex_2214a : ByteArray := prog_19_method_91_code
def yJ2_checkIndex_2214a : MethodName := ⟨RJ2, "checkIndex", "(I[B)V"⟩
def RJ10 : String := "java/lang/System"
def TJ10 : u_T := fun k => match k with
  | _ => ("", "", "", false)
def tyJ10 : Nat → FieldType := fun k => match k with
  | _ => .int
abbrev wsJ100 : List Cond := u_ws RJ10 TJ10 0
theorem nmJ10 : ∀ a, a < 0 → ∀ b, b < 0 → a ≠ b → (TJ10 a).2.1 ≠ (TJ10 b).2.1 := by decide +kernel
theorem tyJ10_ok : ∀ k, k < 0 → parseFieldDescriptor (TJ10 k).2.2.1 = some (tyJ10 k) := by decide +kernel
def RJ3 : String := "jdk/internal/util/Preconditions"
def TJ3 : u_T := fun k => match k with
  | _ => ("", "", "", false)
def tyJ3 : Nat → FieldType := fun k => match k with
  | _ => .int
abbrev wsJ30 : List Cond := u_ws RJ3 TJ3 0
theorem nmJ3 : ∀ a, a < 0 → ∀ b, b < 0 → a ≠ b → (TJ3 a).2.1 ≠ (TJ3 b).2.1 := by decide +kernel
theorem tyJ3_ok : ∀ k, k < 0 → parseFieldDescriptor (TJ3 k).2.2.1 = some (tyJ3 k) := by decide +kernel
abbrev cJ3_checkIndex_8e157 : ByteArray := prog_21_method_11_code
def yJ3_checkIndex_8e157 : MethodName := ⟨RJ3, "checkIndex", "(IILjava/util/function/BiFunction;)I"⟩
def RL : String := "ToastMapLaw"
abbrev cL_law : ByteArray := code
def yL_law : MethodName := ⟨RL, "law", "([I)Z"⟩
abbrev vwCl : List vw_C := [(RX0, TX0, 10), (RX1, TX1, 4), (RX2, TX2, 2), (RX3, TX3, 8), (RX4, TX4, 3), (RX5, TX5, 3), (RX6, TX6, 13), (RX7, TX7, 9), (RX8, TX8, 4), (RX9, TX9, 3), (RX10, TX10, 5), (RX11, TX11, 19), (RX12, TX12, 46)]
set_option maxRecDepth 20000 in
theorem inX0 : ∀ w ∈ wsX00, w ∈ lw_tbl := by decide +kernel
set_option maxRecDepth 20000 in
theorem inX1 : ∀ w ∈ wsX10, w ∈ lw_tbl := by decide +kernel
set_option maxRecDepth 20000 in
theorem inX2 : ∀ w ∈ wsX20, w ∈ lw_tbl := by decide +kernel
set_option maxRecDepth 20000 in
theorem inX3 : ∀ w ∈ wsX30, w ∈ lw_tbl := by decide +kernel
set_option maxRecDepth 20000 in
theorem inX4 : ∀ w ∈ wsX40, w ∈ lw_tbl := by decide +kernel
set_option maxRecDepth 20000 in
theorem inX5 : ∀ w ∈ wsX50, w ∈ lw_tbl := by decide +kernel
set_option maxRecDepth 20000 in
theorem inX6 : ∀ w ∈ wsX60, w ∈ lw_tbl := by decide +kernel
set_option maxRecDepth 20000 in
theorem inX7 : ∀ w ∈ wsX70, w ∈ lw_tbl := by decide +kernel
set_option maxRecDepth 20000 in
theorem inX8 : ∀ w ∈ wsX80, w ∈ lw_tbl := by decide +kernel
set_option maxRecDepth 20000 in
theorem inX9 : ∀ w ∈ wsX90, w ∈ lw_tbl := by decide +kernel
set_option maxRecDepth 20000 in
theorem inX10 : ∀ w ∈ wsX100, w ∈ lw_tbl := by decide +kernel
set_option maxRecDepth 20000 in
theorem inX11 : ∀ w ∈ wsX110, w ∈ lw_tbl := by decide +kernel
set_option maxRecDepth 20000 in
theorem inX12 : ∀ w ∈ wsX120, w ∈ lw_tbl := by decide +kernel
theorem inJ6 : ∀ w ∈ wsJ60, w ∈ lw_tbl := by decide +kernel
theorem inJ9 : ∀ w ∈ wsJ90, w ∈ lw_tbl := by decide +kernel
theorem inJ0 : ∀ w ∈ wsJ00, w ∈ lw_tbl := by decide +kernel
theorem inJ1 : ∀ w ∈ wsJ10, w ∈ lw_tbl := by decide +kernel
theorem inJ2 : ∀ w ∈ wsJ20, w ∈ lw_tbl := by decide +kernel
theorem inJ10 : ∀ w ∈ wsJ100, w ∈ lw_tbl := by decide +kernel
theorem inJ3 : ∀ w ∈ wsJ30, w ∈ lw_tbl := by decide +kernel
