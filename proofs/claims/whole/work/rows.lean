section
-- ===== PART A: goes FIRST, ahead of the names: the tables' words, and 'selects' of the private methods out of them =====
/-- a private method of a class that the tables say can be made, by its rows of tables_1 -/
def lw_okq (q : MethodName × Nat) : Prop := (q.1.cls ≠ "java/lang/invoke/MethodHandle" ∧ q.1.cls ≠ "java/lang/invoke/VarHandle") ∧ Cond.instantiable q.1.cls q.2 ∈ tables_1 ∧ Cond.privateMethod q.1 ∈ tables_1 ∧ Cond.instanceMethod q.1 ∈ tables_1
theorem lw_p0 : lw_okq (⟨"ToastMap", "deny", "(I)Z"⟩, 19) := ⟨⟨by decide +kernel, by decide +kernel⟩, List.mem_of_getElem? (i := 22) (by decide +kernel), List.mem_of_getElem? (i := 505) (by decide +kernel), List.mem_of_getElem? (i := 506) (by decide +kernel)⟩
theorem lw_p1 : lw_okq (⟨"ToastMap", "grant", "()Z"⟩, 19) := ⟨⟨by decide +kernel, by decide +kernel⟩, List.mem_of_getElem? (i := 22) (by decide +kernel), List.mem_of_getElem? (i := 513) (by decide +kernel), List.mem_of_getElem? (i := 514) (by decide +kernel)⟩
theorem lw_p2 : lw_okq (⟨"ToastMap", "placeStatus", "(II)I"⟩, 19) := ⟨⟨by decide +kernel, by decide +kernel⟩, List.mem_of_getElem? (i := 22) (by decide +kernel), List.mem_of_getElem? (i := 521) (by decide +kernel), List.mem_of_getElem? (i := 522) (by decide +kernel)⟩
theorem lw_p3 : lw_okq (⟨"ToastMap", "refuse", "(I)I"⟩, 19) := ⟨⟨by decide +kernel, by decide +kernel⟩, List.mem_of_getElem? (i := 22) (by decide +kernel), List.mem_of_getElem? (i := 544) (by decide +kernel), List.mem_of_getElem? (i := 545) (by decide +kernel)⟩
theorem lw_p4 : lw_okq (⟨"ToastMap", "pourStatus", "(IIIII)I"⟩, 19) := ⟨⟨by decide +kernel, by decide +kernel⟩, List.mem_of_getElem? (i := 22) (by decide +kernel), List.mem_of_getElem? (i := 556) (by decide +kernel), List.mem_of_getElem? (i := 557) (by decide +kernel)⟩
theorem lw_p5 : lw_okq (⟨"ToastMap$Tape", "stepWord", "()V"⟩, 13) := ⟨⟨by decide +kernel, by decide +kernel⟩, List.mem_of_getElem? (i := 50) (by decide +kernel), List.mem_of_getElem? (i := 618) (by decide +kernel), List.mem_of_getElem? (i := 619) (by decide +kernel)⟩
theorem lw_p6 : lw_okq (⟨"ToastMap$Tape", "wordOf", "(J)I"⟩, 13) := ⟨⟨by decide +kernel, by decide +kernel⟩, List.mem_of_getElem? (i := 50) (by decide +kernel), List.mem_of_getElem? (i := 622) (by decide +kernel), List.mem_of_getElem? (i := 623) (by decide +kernel)⟩
theorem lw_p7 : lw_okq (⟨"ToastMap$Tape", "stepNumber", "()V"⟩, 13) := ⟨⟨by decide +kernel, by decide +kernel⟩, List.mem_of_getElem? (i := 50) (by decide +kernel), List.mem_of_getElem? (i := 629) (by decide +kernel), List.mem_of_getElem? (i := 630) (by decide +kernel)⟩
theorem lw_p8 : lw_okq (⟨"ToastMap$MapReader", "readPart", "()Z"⟩, 3) := ⟨⟨by decide +kernel, by decide +kernel⟩, List.mem_of_getElem? (i := 266) (by decide +kernel), List.mem_of_getElem? (i := 640) (by decide +kernel), List.mem_of_getElem? (i := 641) (by decide +kernel)⟩
theorem lw_p9 : lw_okq (⟨"ToastMap$MapReader", "readRule", "(I)Z"⟩, 3) := ⟨⟨by decide +kernel, by decide +kernel⟩, List.mem_of_getElem? (i := 266) (by decide +kernel), List.mem_of_getElem? (i := 644) (by decide +kernel), List.mem_of_getElem? (i := 645) (by decide +kernel)⟩
theorem lw_p10 : lw_okq (⟨"ToastMap$MapReader", "readPerson", "()Z"⟩, 3) := ⟨⟨by decide +kernel, by decide +kernel⟩, List.mem_of_getElem? (i := 266) (by decide +kernel), List.mem_of_getElem? (i := 670) (by decide +kernel), List.mem_of_getElem? (i := 671) (by decide +kernel)⟩
theorem lw_p11 : lw_okq (⟨"ToastMap$MapReader", "readPerhaps", "(I[III)Z"⟩, 3) := ⟨⟨by decide +kernel, by decide +kernel⟩, List.mem_of_getElem? (i := 266) (by decide +kernel), List.mem_of_getElem? (i := 691) (by decide +kernel), List.mem_of_getElem? (i := 692) (by decide +kernel)⟩
theorem lw_p12 : lw_okq (⟨"ToastMap$MapReader", "readToast", "()Z"⟩, 3) := ⟨⟨by decide +kernel, by decide +kernel⟩, List.mem_of_getElem? (i := 266) (by decide +kernel), List.mem_of_getElem? (i := 695) (by decide +kernel), List.mem_of_getElem? (i := 696) (by decide +kernel)⟩
theorem lw_p13 : lw_okq (⟨"ToastMap", "answer", "(I)I"⟩, 19) := ⟨⟨by decide +kernel, by decide +kernel⟩, List.mem_of_getElem? (i := 22) (by decide +kernel), List.mem_of_getElem? (i := 724) (by decide +kernel), List.mem_of_getElem? (i := 725) (by decide +kernel)⟩
theorem lw_p14 : lw_okq (⟨"ToastMap$TimesReader", "readStep", "(LToastMap$Company;)Z"⟩, 4) := ⟨⟨by decide +kernel, by decide +kernel⟩, List.mem_of_getElem? (i := 284) (by decide +kernel), List.mem_of_getElem? (i := 739) (by decide +kernel), List.mem_of_getElem? (i := 740) (by decide +kernel)⟩
theorem lw_p15 : lw_okq (⟨"ToastMap$TimesReader", "readEnd", "()Z"⟩, 4) := ⟨⟨by decide +kernel, by decide +kernel⟩, List.mem_of_getElem? (i := 284) (by decide +kernel), List.mem_of_getElem? (i := 743) (by decide +kernel), List.mem_of_getElem? (i := 744) (by decide +kernel)⟩
def lw_privs_1 : List (MethodName × Nat) := [(⟨"ToastMap", "deny", "(I)Z"⟩, 19), (⟨"ToastMap", "grant", "()Z"⟩, 19), (⟨"ToastMap", "placeStatus", "(II)I"⟩, 19), (⟨"ToastMap", "refuse", "(I)I"⟩, 19), (⟨"ToastMap", "pourStatus", "(IIIII)I"⟩, 19), (⟨"ToastMap$Tape", "stepWord", "()V"⟩, 13), (⟨"ToastMap$Tape", "wordOf", "(J)I"⟩, 13), (⟨"ToastMap$Tape", "stepNumber", "()V"⟩, 13), (⟨"ToastMap$MapReader", "readPart", "()Z"⟩, 3), (⟨"ToastMap$MapReader", "readRule", "(I)Z"⟩, 3), (⟨"ToastMap$MapReader", "readPerson", "()Z"⟩, 3), (⟨"ToastMap$MapReader", "readPerhaps", "(I[III)Z"⟩, 3), (⟨"ToastMap$MapReader", "readToast", "()Z"⟩, 3), (⟨"ToastMap", "answer", "(I)I"⟩, 19), (⟨"ToastMap$TimesReader", "readStep", "(LToastMap$Company;)Z"⟩, 4), (⟨"ToastMap$TimesReader", "readEnd", "()Z"⟩, 4)]
theorem lw_r1 : ∀ q ∈ lw_privs_1, lw_okq q := List.forall_mem_cons.mpr ⟨lw_p0, List.forall_mem_cons.mpr ⟨lw_p1, List.forall_mem_cons.mpr ⟨lw_p2, List.forall_mem_cons.mpr ⟨lw_p3, List.forall_mem_cons.mpr ⟨lw_p4, List.forall_mem_cons.mpr ⟨lw_p5, List.forall_mem_cons.mpr ⟨lw_p6, List.forall_mem_cons.mpr ⟨lw_p7, List.forall_mem_cons.mpr ⟨lw_p8, List.forall_mem_cons.mpr ⟨lw_p9, List.forall_mem_cons.mpr ⟨lw_p10, List.forall_mem_cons.mpr ⟨lw_p11, List.forall_mem_cons.mpr ⟨lw_p12, List.forall_mem_cons.mpr ⟨lw_p13, List.forall_mem_cons.mpr ⟨lw_p14, List.forall_mem_cons.mpr ⟨lw_p15, fun _ h => absurd h List.not_mem_nil⟩⟩⟩⟩⟩⟩⟩⟩⟩⟩⟩⟩⟩⟩⟩⟩
theorem lw_p16 : lw_okq (⟨"ToastMap$TimesReader", "readWho", "(ILToastMap$Company;)Z"⟩, 4) := ⟨⟨by decide +kernel, by decide +kernel⟩, List.mem_of_getElem? (i := 284) (by decide +kernel), List.mem_of_getElem? (i := 755) (by decide +kernel), List.mem_of_getElem? (i := 756) (by decide +kernel)⟩
theorem lw_p17 : lw_okq (⟨"ToastMap$TimesReader", "readAmount", "(III)Z"⟩, 4) := ⟨⟨by decide +kernel, by decide +kernel⟩, List.mem_of_getElem? (i := 284) (by decide +kernel), List.mem_of_getElem? (i := 760) (by decide +kernel), List.mem_of_getElem? (i := 761) (by decide +kernel)⟩
theorem lw_p18 : lw_okq (⟨"ToastMap$TimesReader", "readTest", "(ILToastMap$Company;)Z"⟩, 4) := ⟨⟨by decide +kernel, by decide +kernel⟩, List.mem_of_getElem? (i := 284) (by decide +kernel), List.mem_of_getElem? (i := 766) (by decide +kernel), List.mem_of_getElem? (i := 767) (by decide +kernel)⟩
theorem lw_p19 : lw_okq (⟨"ToastMap$TimesReader", "readCompares", "(I)Z"⟩, 4) := ⟨⟨by decide +kernel, by decide +kernel⟩, List.mem_of_getElem? (i := 284) (by decide +kernel), List.mem_of_getElem? (i := 770) (by decide +kernel), List.mem_of_getElem? (i := 771) (by decide +kernel)⟩
theorem lw_p20 : lw_okq (⟨"ToastMap", "isCouple", "(II)Z"⟩, 19) := ⟨⟨by decide +kernel, by decide +kernel⟩, List.mem_of_getElem? (i := 22) (by decide +kernel), List.mem_of_getElem? (i := 918) (by decide +kernel), List.mem_of_getElem? (i := 919) (by decide +kernel)⟩
theorem lw_p21 : lw_okq (⟨"ToastMap", "lookAhead", "(I)V"⟩, 19) := ⟨⟨by decide +kernel, by decide +kernel⟩, List.mem_of_getElem? (i := 22) (by decide +kernel), List.mem_of_getElem? (i := 947) (by decide +kernel), List.mem_of_getElem? (i := 948) (by decide +kernel)⟩
theorem lw_p22 : lw_okq (⟨"ToastMap", "findPeriod", "()I"⟩, 19) := ⟨⟨by decide +kernel, by decide +kernel⟩, List.mem_of_getElem? (i := 22) (by decide +kernel), List.mem_of_getElem? (i := 959) (by decide +kernel), List.mem_of_getElem? (i := 960) (by decide +kernel)⟩
theorem lw_p23 : lw_okq (⟨"ToastMap", "firstSettled", "(I)I"⟩, 19) := ⟨⟨by decide +kernel, by decide +kernel⟩, List.mem_of_getElem? (i := 22) (by decide +kernel), List.mem_of_getElem? (i := 967) (by decide +kernel), List.mem_of_getElem? (i := 968) (by decide +kernel)⟩
theorem lw_p24 : lw_okq (⟨"ToastMap$Company", "warmestOf", "(I)I"⟩, 10) := ⟨⟨by decide +kernel, by decide +kernel⟩, List.mem_of_getElem? (i := 153) (by decide +kernel), List.mem_of_getElem? (i := 1023) (by decide +kernel), List.mem_of_getElem? (i := 1024) (by decide +kernel)⟩
theorem lw_p25 : lw_okq (⟨"ToastMap$Company", "canAllBeLit", "(II)Z"⟩, 10) := ⟨⟨by decide +kernel, by decide +kernel⟩, List.mem_of_getElem? (i := 153) (by decide +kernel), List.mem_of_getElem? (i := 1036) (by decide +kernel), List.mem_of_getElem? (i := 1037) (by decide +kernel)⟩
theorem lw_p26 : lw_okq (⟨"ToastMap", "waysStatus", "(II)I"⟩, 19) := ⟨⟨by decide +kernel, by decide +kernel⟩, List.mem_of_getElem? (i := 22) (by decide +kernel), List.mem_of_getElem? (i := 1053) (by decide +kernel), List.mem_of_getElem? (i := 1054) (by decide +kernel)⟩
theorem lw_p27 : lw_okq (⟨"ToastMap", "rowsStatus", "(IIII)I"⟩, 19) := ⟨⟨by decide +kernel, by decide +kernel⟩, List.mem_of_getElem? (i := 22) (by decide +kernel), List.mem_of_getElem? (i := 1057) (by decide +kernel), List.mem_of_getElem? (i := 1058) (by decide +kernel)⟩
theorem lw_p28 : lw_okq (⟨"ToastMap", "findWays", "(II)V"⟩, 19) := ⟨⟨by decide +kernel, by decide +kernel⟩, List.mem_of_getElem? (i := 22) (by decide +kernel), List.mem_of_getElem? (i := 1061) (by decide +kernel), List.mem_of_getElem? (i := 1062) (by decide +kernel)⟩
theorem lw_p29 : lw_okq (⟨"ToastMap$Ways", "spread", "(I)V"⟩, 5) := ⟨⟨by decide +kernel, by decide +kernel⟩, List.mem_of_getElem? (i := 364) (by decide +kernel), List.mem_of_getElem? (i := 1078) (by decide +kernel), List.mem_of_getElem? (i := 1079) (by decide +kernel)⟩
theorem lw_p30 : lw_okq (⟨"ToastMap$Ways", "isOpen", "(III)Z"⟩, 5) := ⟨⟨by decide +kernel, by decide +kernel⟩, List.mem_of_getElem? (i := 364) (by decide +kernel), List.mem_of_getElem? (i := 1083) (by decide +kernel), List.mem_of_getElem? (i := 1084) (by decide +kernel)⟩
theorem lw_p31 : lw_okq (⟨"ToastMap$Ways", "gather", "(I)V"⟩, 5) := ⟨⟨by decide +kernel, by decide +kernel⟩, List.mem_of_getElem? (i := 364) (by decide +kernel), List.mem_of_getElem? (i := 1087) (by decide +kernel), List.mem_of_getElem? (i := 1088) (by decide +kernel)⟩
def lw_privs_2 : List (MethodName × Nat) := [(⟨"ToastMap$TimesReader", "readWho", "(ILToastMap$Company;)Z"⟩, 4), (⟨"ToastMap$TimesReader", "readAmount", "(III)Z"⟩, 4), (⟨"ToastMap$TimesReader", "readTest", "(ILToastMap$Company;)Z"⟩, 4), (⟨"ToastMap$TimesReader", "readCompares", "(I)Z"⟩, 4), (⟨"ToastMap", "isCouple", "(II)Z"⟩, 19), (⟨"ToastMap", "lookAhead", "(I)V"⟩, 19), (⟨"ToastMap", "findPeriod", "()I"⟩, 19), (⟨"ToastMap", "firstSettled", "(I)I"⟩, 19), (⟨"ToastMap$Company", "warmestOf", "(I)I"⟩, 10), (⟨"ToastMap$Company", "canAllBeLit", "(II)Z"⟩, 10), (⟨"ToastMap", "waysStatus", "(II)I"⟩, 19), (⟨"ToastMap", "rowsStatus", "(IIII)I"⟩, 19), (⟨"ToastMap", "findWays", "(II)V"⟩, 19), (⟨"ToastMap$Ways", "spread", "(I)V"⟩, 5), (⟨"ToastMap$Ways", "isOpen", "(III)Z"⟩, 5), (⟨"ToastMap$Ways", "gather", "(I)V"⟩, 5)]
theorem lw_r2 : ∀ q ∈ lw_privs_2, lw_okq q := List.forall_mem_cons.mpr ⟨lw_p16, List.forall_mem_cons.mpr ⟨lw_p17, List.forall_mem_cons.mpr ⟨lw_p18, List.forall_mem_cons.mpr ⟨lw_p19, List.forall_mem_cons.mpr ⟨lw_p20, List.forall_mem_cons.mpr ⟨lw_p21, List.forall_mem_cons.mpr ⟨lw_p22, List.forall_mem_cons.mpr ⟨lw_p23, List.forall_mem_cons.mpr ⟨lw_p24, List.forall_mem_cons.mpr ⟨lw_p25, List.forall_mem_cons.mpr ⟨lw_p26, List.forall_mem_cons.mpr ⟨lw_p27, List.forall_mem_cons.mpr ⟨lw_p28, List.forall_mem_cons.mpr ⟨lw_p29, List.forall_mem_cons.mpr ⟨lw_p30, List.forall_mem_cons.mpr ⟨lw_p31, fun _ h => absurd h List.not_mem_nil⟩⟩⟩⟩⟩⟩⟩⟩⟩⟩⟩⟩⟩⟩⟩⟩
theorem lw_p32 : lw_okq (⟨"ToastMap$Ways", "firstOpen", "(II)I"⟩, 5) := ⟨⟨by decide +kernel, by decide +kernel⟩, List.mem_of_getElem? (i := 364) (by decide +kernel), List.mem_of_getElem? (i := 1103) (by decide +kernel), List.mem_of_getElem? (i := 1104) (by decide +kernel)⟩
theorem lw_p33 : lw_okq (⟨"ToastMap", "tell", "(JJ)Z"⟩, 19) := ⟨⟨by decide +kernel, by decide +kernel⟩, List.mem_of_getElem? (i := 22) (by decide +kernel), List.mem_of_getElem? (i := 1115) (by decide +kernel), List.mem_of_getElem? (i := 1116) (by decide +kernel)⟩
theorem lw_p34 : lw_okq (⟨"ToastMap$Ways", "mostThrough", "(I)I"⟩, 5) := ⟨⟨by decide +kernel, by decide +kernel⟩, List.mem_of_getElem? (i := 364) (by decide +kernel), List.mem_of_getElem? (i := 1133) (by decide +kernel), List.mem_of_getElem? (i := 1134) (by decide +kernel)⟩
theorem lw_p35 : lw_okq (⟨"ToastMap", "lawStatus", "(II)I"⟩, 19) := ⟨⟨by decide +kernel, by decide +kernel⟩, List.mem_of_getElem? (i := 22) (by decide +kernel), List.mem_of_getElem? (i := 1143) (by decide +kernel), List.mem_of_getElem? (i := 1144) (by decide +kernel)⟩
theorem lw_p36 : lw_okq (⟨"ToastMap", "isLaw", "(IIII)Z"⟩, 19) := ⟨⟨by decide +kernel, by decide +kernel⟩, List.mem_of_getElem? (i := 22) (by decide +kernel), List.mem_of_getElem? (i := 1150) (by decide +kernel), List.mem_of_getElem? (i := 1151) (by decide +kernel)⟩
theorem lw_p37 : lw_okq (⟨"ToastMap", "tasteBoth", "(I)V"⟩, 19) := ⟨⟨by decide +kernel, by decide +kernel⟩, List.mem_of_getElem? (i := 22) (by decide +kernel), List.mem_of_getElem? (i := 1163) (by decide +kernel), List.mem_of_getElem? (i := 1164) (by decide +kernel)⟩
theorem lw_p38 : lw_okq (⟨"ToastMap$Game", "litCount", "()I"⟩, 4) := ⟨⟨by decide +kernel, by decide +kernel⟩, List.mem_of_getElem? (i := 386) (by decide +kernel), List.mem_of_getElem? (i := 1200) (by decide +kernel), List.mem_of_getElem? (i := 1201) (by decide +kernel)⟩
theorem lw_p39 : lw_okq (⟨"ToastMap$Game", "behindDrink", "(IIII)I"⟩, 4) := ⟨⟨by decide +kernel, by decide +kernel⟩, List.mem_of_getElem? (i := 386) (by decide +kernel), List.mem_of_getElem? (i := 1207) (by decide +kernel), List.mem_of_getElem? (i := 1208) (by decide +kernel)⟩
theorem lw_p40 : lw_okq (⟨"ToastMap$Game", "draught", "(III)I"⟩, 4) := ⟨⟨by decide +kernel, by decide +kernel⟩, List.mem_of_getElem? (i := 386) (by decide +kernel), List.mem_of_getElem? (i := 1212) (by decide +kernel), List.mem_of_getElem? (i := 1213) (by decide +kernel)⟩
theorem lw_p41 : lw_okq (⟨"ToastMap$Game", "butler", "(III)I"⟩, 4) := ⟨⟨by decide +kernel, by decide +kernel⟩, List.mem_of_getElem? (i := 386) (by decide +kernel), List.mem_of_getElem? (i := 1216) (by decide +kernel), List.mem_of_getElem? (i := 1217) (by decide +kernel)⟩
theorem lw_p42 : lw_okq (⟨"ToastMap$Living", "behindEnd", "(LToastMap$Times;I)I"⟩, 8) := ⟨⟨by decide +kernel, by decide +kernel⟩, List.mem_of_getElem? (i := 327) (by decide +kernel), List.mem_of_getElem? (i := 1251) (by decide +kernel), List.mem_of_getElem? (i := 1252) (by decide +kernel)⟩
theorem lw_p43 : lw_okq (⟨"ToastMap$Living", "behindStep", "(LToastMap$Company;LToastMap$Times;I)I"⟩, 8) := ⟨⟨by decide +kernel, by decide +kernel⟩, List.mem_of_getElem? (i := 327) (by decide +kernel), List.mem_of_getElem? (i := 1255) (by decide +kernel), List.mem_of_getElem? (i := 1256) (by decide +kernel)⟩
theorem lw_p44 : lw_okq (⟨"ToastMap$Living", "liveDrink", "(LToastMap$Company;I)V"⟩, 8) := ⟨⟨by decide +kernel, by decide +kernel⟩, List.mem_of_getElem? (i := 327) (by decide +kernel), List.mem_of_getElem? (i := 1259) (by decide +kernel), List.mem_of_getElem? (i := 1260) (by decide +kernel)⟩
theorem lw_p45 : lw_okq (⟨"ToastMap$Living", "liveNights", "(LToastMap$Company;I)V"⟩, 8) := ⟨⟨by decide +kernel, by decide +kernel⟩, List.mem_of_getElem? (i := 327) (by decide +kernel), List.mem_of_getElem? (i := 1266) (by decide +kernel), List.mem_of_getElem? (i := 1267) (by decide +kernel)⟩
theorem lw_p46 : lw_okq (⟨"ToastMap$Living", "liveEvening", "(LToastMap$Company;)V"⟩, 8) := ⟨⟨by decide +kernel, by decide +kernel⟩, List.mem_of_getElem? (i := 327) (by decide +kernel), List.mem_of_getElem? (i := 1272) (by decide +kernel), List.mem_of_getElem? (i := 1273) (by decide +kernel)⟩
theorem lw_p47 : lw_okq (⟨"ToastMap$Living", "liveFill", "(LToastMap$Company;II)V"⟩, 8) := ⟨⟨by decide +kernel, by decide +kernel⟩, List.mem_of_getElem? (i := 327) (by decide +kernel), List.mem_of_getElem? (i := 1277) (by decide +kernel), List.mem_of_getElem? (i := 1278) (by decide +kernel)⟩
def lw_privs_3 : List (MethodName × Nat) := [(⟨"ToastMap$Ways", "firstOpen", "(II)I"⟩, 5), (⟨"ToastMap", "tell", "(JJ)Z"⟩, 19), (⟨"ToastMap$Ways", "mostThrough", "(I)I"⟩, 5), (⟨"ToastMap", "lawStatus", "(II)I"⟩, 19), (⟨"ToastMap", "isLaw", "(IIII)Z"⟩, 19), (⟨"ToastMap", "tasteBoth", "(I)V"⟩, 19), (⟨"ToastMap$Game", "litCount", "()I"⟩, 4), (⟨"ToastMap$Game", "behindDrink", "(IIII)I"⟩, 4), (⟨"ToastMap$Game", "draught", "(III)I"⟩, 4), (⟨"ToastMap$Game", "butler", "(III)I"⟩, 4), (⟨"ToastMap$Living", "behindEnd", "(LToastMap$Times;I)I"⟩, 8), (⟨"ToastMap$Living", "behindStep", "(LToastMap$Company;LToastMap$Times;I)I"⟩, 8), (⟨"ToastMap$Living", "liveDrink", "(LToastMap$Company;I)V"⟩, 8), (⟨"ToastMap$Living", "liveNights", "(LToastMap$Company;I)V"⟩, 8), (⟨"ToastMap$Living", "liveEvening", "(LToastMap$Company;)V"⟩, 8), (⟨"ToastMap$Living", "liveFill", "(LToastMap$Company;II)V"⟩, 8)]
theorem lw_r3 : ∀ q ∈ lw_privs_3, lw_okq q := List.forall_mem_cons.mpr ⟨lw_p32, List.forall_mem_cons.mpr ⟨lw_p33, List.forall_mem_cons.mpr ⟨lw_p34, List.forall_mem_cons.mpr ⟨lw_p35, List.forall_mem_cons.mpr ⟨lw_p36, List.forall_mem_cons.mpr ⟨lw_p37, List.forall_mem_cons.mpr ⟨lw_p38, List.forall_mem_cons.mpr ⟨lw_p39, List.forall_mem_cons.mpr ⟨lw_p40, List.forall_mem_cons.mpr ⟨lw_p41, List.forall_mem_cons.mpr ⟨lw_p42, List.forall_mem_cons.mpr ⟨lw_p43, List.forall_mem_cons.mpr ⟨lw_p44, List.forall_mem_cons.mpr ⟨lw_p45, List.forall_mem_cons.mpr ⟨lw_p46, List.forall_mem_cons.mpr ⟨lw_p47, fun _ h => absurd h List.not_mem_nil⟩⟩⟩⟩⟩⟩⟩⟩⟩⟩⟩⟩⟩⟩⟩⟩
theorem lw_p48 : lw_okq (⟨"ToastMap$Living", "liveAny", "(LToastMap$Company;)V"⟩, 8) := ⟨⟨by decide +kernel, by decide +kernel⟩, List.mem_of_getElem? (i := 327) (by decide +kernel), List.mem_of_getElem? (i := 1281) (by decide +kernel), List.mem_of_getElem? (i := 1282) (by decide +kernel)⟩
theorem lw_p49 : lw_okq (⟨"ToastMap$Living", "drawBy", "(I)I"⟩, 8) := ⟨⟨by decide +kernel, by decide +kernel⟩, List.mem_of_getElem? (i := 327) (by decide +kernel), List.mem_of_getElem? (i := 1285) (by decide +kernel), List.mem_of_getElem? (i := 1286) (by decide +kernel)⟩
theorem lw_p50 : lw_okq (⟨"ToastMap$Living", "holds", "(LToastMap$Company;LToastMap$Times;I)Z"⟩, 8) := ⟨⟨by decide +kernel, by decide +kernel⟩, List.mem_of_getElem? (i := 327) (by decide +kernel), List.mem_of_getElem? (i := 1291) (by decide +kernel), List.mem_of_getElem? (i := 1292) (by decide +kernel)⟩
theorem lw_p51 : lw_okq (⟨"ToastMapModel", "plain", "(I)V"⟩, 46) := ⟨⟨by decide +kernel, by decide +kernel⟩, List.mem_of_getElem? (i := 1330) (by decide +kernel), List.mem_of_getElem? (i := 1336) (by decide +kernel), List.mem_of_getElem? (i := 1337) (by decide +kernel)⟩
theorem lw_p52 : lw_okq (⟨"ToastMapModel", "is", "(I)Z"⟩, 46) := ⟨⟨by decide +kernel, by decide +kernel⟩, List.mem_of_getElem? (i := 1330) (by decide +kernel), List.mem_of_getElem? (i := 1498) (by decide +kernel), List.mem_of_getElem? (i := 1499) (by decide +kernel)⟩
theorem lw_p53 : lw_okq (⟨"ToastMapModel", "wrongPlace", "(II)I"⟩, 46) := ⟨⟨by decide +kernel, by decide +kernel⟩, List.mem_of_getElem? (i := 1330) (by decide +kernel), List.mem_of_getElem? (i := 1506) (by decide +kernel), List.mem_of_getElem? (i := 1507) (by decide +kernel)⟩
theorem lw_p54 : lw_okq (⟨"ToastMapModel", "four", "(I)V"⟩, 46) := ⟨⟨by decide +kernel, by decide +kernel⟩, List.mem_of_getElem? (i := 1330) (by decide +kernel), List.mem_of_getElem? (i := 1526) (by decide +kernel), List.mem_of_getElem? (i := 1527) (by decide +kernel)⟩
theorem lw_p55 : lw_okq (⟨"ToastMapModel", "begins", "(II)Z"⟩, 46) := ⟨⟨by decide +kernel, by decide +kernel⟩, List.mem_of_getElem? (i := 1330) (by decide +kernel), List.mem_of_getElem? (i := 1538) (by decide +kernel), List.mem_of_getElem? (i := 1539) (by decide +kernel)⟩
theorem lw_p56 : lw_okq (⟨"ToastMapModel", "ahead", "()V"⟩, 46) := ⟨⟨by decide +kernel, by decide +kernel⟩, List.mem_of_getElem? (i := 1330) (by decide +kernel), List.mem_of_getElem? (i := 1542) (by decide +kernel), List.mem_of_getElem? (i := 1543) (by decide +kernel)⟩
theorem lw_p57 : lw_okq (⟨"ToastMapModel", "byteAt", "(I)I"⟩, 46) := ⟨⟨by decide +kernel, by decide +kernel⟩, List.mem_of_getElem? (i := 1330) (by decide +kernel), List.mem_of_getElem? (i := 1546) (by decide +kernel), List.mem_of_getElem? (i := 1547) (by decide +kernel)⟩
theorem lw_p58 : lw_okq (⟨"ToastMapModel", "refuse", "(I)I"⟩, 46) := ⟨⟨by decide +kernel, by decide +kernel⟩, List.mem_of_getElem? (i := 1330) (by decide +kernel), List.mem_of_getElem? (i := 1558) (by decide +kernel), List.mem_of_getElem? (i := 1559) (by decide +kernel)⟩
theorem lw_p59 : lw_okq (⟨"ToastMapModel", "mapPart", "()Z"⟩, 46) := ⟨⟨by decide +kernel, by decide +kernel⟩, List.mem_of_getElem? (i := 1330) (by decide +kernel), List.mem_of_getElem? (i := 1562) (by decide +kernel), List.mem_of_getElem? (i := 1563) (by decide +kernel)⟩
theorem lw_p60 : lw_okq (⟨"ToastMapModel", "inWords", "(Ljava/lang/String;)I"⟩, 46) := ⟨⟨by decide +kernel, by decide +kernel⟩, List.mem_of_getElem? (i := 1330) (by decide +kernel), List.mem_of_getElem? (i := 1567) (by decide +kernel), List.mem_of_getElem? (i := 1568) (by decide +kernel)⟩
theorem lw_p61 : lw_okq (⟨"ToastMapModel", "fails", "(I)Z"⟩, 46) := ⟨⟨by decide +kernel, by decide +kernel⟩, List.mem_of_getElem? (i := 1330) (by decide +kernel), List.mem_of_getElem? (i := 1573) (by decide +kernel), List.mem_of_getElem? (i := 1574) (by decide +kernel)⟩
theorem lw_p62 : lw_okq (⟨"ToastMapModel", "isIn", "(II)Z"⟩, 46) := ⟨⟨by decide +kernel, by decide +kernel⟩, List.mem_of_getElem? (i := 1330) (by decide +kernel), List.mem_of_getElem? (i := 1577) (by decide +kernel), List.mem_of_getElem? (i := 1578) (by decide +kernel)⟩
theorem lw_p63 : lw_okq (⟨"ToastMapModel", "aPerson", "()Z"⟩, 46) := ⟨⟨by decide +kernel, by decide +kernel⟩, List.mem_of_getElem? (i := 1330) (by decide +kernel), List.mem_of_getElem? (i := 1581) (by decide +kernel), List.mem_of_getElem? (i := 1582) (by decide +kernel)⟩
def lw_privs_4 : List (MethodName × Nat) := [(⟨"ToastMap$Living", "liveAny", "(LToastMap$Company;)V"⟩, 8), (⟨"ToastMap$Living", "drawBy", "(I)I"⟩, 8), (⟨"ToastMap$Living", "holds", "(LToastMap$Company;LToastMap$Times;I)Z"⟩, 8), (⟨"ToastMapModel", "plain", "(I)V"⟩, 46), (⟨"ToastMapModel", "is", "(I)Z"⟩, 46), (⟨"ToastMapModel", "wrongPlace", "(II)I"⟩, 46), (⟨"ToastMapModel", "four", "(I)V"⟩, 46), (⟨"ToastMapModel", "begins", "(II)Z"⟩, 46), (⟨"ToastMapModel", "ahead", "()V"⟩, 46), (⟨"ToastMapModel", "byteAt", "(I)I"⟩, 46), (⟨"ToastMapModel", "refuse", "(I)I"⟩, 46), (⟨"ToastMapModel", "mapPart", "()Z"⟩, 46), (⟨"ToastMapModel", "inWords", "(Ljava/lang/String;)I"⟩, 46), (⟨"ToastMapModel", "fails", "(I)Z"⟩, 46), (⟨"ToastMapModel", "isIn", "(II)Z"⟩, 46), (⟨"ToastMapModel", "aPerson", "()Z"⟩, 46)]
theorem lw_r4 : ∀ q ∈ lw_privs_4, lw_okq q := List.forall_mem_cons.mpr ⟨lw_p48, List.forall_mem_cons.mpr ⟨lw_p49, List.forall_mem_cons.mpr ⟨lw_p50, List.forall_mem_cons.mpr ⟨lw_p51, List.forall_mem_cons.mpr ⟨lw_p52, List.forall_mem_cons.mpr ⟨lw_p53, List.forall_mem_cons.mpr ⟨lw_p54, List.forall_mem_cons.mpr ⟨lw_p55, List.forall_mem_cons.mpr ⟨lw_p56, List.forall_mem_cons.mpr ⟨lw_p57, List.forall_mem_cons.mpr ⟨lw_p58, List.forall_mem_cons.mpr ⟨lw_p59, List.forall_mem_cons.mpr ⟨lw_p60, List.forall_mem_cons.mpr ⟨lw_p61, List.forall_mem_cons.mpr ⟨lw_p62, List.forall_mem_cons.mpr ⟨lw_p63, fun _ h => absurd h List.not_mem_nil⟩⟩⟩⟩⟩⟩⟩⟩⟩⟩⟩⟩⟩⟩⟩⟩
theorem lw_p64 : lw_okq (⟨"ToastMapModel", "isName", "(Ljava/lang/String;)Z"⟩, 46) := ⟨⟨by decide +kernel, by decide +kernel⟩, List.mem_of_getElem? (i := 1330) (by decide +kernel), List.mem_of_getElem? (i := 1588) (by decide +kernel), List.mem_of_getElem? (i := 1589) (by decide +kernel)⟩
theorem lw_p65 : lw_okq (⟨"ToastMapModel", "findHere", "(II)I"⟩, 46) := ⟨⟨by decide +kernel, by decide +kernel⟩, List.mem_of_getElem? (i := 1330) (by decide +kernel), List.mem_of_getElem? (i := 1592) (by decide +kernel), List.mem_of_getElem? (i := 1593) (by decide +kernel)⟩
theorem lw_p66 : lw_okq (⟨"ToastMapModel", "nameHere", "()J"⟩, 46) := ⟨⟨by decide +kernel, by decide +kernel⟩, List.mem_of_getElem? (i := 1330) (by decide +kernel), List.mem_of_getElem? (i := 1596) (by decide +kernel), List.mem_of_getElem? (i := 1597) (by decide +kernel)⟩
theorem lw_p67 : lw_okq (⟨"ToastMapModel", "wantWord", "(Ljava/lang/String;I)Z"⟩, 46) := ⟨⟨by decide +kernel, by decide +kernel⟩, List.mem_of_getElem? (i := 1330) (by decide +kernel), List.mem_of_getElem? (i := 1600) (by decide +kernel), List.mem_of_getElem? (i := 1601) (by decide +kernel)⟩
theorem lw_p68 : lw_okq (⟨"ToastMapModel", "number", "(III)Z"⟩, 46) := ⟨⟨by decide +kernel, by decide +kernel⟩, List.mem_of_getElem? (i := 1330) (by decide +kernel), List.mem_of_getElem? (i := 1604) (by decide +kernel), List.mem_of_getElem? (i := 1605) (by decide +kernel)⟩
theorem lw_p69 : lw_okq (⟨"ToastMapModel", "perhaps", "(IIIII)Z"⟩, 46) := ⟨⟨by decide +kernel, by decide +kernel⟩, List.mem_of_getElem? (i := 1330) (by decide +kernel), List.mem_of_getElem? (i := 1608) (by decide +kernel), List.mem_of_getElem? (i := 1609) (by decide +kernel)⟩
theorem lw_p70 : lw_okq (⟨"ToastMapModel", "isThere", "(I)Z"⟩, 46) := ⟨⟨by decide +kernel, by decide +kernel⟩, List.mem_of_getElem? (i := 1330) (by decide +kernel), List.mem_of_getElem? (i := 1612) (by decide +kernel), List.mem_of_getElem? (i := 1613) (by decide +kernel)⟩
theorem lw_p71 : lw_okq (⟨"ToastMapModel", "wantSign", "(I)Z"⟩, 46) := ⟨⟨by decide +kernel, by decide +kernel⟩, List.mem_of_getElem? (i := 1330) (by decide +kernel), List.mem_of_getElem? (i := 1616) (by decide +kernel), List.mem_of_getElem? (i := 1617) (by decide +kernel)⟩
theorem lw_p72 : lw_okq (⟨"ToastMapModel", "isSign", "(I)Z"⟩, 46) := ⟨⟨by decide +kernel, by decide +kernel⟩, List.mem_of_getElem? (i := 1330) (by decide +kernel), List.mem_of_getElem? (i := 1620) (by decide +kernel), List.mem_of_getElem? (i := 1621) (by decide +kernel)⟩
theorem lw_p73 : lw_okq (⟨"ToastMapModel", "aToast", "()Z"⟩, 46) := ⟨⟨by decide +kernel, by decide +kernel⟩, List.mem_of_getElem? (i := 1330) (by decide +kernel), List.mem_of_getElem? (i := 1624) (by decide +kernel), List.mem_of_getElem? (i := 1625) (by decide +kernel)⟩
theorem lw_p74 : lw_okq (⟨"ToastMapModel", "taken", "(I)I"⟩, 46) := ⟨⟨by decide +kernel, by decide +kernel⟩, List.mem_of_getElem? (i := 1330) (by decide +kernel), List.mem_of_getElem? (i := 1634) (by decide +kernel), List.mem_of_getElem? (i := 1635) (by decide +kernel)⟩
theorem lw_p75 : lw_okq (⟨"ToastMapModel", "gives", "(I)I"⟩, 46) := ⟨⟨by decide +kernel, by decide +kernel⟩, List.mem_of_getElem? (i := 1330) (by decide +kernel), List.mem_of_getElem? (i := 1638) (by decide +kernel), List.mem_of_getElem? (i := 1639) (by decide +kernel)⟩
theorem lw_p76 : lw_okq (⟨"ToastMapModel", "timeStep", "()Z"⟩, 46) := ⟨⟨by decide +kernel, by decide +kernel⟩, List.mem_of_getElem? (i := 1330) (by decide +kernel), List.mem_of_getElem? (i := 1646) (by decide +kernel), List.mem_of_getElem? (i := 1647) (by decide +kernel)⟩
theorem lw_p77 : lw_okq (⟨"ToastMapModel", "timeOrder", "(II)Z"⟩, 46) := ⟨⟨by decide +kernel, by decide +kernel⟩, List.mem_of_getElem? (i := 1330) (by decide +kernel), List.mem_of_getElem? (i := 1650) (by decide +kernel), List.mem_of_getElem? (i := 1651) (by decide +kernel)⟩
theorem lw_p78 : lw_okq (⟨"ToastMapModel", "personTo", "(I)Z"⟩, 46) := ⟨⟨by decide +kernel, by decide +kernel⟩, List.mem_of_getElem? (i := 1330) (by decide +kernel), List.mem_of_getElem? (i := 1654) (by decide +kernel), List.mem_of_getElem? (i := 1655) (by decide +kernel)⟩
theorem lw_p79 : lw_okq (⟨"ToastMapModel", "test", "(I)Z"⟩, 46) := ⟨⟨by decide +kernel, by decide +kernel⟩, List.mem_of_getElem? (i := 1330) (by decide +kernel), List.mem_of_getElem? (i := 1658) (by decide +kernel), List.mem_of_getElem? (i := 1659) (by decide +kernel)⟩
def lw_privs_5 : List (MethodName × Nat) := [(⟨"ToastMapModel", "isName", "(Ljava/lang/String;)Z"⟩, 46), (⟨"ToastMapModel", "findHere", "(II)I"⟩, 46), (⟨"ToastMapModel", "nameHere", "()J"⟩, 46), (⟨"ToastMapModel", "wantWord", "(Ljava/lang/String;I)Z"⟩, 46), (⟨"ToastMapModel", "number", "(III)Z"⟩, 46), (⟨"ToastMapModel", "perhaps", "(IIIII)Z"⟩, 46), (⟨"ToastMapModel", "isThere", "(I)Z"⟩, 46), (⟨"ToastMapModel", "wantSign", "(I)Z"⟩, 46), (⟨"ToastMapModel", "isSign", "(I)Z"⟩, 46), (⟨"ToastMapModel", "aToast", "()Z"⟩, 46), (⟨"ToastMapModel", "taken", "(I)I"⟩, 46), (⟨"ToastMapModel", "gives", "(I)I"⟩, 46), (⟨"ToastMapModel", "timeStep", "()Z"⟩, 46), (⟨"ToastMapModel", "timeOrder", "(II)Z"⟩, 46), (⟨"ToastMapModel", "personTo", "(I)Z"⟩, 46), (⟨"ToastMapModel", "test", "(I)Z"⟩, 46)]
theorem lw_r5 : ∀ q ∈ lw_privs_5, lw_okq q := List.forall_mem_cons.mpr ⟨lw_p64, List.forall_mem_cons.mpr ⟨lw_p65, List.forall_mem_cons.mpr ⟨lw_p66, List.forall_mem_cons.mpr ⟨lw_p67, List.forall_mem_cons.mpr ⟨lw_p68, List.forall_mem_cons.mpr ⟨lw_p69, List.forall_mem_cons.mpr ⟨lw_p70, List.forall_mem_cons.mpr ⟨lw_p71, List.forall_mem_cons.mpr ⟨lw_p72, List.forall_mem_cons.mpr ⟨lw_p73, List.forall_mem_cons.mpr ⟨lw_p74, List.forall_mem_cons.mpr ⟨lw_p75, List.forall_mem_cons.mpr ⟨lw_p76, List.forall_mem_cons.mpr ⟨lw_p77, List.forall_mem_cons.mpr ⟨lw_p78, List.forall_mem_cons.mpr ⟨lw_p79, fun _ h => absurd h List.not_mem_nil⟩⟩⟩⟩⟩⟩⟩⟩⟩⟩⟩⟩⟩⟩⟩⟩
theorem lw_p80 : lw_okq (⟨"ToastMapModel", "areLit", "()I"⟩, 46) := ⟨⟨by decide +kernel, by decide +kernel⟩, List.mem_of_getElem? (i := 1330) (by decide +kernel), List.mem_of_getElem? (i := 1666) (by decide +kernel), List.mem_of_getElem? (i := 1667) (by decide +kernel)⟩
theorem lw_p81 : lw_okq (⟨"ToastMapModel", "isLit", "(I)Z"⟩, 46) := ⟨⟨by decide +kernel, by decide +kernel⟩, List.mem_of_getElem? (i := 1330) (by decide +kernel), List.mem_of_getElem? (i := 1670) (by decide +kernel), List.mem_of_getElem? (i := 1671) (by decide +kernel)⟩
theorem lw_p82 : lw_okq (⟨"ToastMapModel", "personOf", "(II)I"⟩, 46) := ⟨⟨by decide +kernel, by decide +kernel⟩, List.mem_of_getElem? (i := 1330) (by decide +kernel), List.mem_of_getElem? (i := 1674) (by decide +kernel), List.mem_of_getElem? (i := 1675) (by decide +kernel)⟩
theorem lw_p83 : lw_okq (⟨"ToastMapModel", "haveWhom", "()I"⟩, 46) := ⟨⟨by decide +kernel, by decide +kernel⟩, List.mem_of_getElem? (i := 1330) (by decide +kernel), List.mem_of_getElem? (i := 1678) (by decide +kernel), List.mem_of_getElem? (i := 1679) (by decide +kernel)⟩
theorem lw_p84 : lw_okq (⟨"ToastMapModel", "whomOf", "(I)I"⟩, 46) := ⟨⟨by decide +kernel, by decide +kernel⟩, List.mem_of_getElem? (i := 1330) (by decide +kernel), List.mem_of_getElem? (i := 1682) (by decide +kernel), List.mem_of_getElem? (i := 1683) (by decide +kernel)⟩
theorem lw_p85 : lw_okq (⟨"ToastMapModel", "together", "(I)I"⟩, 46) := ⟨⟨by decide +kernel, by decide +kernel⟩, List.mem_of_getElem? (i := 1330) (by decide +kernel), List.mem_of_getElem? (i := 1686) (by decide +kernel), List.mem_of_getElem? (i := 1687) (by decide +kernel)⟩
theorem lw_p86 : lw_okq (⟨"ToastMapModel", "isPerson", "(I)Z"⟩, 46) := ⟨⟨by decide +kernel, by decide +kernel⟩, List.mem_of_getElem? (i := 1330) (by decide +kernel), List.mem_of_getElem? (i := 1694) (by decide +kernel), List.mem_of_getElem? (i := 1695) (by decide +kernel)⟩
theorem lw_p87 : lw_okq (⟨"ToastMapModel", "warmersOf", "(I)I"⟩, 46) := ⟨⟨by decide +kernel, by decide +kernel⟩, List.mem_of_getElem? (i := 1330) (by decide +kernel), List.mem_of_getElem? (i := 1698) (by decide +kernel), List.mem_of_getElem? (i := 1699) (by decide +kernel)⟩
theorem lw_p88 : lw_okq (⟨"ToastMapModel", "warmOf", "(I)I"⟩, 46) := ⟨⟨by decide +kernel, by decide +kernel⟩, List.mem_of_getElem? (i := 1330) (by decide +kernel), List.mem_of_getElem? (i := 1702) (by decide +kernel), List.mem_of_getElem? (i := 1703) (by decide +kernel)⟩
theorem lw_p89 : lw_okq (⟨"ToastMapModel", "farBetween", "(II)I"⟩, 46) := ⟨⟨by decide +kernel, by decide +kernel⟩, List.mem_of_getElem? (i := 1330) (by decide +kernel), List.mem_of_getElem? (i := 1706) (by decide +kernel), List.mem_of_getElem? (i := 1707) (by decide +kernel)⟩
theorem lw_p90 : lw_okq (⟨"ToastMapModel", "drinks", "(I)Z"⟩, 46) := ⟨⟨by decide +kernel, by decide +kernel⟩, List.mem_of_getElem? (i := 1330) (by decide +kernel), List.mem_of_getElem? (i := 1722) (by decide +kernel), List.mem_of_getElem? (i := 1723) (by decide +kernel)⟩
theorem lw_p91 : lw_okq (⟨"ToastMapModel", "warms", "(II)V"⟩, 46) := ⟨⟨by decide +kernel, by decide +kernel⟩, List.mem_of_getElem? (i := 1330) (by decide +kernel), List.mem_of_getElem? (i := 1726) (by decide +kernel), List.mem_of_getElem? (i := 1727) (by decide +kernel)⟩
theorem lw_p92 : lw_okq (⟨"ToastMapModel", "nightsGo", "(I)V"⟩, 46) := ⟨⟨by decide +kernel, by decide +kernel⟩, List.mem_of_getElem? (i := 1330) (by decide +kernel), List.mem_of_getElem? (i := 1738) (by decide +kernel), List.mem_of_getElem? (i := 1739) (by decide +kernel)⟩
theorem lw_p93 : lw_okq (⟨"ToastMapModel", "nightGoes", "()V"⟩, 46) := ⟨⟨by decide +kernel, by decide +kernel⟩, List.mem_of_getElem? (i := 1330) (by decide +kernel), List.mem_of_getElem? (i := 1742) (by decide +kernel), List.mem_of_getElem? (i := 1743) (by decide +kernel)⟩
theorem lw_p94 : lw_okq (⟨"ToastMapModel", "cools", "(I)V"⟩, 46) := ⟨⟨by decide +kernel, by decide +kernel⟩, List.mem_of_getElem? (i := 1330) (by decide +kernel), List.mem_of_getElem? (i := 1746) (by decide +kernel), List.mem_of_getElem? (i := 1747) (by decide +kernel)⟩
theorem lw_p95 : lw_okq (⟨"ToastMapModel", "eveningGoes", "(I)I"⟩, 46) := ⟨⟨by decide +kernel, by decide +kernel⟩, List.mem_of_getElem? (i := 1330) (by decide +kernel), List.mem_of_getElem? (i := 1754) (by decide +kernel), List.mem_of_getElem? (i := 1755) (by decide +kernel)⟩
def lw_privs_6 : List (MethodName × Nat) := [(⟨"ToastMapModel", "areLit", "()I"⟩, 46), (⟨"ToastMapModel", "isLit", "(I)Z"⟩, 46), (⟨"ToastMapModel", "personOf", "(II)I"⟩, 46), (⟨"ToastMapModel", "haveWhom", "()I"⟩, 46), (⟨"ToastMapModel", "whomOf", "(I)I"⟩, 46), (⟨"ToastMapModel", "together", "(I)I"⟩, 46), (⟨"ToastMapModel", "isPerson", "(I)Z"⟩, 46), (⟨"ToastMapModel", "warmersOf", "(I)I"⟩, 46), (⟨"ToastMapModel", "warmOf", "(I)I"⟩, 46), (⟨"ToastMapModel", "farBetween", "(II)I"⟩, 46), (⟨"ToastMapModel", "drinks", "(I)Z"⟩, 46), (⟨"ToastMapModel", "warms", "(II)V"⟩, 46), (⟨"ToastMapModel", "nightsGo", "(I)V"⟩, 46), (⟨"ToastMapModel", "nightGoes", "()V"⟩, 46), (⟨"ToastMapModel", "cools", "(I)V"⟩, 46), (⟨"ToastMapModel", "eveningGoes", "(I)I"⟩, 46)]
theorem lw_r6 : ∀ q ∈ lw_privs_6, lw_okq q := List.forall_mem_cons.mpr ⟨lw_p80, List.forall_mem_cons.mpr ⟨lw_p81, List.forall_mem_cons.mpr ⟨lw_p82, List.forall_mem_cons.mpr ⟨lw_p83, List.forall_mem_cons.mpr ⟨lw_p84, List.forall_mem_cons.mpr ⟨lw_p85, List.forall_mem_cons.mpr ⟨lw_p86, List.forall_mem_cons.mpr ⟨lw_p87, List.forall_mem_cons.mpr ⟨lw_p88, List.forall_mem_cons.mpr ⟨lw_p89, List.forall_mem_cons.mpr ⟨lw_p90, List.forall_mem_cons.mpr ⟨lw_p91, List.forall_mem_cons.mpr ⟨lw_p92, List.forall_mem_cons.mpr ⟨lw_p93, List.forall_mem_cons.mpr ⟨lw_p94, List.forall_mem_cons.mpr ⟨lw_p95, fun _ h => absurd h List.not_mem_nil⟩⟩⟩⟩⟩⟩⟩⟩⟩⟩⟩⟩⟩⟩⟩⟩
theorem lw_p96 : lw_okq (⟨"ToastMapModel", "fills", "(II)Z"⟩, 46) := ⟨⟨by decide +kernel, by decide +kernel⟩, List.mem_of_getElem? (i := 1330) (by decide +kernel), List.mem_of_getElem? (i := 1763) (by decide +kernel), List.mem_of_getElem? (i := 1764) (by decide +kernel)⟩
theorem lw_p97 : lw_okq (⟨"ToastMapModel", "areTwo", "(II)Z"⟩, 46) := ⟨⟨by decide +kernel, by decide +kernel⟩, List.mem_of_getElem? (i := 1330) (by decide +kernel), List.mem_of_getElem? (i := 1780) (by decide +kernel), List.mem_of_getElem? (i := 1781) (by decide +kernel)⟩
theorem lw_p98 : lw_okq (⟨"ToastMapModel", "cooled", "(II)I"⟩, 46) := ⟨⟨by decide +kernel, by decide +kernel⟩, List.mem_of_getElem? (i := 1330) (by decide +kernel), List.mem_of_getElem? (i := 1797) (by decide +kernel), List.mem_of_getElem? (i := 1798) (by decide +kernel)⟩
theorem lw_p99 : lw_okq (⟨"ToastMapModel", "keeps", "(I)V"⟩, 46) := ⟨⟨by decide +kernel, by decide +kernel⟩, List.mem_of_getElem? (i := 1330) (by decide +kernel), List.mem_of_getElem? (i := 1809) (by decide +kernel), List.mem_of_getElem? (i := 1810) (by decide +kernel)⟩
theorem lw_p100 : lw_okq (⟨"ToastMapModel", "eveningsGo", "(I)V"⟩, 46) := ⟨⟨by decide +kernel, by decide +kernel⟩, List.mem_of_getElem? (i := 1330) (by decide +kernel), List.mem_of_getElem? (i := 1813) (by decide +kernel), List.mem_of_getElem? (i := 1814) (by decide +kernel)⟩
theorem lw_p101 : lw_okq (⟨"ToastMapModel", "restores", "(I)V"⟩, 46) := ⟨⟨by decide +kernel, by decide +kernel⟩, List.mem_of_getElem? (i := 1330) (by decide +kernel), List.mem_of_getElem? (i := 1817) (by decide +kernel), List.mem_of_getElem? (i := 1818) (by decide +kernel)⟩
theorem lw_p102 : lw_okq (⟨"ToastMapModel", "laysSettled", "()Z"⟩, 46) := ⟨⟨by decide +kernel, by decide +kernel⟩, List.mem_of_getElem? (i := 1330) (by decide +kernel), List.mem_of_getElem? (i := 1829) (by decide +kernel), List.mem_of_getElem? (i := 1830) (by decide +kernel)⟩
theorem lw_p103 : lw_okq (⟨"ToastMapModel", "isAlike", "(II)Z"⟩, 46) := ⟨⟨by decide +kernel, by decide +kernel⟩, List.mem_of_getElem? (i := 1330) (by decide +kernel), List.mem_of_getElem? (i := 1833) (by decide +kernel), List.mem_of_getElem? (i := 1834) (by decide +kernel)⟩
theorem lw_p104 : lw_okq (⟨"ToastMapModel", "laysChain", "(I)V"⟩, 46) := ⟨⟨by decide +kernel, by decide +kernel⟩, List.mem_of_getElem? (i := 1330) (by decide +kernel), List.mem_of_getElem? (i := 1845) (by decide +kernel), List.mem_of_getElem? (i := 1846) (by decide +kernel)⟩
theorem lw_p105 : lw_okq (⟨"ToastMapModel", "ringOf", "(I)I"⟩, 46) := ⟨⟨by decide +kernel, by decide +kernel⟩, List.mem_of_getElem? (i := 1330) (by decide +kernel), List.mem_of_getElem? (i := 1857) (by decide +kernel), List.mem_of_getElem? (i := 1858) (by decide +kernel)⟩
theorem lw_p106 : lw_okq (⟨"ToastMapModel", "needsOf", "(I)I"⟩, 46) := ⟨⟨by decide +kernel, by decide +kernel⟩, List.mem_of_getElem? (i := 1330) (by decide +kernel), List.mem_of_getElem? (i := 1869) (by decide +kernel), List.mem_of_getElem? (i := 1870) (by decide +kernel)⟩
theorem lw_p107 : lw_okq (⟨"ToastMapModel", "mostOfAll", "(I)I"⟩, 46) := ⟨⟨by decide +kernel, by decide +kernel⟩, List.mem_of_getElem? (i := 1330) (by decide +kernel), List.mem_of_getElem? (i := 1879) (by decide +kernel), List.mem_of_getElem? (i := 1880) (by decide +kernel)⟩
theorem lw_p108 : lw_okq (⟨"ToastMapModel", "litBehind", "(I)I"⟩, 46) := ⟨⟨by decide +kernel, by decide +kernel⟩, List.mem_of_getElem? (i := 1330) (by decide +kernel), List.mem_of_getElem? (i := 1894) (by decide +kernel), List.mem_of_getElem? (i := 1895) (by decide +kernel)⟩
theorem lw_p109 : lw_okq (⟨"ToastMapModel", "wrongSeen", "(II)I"⟩, 46) := ⟨⟨by decide +kernel, by decide +kernel⟩, List.mem_of_getElem? (i := 1330) (by decide +kernel), List.mem_of_getElem? (i := 1902) (by decide +kernel), List.mem_of_getElem? (i := 1903) (by decide +kernel)⟩
theorem lw_p110 : lw_okq (⟨"ToastMapModel", "laysWays", "(II)V"⟩, 46) := ⟨⟨by decide +kernel, by decide +kernel⟩, List.mem_of_getElem? (i := 1330) (by decide +kernel), List.mem_of_getElem? (i := 1907) (by decide +kernel), List.mem_of_getElem? (i := 1908) (by decide +kernel)⟩
theorem lw_p111 : lw_okq (⟨"ToastMapModel", "isWay", "(II)Z"⟩, 46) := ⟨⟨by decide +kernel, by decide +kernel⟩, List.mem_of_getElem? (i := 1330) (by decide +kernel), List.mem_of_getElem? (i := 1911) (by decide +kernel), List.mem_of_getElem? (i := 1912) (by decide +kernel)⟩
def lw_privs_7 : List (MethodName × Nat) := [(⟨"ToastMapModel", "fills", "(II)Z"⟩, 46), (⟨"ToastMapModel", "areTwo", "(II)Z"⟩, 46), (⟨"ToastMapModel", "cooled", "(II)I"⟩, 46), (⟨"ToastMapModel", "keeps", "(I)V"⟩, 46), (⟨"ToastMapModel", "eveningsGo", "(I)V"⟩, 46), (⟨"ToastMapModel", "restores", "(I)V"⟩, 46), (⟨"ToastMapModel", "laysSettled", "()Z"⟩, 46), (⟨"ToastMapModel", "isAlike", "(II)Z"⟩, 46), (⟨"ToastMapModel", "laysChain", "(I)V"⟩, 46), (⟨"ToastMapModel", "ringOf", "(I)I"⟩, 46), (⟨"ToastMapModel", "needsOf", "(I)I"⟩, 46), (⟨"ToastMapModel", "mostOfAll", "(I)I"⟩, 46), (⟨"ToastMapModel", "litBehind", "(I)I"⟩, 46), (⟨"ToastMapModel", "wrongSeen", "(II)I"⟩, 46), (⟨"ToastMapModel", "laysWays", "(II)V"⟩, 46), (⟨"ToastMapModel", "isWay", "(II)Z"⟩, 46)]
theorem lw_r7 : ∀ q ∈ lw_privs_7, lw_okq q := List.forall_mem_cons.mpr ⟨lw_p96, List.forall_mem_cons.mpr ⟨lw_p97, List.forall_mem_cons.mpr ⟨lw_p98, List.forall_mem_cons.mpr ⟨lw_p99, List.forall_mem_cons.mpr ⟨lw_p100, List.forall_mem_cons.mpr ⟨lw_p101, List.forall_mem_cons.mpr ⟨lw_p102, List.forall_mem_cons.mpr ⟨lw_p103, List.forall_mem_cons.mpr ⟨lw_p104, List.forall_mem_cons.mpr ⟨lw_p105, List.forall_mem_cons.mpr ⟨lw_p106, List.forall_mem_cons.mpr ⟨lw_p107, List.forall_mem_cons.mpr ⟨lw_p108, List.forall_mem_cons.mpr ⟨lw_p109, List.forall_mem_cons.mpr ⟨lw_p110, List.forall_mem_cons.mpr ⟨lw_p111, fun _ h => absurd h List.not_mem_nil⟩⟩⟩⟩⟩⟩⟩⟩⟩⟩⟩⟩⟩⟩⟩⟩
theorem lw_p112 : lw_okq (⟨"ToastMapModel", "mayHave", "(II)Z"⟩, 46) := ⟨⟨by decide +kernel, by decide +kernel⟩, List.mem_of_getElem? (i := 1330) (by decide +kernel), List.mem_of_getElem? (i := 1915) (by decide +kernel), List.mem_of_getElem? (i := 1916) (by decide +kernel)⟩
theorem lw_p113 : lw_okq (⟨"ToastMapModel", "counts", "()V"⟩, 46) := ⟨⟨by decide +kernel, by decide +kernel⟩, List.mem_of_getElem? (i := 1330) (by decide +kernel), List.mem_of_getElem? (i := 1919) (by decide +kernel), List.mem_of_getElem? (i := 1920) (by decide +kernel)⟩
theorem lw_p114 : lw_okq (⟨"ToastMapModel", "tellsBy", "(JJ)Z"⟩, 46) := ⟨⟨by decide +kernel, by decide +kernel⟩, List.mem_of_getElem? (i := 1330) (by decide +kernel), List.mem_of_getElem? (i := 1931) (by decide +kernel), List.mem_of_getElem? (i := 1932) (by decide +kernel)⟩
theorem lw_p115 : lw_okq (⟨"ToastMapModel", "mostAlike", "(I)I"⟩, 46) := ⟨⟨by decide +kernel, by decide +kernel⟩, List.mem_of_getElem? (i := 1330) (by decide +kernel), List.mem_of_getElem? (i := 1939) (by decide +kernel), List.mem_of_getElem? (i := 1940) (by decide +kernel)⟩
theorem lw_p116 : lw_okq (⟨"ToastMapModel", "wrongLaw", "(II)I"⟩, 46) := ⟨⟨by decide +kernel, by decide +kernel⟩, List.mem_of_getElem? (i := 1330) (by decide +kernel), List.mem_of_getElem? (i := 1947) (by decide +kernel), List.mem_of_getElem? (i := 1948) (by decide +kernel)⟩
theorem lw_p117 : lw_okq (⟨"ToastMapModel", "isLaw", "(III)Z"⟩, 46) := ⟨⟨by decide +kernel, by decide +kernel⟩, List.mem_of_getElem? (i := 1330) (by decide +kernel), List.mem_of_getElem? (i := 1953) (by decide +kernel), List.mem_of_getElem? (i := 1954) (by decide +kernel)⟩
theorem lw_p118 : lw_okq (⟨"ToastMapModel", "errorOf", "(III)J"⟩, 46) := ⟨⟨by decide +kernel, by decide +kernel⟩, List.mem_of_getElem? (i := 1330) (by decide +kernel), List.mem_of_getElem? (i := 1967) (by decide +kernel), List.mem_of_getElem? (i := 1968) (by decide +kernel)⟩
theorem lw_p119 : lw_okq (⟨"ToastMapModel", "atLeast", "(III)J"⟩, 46) := ⟨⟨by decide +kernel, by decide +kernel⟩, List.mem_of_getElem? (i := 1330) (by decide +kernel), List.mem_of_getElem? (i := 1975) (by decide +kernel), List.mem_of_getElem? (i := 1976) (by decide +kernel)⟩
theorem lw_p120 : lw_okq (⟨"ToastMapModel", "playing", "(I)I"⟩, 46) := ⟨⟨by decide +kernel, by decide +kernel⟩, List.mem_of_getElem? (i := 1330) (by decide +kernel), List.mem_of_getElem? (i := 1988) (by decide +kernel), List.mem_of_getElem? (i := 1989) (by decide +kernel)⟩
theorem lw_p121 : lw_okq (⟨"ToastMapModel", "beginsAt", "(I)V"⟩, 46) := ⟨⟨by decide +kernel, by decide +kernel⟩, List.mem_of_getElem? (i := 1330) (by decide +kernel), List.mem_of_getElem? (i := 1992) (by decide +kernel), List.mem_of_getElem? (i := 1993) (by decide +kernel)⟩
theorem lw_p122 : lw_okq (⟨"ToastMapModel", "settlesAt", "(II)V"⟩, 46) := ⟨⟨by decide +kernel, by decide +kernel⟩, List.mem_of_getElem? (i := 1330) (by decide +kernel), List.mem_of_getElem? (i := 1999) (by decide +kernel), List.mem_of_getElem? (i := 2000) (by decide +kernel)⟩
theorem lw_p123 : lw_okq (⟨"ToastMapModel", "lives", "(I)V"⟩, 46) := ⟨⟨by decide +kernel, by decide +kernel⟩, List.mem_of_getElem? (i := 1330) (by decide +kernel), List.mem_of_getElem? (i := 2020) (by decide +kernel), List.mem_of_getElem? (i := 2021) (by decide +kernel)⟩
theorem lw_p124 : lw_okq (⟨"ToastMapModel", "does", "(I)Z"⟩, 46) := ⟨⟨by decide +kernel, by decide +kernel⟩, List.mem_of_getElem? (i := 1330) (by decide +kernel), List.mem_of_getElem? (i := 2024) (by decide +kernel), List.mem_of_getElem? (i := 2025) (by decide +kernel)⟩
theorem lw_p125 : lw_okq (⟨"ToastMapModel", "drinksBy", "(I)Z"⟩, 46) := ⟨⟨by decide +kernel, by decide +kernel⟩, List.mem_of_getElem? (i := 1330) (by decide +kernel), List.mem_of_getElem? (i := 2028) (by decide +kernel), List.mem_of_getElem? (i := 2029) (by decide +kernel)⟩
theorem lw_p126 : lw_okq (⟨"ToastMapModel", "nightsBy", "(I)Z"⟩, 46) := ⟨⟨by decide +kernel, by decide +kernel⟩, List.mem_of_getElem? (i := 1330) (by decide +kernel), List.mem_of_getElem? (i := 2032) (by decide +kernel), List.mem_of_getElem? (i := 2033) (by decide +kernel)⟩
theorem lw_p127 : lw_okq (⟨"ToastMapModel", "eveningsBy", "()Z"⟩, 46) := ⟨⟨by decide +kernel, by decide +kernel⟩, List.mem_of_getElem? (i := 1330) (by decide +kernel), List.mem_of_getElem? (i := 2036) (by decide +kernel), List.mem_of_getElem? (i := 2037) (by decide +kernel)⟩
def lw_privs_8 : List (MethodName × Nat) := [(⟨"ToastMapModel", "mayHave", "(II)Z"⟩, 46), (⟨"ToastMapModel", "counts", "()V"⟩, 46), (⟨"ToastMapModel", "tellsBy", "(JJ)Z"⟩, 46), (⟨"ToastMapModel", "mostAlike", "(I)I"⟩, 46), (⟨"ToastMapModel", "wrongLaw", "(II)I"⟩, 46), (⟨"ToastMapModel", "isLaw", "(III)Z"⟩, 46), (⟨"ToastMapModel", "errorOf", "(III)J"⟩, 46), (⟨"ToastMapModel", "atLeast", "(III)J"⟩, 46), (⟨"ToastMapModel", "playing", "(I)I"⟩, 46), (⟨"ToastMapModel", "beginsAt", "(I)V"⟩, 46), (⟨"ToastMapModel", "settlesAt", "(II)V"⟩, 46), (⟨"ToastMapModel", "lives", "(I)V"⟩, 46), (⟨"ToastMapModel", "does", "(I)Z"⟩, 46), (⟨"ToastMapModel", "drinksBy", "(I)Z"⟩, 46), (⟨"ToastMapModel", "nightsBy", "(I)Z"⟩, 46), (⟨"ToastMapModel", "eveningsBy", "()Z"⟩, 46)]
theorem lw_r8 : ∀ q ∈ lw_privs_8, lw_okq q := List.forall_mem_cons.mpr ⟨lw_p112, List.forall_mem_cons.mpr ⟨lw_p113, List.forall_mem_cons.mpr ⟨lw_p114, List.forall_mem_cons.mpr ⟨lw_p115, List.forall_mem_cons.mpr ⟨lw_p116, List.forall_mem_cons.mpr ⟨lw_p117, List.forall_mem_cons.mpr ⟨lw_p118, List.forall_mem_cons.mpr ⟨lw_p119, List.forall_mem_cons.mpr ⟨lw_p120, List.forall_mem_cons.mpr ⟨lw_p121, List.forall_mem_cons.mpr ⟨lw_p122, List.forall_mem_cons.mpr ⟨lw_p123, List.forall_mem_cons.mpr ⟨lw_p124, List.forall_mem_cons.mpr ⟨lw_p125, List.forall_mem_cons.mpr ⟨lw_p126, List.forall_mem_cons.mpr ⟨lw_p127, fun _ h => absurd h List.not_mem_nil⟩⟩⟩⟩⟩⟩⟩⟩⟩⟩⟩⟩⟩⟩⟩⟩
theorem lw_p128 : lw_okq (⟨"ToastMapModel", "doesAny", "()Z"⟩, 46) := ⟨⟨by decide +kernel, by decide +kernel⟩, List.mem_of_getElem? (i := 1330) (by decide +kernel), List.mem_of_getElem? (i := 2040) (by decide +kernel), List.mem_of_getElem? (i := 2041) (by decide +kernel)⟩
theorem lw_p129 : lw_okq (⟨"ToastMapModel", "draw", "(I)I"⟩, 46) := ⟨⟨by decide +kernel, by decide +kernel⟩, List.mem_of_getElem? (i := 1330) (by decide +kernel), List.mem_of_getElem? (i := 2044) (by decide +kernel), List.mem_of_getElem? (i := 2045) (by decide +kernel)⟩
theorem lw_p130 : lw_okq (⟨"ToastMapModel", "holds", "(I)Z"⟩, 46) := ⟨⟨by decide +kernel, by decide +kernel⟩, List.mem_of_getElem? (i := 1330) (by decide +kernel), List.mem_of_getElem? (i := 2049) (by decide +kernel), List.mem_of_getElem? (i := 2050) (by decide +kernel)⟩
theorem lw_p131 : lw_okq (⟨"ToastMapModel", "behindEnds", "(I)I"⟩, 46) := ⟨⟨by decide +kernel, by decide +kernel⟩, List.mem_of_getElem? (i := 1330) (by decide +kernel), List.mem_of_getElem? (i := 2053) (by decide +kernel), List.mem_of_getElem? (i := 2054) (by decide +kernel)⟩
theorem lw_p132 : lw_okq (⟨"ToastMapModel", "copies", "(II)V"⟩, 46) := ⟨⟨by decide +kernel, by decide +kernel⟩, List.mem_of_getElem? (i := 1330) (by decide +kernel), List.mem_of_getElem? (i := 2069) (by decide +kernel), List.mem_of_getElem? (i := 2070) (by decide +kernel)⟩
def lw_privs_9 : List (MethodName × Nat) := [(⟨"ToastMapModel", "doesAny", "()Z"⟩, 46), (⟨"ToastMapModel", "draw", "(I)I"⟩, 46), (⟨"ToastMapModel", "holds", "(I)Z"⟩, 46), (⟨"ToastMapModel", "behindEnds", "(I)I"⟩, 46), (⟨"ToastMapModel", "copies", "(II)V"⟩, 46)]
theorem lw_r9 : ∀ q ∈ lw_privs_9, lw_okq q := List.forall_mem_cons.mpr ⟨lw_p128, List.forall_mem_cons.mpr ⟨lw_p129, List.forall_mem_cons.mpr ⟨lw_p130, List.forall_mem_cons.mpr ⟨lw_p131, List.forall_mem_cons.mpr ⟨lw_p132, fun _ h => absurd h List.not_mem_nil⟩⟩⟩⟩⟩
def lw_privs : List (MethodName × Nat) := lw_privs_1 ++ (lw_privs_2 ++ (lw_privs_3 ++ (lw_privs_4 ++ (lw_privs_5 ++ (lw_privs_6 ++ (lw_privs_7 ++ (lw_privs_8 ++ (lw_privs_9))))))))
def lw_tbl : List Cond := k2_sels lw_privs ++ tables_1
theorem lw_privs_ok : ∀ q ∈ lw_privs, lw_okq q := by
  show ∀ q ∈ lw_privs_1 ++ (lw_privs_2 ++ (lw_privs_3 ++ (lw_privs_4 ++ (lw_privs_5 ++ (lw_privs_6 ++ (lw_privs_7 ++ (lw_privs_8 ++ (lw_privs_9)))))))), lw_okq q
  exact List.forall_mem_append.mpr ⟨lw_r1, List.forall_mem_append.mpr ⟨lw_r2, List.forall_mem_append.mpr ⟨lw_r3, List.forall_mem_append.mpr ⟨lw_r4, List.forall_mem_append.mpr ⟨lw_r5, List.forall_mem_append.mpr ⟨lw_r6, List.forall_mem_append.mpr ⟨lw_r7, List.forall_mem_append.mpr ⟨lw_r8, lw_r9⟩⟩⟩⟩⟩⟩⟩⟩

def sm_AOA (ty : FieldType) (U : State) : Prop := (Cond.arrayOver (.array ty)).before #[] U = true
theorem sm_AOA.use {ty : FieldType} {A : Array Value} {U : State} (h : sm_AOA ty U) : (Cond.arrayOver (.array ty)).before A U = true := h
/-! ===== BEGIN new T[n][m]: the outer array a place, the inner ones among the pooled ===== -/
/-- f, but v at every address of l -/
def vr_up {α : Type} (f : Nat → α) (l : List Nat) (v : α) : Nat → α := fun a => if a ∈ l then v else f a
theorem vr_up_in {α : Type} {f : Nat → α} {l : List Nat} {v : α} {a : Nat} (h : a ∈ l) : vr_up f l v a = v := if_pos h
theorem vr_up_ne {α : Type} {f : Nat → α} {l : List Nat} {v : α} {a : Nat} (h : a ∉ l) : vr_up f l v a = f a := if_neg h
theorem vr_rows {L l : List Nat} {f : Nat → va_E} {e : va_E} (h : ∀ a, a ∈ l → a ∉ L) : va_pl L f ++ l.map (fun a => (a, e)) = va_pl (L ++ l) (vr_up f l e) := by
  unfold va_pl
  rw [List.map_append]
  congr 1
  · apply List.map_congr_left
    intro a ha
    rw [vr_up_ne (fun q => h a q ha)]
  · apply List.map_congr_left
    intro a ha
    rw [vr_up_in ha]
theorem vr_lay {X rows : va_W} {x : Nat × va_E} {pl : va_W} {D : va_G} {cl : List vw_C} {H : Heap} (hP : va_P D cl (((X ++ pl) ++ [x]) ++ rows) H) : va_P D cl ((X ++ [x]) ++ (pl ++ rows)) H := by
  rw [List.append_assoc (X ++ pl)] at hP
  have h := va_P.swap hP
  rw [← List.append_assoc X] at h
  have h2 := va_P.swap h
  rw [List.append_assoc (X ++ [x])] at h2
  exact h2
theorem vr_layD {X rows : va_W} {x : Nat × va_E} {pl : va_W} {A : Nat → Prop} (hD : va_D A (((X ++ pl) ++ [x]) ++ rows)) : va_D A ((X ++ [x]) ++ (pl ++ rows)) := by
  rw [List.append_assoc (X ++ pl)] at hD
  have h := va_D.swap hD
  rw [← List.append_assoc X] at h
  have h2 := va_D.swap h
  rw [List.append_assoc (X ++ [x])] at h2
  exact h2
theorem vr_outer (c : ClassId) (N h0 : Nat) : ∀ i : Nat, Jvm.Free.Multi.outerC c N h0 i = arrV c N (fun j => va_rf (if j < i then some (h0 + 1 + j) else none))
  | 0 => by
    show ({ cls := c, slots := Array.replicate N .null, vm := .none } : Cell) = _
    rw [arrV_new]
    refine congrArg (arrV c N) (funext fun j => ?_)
    simp [va_rf]
  | i + 1 => by
    show (Jvm.Free.Multi.outerC c N h0 i).setSlot i (.ref (h0 + 1 + i)) = _
    rw [vr_outer c N h0 i, arrV_store]
    refine congrArg (arrV c N) (funext fun j => ?_)
    by_cases e : j = i
    · subst e
      simp [updV, va_rf]
    · by_cases h : j < i
      · simp [updV, e, h, Nat.lt_succ_of_lt h]
      · simp [updV, e, h, show ¬ j < i + 1 by omega]
section VGM
variable {p : Program} {l : Launch} {e : Env} {R : Room} {s : State} {m : MethodId} {args : Array Value} {below : List Frame} {meth : Method} {c : Code} {H : Heap} {locs : List Loc} {cells slots : Nat} {Q : State → Prop}
variable {cc : ByteArray} {pc : Nat} {ls : Array Slot} {rest : List Value} {D : va_G} {cl : List vw_C} {A : Nat → Prop} {a : Nat} {tys : List (ClassId × FieldType)} {ws : va_W} {H0 : Heap}
theorem va_mna {X : va_W} {L : List Nat} {f : Nat → va_E} {cc : ByteArray} (hexec : p.tables.exec = Jvm.exec) (hb : c.code = cc) {own : String} {index : Nat} {ty : FieldType} {cy : ClassId} (hown : s.vm.findClass own = some m.cls) (hclink : (Cond.classLink own index ("[" ++ (FieldType.array ty).toString)).before args s = true) (hover : sm_AOA ty s) (harr : (Cond.arrayClass ty).before args s = true) (hcy : s.vm.findClass (FieldType.array ty).toString = some cy)
    (hK : va_K D cl tys s) (hP : va_P D cl (X ++ va_pl L f) H) (hD : va_D A (X ++ va_pl L f)) (hS : va_S A H0 H locs) (hA : ∀ q, H0.size ≤ q → A q) {n k : Int32} {N' K' : Nat} {z : vp_A} (hn : ¬ n < 0) (hk : ¬ k < 0) (hN : n.toNatClampNeg = N') (hM : k.toNatClampNeg = K')
    (hb1 : N' * 4 ≤ 536870912) (hb2 : K' * componentBytes ty ≤ 536870912) (hb3 : K' ≤ 536870912) (hdf : fits ty (defaultValue ty) = true) (hdd : (defaultValue ty).isDefault = true) (hcells : cells + (1 + N') ≤ R.cells) (hslots : slots + (N' + N' * K') ≤ R.slots) (hz : ∀ c : ClassId, Jvm.Free.Multi.innerC c K' (defaultValue ty) = vp_cell c z) (hdg : decode cc pc = .ok (.multianewarray index 2, 4))
    (kk : ∀ (q : Nat) (r : Nat → Nat) (cA : ClassId) (H1 : Heap), (∀ i j : Nat, i < N' → j < N' → r i = r j → i = j) → (∀ i : Nat, i < N' → r i ∉ L) → va_K D cl (tys ++ [(cA, .array ty)]) s →
      va_P D cl ((X ++ [(q, .inl (cA, N', .inr (.inr (.inr (.inr (fun i => if i < N' then some (r i) else none))))))]) ++ va_pl (L ++ (List.range N').map r) (vr_up f ((List.range N').map r) (.inl (cy, z)))) H1 → va_D A ((X ++ [(q, .inl (cA, N', .inr (.inr (.inr (.inr (fun i => if i < N' then some (r i) else none))))))]) ++ va_pl (L ++ (List.range N').map r) (vr_up f ((List.range N').map r) (.inl (cy, z)))) → va_S A H0 H1 locs →
      W p l e R s m args below meth c H1 locs (cells + 1 + N') (slots + N' + N' * K') Q (F0 m (pc + 4) ls (.ref q :: rest))) : W p l e R s m args below meth c H locs cells slots Q (F0 m pc ls (.int k :: .int n :: rest)) := by
  subst hN
  subst hM
  intro T hT Xs
  obtain ⟨vm₁, cA, comp, -, fA, fC, hO, -, X', step⟩ := Xs.multianewarray2F hexec hown hclink (sm_AOA.use hover) harr (g := F0 m pc ls (.int k :: .int n :: rest)) rfl (by rw [hb]; exact hdg) rfl hn hk hb1 hb2 hb3 hdf hdd hcells hslots
  have ec : some cy = some comp := hcy.symm.trans fC
  cases ec
  generalize hF : Jvm.Free.Multi.fill (T.setVm vm₁) cA cy n.toNatClampNeg k.toNatClampNeg (defaultValue ty) n.toNatClampNeg = F at X' step
  have hTh : (T.setVm vm₁).heap = H := hT
  obtain ⟨f1, f2, -, -⟩ := Jvm.Free.Multi.fill_facts (T.setVm vm₁) cA cy n.toNatClampNeg k.toNatClampNeg (defaultValue ty) n.toNatClampNeg
  rw [hF, hTh] at f1 f2
  have hold : ∀ x : Nat, x < H.size → F.heap[x]? = H[x]? := fun x hx => by
    have := Jvm.Free.Multi.fill_old (T.setVm vm₁) cA cy n.toNatClampNeg k.toNatClampNeg (defaultValue ty) (a := x) (by rw [hTh]; exact hx) n.toNatClampNeg
    rw [hF, hTh] at this
    exact this
  have hrow : ∀ j : Nat, j < n.toNatClampNeg → F.heap[H.size + 1 + j]? = some (vp_cell cy z) := fun j hj => by
    have := Jvm.Free.Multi.fill_inner (T.setVm vm₁) cA cy n.toNatClampNeg k.toNatClampNeg (defaultValue ty) n.toNatClampNeg j hj
    rw [hF, hTh, hz] at this
    exact this
  have hout : Jvm.Free.Multi.outerC cA n.toNatClampNeg H.size n.toNatClampNeg = vp_cell cA (n.toNatClampNeg, .inr (.inr (.inr (.inr (fun i => if i < n.toNatClampNeg then some (H.size + 1 + i) else none))))) := by
    rw [vp_cell_q]
    exact vr_outer cA n.toNatClampNeg H.size n.toNatClampNeg
  rw [hout] at f2
  have hlt : ∀ a, a ∈ L → a < H.size := fun a ha => by
    obtain ⟨k9, hk9⟩ := va_pl_get (X := X) (f := f) ha
    exact (hP k9 _ hk9).lt
  have hnl : ∀ i : Nat, i < n.toNatClampNeg → H.size + 1 + i ∉ L := fun i _ h => by
    have := hlt _ h
    omega
  have hnm : ∀ a, a ∈ (List.range n.toNatClampNeg).map (fun i => H.size + 1 + i) → a ∉ L := fun a ha h => by
    obtain ⟨i, -, rfl⟩ := List.mem_map.mp ha
    have := hlt _ h
    omega
  have hP0 : va_P D cl (X ++ va_pl L f) F.heap := hP.kept (fun k9 x hx => hold x.1 ((hP k9 x hx).lt))
  have hP1 : va_P D cl ((X ++ va_pl L f) ++ [(H.size, .inl (cA, n.toNatClampNeg, .inr (.inr (.inr (.inr (fun i => if i < n.toNatClampNeg then some (H.size + 1 + i) else none))))))]) F.heap := hP0.app (fun k9 x hx => by
    have h0 : k9 < 1 := (List.getElem?_eq_some_iff.mp hx).1
    rw [show k9 = 0 by omega] at hx
    cases hx
    exact f2)
  have hP2 : va_P D cl (((X ++ va_pl L f) ++ [(H.size, .inl (cA, n.toNatClampNeg, .inr (.inr (.inr (.inr (fun i => if i < n.toNatClampNeg then some (H.size + 1 + i) else none))))))]) ++ ((List.range n.toNatClampNeg).map (fun i => H.size + 1 + i)).map (fun a => (a, .inl (cy, z)))) F.heap := hP1.app (fun k9 x hx => by
    obtain ⟨a, ha, rfl⟩ := List.mem_map.mp (List.mem_of_getElem? hx)
    obtain ⟨i, hi, rfl⟩ := List.mem_map.mp ha
    exact hrow i (List.mem_range.mp hi))
  have hD2 : va_D A (((X ++ va_pl L f) ++ [(H.size, .inl (cA, n.toNatClampNeg, .inr (.inr (.inr (.inr (fun i => if i < n.toNatClampNeg then some (H.size + 1 + i) else none))))))]) ++ ((List.range n.toNatClampNeg).map (fun i => H.size + 1 + i)).map (fun a => (a, .inl (cy, z)))) := by
    have hD1 := hD.push (e := .inl (cA, n.toNatClampNeg, .inr (.inr (.inr (.inr (fun i => if i < n.toNatClampNeg then some (H.size + 1 + i) else none)))))) hP rfl (hA _ hS.1)
    generalize hW1 : (X ++ va_pl L f) ++ [(H.size, .inl (cA, n.toNatClampNeg, .inr (.inr (.inr (.inr (fun i => if i < n.toNatClampNeg then some (H.size + 1 + i) else none))))))] = W1 at hD1 hP1 ⊢
    have hle : ∀ (k9 : Nat) (x : Nat × va_E), W1[k9]? = some x → x.1 ≤ H.size := fun k9 x hx => by
      rw [← hW1] at hx
      by_cases hl : k9 < (X ++ va_pl L f).length
      · rw [List.getElem?_append_left hl] at hx
        exact Nat.le_of_lt ((hP k9 x hx).lt)
      · rw [List.getElem?_append_right (by omega)] at hx
        have h0 : k9 - (X ++ va_pl L f).length < 1 := (List.getElem?_eq_some_iff.mp hx).1
        rw [show k9 - (X ++ va_pl L f).length = 0 by omega] at hx
        cases hx
        exact Nat.le_refl _
    have hr : ∀ (k9 : Nat) (x : Nat × va_E), (((List.range n.toNatClampNeg).map (fun i => H.size + 1 + i)).map (fun a => ((a, .inl (cy, z)) : Nat × va_E)))[k9]? = some x → x.1 = H.size + 1 + k9 := fun k9 x hx => by
      rw [List.getElem?_map, List.getElem?_map] at hx
      by_cases h9 : k9 < n.toNatClampNeg
      · rw [List.getElem?_range h9] at hx
        cases hx
        rfl
      · have hn0 : (List.range n.toNatClampNeg)[k9]? = none := List.getElem?_eq_none (by rw [List.length_range]; omega)
        rw [hn0] at hx
        cases hx
    refine ⟨fun i j x y hi hj hxy => ?_, fun k9 x hx => ?_⟩
    · by_cases h1 : i < W1.length <;> by_cases h2 : j < W1.length
      · rw [List.getElem?_append_left h1] at hi
        rw [List.getElem?_append_left h2] at hj
        exact hD1.1 i j x y hi hj hxy
      · rw [List.getElem?_append_left h1] at hi
        rw [List.getElem?_append_right (by omega)] at hj
        have := hle _ _ hi
        have := hr _ _ hj
        omega
      · rw [List.getElem?_append_right (by omega)] at hi
        rw [List.getElem?_append_left h2] at hj
        have := hle _ _ hj
        have := hr _ _ hi
        omega
      · rw [List.getElem?_append_right (by omega)] at hi hj
        have := hr _ _ hi
        have := hr _ _ hj
        omega
    · by_cases h1 : k9 < W1.length
      · rw [List.getElem?_append_left h1] at hx
        exact hD1.2 k9 x hx
      · rw [List.getElem?_append_right (by omega)] at hx
        have := hr _ _ hx
        exact hA _ (by have := hS.1; omega)
  have hAr : ArrOfT s cA (.array ty) := fun N9 z9 => by
    obtain ⟨-, k9, hk9, cm9, hkk9⟩ := (hO 0 0 0).1
    exact ⟨(fun q hq => by cases hq), k9, hk9, cm9, hkk9⟩
  have hK2 : va_K D cl (tys ++ [(cA, .array ty)]) s := ⟨hK.1, fun k9 x hx => by
    by_cases hl : k9 < tys.length
    · rw [List.getElem?_append_left hl] at hx
      exact hK.2 k9 x hx
    · rw [List.getElem?_append_right (by omega)] at hx
      have h0 : k9 - tys.length < 1 := (List.getElem?_eq_some_iff.mp hx).1
      rw [show k9 - tys.length = 0 by omega] at hx
      cases hx
      exact ⟨hAr, fA⟩⟩
  obtain ⟨t, a1, b1⟩ := kk H.size (fun i => H.size + 1 + i) cA F.heap (fun i j _ _ h => by have h9 : H.size + 1 + i = H.size + 1 + j := h; omega) hnl hK2 (by rw [← vr_rows hnm]; exact vr_lay hP2) (by rw [← vr_rows hnm]; exact vr_layD hD2) ⟨by rw [f1]; have := hS.1; omega, fun x h1 h2 => (hold x (Nat.lt_of_lt_of_le h1 hS.1)).trans (hS.2.1 x h1 h2), hS.2.2⟩ F rfl X'
  refine ⟨t, step t ?_, b1⟩
  have e : T.heap.size = H.size := by rw [hT]
  rw [e]
  exact a1
end VGM
/-! ===== END ===== -/
def RX0 : String := "ToastMap$Company"
def TX0 : u_T := fun k => match k with
  | 0 => ("ToastMap$Company", "count", "I", false)
  | 1 => ("ToastMap$Company", "night", "I", false)
  | 2 => ("ToastMap$Company", "rules", "[I", true)
  | 3 => ("ToastMap$Company", "place", "[I", true)
  | 4 => ("ToastMap$Company", "meant", "[I", true)
  | 5 => ("ToastMap$Company", "warmth", "[I", true)
  | 6 => ("ToastMap$Company", "glasses", "[I", true)
  | 7 => ("ToastMap$Company", "whom", "[I", true)
  | 8 => ("ToastMap$Company", "names", "[J", true)
  | _ => ("ToastMap$Company", "sums", "[I", true)
def tyX0 : Nat → FieldType := fun k => match k with
  | 0 => .int
  | 1 => .int
  | 2 => .array .int
  | 3 => .array .int
  | 4 => .array .int
  | 5 => .array .int
  | 6 => .array .int
  | 7 => .array .int
  | 8 => .array .long
  | _ => .array .int
abbrev wsX00 : List Cond := u_ws RX0 TX0 10
theorem nmX0 : ∀ a, a < 10 → ∀ b, b < 10 → a ≠ b → (TX0 a).2.1 ≠ (TX0 b).2.1 := by decide +kernel
theorem tyX0_ok : ∀ k, k < 10 → parseFieldDescriptor (TX0 k).2.2.1 = some (tyX0 k) := by decide +kernel
abbrev cX0_init : ByteArray := prog_2_method_1_code
def yX0_init : MethodName := ⟨RX0, "<init>", "()V"⟩
abbrev cX0_clear : ByteArray := prog_2_method_2_code
def yX0_clear : MethodName := ⟨RX0, "clear", "()V"⟩
abbrev cX0_takeFrom : ByteArray := prog_2_method_3_code
def yX0_takeFrom : MethodName := ⟨RX0, "takeFrom", "(LToastMap$Company;)V"⟩
abbrev cX0_has : ByteArray := prog_2_method_4_code
def yX0_has : MethodName := ⟨RX0, "has", "(I)Z"⟩
abbrev cX0_isFull : ByteArray := prog_2_method_5_code
def yX0_isFull : MethodName := ⟨RX0, "isFull", "()Z"⟩
abbrev cX0_add : ByteArray := prog_2_method_6_code
def yX0_add : MethodName := ⟨RX0, "add", "(IJ)I"⟩
abbrev cX0_named : ByteArray := prog_2_method_7_code
def yX0_named : MethodName := ⟨RX0, "named", "(J)I"⟩
abbrev cX0_hasWhom : ByteArray := prog_2_method_8_code
def yX0_hasWhom : MethodName := ⟨RX0, "hasWhom", "(I)Z"⟩
abbrev cX0_apart : ByteArray := prog_2_method_9_code
def yX0_apart : MethodName := ⟨RX0, "apart", "(II)I"⟩
abbrev cX0_warmOf : ByteArray := prog_2_method_10_code
def yX0_warmOf : MethodName := ⟨RX0, "warmOf", "(I)I"⟩
abbrev cX0_isLit : ByteArray := prog_2_method_11_code
def yX0_isLit : MethodName := ⟨RX0, "isLit", "(I)Z"⟩
abbrev cX0_litSet : ByteArray := prog_2_method_12_code
def yX0_litSet : MethodName := ⟨RX0, "litSet", "()I"⟩
abbrev cX0_toastingSet : ByteArray := prog_2_method_13_code
def yX0_toastingSet : MethodName := ⟨RX0, "toastingSet", "()I"⟩
abbrev cX0_warmersOf : ByteArray := prog_2_method_14_code
def yX0_warmersOf : MethodName := ⟨RX0, "warmersOf", "(I)I"⟩
abbrev cX0_allWarmth : ByteArray := prog_2_method_15_code
def yX0_allWarmth : MethodName := ⟨RX0, "allWarmth", "()I"⟩
abbrev cX0_allGlasses : ByteArray := prog_2_method_16_code
def yX0_allGlasses : MethodName := ⟨RX0, "allGlasses", "()I"⟩
abbrev cX0_warmthAsOne : ByteArray := prog_2_method_17_code
def yX0_warmthAsOne : MethodName := ⟨RX0, "warmthAsOne", "()J"⟩
abbrev cX0_canDrink : ByteArray := prog_2_method_18_code
def yX0_canDrink : MethodName := ⟨RX0, "canDrink", "(I)Z"⟩
abbrev cX0_letDrink : ByteArray := prog_2_method_19_code
def yX0_letDrink : MethodName := ⟨RX0, "letDrink", "(I)I"⟩
abbrev cX0_hasNights : ByteArray := prog_2_method_20_code
def yX0_hasNights : MethodName := ⟨RX0, "hasNights", "(I)Z"⟩
abbrev cX0_warmthIn : ByteArray := prog_2_method_21_code
def yX0_warmthIn : MethodName := ⟨RX0, "warmthIn", "(II)I"⟩
abbrev cX0_passNights : ByteArray := prog_2_method_22_code
def yX0_passNights : MethodName := ⟨RX0, "passNights", "(I)V"⟩
abbrev cX0_passEvening : ByteArray := prog_2_method_23_code
def yX0_passEvening : MethodName := ⟨RX0, "passEvening", "(I)I"⟩
abbrev cX0_chainLength : ByteArray := prog_2_method_24_code
def yX0_chainLength : MethodName := ⟨RX0, "chainLength", "(I)I"⟩
abbrev cX0_alongChain : ByteArray := prog_2_method_25_code
def yX0_alongChain : MethodName := ⟨RX0, "alongChain", "(II)I"⟩
abbrev cX0_isInRing : ByteArray := prog_2_method_26_code
def yX0_isInRing : MethodName := ⟨RX0, "isInRing", "(I)Z"⟩
abbrev cX0_leadsRing : ByteArray := prog_2_method_27_code
def yX0_leadsRing : MethodName := ⟨RX0, "leadsRing", "(I)Z"⟩
abbrev cX0_drinksTo : ByteArray := prog_2_method_28_code
def yX0_drinksTo : MethodName := ⟨RX0, "drinksTo", "(I)I"⟩
abbrev cX0_warmestOf : ByteArray := prog_2_method_29_code
def yX0_warmestOf : MethodName := ⟨RX0, "warmestOf", "(I)I"⟩
abbrev cX0_mostLit : ByteArray := prog_2_method_30_code
def yX0_mostLit : MethodName := ⟨RX0, "mostLit", "(I)I"⟩
abbrev cX0_canAllBeLit : ByteArray := prog_2_method_31_code
def yX0_canAllBeLit : MethodName := ⟨RX0, "canAllBeLit", "(II)Z"⟩
def RX1 : String := "ToastMap$Game"
def TX1 : u_T := fun k => match k with
  | 0 => ("ToastMap$Game", "table", "LToastMap$Company;", true)
  | 1 => ("ToastMap$Game", "turns", "I", false)
  | 2 => ("ToastMap$Game", "worth", "I", false)
  | _ => ("ToastMap$Game", "move", "I", false)
def tyX1 : Nat → FieldType := fun k => match k with
  | 0 => .object "ToastMap$Company"
  | 1 => .int
  | 2 => .int
  | _ => .int
abbrev wsX10 : List Cond := u_ws RX1 TX1 4
theorem nmX1 : ∀ a, a < 4 → ∀ b, b < 4 → a ≠ b → (TX1 a).2.1 ≠ (TX1 b).2.1 := by decide +kernel
theorem tyX1_ok : ∀ k, k < 4 → parseFieldDescriptor (TX1 k).2.2.1 = some (tyX1 k) := by decide +kernel
abbrev cX1_init : ByteArray := prog_3_method_1_code
def yX1_init : MethodName := ⟨RX1, "<init>", "()V"⟩
abbrev cX1_worth : ByteArray := prog_3_method_2_code
def yX1_worth : MethodName := ⟨RX1, "worth", "()I"⟩
abbrev cX1_firstMove : ByteArray := prog_3_method_3_code
def yX1_firstMove : MethodName := ⟨RX1, "firstMove", "()I"⟩
abbrev cX1_playOut : ByteArray := prog_3_method_4_code
def yX1_playOut : MethodName := ⟨RX1, "playOut", "(LToastMap$Company;I)V"⟩
abbrev cX1_litCount : ByteArray := prog_3_method_5_code
def yX1_litCount : MethodName := ⟨RX1, "litCount", "()I"⟩
abbrev cX1_butler : ByteArray := prog_3_method_6_code
def yX1_butler : MethodName := ⟨RX1, "butler", "(III)I"⟩
abbrev cX1_behindDrink : ByteArray := prog_3_method_7_code
def yX1_behindDrink : MethodName := ⟨RX1, "behindDrink", "(IIII)I"⟩
abbrev cX1_draught : ByteArray := prog_3_method_8_code
def yX1_draught : MethodName := ⟨RX1, "draught", "(III)I"⟩
def RX2 : String := "ToastMap$Glasses"
def TX2 : u_T := fun k => match k with
  | 0 => ("ToastMap$Glasses", "counts", "[J", true)
  | _ => ("ToastMap$Glasses", "glasses", "I", false)
def tyX2 : Nat → FieldType := fun k => match k with
  | 0 => .array .long
  | _ => .int
abbrev wsX20 : List Cond := u_ws RX2 TX2 2
theorem nmX2 : ∀ a, a < 2 → ∀ b, b < 2 → a ≠ b → (TX2 a).2.1 ≠ (TX2 b).2.1 := by decide +kernel
theorem tyX2_ok : ∀ k, k < 2 → parseFieldDescriptor (TX2 k).2.2.1 = some (tyX2 k) := by decide +kernel
abbrev cX2_init : ByteArray := prog_4_method_1_code
def yX2_init : MethodName := ⟨RX2, "<init>", "()V"⟩
abbrev cX2_taste : ByteArray := prog_4_method_2_code
def yX2_taste : MethodName := ⟨RX2, "taste", "(II)V"⟩
abbrev cX2_all : ByteArray := prog_4_method_3_code
def yX2_all : MethodName := ⟨RX2, "all", "()J"⟩
abbrev cX2_below : ByteArray := prog_4_method_4_code
def yX2_below : MethodName := ⟨RX2, "below", "(I)J"⟩
abbrev cX2_from : ByteArray := prog_4_method_5_code
def yX2_from : MethodName := ⟨RX2, "from", "(I)J"⟩
def RX3 : String := "ToastMap$Living"
def TX3 : u_T := fun k => match k with
  | 0 => ("ToastMap$Living", "turnsLeft", "[I", true)
  | 1 => ("ToastMap$Living", "drawn", "I", false)
  | 2 => ("ToastMap$Living", "stepsDone", "I", false)
  | 3 => ("ToastMap$Living", "missed", "I", false)
  | 4 => ("ToastMap$Living", "nights", "I", false)
  | 5 => ("ToastMap$Living", "drinks", "I", false)
  | 6 => ("ToastMap$Living", "evenings", "I", false)
  | _ => ("ToastMap$Living", "wasCut", "Z", false)
def tyX3 : Nat → FieldType := fun k => match k with
  | 0 => .array .int
  | 1 => .int
  | 2 => .int
  | 3 => .int
  | 4 => .int
  | 5 => .int
  | 6 => .int
  | _ => .boolean
abbrev wsX30 : List Cond := u_ws RX3 TX3 8
theorem nmX3 : ∀ a, a < 8 → ∀ b, b < 8 → a ≠ b → (TX3 a).2.1 ≠ (TX3 b).2.1 := by decide +kernel
theorem tyX3_ok : ∀ k, k < 8 → parseFieldDescriptor (TX3 k).2.2.1 = some (tyX3 k) := by decide +kernel
abbrev cX3_init : ByteArray := prog_5_method_1_code
def yX3_init : MethodName := ⟨RX3, "<init>", "()V"⟩
abbrev cX3_runThrough : ByteArray := prog_5_method_2_code
def yX3_runThrough : MethodName := ⟨RX3, "runThrough", "(LToastMap$Company;LToastMap$Times;I)V"⟩
abbrev cX3_behindEnd : ByteArray := prog_5_method_3_code
def yX3_behindEnd : MethodName := ⟨RX3, "behindEnd", "(LToastMap$Times;I)I"⟩
abbrev cX3_behindStep : ByteArray := prog_5_method_4_code
def yX3_behindStep : MethodName := ⟨RX3, "behindStep", "(LToastMap$Company;LToastMap$Times;I)I"⟩
abbrev cX3_liveDrink : ByteArray := prog_5_method_5_code
def yX3_liveDrink : MethodName := ⟨RX3, "liveDrink", "(LToastMap$Company;I)V"⟩
abbrev cX3_liveNights : ByteArray := prog_5_method_6_code
def yX3_liveNights : MethodName := ⟨RX3, "liveNights", "(LToastMap$Company;I)V"⟩
abbrev cX3_liveEvening : ByteArray := prog_5_method_7_code
def yX3_liveEvening : MethodName := ⟨RX3, "liveEvening", "(LToastMap$Company;)V"⟩
abbrev cX3_liveFill : ByteArray := prog_5_method_8_code
def yX3_liveFill : MethodName := ⟨RX3, "liveFill", "(LToastMap$Company;II)V"⟩
abbrev cX3_liveAny : ByteArray := prog_5_method_9_code
def yX3_liveAny : MethodName := ⟨RX3, "liveAny", "(LToastMap$Company;)V"⟩
abbrev cX3_drawBy : ByteArray := prog_5_method_10_code
def yX3_drawBy : MethodName := ⟨RX3, "drawBy", "(I)I"⟩
abbrev cX3_holds : ByteArray := prog_5_method_11_code
def yX3_holds : MethodName := ⟨RX3, "holds", "(LToastMap$Company;LToastMap$Times;I)Z"⟩
def RX4 : String := "ToastMap$MapReader"
def TX4 : u_T := fun k => match k with
  | 0 => ("ToastMap$MapReader", "tape", "LToastMap$Tape;", true)
  | 1 => ("ToastMap$MapReader", "company", "LToastMap$Company;", true)
  | _ => ("ToastMap$MapReader", "rulesTold", "I", false)
def tyX4 : Nat → FieldType := fun k => match k with
  | 0 => .object "ToastMap$Tape"
  | 1 => .object "ToastMap$Company"
  | _ => .int
abbrev wsX40 : List Cond := u_ws RX4 TX4 3
theorem nmX4 : ∀ a, a < 3 → ∀ b, b < 3 → a ≠ b → (TX4 a).2.1 ≠ (TX4 b).2.1 := by decide +kernel
theorem tyX4_ok : ∀ k, k < 3 → parseFieldDescriptor (TX4 k).2.2.1 = some (tyX4 k) := by decide +kernel
abbrev cX4_init : ByteArray := prog_6_method_1_code
def yX4_init : MethodName := ⟨RX4, "<init>", "(LToastMap$Tape;)V"⟩
abbrev cX4_draft : ByteArray := prog_6_method_2_code
def yX4_draft : MethodName := ⟨RX4, "draft", "()LToastMap$Company;"⟩
abbrev cX4_readMap : ByteArray := prog_6_method_3_code
def yX4_readMap : MethodName := ⟨RX4, "readMap", "(I)Z"⟩
abbrev cX4_readPart : ByteArray := prog_6_method_4_code
def yX4_readPart : MethodName := ⟨RX4, "readPart", "()Z"⟩
abbrev cX4_readRule : ByteArray := prog_6_method_5_code
def yX4_readRule : MethodName := ⟨RX4, "readRule", "(I)Z"⟩
abbrev cX4_readPerson : ByteArray := prog_6_method_6_code
def yX4_readPerson : MethodName := ⟨RX4, "readPerson", "()Z"⟩
abbrev cX4_readPerhaps : ByteArray := prog_6_method_7_code
def yX4_readPerhaps : MethodName := ⟨RX4, "readPerhaps", "(I[III)Z"⟩
abbrev cX4_readToast : ByteArray := prog_6_method_8_code
def yX4_readToast : MethodName := ⟨RX4, "readToast", "()Z"⟩
def RX5 : String := "ToastMap$Marks"
def TX5 : u_T := fun k => match k with
  | 0 => ("ToastMap$Marks", "companies", "[LToastMap$Company;", true)
  | 1 => ("ToastMap$Marks", "times", "[LToastMap$Times;", true)
  | _ => ("ToastMap$Marks", "count", "I", false)
def tyX5 : Nat → FieldType := fun k => match k with
  | 0 => .array (.object "ToastMap$Company")
  | 1 => .array (.object "ToastMap$Times")
  | _ => .int
abbrev wsX50 : List Cond := u_ws RX5 TX5 3
theorem nmX5 : ∀ a, a < 3 → ∀ b, b < 3 → a ≠ b → (TX5 a).2.1 ≠ (TX5 b).2.1 := by decide +kernel
theorem tyX5_ok : ∀ k, k < 3 → parseFieldDescriptor (TX5 k).2.2.1 = some (tyX5 k) := by decide +kernel
abbrev cX5_init : ByteArray := prog_7_method_1_code
def yX5_init : MethodName := ⟨RX5, "<init>", "()V"⟩
abbrev cX5_isFull : ByteArray := prog_7_method_2_code
def yX5_isFull : MethodName := ⟨RX5, "isFull", "()Z"⟩
abbrev cX5_isEmpty : ByteArray := prog_7_method_3_code
def yX5_isEmpty : MethodName := ⟨RX5, "isEmpty", "()Z"⟩
abbrev cX5_keep : ByteArray := prog_7_method_4_code
def yX5_keep : MethodName := ⟨RX5, "keep", "(LToastMap$Company;LToastMap$Times;)I"⟩
abbrev cX5_giveBack : ByteArray := prog_7_method_5_code
def yX5_giveBack : MethodName := ⟨RX5, "giveBack", "(LToastMap$Company;LToastMap$Times;)I"⟩
def RX6 : String := "ToastMap$Tape"
def TX6 : u_T := fun k => match k with
  | 0 => ("ToastMap$Tape", "bytes", "[B", true)
  | 1 => ("ToastMap$Tape", "words", "[J", true)
  | 2 => ("ToastMap$Tape", "many", "I", false)
  | 3 => ("ToastMap$Tape", "textLength", "I", false)
  | 4 => ("ToastMap$Tape", "next", "I", false)
  | 5 => ("ToastMap$Tape", "kind", "I", false)
  | 6 => ("ToastMap$Tape", "start", "I", false)
  | 7 => ("ToastMap$Tape", "number", "I", false)
  | 8 => ("ToastMap$Tape", "sign", "I", false)
  | 9 => ("ToastMap$Tape", "word", "I", false)
  | 10 => ("ToastMap$Tape", "letters", "J", false)
  | 11 => ("ToastMap$Tape", "faultKind", "I", false)
  | _ => ("ToastMap$Tape", "faultPlace", "I", false)
def tyX6 : Nat → FieldType := fun k => match k with
  | 0 => .array .byte
  | 1 => .array .long
  | 2 => .int
  | 3 => .int
  | 4 => .int
  | 5 => .int
  | 6 => .int
  | 7 => .int
  | 8 => .int
  | 9 => .int
  | 10 => .long
  | 11 => .int
  | _ => .int
abbrev wsX60 : List Cond := u_ws RX6 TX6 13
theorem nmX6 : ∀ a, a < 13 → ∀ b, b < 13 → a ≠ b → (TX6 a).2.1 ≠ (TX6 b).2.1 := by decide +kernel
theorem tyX6_ok : ∀ k, k < 13 → parseFieldDescriptor (TX6 k).2.2.1 = some (tyX6 k) := by decide +kernel
abbrev cX6_init : ByteArray := prog_8_method_1_code
def yX6_init : MethodName := ⟨RX6, "<init>", "()V"⟩
abbrev cX6_length : ByteArray := prog_8_method_2_code
def yX6_length : MethodName := ⟨RX6, "length", "()I"⟩
abbrev cX6_faultKind : ByteArray := prog_8_method_3_code
def yX6_faultKind : MethodName := ⟨RX6, "faultKind", "()I"⟩
abbrev cX6_faultPlace : ByteArray := prog_8_method_4_code
def yX6_faultPlace : MethodName := ⟨RX6, "faultPlace", "()I"⟩
abbrev cX6_hasRoom : ByteArray := prog_8_method_5_code
def yX6_hasRoom : MethodName := ⟨RX6, "hasRoom", "(I)Z"⟩
abbrev cX6_append : ByteArray := prog_8_method_6_code
def yX6_append : MethodName := ⟨RX6, "append", "(I)V"⟩
abbrev cX6_empty : ByteArray := prog_8_method_7_code
def yX6_empty : MethodName := ⟨RX6, "empty", "()V"⟩
abbrev cX6_begin : ByteArray := prog_8_method_8_code
def yX6_begin : MethodName := ⟨RX6, "begin", "(I)V"⟩
abbrev cX6_isAtEnd : ByteArray := prog_8_method_9_code
def yX6_isAtEnd : MethodName := ⟨RX6, "isAtEnd", "()Z"⟩
abbrev cX6_isAtCompares : ByteArray := prog_8_method_10_code
def yX6_isAtCompares : MethodName := ⟨RX6, "isAtCompares", "()Z"⟩
abbrev cX6_sign : ByteArray := prog_8_method_11_code
def yX6_sign : MethodName := ⟨RX6, "sign", "()I"⟩
abbrev cX6_number : ByteArray := prog_8_method_12_code
def yX6_number : MethodName := ⟨RX6, "number", "()I"⟩
abbrev cX6_object : ByteArray := prog_8_method_13_code
def yX6_object : MethodName := ⟨RX6, "object", "(I)Z"⟩
abbrev cX6_passWord : ByteArray := prog_8_method_14_code
def yX6_passWord : MethodName := ⟨RX6, "passWord", "(I)Z"⟩
abbrev cX6_passSemicolon : ByteArray := prog_8_method_15_code
def yX6_passSemicolon : MethodName := ⟨RX6, "passSemicolon", "()Z"⟩
abbrev cX6_isNumber : ByteArray := prog_8_method_16_code
def yX6_isNumber : MethodName := ⟨RX6, "isNumber", "(II)Z"⟩
abbrev cX6_whoIsNamed : ByteArray := prog_8_method_17_code
def yX6_whoIsNamed : MethodName := ⟨RX6, "whoIsNamed", "(LToastMap$Company;)I"⟩
abbrev cX6_step : ByteArray := prog_8_method_18_code
def yX6_step : MethodName := ⟨RX6, "step", "()V"⟩
abbrev cX6_stepWord : ByteArray := prog_8_method_19_code
def yX6_stepWord : MethodName := ⟨RX6, "stepWord", "()V"⟩
abbrev cX6_stepNumber : ByteArray := prog_8_method_20_code
def yX6_stepNumber : MethodName := ⟨RX6, "stepNumber", "()V"⟩
abbrev cX6_wordOf : ByteArray := prog_8_method_21_code
def yX6_wordOf : MethodName := ⟨RX6, "wordOf", "(J)I"⟩
abbrev cX6_withLetter : ByteArray := prog_8_method_22_code
def yX6_withLetter : MethodName := ⟨RX6, "withLetter", "(JI)J"⟩
abbrev cX6_isBlank : ByteArray := prog_8_method_23_code
def yX6_isBlank : MethodName := ⟨RX6, "isBlank", "(B)Z"⟩
abbrev cX6_isLetter : ByteArray := prog_8_method_24_code
def yX6_isLetter : MethodName := ⟨RX6, "isLetter", "(B)Z"⟩
abbrev cX6_isDigit : ByteArray := prog_8_method_25_code
def yX6_isDigit : MethodName := ⟨RX6, "isDigit", "(B)Z"⟩
abbrev cX6_isSign : ByteArray := prog_8_method_26_code
def yX6_isSign : MethodName := ⟨RX6, "isSign", "(B)Z"⟩
def RX7 : String := "ToastMap$Times"
def TX7 : u_T := fun k => match k with
  | 0 => ("ToastMap$Times", "words", "[I", true)
  | 1 => ("ToastMap$Times", "people", "[I", true)
  | 2 => ("ToastMap$Times", "tests", "[I", true)
  | 3 => ("ToastMap$Times", "signs", "[I", true)
  | 4 => ("ToastMap$Times", "numbers", "[I", true)
  | 5 => ("ToastMap$Times", "partners", "[I", true)
  | 6 => ("ToastMap$Times", "rowCount", "I", false)
  | 7 => ("ToastMap$Times", "stepCount", "I", false)
  | _ => ("ToastMap$Times", "isThere", "Z", false)
def tyX7 : Nat → FieldType := fun k => match k with
  | 0 => .array .int
  | 1 => .array .int
  | 2 => .array .int
  | 3 => .array .int
  | 4 => .array .int
  | 5 => .array .int
  | 6 => .int
  | 7 => .int
  | _ => .boolean
abbrev wsX70 : List Cond := u_ws RX7 TX7 9
theorem nmX7 : ∀ a, a < 9 → ∀ b, b < 9 → a ≠ b → (TX7 a).2.1 ≠ (TX7 b).2.1 := by decide +kernel
theorem tyX7_ok : ∀ k, k < 9 → parseFieldDescriptor (TX7 k).2.2.1 = some (tyX7 k) := by decide +kernel
abbrev cX7_init : ByteArray := prog_9_method_1_code
def yX7_init : MethodName := ⟨RX7, "<init>", "()V"⟩
abbrev cX7_forget : ByteArray := prog_9_method_2_code
def yX7_forget : MethodName := ⟨RX7, "forget", "()V"⟩
abbrev cX7_add : ByteArray := prog_9_method_3_code
def yX7_add : MethodName := ⟨RX7, "add", "(I)I"⟩
abbrev cX7_takeFrom : ByteArray := prog_9_method_4_code
def yX7_takeFrom : MethodName := ⟨RX7, "takeFrom", "(LToastMap$Times;)V"⟩
def RX8 : String := "ToastMap$TimesReader"
def TX8 : u_T := fun k => match k with
  | 0 => ("ToastMap$TimesReader", "tape", "LToastMap$Tape;", true)
  | 1 => ("ToastMap$TimesReader", "times", "LToastMap$Times;", true)
  | 2 => ("ToastMap$TimesReader", "open", "[I", true)
  | _ => ("ToastMap$TimesReader", "depth", "I", false)
def tyX8 : Nat → FieldType := fun k => match k with
  | 0 => .object "ToastMap$Tape"
  | 1 => .object "ToastMap$Times"
  | 2 => .array .int
  | _ => .int
abbrev wsX80 : List Cond := u_ws RX8 TX8 4
theorem nmX8 : ∀ a, a < 4 → ∀ b, b < 4 → a ≠ b → (TX8 a).2.1 ≠ (TX8 b).2.1 := by decide +kernel
theorem tyX8_ok : ∀ k, k < 4 → parseFieldDescriptor (TX8 k).2.2.1 = some (tyX8 k) := by decide +kernel
abbrev cX8_init : ByteArray := prog_10_method_1_code
def yX8_init : MethodName := ⟨RX8, "<init>", "(LToastMap$Tape;)V"⟩
abbrev cX8_draft : ByteArray := prog_10_method_2_code
def yX8_draft : MethodName := ⟨RX8, "draft", "()LToastMap$Times;"⟩
abbrev cX8_readTimes : ByteArray := prog_10_method_3_code
def yX8_readTimes : MethodName := ⟨RX8, "readTimes", "(ILToastMap$Company;)Z"⟩
abbrev cX8_readStep : ByteArray := prog_10_method_4_code
def yX8_readStep : MethodName := ⟨RX8, "readStep", "(LToastMap$Company;)Z"⟩
abbrev cX8_readEnd : ByteArray := prog_10_method_5_code
def yX8_readEnd : MethodName := ⟨RX8, "readEnd", "()Z"⟩
abbrev cX8_readTest : ByteArray := prog_10_method_6_code
def yX8_readTest : MethodName := ⟨RX8, "readTest", "(ILToastMap$Company;)Z"⟩
abbrev cX8_readWho : ByteArray := prog_10_method_7_code
def yX8_readWho : MethodName := ⟨RX8, "readWho", "(ILToastMap$Company;)Z"⟩
abbrev cX8_readCompares : ByteArray := prog_10_method_8_code
def yX8_readCompares : MethodName := ⟨RX8, "readCompares", "(I)Z"⟩
abbrev cX8_readAmount : ByteArray := prog_10_method_9_code
def yX8_readAmount : MethodName := ⟨RX8, "readAmount", "(III)Z"⟩
def RX9 : String := "ToastMap$Trays"
def TX9 : u_T := fun k => match k with
  | 0 => ("ToastMap$Trays", "rows", "[[J", true)
  | 1 => ("ToastMap$Trays", "sorts", "[I", true)
  | _ => ("ToastMap$Trays", "lengths", "[I", true)
def tyX9 : Nat → FieldType := fun k => match k with
  | 0 => .array (.array .long)
  | 1 => .array .int
  | _ => .array .int
abbrev wsX90 : List Cond := u_ws RX9 TX9 3
theorem nmX9 : ∀ a, a < 3 → ∀ b, b < 3 → a ≠ b → (TX9 a).2.1 ≠ (TX9 b).2.1 := by decide +kernel
theorem tyX9_ok : ∀ k, k < 3 → parseFieldDescriptor (TX9 k).2.2.1 = some (tyX9 k) := by decide +kernel
abbrev cX9_init : ByteArray := prog_11_method_1_code
def yX9_init : MethodName := ⟨RX9, "<init>", "()V"⟩
abbrev cX9_isTray : ByteArray := prog_11_method_2_code
def yX9_isTray : MethodName := ⟨RX9, "isTray", "(I)Z"⟩
abbrev cX9_isSort : ByteArray := prog_11_method_3_code
def yX9_isSort : MethodName := ⟨RX9, "isSort", "(I)Z"⟩
abbrev cX9_isMissing : ByteArray := prog_11_method_4_code
def yX9_isMissing : MethodName := ⟨RX9, "isMissing", "(I)Z"⟩
abbrev cX9_length : ByteArray := prog_11_method_5_code
def yX9_length : MethodName := ⟨RX9, "length", "(I)I"⟩
abbrev cX9_sort : ByteArray := prog_11_method_6_code
def yX9_sort : MethodName := ⟨RX9, "sort", "(I)I"⟩
abbrev cX9_has : ByteArray := prog_11_method_7_code
def yX9_has : MethodName := ⟨RX9, "has", "(III)Z"⟩
abbrev cX9_lay : ByteArray := prog_11_method_8_code
def yX9_lay : MethodName := ⟨RX9, "lay", "(III)V"⟩
abbrev cX9_at : ByteArray := prog_11_method_9_code
def yX9_at : MethodName := ⟨RX9, "at", "(II)J"⟩
abbrev cX9_put : ByteArray := prog_11_method_10_code
def yX9_put : MethodName := ⟨RX9, "put", "(IIJ)V"⟩
abbrev cX9_copy : ByteArray := prog_11_method_11_code
def yX9_copy : MethodName := ⟨RX9, "copy", "(IIIII)V"⟩
abbrev cX9_cutTo : ByteArray := prog_11_method_12_code
def yX9_cutTo : MethodName := ⟨RX9, "cutTo", "(IJ)J"⟩
def RX10 : String := "ToastMap$Ways"
def TX10 : u_T := fun k => match k with
  | 0 => ("ToastMap$Ways", "allowed", "[I", true)
  | 1 => ("ToastMap$Ways", "ahead", "[I", true)
  | 2 => ("ToastMap$Ways", "behind", "[I", true)
  | 3 => ("ToastMap$Ways", "count", "I", false)
  | _ => ("ToastMap$Ways", "full", "I", false)
def tyX10 : Nat → FieldType := fun k => match k with
  | 0 => .array .int
  | 1 => .array .int
  | 2 => .array .int
  | 3 => .int
  | _ => .int
abbrev wsX100 : List Cond := u_ws RX10 TX10 5
theorem nmX10 : ∀ a, a < 5 → ∀ b, b < 5 → a ≠ b → (TX10 a).2.1 ≠ (TX10 b).2.1 := by decide +kernel
theorem tyX10_ok : ∀ k, k < 5 → parseFieldDescriptor (TX10 k).2.2.1 = some (tyX10 k) := by decide +kernel
abbrev cX10_init : ByteArray := prog_12_method_1_code
def yX10_init : MethodName := ⟨RX10, "<init>", "()V"⟩
abbrev cX10_begin : ByteArray := prog_12_method_2_code
def yX10_begin : MethodName := ⟨RX10, "begin", "(I)V"⟩
abbrev cX10_seen : ByteArray := prog_12_method_3_code
def yX10_seen : MethodName := ⟨RX10, "seen", "(II)V"⟩
abbrev cX10_countAll : ByteArray := prog_12_method_4_code
def yX10_countAll : MethodName := ⟨RX10, "countAll", "()V"⟩
abbrev cX10_spread : ByteArray := prog_12_method_5_code
def yX10_spread : MethodName := ⟨RX10, "spread", "(I)V"⟩
abbrev cX10_gather : ByteArray := prog_12_method_6_code
def yX10_gather : MethodName := ⟨RX10, "gather", "(I)V"⟩
abbrev cX10_isOpen : ByteArray := prog_12_method_7_code
def yX10_isOpen : MethodName := ⟨RX10, "isOpen", "(III)Z"⟩
abbrev cX10_all : ByteArray := prog_12_method_8_code
def yX10_all : MethodName := ⟨RX10, "all", "()I"⟩
abbrev cX10_through : ByteArray := prog_12_method_9_code
def yX10_through : MethodName := ⟨RX10, "through", "(II)I"⟩
abbrev cX10_firstWhom : ByteArray := prog_12_method_10_code
def yX10_firstWhom : MethodName := ⟨RX10, "firstWhom", "(I)I"⟩
abbrev cX10_firstOpen : ByteArray := prog_12_method_11_code
def yX10_firstOpen : MethodName := ⟨RX10, "firstOpen", "(II)I"⟩
abbrev cX10_bestAsked : ByteArray := prog_12_method_12_code
def yX10_bestAsked : MethodName := ⟨RX10, "bestAsked", "()I"⟩
abbrev cX10_mostThrough : ByteArray := prog_12_method_13_code
def yX10_mostThrough : MethodName := ⟨RX10, "mostThrough", "(I)I"⟩
def RX11 : String := "ToastMap"
def TX11 : u_T := fun k => match k with
  | 0 => ("ToastMap", "status", "I", false)
  | 1 => ("ToastMap", "fractionTop", "J", false)
  | 2 => ("ToastMap", "fractionBottom", "J", false)
  | 3 => ("ToastMap", "everLived", "Z", false)
  | 4 => ("ToastMap", "trays", "LToastMap$Trays;", true)
  | 5 => ("ToastMap", "tape", "LToastMap$Tape;", true)
  | 6 => ("ToastMap", "now", "LToastMap$Company;", true)
  | 7 => ("ToastMap", "spare", "LToastMap$Company;", true)
  | 8 => ("ToastMap", "steps", "LToastMap$Times;", true)
  | 9 => ("ToastMap", "mapReader", "LToastMap$MapReader;", true)
  | 10 => ("ToastMap", "timesReader", "LToastMap$TimesReader;", true)
  | 11 => ("ToastMap", "marks", "LToastMap$Marks;", true)
  | 12 => ("ToastMap", "latest", "LToastMap$Living;", true)
  | 13 => ("ToastMap", "trial", "LToastMap$Living;", true)
  | 14 => ("ToastMap", "ways", "LToastMap$Ways;", true)
  | 15 => ("ToastMap", "play", "LToastMap$Game;", true)
  | 16 => ("ToastMap", "honest", "LToastMap$Glasses;", true)
  | 17 => ("ToastMap", "shams", "LToastMap$Glasses;", true)
  | _ => ("ToastMap", "states", "[J", true)
def tyX11 : Nat → FieldType := fun k => match k with
  | 0 => .int
  | 1 => .long
  | 2 => .long
  | 3 => .boolean
  | 4 => .object "ToastMap$Trays"
  | 5 => .object "ToastMap$Tape"
  | 6 => .object "ToastMap$Company"
  | 7 => .object "ToastMap$Company"
  | 8 => .object "ToastMap$Times"
  | 9 => .object "ToastMap$MapReader"
  | 10 => .object "ToastMap$TimesReader"
  | 11 => .object "ToastMap$Marks"
  | 12 => .object "ToastMap$Living"
  | 13 => .object "ToastMap$Living"
  | 14 => .object "ToastMap$Ways"
  | 15 => .object "ToastMap$Game"
  | 16 => .object "ToastMap$Glasses"
  | 17 => .object "ToastMap$Glasses"
  | _ => .array .long
abbrev wsX110 : List Cond := u_ws RX11 TX11 19
theorem nmX11 : ∀ a, a < 19 → ∀ b, b < 19 → a ≠ b → (TX11 a).2.1 ≠ (TX11 b).2.1 := by decide +kernel
theorem tyX11_ok : ∀ k, k < 19 → parseFieldDescriptor (TX11 k).2.2.1 = some (tyX11 k) := by decide +kernel
abbrev cX11_init : ByteArray := prog_1_method_1_code
def yX11_init : MethodName := ⟨RX11, "<init>", "()V"⟩
abbrev cX11_status : ByteArray := prog_1_method_2_code
def yX11_status : MethodName := ⟨RX11, "status", "()I"⟩
abbrev cX11_top : ByteArray := prog_1_method_3_code
def yX11_top : MethodName := ⟨RX11, "top", "()J"⟩
abbrev cX11_bottom : ByteArray := prog_1_method_4_code
def yX11_bottom : MethodName := ⟨RX11, "bottom", "()J"⟩
abbrev cX11_tray : ByteArray := prog_1_method_5_code
def yX11_tray : MethodName := ⟨RX11, "tray", "(III)Z"⟩
abbrev cX11_write : ByteArray := prog_1_method_6_code
def yX11_write : MethodName := ⟨RX11, "write", "(IIJ)Z"⟩
abbrev cX11_read : ByteArray := prog_1_method_7_code
def yX11_read : MethodName := ⟨RX11, "read", "(II)J"⟩
abbrev cX11_pour : ByteArray := prog_1_method_8_code
def yX11_pour : MethodName := ⟨RX11, "pour", "(IIIII)Z"⟩
abbrev cX11_placeStatus : ByteArray := prog_1_method_9_code
def yX11_placeStatus : MethodName := ⟨RX11, "placeStatus", "(II)I"⟩
abbrev cX11_pourStatus : ByteArray := prog_1_method_10_code
def yX11_pourStatus : MethodName := ⟨RX11, "pourStatus", "(IIIII)I"⟩
abbrev cX11_feed : ByteArray := prog_1_method_11_code
def yX11_feed : MethodName := ⟨RX11, "feed", "(IIIII)I"⟩
abbrev cX11_map : ByteArray := prog_1_method_12_code
def yX11_map : MethodName := ⟨RX11, "map", "(I)I"⟩
abbrev cX11_times : ByteArray := prog_1_method_13_code
def yX11_times : MethodName := ⟨RX11, "times", "(I)I"⟩
abbrev cX11_fault : ByteArray := prog_1_method_14_code
def yX11_fault : MethodName := ⟨RX11, "fault", "(I)I"⟩
abbrev cX11_told : ByteArray := prog_1_method_15_code
def yX11_told : MethodName := ⟨RX11, "told", "(I)I"⟩
abbrev cX11_person : ByteArray := prog_1_method_16_code
def yX11_person : MethodName := ⟨RX11, "person", "(II)I"⟩
abbrev cX11_far : ByteArray := prog_1_method_17_code
def yX11_far : MethodName := ⟨RX11, "far", "(II)I"⟩
abbrev cX11_drink : ByteArray := prog_1_method_18_code
def yX11_drink : MethodName := ⟨RX11, "drink", "(I)I"⟩
abbrev cX11_night : ByteArray := prog_1_method_19_code
def yX11_night : MethodName := ⟨RX11, "night", "(I)I"⟩
abbrev cX11_evening : ByteArray := prog_1_method_20_code
def yX11_evening : MethodName := ⟨RX11, "evening", "()I"⟩
abbrev cX11_fill : ByteArray := prog_1_method_21_code
def yX11_fill : MethodName := ⟨RX11, "fill", "(II)I"⟩
abbrev cX11_means : ByteArray := prog_1_method_22_code
def yX11_means : MethodName := ⟨RX11, "means", "(II)I"⟩
abbrev cX11_move : ByteArray := prog_1_method_23_code
def yX11_move : MethodName := ⟨RX11, "move", "(II)I"⟩
abbrev cX11_aim : ByteArray := prog_1_method_24_code
def yX11_aim : MethodName := ⟨RX11, "aim", "(II)I"⟩
abbrev cX11_come : ByteArray := prog_1_method_25_code
def yX11_come : MethodName := ⟨RX11, "come", "(I)I"⟩
abbrev cX11_rule : ByteArray := prog_1_method_26_code
def yX11_rule : MethodName := ⟨RX11, "rule", "(II)Z"⟩
abbrev cX11_warmIn : ByteArray := prog_1_method_27_code
def yX11_warmIn : MethodName := ⟨RX11, "warmIn", "(II)I"⟩
abbrev cX11_darkIn : ByteArray := prog_1_method_28_code
def yX11_darkIn : MethodName := ⟨RX11, "darkIn", "(I)I"⟩
abbrev cX11_eveningIn : ByteArray := prog_1_method_29_code
def yX11_eveningIn : MethodName := ⟨RX11, "eveningIn", "(II)I"⟩
abbrev cX11_litIn : ByteArray := prog_1_method_30_code
def yX11_litIn : MethodName := ⟨RX11, "litIn", "(I)I"⟩
abbrev cX11_settles : ByteArray := prog_1_method_31_code
def yX11_settles : MethodName := ⟨RX11, "settles", "()I"⟩
abbrev cX11_period : ByteArray := prog_1_method_32_code
def yX11_period : MethodName := ⟨RX11, "period", "()I"⟩
abbrev cX11_lookAhead : ByteArray := prog_1_method_33_code
def yX11_lookAhead : MethodName := ⟨RX11, "lookAhead", "(I)V"⟩
abbrev cX11_findPeriod : ByteArray := prog_1_method_34_code
def yX11_findPeriod : MethodName := ⟨RX11, "findPeriod", "()I"⟩
abbrev cX11_firstSettled : ByteArray := prog_1_method_35_code
def yX11_firstSettled : MethodName := ⟨RX11, "firstSettled", "(I)I"⟩
abbrev cX11_chain : ByteArray := prog_1_method_36_code
def yX11_chain : MethodName := ⟨RX11, "chain", "(I)I"⟩
abbrev cX11_chainAt : ByteArray := prog_1_method_37_code
def yX11_chainAt : MethodName := ⟨RX11, "chainAt", "(II)I"⟩
abbrev cX11_rings : ByteArray := prog_1_method_38_code
def yX11_rings : MethodName := ⟨RX11, "rings", "()I"⟩
abbrev cX11_inRings : ByteArray := prog_1_method_39_code
def yX11_inRings : MethodName := ⟨RX11, "inRings", "()I"⟩
abbrev cX11_needs : ByteArray := prog_1_method_40_code
def yX11_needs : MethodName := ⟨RX11, "needs", "(I)I"⟩
abbrev cX11_most : ByteArray := prog_1_method_41_code
def yX11_most : MethodName := ⟨RX11, "most", "(I)I"⟩
abbrev cX11_mostSet : ByteArray := prog_1_method_42_code
def yX11_mostSet : MethodName := ⟨RX11, "mostSet", "(I)I"⟩
abbrev cX11_misses : ByteArray := prog_1_method_43_code
def yX11_misses : MethodName := ⟨RX11, "misses", "(I)I"⟩
abbrev cX11_fits : ByteArray := prog_1_method_44_code
def yX11_fits : MethodName := ⟨RX11, "fits", "(II)I"⟩
abbrev cX11_firstOf : ByteArray := prog_1_method_45_code
def yX11_firstOf : MethodName := ⟨RX11, "firstOf", "(III)I"⟩
abbrev cX11_oddsThat : ByteArray := prog_1_method_46_code
def yX11_oddsThat : MethodName := ⟨RX11, "oddsThat", "(IIII)Z"⟩
abbrev cX11_ask : ByteArray := prog_1_method_47_code
def yX11_ask : MethodName := ⟨RX11, "ask", "(II)I"⟩
abbrev cX11_waysStatus : ByteArray := prog_1_method_48_code
def yX11_waysStatus : MethodName := ⟨RX11, "waysStatus", "(II)I"⟩
abbrev cX11_findWays : ByteArray := prog_1_method_49_code
def yX11_findWays : MethodName := ⟨RX11, "findWays", "(II)V"⟩
abbrev cX11_rowsStatus : ByteArray := prog_1_method_50_code
def yX11_rowsStatus : MethodName := ⟨RX11, "rowsStatus", "(IIII)I"⟩
abbrev cX11_laws : ByteArray := prog_1_method_51_code
def yX11_laws : MethodName := ⟨RX11, "laws", "(II)I"⟩
abbrev cX11_lawOf : ByteArray := prog_1_method_52_code
def yX11_lawOf : MethodName := ⟨RX11, "lawOf", "(III)I"⟩
abbrev cX11_error : ByteArray := prog_1_method_53_code
def yX11_error : MethodName := ⟨RX11, "error", "(III)Z"⟩
abbrev cX11_cut : ByteArray := prog_1_method_54_code
def yX11_cut : MethodName := ⟨RX11, "cut", "(I)I"⟩
abbrev cX11_lawStatus : ByteArray := prog_1_method_55_code
def yX11_lawStatus : MethodName := ⟨RX11, "lawStatus", "(II)I"⟩
abbrev cX11_isLaw : ByteArray := prog_1_method_56_code
def yX11_isLaw : MethodName := ⟨RX11, "isLaw", "(IIII)Z"⟩
abbrev cX11_tasteBoth : ByteArray := prog_1_method_57_code
def yX11_tasteBoth : MethodName := ⟨RX11, "tasteBoth", "(I)V"⟩
abbrev cX11_game : ByteArray := prog_1_method_58_code
def yX11_game : MethodName := ⟨RX11, "game", "(I)I"⟩
abbrev cX11_moveOf : ByteArray := prog_1_method_59_code
def yX11_moveOf : MethodName := ⟨RX11, "moveOf", "(I)I"⟩
abbrev cX11_share : ByteArray := prog_1_method_60_code
def yX11_share : MethodName := ⟨RX11, "share", "(I)Z"⟩
abbrev cX11_copyWarmth : ByteArray := prog_1_method_61_code
def yX11_copyWarmth : MethodName := ⟨RX11, "copyWarmth", "(I)I"⟩
abbrev cX11_live : ByteArray := prog_1_method_62_code
def yX11_live : MethodName := ⟨RX11, "live", "(I)I"⟩
abbrev cX11_lived : ByteArray := prog_1_method_63_code
def yX11_lived : MethodName := ⟨RX11, "lived", "(I)I"⟩
abbrev cX11_mean : ByteArray := prog_1_method_64_code
def yX11_mean : MethodName := ⟨RX11, "mean", "(II)Z"⟩
abbrev cX11_mark : ByteArray := prog_1_method_65_code
def yX11_mark : MethodName := ⟨RX11, "mark", "()I"⟩
abbrev cX11_undo : ByteArray := prog_1_method_66_code
def yX11_undo : MethodName := ⟨RX11, "undo", "()I"⟩
abbrev cX11_answer : ByteArray := prog_1_method_67_code
def yX11_answer : MethodName := ⟨RX11, "answer", "(I)I"⟩
abbrev cX11_refuse : ByteArray := prog_1_method_68_code
def yX11_refuse : MethodName := ⟨RX11, "refuse", "(I)I"⟩
abbrev cX11_grant : ByteArray := prog_1_method_69_code
def yX11_grant : MethodName := ⟨RX11, "grant", "()Z"⟩
abbrev cX11_deny : ByteArray := prog_1_method_70_code
def yX11_deny : MethodName := ⟨RX11, "deny", "(I)Z"⟩
abbrev cX11_tell : ByteArray := prog_1_method_71_code
def yX11_tell : MethodName := ⟨RX11, "tell", "(JJ)Z"⟩
abbrev cX11_commonDivisor : ByteArray := prog_1_method_72_code
def yX11_commonDivisor : MethodName := ⟨RX11, "commonDivisor", "(JJ)J"⟩
abbrev cX11_isCouple : ByteArray := prog_1_method_73_code
def yX11_isCouple : MethodName := ⟨RX11, "isCouple", "(II)Z"⟩
abbrev cX11_within : ByteArray := prog_1_method_74_code
def yX11_within : MethodName := ⟨RX11, "within", "(III)Z"⟩
abbrev cX11_warmBy : ByteArray := prog_1_method_75_code
def yX11_warmBy : MethodName := ⟨RX11, "warmBy", "(IIII)I"⟩
def RX12 : String := "ToastMapModel"
def TX12 : u_T := fun k => match k with
  | 0 => ("ToastMapModel", "at", "[I", true)
  | 1 => ("ToastMapModel", "names", "[J", true)
  | 2 => ("ToastMapModel", "status", "I", false)
  | 3 => ("ToastMapModel", "top", "J", false)
  | 4 => ("ToastMapModel", "bottom", "J", false)
  | 5 => ("ToastMapModel", "sort", "[I", true)
  | 6 => ("ToastMapModel", "trayMany", "[I", true)
  | 7 => ("ToastMapModel", "trays", "[J", true)
  | 8 => ("ToastMapModel", "tape", "[B", true)
  | 9 => ("ToastMapModel", "text", "[B", true)
  | 10 => ("ToastMapModel", "taped", "I", false)
  | 11 => ("ToastMapModel", "size", "I", false)
  | 12 => ("ToastMapModel", "token", "I", false)
  | 13 => ("ToastMapModel", "from", "I", false)
  | 14 => ("ToastMapModel", "end", "I", false)
  | 15 => ("ToastMapModel", "value", "I", false)
  | 16 => ("ToastMapModel", "faultKind", "I", false)
  | 17 => ("ToastMapModel", "faultPlace", "I", false)
  | 18 => ("ToastMapModel", "faults", "I", false)
  | 19 => ("ToastMapModel", "seen", "I", false)
  | 20 => ("ToastMapModel", "toldParts", "I", false)
  | 21 => ("ToastMapModel", "opened", "[I", true)
  | 22 => ("ToastMapModel", "depth", "I", false)
  | 23 => ("ToastMapModel", "counted", "I", false)
  | 24 => ("ToastMapModel", "comesBy", "[I", true)
  | 25 => ("ToastMapModel", "eveningBy", "[I", true)
  | 26 => ("ToastMapModel", "settledAt", "I", false)
  | 27 => ("ToastMapModel", "settledFor", "I", false)
  | 28 => ("ToastMapModel", "chainBy", "[I", true)
  | 29 => ("ToastMapModel", "chainMany", "I", false)
  | 30 => ("ToastMapModel", "needBy", "[I", true)
  | 31 => ("ToastMapModel", "hasBy", "[I", true)
  | 32 => ("ToastMapModel", "firstBy", "[I", true)
  | 33 => ("ToastMapModel", "warmsBy", "[I", true)
  | 34 => ("ToastMapModel", "wayMany", "I", false)
  | 35 => ("ToastMapModel", "testBy", "[J", true)
  | 36 => ("ToastMapModel", "doneAt", "[I", true)
  | 37 => ("ToastMapModel", "gotAt", "[I", true)
  | 38 => ("ToastMapModel", "bestDeed", "[I", true)
  | 39 => ("ToastMapModel", "drawn", "I", false)
  | 40 => ("ToastMapModel", "ranSteps", "I", false)
  | 41 => ("ToastMapModel", "loops", "[I", true)
  | 42 => ("ToastMapModel", "ran", "[I", true)
  | 43 => ("ToastMapModel", "told1", "[I", true)
  | 44 => ("ToastMapModel", "isTold", "Z", false)
  | _ => ("ToastMapModel", "marks", "I", false)
def tyX12 : Nat → FieldType := fun k => match k with
  | 0 => .array .int
  | 1 => .array .long
  | 2 => .int
  | 3 => .long
  | 4 => .long
  | 5 => .array .int
  | 6 => .array .int
  | 7 => .array .long
  | 8 => .array .byte
  | 9 => .array .byte
  | 10 => .int
  | 11 => .int
  | 12 => .int
  | 13 => .int
  | 14 => .int
  | 15 => .int
  | 16 => .int
  | 17 => .int
  | 18 => .int
  | 19 => .int
  | 20 => .int
  | 21 => .array .int
  | 22 => .int
  | 23 => .int
  | 24 => .array .int
  | 25 => .array .int
  | 26 => .int
  | 27 => .int
  | 28 => .array .int
  | 29 => .int
  | 30 => .array .int
  | 31 => .array .int
  | 32 => .array .int
  | 33 => .array .int
  | 34 => .int
  | 35 => .array .long
  | 36 => .array .int
  | 37 => .array .int
  | 38 => .array .int
  | 39 => .int
  | 40 => .int
  | 41 => .array .int
  | 42 => .array .int
  | 43 => .array .int
  | 44 => .boolean
  | _ => .int
abbrev wsX120 : List Cond := u_ws RX12 TX12 46
theorem nmX12 : ∀ a, a < 46 → ∀ b, b < 46 → a ≠ b → (TX12 a).2.1 ≠ (TX12 b).2.1 := by decide +kernel
theorem tyX12_ok : ∀ k, k < 46 → parseFieldDescriptor (TX12 k).2.2.1 = some (tyX12 k) := by decide +kernel
abbrev cX12_init : ByteArray := prog_14_method_1_code
def yX12_init : MethodName := ⟨RX12, "<init>", "()V"⟩
abbrev cX12_plain : ByteArray := prog_14_method_2_code
def yX12_plain : MethodName := ⟨RX12, "plain", "(I)V"⟩
abbrev cX12_status : ByteArray := prog_14_method_3_code
def yX12_status : MethodName := ⟨RX12, "status", "()I"⟩
abbrev cX12_top : ByteArray := prog_14_method_4_code
def yX12_top : MethodName := ⟨RX12, "top", "()J"⟩
abbrev cX12_bottom : ByteArray := prog_14_method_5_code
def yX12_bottom : MethodName := ⟨RX12, "bottom", "()J"⟩
abbrev cX12_is : ByteArray := prog_14_method_6_code
def yX12_is : MethodName := ⟨RX12, "is", "(I)Z"⟩
abbrev cX12_refuse : ByteArray := prog_14_method_7_code
def yX12_refuse : MethodName := ⟨RX12, "refuse", "(I)I"⟩
abbrev cX12_gives : ByteArray := prog_14_method_8_code
def yX12_gives : MethodName := ⟨RX12, "gives", "(I)I"⟩
abbrev cX12_tellsBy : ByteArray := prog_14_method_10_code
def yX12_tellsBy : MethodName := ⟨RX12, "tellsBy", "(JJ)Z"⟩
abbrev cX12_isTray : ByteArray := prog_14_method_11_code
def yX12_isTray : MethodName := ⟨RX12, "isTray", "(I)Z"⟩
abbrev cX12_shrunk : ByteArray := prog_14_method_12_code
def yX12_shrunk : MethodName := ⟨RX12, "shrunk", "(JI)J"⟩
abbrev cX12_tray : ByteArray := prog_14_method_13_code
def yX12_tray : MethodName := ⟨RX12, "tray", "(III)Z"⟩
abbrev cX12_wrongPlace : ByteArray := prog_14_method_14_code
def yX12_wrongPlace : MethodName := ⟨RX12, "wrongPlace", "(II)I"⟩
abbrev cX12_write : ByteArray := prog_14_method_15_code
def yX12_write : MethodName := ⟨RX12, "write", "(IIJ)Z"⟩
abbrev cX12_read : ByteArray := prog_14_method_16_code
def yX12_read : MethodName := ⟨RX12, "read", "(II)J"⟩
abbrev cX12_pour : ByteArray := prog_14_method_17_code
def yX12_pour : MethodName := ⟨RX12, "pour", "(IIIII)Z"⟩
abbrev cX12_isFrom : ByteArray := prog_14_method_18_code
def yX12_isFrom : MethodName := ⟨RX12, "isFrom", "(JJJ)Z"⟩
abbrev cX12_feed : ByteArray := prog_14_method_19_code
def yX12_feed : MethodName := ⟨RX12, "feed", "(IIIII)I"⟩
abbrev cX12_four : ByteArray := prog_14_method_20_code
def yX12_four : MethodName := ⟨RX12, "four", "(I)V"⟩
abbrev cX12_byteAt : ByteArray := prog_14_method_21_code
def yX12_byteAt : MethodName := ⟨RX12, "byteAt", "(I)I"⟩
abbrev cX12_isSmall : ByteArray := prog_14_method_22_code
def yX12_isSmall : MethodName := ⟨RX12, "isSmall", "(I)Z"⟩
abbrev cX12_isDigit : ByteArray := prog_14_method_23_code
def yX12_isDigit : MethodName := ⟨RX12, "isDigit", "(I)Z"⟩
abbrev cX12_ahead : ByteArray := prog_14_method_24_code
def yX12_ahead : MethodName := ⟨RX12, "ahead", "()V"⟩
abbrev cX12_isSign : ByteArray := prog_14_method_25_code
def yX12_isSign : MethodName := ⟨RX12, "isSign", "(I)Z"⟩
abbrev cX12_inWords : ByteArray := prog_14_method_26_code
def yX12_inWords : MethodName := ⟨RX12, "inWords", "(Ljava/lang/String;)I"⟩
abbrev cX12_fails : ByteArray := prog_14_method_27_code
def yX12_fails : MethodName := ⟨RX12, "fails", "(I)Z"⟩
abbrev cX12_begins : ByteArray := prog_14_method_28_code
def yX12_begins : MethodName := ⟨RX12, "begins", "(II)Z"⟩
abbrev cX12_wantSign : ByteArray := prog_14_method_29_code
def yX12_wantSign : MethodName := ⟨RX12, "wantSign", "(I)Z"⟩
abbrev cX12_wantWord : ByteArray := prog_14_method_30_code
def yX12_wantWord : MethodName := ⟨RX12, "wantWord", "(Ljava/lang/String;I)Z"⟩
abbrev cX12_number : ByteArray := prog_14_method_31_code
def yX12_number : MethodName := ⟨RX12, "number", "(III)Z"⟩
abbrev cX12_isName : ByteArray := prog_14_method_32_code
def yX12_isName : MethodName := ⟨RX12, "isName", "(Ljava/lang/String;)Z"⟩
abbrev cX12_nameHere : ByteArray := prog_14_method_33_code
def yX12_nameHere : MethodName := ⟨RX12, "nameHere", "()J"⟩
abbrev cX12_findHere : ByteArray := prog_14_method_34_code
def yX12_findHere : MethodName := ⟨RX12, "findHere", "(II)I"⟩
abbrev cX12_fault : ByteArray := prog_14_method_35_code
def yX12_fault : MethodName := ⟨RX12, "fault", "(I)I"⟩
abbrev cX12_taken : ByteArray := prog_14_method_36_code
def yX12_taken : MethodName := ⟨RX12, "taken", "(I)I"⟩
abbrev cX12_personRow : ByteArray := prog_14_method_37_code
def yX12_personRow : MethodName := ⟨RX12, "personRow", "(I)I"⟩
abbrev cX12_isIn : ByteArray := prog_14_method_38_code
def yX12_isIn : MethodName := ⟨RX12, "isIn", "(II)Z"⟩
abbrev cX12_isThere : ByteArray := prog_14_method_39_code
def yX12_isThere : MethodName := ⟨RX12, "isThere", "(I)Z"⟩
abbrev cX12_perhaps : ByteArray := prog_14_method_40_code
def yX12_perhaps : MethodName := ⟨RX12, "perhaps", "(IIIII)Z"⟩
abbrev cX12_leastOf : ByteArray := prog_14_method_41_code
def yX12_leastOf : MethodName := ⟨RX12, "leastOf", "(I)I"⟩
abbrev cX12_mostOf : ByteArray := prog_14_method_42_code
def yX12_mostOf : MethodName := ⟨RX12, "mostOf", "(I)I"⟩
abbrev cX12_aPerson : ByteArray := prog_14_method_43_code
def yX12_aPerson : MethodName := ⟨RX12, "aPerson", "()Z"⟩
abbrev cX12_aToast : ByteArray := prog_14_method_44_code
def yX12_aToast : MethodName := ⟨RX12, "aToast", "()Z"⟩
abbrev cX12_mapPart : ByteArray := prog_14_method_45_code
def yX12_mapPart : MethodName := ⟨RX12, "mapPart", "()Z"⟩
abbrev cX12_map : ByteArray := prog_14_method_46_code
def yX12_map : MethodName := ⟨RX12, "map", "(I)I"⟩
abbrev cX12_personTo : ByteArray := prog_14_method_47_code
def yX12_personTo : MethodName := ⟨RX12, "personTo", "(I)Z"⟩
abbrev cX12_test : ByteArray := prog_14_method_48_code
def yX12_test : MethodName := ⟨RX12, "test", "(I)Z"⟩
abbrev cX12_timeOrder : ByteArray := prog_14_method_49_code
def yX12_timeOrder : MethodName := ⟨RX12, "timeOrder", "(II)Z"⟩
abbrev cX12_timeStep : ByteArray := prog_14_method_50_code
def yX12_timeStep : MethodName := ⟨RX12, "timeStep", "()Z"⟩
abbrev cX12_times : ByteArray := prog_14_method_51_code
def yX12_times : MethodName := ⟨RX12, "times", "(I)I"⟩
abbrev cX12_isPerson : ByteArray := prog_14_method_52_code
def yX12_isPerson : MethodName := ⟨RX12, "isPerson", "(I)Z"⟩
abbrev cX12_areTwo : ByteArray := prog_14_method_53_code
def yX12_areTwo : MethodName := ⟨RX12, "areTwo", "(II)Z"⟩
abbrev cX12_bits : ByteArray := prog_14_method_54_code
def yX12_bits : MethodName := ⟨RX12, "bits", "(I)I"⟩
abbrev cX12_personOf : ByteArray := prog_14_method_55_code
def yX12_personOf : MethodName := ⟨RX12, "personOf", "(II)I"⟩
abbrev cX12_whomOf : ByteArray := prog_14_method_56_code
def yX12_whomOf : MethodName := ⟨RX12, "whomOf", "(I)I"⟩
abbrev cX12_farBetween : ByteArray := prog_14_method_57_code
def yX12_farBetween : MethodName := ⟨RX12, "farBetween", "(II)I"⟩
abbrev cX12_warmBy : ByteArray := prog_14_method_58_code
def yX12_warmBy : MethodName := ⟨RX12, "warmBy", "(IIII)I"⟩
abbrev cX12_warmOf : ByteArray := prog_14_method_59_code
def yX12_warmOf : MethodName := ⟨RX12, "warmOf", "(I)I"⟩
abbrev cX12_isLit : ByteArray := prog_14_method_60_code
def yX12_isLit : MethodName := ⟨RX12, "isLit", "(I)Z"⟩
abbrev cX12_areLit : ByteArray := prog_14_method_61_code
def yX12_areLit : MethodName := ⟨RX12, "areLit", "()I"⟩
abbrev cX12_haveWhom : ByteArray := prog_14_method_62_code
def yX12_haveWhom : MethodName := ⟨RX12, "haveWhom", "()I"⟩
abbrev cX12_warmersOf : ByteArray := prog_14_method_63_code
def yX12_warmersOf : MethodName := ⟨RX12, "warmersOf", "(I)I"⟩
abbrev cX12_together : ByteArray := prog_14_method_64_code
def yX12_together : MethodName := ⟨RX12, "together", "(I)I"⟩
abbrev cX12_told : ByteArray := prog_14_method_65_code
def yX12_told : MethodName := ⟨RX12, "told", "(I)I"⟩
abbrev cX12_person : ByteArray := prog_14_method_66_code
def yX12_person : MethodName := ⟨RX12, "person", "(II)I"⟩
abbrev cX12_far : ByteArray := prog_14_method_67_code
def yX12_far : MethodName := ⟨RX12, "far", "(II)I"⟩
abbrev cX12_warms : ByteArray := prog_14_method_68_code
def yX12_warms : MethodName := ⟨RX12, "warms", "(II)V"⟩
abbrev cX12_drinks : ByteArray := prog_14_method_69_code
def yX12_drinks : MethodName := ⟨RX12, "drinks", "(I)Z"⟩
abbrev cX12_drink : ByteArray := prog_14_method_70_code
def yX12_drink : MethodName := ⟨RX12, "drink", "(I)I"⟩
abbrev cX12_cools : ByteArray := prog_14_method_71_code
def yX12_cools : MethodName := ⟨RX12, "cools", "(I)V"⟩
abbrev cX12_nightGoes : ByteArray := prog_14_method_72_code
def yX12_nightGoes : MethodName := ⟨RX12, "nightGoes", "()V"⟩
abbrev cX12_nightsGo : ByteArray := prog_14_method_73_code
def yX12_nightsGo : MethodName := ⟨RX12, "nightsGo", "(I)V"⟩
abbrev cX12_night : ByteArray := prog_14_method_74_code
def yX12_night : MethodName := ⟨RX12, "night", "(I)I"⟩
abbrev cX12_eveningGoes : ByteArray := prog_14_method_75_code
def yX12_eveningGoes : MethodName := ⟨RX12, "eveningGoes", "(I)I"⟩
abbrev cX12_evening : ByteArray := prog_14_method_76_code
def yX12_evening : MethodName := ⟨RX12, "evening", "()I"⟩
abbrev cX12_fills : ByteArray := prog_14_method_77_code
def yX12_fills : MethodName := ⟨RX12, "fills", "(II)Z"⟩
abbrev cX12_fill : ByteArray := prog_14_method_78_code
def yX12_fill : MethodName := ⟨RX12, "fill", "(II)I"⟩
abbrev cX12_means : ByteArray := prog_14_method_79_code
def yX12_means : MethodName := ⟨RX12, "means", "(II)I"⟩
abbrev cX12_move : ByteArray := prog_14_method_80_code
def yX12_move : MethodName := ⟨RX12, "move", "(II)I"⟩
abbrev cX12_aim : ByteArray := prog_14_method_81_code
def yX12_aim : MethodName := ⟨RX12, "aim", "(II)I"⟩
abbrev cX12_come : ByteArray := prog_14_method_82_code
def yX12_come : MethodName := ⟨RX12, "come", "(I)I"⟩
abbrev cX12_rule : ByteArray := prog_14_method_83_code
def yX12_rule : MethodName := ⟨RX12, "rule", "(II)Z"⟩
abbrev cX12_levelAt : ByteArray := prog_14_method_84_code
def yX12_levelAt : MethodName := ⟨RX12, "levelAt", "(I)I"⟩
abbrev cX12_keeps : ByteArray := prog_14_method_85_code
def yX12_keeps : MethodName := ⟨RX12, "keeps", "(I)V"⟩
abbrev cX12_restores : ByteArray := prog_14_method_86_code
def yX12_restores : MethodName := ⟨RX12, "restores", "(I)V"⟩
abbrev cX12_cooled : ByteArray := prog_14_method_87_code
def yX12_cooled : MethodName := ⟨RX12, "cooled", "(II)I"⟩
abbrev cX12_warmIn : ByteArray := prog_14_method_88_code
def yX12_warmIn : MethodName := ⟨RX12, "warmIn", "(II)I"⟩
abbrev cX12_darkIn : ByteArray := prog_14_method_89_code
def yX12_darkIn : MethodName := ⟨RX12, "darkIn", "(I)I"⟩
abbrev cX12_eveningsGo : ByteArray := prog_14_method_90_code
def yX12_eveningsGo : MethodName := ⟨RX12, "eveningsGo", "(I)V"⟩
abbrev cX12_eveningIn : ByteArray := prog_14_method_91_code
def yX12_eveningIn : MethodName := ⟨RX12, "eveningIn", "(II)I"⟩
abbrev cX12_litIn : ByteArray := prog_14_method_92_code
def yX12_litIn : MethodName := ⟨RX12, "litIn", "(I)I"⟩
abbrev cX12_isAlike : ByteArray := prog_14_method_93_code
def yX12_isAlike : MethodName := ⟨RX12, "isAlike", "(II)Z"⟩
abbrev cX12_laysSettled : ByteArray := prog_14_method_94_code
def yX12_laysSettled : MethodName := ⟨RX12, "laysSettled", "()Z"⟩
abbrev cX12_settles : ByteArray := prog_14_method_95_code
def yX12_settles : MethodName := ⟨RX12, "settles", "()I"⟩
abbrev cX12_period : ByteArray := prog_14_method_96_code
def yX12_period : MethodName := ⟨RX12, "period", "()I"⟩
abbrev cX12_laysChain : ByteArray := prog_14_method_97_code
def yX12_laysChain : MethodName := ⟨RX12, "laysChain", "(I)V"⟩
abbrev cX12_chain : ByteArray := prog_14_method_98_code
def yX12_chain : MethodName := ⟨RX12, "chain", "(I)I"⟩
abbrev cX12_chainAt : ByteArray := prog_14_method_99_code
def yX12_chainAt : MethodName := ⟨RX12, "chainAt", "(II)I"⟩
abbrev cX12_ringOf : ByteArray := prog_14_method_100_code
def yX12_ringOf : MethodName := ⟨RX12, "ringOf", "(I)I"⟩
abbrev cX12_rings : ByteArray := prog_14_method_101_code
def yX12_rings : MethodName := ⟨RX12, "rings", "()I"⟩
abbrev cX12_inRings : ByteArray := prog_14_method_102_code
def yX12_inRings : MethodName := ⟨RX12, "inRings", "()I"⟩
abbrev cX12_needsOf : ByteArray := prog_14_method_103_code
def yX12_needsOf : MethodName := ⟨RX12, "needsOf", "(I)I"⟩
abbrev cX12_needs : ByteArray := prog_14_method_104_code
def yX12_needs : MethodName := ⟨RX12, "needs", "(I)I"⟩
abbrev cX12_mostOfAll : ByteArray := prog_14_method_105_code
def yX12_mostOfAll : MethodName := ⟨RX12, "mostOfAll", "(I)I"⟩
abbrev cX12_most : ByteArray := prog_14_method_106_code
def yX12_most : MethodName := ⟨RX12, "most", "(I)I"⟩
abbrev cX12_mostSet : ByteArray := prog_14_method_107_code
def yX12_mostSet : MethodName := ⟨RX12, "mostSet", "(I)I"⟩
abbrev cX12_litBehind : ByteArray := prog_14_method_108_code
def yX12_litBehind : MethodName := ⟨RX12, "litBehind", "(I)I"⟩
abbrev cX12_misses : ByteArray := prog_14_method_109_code
def yX12_misses : MethodName := ⟨RX12, "misses", "(I)I"⟩
abbrev cX12_wrongSeen : ByteArray := prog_14_method_110_code
def yX12_wrongSeen : MethodName := ⟨RX12, "wrongSeen", "(II)I"⟩
abbrev cX12_isWay : ByteArray := prog_14_method_111_code
def yX12_isWay : MethodName := ⟨RX12, "isWay", "(II)Z"⟩
abbrev cX12_counts : ByteArray := prog_14_method_112_code
def yX12_counts : MethodName := ⟨RX12, "counts", "()V"⟩
abbrev cX12_mayHave : ByteArray := prog_14_method_113_code
def yX12_mayHave : MethodName := ⟨RX12, "mayHave", "(II)Z"⟩
abbrev cX12_laysWays : ByteArray := prog_14_method_114_code
def yX12_laysWays : MethodName := ⟨RX12, "laysWays", "(II)V"⟩
abbrev cX12_fits : ByteArray := prog_14_method_115_code
def yX12_fits : MethodName := ⟨RX12, "fits", "(II)I"⟩
abbrev cX12_firstOf : ByteArray := prog_14_method_116_code
def yX12_firstOf : MethodName := ⟨RX12, "firstOf", "(III)I"⟩
abbrev cX12_oddsThat : ByteArray := prog_14_method_117_code
def yX12_oddsThat : MethodName := ⟨RX12, "oddsThat", "(IIII)Z"⟩
abbrev cX12_mostAlike : ByteArray := prog_14_method_118_code
def yX12_mostAlike : MethodName := ⟨RX12, "mostAlike", "(I)I"⟩
abbrev cX12_ask : ByteArray := prog_14_method_119_code
def yX12_ask : MethodName := ⟨RX12, "ask", "(II)I"⟩
abbrev cX12_wrongLaw : ByteArray := prog_14_method_120_code
def yX12_wrongLaw : MethodName := ⟨RX12, "wrongLaw", "(II)I"⟩
abbrev cX12_isLaw : ByteArray := prog_14_method_121_code
def yX12_isLaw : MethodName := ⟨RX12, "isLaw", "(III)Z"⟩
abbrev cX12_laws : ByteArray := prog_14_method_122_code
def yX12_laws : MethodName := ⟨RX12, "laws", "(II)I"⟩
abbrev cX12_lawOf : ByteArray := prog_14_method_123_code
def yX12_lawOf : MethodName := ⟨RX12, "lawOf", "(III)I"⟩
abbrev cX12_atLeast : ByteArray := prog_14_method_124_code
def yX12_atLeast : MethodName := ⟨RX12, "atLeast", "(III)J"⟩
abbrev cX12_waysOf : ByteArray := prog_14_method_125_code
def yX12_waysOf : MethodName := ⟨RX12, "waysOf", "(I)J"⟩
abbrev cX12_errorOf : ByteArray := prog_14_method_126_code
def yX12_errorOf : MethodName := ⟨RX12, "errorOf", "(III)J"⟩
abbrev cX12_error : ByteArray := prog_14_method_127_code
def yX12_error : MethodName := ⟨RX12, "error", "(III)Z"⟩
abbrev cX12_cut : ByteArray := prog_14_method_128_code
def yX12_cut : MethodName := ⟨RX12, "cut", "(I)I"⟩
abbrev cX12_settlesAt : ByteArray := prog_14_method_129_code
def yX12_settlesAt : MethodName := ⟨RX12, "settlesAt", "(II)V"⟩
abbrev cX12_beginsAt : ByteArray := prog_14_method_130_code
def yX12_beginsAt : MethodName := ⟨RX12, "beginsAt", "(I)V"⟩
abbrev cX12_playing : ByteArray := prog_14_method_131_code
def yX12_playing : MethodName := ⟨RX12, "playing", "(I)I"⟩
abbrev cX12_game : ByteArray := prog_14_method_132_code
def yX12_game : MethodName := ⟨RX12, "game", "(I)I"⟩
abbrev cX12_moveOf : ByteArray := prog_14_method_133_code
def yX12_moveOf : MethodName := ⟨RX12, "moveOf", "(I)I"⟩
abbrev cX12_share : ByteArray := prog_14_method_134_code
def yX12_share : MethodName := ⟨RX12, "share", "(I)Z"⟩
abbrev cX12_copyWarmth : ByteArray := prog_14_method_135_code
def yX12_copyWarmth : MethodName := ⟨RX12, "copyWarmth", "(I)I"⟩
abbrev cX12_draw : ByteArray := prog_14_method_136_code
def yX12_draw : MethodName := ⟨RX12, "draw", "(I)I"⟩
abbrev cX12_nightsBy : ByteArray := prog_14_method_137_code
def yX12_nightsBy : MethodName := ⟨RX12, "nightsBy", "(I)Z"⟩
abbrev cX12_drinksBy : ByteArray := prog_14_method_138_code
def yX12_drinksBy : MethodName := ⟨RX12, "drinksBy", "(I)Z"⟩
abbrev cX12_eveningsBy : ByteArray := prog_14_method_139_code
def yX12_eveningsBy : MethodName := ⟨RX12, "eveningsBy", "()Z"⟩
abbrev cX12_doesAny : ByteArray := prog_14_method_140_code
def yX12_doesAny : MethodName := ⟨RX12, "doesAny", "()Z"⟩
abbrev cX12_does : ByteArray := prog_14_method_141_code
def yX12_does : MethodName := ⟨RX12, "does", "(I)Z"⟩
abbrev cX12_holds : ByteArray := prog_14_method_142_code
def yX12_holds : MethodName := ⟨RX12, "holds", "(I)Z"⟩
abbrev cX12_behindEnds : ByteArray := prog_14_method_143_code
def yX12_behindEnds : MethodName := ⟨RX12, "behindEnds", "(I)I"⟩
abbrev cX12_lives : ByteArray := prog_14_method_144_code
def yX12_lives : MethodName := ⟨RX12, "lives", "(I)V"⟩
abbrev cX12_live : ByteArray := prog_14_method_145_code
def yX12_live : MethodName := ⟨RX12, "live", "(I)I"⟩
abbrev cX12_lived : ByteArray := prog_14_method_146_code
def yX12_lived : MethodName := ⟨RX12, "lived", "(I)I"⟩
abbrev cX12_mean : ByteArray := prog_14_method_147_code
def yX12_mean : MethodName := ⟨RX12, "mean", "(II)Z"⟩
abbrev cX12_copies : ByteArray := prog_14_method_148_code
def yX12_copies : MethodName := ⟨RX12, "copies", "(II)V"⟩
abbrev cX12_mark : ByteArray := prog_14_method_149_code
def yX12_mark : MethodName := ⟨RX12, "mark", "()I"⟩
abbrev cX12_undo : ByteArray := prog_14_method_150_code
def yX12_undo : MethodName := ⟨RX12, "undo", "()I"⟩
def RJ6 : String := "java/lang/Integer"
def TJ6 : u_T := fun k => match k with
  | _ => ("", "", "", false)
def tyJ6 : Nat → FieldType := fun k => match k with
  | _ => .int
abbrev wsJ60 : List Cond := u_ws RJ6 TJ6 0
theorem nmJ6 : ∀ a, a < 0 → ∀ b, b < 0 → a ≠ b → (TJ6 a).2.1 ≠ (TJ6 b).2.1 := by decide +kernel
theorem tyJ6_ok : ∀ k, k < 0 → parseFieldDescriptor (TJ6 k).2.2.1 = some (tyJ6 k) := by decide +kernel
abbrev cJ6_bitCount_0f7a4 : ByteArray := prog_15_method_49_code
def yJ6_bitCount_0f7a4 : MethodName := ⟨RJ6, "bitCount", "(I)I"⟩
def RJ9 : String := "java/lang/Math"
def TJ9 : u_T := fun k => match k with
  | _ => ("", "", "", false)
def tyJ9 : Nat → FieldType := fun k => match k with
  | _ => .int
abbrev wsJ90 : List Cond := u_ws RJ9 TJ9 0
theorem nmJ9 : ∀ a, a < 0 → ∀ b, b < 0 → a ≠ b → (TJ9 a).2.1 ≠ (TJ9 b).2.1 := by decide +kernel
theorem tyJ9_ok : ∀ k, k < 0 → parseFieldDescriptor (TJ9 k).2.2.1 = some (tyJ9 k) := by decide +kernel
abbrev cJ9_abs_0f7a4 : ByteArray := prog_16_method_59_code
def yJ9_abs_0f7a4 : MethodName := ⟨RJ9, "abs", "(I)I"⟩
abbrev cJ9_max_7cf53 : ByteArray := prog_16_method_65_code
def yJ9_max_7cf53 : MethodName := ⟨RJ9, "max", "(II)I"⟩
abbrev cJ9_max_f86c9 : ByteArray := prog_16_method_66_code
def yJ9_max_f86c9 : MethodName := ⟨RJ9, "max", "(JJ)J"⟩
abbrev cJ9_min_7cf53 : ByteArray := prog_16_method_69_code
def yJ9_min_7cf53 : MethodName := ⟨RJ9, "min", "(II)I"⟩
def RJ0 : String := "java/lang/String"
def TJ0 : u_T := fun k => match k with
  | _ => ("", "", "", false)
def tyJ0 : Nat → FieldType := fun k => match k with
  | _ => .int
abbrev wsJ00 : List Cond := u_ws RJ0 TJ0 0
theorem nmJ0 : ∀ a, a < 0 → ∀ b, b < 0 → a ≠ b → (TJ0 a).2.1 ≠ (TJ0 b).2.1 := by decide +kernel
theorem tyJ0_ok : ∀ k, k < 0 → parseFieldDescriptor (TJ0 k).2.2.1 = some (tyJ0 k) := by decide +kernel
abbrev cJ0_length_8abf5 : ByteArray := prog_17_method_54_code
def yJ0_length_8abf5 : MethodName := ⟨RJ0, "length", "()I"⟩
abbrev cJ0_charAt_5068e : ByteArray := prog_17_method_56_code
def yJ0_charAt_5068e : MethodName := ⟨RJ0, "charAt", "(I)C"⟩
abbrev cJ0_coder_7d493 : ByteArray := prog_17_method_152_code
def yJ0_coder_7d493 : MethodName := ⟨RJ0, "coder", "()B"⟩
abbrev cJ0_isLatin1_aae02 : ByteArray := prog_17_method_154_code
def yJ0_isLatin1_aae02 : MethodName := ⟨RJ0, "isLatin1", "()Z"⟩
abbrev cJ0_checkIndex_df160 : ByteArray := prog_17_method_155_code
def yJ0_checkIndex_df160 : MethodName := ⟨RJ0, "checkIndex", "(II)V"⟩
def RJ1 : String := "java/lang/StringLatin1"
def TJ1 : u_T := fun k => match k with
  | _ => ("", "", "", false)
def tyJ1 : Nat → FieldType := fun k => match k with
  | _ => .int
abbrev wsJ10 : List Cond := u_ws RJ1 TJ1 0
theorem nmJ1 : ∀ a, a < 0 → ∀ b, b < 0 → a ≠ b → (TJ1 a).2.1 ≠ (TJ1 b).2.1 := by decide +kernel
theorem tyJ1_ok : ∀ k, k < 0 → parseFieldDescriptor (TJ1 k).2.2.1 = some (tyJ1 k) := by decide +kernel
abbrev cJ1_charAt_3b067 : ByteArray := prog_18_method_2_code
def yJ1_charAt_3b067 : MethodName := ⟨RJ1, "charAt", "([BI)C"⟩
def RJ2 : String := "java/lang/StringUTF16"
def TJ2 : u_T := fun k => match k with
  | _ => ("", "", "", false)
def tyJ2 : Nat → FieldType := fun k => match k with
  | _ => .int
abbrev wsJ20 : List Cond := u_ws RJ2 TJ2 0
theorem nmJ2 : ∀ a, a < 0 → ∀ b, b < 0 → a ≠ b → (TJ2 a).2.1 ≠ (TJ2 b).2.1 := by decide +kernel
theorem tyJ2_ok : ∀ k, k < 0 → parseFieldDescriptor (TJ2 k).2.2.1 = some (tyJ2 k) := by decide +kernel
abbrev cJ2_getChar_3b067 : ByteArray := prog_19_method_5_code
def yJ2_getChar_3b067 : MethodName := ⟨RJ2, "getChar", "([BI)C"⟩
abbrev cJ2_length_9d52b : ByteArray := prog_19_method_6_code
def yJ2_length_9d52b : MethodName := ⟨RJ2, "length", "([B)I"⟩
abbrev cJ2_charAt_3b067 : ByteArray := prog_19_method_83_code
def yJ2_charAt_3b067 : MethodName := ⟨RJ2, "charAt", "([BI)C"⟩
abbrev cJ2_checkIndex_2214a : ByteArray := prog_19_method_91_code
def yJ2_checkIndex_2214a : MethodName := ⟨RJ2, "checkIndex", "(I[B)V"⟩
def RJ10 : String := "java/lang/System"
def TJ10 : u_T := fun k => match k with
  | _ => ("", "", "", false)
def tyJ10 : Nat → FieldType := fun k => match k with
  | _ => .int
abbrev wsJ100 : List Cond := u_ws RJ10 TJ10 0
theorem nmJ10 : ∀ a, a < 0 → ∀ b, b < 0 → a ≠ b → (TJ10 a).2.1 ≠ (TJ10 b).2.1 := by decide +kernel
theorem tyJ10_ok : ∀ k, k < 0 → parseFieldDescriptor (TJ10 k).2.2.1 = some (tyJ10 k) := by decide +kernel
def RJ3 : String := "jdk/internal/util/Preconditions"
def TJ3 : u_T := fun k => match k with
  | _ => ("", "", "", false)
def tyJ3 : Nat → FieldType := fun k => match k with
  | _ => .int
abbrev wsJ30 : List Cond := u_ws RJ3 TJ3 0
theorem nmJ3 : ∀ a, a < 0 → ∀ b, b < 0 → a ≠ b → (TJ3 a).2.1 ≠ (TJ3 b).2.1 := by decide +kernel
theorem tyJ3_ok : ∀ k, k < 0 → parseFieldDescriptor (TJ3 k).2.2.1 = some (tyJ3 k) := by decide +kernel
abbrev cJ3_checkIndex_8e157 : ByteArray := prog_21_method_11_code
def yJ3_checkIndex_8e157 : MethodName := ⟨RJ3, "checkIndex", "(IILjava/util/function/BiFunction;)I"⟩
def RL : String := "ToastMapLaw"
abbrev cL_law : ByteArray := code
def yL_law : MethodName := ⟨RL, "law", "([I)Z"⟩
abbrev vwCl : List vw_C := [(RX0, TX0, 10), (RX1, TX1, 4), (RX2, TX2, 2), (RX3, TX3, 8), (RX4, TX4, 3), (RX5, TX5, 3), (RX6, TX6, 13), (RX7, TX7, 9), (RX8, TX8, 4), (RX9, TX9, 3), (RX10, TX10, 5), (RX11, TX11, 19), (RX12, TX12, 46)]
set_option maxRecDepth 20000 in
theorem inX0 : ∀ w ∈ wsX00, w ∈ lw_tbl := by decide +kernel
set_option maxRecDepth 20000 in
theorem inX1 : ∀ w ∈ wsX10, w ∈ lw_tbl := by decide +kernel
set_option maxRecDepth 20000 in
theorem inX2 : ∀ w ∈ wsX20, w ∈ lw_tbl := by decide +kernel
set_option maxRecDepth 20000 in
theorem inX3 : ∀ w ∈ wsX30, w ∈ lw_tbl := by decide +kernel
set_option maxRecDepth 20000 in
theorem inX4 : ∀ w ∈ wsX40, w ∈ lw_tbl := by decide +kernel
set_option maxRecDepth 20000 in
theorem inX5 : ∀ w ∈ wsX50, w ∈ lw_tbl := by decide +kernel
set_option maxRecDepth 20000 in
theorem inX6 : ∀ w ∈ wsX60, w ∈ lw_tbl := by decide +kernel
set_option maxRecDepth 20000 in
theorem inX7 : ∀ w ∈ wsX70, w ∈ lw_tbl := by decide +kernel
set_option maxRecDepth 20000 in
theorem inX8 : ∀ w ∈ wsX80, w ∈ lw_tbl := by decide +kernel
set_option maxRecDepth 20000 in
theorem inX9 : ∀ w ∈ wsX90, w ∈ lw_tbl := by decide +kernel
set_option maxRecDepth 20000 in
theorem inX10 : ∀ w ∈ wsX100, w ∈ lw_tbl := by decide +kernel
set_option maxRecDepth 20000 in
theorem inX11 : ∀ w ∈ wsX110, w ∈ lw_tbl := by decide +kernel
set_option maxRecDepth 20000 in
theorem inX12 : ∀ w ∈ wsX120, w ∈ lw_tbl := by decide +kernel
theorem inJ6 : ∀ w ∈ wsJ60, w ∈ lw_tbl := by decide +kernel
theorem inJ9 : ∀ w ∈ wsJ90, w ∈ lw_tbl := by decide +kernel
theorem inJ0 : ∀ w ∈ wsJ00, w ∈ lw_tbl := by decide +kernel
theorem inJ1 : ∀ w ∈ wsJ10, w ∈ lw_tbl := by decide +kernel
theorem inJ2 : ∀ w ∈ wsJ20, w ∈ lw_tbl := by decide +kernel
theorem inJ10 : ∀ w ∈ wsJ100, w ∈ lw_tbl := by decide +kernel
theorem inJ3 : ∀ w ∈ wsJ30, w ∈ lw_tbl := by decide +kernel
end
section
/-! A SMALL MACHINE: values are whole numbers (int, long), the number of a cell, or a constant's number; a heap is shapes, references, numbers -/
abbrev mv := Int ⊕ Int ⊕ Nat ⊕ Nat
abbrev mI (x : Int) : mv := Sum.inl x
abbrev mL (x : Int) : mv := Sum.inr (Sum.inl x)
abbrev mR (a : Nat) : mv := Sum.inr (Sum.inr (Sum.inl a))
abbrev mC (a : Nat) : mv := Sum.inr (Sum.inr (Sum.inr a))
/-- a cell's shape: a class's number, or an array's kind (0 int, 1 long, 2 byte, 3 row of longs, 10 + c: of class c) and length -/
abbrev mSh := List (Nat ⊕ (Nat × Nat))
abbrev mRf := List (List (Option Nat))
abbrev mM := Nat → Int → Int
abbrev mH := mSh × mRf × mM
abbrev mOut := Option (List mv × mH)
/-- an instruction, the place behind it, what it names -/
abbrev mIn := Instr × Nat × List Nat
abbrev mCode := List mIn
def nth {α : Type} : List α → Nat → Option α
  | [], _ => none
  | a :: _, 0 => some a
  | _ :: l, n + 1 => nth l n
def lset {α : Type} : List α → Nat → α → List α
  | [], _, _ => []
  | _ :: l, 0, b => b :: l
  | a :: l, n + 1, b => a :: lset l n b
def upM (h : mM) (a : Nat) (i : Int) (v : Int) : mM := fun a' i' => if a' = a ∧ i' = i then v else h a' i'
abbrev inI (x : Int) : Prop := -2147483648 ≤ x ∧ x ≤ 2147483647
abbrev inL (x : Int) : Prop := -9223372036854775808 ≤ x ∧ x ≤ 9223372036854775807
abbrev inB (x : Int) : Prop := -128 ≤ x ∧ x ≤ 127
abbrev inA (i : Int) (n : Nat) : Prop := 0 ≤ i ∧ i < (n : Int)
def fAnd (x y : Int) : Int := (Int32.ofInt x &&& Int32.ofInt y).toInt
def fOr (x y : Int) : Int := (Int32.ofInt x ||| Int32.ofInt y).toInt
def fXor (x y : Int) : Int := (Int32.ofInt x ^^^ Int32.ofInt y).toInt
def fShl (x y : Int) : Int := (Int32.ofInt x <<< (Int32.ofInt y &&& 31)).toInt
def fShr (x y : Int) : Int := (Int32.ofInt x >>> (Int32.ofInt y &&& 31)).toInt
def fUshr (x y : Int) : Int := ((Int32.ofInt x).toUInt32 >>> ((Int32.ofInt y).toUInt32 &&& Int32.toUInt32 31)).toInt32.toInt
def fLand (x y : Int) : Int := (Int64.ofInt x &&& Int64.ofInt y).toInt
def fLor (x y : Int) : Int := (Int64.ofInt x ||| Int64.ofInt y).toInt
def fLshl (x y : Int) : Int := (Int64.ofInt x <<< ((Int32.ofInt y).toInt64 &&& 63)).toInt
def fL2i (x : Int) : Int := (Int64.ofInt x).toInt32.toInt
def fI2b (x : Int) : Int := (Int32.ofInt x).toInt8.toInt32.toInt
def fI2s (x : Int) : Int := (Int32.ofInt x).toInt16.toInt32.toInt
/-- what stays of a value whose second half a store covers -/
def kl (a : mv) : mv := match a with
  | .inr (.inl _) => mC 0
  | a => a
/-- a store to a place: a long that lay one ahead is gone -/
def stK {ρ : Type} (v : mv) : Nat → List mv → (List mv → Option ρ) → Option ρ
  | 0, _ :: l, K => K (v :: l)
  | 1, a :: _ :: l, K => K (kl a :: v :: l)
  | k + 2, a :: l, K => stK v (k + 1) l (fun l => K (a :: l))
  | _, _, _ => none
/-- a store of a long to a place and the next -/
def stL {ρ : Type} (v : mv) : Nat → List mv → (List mv → Option ρ) → Option ρ
  | 0, _ :: _ :: l, K => K (v :: mC 0 :: l)
  | 1, a :: _ :: _ :: l, K => K (kl a :: v :: mC 0 :: l)
  | k + 2, a :: l, K => stL v (k + 1) l (fun l => K (a :: l))
  | _, _, _ => none
def mEntry : List mv → List mv
  | [] => []
  | .inr (.inl x) :: r => mL x :: mC 0 :: mEntry r
  | v :: r => v :: mEntry r
def mPad : Nat → List mv → List mv
  | 0, _ => []
  | n + 1, [] => mC 0 :: mPad n []
  | n + 1, v :: r => v :: mPad n r
def mObj (s : mSh) (a ci : Nat) : Bool := match nth s a with
  | some (.inl c) => Nat.beq c ci
  | _ => false
/-- an array's length, if it is of that kind -/
def mArr (s : mSh) (a ty : Nat) : Option Nat := match nth s a with
  | some (.inr (t, n)) => match Nat.beq t ty with
    | true => some n
    | false => none
  | _ => none
/-- n cells of a shape more -/
def mTake : Nat → List mv → List mv → Option (List mv × List mv)
  | 0, acc, st => some (acc, st)
  | n + 1, acc, v :: st => mTake n (v :: acc) st
  | _ + 1, _, [] => none
def mCpy (h : mM) (a : Nat) (i : Int) (b : Nat) (j n : Int) : mM := fun a' k => if a' = b ∧ j ≤ k ∧ k < j + n then h a (i + (k - j)) else h a' k
def mCpyC (h : mM) (l : List Int) (i : Int) (b : Nat) (j n : Int) : mM := fun a' k => if a' = b ∧ j ≤ k ∧ k < j + n then (nth l (i + (k - j)).toNat).getD 0 else h a' k
/-- how many words lie on the stack -/
def wds : List mv → Nat
  | [] => 0
  | .inr (.inl _) :: r => wds r + 2
  | _ :: r => wds r + 1
/-- few words -/
def few {ρ : Type} (st : List mv) (k : Option ρ) : Option ρ := match Nat.ble (wds st) 8 with
  | true => k
  | false => none
/-- behind a call: what came back -/
def cV {ρ : Type} (o : Option (List mv × mM)) (K : mM → Option ρ) : Option ρ := match o with
  | some ([], h) => K h
  | _ => none
def cI {ρ : Type} (o : Option (List mv × mM)) (K : Int → mM → Option ρ) : Option ρ := match o with
  | some ([.inl v], h) => K v h
  | _ => none
def cL {ρ : Type} (o : Option (List mv × mM)) (K : Int → mM → Option ρ) : Option ρ := match o with
  | some ([.inr (.inl v)], h) => K v h
  | _ => none
def cR {ρ : Type} (o : Option (List mv × mM)) (K : Nat → mM → Option ρ) : Option ρ := match o with
  | some ([.inr (.inr (.inl v))], h) => K v h
  | _ => none
section
variable {ρ : Type}
def pB (c : Nat) (x y : Int) (A B : Option ρ) : Option ρ := match c with
  | 0 => if x = y then A else B
  | 1 => if x = y then B else A
  | 2 => if x < y then A else B
  | 3 => if x < y then B else A
  | 4 => if y < x then A else B
  | _ => if y < x then B else A
def pSw (x : Int) (N : Nat → Option ρ) (d : Nat) : Int → List Nat → Option ρ
  | _, [] => N d
  | lo, t :: ts => if x = lo then N t else pSw x N d (lo + 1) ts
def pLk (x : Int) (N : Nat → Option ρ) (d : Nat) : List Nat → Option ρ
  | k :: t :: r => if x = (k : Int) then N t else pLk x N d r
  | _ => N d
/-- ONE INSTRUCTION that makes no cell and moves no reference -/
def ex1 (S : mSh) (R : List (List (Option Nat))) (ct : Nat → List Int) (cl : Nat → Nat → List mv → mM → Option (List mv × mM)) (ret : List mv → mM → Option ρ) (N : Nat → List mv → List mv → mM → Option ρ) (i : mIn) (ls st : List mv) (h : mM) : Option ρ :=
  match i.1 with
  | .iconst n => N i.2.1 ls (mI n :: st) h
  | .sipush n => N i.2.1 ls (mL n :: st) h
  | .ldc k => N i.2.1 ls (mC k :: st) h
  | .iload k => match nth ls k with
    | some (.inl x) => N i.2.1 ls (mI x :: st) h
    | _ => none
  | .lload k => match nth ls k with
    | some (.inr (.inl x)) => N i.2.1 ls (mL x :: st) h
    | _ => none
  | .aload k => match nth ls k with
    | some (.inr (.inr (.inl a))) => N i.2.1 ls (mR a :: st) h
    | some (.inr (.inr (.inr (a + 1)))) => N i.2.1 ls (mC (a + 1) :: st) h
    | _ => none
  | .istore k => match st with
    | .inl x :: st => stK (mI x) k ls (fun ls => N i.2.1 ls st h)
    | _ => none
  | .lstore k => match st with
    | .inr (.inl x) :: st => stL (mL x) k ls (fun ls => N i.2.1 ls st h)
    | _ => none
  | .astore k => match st with
    | .inr (.inr (.inl a)) :: st => stK (mR a) k ls (fun ls => N i.2.1 ls st h)
    | _ => none
  | .iinc k n => match nth ls k with
    | some (.inl x) => if inI (x + n) then stK (mI (x + n)) k ls (fun ls => N i.2.1 ls st h) else none
    | _ => none
  | .iadd => match st with
    | .inl y :: .inl x :: st => if inI (x + y) then N i.2.1 ls (mI (x + y) :: st) h else none
    | _ => none
  | .isub => match st with
    | .inl y :: .inl x :: st => if inI (x - y) then N i.2.1 ls (mI (x - y) :: st) h else none
    | _ => none
  | .imul => match st with
    | .inl y :: .inl x :: st => if inI (x * y) then N i.2.1 ls (mI (x * y) :: st) h else none
    | _ => none
  | .idiv => match st with
    | .inl y :: .inl x :: st => if 0 ≤ x ∧ 0 < y then N i.2.1 ls (mI (x / y) :: st) h else none
    | _ => none
  | .irem => match st with
    | .inl y :: .inl x :: st => if 0 ≤ x ∧ 0 < y then N i.2.1 ls (mI (x % y) :: st) h else none
    | _ => none
  | .ladd => match st with
    | .inr (.inl y) :: .inr (.inl x) :: st => if inL (x + y) then N i.2.1 ls (mL (x + y) :: st) h else none
    | _ => none
  | .lsub => match st with
    | .inr (.inl y) :: .inr (.inl x) :: st => if inL (x - y) then N i.2.1 ls (mL (x - y) :: st) h else none
    | _ => none
  | .lmul => match st with
    | .inr (.inl y) :: .inr (.inl x) :: st => if inL (x * y) then N i.2.1 ls (mL (x * y) :: st) h else none
    | _ => none
  | .ldiv => match st with
    | .inr (.inl y) :: .inr (.inl x) :: st => if 0 ≤ x ∧ 0 < y then N i.2.1 ls (mL (x / y) :: st) h else none
    | _ => none
  | .lrem => match st with
    | .inr (.inl y) :: .inr (.inl x) :: st => if 0 ≤ x ∧ 0 < y then N i.2.1 ls (mL (x % y) :: st) h else none
    | _ => none
  | .iand => match st with
    | .inl y :: .inl x :: st => N i.2.1 ls (mI (fAnd x y) :: st) h
    | _ => none
  | .ior => match st with
    | .inl y :: .inl x :: st => N i.2.1 ls (mI (fOr x y) :: st) h
    | _ => none
  | .ixor => match st with
    | .inl y :: .inl x :: st => N i.2.1 ls (mI (fXor x y) :: st) h
    | _ => none
  | .ishl => match st with
    | .inl y :: .inl x :: st => N i.2.1 ls (mI (fShl x y) :: st) h
    | _ => none
  | .ishr => match st with
    | .inl y :: .inl x :: st => N i.2.1 ls (mI (fShr x y) :: st) h
    | _ => none
  | .iushr => match st with
    | .inl y :: .inl x :: st => N i.2.1 ls (mI (fUshr x y) :: st) h
    | _ => none
  | .land => match st with
    | .inr (.inl y) :: .inr (.inl x) :: st => N i.2.1 ls (mL (fLand x y) :: st) h
    | _ => none
  | .lor => match st with
    | .inr (.inl y) :: .inr (.inl x) :: st => N i.2.1 ls (mL (fLor x y) :: st) h
    | _ => none
  | .lshl => match st with
    | .inl y :: .inr (.inl x) :: st => N i.2.1 ls (mL (fLshl x y) :: st) h
    | _ => none
  | .i2l => match st with
    | .inl x :: st => N i.2.1 ls (mL x :: st) h
    | _ => none
  | .l2i => match st with
    | .inr (.inl x) :: st => N i.2.1 ls (mI (fL2i x) :: st) h
    | _ => none
  | .i2b => match st with
    | .inl x :: st => N i.2.1 ls (mI (fI2b x) :: st) h
    | _ => none
  | .i2s => match st with
    | .inl x :: st => N i.2.1 ls (mI (fI2s x) :: st) h
    | _ => none
  | .dup => match st with
    | .inl x :: st => N i.2.1 ls (mI x :: mI x :: st) h
    | .inr (.inr v) :: st => N i.2.1 ls (.inr (.inr v) :: .inr (.inr v) :: st) h
    | _ => none
  | .dup2 => match st with
    | .inr (.inl x) :: st => N i.2.1 ls (mL x :: mL x :: st) h
    | .inl y :: .inl x :: st => N i.2.1 ls (mI y :: mI x :: mI y :: mI x :: st) h
    | .inl y :: .inr (.inr x) :: st => N i.2.1 ls (mI y :: .inr (.inr x) :: mI y :: .inr (.inr x) :: st) h
    | _ => none
  | .pop => match st with
    | .inl _ :: st => N i.2.1 ls st h
    | _ => none
  | .ifCond _ _ => match st, i.2.2 with
    | .inl x :: st, [c, t] => pB c x 0 (N t ls st h) (N i.2.1 ls st h)
    | _, _ => none
  | .if_icmp _ _ => match st, i.2.2 with
    | .inl y :: .inl x :: st, [c, t] => pB c x y (N t ls st h) (N i.2.1 ls st h)
    | _, _ => none
  | .lcmp => match st, i.2.2 with
    | .inr (.inl y) :: .inr (.inl x) :: st, [c, t] => pB c x y (N t ls st h) (N i.2.1 ls st h)
    | _, _ => none
  | .goto _ => match i.2.2 with
    | [t] => N t ls st h
    | _ => none
  | .tableswitch _ lo _ _ => match st, i.2.2 with
    | .inl x :: st, d :: ts => pSw x (fun t => N t ls st h) d lo ts
    | _, _ => none
  | .lookupswitch _ _ => match st, i.2.2 with
    | .inl x :: st, d :: ts => pLk x (fun t => N t ls st h) d ts
    | _, _ => none
  | .getfield k => match st, i.2.2 with
    | .inr (.inr (.inl a)) :: st, [ci, ty] => match mObj S a ci with
      | true => match ty with
        | 0 => N i.2.1 ls (mI (h a (k : Int)) :: st) h
        | 1 => N i.2.1 ls (mL (h a (k : Int)) :: st) h
        | 2 => match nth R a with
          | some l => match nth l k with
            | some (some b) => N i.2.1 ls (mR b :: st) h
            | _ => none
          | none => none
        | _ => none
      | false => none
    | _, _ => none
  | .putfield k => match i.2.2 with
    | [ci, ty] => match ty with
      | 0 => match st with
        | .inl x :: .inr (.inr (.inl a)) :: st => match mObj S a ci with
          | true => N i.2.1 ls st (upM h a (k : Int) x)
          | false => none
        | _ => none
      | 1 => match st with
        | .inr (.inl x) :: .inr (.inr (.inl a)) :: st => match mObj S a ci with
          | true => N i.2.1 ls st (upM h a (k : Int) x)
          | false => none
        | _ => none
      | 3 => match st with
        | .inl x :: .inr (.inr (.inl a)) :: st => match mObj S a ci with
          | true => if 0 ≤ x ∧ x ≤ 1 then N i.2.1 ls st (upM h a (k : Int) x) else none
          | false => none
        | _ => none
      | _ => none
    | _ => none
  | .iaload => match st with
    | .inl x :: .inr (.inr (.inl a)) :: st => match mArr S a 0 with
      | some n => if inA x n then N i.2.1 ls (mI (h a x) :: st) h else none
      | none => none
    | .inl x :: .inr (.inr (.inr k)) :: st => if inA x (ct k).length then N i.2.1 ls (mI ((nth (ct k) x.toNat).getD 0) :: st) h else none
    | _ => none
  | .laload => match st with
    | .inl x :: .inr (.inr (.inl a)) :: st => match mArr S a 1 with
      | some n => if inA x n then N i.2.1 ls (mL (h a x) :: st) h else none
      | none => none
    | _ => none
  | .baload => match st with
    | .inl x :: .inr (.inr (.inl a)) :: st => match mArr S a 2 with
      | some n => if inA x n then N i.2.1 ls (mI (h a x) :: st) h else none
      | none => none
    | _ => none
  | .aaload => match st, i.2.2 with
    | .inl x :: .inr (.inr (.inl a)) :: st, [ty] => match mArr S a ty with
      | some n => match nth R a with
        | some l => match nth l x.toNat with
          | some (some b) => if inA x n then N i.2.1 ls (mR b :: st) h else none
          | _ => none
        | none => none
      | none => none
    | _, _ => none
  | .iastore => match st with
    | .inl v :: .inl x :: .inr (.inr (.inl a)) :: st => match mArr S a 0 with
      | some n => if inA x n then N i.2.1 ls st (upM h a x v) else none
      | none => none
    | _ => none
  | .lastore => match st with
    | .inr (.inl v) :: .inl x :: .inr (.inr (.inl a)) :: st => match mArr S a 1 with
      | some n => if inA x n then N i.2.1 ls st (upM h a x v) else none
      | none => none
    | _ => none
  | .bastore => match st with
    | .inl v :: .inl x :: .inr (.inr (.inl a)) :: st => match mArr S a 2 with
      | some n => if inA x n then if inB v then N i.2.1 ls st (upM h a x v) else none else none
      | none => none
    | _ => none
  | .arraylength => match st with
    | .inr (.inr (.inr k)) :: st => few st (N i.2.1 ls (mI ((ct k).length : Int) :: st) h)
    | _ => none
  | .caload => match st with
    | .inl x :: .inr (.inr (.inr k)) :: st => few st (if inA x (ct k).length then N i.2.1 ls (mI ((nth (ct k) x.toNat).getD 0) :: st) h else none)
    | _ => none
  | .dadd => match st with
    | .inl y :: .inl x :: st => few st (N i.2.1 ls (mI (max x y) :: st) h)
    | _ => none
  | .dsub => match st with
    | .inl y :: .inl x :: st => few st (N i.2.1 ls (mI (min x y) :: st) h)
    | _ => none
  | .dneg => match st with
    | .inl x :: st => few st (if inI (-x) then N i.2.1 ls (mI (if x < 0 then -x else x) :: st) h else none)
    | _ => none
  | .dmul => match st with
    | .inr (.inl y) :: .inr (.inl x) :: st => few st (N i.2.1 ls (mL (max x y) :: st) h)
    | _ => none
  | .swap => match st, i.2.2 with
    | .inl n :: .inl y :: .inr (.inr (.inl b)) :: .inl x :: .inr (.inr (.inl a)) :: st, [ty] => match mArr S a ty with
      | some na => match mArr S b ty with
        | some nb => few st (if (0 ≤ n ∧ 0 ≤ x ∧ 0 ≤ y) ∧ x + n ≤ (na : Int) ∧ y + n ≤ (nb : Int) then N i.2.1 ls st (mCpy h a x b y n) else none)
        | none => none
      | none => none
    | .inl n :: .inl y :: .inr (.inr (.inl b)) :: .inl x :: .inr (.inr (.inr k)) :: st, [_] => match mArr S b 0 with
      | some nb => few st (if (0 ≤ n ∧ 0 ≤ x ∧ 0 ≤ y) ∧ x + n ≤ ((ct k).length : Int) ∧ y + n ≤ (nb : Int) then N i.2.1 ls st (mCpyC h (ct k) x b y n) else none)
      | none => none
    | _, _ => none
  | .invokestatic id => match i.2.2 with
    | [na, fl, kd] => match mTake na [] st with
      | some (args, rest) => few rest (match kd with
        | 0 => cV (cl id fl args h) (fun h' => N i.2.1 ls rest h')
        | 1 => cI (cl id fl args h) (fun v h' => N i.2.1 ls (mI v :: rest) h')
        | 2 => cL (cl id fl args h) (fun v h' => N i.2.1 ls (mL v :: rest) h')
        | 3 => cR (cl id fl args h) (fun v h' => N i.2.1 ls (mR v :: rest) h')
        | _ => none)
      | none => none
    | _ => none
  | .ireturn => match st, i.2.2 with
    | [.inl x], [ty] => match ty with
      | 0 => ret [mI x] h
      | _ => if 0 ≤ x ∧ x ≤ 1 then ret [mI x] h else none
    | _, _ => none
  | .lreturn => match st with
    | [.inr (.inl x)] => ret [mL x] h
    | _ => none
  | .areturn => match st with
    | [.inr (.inr (.inl a))] => ret [mR a] h
    | _ => none
  | .return_ => match st with
    | [] => ret [] h
    | _ => none
  | _ => none
end
/-- a program: of a method's number its code and how many locals it has -/
abbrev mPr := Nat → mCode × Nat
section
variable (P : mPr) (S : mSh) (R : List (List (Option Nat))) (ct : Nat → List Int)
/-- so many steps at most, so deep at most -/
def exN : Nat → Nat → mCode → Nat → List mv → List mv → mM → Option (List mv × mM)
  | 0, _, _, _, _, _, _ => none
  | n + 1, d, c, j, ls, st, h => match nth c j with
    | none => none
    | some i => ex1 S R ct (fun id fl args h => match fl, d with
        | 0, d => exN n d (P id).1 0 (mPad (P id).2 (mEntry args)) [] h
        | _, d + 1 => exN n d (P id).1 0 (mPad (P id).2 (mEntry args)) [] h
        | _, 0 => none) (fun v h => some (v, h)) (exN n d c) i ls st h
/-- where it comes to, however many steps it takes -/
noncomputable def Ex (d : Nat) (c : mCode) (j : Nat) (ls st : List mv) (h : mM) : Option (List mv × mM) :=
  @dite _ (∃ r n, exN P S R ct n d c j ls st h = some r) (Classical.propDecidable _) (fun q => some (Classical.choose q)) (fun _ => none)
noncomputable def Cl (d : Nat) (id fl : Nat) (args : List mv) (h : mM) : Option (List mv × mM) := match fl, d with
  | 0, d => Ex P S R ct d (P id).1 0 (mPad (P id).2 (mEntry args)) [] h
  | _, d + 1 => Ex P S R ct d (P id).1 0 (mPad (P id).2 (mEntry args)) [] h
  | _, 0 => none
end
end
section
section
variable {ρ : Type}
/-- what a comes to, b n comes to from some n on -/
def Tr (a : Option ρ) (b : Nat → Option ρ) : Prop := ∀ r, a = some r → ∃ n0, ∀ n, n0 ≤ n → b n = some r
theorem Tr.none' {b : Nat → Option ρ} : Tr none b := fun r h => by cases h
theorem Tr.same (a : Option ρ) : Tr a (fun _ => a) := fun r h => ⟨0, fun _ _ => h⟩
theorem Tr.ite {c : Prop} [Decidable c] {a a' : Option ρ} {b b' : Nat → Option ρ} (h : Tr a b) (h' : Tr a' b') : Tr (if c then a else a') (fun n => if c then b n else b' n) := by
  by_cases q : c
  · simpa only [if_pos q] using h
  · simpa only [if_neg q] using h'
theorem Tr.pB {c : Nat} {x y : Int} {a a' : Option ρ} {b b' : Nat → Option ρ} (h : Tr a b) (h' : Tr a' b') : Tr (pB c x y a a') (fun n => pB c x y (b n) (b' n)) := by
  unfold Jvm.Pilot.@@N@@.pB
  split
  · exact Tr.ite h h'
  · exact Tr.ite h' h
  · exact Tr.ite h h'
  · exact Tr.ite h' h
  · exact Tr.ite h h'
  · exact Tr.ite h' h
theorem Tr.pSw {x : Int} {d : Nat} {N : Nat → Option ρ} {M : Nat → Nat → Option ρ} (h : ∀ t, Tr (N t) (fun n => M n t)) : ∀ (l : List Nat) (lo : Int), Tr (pSw x N d lo l) (fun n => pSw x (M n) d lo l)
  | [], lo => h d
  | t :: ts, lo => Tr.ite (h t) (Tr.pSw h ts (lo + 1))
theorem Tr.pLk {x : Int} {d : Nat} {N : Nat → Option ρ} {M : Nat → Nat → Option ρ} (h : ∀ t, Tr (N t) (fun n => M n t)) : ∀ (l : List Nat), Tr (pLk x N d l) (fun n => pLk x (M n) d l)
  | [] => h d
  | [_] => h d
  | _ :: t :: ts => Tr.ite (h t) (Tr.pLk h ts)
theorem Tr.cV {o : Option (List mv × mM)} {p : Nat → Option (List mv × mM)} {K : mM → Option ρ} {L : Nat → mM → Option ρ} (ho : Tr o p) (h : ∀ m, Tr (K m) (fun n => L n m)) : Tr (cV o K) (fun n => cV (p n) (L n)) := by
  intro r H
  unfold Jvm.Pilot.@@N@@.cV at H
  split at H
  · next m =>
    obtain ⟨n1, h1⟩ := ho _ rfl
    obtain ⟨n2, h2⟩ := h _ r H
    refine ⟨max n1 n2, fun n hn => ?_⟩
    (try dsimp only)
    (try dsimp only)
    rw [h1 n (by omega)]
    exact h2 n (by omega)
  · cases H
theorem Tr.cI {o : Option (List mv × mM)} {p : Nat → Option (List mv × mM)} {K : Int → mM → Option ρ} {L : Nat → Int → mM → Option ρ} (ho : Tr o p) (h : ∀ v m, Tr (K v m) (fun n => L n v m)) : Tr (cI o K) (fun n => cI (p n) (L n)) := by
  intro r H
  unfold Jvm.Pilot.@@N@@.cI at H
  split at H
  · next v m =>
    obtain ⟨n1, h1⟩ := ho _ rfl
    obtain ⟨n2, h2⟩ := h _ _ r H
    refine ⟨max n1 n2, fun n hn => ?_⟩
    (try dsimp only)
    rw [h1 n (by omega)]
    exact h2 n (by omega)
  · cases H
theorem Tr.cL {o : Option (List mv × mM)} {p : Nat → Option (List mv × mM)} {K : Int → mM → Option ρ} {L : Nat → Int → mM → Option ρ} (ho : Tr o p) (h : ∀ v m, Tr (K v m) (fun n => L n v m)) : Tr (cL o K) (fun n => cL (p n) (L n)) := by
  intro r H
  unfold Jvm.Pilot.@@N@@.cL at H
  split at H
  · next v m =>
    obtain ⟨n1, h1⟩ := ho _ rfl
    obtain ⟨n2, h2⟩ := h _ _ r H
    refine ⟨max n1 n2, fun n hn => ?_⟩
    (try dsimp only)
    rw [h1 n (by omega)]
    exact h2 n (by omega)
  · cases H
theorem Tr.cR {o : Option (List mv × mM)} {p : Nat → Option (List mv × mM)} {K : Nat → mM → Option ρ} {L : Nat → Nat → mM → Option ρ} (ho : Tr o p) (h : ∀ v m, Tr (K v m) (fun n => L n v m)) : Tr (cR o K) (fun n => cR (p n) (L n)) := by
  intro r H
  unfold Jvm.Pilot.@@N@@.cR at H
  split at H
  · next v m =>
    obtain ⟨n1, h1⟩ := ho _ rfl
    obtain ⟨n2, h2⟩ := h _ _ r H
    refine ⟨max n1 n2, fun n hn => ?_⟩
    (try dsimp only)
    rw [h1 n (by omega)]
    exact h2 n (by omega)
  · cases H
theorem Tr.few {st : List mv} {a : Option ρ} {b : Nat → Option ρ} (h : Tr a b) : Tr (few st a) (fun n => few st (b n)) := by
  unfold Jvm.Pilot.@@N@@.few
  split
  · exact h
  · exact Tr.none'
theorem Tr.stK {v : mv} : ∀ (k : Nat) (ls : List mv) {K : List mv → Option ρ} {L : Nat → List mv → Option ρ}, (∀ l, Tr (K l) (fun n => L n l)) → Tr (stK v k ls K) (fun n => stK v k ls (L n))
  | 0, [], _, _, _ => Tr.none'
  | 0, _ :: l, _, _, h => h _
  | 1, [], _, _, _ => Tr.none'
  | 1, [_], _, _, _ => Tr.none'
  | 1, a :: _ :: l, _, _, h => h _
  | k + 2, [], _, _, _ => Tr.none'
  | k + 2, a :: l, _, _, h => Tr.stK (k + 1) l (fun l => h (a :: l))
theorem Tr.stL {v : mv} : ∀ (k : Nat) (ls : List mv) {K : List mv → Option ρ} {L : Nat → List mv → Option ρ}, (∀ l, Tr (K l) (fun n => L n l)) → Tr (stL v k ls K) (fun n => stL v k ls (L n))
  | 0, [], _, _, _ => Tr.none'
  | 0, [_], _, _, _ => Tr.none'
  | 0, _ :: _ :: l, _, _, h => h _
  | 1, [], _, _, _ => Tr.none'
  | 1, [_], _, _, _ => Tr.none'
  | 1, [_, _], _, _, _ => Tr.none'
  | 1, a :: _ :: _ :: l, _, _, h => h _
  | k + 2, [], _, _, _ => Tr.none'
  | k + 2, a :: l, _, _, h => Tr.stL (k + 1) l (fun l => h (a :: l))
theorem ex1_tr (S : mSh) (R : List (List (Option Nat))) (ct : Nat → List Int) {cl : Nat → Nat → List mv → mM → Option (List mv × mM)} {cl' : Nat → Nat → Nat → List mv → mM → Option (List mv × mM)} {ret : List mv → mM → Option ρ} {N : Nat → List mv → List mv → mM → Option ρ} {N' : Nat → Nat → List mv → List mv → mM → Option ρ}
    (hcl : ∀ id fl a h, Tr (cl id fl a h) (fun n => cl' n id fl a h)) (hN : ∀ j ls st h, Tr (N j ls st h) (fun n => N' n j ls st h)) (i : mIn) (ls st : List mv) (h : mM) :
    Tr (ex1 S R ct cl ret N i ls st h) (fun n => ex1 S R ct (cl' n) ret (N' n) i ls st h) := by
  intro r H
  obtain ⟨o, nx, l⟩ := i
  unfold ex1 at H ⊢
  dsimp only at H ⊢
  split at H
  all_goals repeat' first
    | (cases H; done)
    | exact hN _ _ _ _ _ H
    | exact ⟨0, fun _ _ => H⟩
    | (revert H; exact Tr.ite (hN _ _ _ _) Tr.none' _)
    | (revert H; exact Tr.ite (Tr.ite (hN _ _ _ _) Tr.none') Tr.none' _)
    | (revert H; exact Tr.ite (Tr.same _) Tr.none' _)
    | (revert H; exact Tr.stK _ _ (fun l => hN _ _ _ _) _)
    | (revert H; exact Tr.stL _ _ (fun l => hN _ _ _ _) _)
    | (revert H; exact Tr.ite (Tr.stK _ _ (fun l => hN _ _ _ _)) Tr.none' _)
    | (revert H; exact Tr.few (hN _ _ _ _) _)
    | (revert H; exact Tr.few (Tr.ite (hN _ _ _ _) Tr.none') _)
    | (unfold few at H ⊢; split at H)
    | (revert H; exact Tr.pB (hN _ _ _ _) (hN _ _ _ _) _)
    | (revert H; exact Tr.pSw (fun t => hN _ _ _ _) _ _ _)
    | (revert H; exact Tr.pLk (fun t => hN _ _ _ _) _ _)
    | (revert H; exact Tr.cV (hcl _ _ _ _) (fun m => hN _ _ _ _) _)
    | (revert H; exact Tr.cI (hcl _ _ _ _) (fun v m => hN _ _ _ _) _)
    | (revert H; exact Tr.cL (hcl _ _ _ _) (fun v m => hN _ _ _ _) _)
    | (revert H; exact Tr.cR (hcl _ _ _ _) (fun v m => hN _ _ _ _) _)
    | split at H
end
section
variable (P : mPr) (S : mSh) (R : List (List (Option Nat))) (ct : Nat → List Int)
def clN (n d : Nat) (id fl : Nat) (args : List mv) (h : mM) : Option (List mv × mM) := match fl, d with
  | 0, d => exN P S R ct n d (P id).1 0 (mPad (P id).2 (mEntry args)) [] h
  | _, d + 1 => exN P S R ct n d (P id).1 0 (mPad (P id).2 (mEntry args)) [] h
  | _, 0 => none
theorem exN_succ (n d : Nat) (c : mCode) (j : Nat) (ls st : List mv) (h : mM) : exN P S R ct (n + 1) d c j ls st h = match nth c j with
    | none => none
    | some i => ex1 S R ct (clN P S R ct n d) (fun v h => some (v, h)) (exN P S R ct n d c) i ls st h := by
  rw [exN]
  rfl
theorem exN_ev : ∀ (n d : Nat) (c : mCode) (j : Nat) (ls st : List mv) (h : mM), Tr (exN P S R ct n d c j ls st h) (fun k => exN P S R ct k d c j ls st h) := by
  intro n
  induction n with
  | zero => intro d c j ls st h r H; cases H
  | succ n ih =>
    intro d c j ls st h r H
    rw [exN_succ] at H
    split at H
    · cases H
    · next i hi =>
      have hcl : ∀ id fl a h, Tr (clN P S R ct n d id fl a h) (fun k => clN P S R ct k d id fl a h) := by
        intro id fl a h
        cases fl with
        | zero => exact ih _ _ _ _ _ _
        | succ fl => cases d with
          | zero => exact Tr.none'
          | succ d => exact ih _ _ _ _ _ _
      obtain ⟨n0, h0⟩ := ex1_tr S R ct hcl (fun j ls st h => ih d c j ls st h) i ls st h r H
      refine ⟨n0 + 1, fun k hk => ?_⟩
      obtain ⟨k, rfl⟩ : ∃ q, k = q + 1 := ⟨k - 1, by omega⟩
      show exN P S R ct (k + 1) d c j ls st h = some r
      rw [exN_succ, hi]
      exact h0 k (by omega)
theorem Ex_iff {d : Nat} {c : mCode} {j : Nat} {ls st : List mv} {h : mM} {r : List mv × mM} : Ex P S R ct d c j ls st h = some r ↔ ∃ n, exN P S R ct n d c j ls st h = some r := by
  unfold Ex
  constructor
  · intro H
    split at H
    · next q =>
      cases H
      exact Classical.choose_spec q
    · cases H
  · rintro ⟨n, hn⟩
    have q : ∃ r n, exN P S R ct n d c j ls st h = some r := ⟨r, n, hn⟩
    rw [dif_pos q]
    obtain ⟨m, hm⟩ := Classical.choose_spec q
    obtain ⟨n1, h1⟩ := exN_ev P S R ct n d c j ls st h r hn
    obtain ⟨n2, h2⟩ := exN_ev P S R ct m d c j ls st h _ hm
    have e := (h1 (max n1 n2) (by omega)).symm.trans (h2 (max n1 n2) (by omega))
    exact e.symm
theorem Ex_tr (d : Nat) (c : mCode) (j : Nat) (ls st : List mv) (h : mM) : Tr (Ex P S R ct d c j ls st h) (fun k => exN P S R ct k d c j ls st h) := by
  intro r H
  obtain ⟨n, hn⟩ := (Ex_iff P S R ct).mp H
  exact exN_ev P S R ct n d c j ls st h r hn
theorem Cl_tr (d id fl : Nat) (a : List mv) (h : mM) : Tr (Cl P S R ct d id fl a h) (fun k => clN P S R ct k d id fl a h) := by
  cases fl with
  | zero => exact Ex_tr P S R ct _ _ _ _ _ _
  | succ fl => cases d with
    | zero => exact Tr.none'
    | succ d => exact Ex_tr P S R ct _ _ _ _ _ _
theorem Cl_of (n d id fl : Nat) (a : List mv) (h : mM) : Tr (clN P S R ct n d id fl a h) (fun _ => Cl P S R ct d id fl a h) := by
  cases fl with
  | zero => exact fun r H => ⟨0, fun _ _ => (Ex_iff P S R ct).mpr ⟨n, H⟩⟩
  | succ fl => cases d with
    | zero => exact Tr.none'
    | succ d => exact fun r H => ⟨0, fun _ _ => (Ex_iff P S R ct).mpr ⟨n, H⟩⟩
/-- one instruction on -/
theorem Ex_step {d : Nat} {c : mCode} {j : Nat} {i : mIn} (hi : nth c j = some i) (ls st : List mv) (h : mM) : Ex P S R ct d c j ls st h = ex1 S R ct (Cl P S R ct d) (fun v h => some (v, h)) (Ex P S R ct d c) i ls st h := by
  refine Option.ext fun r => ⟨fun H => ?_, fun H => ?_⟩
  · obtain ⟨n, hn⟩ := (Ex_iff P S R ct).mp H
    cases n with
    | zero => cases hn
    | succ n =>
      rw [exN_succ, hi] at hn
      obtain ⟨n0, h0⟩ := ex1_tr S R ct (fun id fl a h => Cl_of P S R ct n d id fl a h) (N' := fun _ => Ex P S R ct d c) (fun j ls st h r H => ⟨0, fun _ _ => (Ex_iff P S R ct).mpr ⟨n, H⟩⟩) i ls st h r hn
      exact h0 n0 (Nat.le_refl _)
  · obtain ⟨n0, h0⟩ := ex1_tr S R ct (fun id fl a h => Cl_tr P S R ct d id fl a h) (fun j ls st h => Ex_tr P S R ct d c j ls st h) i ls st h r H
    refine (Ex_iff P S R ct).mpr ⟨n0 + 1, ?_⟩
    rw [exN_succ, hi]
    exact h0 n0 (Nat.le_refl _)
theorem Ex_off {d : Nat} {c : mCode} {j : Nat} (hi : nth c j = none) (ls st : List mv) (h : mM) : Ex P S R ct d c j ls st h = none := by
  refine Option.ext fun r => ⟨fun H => ?_, fun H => by cases H⟩
  obtain ⟨n, hn⟩ := (Ex_iff P S R ct).mp H
  cases n with
  | zero => cases hn
  | succ n => rw [exN_succ, hi] at hn; cases hn
/-- so many instructions on, but to the stops -/
noncomputable def blk (d : Nat) (c : mCode) (stop : List Nat) : Nat → Nat → List mv → List mv → mM → Option (List mv × mM)
  | 0, j, ls, st, h => Ex P S R ct d c j ls st h
  | n + 1, j, ls, st, h => match nth c j with
    | none => none
    | some i => ex1 S R ct (Cl P S R ct d) (fun v h => some (v, h)) (fun j ls st h => match stop.elem j with
      | true => Ex P S R ct d c j ls st h
      | false => blk d c stop n j ls st h) i ls st h
theorem Ex_blk (d : Nat) (c : mCode) (stop : List Nat) : ∀ (n : Nat) (j : Nat) (ls st : List mv) (h : mM), Ex P S R ct d c j ls st h = blk P S R ct d c stop n j ls st h := by
  intro n
  induction n with
  | zero => intro j ls st h; rfl
  | succ n ih =>
    intro j ls st h
    show _ = (match nth c j with | none => none | some i => _)
    cases hi : nth c j with
    | none => exact Ex_off P S R ct hi ls st h
    | some i =>
      rw [Ex_step P S R ct hi]
      have e : (fun j ls st h => match stop.elem j with
        | true => Ex P S R ct d c j ls st h
        | false => blk P S R ct d c stop n j ls st h) = Ex P S R ct d c := by
        funext j ls st h
        split
        · rfl
        · exact (ih j ls st h).symm
      show _ = ex1 S R ct _ _ (fun j ls st h => match stop.elem j with
        | true => Ex P S R ct d c j ls st h
        | false => blk P S R ct d c stop n j ls st h) i ls st h
      rw [e]
end
end
section
/-! SIM 1: small values and worlds as real ones -/
def rV (ad aC : Nat → Nat) : mv → Value
  | .inl x => .int (Int32.ofInt x)
  | .inr (.inl x) => .long (Int64.ofInt x)
  | .inr (.inr (.inl a)) => .ref (ad a)
  | .inr (.inr (.inr k)) => .ref (aC k)
def vOk (n : Nat) : mv → Prop
  | .inl x => inI x
  | .inr (.inl x) => inL x
  | .inr (.inr (.inl a)) => a < n
  | .inr (.inr (.inr _)) => True
def asc (ad aC : Nat → Nat) : Nat → List mv → List (Nat × Value)
  | _, [] => []
  | i, v :: r => if v = mC 0 then asc ad aC (i + 1) r else (i, rV ad aC v) :: asc ad aC (i + 1) r
theorem mem_asc {ad aC : Nat → Nat} {q : Nat × Value} : ∀ {ls : List mv} {i : Nat}, q ∈ asc ad aC i ls ↔ ∃ k v, nth ls k = some v ∧ v ≠ mC 0 ∧ q = (i + k, rV ad aC v)
  | [], i => ⟨fun h => by simp [asc] at h, fun ⟨k, v, h, _⟩ => by cases k <;> cases h⟩
  | u :: r, i => by
    have ih := @mem_asc ad aC q r (i + 1)
    constructor
    · intro h
      unfold asc at h
      split at h
      · obtain ⟨k, v, h1, h2, h3⟩ := ih.mp h
        exact ⟨k + 1, v, h1, h2, by rw [h3]; congr 1; omega⟩
      · next hu =>
        rcases List.mem_cons.mp h with h | h
        · exact ⟨0, u, rfl, hu, h⟩
        · obtain ⟨k, v, h1, h2, h3⟩ := ih.mp h
          exact ⟨k + 1, v, h1, h2, by rw [h3]; congr 1; omega⟩
    · rintro ⟨k, v, h1, h2, h3⟩
      unfold asc
      cases k with
      | zero =>
        cases h1
        rw [if_neg h2, h3]
        exact List.mem_cons_self
      | succ k =>
        have h4 := ih.mpr ⟨k, v, h1, h2, by rw [h3]; congr 1; omega⟩
        split
        · exact h4
        · exact List.mem_cons_of_mem _ h4
theorem nth_lt {α : Type} : ∀ {l : List α} {k : Nat} {a : α}, nth l k = some a → k < l.length
  | [], k, _, h => by cases k <;> cases h
  | _ :: l, 0, _, _ => by simp
  | _ :: l, k + 1, a, h => by
    have := nth_lt (l := l) (k := k) (a := a) h
    simp only [List.length_cons]; omega
theorem nth_get {α : Type} : ∀ {l : List α} {k : Nat}, nth l k = l[k]?
  | [], k => by cases k <;> rfl
  | _ :: l, 0 => rfl
  | _ :: l, k + 1 => by
    rw [List.getElem?_cons_succ]
    exact nth_get (l := l) (k := k)
theorem nth_mem {α : Type} {l : List α} {k : Nat} {a : α} (h : nth l k = some a) : a ∈ l := by
  rw [nth_get] at h
  exact List.mem_of_getElem? h
/-- the classes' fields: 0 int, 1 long, 2 a reference, 3 boolean -/
def FT : List (List Nat) := [[0, 0, 2, 2, 2, 2, 2, 2, 2, 2], [2, 0, 0, 0], [2, 0], [2, 0, 0, 0, 0, 0, 0, 3], [2, 2, 0], [2, 2, 0], [2, 2, 0, 0, 0, 0, 0, 0, 0, 0, 1, 0, 0], [2, 2, 2, 2, 2, 2, 0, 0, 3], [2, 2, 2, 0], [2, 2, 2], [2, 2, 2, 0, 0], [0, 1, 1, 3, 2, 2, 2, 2, 2, 2, 2, 2, 2, 2, 2, 2, 2, 2, 2], [2, 2, 0, 1, 1, 2, 2, 2, 2, 2, 0, 0, 0, 0, 0, 0, 0, 0, 0, 0, 0, 2, 0, 0, 2, 2, 0, 0, 2, 0, 2, 2, 2, 2, 0, 2, 2, 2, 2, 0, 0, 2, 2, 2, 3, 0]]
def rfAt (r : mRf) (a k : Nat) : Option Nat := match nth r a with
  | some l => match nth l k with
    | some o => o
    | none => none
  | none => none
def fvl (ad : Nat → Nat) (r : mRf) (h : mM) (a k t : Nat) : Value := match t with
  | 1 => .long (Int64.ofInt (h a (k : Int)))
  | 2 => va_rf ((rfAt r a k).map ad)
  | _ => .int (Int32.ofInt (h a (k : Int)))
def fvs (ad : Nat → Nat) (r : mRf) (h : mM) (a : Nat) : Nat → List Nat → List Value
  | _, [] => []
  | k, t :: ts => fvl ad r h a k t :: fvs ad r h a (k + 1) ts
def acn (ad : Nat → Nat) (r : mRf) (h : mM) (a t : Nat) : (Nat → Int32) ⊕ (Nat → Int64) ⊕ (Nat → UInt32) ⊕ (Nat → UInt64) ⊕ (Nat → Option Nat) := match t with
  | 0 => .inl (fun j => Int32.ofInt (h a (j : Int)))
  | 1 => .inr (.inl (fun j => Int64.ofInt (h a (j : Int))))
  | 2 => .inl (fun j => Int32.ofInt (h a (j : Int)))
  | _ => .inr (.inr (.inr (.inr (fun j => (rfAt r a j).map ad))))
def cnm (ci : Nat) : String := match nth vwCl ci with
  | some q => q.1
  | none => ""
def aty (t : Nat) : FieldType := match t with
  | 0 => .int
  | 1 => .long
  | 2 => .byte
  | 3 => .array .long
  | t => .object (cnm (t - 10))
def Wld (tys : List (ClassId × FieldType)) (ws : va_W) (ad : Nat → Nat) (S : mSh) (r : mRf) (h : mM) : Prop :=
  ws.length = S.length ∧ (∀ a ci, nth S a = some (.inl ci) → ∃ f, nth FT ci = some f ∧ ws[a]? = some (ad a, .inr (ci, fvs ad r h a 0 f))) ∧
  (∀ a t n, nth S a = some (.inr (t, n)) → ∃ cA t0 : Nat, tys[t0]? = some (cA, aty t) ∧ n < 2147483648 ∧ ws[a]? = some (ad a, .inl (cA, n, acn ad r h a t))) ∧
  (∀ a k b, rfAt r a k = some b → b < S.length)
/-- is the number at a, k a long? -/
def isL (S : mSh) (a : Nat) (k : Int) : Bool := match nth S a with
  | some (.inl ci) => match nth FT ci with
    | some f => match nth f k.toNat with
      | some 1 => true
      | _ => false
    | none => false
  | some (.inr (1, _)) => true
  | _ => false
def mOk (S : mSh) (h : mM) : Prop := (∀ a k, inL (h a k)) ∧ ∀ a k, isL S a k = false → inI (h a k)
theorem fvs_get {ad : Nat → Nat} {r : mRf} {h : mM} {a : Nat} : ∀ {f : List Nat} {i k t : Nat}, nth f k = some t → (fvs ad r h a i f)[k]? = some (fvl ad r h a (i + k) t)
  | [], i, k, t, h => by cases k <;> cases h
  | u :: f, i, 0, t, h => by cases h; rfl
  | u :: f, i, k + 1, t, h => by
    show (fvs ad r _ a (i + 1) f)[k]? = _
    rw [fvs_get (f := f) (i := i + 1) h]
    congr 2
    omega
theorem fvs_len {ad : Nat → Nat} {r : mRf} {h : mM} {a : Nat} : ∀ {f : List Nat} {i : Nat}, (fvs ad r h a i f).length = f.length
  | [], i => rfl
  | u :: f, i => by
    show (fvs ad r h a (i + 1) f).length + 1 = f.length + 1
    rw [fvs_len]
theorem fvs_congr {ad : Nat → Nat} {r : mRf} {h h' : mM} {a : Nat} (e : ∀ k, h' a k = h a k) : ∀ {f : List Nat} {i : Nat}, fvs ad r h' a i f = fvs ad r h a i f
  | [], i => rfl
  | u :: f, i => by
    show fvl ad r h' a i u :: _ = fvl ad r h a i u :: _
    rw [fvs_congr e (f := f)]
    congr 1
    unfold fvl
    split <;> simp only [e]
theorem fvs_set {ad : Nat → Nat} {r : mRf} {h : mM} {a : Nat} {x : Int} {j : Nat} : ∀ {f : List Nat} {i k t : Nat}, nth f k = some t → t ≠ 2 → j = i + k → fvs ad r (upM h a (j : Int) x) a i f = (fvs ad r h a i f).set k (if t = 1 then .long (Int64.ofInt x) else .int (Int32.ofInt x))
  | [], i, k, t, h, _, _ => by cases k <;> cases h
  | u :: f, i, 0, t, hk, h2, hj => by
    cases hk
    have hj : j = i := hj
    subst hj
    show fvl ad r _ a j u :: fvs ad r _ a (j + 1) f = _ :: fvs ad r h a (j + 1) f
    congr 1
    · unfold fvl upM
      split <;> simp_all
    · have : ∀ (f : List Nat) (i : Nat), j < i → fvs ad r (upM h a (j : Int) x) a i f = fvs ad r h a i f := by
        intro f
        induction f with
        | nil => intro i _; rfl
        | cons u f ih =>
          intro i hi
          show fvl ad r _ a i u :: _ = fvl ad r h a i u :: _
          rw [ih (i + 1) (by omega)]
          congr 1
          have e : upM h a (j : Int) x a (i : Int) = h a (i : Int) := by
            unfold upM
            rw [if_neg]
            omega
          unfold fvl
          split <;> simp only [e]
      exact this f (j + 1) (by omega)
  | u :: f, i, k + 1, t, hk, h2, hj => by
    show fvl ad r _ a i u :: fvs ad r _ a (i + 1) f = fvl ad r h a i u :: (fvs ad r h a (i + 1) f).set k _
    rw [fvs_set (f := f) (i := i + 1) (k := k) (t := t) hk h2 (by omega)]
    congr 1
    have e : upM h a (j : Int) x a (i : Int) = h a (i : Int) := by
      unfold upM
      rw [if_neg]
      omega
    unfold fvl
    split <;> simp only [e]
theorem acn_congr {ad : Nat → Nat} {r : mRf} {h h' : mM} {a t : Nat} (e : ∀ k, h' a k = h a k) : acn ad r h' a t = acn ad r h a t := by
  unfold acn
  split <;> simp only [e]
theorem upM_ne {h : mM} {a b : Nat} {i k x : Int} (hn : b ≠ a) : upM h a i x b k = h b k := by
  unfold upM
  rw [if_neg (fun q => hn q.1)]
theorem mOk_up {S : mSh} {h : mM} {a : Nat} {i x : Int} (hm : mOk S h) (hx : inL x) (hi : isL S a i = false → inI x) : mOk S (upM h a i x) := by
  refine ⟨fun b k => ?_, fun b k hb => ?_⟩
  · unfold upM
    split
    · exact hx
    · exact hm.1 b k
  · unfold upM
    split
    · next q =>
      rw [q.1, q.2] at hb
      exact hi hb
    · exact hm.2 b k hb
theorem i32_of {x : Int} (h : inI x) : (Int32.ofInt x).toInt = x := Int32.toInt_ofInt_of_le (by have := h.1; omega) (by have := h.2; omega)
theorem i64_of {x : Int} (h : inL x) : (Int64.ofInt x).toInt = x := Int64.toInt_ofInt_of_le (by have := h.1; omega) (by have := h.2; omega)
theorem i32_to (x : Int32) : Int32.ofInt x.toInt = x := Int32.ofInt_toInt x
theorem i64_to (x : Int64) : Int64.ofInt x.toInt = x := Int64.ofInt_toInt x
theorem i32_in (x : Int32) : inI x.toInt := ⟨by have := Int32.le_toInt x; omega, by have := Int32.toInt_lt x; omega⟩
theorem i64_in (x : Int64) : inL x.toInt := ⟨by have := Int64.le_toInt x; omega, by have := Int64.toInt_lt x; omega⟩
theorem i32_eq {x y : Int} (hx : inI x) (hy : inI y) : Int32.ofInt x = Int32.ofInt y ↔ x = y := ⟨fun h => by have := congrArg Int32.toInt h; rwa [i32_of hx, i32_of hy] at this, fun h => by rw [h]⟩
theorem i32_lt {x y : Int} (hx : inI x) (hy : inI y) : Int32.ofInt x < Int32.ofInt y ↔ x < y := by rw [Int32.lt_iff_toInt_lt, i32_of hx, i32_of hy]
theorem i32_le {x y : Int} (hx : inI x) (hy : inI y) : Int32.ofInt x ≤ Int32.ofInt y ↔ x ≤ y := by rw [Int32.le_iff_toInt_le, i32_of hx, i32_of hy]
theorem i64_eq {x y : Int} (hx : inL x) (hy : inL y) : Int64.ofInt x = Int64.ofInt y ↔ x = y := ⟨fun h => by have := congrArg Int64.toInt h; rwa [i64_of hx, i64_of hy] at this, fun h => by rw [h]⟩
theorem i64_lt {x y : Int} (hx : inL x) (hy : inL y) : Int64.ofInt x < Int64.ofInt y ↔ x < y := by rw [Int64.lt_iff_toInt_lt, i64_of hx, i64_of hy]
theorem inL_of {x : Int} (h : inI x) : inL x := ⟨by have := h.1; omega, by have := h.2; omega⟩
theorem div_in {x y : Int} (hx : inI x) (g : 0 ≤ x ∧ 0 < y) : inI (x / y) := by
  have h1 := Int.ediv_nonneg g.1 (Int.le_of_lt g.2)
  have h2 := Int.ediv_le_self y g.1
  exact ⟨by omega, by have := hx.2; omega⟩
theorem mod_in {x y : Int} (hy : inI y) (g : 0 ≤ x ∧ 0 < y) : inI (x % y) := by
  have h1 := Int.emod_nonneg x (by omega : y ≠ 0)
  have h2 := Int.emod_lt_of_pos x g.2
  exact ⟨by omega, by have := hy.2; omega⟩
theorem divL_in {x y : Int} (hx : inL x) (g : 0 ≤ x ∧ 0 < y) : inL (x / y) := by
  have h1 := Int.ediv_nonneg g.1 (Int.le_of_lt g.2)
  have h2 := Int.ediv_le_self y g.1
  exact ⟨by omega, by have := hx.2; omega⟩
theorem modL_in {x y : Int} (hy : inL y) (g : 0 ≤ x ∧ 0 < y) : inL (x % y) := by
  have h1 := Int.emod_nonneg x (by omega : y ≠ 0)
  have h2 := Int.emod_lt_of_pos x g.2
  exact ⟨by omega, by have := hy.2; omega⟩
theorem i32_div {x y : Int} (hx : inI x) (hy : inI y) (g : 0 ≤ x ∧ 0 < y) : Int32.ofInt (x / y) = Int32.ofInt x / Int32.ofInt y := by
  apply Int32.toInt_inj.mp
  have h9 := div_in hx g
  rw [Int32.toInt_div, i32_of hx, i32_of hy, i32_of h9, Int.tdiv_eq_ediv_of_nonneg g.1]
  exact (Int.bmod_eq_of_le (by have := h9.1; omega) (by have := h9.2; omega)).symm
theorem i32_mod {x y : Int} (hx : inI x) (hy : inI y) (g : 0 ≤ x ∧ 0 < y) : Int32.ofInt (x % y) = Int32.ofInt x - Int32.ofInt x / Int32.ofInt y * Int32.ofInt y := by
  rw [← i32_div hx hy g, ← Int32.ofInt_mul, ← Int32.ofInt_sub, Int.emod_def, Int.mul_comm]
theorem i32_ne0 {y : Int} (hy : inI y) (g : 0 < y) : ¬ Int32.ofInt y = 0 := fun q => by
  have q2 := congrArg Int32.toInt q
  rw [i32_of hy] at q2
  have q3 : (0 : Int32).toInt = 0 := rfl
  omega
theorem i64_div {x y : Int} (hx : inL x) (hy : inL y) (g : 0 ≤ x ∧ 0 < y) : Int64.ofInt (x / y) = Int64.ofInt x / Int64.ofInt y := by
  apply Int64.toInt_inj.mp
  have h9 := divL_in hx g
  rw [Int64.toInt_div, i64_of hx, i64_of hy, i64_of h9, Int.tdiv_eq_ediv_of_nonneg g.1]
  exact (Int.bmod_eq_of_le (by have := h9.1; omega) (by have := h9.2; omega)).symm
theorem i64_mod {x y : Int} (hx : inL x) (hy : inL y) (g : 0 ≤ x ∧ 0 < y) : Int64.ofInt (x % y) = Int64.ofInt x - Int64.ofInt x / Int64.ofInt y * Int64.ofInt y := by
  rw [← i64_div hx hy g, ← Int64.ofInt_mul, ← Int64.ofInt_sub, Int.emod_def, Int.mul_comm]
theorem i64_ne0 {y : Int} (hy : inL y) (g : 0 < y) : ¬ Int64.ofInt y = 0 := fun q => by
  have q2 := congrArg Int64.toInt q
  rw [i64_of hy] at q2
  have q3 : (0 : Int64).toInt = 0 := rfl
  omega
theorem i2l_eq {x : Int} (hx : inI x) : Int64.ofInt x = (Int32.ofInt x).toInt64 := by
  apply Int64.toInt_inj.mp
  rw [Int32.toInt_toInt64, i32_of hx, i64_of (inL_of hx)]
/-- the raw instruction of a place, and the place behind it -/
def Dc (cc : ByteArray) (pcs : List Nat) (j : Nat) (raw : Instr) (len nx : Nat) : Prop := ∃ pc, nth pcs j = some pc ∧ decode cc pc = .ok (raw, len) ∧ nth pcs nx = some (pc + len)
/-- from any real state that is so, it goes well -/
def Go (w : Heap → List Loc → Nat → Array Slot → List Value → Prop) (D : va_G) (A : Nat → Prop) (tys : List (ClassId × FieldType)) (ad aC : Nat → Nat) (nL : Nat) (s : State) (pcs : List Nat) (S : mSh) (r : mRf) (j : Nat) (ls st : List mv) (h : mM) : Prop :=
  ∀ (ws : va_W) (H : Heap) (locs : List Loc) (la : Array Slot) (pc : Nat), nth pcs j = some pc → ls.length = nL → (∀ v ∈ ls, vOk S.length v) → (∀ v ∈ st, vOk S.length v) → mOk S h → Wld tys ws ad S r h → va_P D vwCl ws H → va_D A ws → va_S A s.heap H locs → lv_has la nL (asc ad aC 0 ls) → w H locs pc la (st.map (rV ad aC))
section
variable {p : Program} {l : Launch} {e : Env} {Rm : Room} {s : State} {m : MethodId} {args : Array Value} {below : List Frame} {meth : Method} {c : Code} {cc : ByteArray} {D : va_G} {A : Nat → Prop} {tys : List (ClassId × FieldType)} {ad aC : Nat → Nat} {nL cells slots : Nat} {Q : State → Prop} {pcs : List Nat} {S : mSh} {r : mRf} {j nx : Nat} {ls st : List mv} {h : mM}
theorem go_iconst (hx : p.tables.exec = Jvm.exec) (hb : c.code = cc) {n : Int} (hn : inI n)  (hd : Dc cc pcs j (.iconst n) 1 nx) (k : Go (fun H locs pc la sv => W p l e Rm s m args below meth c H locs cells slots Q (F0 m pc la sv)) D A tys ad aC nL s pcs S r (nx) (ls) (mI n :: st) (h)) : Go (fun H locs pc la sv => W p l e Rm s m args below meth c H locs cells slots Q (F0 m pc la sv)) D A tys ad aC nL s pcs S r (j) (ls) (st) (h) := by
  intro ws H locs la pc hpc hL hl hs hm hw hP hD hS hv
  obtain ⟨pc0, h1, hdg, h2⟩ := hd
  cases hpc.symm.trans h1
  exact lv_iconst hx hb hdg rfl (k ws H locs la _ h2 hL hl (fun v9 hv9 => by rcases List.mem_cons.mp hv9 with rfl | hv9; exact hn; exact hs _ hv9) hm hw hP hD hS hv)
theorem go_bipush (hx : p.tables.exec = Jvm.exec) (hb : c.code = cc) {n : Int} (hn : inI n) (hq : (Int8.ofInt n).toInt32 = Int32.ofInt n) (hd : Dc cc pcs j (.bipush n) 2 nx) (k : Go (fun H locs pc la sv => W p l e Rm s m args below meth c H locs cells slots Q (F0 m pc la sv)) D A tys ad aC nL s pcs S r (nx) (ls) (mI n :: st) (h)) : Go (fun H locs pc la sv => W p l e Rm s m args below meth c H locs cells slots Q (F0 m pc la sv)) D A tys ad aC nL s pcs S r (j) (ls) (st) (h) := by
  intro ws H locs la pc hpc hL hl hs hm hw hP hD hS hv
  obtain ⟨pc0, h1, hdg, h2⟩ := hd
  cases hpc.symm.trans h1
  exact lv_bipush hx hb hdg hq (k ws H locs la _ h2 hL hl (fun v9 hv9 => by rcases List.mem_cons.mp hv9 with rfl | hv9; exact hn; exact hs _ hv9) hm hw hP hD hS hv)
theorem go_sipush (hx : p.tables.exec = Jvm.exec) (hb : c.code = cc) {n : Int} (hn : inI n) (hq : (Int16.ofInt n).toInt32 = Int32.ofInt n) (hd : Dc cc pcs j (.sipush n) 3 nx) (k : Go (fun H locs pc la sv => W p l e Rm s m args below meth c H locs cells slots Q (F0 m pc la sv)) D A tys ad aC nL s pcs S r (nx) (ls) (mI n :: st) (h)) : Go (fun H locs pc la sv => W p l e Rm s m args below meth c H locs cells slots Q (F0 m pc la sv)) D A tys ad aC nL s pcs S r (j) (ls) (st) (h) := by
  intro ws H locs la pc hpc hL hl hs hm hw hP hD hS hv
  obtain ⟨pc0, h1, hdg, h2⟩ := hd
  cases hpc.symm.trans h1
  exact lv_sipush hx hb hdg hq (k ws H locs la _ h2 hL hl (fun v9 hv9 => by rcases List.mem_cons.mp hv9 with rfl | hv9; exact hn; exact hs _ hv9) hm hw hP hD hS hv)
theorem go_ldc (hx : p.tables.exec = Jvm.exec) (hb : c.code = cc) {own : String} {i : Nat} {n : Int} (hn : inI n) (hown : s.vm.findClass own = some m.cls) (hc : (Jvm.Cond.constant own i (Int32.ofInt n)).before args s = true) (hd : Dc cc pcs j (.ldc i) 2 nx) (k : Go (fun H locs pc la sv => W p l e Rm s m args below meth c H locs cells slots Q (F0 m pc la sv)) D A tys ad aC nL s pcs S r (nx) (ls) (mI n :: st) (h)) : Go (fun H locs pc la sv => W p l e Rm s m args below meth c H locs cells slots Q (F0 m pc la sv)) D A tys ad aC nL s pcs S r (j) (ls) (st) (h) := by
  intro ws H locs la pc hpc hL hl hs hm hw hP hD hS hv
  obtain ⟨pc0, h1, hdg, h2⟩ := hd
  cases hpc.symm.trans h1
  exact lv_ldc hx hb hown hc hdg (k ws H locs la _ h2 hL hl (fun v9 hv9 => by rcases List.mem_cons.mp hv9 with rfl | hv9; exact hn; exact hs _ hv9) hm hw hP hD hS hv)
theorem go_ldcw (hx : p.tables.exec = Jvm.exec) (hb : c.code = cc) {own : String} {i : Nat} {n : Int} (hn : inI n) (hown : s.vm.findClass own = some m.cls) (hc : (Jvm.Cond.constant own i (Int32.ofInt n)).before args s = true) (hd : Dc cc pcs j (.ldc_w i) 3 nx) (k : Go (fun H locs pc la sv => W p l e Rm s m args below meth c H locs cells slots Q (F0 m pc la sv)) D A tys ad aC nL s pcs S r (nx) (ls) (mI n :: st) (h)) : Go (fun H locs pc la sv => W p l e Rm s m args below meth c H locs cells slots Q (F0 m pc la sv)) D A tys ad aC nL s pcs S r (j) (ls) (st) (h) := by
  intro ws H locs la pc hpc hL hl hs hm hw hP hD hS hv
  obtain ⟨pc0, h1, hdg, h2⟩ := hd
  cases hpc.symm.trans h1
  exact lv_ldcw hx hb hown hc hdg (k ws H locs la _ h2 hL hl (fun v9 hv9 => by rcases List.mem_cons.mp hv9 with rfl | hv9; exact hn; exact hs _ hv9) hm hw hP hD hS hv)
theorem go_lconst (hx : p.tables.exec = Jvm.exec) (hb : c.code = cc) {f : Fin 2} {n : Int} (hn : inL n) (hq : Int64.ofNat (f : Nat) = Int64.ofInt n) (hd : Dc cc pcs j (.lconst f) 1 nx) (k : Go (fun H locs pc la sv => W p l e Rm s m args below meth c H locs cells slots Q (F0 m pc la sv)) D A tys ad aC nL s pcs S r (nx) (ls) (mL n :: st) (h)) : Go (fun H locs pc la sv => W p l e Rm s m args below meth c H locs cells slots Q (F0 m pc la sv)) D A tys ad aC nL s pcs S r (j) (ls) (st) (h) := by
  intro ws H locs la pc hpc hL hl hs hm hw hP hD hS hv
  obtain ⟨pc0, h1, hdg, h2⟩ := hd
  cases hpc.symm.trans h1
  exact lv_lconst hx hb hdg hq (k ws H locs la _ h2 hL hl (fun v9 hv9 => by rcases List.mem_cons.mp hv9 with rfl | hv9; exact hn; exact hs _ hv9) hm hw hP hD hS hv)
theorem go_ldc2 (hx : p.tables.exec = Jvm.exec) (hb : c.code = cc) {own : String} {i : Nat} {n : Int} (hn : inL n) (hown : s.vm.findClass own = some m.cls) (hc : (Jvm.Cond.constantLong own i (Int64.ofInt n)).before args s = true) (hd : Dc cc pcs j (.ldc2_w i) 3 nx) (k : Go (fun H locs pc la sv => W p l e Rm s m args below meth c H locs cells slots Q (F0 m pc la sv)) D A tys ad aC nL s pcs S r (nx) (ls) (mL n :: st) (h)) : Go (fun H locs pc la sv => W p l e Rm s m args below meth c H locs cells slots Q (F0 m pc la sv)) D A tys ad aC nL s pcs S r (j) (ls) (st) (h) := by
  intro ws H locs la pc hpc hL hl hs hm hw hP hD hS hv
  obtain ⟨pc0, h1, hdg, h2⟩ := hd
  cases hpc.symm.trans h1
  exact lv_ldc2 hx hb hown hc hdg (k ws H locs la _ h2 hL hl (fun v9 hv9 => by rcases List.mem_cons.mp hv9 with rfl | hv9; exact hn; exact hs _ hv9) hm hw hP hD hS hv)
theorem go_iload (hx : p.tables.exec = Jvm.exec) (hb : c.code = cc) {i : Nat} {x : Int} (hk : nth ls i = some (mI x)) (hd : Dc cc pcs j (.iload i) 2 nx) (k : Go (fun H locs pc la sv => W p l e Rm s m args below meth c H locs cells slots Q (F0 m pc la sv)) D A tys ad aC nL s pcs S r (nx) (ls) (mI x :: st) (h)) : Go (fun H locs pc la sv => W p l e Rm s m args below meth c H locs cells slots Q (F0 m pc la sv)) D A tys ad aC nL s pcs S r (j) (ls) (st) (h) := by
  intro ws H locs la pc hpc hL hl hs hm hw hP hD hS hv
  obtain ⟨pc0, h1, hdg, h2⟩ := hd
  cases hpc.symm.trans h1
  exact lv_iload hx hb hdg (hv.2.2 _ (mem_asc.mpr ⟨i, _, hk, (fun q => nomatch q), by rw [Nat.zero_add]⟩)) (k ws H locs la _ h2 hL hl (fun v9 hv9 => by rcases List.mem_cons.mp hv9 with rfl | hv9; exact hl _ (nth_mem hk); exact hs _ hv9) hm hw hP hD hS hv)
theorem go_iload_n (hx : p.tables.exec = Jvm.exec) (hb : c.code = cc) {i : Nat} {x : Int} (hk : nth ls i = some (mI x)) {f : Fin 4} (hf : (f : Nat) = i) (hd : Dc cc pcs j (.iload_n f) 1 nx) (k : Go (fun H locs pc la sv => W p l e Rm s m args below meth c H locs cells slots Q (F0 m pc la sv)) D A tys ad aC nL s pcs S r (nx) (ls) (mI x :: st) (h)) : Go (fun H locs pc la sv => W p l e Rm s m args below meth c H locs cells slots Q (F0 m pc la sv)) D A tys ad aC nL s pcs S r (j) (ls) (st) (h) := by
  intro ws H locs la pc hpc hL hl hs hm hw hP hD hS hv
  obtain ⟨pc0, h1, hdg, h2⟩ := hd
  cases hpc.symm.trans h1
  exact lv_iload_n hx hb hdg hf (hv.2.2 _ (mem_asc.mpr ⟨i, _, hk, (fun q => nomatch q), by rw [Nat.zero_add]⟩)) (k ws H locs la _ h2 hL hl (fun v9 hv9 => by rcases List.mem_cons.mp hv9 with rfl | hv9; exact hl _ (nth_mem hk); exact hs _ hv9) hm hw hP hD hS hv)
theorem go_lload (hx : p.tables.exec = Jvm.exec) (hb : c.code = cc) {i : Nat} {x : Int} (hk : nth ls i = some (mL x)) (hd : Dc cc pcs j (.lload i) 2 nx) (k : Go (fun H locs pc la sv => W p l e Rm s m args below meth c H locs cells slots Q (F0 m pc la sv)) D A tys ad aC nL s pcs S r (nx) (ls) (mL x :: st) (h)) : Go (fun H locs pc la sv => W p l e Rm s m args below meth c H locs cells slots Q (F0 m pc la sv)) D A tys ad aC nL s pcs S r (j) (ls) (st) (h) := by
  intro ws H locs la pc hpc hL hl hs hm hw hP hD hS hv
  obtain ⟨pc0, h1, hdg, h2⟩ := hd
  cases hpc.symm.trans h1
  exact lv_lload hx hb hdg (hv.2.2 _ (mem_asc.mpr ⟨i, _, hk, (fun q => nomatch q), by rw [Nat.zero_add]⟩)) (k ws H locs la _ h2 hL hl (fun v9 hv9 => by rcases List.mem_cons.mp hv9 with rfl | hv9; exact hl _ (nth_mem hk); exact hs _ hv9) hm hw hP hD hS hv)
theorem go_lload_n (hx : p.tables.exec = Jvm.exec) (hb : c.code = cc) {i : Nat} {x : Int} (hk : nth ls i = some (mL x)) {f : Fin 4} (hf : (f : Nat) = i) (hd : Dc cc pcs j (.lload_n f) 1 nx) (k : Go (fun H locs pc la sv => W p l e Rm s m args below meth c H locs cells slots Q (F0 m pc la sv)) D A tys ad aC nL s pcs S r (nx) (ls) (mL x :: st) (h)) : Go (fun H locs pc la sv => W p l e Rm s m args below meth c H locs cells slots Q (F0 m pc la sv)) D A tys ad aC nL s pcs S r (j) (ls) (st) (h) := by
  intro ws H locs la pc hpc hL hl hs hm hw hP hD hS hv
  obtain ⟨pc0, h1, hdg, h2⟩ := hd
  cases hpc.symm.trans h1
  exact lv_lload_n hx hb hdg hf (hv.2.2 _ (mem_asc.mpr ⟨i, _, hk, (fun q => nomatch q), by rw [Nat.zero_add]⟩)) (k ws H locs la _ h2 hL hl (fun v9 hv9 => by rcases List.mem_cons.mp hv9 with rfl | hv9; exact hl _ (nth_mem hk); exact hs _ hv9) hm hw hP hD hS hv)
theorem go_aload (hx : p.tables.exec = Jvm.exec) (hb : c.code = cc) {i : Nat} {x : Nat} (hk : nth ls i = some (mR x)) (hd : Dc cc pcs j (.aload i) 2 nx) (k : Go (fun H locs pc la sv => W p l e Rm s m args below meth c H locs cells slots Q (F0 m pc la sv)) D A tys ad aC nL s pcs S r (nx) (ls) (mR x :: st) (h)) : Go (fun H locs pc la sv => W p l e Rm s m args below meth c H locs cells slots Q (F0 m pc la sv)) D A tys ad aC nL s pcs S r (j) (ls) (st) (h) := by
  intro ws H locs la pc hpc hL hl hs hm hw hP hD hS hv
  obtain ⟨pc0, h1, hdg, h2⟩ := hd
  cases hpc.symm.trans h1
  exact lv_aload hx hb hdg (hv.2.2 _ (mem_asc.mpr ⟨i, _, hk, (fun q => nomatch q), by rw [Nat.zero_add]⟩)) (k ws H locs la _ h2 hL hl (fun v9 hv9 => by rcases List.mem_cons.mp hv9 with rfl | hv9; exact hl _ (nth_mem hk); exact hs _ hv9) hm hw hP hD hS hv)
theorem go_aload_n (hx : p.tables.exec = Jvm.exec) (hb : c.code = cc) {i : Nat} {x : Nat} (hk : nth ls i = some (mR x)) {f : Fin 4} (hf : (f : Nat) = i) (hd : Dc cc pcs j (.aload_n f) 1 nx) (k : Go (fun H locs pc la sv => W p l e Rm s m args below meth c H locs cells slots Q (F0 m pc la sv)) D A tys ad aC nL s pcs S r (nx) (ls) (mR x :: st) (h)) : Go (fun H locs pc la sv => W p l e Rm s m args below meth c H locs cells slots Q (F0 m pc la sv)) D A tys ad aC nL s pcs S r (j) (ls) (st) (h) := by
  intro ws H locs la pc hpc hL hl hs hm hw hP hD hS hv
  obtain ⟨pc0, h1, hdg, h2⟩ := hd
  cases hpc.symm.trans h1
  exact lv_aload_n hx hb hdg hf (hv.2.2 _ (mem_asc.mpr ⟨i, _, hk, (fun q => nomatch q), by rw [Nat.zero_add]⟩)) (k ws H locs la _ h2 hL hl (fun v9 hv9 => by rcases List.mem_cons.mp hv9 with rfl | hv9; exact hl _ (nth_mem hk); exact hs _ hv9) hm hw hP hD hS hv)
theorem go_aloadC (hx : p.tables.exec = Jvm.exec) (hb : c.code = cc) {i x : Nat} (hk : nth ls i = some (mC (x + 1))) (hd : Dc cc pcs j (.aload i) 2 nx) (k : Go (fun H locs pc la sv => W p l e Rm s m args below meth c H locs cells slots Q (F0 m pc la sv)) D A tys ad aC nL s pcs S r (nx) (ls) (mC (x + 1) :: st) (h)) : Go (fun H locs pc la sv => W p l e Rm s m args below meth c H locs cells slots Q (F0 m pc la sv)) D A tys ad aC nL s pcs S r (j) (ls) (st) (h) := by
  intro ws H locs la pc hpc hL hl hs hm hw hP hD hS hv
  obtain ⟨pc0, h1, hdg, h2⟩ := hd
  cases hpc.symm.trans h1
  exact lv_aload hx hb hdg (hv.2.2 _ (mem_asc.mpr ⟨i, _, hk, (fun q => nomatch q), by rw [Nat.zero_add]⟩)) (k ws H locs la _ h2 hL hl (fun v9 hv9 => by rcases List.mem_cons.mp hv9 with rfl | hv9; exact trivial; exact hs _ hv9) hm hw hP hD hS hv)
theorem go_aloadC_n (hx : p.tables.exec = Jvm.exec) (hb : c.code = cc) {i x : Nat} (hk : nth ls i = some (mC (x + 1))) {f : Fin 4} (hf : (f : Nat) = i) (hd : Dc cc pcs j (.aload_n f) 1 nx) (k : Go (fun H locs pc la sv => W p l e Rm s m args below meth c H locs cells slots Q (F0 m pc la sv)) D A tys ad aC nL s pcs S r (nx) (ls) (mC (x + 1) :: st) (h)) : Go (fun H locs pc la sv => W p l e Rm s m args below meth c H locs cells slots Q (F0 m pc la sv)) D A tys ad aC nL s pcs S r (j) (ls) (st) (h) := by
  intro ws H locs la pc hpc hL hl hs hm hw hP hD hS hv
  obtain ⟨pc0, h1, hdg, h2⟩ := hd
  cases hpc.symm.trans h1
  exact lv_aload_n hx hb hdg hf (hv.2.2 _ (mem_asc.mpr ⟨i, _, hk, (fun q => nomatch q), by rw [Nat.zero_add]⟩)) (k ws H locs la _ h2 hL hl (fun v9 hv9 => by rcases List.mem_cons.mp hv9 with rfl | hv9; exact trivial; exact hs _ hv9) hm hw hP hD hS hv)
theorem go_iadd (hx : p.tables.exec = Jvm.exec) (hb : c.code = cc) {x y : Int} (g : inI (x + y)) (hd : Dc cc pcs j (.iadd) 1 nx) (k : Go (fun H locs pc la sv => W p l e Rm s m args below meth c H locs cells slots Q (F0 m pc la sv)) D A tys ad aC nL s pcs S r (nx) (ls) (mI (x + y) :: st) (h)) : Go (fun H locs pc la sv => W p l e Rm s m args below meth c H locs cells slots Q (F0 m pc la sv)) D A tys ad aC nL s pcs S r (j) (ls) (mI y :: mI x :: st) (h) := by
  intro ws H locs la pc hpc hL hl hs hm hw hP hD hS hv
  obtain ⟨pc0, h1, hdg, h2⟩ := hd
  cases hpc.symm.trans h1
  have hx9 := hs _ (List.mem_cons_of_mem _ List.mem_cons_self)
  have hy9 := hs _ List.mem_cons_self
  have k9 := k ws H locs la _ h2 hL hl (fun v9 hv9 => by rcases List.mem_cons.mp hv9 with rfl | hv9; exact g; exact hs _ (List.mem_cons_of_mem _ (List.mem_cons_of_mem _ hv9))) hm hw hP hD hS hv
  have e9 : Int32.ofInt (x + y) = Int32.ofInt x + Int32.ofInt y := Int32.ofInt_add ..
  simp only [List.map_cons, rV, e9] at k9
  exact lv_iadd hx hb hdg  k9
theorem go_isub (hx : p.tables.exec = Jvm.exec) (hb : c.code = cc) {x y : Int} (g : inI (x - y)) (hd : Dc cc pcs j (.isub) 1 nx) (k : Go (fun H locs pc la sv => W p l e Rm s m args below meth c H locs cells slots Q (F0 m pc la sv)) D A tys ad aC nL s pcs S r (nx) (ls) (mI (x - y) :: st) (h)) : Go (fun H locs pc la sv => W p l e Rm s m args below meth c H locs cells slots Q (F0 m pc la sv)) D A tys ad aC nL s pcs S r (j) (ls) (mI y :: mI x :: st) (h) := by
  intro ws H locs la pc hpc hL hl hs hm hw hP hD hS hv
  obtain ⟨pc0, h1, hdg, h2⟩ := hd
  cases hpc.symm.trans h1
  have hx9 := hs _ (List.mem_cons_of_mem _ List.mem_cons_self)
  have hy9 := hs _ List.mem_cons_self
  have k9 := k ws H locs la _ h2 hL hl (fun v9 hv9 => by rcases List.mem_cons.mp hv9 with rfl | hv9; exact g; exact hs _ (List.mem_cons_of_mem _ (List.mem_cons_of_mem _ hv9))) hm hw hP hD hS hv
  have e9 : Int32.ofInt (x - y) = Int32.ofInt x - Int32.ofInt y := Int32.ofInt_sub ..
  simp only [List.map_cons, rV, e9] at k9
  exact lv_isub hx hb hdg  k9
theorem go_imul (hx : p.tables.exec = Jvm.exec) (hb : c.code = cc) {x y : Int} (g : inI (x * y)) (hd : Dc cc pcs j (.imul) 1 nx) (k : Go (fun H locs pc la sv => W p l e Rm s m args below meth c H locs cells slots Q (F0 m pc la sv)) D A tys ad aC nL s pcs S r (nx) (ls) (mI (x * y) :: st) (h)) : Go (fun H locs pc la sv => W p l e Rm s m args below meth c H locs cells slots Q (F0 m pc la sv)) D A tys ad aC nL s pcs S r (j) (ls) (mI y :: mI x :: st) (h) := by
  intro ws H locs la pc hpc hL hl hs hm hw hP hD hS hv
  obtain ⟨pc0, h1, hdg, h2⟩ := hd
  cases hpc.symm.trans h1
  have hx9 := hs _ (List.mem_cons_of_mem _ List.mem_cons_self)
  have hy9 := hs _ List.mem_cons_self
  have k9 := k ws H locs la _ h2 hL hl (fun v9 hv9 => by rcases List.mem_cons.mp hv9 with rfl | hv9; exact g; exact hs _ (List.mem_cons_of_mem _ (List.mem_cons_of_mem _ hv9))) hm hw hP hD hS hv
  have e9 : Int32.ofInt (x * y) = Int32.ofInt x * Int32.ofInt y := Int32.ofInt_mul ..
  simp only [List.map_cons, rV, e9] at k9
  exact lv_imul hx hb hdg  k9
theorem go_ladd (hx : p.tables.exec = Jvm.exec) (hb : c.code = cc) {x y : Int} (g : inL (x + y)) (hd : Dc cc pcs j (.ladd) 1 nx) (k : Go (fun H locs pc la sv => W p l e Rm s m args below meth c H locs cells slots Q (F0 m pc la sv)) D A tys ad aC nL s pcs S r (nx) (ls) (mL (x + y) :: st) (h)) : Go (fun H locs pc la sv => W p l e Rm s m args below meth c H locs cells slots Q (F0 m pc la sv)) D A tys ad aC nL s pcs S r (j) (ls) (mL y :: mL x :: st) (h) := by
  intro ws H locs la pc hpc hL hl hs hm hw hP hD hS hv
  obtain ⟨pc0, h1, hdg, h2⟩ := hd
  cases hpc.symm.trans h1
  have hx9 := hs _ (List.mem_cons_of_mem _ List.mem_cons_self)
  have hy9 := hs _ List.mem_cons_self
  have k9 := k ws H locs la _ h2 hL hl (fun v9 hv9 => by rcases List.mem_cons.mp hv9 with rfl | hv9; exact g; exact hs _ (List.mem_cons_of_mem _ (List.mem_cons_of_mem _ hv9))) hm hw hP hD hS hv
  have e9 : Int64.ofInt (x + y) = Int64.ofInt x + Int64.ofInt y := Int64.ofInt_add ..
  simp only [List.map_cons, rV, e9] at k9
  exact lv_ladd hx hb hdg  k9
theorem go_lsub (hx : p.tables.exec = Jvm.exec) (hb : c.code = cc) {x y : Int} (g : inL (x - y)) (hd : Dc cc pcs j (.lsub) 1 nx) (k : Go (fun H locs pc la sv => W p l e Rm s m args below meth c H locs cells slots Q (F0 m pc la sv)) D A tys ad aC nL s pcs S r (nx) (ls) (mL (x - y) :: st) (h)) : Go (fun H locs pc la sv => W p l e Rm s m args below meth c H locs cells slots Q (F0 m pc la sv)) D A tys ad aC nL s pcs S r (j) (ls) (mL y :: mL x :: st) (h) := by
  intro ws H locs la pc hpc hL hl hs hm hw hP hD hS hv
  obtain ⟨pc0, h1, hdg, h2⟩ := hd
  cases hpc.symm.trans h1
  have hx9 := hs _ (List.mem_cons_of_mem _ List.mem_cons_self)
  have hy9 := hs _ List.mem_cons_self
  have k9 := k ws H locs la _ h2 hL hl (fun v9 hv9 => by rcases List.mem_cons.mp hv9 with rfl | hv9; exact g; exact hs _ (List.mem_cons_of_mem _ (List.mem_cons_of_mem _ hv9))) hm hw hP hD hS hv
  have e9 : Int64.ofInt (x - y) = Int64.ofInt x - Int64.ofInt y := Int64.ofInt_sub ..
  simp only [List.map_cons, rV, e9] at k9
  exact lv_lsub hx hb hdg  k9
theorem go_lmul (hx : p.tables.exec = Jvm.exec) (hb : c.code = cc) {x y : Int} (g : inL (x * y)) (hd : Dc cc pcs j (.lmul) 1 nx) (k : Go (fun H locs pc la sv => W p l e Rm s m args below meth c H locs cells slots Q (F0 m pc la sv)) D A tys ad aC nL s pcs S r (nx) (ls) (mL (x * y) :: st) (h)) : Go (fun H locs pc la sv => W p l e Rm s m args below meth c H locs cells slots Q (F0 m pc la sv)) D A tys ad aC nL s pcs S r (j) (ls) (mL y :: mL x :: st) (h) := by
  intro ws H locs la pc hpc hL hl hs hm hw hP hD hS hv
  obtain ⟨pc0, h1, hdg, h2⟩ := hd
  cases hpc.symm.trans h1
  have hx9 := hs _ (List.mem_cons_of_mem _ List.mem_cons_self)
  have hy9 := hs _ List.mem_cons_self
  have k9 := k ws H locs la _ h2 hL hl (fun v9 hv9 => by rcases List.mem_cons.mp hv9 with rfl | hv9; exact g; exact hs _ (List.mem_cons_of_mem _ (List.mem_cons_of_mem _ hv9))) hm hw hP hD hS hv
  have e9 : Int64.ofInt (x * y) = Int64.ofInt x * Int64.ofInt y := Int64.ofInt_mul ..
  simp only [List.map_cons, rV, e9] at k9
  exact lv_lmul hx hb hdg  k9
theorem go_idiv (hx : p.tables.exec = Jvm.exec) (hb : c.code = cc) {x y : Int} (g : 0 ≤ x ∧ 0 < y) (hd : Dc cc pcs j (.idiv) 1 nx) (k : Go (fun H locs pc la sv => W p l e Rm s m args below meth c H locs cells slots Q (F0 m pc la sv)) D A tys ad aC nL s pcs S r (nx) (ls) (mI (x / y) :: st) (h)) : Go (fun H locs pc la sv => W p l e Rm s m args below meth c H locs cells slots Q (F0 m pc la sv)) D A tys ad aC nL s pcs S r (j) (ls) (mI y :: mI x :: st) (h) := by
  intro ws H locs la pc hpc hL hl hs hm hw hP hD hS hv
  obtain ⟨pc0, h1, hdg, h2⟩ := hd
  cases hpc.symm.trans h1
  have hx9 := hs _ (List.mem_cons_of_mem _ List.mem_cons_self)
  have hy9 := hs _ List.mem_cons_self
  have k9 := k ws H locs la _ h2 hL hl (fun v9 hv9 => by rcases List.mem_cons.mp hv9 with rfl | hv9; exact (div_in hx9 g); exact hs _ (List.mem_cons_of_mem _ (List.mem_cons_of_mem _ hv9))) hm hw hP hD hS hv
  have e9 : Int32.ofInt (x / y) = Int32.ofInt x / Int32.ofInt y := i32_div hx9 hy9 g
  simp only [List.map_cons, rV, e9] at k9
  exact lv_idiv hx hb hdg (i32_ne0 hy9 g.2) k9
theorem go_irem (hx : p.tables.exec = Jvm.exec) (hb : c.code = cc) {x y : Int} (g : 0 ≤ x ∧ 0 < y) (hd : Dc cc pcs j (.irem) 1 nx) (k : Go (fun H locs pc la sv => W p l e Rm s m args below meth c H locs cells slots Q (F0 m pc la sv)) D A tys ad aC nL s pcs S r (nx) (ls) (mI (x % y) :: st) (h)) : Go (fun H locs pc la sv => W p l e Rm s m args below meth c H locs cells slots Q (F0 m pc la sv)) D A tys ad aC nL s pcs S r (j) (ls) (mI y :: mI x :: st) (h) := by
  intro ws H locs la pc hpc hL hl hs hm hw hP hD hS hv
  obtain ⟨pc0, h1, hdg, h2⟩ := hd
  cases hpc.symm.trans h1
  have hx9 := hs _ (List.mem_cons_of_mem _ List.mem_cons_self)
  have hy9 := hs _ List.mem_cons_self
  have k9 := k ws H locs la _ h2 hL hl (fun v9 hv9 => by rcases List.mem_cons.mp hv9 with rfl | hv9; exact (mod_in hy9 g); exact hs _ (List.mem_cons_of_mem _ (List.mem_cons_of_mem _ hv9))) hm hw hP hD hS hv
  have e9 : Int32.ofInt (x % y) = Int32.ofInt x - Int32.ofInt x / Int32.ofInt y * Int32.ofInt y := i32_mod hx9 hy9 g
  simp only [List.map_cons, rV, e9] at k9
  exact lv_irem hx hb hdg (i32_ne0 hy9 g.2) k9
theorem go_ldiv (hx : p.tables.exec = Jvm.exec) (hb : c.code = cc) {x y : Int} (g : 0 ≤ x ∧ 0 < y) (hd : Dc cc pcs j (.ldiv) 1 nx) (k : Go (fun H locs pc la sv => W p l e Rm s m args below meth c H locs cells slots Q (F0 m pc la sv)) D A tys ad aC nL s pcs S r (nx) (ls) (mL (x / y) :: st) (h)) : Go (fun H locs pc la sv => W p l e Rm s m args below meth c H locs cells slots Q (F0 m pc la sv)) D A tys ad aC nL s pcs S r (j) (ls) (mL y :: mL x :: st) (h) := by
  intro ws H locs la pc hpc hL hl hs hm hw hP hD hS hv
  obtain ⟨pc0, h1, hdg, h2⟩ := hd
  cases hpc.symm.trans h1
  have hx9 := hs _ (List.mem_cons_of_mem _ List.mem_cons_self)
  have hy9 := hs _ List.mem_cons_self
  have k9 := k ws H locs la _ h2 hL hl (fun v9 hv9 => by rcases List.mem_cons.mp hv9 with rfl | hv9; exact (divL_in hx9 g); exact hs _ (List.mem_cons_of_mem _ (List.mem_cons_of_mem _ hv9))) hm hw hP hD hS hv
  have e9 : Int64.ofInt (x / y) = Int64.ofInt x / Int64.ofInt y := i64_div hx9 hy9 g
  simp only [List.map_cons, rV, e9] at k9
  exact lv_ldiv hx hb hdg (i64_ne0 hy9 g.2) k9
theorem go_lrem (hx : p.tables.exec = Jvm.exec) (hb : c.code = cc) {x y : Int} (g : 0 ≤ x ∧ 0 < y) (hd : Dc cc pcs j (.lrem) 1 nx) (k : Go (fun H locs pc la sv => W p l e Rm s m args below meth c H locs cells slots Q (F0 m pc la sv)) D A tys ad aC nL s pcs S r (nx) (ls) (mL (x % y) :: st) (h)) : Go (fun H locs pc la sv => W p l e Rm s m args below meth c H locs cells slots Q (F0 m pc la sv)) D A tys ad aC nL s pcs S r (j) (ls) (mL y :: mL x :: st) (h) := by
  intro ws H locs la pc hpc hL hl hs hm hw hP hD hS hv
  obtain ⟨pc0, h1, hdg, h2⟩ := hd
  cases hpc.symm.trans h1
  have hx9 := hs _ (List.mem_cons_of_mem _ List.mem_cons_self)
  have hy9 := hs _ List.mem_cons_self
  have k9 := k ws H locs la _ h2 hL hl (fun v9 hv9 => by rcases List.mem_cons.mp hv9 with rfl | hv9; exact (modL_in hy9 g); exact hs _ (List.mem_cons_of_mem _ (List.mem_cons_of_mem _ hv9))) hm hw hP hD hS hv
  have e9 : Int64.ofInt (x % y) = Int64.ofInt x - Int64.ofInt x / Int64.ofInt y * Int64.ofInt y := i64_mod hx9 hy9 g
  simp only [List.map_cons, rV, e9] at k9
  exact lv_lrem hx hb hdg (i64_ne0 hy9 g.2) k9
theorem go_iand (hx : p.tables.exec = Jvm.exec) (hb : c.code = cc) {x y : Int} (hd : Dc cc pcs j (.iand) 1 nx) (k : Go (fun H locs pc la sv => W p l e Rm s m args below meth c H locs cells slots Q (F0 m pc la sv)) D A tys ad aC nL s pcs S r (nx) (ls) (mI (fAnd x y) :: st) (h)) : Go (fun H locs pc la sv => W p l e Rm s m args below meth c H locs cells slots Q (F0 m pc la sv)) D A tys ad aC nL s pcs S r (j) (ls) (mI y :: mI x :: st) (h) := by
  intro ws H locs la pc hpc hL hl hs hm hw hP hD hS hv
  obtain ⟨pc0, h1, hdg, h2⟩ := hd
  cases hpc.symm.trans h1
  have hx9 := hs _ (List.mem_cons_of_mem _ List.mem_cons_self)
  have hy9 := hs _ List.mem_cons_self
  have k9 := k ws H locs la _ h2 hL hl (fun v9 hv9 => by rcases List.mem_cons.mp hv9 with rfl | hv9; exact (i32_in _); exact hs _ (List.mem_cons_of_mem _ (List.mem_cons_of_mem _ hv9))) hm hw hP hD hS hv
  have e9 : Int32.ofInt (fAnd x y) = Int32.ofInt x &&& Int32.ofInt y := i32_to _
  simp only [List.map_cons, rV, e9] at k9
  exact lv_iand hx hb hdg  k9
theorem go_ior (hx : p.tables.exec = Jvm.exec) (hb : c.code = cc) {x y : Int} (hd : Dc cc pcs j (.ior) 1 nx) (k : Go (fun H locs pc la sv => W p l e Rm s m args below meth c H locs cells slots Q (F0 m pc la sv)) D A tys ad aC nL s pcs S r (nx) (ls) (mI (fOr x y) :: st) (h)) : Go (fun H locs pc la sv => W p l e Rm s m args below meth c H locs cells slots Q (F0 m pc la sv)) D A tys ad aC nL s pcs S r (j) (ls) (mI y :: mI x :: st) (h) := by
  intro ws H locs la pc hpc hL hl hs hm hw hP hD hS hv
  obtain ⟨pc0, h1, hdg, h2⟩ := hd
  cases hpc.symm.trans h1
  have hx9 := hs _ (List.mem_cons_of_mem _ List.mem_cons_self)
  have hy9 := hs _ List.mem_cons_self
  have k9 := k ws H locs la _ h2 hL hl (fun v9 hv9 => by rcases List.mem_cons.mp hv9 with rfl | hv9; exact (i32_in _); exact hs _ (List.mem_cons_of_mem _ (List.mem_cons_of_mem _ hv9))) hm hw hP hD hS hv
  have e9 : Int32.ofInt (fOr x y) = Int32.ofInt x ||| Int32.ofInt y := i32_to _
  simp only [List.map_cons, rV, e9] at k9
  exact lv_ior hx hb hdg  k9
theorem go_ixor (hx : p.tables.exec = Jvm.exec) (hb : c.code = cc) {x y : Int} (hd : Dc cc pcs j (.ixor) 1 nx) (k : Go (fun H locs pc la sv => W p l e Rm s m args below meth c H locs cells slots Q (F0 m pc la sv)) D A tys ad aC nL s pcs S r (nx) (ls) (mI (fXor x y) :: st) (h)) : Go (fun H locs pc la sv => W p l e Rm s m args below meth c H locs cells slots Q (F0 m pc la sv)) D A tys ad aC nL s pcs S r (j) (ls) (mI y :: mI x :: st) (h) := by
  intro ws H locs la pc hpc hL hl hs hm hw hP hD hS hv
  obtain ⟨pc0, h1, hdg, h2⟩ := hd
  cases hpc.symm.trans h1
  have hx9 := hs _ (List.mem_cons_of_mem _ List.mem_cons_self)
  have hy9 := hs _ List.mem_cons_self
  have k9 := k ws H locs la _ h2 hL hl (fun v9 hv9 => by rcases List.mem_cons.mp hv9 with rfl | hv9; exact (i32_in _); exact hs _ (List.mem_cons_of_mem _ (List.mem_cons_of_mem _ hv9))) hm hw hP hD hS hv
  have e9 : Int32.ofInt (fXor x y) = Int32.ofInt x ^^^ Int32.ofInt y := i32_to _
  simp only [List.map_cons, rV, e9] at k9
  exact lv_ixor hx hb hdg  k9
theorem go_ishl (hx : p.tables.exec = Jvm.exec) (hb : c.code = cc) {x y : Int} (hd : Dc cc pcs j (.ishl) 1 nx) (k : Go (fun H locs pc la sv => W p l e Rm s m args below meth c H locs cells slots Q (F0 m pc la sv)) D A tys ad aC nL s pcs S r (nx) (ls) (mI (fShl x y) :: st) (h)) : Go (fun H locs pc la sv => W p l e Rm s m args below meth c H locs cells slots Q (F0 m pc la sv)) D A tys ad aC nL s pcs S r (j) (ls) (mI y :: mI x :: st) (h) := by
  intro ws H locs la pc hpc hL hl hs hm hw hP hD hS hv
  obtain ⟨pc0, h1, hdg, h2⟩ := hd
  cases hpc.symm.trans h1
  have hx9 := hs _ (List.mem_cons_of_mem _ List.mem_cons_self)
  have hy9 := hs _ List.mem_cons_self
  have k9 := k ws H locs la _ h2 hL hl (fun v9 hv9 => by rcases List.mem_cons.mp hv9 with rfl | hv9; exact (i32_in _); exact hs _ (List.mem_cons_of_mem _ (List.mem_cons_of_mem _ hv9))) hm hw hP hD hS hv
  have e9 : Int32.ofInt (fShl x y) = Int32.ofInt x <<< (Int32.ofInt y &&& 31) := i32_to _
  simp only [List.map_cons, rV, e9] at k9
  exact lv_ishl hx hb hdg  k9
theorem go_ishr (hx : p.tables.exec = Jvm.exec) (hb : c.code = cc) {x y : Int} (hd : Dc cc pcs j (.ishr) 1 nx) (k : Go (fun H locs pc la sv => W p l e Rm s m args below meth c H locs cells slots Q (F0 m pc la sv)) D A tys ad aC nL s pcs S r (nx) (ls) (mI (fShr x y) :: st) (h)) : Go (fun H locs pc la sv => W p l e Rm s m args below meth c H locs cells slots Q (F0 m pc la sv)) D A tys ad aC nL s pcs S r (j) (ls) (mI y :: mI x :: st) (h) := by
  intro ws H locs la pc hpc hL hl hs hm hw hP hD hS hv
  obtain ⟨pc0, h1, hdg, h2⟩ := hd
  cases hpc.symm.trans h1
  have hx9 := hs _ (List.mem_cons_of_mem _ List.mem_cons_self)
  have hy9 := hs _ List.mem_cons_self
  have k9 := k ws H locs la _ h2 hL hl (fun v9 hv9 => by rcases List.mem_cons.mp hv9 with rfl | hv9; exact (i32_in _); exact hs _ (List.mem_cons_of_mem _ (List.mem_cons_of_mem _ hv9))) hm hw hP hD hS hv
  have e9 : Int32.ofInt (fShr x y) = Int32.ofInt x >>> (Int32.ofInt y &&& 31) := i32_to _
  simp only [List.map_cons, rV, e9] at k9
  exact lv_ishr hx hb hdg  k9
theorem go_land (hx : p.tables.exec = Jvm.exec) (hb : c.code = cc) {x y : Int} (hd : Dc cc pcs j (.land) 1 nx) (k : Go (fun H locs pc la sv => W p l e Rm s m args below meth c H locs cells slots Q (F0 m pc la sv)) D A tys ad aC nL s pcs S r (nx) (ls) (mL (fLand x y) :: st) (h)) : Go (fun H locs pc la sv => W p l e Rm s m args below meth c H locs cells slots Q (F0 m pc la sv)) D A tys ad aC nL s pcs S r (j) (ls) (mL y :: mL x :: st) (h) := by
  intro ws H locs la pc hpc hL hl hs hm hw hP hD hS hv
  obtain ⟨pc0, h1, hdg, h2⟩ := hd
  cases hpc.symm.trans h1
  have hx9 := hs _ (List.mem_cons_of_mem _ List.mem_cons_self)
  have hy9 := hs _ List.mem_cons_self
  have k9 := k ws H locs la _ h2 hL hl (fun v9 hv9 => by rcases List.mem_cons.mp hv9 with rfl | hv9; exact (i64_in _); exact hs _ (List.mem_cons_of_mem _ (List.mem_cons_of_mem _ hv9))) hm hw hP hD hS hv
  have e9 : Int64.ofInt (fLand x y) = Int64.ofInt x &&& Int64.ofInt y := i64_to _
  simp only [List.map_cons, rV, e9] at k9
  exact lv_land hx hb hdg  k9
theorem go_lor (hx : p.tables.exec = Jvm.exec) (hb : c.code = cc) {x y : Int} (hd : Dc cc pcs j (.lor) 1 nx) (k : Go (fun H locs pc la sv => W p l e Rm s m args below meth c H locs cells slots Q (F0 m pc la sv)) D A tys ad aC nL s pcs S r (nx) (ls) (mL (fLor x y) :: st) (h)) : Go (fun H locs pc la sv => W p l e Rm s m args below meth c H locs cells slots Q (F0 m pc la sv)) D A tys ad aC nL s pcs S r (j) (ls) (mL y :: mL x :: st) (h) := by
  intro ws H locs la pc hpc hL hl hs hm hw hP hD hS hv
  obtain ⟨pc0, h1, hdg, h2⟩ := hd
  cases hpc.symm.trans h1
  have hx9 := hs _ (List.mem_cons_of_mem _ List.mem_cons_self)
  have hy9 := hs _ List.mem_cons_self
  have k9 := k ws H locs la _ h2 hL hl (fun v9 hv9 => by rcases List.mem_cons.mp hv9 with rfl | hv9; exact (i64_in _); exact hs _ (List.mem_cons_of_mem _ (List.mem_cons_of_mem _ hv9))) hm hw hP hD hS hv
  have e9 : Int64.ofInt (fLor x y) = Int64.ofInt x ||| Int64.ofInt y := i64_to _
  simp only [List.map_cons, rV, e9] at k9
  exact lv_lor hx hb hdg  k9
theorem go_iushr (hx : p.tables.exec = Jvm.exec) (hb : c.code = cc) {x y : Int} (hd : Dc cc pcs j (.iushr) 1 nx) (k : Go (fun H locs pc la sv => W p l e Rm s m args below meth c H locs cells slots Q (F0 m pc la sv)) D A tys ad aC nL s pcs S r (nx) (ls) (mI (fUshr x y) :: st) (h)) : Go (fun H locs pc la sv => W p l e Rm s m args below meth c H locs cells slots Q (F0 m pc la sv)) D A tys ad aC nL s pcs S r (j) (ls) (mI y :: mI x :: st) (h) := by
  intro ws H locs la pc hpc hL hl hs hm hw hP hD hS hv
  obtain ⟨pc0, h1, hdg, h2⟩ := hd
  cases hpc.symm.trans h1
  have hx9 := hs _ (List.mem_cons_of_mem _ List.mem_cons_self)
  have hy9 := hs _ List.mem_cons_self
  have k9 := k ws H locs la _ h2 hL hl (fun v9 hv9 => by rcases List.mem_cons.mp hv9 with rfl | hv9; exact (i32_in _); exact hs _ (List.mem_cons_of_mem _ (List.mem_cons_of_mem _ hv9))) hm hw hP hD hS hv
  have e9 : Int32.ofInt (fUshr x y) = ((Int32.ofInt x).toUInt32 >>> ((Int32.ofInt y).toUInt32 &&& Int32.toUInt32 31)).toInt32 := i32_to _
  simp only [List.map_cons, rV, e9] at k9
  exact lv_iushr hx hb hdg rfl k9
theorem go_lshl (hx : p.tables.exec = Jvm.exec) (hb : c.code = cc) {x y : Int} (hd : Dc cc pcs j (.lshl) 1 nx) (k : Go (fun H locs pc la sv => W p l e Rm s m args below meth c H locs cells slots Q (F0 m pc la sv)) D A tys ad aC nL s pcs S r (nx) (ls) (mL (fLshl x y) :: st) (h)) : Go (fun H locs pc la sv => W p l e Rm s m args below meth c H locs cells slots Q (F0 m pc la sv)) D A tys ad aC nL s pcs S r (j) (ls) (mI y :: mL x :: st) (h) := by
  intro ws H locs la pc hpc hL hl hs hm hw hP hD hS hv
  obtain ⟨pc0, h1, hdg, h2⟩ := hd
  cases hpc.symm.trans h1
  have hx9 := hs _ (List.mem_cons_of_mem _ List.mem_cons_self)
  have hy9 := hs _ List.mem_cons_self
  have k9 := k ws H locs la _ h2 hL hl (fun v9 hv9 => by rcases List.mem_cons.mp hv9 with rfl | hv9; exact (i64_in _); exact hs _ (List.mem_cons_of_mem _ (List.mem_cons_of_mem _ hv9))) hm hw hP hD hS hv
  have e9 : Int64.ofInt (fLshl x y) = Int64.ofInt x <<< ((Int32.ofInt y).toInt64 &&& 63) := i64_to _
  simp only [List.map_cons, rV, e9] at k9
  exact lv_lshl hx hb hdg rfl k9
theorem go_i2l (hx : p.tables.exec = Jvm.exec) (hb : c.code = cc) {x : Int} (hd : Dc cc pcs j (.i2l) 1 nx) (k : Go (fun H locs pc la sv => W p l e Rm s m args below meth c H locs cells slots Q (F0 m pc la sv)) D A tys ad aC nL s pcs S r (nx) (ls) (mL x :: st) (h)) : Go (fun H locs pc la sv => W p l e Rm s m args below meth c H locs cells slots Q (F0 m pc la sv)) D A tys ad aC nL s pcs S r (j) (ls) (mI x :: st) (h) := by
  intro ws H locs la pc hpc hL hl hs hm hw hP hD hS hv
  obtain ⟨pc0, h1, hdg, h2⟩ := hd
  cases hpc.symm.trans h1
  have hx9 := hs _ List.mem_cons_self
  have k9 := k ws H locs la _ h2 hL hl (fun v9 hv9 => by rcases List.mem_cons.mp hv9 with rfl | hv9; exact (inL_of hx9); exact hs _ (List.mem_cons_of_mem _ hv9)) hm hw hP hD hS hv
  have e9 : Int64.ofInt x = (Int32.ofInt x).toInt64 := (i2l_eq hx9)
  simp only [List.map_cons, rV, e9] at k9
  exact lv_i2l hx hb hdg rfl k9
theorem go_l2i (hx : p.tables.exec = Jvm.exec) (hb : c.code = cc) {x : Int} (hd : Dc cc pcs j (.l2i) 1 nx) (k : Go (fun H locs pc la sv => W p l e Rm s m args below meth c H locs cells slots Q (F0 m pc la sv)) D A tys ad aC nL s pcs S r (nx) (ls) (mI (fL2i x) :: st) (h)) : Go (fun H locs pc la sv => W p l e Rm s m args below meth c H locs cells slots Q (F0 m pc la sv)) D A tys ad aC nL s pcs S r (j) (ls) (mL x :: st) (h) := by
  intro ws H locs la pc hpc hL hl hs hm hw hP hD hS hv
  obtain ⟨pc0, h1, hdg, h2⟩ := hd
  cases hpc.symm.trans h1
  have hx9 := hs _ List.mem_cons_self
  have k9 := k ws H locs la _ h2 hL hl (fun v9 hv9 => by rcases List.mem_cons.mp hv9 with rfl | hv9; exact (i32_in _); exact hs _ (List.mem_cons_of_mem _ hv9)) hm hw hP hD hS hv
  have e9 : Int32.ofInt (fL2i x) = (Int64.ofInt x).toInt32 := i32_to _
  simp only [List.map_cons, rV, e9] at k9
  exact lv_l2i hx hb hdg rfl k9
theorem go_i2b (hx : p.tables.exec = Jvm.exec) (hb : c.code = cc) {x : Int} (hd : Dc cc pcs j (.i2b) 1 nx) (k : Go (fun H locs pc la sv => W p l e Rm s m args below meth c H locs cells slots Q (F0 m pc la sv)) D A tys ad aC nL s pcs S r (nx) (ls) (mI (fI2b x) :: st) (h)) : Go (fun H locs pc la sv => W p l e Rm s m args below meth c H locs cells slots Q (F0 m pc la sv)) D A tys ad aC nL s pcs S r (j) (ls) (mI x :: st) (h) := by
  intro ws H locs la pc hpc hL hl hs hm hw hP hD hS hv
  obtain ⟨pc0, h1, hdg, h2⟩ := hd
  cases hpc.symm.trans h1
  have hx9 := hs _ List.mem_cons_self
  have k9 := k ws H locs la _ h2 hL hl (fun v9 hv9 => by rcases List.mem_cons.mp hv9 with rfl | hv9; exact (i32_in _); exact hs _ (List.mem_cons_of_mem _ hv9)) hm hw hP hD hS hv
  have e9 : Int32.ofInt (fI2b x) = (Int32.ofInt x).toInt8.toInt32 := i32_to _
  simp only [List.map_cons, rV, e9] at k9
  exact lv_i2b hx hb hdg rfl k9
theorem go_i2s (hx : p.tables.exec = Jvm.exec) (hb : c.code = cc) {x : Int} (hd : Dc cc pcs j (.i2s) 1 nx) (k : Go (fun H locs pc la sv => W p l e Rm s m args below meth c H locs cells slots Q (F0 m pc la sv)) D A tys ad aC nL s pcs S r (nx) (ls) (mI (fI2s x) :: st) (h)) : Go (fun H locs pc la sv => W p l e Rm s m args below meth c H locs cells slots Q (F0 m pc la sv)) D A tys ad aC nL s pcs S r (j) (ls) (mI x :: st) (h) := by
  intro ws H locs la pc hpc hL hl hs hm hw hP hD hS hv
  obtain ⟨pc0, h1, hdg, h2⟩ := hd
  cases hpc.symm.trans h1
  have hx9 := hs _ List.mem_cons_self
  have k9 := k ws H locs la _ h2 hL hl (fun v9 hv9 => by rcases List.mem_cons.mp hv9 with rfl | hv9; exact (i32_in _); exact hs _ (List.mem_cons_of_mem _ hv9)) hm hw hP hD hS hv
  have e9 : Int32.ofInt (fI2s x) = (Int32.ofInt x).toInt16.toInt32 := i32_to _
  simp only [List.map_cons, rV, e9] at k9
  exact lv_i2s hx hb hdg rfl k9
theorem go_dupI (hx : p.tables.exec = Jvm.exec) (hb : c.code = cc) {x : Int} (hd : Dc cc pcs j (.dup) 1 nx) (k : Go (fun H locs pc la sv => W p l e Rm s m args below meth c H locs cells slots Q (F0 m pc la sv)) D A tys ad aC nL s pcs S r (nx) (ls) (mI x :: mI x :: st) (h)) : Go (fun H locs pc la sv => W p l e Rm s m args below meth c H locs cells slots Q (F0 m pc la sv)) D A tys ad aC nL s pcs S r (j) (ls) (mI x :: st) (h) := by
  intro ws H locs la pc hpc hL hl hs hm hw hP hD hS hv
  obtain ⟨pc0, h1, hdg, h2⟩ := hd
  cases hpc.symm.trans h1
  have k9 := k ws H locs la _ h2 hL hl (fun v9 hv9 => hs _ (by revert hv9; simp only [List.mem_cons]; grind)) hm hw hP hD hS hv
  exact lv_dup hx hb hdg rfl k9
theorem go_dupR (hx : p.tables.exec = Jvm.exec) (hb : c.code = cc) {v : Nat ⊕ Nat} (hd : Dc cc pcs j (.dup) 1 nx) (k : Go (fun H locs pc la sv => W p l e Rm s m args below meth c H locs cells slots Q (F0 m pc la sv)) D A tys ad aC nL s pcs S r (nx) (ls) (Sum.inr (Sum.inr v) :: Sum.inr (Sum.inr v) :: st) (h)) : Go (fun H locs pc la sv => W p l e Rm s m args below meth c H locs cells slots Q (F0 m pc la sv)) D A tys ad aC nL s pcs S r (j) (ls) (Sum.inr (Sum.inr v) :: st) (h) := by
  intro ws H locs la pc hpc hL hl hs hm hw hP hD hS hv
  obtain ⟨pc0, h1, hdg, h2⟩ := hd
  cases hpc.symm.trans h1
  have k9 := k ws H locs la _ h2 hL hl (fun v9 hv9 => hs _ (by revert hv9; simp only [List.mem_cons]; grind)) hm hw hP hD hS hv
  cases v <;> exact lv_dup hx hb hdg rfl k9
theorem go_dup2L (hx : p.tables.exec = Jvm.exec) (hb : c.code = cc) {x : Int} (hd : Dc cc pcs j (.dup2) 1 nx) (k : Go (fun H locs pc la sv => W p l e Rm s m args below meth c H locs cells slots Q (F0 m pc la sv)) D A tys ad aC nL s pcs S r (nx) (ls) (mL x :: mL x :: st) (h)) : Go (fun H locs pc la sv => W p l e Rm s m args below meth c H locs cells slots Q (F0 m pc la sv)) D A tys ad aC nL s pcs S r (j) (ls) (mL x :: st) (h) := by
  intro ws H locs la pc hpc hL hl hs hm hw hP hD hS hv
  obtain ⟨pc0, h1, hdg, h2⟩ := hd
  cases hpc.symm.trans h1
  have k9 := k ws H locs la _ h2 hL hl (fun v9 hv9 => hs _ (by revert hv9; simp only [List.mem_cons]; grind)) hm hw hP hD hS hv
  exact lv_dup2_2 hx hb hdg rfl k9
theorem go_dup2I (hx : p.tables.exec = Jvm.exec) (hb : c.code = cc) {x y : Int} (hd : Dc cc pcs j (.dup2) 1 nx) (k : Go (fun H locs pc la sv => W p l e Rm s m args below meth c H locs cells slots Q (F0 m pc la sv)) D A tys ad aC nL s pcs S r (nx) (ls) (mI y :: mI x :: mI y :: mI x :: st) (h)) : Go (fun H locs pc la sv => W p l e Rm s m args below meth c H locs cells slots Q (F0 m pc la sv)) D A tys ad aC nL s pcs S r (j) (ls) (mI y :: mI x :: st) (h) := by
  intro ws H locs la pc hpc hL hl hs hm hw hP hD hS hv
  obtain ⟨pc0, h1, hdg, h2⟩ := hd
  cases hpc.symm.trans h1
  have k9 := k ws H locs la _ h2 hL hl (fun v9 hv9 => hs _ (by revert hv9; simp only [List.mem_cons]; grind)) hm hw hP hD hS hv
  exact lv_dup2_11 hx hb hdg rfl rfl k9
theorem go_dup2R (hx : p.tables.exec = Jvm.exec) (hb : c.code = cc) {y : Int} {v : Nat ⊕ Nat} (hd : Dc cc pcs j (.dup2) 1 nx) (k : Go (fun H locs pc la sv => W p l e Rm s m args below meth c H locs cells slots Q (F0 m pc la sv)) D A tys ad aC nL s pcs S r (nx) (ls) (mI y :: Sum.inr (Sum.inr v) :: mI y :: Sum.inr (Sum.inr v) :: st) (h)) : Go (fun H locs pc la sv => W p l e Rm s m args below meth c H locs cells slots Q (F0 m pc la sv)) D A tys ad aC nL s pcs S r (j) (ls) (mI y :: Sum.inr (Sum.inr v) :: st) (h) := by
  intro ws H locs la pc hpc hL hl hs hm hw hP hD hS hv
  obtain ⟨pc0, h1, hdg, h2⟩ := hd
  cases hpc.symm.trans h1
  have k9 := k ws H locs la _ h2 hL hl (fun v9 hv9 => hs _ (by revert hv9; simp only [List.mem_cons]; grind)) hm hw hP hD hS hv
  cases v <;> exact lv_dup2_11 hx hb hdg rfl rfl k9
theorem go_pop (hx : p.tables.exec = Jvm.exec) (hb : c.code = cc) {x : Int} (hd : Dc cc pcs j (.pop) 1 nx) (k : Go (fun H locs pc la sv => W p l e Rm s m args below meth c H locs cells slots Q (F0 m pc la sv)) D A tys ad aC nL s pcs S r (nx) (ls) (st) (h)) : Go (fun H locs pc la sv => W p l e Rm s m args below meth c H locs cells slots Q (F0 m pc la sv)) D A tys ad aC nL s pcs S r (j) (ls) (mI x :: st) (h) := by
  intro ws H locs la pc hpc hL hl hs hm hw hP hD hS hv
  obtain ⟨pc0, h1, hdg, h2⟩ := hd
  cases hpc.symm.trans h1
  have k9 := k ws H locs la _ h2 hL hl (fun v9 hv9 => hs _ (List.mem_cons_of_mem _ hv9)) hm hw hP hD hS hv
  exact lv_pop hx hb hdg rfl k9
theorem go_goto (hx : p.tables.exec = Jvm.exec) (hb : c.code = cc) {off : Int} {t tg : Nat} (hd : Dc cc pcs j (.goto off) 3 nx) (ht : nth pcs t = some tg) (ho : ∀ pc : Nat, nth pcs j = some pc → (pc : Int) + off = (tg : Int)) (k : Go (fun H locs pc la sv => W p l e Rm s m args below meth c H locs cells slots Q (F0 m pc la sv)) D A tys ad aC nL s pcs S r (t) (ls) (st) (h)) : Go (fun H locs pc la sv => W p l e Rm s m args below meth c H locs cells slots Q (F0 m pc la sv)) D A tys ad aC nL s pcs S r (j) (ls) (st) (h) := by
  intro ws H locs la pc hpc hL hl hs hm hw hP hD hS hv
  obtain ⟨pc0, h1, hdg, h2⟩ := hd
  cases hpc.symm.trans h1
  exact lv_goto hx hb hdg (ho _ hpc) (k ws H locs la _ ht hL hl hs hm hw hP hD hS hv)
theorem go_icmp_eq (hx : p.tables.exec = Jvm.exec) (hb : c.code = cc) {x y : Int} {off : Int} {t tg : Nat} (hd : Dc cc pcs j (.if_icmp .eq off) 3 nx) (ht : nth pcs t = some tg) (ho : ∀ pc : Nat, nth pcs j = some pc → (pc : Int) + off = (tg : Int)) (kt : x = y → Go (fun H locs pc la sv => W p l e Rm s m args below meth c H locs cells slots Q (F0 m pc la sv)) D A tys ad aC nL s pcs S r (t) (ls) (st) (h)) (kf : ¬ x = y → Go (fun H locs pc la sv => W p l e Rm s m args below meth c H locs cells slots Q (F0 m pc la sv)) D A tys ad aC nL s pcs S r (nx) (ls) (st) (h)) : Go (fun H locs pc la sv => W p l e Rm s m args below meth c H locs cells slots Q (F0 m pc la sv)) D A tys ad aC nL s pcs S r (j) (ls) (mI y :: mI x :: st) (h) := by
  intro ws H locs la pc hpc hL hl hs hm hw hP hD hS hv
  obtain ⟨pc0, h1, hdg, h2⟩ := hd
  cases hpc.symm.trans h1
  have hs9 : ∀ v ∈ st, vOk S.length v := fun v9 hv9 => hs _ (List.mem_cons_of_mem _ (List.mem_cons_of_mem _ hv9))
  have hx9 : inI x := hs _ (List.mem_cons_of_mem _ List.mem_cons_self)
  have hy9 : inI y := hs _ List.mem_cons_self
  exact lv_icmp_eq hx hb hdg (ho _ hpc) (fun q => kt ((i32_eq hx9 hy9).mp q) ws H locs la _ ht hL hl hs9 hm hw hP hD hS hv) (fun q => kf (fun z => q ((i32_eq hx9 hy9).mpr z)) ws H locs la _ h2 hL hl hs9 hm hw hP hD hS hv)
theorem go_if_eq (hx : p.tables.exec = Jvm.exec) (hb : c.code = cc) {x : Int} {off : Int} {t tg : Nat} (hd : Dc cc pcs j (.ifCond .eq off) 3 nx) (ht : nth pcs t = some tg) (ho : ∀ pc : Nat, nth pcs j = some pc → (pc : Int) + off = (tg : Int)) (kt : x = 0 → Go (fun H locs pc la sv => W p l e Rm s m args below meth c H locs cells slots Q (F0 m pc la sv)) D A tys ad aC nL s pcs S r (t) (ls) (st) (h)) (kf : ¬ x = 0 → Go (fun H locs pc la sv => W p l e Rm s m args below meth c H locs cells slots Q (F0 m pc la sv)) D A tys ad aC nL s pcs S r (nx) (ls) (st) (h)) : Go (fun H locs pc la sv => W p l e Rm s m args below meth c H locs cells slots Q (F0 m pc la sv)) D A tys ad aC nL s pcs S r (j) (ls) (mI x :: st) (h) := by
  intro ws H locs la pc hpc hL hl hs hm hw hP hD hS hv
  obtain ⟨pc0, h1, hdg, h2⟩ := hd
  cases hpc.symm.trans h1
  have hs9 : ∀ v ∈ st, vOk S.length v := fun v9 hv9 => hs _ (List.mem_cons_of_mem _ hv9)
  have hx9 : inI x := hs _ List.mem_cons_self
  have hy9 : inI 0 := by omega
  exact lv_if_eq hx hb hdg (ho _ hpc) (fun q => kt ((i32_eq hx9 hy9).mp q) ws H locs la _ ht hL hl hs9 hm hw hP hD hS hv) (fun q => kf (fun z => q ((i32_eq hx9 hy9).mpr z)) ws H locs la _ h2 hL hl hs9 hm hw hP hD hS hv)
theorem go_icmp_ne (hx : p.tables.exec = Jvm.exec) (hb : c.code = cc) {x y : Int} {off : Int} {t tg : Nat} (hd : Dc cc pcs j (.if_icmp .ne off) 3 nx) (ht : nth pcs t = some tg) (ho : ∀ pc : Nat, nth pcs j = some pc → (pc : Int) + off = (tg : Int)) (kt : ¬ x = y → Go (fun H locs pc la sv => W p l e Rm s m args below meth c H locs cells slots Q (F0 m pc la sv)) D A tys ad aC nL s pcs S r (t) (ls) (st) (h)) (kf : x = y → Go (fun H locs pc la sv => W p l e Rm s m args below meth c H locs cells slots Q (F0 m pc la sv)) D A tys ad aC nL s pcs S r (nx) (ls) (st) (h)) : Go (fun H locs pc la sv => W p l e Rm s m args below meth c H locs cells slots Q (F0 m pc la sv)) D A tys ad aC nL s pcs S r (j) (ls) (mI y :: mI x :: st) (h) := by
  intro ws H locs la pc hpc hL hl hs hm hw hP hD hS hv
  obtain ⟨pc0, h1, hdg, h2⟩ := hd
  cases hpc.symm.trans h1
  have hs9 : ∀ v ∈ st, vOk S.length v := fun v9 hv9 => hs _ (List.mem_cons_of_mem _ (List.mem_cons_of_mem _ hv9))
  have hx9 : inI x := hs _ (List.mem_cons_of_mem _ List.mem_cons_self)
  have hy9 : inI y := hs _ List.mem_cons_self
  exact lv_icmp_ne hx hb hdg (ho _ hpc) (fun q => kt (fun z => q ((i32_eq hx9 hy9).mpr z)) ws H locs la _ ht hL hl hs9 hm hw hP hD hS hv) (fun q => kf ((i32_eq hx9 hy9).mp q) ws H locs la _ h2 hL hl hs9 hm hw hP hD hS hv)
theorem go_if_ne (hx : p.tables.exec = Jvm.exec) (hb : c.code = cc) {x : Int} {off : Int} {t tg : Nat} (hd : Dc cc pcs j (.ifCond .ne off) 3 nx) (ht : nth pcs t = some tg) (ho : ∀ pc : Nat, nth pcs j = some pc → (pc : Int) + off = (tg : Int)) (kt : ¬ x = 0 → Go (fun H locs pc la sv => W p l e Rm s m args below meth c H locs cells slots Q (F0 m pc la sv)) D A tys ad aC nL s pcs S r (t) (ls) (st) (h)) (kf : x = 0 → Go (fun H locs pc la sv => W p l e Rm s m args below meth c H locs cells slots Q (F0 m pc la sv)) D A tys ad aC nL s pcs S r (nx) (ls) (st) (h)) : Go (fun H locs pc la sv => W p l e Rm s m args below meth c H locs cells slots Q (F0 m pc la sv)) D A tys ad aC nL s pcs S r (j) (ls) (mI x :: st) (h) := by
  intro ws H locs la pc hpc hL hl hs hm hw hP hD hS hv
  obtain ⟨pc0, h1, hdg, h2⟩ := hd
  cases hpc.symm.trans h1
  have hs9 : ∀ v ∈ st, vOk S.length v := fun v9 hv9 => hs _ (List.mem_cons_of_mem _ hv9)
  have hx9 : inI x := hs _ List.mem_cons_self
  have hy9 : inI 0 := by omega
  exact lv_if_ne hx hb hdg (ho _ hpc) (fun q => kt (fun z => q ((i32_eq hx9 hy9).mpr z)) ws H locs la _ ht hL hl hs9 hm hw hP hD hS hv) (fun q => kf ((i32_eq hx9 hy9).mp q) ws H locs la _ h2 hL hl hs9 hm hw hP hD hS hv)
theorem go_icmp_lt (hx : p.tables.exec = Jvm.exec) (hb : c.code = cc) {x y : Int} {off : Int} {t tg : Nat} (hd : Dc cc pcs j (.if_icmp .lt off) 3 nx) (ht : nth pcs t = some tg) (ho : ∀ pc : Nat, nth pcs j = some pc → (pc : Int) + off = (tg : Int)) (kt : x < y → Go (fun H locs pc la sv => W p l e Rm s m args below meth c H locs cells slots Q (F0 m pc la sv)) D A tys ad aC nL s pcs S r (t) (ls) (st) (h)) (kf : ¬ x < y → Go (fun H locs pc la sv => W p l e Rm s m args below meth c H locs cells slots Q (F0 m pc la sv)) D A tys ad aC nL s pcs S r (nx) (ls) (st) (h)) : Go (fun H locs pc la sv => W p l e Rm s m args below meth c H locs cells slots Q (F0 m pc la sv)) D A tys ad aC nL s pcs S r (j) (ls) (mI y :: mI x :: st) (h) := by
  intro ws H locs la pc hpc hL hl hs hm hw hP hD hS hv
  obtain ⟨pc0, h1, hdg, h2⟩ := hd
  cases hpc.symm.trans h1
  have hs9 : ∀ v ∈ st, vOk S.length v := fun v9 hv9 => hs _ (List.mem_cons_of_mem _ (List.mem_cons_of_mem _ hv9))
  have hx9 : inI x := hs _ (List.mem_cons_of_mem _ List.mem_cons_self)
  have hy9 : inI y := hs _ List.mem_cons_self
  exact lv_icmp_lt hx hb hdg (ho _ hpc) (fun q => kt ((i32_lt hx9 hy9).mp q) ws H locs la _ ht hL hl hs9 hm hw hP hD hS hv) (fun q => kf (fun z => q ((i32_lt hx9 hy9).mpr z)) ws H locs la _ h2 hL hl hs9 hm hw hP hD hS hv)
theorem go_if_lt (hx : p.tables.exec = Jvm.exec) (hb : c.code = cc) {x : Int} {off : Int} {t tg : Nat} (hd : Dc cc pcs j (.ifCond .lt off) 3 nx) (ht : nth pcs t = some tg) (ho : ∀ pc : Nat, nth pcs j = some pc → (pc : Int) + off = (tg : Int)) (kt : x < 0 → Go (fun H locs pc la sv => W p l e Rm s m args below meth c H locs cells slots Q (F0 m pc la sv)) D A tys ad aC nL s pcs S r (t) (ls) (st) (h)) (kf : ¬ x < 0 → Go (fun H locs pc la sv => W p l e Rm s m args below meth c H locs cells slots Q (F0 m pc la sv)) D A tys ad aC nL s pcs S r (nx) (ls) (st) (h)) : Go (fun H locs pc la sv => W p l e Rm s m args below meth c H locs cells slots Q (F0 m pc la sv)) D A tys ad aC nL s pcs S r (j) (ls) (mI x :: st) (h) := by
  intro ws H locs la pc hpc hL hl hs hm hw hP hD hS hv
  obtain ⟨pc0, h1, hdg, h2⟩ := hd
  cases hpc.symm.trans h1
  have hs9 : ∀ v ∈ st, vOk S.length v := fun v9 hv9 => hs _ (List.mem_cons_of_mem _ hv9)
  have hx9 : inI x := hs _ List.mem_cons_self
  have hy9 : inI 0 := by omega
  exact lv_if_lt hx hb hdg (ho _ hpc) (fun q => kt ((i32_lt hx9 hy9).mp q) ws H locs la _ ht hL hl hs9 hm hw hP hD hS hv) (fun q => kf (fun z => q ((i32_lt hx9 hy9).mpr z)) ws H locs la _ h2 hL hl hs9 hm hw hP hD hS hv)
theorem go_icmp_ge (hx : p.tables.exec = Jvm.exec) (hb : c.code = cc) {x y : Int} {off : Int} {t tg : Nat} (hd : Dc cc pcs j (.if_icmp .ge off) 3 nx) (ht : nth pcs t = some tg) (ho : ∀ pc : Nat, nth pcs j = some pc → (pc : Int) + off = (tg : Int)) (kt : ¬ x < y → Go (fun H locs pc la sv => W p l e Rm s m args below meth c H locs cells slots Q (F0 m pc la sv)) D A tys ad aC nL s pcs S r (t) (ls) (st) (h)) (kf : x < y → Go (fun H locs pc la sv => W p l e Rm s m args below meth c H locs cells slots Q (F0 m pc la sv)) D A tys ad aC nL s pcs S r (nx) (ls) (st) (h)) : Go (fun H locs pc la sv => W p l e Rm s m args below meth c H locs cells slots Q (F0 m pc la sv)) D A tys ad aC nL s pcs S r (j) (ls) (mI y :: mI x :: st) (h) := by
  intro ws H locs la pc hpc hL hl hs hm hw hP hD hS hv
  obtain ⟨pc0, h1, hdg, h2⟩ := hd
  cases hpc.symm.trans h1
  have hs9 : ∀ v ∈ st, vOk S.length v := fun v9 hv9 => hs _ (List.mem_cons_of_mem _ (List.mem_cons_of_mem _ hv9))
  have hx9 : inI x := hs _ (List.mem_cons_of_mem _ List.mem_cons_self)
  have hy9 : inI y := hs _ List.mem_cons_self
  exact lv_icmp_ge hx hb hdg (ho _ hpc) (fun q => kt (fun z => Int32.not_lt.mpr q ((i32_lt hx9 hy9).mpr z)) ws H locs la _ ht hL hl hs9 hm hw hP hD hS hv) (fun q => kf ((i32_lt hx9 hy9).mp (Int32.not_le.mp q)) ws H locs la _ h2 hL hl hs9 hm hw hP hD hS hv)
theorem go_if_ge (hx : p.tables.exec = Jvm.exec) (hb : c.code = cc) {x : Int} {off : Int} {t tg : Nat} (hd : Dc cc pcs j (.ifCond .ge off) 3 nx) (ht : nth pcs t = some tg) (ho : ∀ pc : Nat, nth pcs j = some pc → (pc : Int) + off = (tg : Int)) (kt : ¬ x < 0 → Go (fun H locs pc la sv => W p l e Rm s m args below meth c H locs cells slots Q (F0 m pc la sv)) D A tys ad aC nL s pcs S r (t) (ls) (st) (h)) (kf : x < 0 → Go (fun H locs pc la sv => W p l e Rm s m args below meth c H locs cells slots Q (F0 m pc la sv)) D A tys ad aC nL s pcs S r (nx) (ls) (st) (h)) : Go (fun H locs pc la sv => W p l e Rm s m args below meth c H locs cells slots Q (F0 m pc la sv)) D A tys ad aC nL s pcs S r (j) (ls) (mI x :: st) (h) := by
  intro ws H locs la pc hpc hL hl hs hm hw hP hD hS hv
  obtain ⟨pc0, h1, hdg, h2⟩ := hd
  cases hpc.symm.trans h1
  have hs9 : ∀ v ∈ st, vOk S.length v := fun v9 hv9 => hs _ (List.mem_cons_of_mem _ hv9)
  have hx9 : inI x := hs _ List.mem_cons_self
  have hy9 : inI 0 := by omega
  exact lv_if_ge hx hb hdg (ho _ hpc) (fun q => kt (fun z => Int32.not_lt.mpr q ((i32_lt hx9 hy9).mpr z)) ws H locs la _ ht hL hl hs9 hm hw hP hD hS hv) (fun q => kf ((i32_lt hx9 hy9).mp (Int32.not_le.mp q)) ws H locs la _ h2 hL hl hs9 hm hw hP hD hS hv)
theorem go_icmp_gt (hx : p.tables.exec = Jvm.exec) (hb : c.code = cc) {x y : Int} {off : Int} {t tg : Nat} (hd : Dc cc pcs j (.if_icmp .gt off) 3 nx) (ht : nth pcs t = some tg) (ho : ∀ pc : Nat, nth pcs j = some pc → (pc : Int) + off = (tg : Int)) (kt : y < x → Go (fun H locs pc la sv => W p l e Rm s m args below meth c H locs cells slots Q (F0 m pc la sv)) D A tys ad aC nL s pcs S r (t) (ls) (st) (h)) (kf : ¬ y < x → Go (fun H locs pc la sv => W p l e Rm s m args below meth c H locs cells slots Q (F0 m pc la sv)) D A tys ad aC nL s pcs S r (nx) (ls) (st) (h)) : Go (fun H locs pc la sv => W p l e Rm s m args below meth c H locs cells slots Q (F0 m pc la sv)) D A tys ad aC nL s pcs S r (j) (ls) (mI y :: mI x :: st) (h) := by
  intro ws H locs la pc hpc hL hl hs hm hw hP hD hS hv
  obtain ⟨pc0, h1, hdg, h2⟩ := hd
  cases hpc.symm.trans h1
  have hs9 : ∀ v ∈ st, vOk S.length v := fun v9 hv9 => hs _ (List.mem_cons_of_mem _ (List.mem_cons_of_mem _ hv9))
  have hx9 : inI x := hs _ (List.mem_cons_of_mem _ List.mem_cons_self)
  have hy9 : inI y := hs _ List.mem_cons_self
  exact lv_icmp_gt hx hb hdg (ho _ hpc) (fun q => kt ((i32_lt hy9 hx9).mp q) ws H locs la _ ht hL hl hs9 hm hw hP hD hS hv) (fun q => kf (fun z => q ((i32_lt hy9 hx9).mpr z)) ws H locs la _ h2 hL hl hs9 hm hw hP hD hS hv)
theorem go_if_gt (hx : p.tables.exec = Jvm.exec) (hb : c.code = cc) {x : Int} {off : Int} {t tg : Nat} (hd : Dc cc pcs j (.ifCond .gt off) 3 nx) (ht : nth pcs t = some tg) (ho : ∀ pc : Nat, nth pcs j = some pc → (pc : Int) + off = (tg : Int)) (kt : 0 < x → Go (fun H locs pc la sv => W p l e Rm s m args below meth c H locs cells slots Q (F0 m pc la sv)) D A tys ad aC nL s pcs S r (t) (ls) (st) (h)) (kf : ¬ 0 < x → Go (fun H locs pc la sv => W p l e Rm s m args below meth c H locs cells slots Q (F0 m pc la sv)) D A tys ad aC nL s pcs S r (nx) (ls) (st) (h)) : Go (fun H locs pc la sv => W p l e Rm s m args below meth c H locs cells slots Q (F0 m pc la sv)) D A tys ad aC nL s pcs S r (j) (ls) (mI x :: st) (h) := by
  intro ws H locs la pc hpc hL hl hs hm hw hP hD hS hv
  obtain ⟨pc0, h1, hdg, h2⟩ := hd
  cases hpc.symm.trans h1
  have hs9 : ∀ v ∈ st, vOk S.length v := fun v9 hv9 => hs _ (List.mem_cons_of_mem _ hv9)
  have hx9 : inI x := hs _ List.mem_cons_self
  have hy9 : inI 0 := by omega
  exact lv_if_gt hx hb hdg (ho _ hpc) (fun q => kt ((i32_lt hy9 hx9).mp q) ws H locs la _ ht hL hl hs9 hm hw hP hD hS hv) (fun q => kf (fun z => q ((i32_lt hy9 hx9).mpr z)) ws H locs la _ h2 hL hl hs9 hm hw hP hD hS hv)
theorem go_icmp_le (hx : p.tables.exec = Jvm.exec) (hb : c.code = cc) {x y : Int} {off : Int} {t tg : Nat} (hd : Dc cc pcs j (.if_icmp .le off) 3 nx) (ht : nth pcs t = some tg) (ho : ∀ pc : Nat, nth pcs j = some pc → (pc : Int) + off = (tg : Int)) (kt : ¬ y < x → Go (fun H locs pc la sv => W p l e Rm s m args below meth c H locs cells slots Q (F0 m pc la sv)) D A tys ad aC nL s pcs S r (t) (ls) (st) (h)) (kf : y < x → Go (fun H locs pc la sv => W p l e Rm s m args below meth c H locs cells slots Q (F0 m pc la sv)) D A tys ad aC nL s pcs S r (nx) (ls) (st) (h)) : Go (fun H locs pc la sv => W p l e Rm s m args below meth c H locs cells slots Q (F0 m pc la sv)) D A tys ad aC nL s pcs S r (j) (ls) (mI y :: mI x :: st) (h) := by
  intro ws H locs la pc hpc hL hl hs hm hw hP hD hS hv
  obtain ⟨pc0, h1, hdg, h2⟩ := hd
  cases hpc.symm.trans h1
  have hs9 : ∀ v ∈ st, vOk S.length v := fun v9 hv9 => hs _ (List.mem_cons_of_mem _ (List.mem_cons_of_mem _ hv9))
  have hx9 : inI x := hs _ (List.mem_cons_of_mem _ List.mem_cons_self)
  have hy9 : inI y := hs _ List.mem_cons_self
  exact lv_icmp_le hx hb hdg (ho _ hpc) (fun q => kt (fun z => Int32.not_lt.mpr q ((i32_lt hy9 hx9).mpr z)) ws H locs la _ ht hL hl hs9 hm hw hP hD hS hv) (fun q => kf ((i32_lt hy9 hx9).mp (Int32.not_le.mp q)) ws H locs la _ h2 hL hl hs9 hm hw hP hD hS hv)
theorem go_if_le (hx : p.tables.exec = Jvm.exec) (hb : c.code = cc) {x : Int} {off : Int} {t tg : Nat} (hd : Dc cc pcs j (.ifCond .le off) 3 nx) (ht : nth pcs t = some tg) (ho : ∀ pc : Nat, nth pcs j = some pc → (pc : Int) + off = (tg : Int)) (kt : ¬ 0 < x → Go (fun H locs pc la sv => W p l e Rm s m args below meth c H locs cells slots Q (F0 m pc la sv)) D A tys ad aC nL s pcs S r (t) (ls) (st) (h)) (kf : 0 < x → Go (fun H locs pc la sv => W p l e Rm s m args below meth c H locs cells slots Q (F0 m pc la sv)) D A tys ad aC nL s pcs S r (nx) (ls) (st) (h)) : Go (fun H locs pc la sv => W p l e Rm s m args below meth c H locs cells slots Q (F0 m pc la sv)) D A tys ad aC nL s pcs S r (j) (ls) (mI x :: st) (h) := by
  intro ws H locs la pc hpc hL hl hs hm hw hP hD hS hv
  obtain ⟨pc0, h1, hdg, h2⟩ := hd
  cases hpc.symm.trans h1
  have hs9 : ∀ v ∈ st, vOk S.length v := fun v9 hv9 => hs _ (List.mem_cons_of_mem _ hv9)
  have hx9 : inI x := hs _ List.mem_cons_self
  have hy9 : inI 0 := by omega
  exact lv_if_le hx hb hdg (ho _ hpc) (fun q => kt (fun z => Int32.not_lt.mpr q ((i32_lt hy9 hx9).mpr z)) ws H locs la _ ht hL hl hs9 hm hw hP hD hS hv) (fun q => kf ((i32_lt hy9 hx9).mp (Int32.not_le.mp q)) ws H locs la _ h2 hL hl hs9 hm hw hP hD hS hv)
end
end
section
/-! SIM 2: stores, longs' compares, switches, fields, arrays, constants, copies, Math -/
/-- ls' is ls with v at k -/
def StR (v : mv) (k : Nat) (ls ls' : List mv) : Prop := ls'.length = ls.length ∧ k < ls.length ∧ nth ls' k = some v ∧ ∀ i u, i ≠ k → nth ls' i = some u → u ≠ mC 0 → nth ls i = some u ∧ (i + 1 = k → ∀ x, u ≠ mL x)
theorem kl_eq {a u : mv} (h : kl a = u) (h0 : u ≠ mC 0) : a = u ∧ ∀ x, u ≠ mL x := by
  unfold kl at h
  split at h
  · exact absurd h.symm h0
  · next h1 =>
    refine ⟨h, fun x q => ?_⟩
    exact h1 x (h.trans q)
theorem stK_spec {ρ : Type} {v : mv} {r : ρ} : ∀ (k : Nat) (ls : List mv) {K : List mv → Option ρ}, stK v k ls K = some r → ∃ ls', StR v k ls ls' ∧ K ls' = some r
  | 0, [], K, h => by cases h
  | 0, a :: l, K, h => ⟨v :: l, ⟨rfl, by simp, rfl, fun i u hi hu _ => by
      cases i with
      | zero => exact absurd rfl hi
      | succ i => exact ⟨hu, fun q => by omega⟩⟩, h⟩
  | 1, [], K, h => by cases h
  | 1, [_], K, h => by cases h
  | 1, a :: b :: l, K, h => ⟨kl a :: v :: l, ⟨rfl, by simp, rfl, fun i u hi hu h0 => by
      cases i with
      | zero =>
        obtain ⟨h1, h2⟩ := kl_eq (Option.some.inj hu) h0
        exact ⟨by rw [← h1]; rfl, fun _ => h2⟩
      | succ i => cases i with
        | zero => exact absurd rfl hi
        | succ i => exact ⟨hu, fun q => by omega⟩⟩, h⟩
  | k + 2, [], K, h => by cases h
  | k + 2, a :: l, K, h => by
    obtain ⟨l', ⟨h1, h2, h3, h4⟩, h5⟩ := stK_spec (k + 1) l h
    refine ⟨a :: l', ⟨by simp [h1], by simp only [List.length_cons]; omega, h3, fun i u hi hu h0 => ?_⟩, h5⟩
    cases i with
    | zero => exact ⟨hu, fun q => by omega⟩
    | succ i =>
      obtain ⟨g1, g2⟩ := h4 i u (by omega) hu h0
      exact ⟨g1, fun q => g2 (by omega)⟩
theorem stL_spec {ρ : Type} {v : mv} {r : ρ} : ∀ (k : Nat) (ls : List mv) {K : List mv → Option ρ}, stL v k ls K = some r → ∃ ls', (StR v k ls ls' ∧ nth ls' (k + 1) = some (mC 0)) ∧ K ls' = some r
  | 0, [], K, h => by cases h
  | 0, [_], K, h => by cases h
  | 0, a :: b :: l, K, h => ⟨v :: mC 0 :: l, ⟨⟨rfl, by simp, rfl, fun i u hi hu h0 => by
      cases i with
      | zero => exact absurd rfl hi
      | succ i => cases i with
        | zero => exact absurd (Option.some.inj hu).symm h0
        | succ i => exact ⟨hu, fun q => by omega⟩⟩, rfl⟩, h⟩
  | 1, [], K, h => by cases h
  | 1, [_], K, h => by cases h
  | 1, [_, _], K, h => by cases h
  | 1, a :: b :: b' :: l, K, h => ⟨kl a :: v :: mC 0 :: l, ⟨⟨rfl, by simp, rfl, fun i u hi hu h0 => by
      cases i with
      | zero =>
        obtain ⟨h1, h2⟩ := kl_eq (Option.some.inj hu) h0
        exact ⟨by rw [← h1]; rfl, fun _ => h2⟩
      | succ i => cases i with
        | zero => exact absurd rfl hi
        | succ i => cases i with
          | zero => exact absurd (Option.some.inj hu).symm h0
          | succ i => exact ⟨hu, fun q => by omega⟩⟩, rfl⟩, h⟩
  | k + 2, [], K, h => by cases h
  | k + 2, a :: l, K, h => by
    obtain ⟨l', ⟨⟨h1, h2, h3, h4⟩, h6⟩, h5⟩ := stL_spec (k + 1) l h
    refine ⟨a :: l', ⟨⟨by simp [h1], by simp only [List.length_cons]; omega, h3, fun i u hi hu h0 => ?_⟩, h6⟩, h5⟩
    cases i with
    | zero => exact ⟨hu, fun q => by omega⟩
    | succ i =>
      obtain ⟨g1, g2⟩ := h4 i u (by omega) hu h0
      exact ⟨g1, fun q => g2 (by omega)⟩
theorem mem_nth {α : Type} : ∀ {l : List α} {a : α}, a ∈ l → ∃ k, nth l k = some a
  | [], a, h => by cases h
  | b :: l, a, h => by
    rcases List.mem_cons.mp h with rfl | h
    · exact ⟨0, rfl⟩
    · obtain ⟨k, hk⟩ := mem_nth h
      exact ⟨k + 1, hk⟩
theorem StR.ok {n : Nat} {v : mv} {k : Nat} {ls ls' : List mv} (hR : StR v k ls ls') (hv : vOk n v) (hl : ∀ u ∈ ls, vOk n u) : ∀ u ∈ ls', vOk n u := by
  intro u hu
  obtain ⟨i, hi⟩ := mem_nth hu
  by_cases h0 : u = mC 0
  · rw [h0]; trivial
  · by_cases e : i = k
    · subst e
      rw [hR.2.2.1] at hi
      cases hi
      exact hv
    · exact hl _ (nth_mem (hR.2.2.2 i u e hi h0).1)
theorem cat_rV {ad aC : Nat → Nat} {u : mv} (h : ∀ x, u ≠ mL x) : (rV ad aC u).category = 1 := by
  rcases u with x | x | x | x
  · rfl
  · exact absurd rfl (h x)
  · rfl
  · rfl
theorem StR.has {ad aC : Nat → Nat} {nL : Nat} {la : Array Slot} {v : mv} {k : Nat} {ls ls' : List mv} (hR : StR v k ls ls') (h : lv_has la nL ((k, rV ad aC v) :: (asc ad aC 0 ls).filter (fun q => !(q.1 == k) && !(q.1 + 1 == k && q.2.category == 2)))) : lv_has la nL (asc ad aC 0 ls') := by
  refine ⟨h.1, h.2.1, fun q hq => ?_⟩
  obtain ⟨i, u, h1, h2, h3⟩ := mem_asc.mp hq
  subst h3
  rw [Nat.zero_add] at *
  by_cases e : i = k
  · subst e
    rw [hR.2.2.1] at h1
    cases h1
    exact h.2.2 _ List.mem_cons_self
  · obtain ⟨g1, g2⟩ := hR.2.2.2 i u e h1 h2
    refine h.2.2 _ (List.mem_cons_of_mem _ (List.mem_filter.mpr ⟨mem_asc.mpr ⟨i, u, g1, h2, by rw [Nat.zero_add]⟩, ?_⟩))
    by_cases e2 : i + 1 = k
    · simp [e, cat_rV (ad := ad) (aC := aC) (g2 e2)]
    · simp [e, e2]
theorem StR.hasL {ad aC : Nat → Nat} {nL : Nat} {la : Array Slot} {v : mv} {k : Nat} {ls ls' : List mv} (hR : StR v k ls ls' ∧ nth ls' (k + 1) = some (mC 0)) (h : lv_has la nL ((k, rV ad aC v) :: (asc ad aC 0 ls).filter (fun q => !(q.1 == k) && (!(q.1 == k + 1) && !(q.1 + 1 == k && q.2.category == 2))))) : lv_has la nL (asc ad aC 0 ls') := by
  refine ⟨h.1, h.2.1, fun q hq => ?_⟩
  obtain ⟨i, u, h1, h2, h3⟩ := mem_asc.mp hq
  subst h3
  rw [Nat.zero_add] at *
  by_cases e : i = k
  · subst e
    rw [hR.1.2.2.1] at h1
    cases h1
    exact h.2.2 _ List.mem_cons_self
  · obtain ⟨g1, g2⟩ := hR.1.2.2.2 i u e h1 h2
    have e1 : ¬ i = k + 1 := fun q => by
      subst q
      rw [hR.2] at h1
      exact h2 (Option.some.inj h1).symm
    refine h.2.2 _ (List.mem_cons_of_mem _ (List.mem_filter.mpr ⟨mem_asc.mpr ⟨i, u, g1, h2, by rw [Nat.zero_add]⟩, ?_⟩))
    by_cases e2 : i + 1 = k
    · simp [e, e1, cat_rV (ad := ad) (aC := aC) (g2 e2)]
    · simp [e, e1, e2]
theorem wds_ok {ad aC : Nat → Nat} : ∀ (st : List mv), ((st.map (rV ad aC)).map fun v => v.category).sum = wds st
  | [] => rfl
  | .inl _ :: r => by
    have q := wds_ok (ad := ad) (aC := aC) r
    simp only [List.map_cons, List.sum_cons, wds]
    rw [q]
    show 1 + wds r = wds r + 1
    omega
  | .inr (.inl _) :: r => by
    have q := wds_ok (ad := ad) (aC := aC) r
    simp only [List.map_cons, List.sum_cons, wds]
    rw [q]
    show 2 + wds r = wds r + 2
    omega
  | .inr (.inr (.inl _)) :: r => by
    have q := wds_ok (ad := ad) (aC := aC) r
    simp only [List.map_cons, List.sum_cons, wds]
    rw [q]
    show 1 + wds r = wds r + 1
    omega
  | .inr (.inr (.inr _)) :: r => by
    have q := wds_ok (ad := ad) (aC := aC) r
    simp only [List.map_cons, List.sum_cons, wds]
    rw [q]
    show 1 + wds r = wds r + 1
    omega
theorem few_spec {ρ : Type} {st : List mv} {k : Option ρ} {r : ρ} (h : few st k = some r) : wds st ≤ 8 ∧ k = some r := by
  unfold few at h
  split at h
  · next q => exact ⟨Nat.le_of_ble_eq_true q, h⟩
  · cases h
theorem mObj_spec {S : mSh} {a ci : Nat} (h : mObj S a ci = true) : nth S a = some (.inl ci) := by
  unfold mObj at h
  split at h
  · next c q => rw [q, Nat.eq_of_beq_eq_true h]
  · cases h
theorem mArr_spec {S : mSh} {a ty n : Nat} (h : mArr S a ty = some n) : nth S a = some (.inr (ty, n)) := by
  unfold mArr at h
  split at h
  · next t m q =>
    split at h
    · next q2 =>
      cases h
      rw [q, Nat.eq_of_beq_eq_true q2]
    · cases h
  · cases h
theorem inA_in {i : Int} {n : Nat} (hi : inI i) (h : inA i n) : vp_in (Int32.ofInt i) n ∧ (Int32.ofInt i).toNatClampNeg = i.toNat := by
  refine ⟨vp_in_iff.mpr ?_, ?_⟩
  · rw [i32_of hi]
    exact h
  · show (Int32.ofInt i).toInt.toNat = i.toNat
    rw [i32_of hi]
theorem inA_cast {i : Int} {n : Nat} (h : inA i n) : ((i.toNat : Nat) : Int) = i := by omega
/-- the world with one number changed: an array's -/
theorem Wld_arr {tys : List (ClassId × FieldType)} {ws : va_W} {ad : Nat → Nat} {S : mSh} {r : mRf} {h : mM} {a t n cA : Nat} {i x : Int} (hw : Wld tys ws ad S r h) (ha : nth S a = some (.inr (t, n))) (hcl : ws[a]? = some (ad a, .inl (cA, n, acn ad r h a t))) : Wld tys (ws.set a (ad a, .inl (cA, n, acn ad r (upM h a i x) a t))) ad S r (upM h a i x) := by
  obtain ⟨h1, h2, h3, h4⟩ := hw
  have hl := (List.getElem?_eq_some_iff.mp hcl).1
  refine ⟨by rw [List.length_set]; exact h1, fun b ci hb => ?_, fun b t' n' hb => ?_, h4⟩
  · have hne : b ≠ a := fun q => by subst q; rw [ha] at hb; cases hb
    obtain ⟨f, hf, hc⟩ := h2 b ci hb
    exact ⟨f, hf, by rw [List.getElem?_set_ne (Ne.symm hne), hc, fvs_congr (fun k => upM_ne hne)]⟩
  · by_cases hne : b = a
    · subst hne
      rw [ha] at hb
      cases hb
      obtain ⟨cA', t0, g1, g2, g3⟩ := h3 b _ _ ha
      rw [hcl] at g3
      cases g3
      exact ⟨_, t0, g1, g2, by rw [List.getElem?_set_self hl]⟩
    · obtain ⟨cA', t0, g1, g2, g3⟩ := h3 b t' n' hb
      exact ⟨cA', t0, g1, g2, by rw [List.getElem?_set_ne (Ne.symm hne), g3, acn_congr (fun k => upM_ne hne)]⟩
/-- the world with one number changed: an object's -/
theorem Wld_obj {tys : List (ClassId × FieldType)} {ws : va_W} {ad : Nat → Nat} {S : mSh} {r : mRf} {h : mM} {a ci : Nat} {f : List Nat} {i x : Int} (hw : Wld tys ws ad S r h) (ha : nth S a = some (.inl ci)) (hf : nth FT ci = some f) : Wld tys (ws.set a (ad a, .inr (ci, fvs ad r (upM h a i x) a 0 f))) ad S r (upM h a i x) := by
  obtain ⟨h1, h2, h3, h4⟩ := hw
  have hl : a < ws.length := by rw [h1]; exact nth_lt ha
  refine ⟨by rw [List.length_set]; exact h1, fun b ci' hb => ?_, fun b t' n' hb => ?_, h4⟩
  · by_cases hne : b = a
    · subst hne
      rw [ha] at hb
      cases hb
      exact ⟨f, hf, by rw [List.getElem?_set_self hl]⟩
    · obtain ⟨f', hf', hc⟩ := h2 b ci' hb
      exact ⟨f', hf', by rw [List.getElem?_set_ne (Ne.symm hne), hc, fvs_congr (fun k => upM_ne hne)]⟩
  · have hne : b ≠ a := fun q => by subst q; rw [ha] at hb; cases hb
    obtain ⟨cA', t0, g1, g2, g3⟩ := h3 b t' n' hb
    exact ⟨cA', t0, g1, g2, by rw [List.getElem?_set_ne (Ne.symm hne), g3, acn_congr (fun k => upM_ne hne)]⟩
theorem fit_z {x : Int} (g : 0 ≤ x ∧ x ≤ 1) : fits .boolean (.int (Int32.ofInt x)) = true := by
  have : x = 0 ∨ x = 1 := by omega
  rcases this with rfl | rfl <;> rfl
theorem nar_z {x : Int} (g : 0 ≤ x ∧ x ≤ 1) : narrow .boolean (.int (Int32.ofInt x)) = .int (Int32.ofInt x) := by
  have : x = 0 ∨ x = 1 := by omega
  rcases this with rfl | rfl <;> rfl
theorem nar_b {v : Int} (g : inB v) : vp_nar .byte (Int32.ofInt v) = Int32.ofInt v := by
  rw [vp_nar_byte]
  apply Int32.toInt_inj.mp
  rw [Int8.toInt_toInt32, Int32.toInt_toInt8, i32_of (by omega)]
  exact Int.bmod_eq_of_le (by omega) (by omega)
theorem updI {h : mM} {a : Nat} {i x : Int} {n : Nat} (hi : inA i n) : upd (fun j => Int32.ofInt (h a (j : Int))) i.toNat (Int32.ofInt x) = fun j : Nat => Int32.ofInt (upM h a i x a (j : Int)) := by
  funext q
  unfold upM upd
  by_cases e : q = i.toNat
  · rw [if_pos e, if_pos ⟨rfl, by omega⟩]
  · rw [if_neg e, if_neg (fun z => e (by omega))]
theorem updL {h : mM} {a : Nat} {i x : Int} {n : Nat} (hi : inA i n) : vp_updL (fun j => Int64.ofInt (h a (j : Int))) i.toNat (Int64.ofInt x) = fun j : Nat => Int64.ofInt (upM h a i x a (j : Int)) := by
  funext q
  unfold upM vp_updL
  by_cases e : q = i.toNat
  · rw [if_pos e, if_pos ⟨rfl, by omega⟩]
  · rw [if_neg e, if_neg (fun z => e (by omega))]
section
variable {p : Program} {l : Launch} {e : Env} {Rm : Room} {s : State} {m : MethodId} {args : Array Value} {below : List Frame} {meth : Method} {c : Code} {cc : ByteArray} {D : va_G} {A : Nat → Prop} {tys : List (ClassId × FieldType)} {ad aC : Nat → Nat} {nL cells slots : Nat} {Q : State → Prop} {pcs : List Nat} {S : mSh} {r : mRf} {j nx : Nat} {ls st : List mv} {h : mM}
theorem go_istore (hx : p.tables.exec = Jvm.exec) (hb : c.code = cc) {i : Nat} {x : Int} {ls' : List mv} (hR : StR (mI x) i ls ls') (hd : Dc cc pcs j (.istore i) 2 nx) (k : Go (fun H locs pc la sv => W p l e Rm s m args below meth c H locs cells slots Q (F0 m pc la sv)) D A tys ad aC nL s pcs S r (nx) (ls') (st) (h)) : Go (fun H locs pc la sv => W p l e Rm s m args below meth c H locs cells slots Q (F0 m pc la sv)) D A tys ad aC nL s pcs S r (j) (ls) (mI x :: st) (h) := by
  intro ws H locs la pc hpc hL hl hs hm hw hP hD hS hv
  obtain ⟨pc0, h1, hdg, h2⟩ := hd
  cases hpc.symm.trans h1
  exact lv_istore hx hb hdg hv (by rw [← hL]; exact hR.2.1) rfl (fun la9 hv9 => k ws H locs la9 _ h2 (hR.1.trans hL) (hR.ok (hs _ List.mem_cons_self) hl) (fun v9 hv9 => hs _ (List.mem_cons_of_mem _ hv9)) hm hw hP hD hS (StR.has hR hv9))
theorem go_istore_n (hx : p.tables.exec = Jvm.exec) (hb : c.code = cc) {i : Nat} {x : Int} {ls' : List mv} (hR : StR (mI x) i ls ls') {f : Fin 4} (hf : (f : Nat) = i) (hd : Dc cc pcs j (.istore_n f) 1 nx) (k : Go (fun H locs pc la sv => W p l e Rm s m args below meth c H locs cells slots Q (F0 m pc la sv)) D A tys ad aC nL s pcs S r (nx) (ls') (st) (h)) : Go (fun H locs pc la sv => W p l e Rm s m args below meth c H locs cells slots Q (F0 m pc la sv)) D A tys ad aC nL s pcs S r (j) (ls) (mI x :: st) (h) := by
  intro ws H locs la pc hpc hL hl hs hm hw hP hD hS hv
  obtain ⟨pc0, h1, hdg, h2⟩ := hd
  cases hpc.symm.trans h1
  exact lv_istore_n hx hb hdg hf hv (by rw [← hL]; exact hR.2.1) rfl (fun la9 hv9 => k ws H locs la9 _ h2 (hR.1.trans hL) (hR.ok (hs _ List.mem_cons_self) hl) (fun v9 hv9 => hs _ (List.mem_cons_of_mem _ hv9)) hm hw hP hD hS (StR.has hR hv9))
theorem go_astore (hx : p.tables.exec = Jvm.exec) (hb : c.code = cc) {i : Nat} {x : Nat} {ls' : List mv} (hR : StR (mR x) i ls ls') (hd : Dc cc pcs j (.astore i) 2 nx) (k : Go (fun H locs pc la sv => W p l e Rm s m args below meth c H locs cells slots Q (F0 m pc la sv)) D A tys ad aC nL s pcs S r (nx) (ls') (st) (h)) : Go (fun H locs pc la sv => W p l e Rm s m args below meth c H locs cells slots Q (F0 m pc la sv)) D A tys ad aC nL s pcs S r (j) (ls) (mR x :: st) (h) := by
  intro ws H locs la pc hpc hL hl hs hm hw hP hD hS hv
  obtain ⟨pc0, h1, hdg, h2⟩ := hd
  cases hpc.symm.trans h1
  exact lv_astore hx hb hdg hv (by rw [← hL]; exact hR.2.1) rfl (fun la9 hv9 => k ws H locs la9 _ h2 (hR.1.trans hL) (hR.ok (hs _ List.mem_cons_self) hl) (fun v9 hv9 => hs _ (List.mem_cons_of_mem _ hv9)) hm hw hP hD hS (StR.has hR hv9))
theorem go_astore_n (hx : p.tables.exec = Jvm.exec) (hb : c.code = cc) {i : Nat} {x : Nat} {ls' : List mv} (hR : StR (mR x) i ls ls') {f : Fin 4} (hf : (f : Nat) = i) (hd : Dc cc pcs j (.astore_n f) 1 nx) (k : Go (fun H locs pc la sv => W p l e Rm s m args below meth c H locs cells slots Q (F0 m pc la sv)) D A tys ad aC nL s pcs S r (nx) (ls') (st) (h)) : Go (fun H locs pc la sv => W p l e Rm s m args below meth c H locs cells slots Q (F0 m pc la sv)) D A tys ad aC nL s pcs S r (j) (ls) (mR x :: st) (h) := by
  intro ws H locs la pc hpc hL hl hs hm hw hP hD hS hv
  obtain ⟨pc0, h1, hdg, h2⟩ := hd
  cases hpc.symm.trans h1
  exact lv_astore_n hx hb hdg hf hv (by rw [← hL]; exact hR.2.1) rfl (fun la9 hv9 => k ws H locs la9 _ h2 (hR.1.trans hL) (hR.ok (hs _ List.mem_cons_self) hl) (fun v9 hv9 => hs _ (List.mem_cons_of_mem _ hv9)) hm hw hP hD hS (StR.has hR hv9))
theorem go_lstore (hx : p.tables.exec = Jvm.exec) (hb : c.code = cc) {i : Nat} {x : Int} {ls' : List mv} (hR : StR (mL x) i ls ls' ∧ nth ls' (i + 1) = some (mC 0)) (hd : Dc cc pcs j (.lstore i) 2 nx) (k : Go (fun H locs pc la sv => W p l e Rm s m args below meth c H locs cells slots Q (F0 m pc la sv)) D A tys ad aC nL s pcs S r (nx) (ls') (st) (h)) : Go (fun H locs pc la sv => W p l e Rm s m args below meth c H locs cells slots Q (F0 m pc la sv)) D A tys ad aC nL s pcs S r (j) (ls) (mL x :: st) (h) := by
  intro ws H locs la pc hpc hL hl hs hm hw hP hD hS hv
  obtain ⟨pc0, h1, hdg, h2⟩ := hd
  cases hpc.symm.trans h1
  exact lv_lstore hx hb hdg hv (by have q1 := nth_lt hR.2; have q2 := hR.1.1; omega) rfl (fun la9 hv9 => k ws H locs la9 _ h2 (hR.1.1.trans hL) (hR.1.ok (hs _ List.mem_cons_self) hl) (fun v9 hv9 => hs _ (List.mem_cons_of_mem _ hv9)) hm hw hP hD hS (StR.hasL hR hv9))
theorem go_lstore_n (hx : p.tables.exec = Jvm.exec) (hb : c.code = cc) {i : Nat} {x : Int} {ls' : List mv} (hR : StR (mL x) i ls ls' ∧ nth ls' (i + 1) = some (mC 0)) {f : Fin 4} (hf : (f : Nat) = i) (hd : Dc cc pcs j (.lstore_n f) 1 nx) (k : Go (fun H locs pc la sv => W p l e Rm s m args below meth c H locs cells slots Q (F0 m pc la sv)) D A tys ad aC nL s pcs S r (nx) (ls') (st) (h)) : Go (fun H locs pc la sv => W p l e Rm s m args below meth c H locs cells slots Q (F0 m pc la sv)) D A tys ad aC nL s pcs S r (j) (ls) (mL x :: st) (h) := by
  intro ws H locs la pc hpc hL hl hs hm hw hP hD hS hv
  obtain ⟨pc0, h1, hdg, h2⟩ := hd
  cases hpc.symm.trans h1
  exact lv_lstore_n hx hb hdg hf hv (by have q1 := nth_lt hR.2; have q2 := hR.1.1; omega) rfl (fun la9 hv9 => k ws H locs la9 _ h2 (hR.1.1.trans hL) (hR.1.ok (hs _ List.mem_cons_self) hl) (fun v9 hv9 => hs _ (List.mem_cons_of_mem _ hv9)) hm hw hP hD hS (StR.hasL hR hv9))
theorem go_iinc (hx : p.tables.exec = Jvm.exec) (hb : c.code = cc) {i : Nat} {n x : Int} {ls' : List mv} (hk : nth ls i = some (mI x)) (g : inI (x + n)) (hR : StR (mI (x + n)) i ls ls') (hd : Dc cc pcs j (.iinc i n) 3 nx) (k : Go (fun H locs pc la sv => W p l e Rm s m args below meth c H locs cells slots Q (F0 m pc la sv)) D A tys ad aC nL s pcs S r (nx) (ls') (st) (h)) : Go (fun H locs pc la sv => W p l e Rm s m args below meth c H locs cells slots Q (F0 m pc la sv)) D A tys ad aC nL s pcs S r (j) (ls) (st) (h) := by
  intro ws H locs la pc hpc hL hl hs hm hw hP hD hS hv
  obtain ⟨pc0, h1, hdg, h2⟩ := hd
  cases hpc.symm.trans h1
  obtain ⟨q9, hq9⟩ := List.getElem?_of_mem (mem_asc (ad := ad) (aC := aC) (i := 0).mpr ⟨i, _, hk, (fun q => nomatch q), rfl⟩)
  rw [Nat.zero_add] at hq9
  exact lv_iinc hx hb hdg hv hq9 (Int32.ofInt_add ..).symm (by rw [← hL]; exact hR.2.1) rfl (fun la9 hv9 => k ws H locs la9 _ h2 (hR.1.trans hL) (hR.ok g hl) hs hm hw hP hD hS (StR.has hR hv9))
theorem cmp_eq {x y : Int} (hx : inL x) (hy : inL y) : lg_cmp (Int64.ofInt x) (Int64.ofInt y) = Int32.ofInt (if x < y then -1 else if x = y then 0 else 1) := by
  unfold lg_cmp
  by_cases h1 : y < x
  · have h9 : ¬ x < y := by omega
    have h8 : ¬ x = y := by omega
    rw [if_neg h9, if_neg h8]
    simp [(i64_lt hy hx).mpr h1]
  · have g1 : ¬ Int64.ofInt y < Int64.ofInt x := fun q => h1 ((i64_lt hy hx).mp q)
    by_cases h2 : x = y
    · subst h2
      simp
    · have h3 : x < y := by omega
      rw [if_pos h3]
      have g2 : ¬ Int64.ofInt x = Int64.ofInt y := fun q => h2 ((i64_eq hx hy).mp q)
      simp [g1, g2]
theorem go_lcmp_eq (hx : p.tables.exec = Jvm.exec) (hb : c.code = cc) {j1 nx0 : Nat} {x y : Int} {off : Int} {t tg : Nat} (hd0 : Dc cc pcs j .lcmp 1 j1) (hd1 : Dc cc pcs j1 (.ifCond .eq off) 3 nx) (ht : nth pcs t = some tg) (ho : ∀ pc : Nat, nth pcs j1 = some pc → (pc : Int) + off = (tg : Int)) (kt : x = y → Go (fun H locs pc la sv => W p l e Rm s m args below meth c H locs cells slots Q (F0 m pc la sv)) D A tys ad aC nL s pcs S r (t) (ls) (st) (h)) (kf : ¬ x = y → Go (fun H locs pc la sv => W p l e Rm s m args below meth c H locs cells slots Q (F0 m pc la sv)) D A tys ad aC nL s pcs S r (nx) (ls) (st) (h)) : Go (fun H locs pc la sv => W p l e Rm s m args below meth c H locs cells slots Q (F0 m pc la sv)) D A tys ad aC nL s pcs S r (j) (ls) (mL y :: mL x :: st) (h) := by
  have hd := hd0
  intro ws H locs la pc hpc hL hl hs hm hw hP hD hS hv
  obtain ⟨pc0, h1, hdg, h2⟩ := hd
  cases hpc.symm.trans h1
  have hs9 : ∀ v ∈ st, vOk S.length v := fun v9 hv9 => hs _ (List.mem_cons_of_mem _ (List.mem_cons_of_mem _ hv9))
  have hx9 : inL x := hs _ (List.mem_cons_of_mem _ List.mem_cons_self)
  have hy9 : inL y := hs _ List.mem_cons_self
  refine W.lcmp hx hb hdg ?_
  rw [cmp_eq hx9 hy9]
  have k9 : Go (fun H locs pc la sv => W p l e Rm s m args below meth c H locs cells slots Q (F0 m pc la sv)) D A tys ad aC nL s pcs S r (j1) (ls) (mI (if x < y then -1 else if x = y then 0 else 1) :: st) (h) := go_if_eq hx hb hd1 ht ho (fun q => kt (by (repeat' split at q) <;> omega)) (fun q => kf (by (repeat' split at q) <;> omega))
  exact k9 ws H locs la _ h2 hL hl (fun v9 hv9 => by
    rcases List.mem_cons.mp hv9 with rfl | hv9
    · show inI _
      (repeat' split) <;> omega
    · exact hs9 _ hv9) hm hw hP hD hS hv
theorem go_lcmp_ne (hx : p.tables.exec = Jvm.exec) (hb : c.code = cc) {j1 nx0 : Nat} {x y : Int} {off : Int} {t tg : Nat} (hd0 : Dc cc pcs j .lcmp 1 j1) (hd1 : Dc cc pcs j1 (.ifCond .ne off) 3 nx) (ht : nth pcs t = some tg) (ho : ∀ pc : Nat, nth pcs j1 = some pc → (pc : Int) + off = (tg : Int)) (kt : ¬ x = y → Go (fun H locs pc la sv => W p l e Rm s m args below meth c H locs cells slots Q (F0 m pc la sv)) D A tys ad aC nL s pcs S r (t) (ls) (st) (h)) (kf : x = y → Go (fun H locs pc la sv => W p l e Rm s m args below meth c H locs cells slots Q (F0 m pc la sv)) D A tys ad aC nL s pcs S r (nx) (ls) (st) (h)) : Go (fun H locs pc la sv => W p l e Rm s m args below meth c H locs cells slots Q (F0 m pc la sv)) D A tys ad aC nL s pcs S r (j) (ls) (mL y :: mL x :: st) (h) := by
  have hd := hd0
  intro ws H locs la pc hpc hL hl hs hm hw hP hD hS hv
  obtain ⟨pc0, h1, hdg, h2⟩ := hd
  cases hpc.symm.trans h1
  have hs9 : ∀ v ∈ st, vOk S.length v := fun v9 hv9 => hs _ (List.mem_cons_of_mem _ (List.mem_cons_of_mem _ hv9))
  have hx9 : inL x := hs _ (List.mem_cons_of_mem _ List.mem_cons_self)
  have hy9 : inL y := hs _ List.mem_cons_self
  refine W.lcmp hx hb hdg ?_
  rw [cmp_eq hx9 hy9]
  have k9 : Go (fun H locs pc la sv => W p l e Rm s m args below meth c H locs cells slots Q (F0 m pc la sv)) D A tys ad aC nL s pcs S r (j1) (ls) (mI (if x < y then -1 else if x = y then 0 else 1) :: st) (h) := go_if_ne hx hb hd1 ht ho (fun q => kt (by (repeat' split at q) <;> omega)) (fun q => kf (by (repeat' split at q) <;> omega))
  exact k9 ws H locs la _ h2 hL hl (fun v9 hv9 => by
    rcases List.mem_cons.mp hv9 with rfl | hv9
    · show inI _
      (repeat' split) <;> omega
    · exact hs9 _ hv9) hm hw hP hD hS hv
theorem go_lcmp_lt (hx : p.tables.exec = Jvm.exec) (hb : c.code = cc) {j1 nx0 : Nat} {x y : Int} {off : Int} {t tg : Nat} (hd0 : Dc cc pcs j .lcmp 1 j1) (hd1 : Dc cc pcs j1 (.ifCond .lt off) 3 nx) (ht : nth pcs t = some tg) (ho : ∀ pc : Nat, nth pcs j1 = some pc → (pc : Int) + off = (tg : Int)) (kt : x < y → Go (fun H locs pc la sv => W p l e Rm s m args below meth c H locs cells slots Q (F0 m pc la sv)) D A tys ad aC nL s pcs S r (t) (ls) (st) (h)) (kf : ¬ x < y → Go (fun H locs pc la sv => W p l e Rm s m args below meth c H locs cells slots Q (F0 m pc la sv)) D A tys ad aC nL s pcs S r (nx) (ls) (st) (h)) : Go (fun H locs pc la sv => W p l e Rm s m args below meth c H locs cells slots Q (F0 m pc la sv)) D A tys ad aC nL s pcs S r (j) (ls) (mL y :: mL x :: st) (h) := by
  have hd := hd0
  intro ws H locs la pc hpc hL hl hs hm hw hP hD hS hv
  obtain ⟨pc0, h1, hdg, h2⟩ := hd
  cases hpc.symm.trans h1
  have hs9 : ∀ v ∈ st, vOk S.length v := fun v9 hv9 => hs _ (List.mem_cons_of_mem _ (List.mem_cons_of_mem _ hv9))
  have hx9 : inL x := hs _ (List.mem_cons_of_mem _ List.mem_cons_self)
  have hy9 : inL y := hs _ List.mem_cons_self
  refine W.lcmp hx hb hdg ?_
  rw [cmp_eq hx9 hy9]
  have k9 : Go (fun H locs pc la sv => W p l e Rm s m args below meth c H locs cells slots Q (F0 m pc la sv)) D A tys ad aC nL s pcs S r (j1) (ls) (mI (if x < y then -1 else if x = y then 0 else 1) :: st) (h) := go_if_lt hx hb hd1 ht ho (fun q => kt (by (repeat' split at q) <;> omega)) (fun q => kf (by (repeat' split at q) <;> omega))
  exact k9 ws H locs la _ h2 hL hl (fun v9 hv9 => by
    rcases List.mem_cons.mp hv9 with rfl | hv9
    · show inI _
      (repeat' split) <;> omega
    · exact hs9 _ hv9) hm hw hP hD hS hv
theorem go_lcmp_ge (hx : p.tables.exec = Jvm.exec) (hb : c.code = cc) {j1 nx0 : Nat} {x y : Int} {off : Int} {t tg : Nat} (hd0 : Dc cc pcs j .lcmp 1 j1) (hd1 : Dc cc pcs j1 (.ifCond .ge off) 3 nx) (ht : nth pcs t = some tg) (ho : ∀ pc : Nat, nth pcs j1 = some pc → (pc : Int) + off = (tg : Int)) (kt : ¬ x < y → Go (fun H locs pc la sv => W p l e Rm s m args below meth c H locs cells slots Q (F0 m pc la sv)) D A tys ad aC nL s pcs S r (t) (ls) (st) (h)) (kf : x < y → Go (fun H locs pc la sv => W p l e Rm s m args below meth c H locs cells slots Q (F0 m pc la sv)) D A tys ad aC nL s pcs S r (nx) (ls) (st) (h)) : Go (fun H locs pc la sv => W p l e Rm s m args below meth c H locs cells slots Q (F0 m pc la sv)) D A tys ad aC nL s pcs S r (j) (ls) (mL y :: mL x :: st) (h) := by
  have hd := hd0
  intro ws H locs la pc hpc hL hl hs hm hw hP hD hS hv
  obtain ⟨pc0, h1, hdg, h2⟩ := hd
  cases hpc.symm.trans h1
  have hs9 : ∀ v ∈ st, vOk S.length v := fun v9 hv9 => hs _ (List.mem_cons_of_mem _ (List.mem_cons_of_mem _ hv9))
  have hx9 : inL x := hs _ (List.mem_cons_of_mem _ List.mem_cons_self)
  have hy9 : inL y := hs _ List.mem_cons_self
  refine W.lcmp hx hb hdg ?_
  rw [cmp_eq hx9 hy9]
  have k9 : Go (fun H locs pc la sv => W p l e Rm s m args below meth c H locs cells slots Q (F0 m pc la sv)) D A tys ad aC nL s pcs S r (j1) (ls) (mI (if x < y then -1 else if x = y then 0 else 1) :: st) (h) := go_if_ge hx hb hd1 ht ho (fun q => kt (by (repeat' split at q) <;> omega)) (fun q => kf (by (repeat' split at q) <;> omega))
  exact k9 ws H locs la _ h2 hL hl (fun v9 hv9 => by
    rcases List.mem_cons.mp hv9 with rfl | hv9
    · show inI _
      (repeat' split) <;> omega
    · exact hs9 _ hv9) hm hw hP hD hS hv
theorem go_lcmp_gt (hx : p.tables.exec = Jvm.exec) (hb : c.code = cc) {j1 nx0 : Nat} {x y : Int} {off : Int} {t tg : Nat} (hd0 : Dc cc pcs j .lcmp 1 j1) (hd1 : Dc cc pcs j1 (.ifCond .gt off) 3 nx) (ht : nth pcs t = some tg) (ho : ∀ pc : Nat, nth pcs j1 = some pc → (pc : Int) + off = (tg : Int)) (kt : y < x → Go (fun H locs pc la sv => W p l e Rm s m args below meth c H locs cells slots Q (F0 m pc la sv)) D A tys ad aC nL s pcs S r (t) (ls) (st) (h)) (kf : ¬ y < x → Go (fun H locs pc la sv => W p l e Rm s m args below meth c H locs cells slots Q (F0 m pc la sv)) D A tys ad aC nL s pcs S r (nx) (ls) (st) (h)) : Go (fun H locs pc la sv => W p l e Rm s m args below meth c H locs cells slots Q (F0 m pc la sv)) D A tys ad aC nL s pcs S r (j) (ls) (mL y :: mL x :: st) (h) := by
  have hd := hd0
  intro ws H locs la pc hpc hL hl hs hm hw hP hD hS hv
  obtain ⟨pc0, h1, hdg, h2⟩ := hd
  cases hpc.symm.trans h1
  have hs9 : ∀ v ∈ st, vOk S.length v := fun v9 hv9 => hs _ (List.mem_cons_of_mem _ (List.mem_cons_of_mem _ hv9))
  have hx9 : inL x := hs _ (List.mem_cons_of_mem _ List.mem_cons_self)
  have hy9 : inL y := hs _ List.mem_cons_self
  refine W.lcmp hx hb hdg ?_
  rw [cmp_eq hx9 hy9]
  have k9 : Go (fun H locs pc la sv => W p l e Rm s m args below meth c H locs cells slots Q (F0 m pc la sv)) D A tys ad aC nL s pcs S r (j1) (ls) (mI (if x < y then -1 else if x = y then 0 else 1) :: st) (h) := go_if_gt hx hb hd1 ht ho (fun q => kt (by (repeat' split at q) <;> omega)) (fun q => kf (by (repeat' split at q) <;> omega))
  exact k9 ws H locs la _ h2 hL hl (fun v9 hv9 => by
    rcases List.mem_cons.mp hv9 with rfl | hv9
    · show inI _
      (repeat' split) <;> omega
    · exact hs9 _ hv9) hm hw hP hD hS hv
theorem go_lcmp_le (hx : p.tables.exec = Jvm.exec) (hb : c.code = cc) {j1 nx0 : Nat} {x y : Int} {off : Int} {t tg : Nat} (hd0 : Dc cc pcs j .lcmp 1 j1) (hd1 : Dc cc pcs j1 (.ifCond .le off) 3 nx) (ht : nth pcs t = some tg) (ho : ∀ pc : Nat, nth pcs j1 = some pc → (pc : Int) + off = (tg : Int)) (kt : ¬ y < x → Go (fun H locs pc la sv => W p l e Rm s m args below meth c H locs cells slots Q (F0 m pc la sv)) D A tys ad aC nL s pcs S r (t) (ls) (st) (h)) (kf : y < x → Go (fun H locs pc la sv => W p l e Rm s m args below meth c H locs cells slots Q (F0 m pc la sv)) D A tys ad aC nL s pcs S r (nx) (ls) (st) (h)) : Go (fun H locs pc la sv => W p l e Rm s m args below meth c H locs cells slots Q (F0 m pc la sv)) D A tys ad aC nL s pcs S r (j) (ls) (mL y :: mL x :: st) (h) := by
  have hd := hd0
  intro ws H locs la pc hpc hL hl hs hm hw hP hD hS hv
  obtain ⟨pc0, h1, hdg, h2⟩ := hd
  cases hpc.symm.trans h1
  have hs9 : ∀ v ∈ st, vOk S.length v := fun v9 hv9 => hs _ (List.mem_cons_of_mem _ (List.mem_cons_of_mem _ hv9))
  have hx9 : inL x := hs _ (List.mem_cons_of_mem _ List.mem_cons_self)
  have hy9 : inL y := hs _ List.mem_cons_self
  refine W.lcmp hx hb hdg ?_
  rw [cmp_eq hx9 hy9]
  have k9 : Go (fun H locs pc la sv => W p l e Rm s m args below meth c H locs cells slots Q (F0 m pc la sv)) D A tys ad aC nL s pcs S r (j1) (ls) (mI (if x < y then -1 else if x = y then 0 else 1) :: st) (h) := go_if_le hx hb hd1 ht ho (fun q => kt (by (repeat' split at q) <;> omega)) (fun q => kf (by (repeat' split at q) <;> omega))
  exact k9 ws H locs la _ h2 hL hl (fun v9 hv9 => by
    rcases List.mem_cons.mp hv9 with rfl | hv9
    · show inI _
      (repeat' split) <;> omega
    · exact hs9 _ hv9) hm hw hP hD hS hv
theorem go_getI (hx : p.tables.exec = Jvm.exec) (hb : c.code = cc) {own ref C : String} {T : u_T} {N ci i kf ty : Nat} {f : List Nat} {a : Nat} (hts : ∀ w ∈ lw_tbl, w.before args s = true) (hin : ∀ w ∈ u_ws C T N, w ∈ lw_tbl) (hown : s.vm.findClass own = some m.cls) (hK : va_K D vwCl tys s) (hc : vwCl[ci]? = some (C, T, N)) (hf : nth FT ci = some f) (ht : nth f kf = some ty) (hkN : kf < N) (hlink : (Cond.fieldLink own i ref (T kf).2.1 (T kf).2.2.1).before args s = true) (hsame : ref = (T kf).1) (ho : nth S a = some (.inl ci)) (h0 : ty ≠ 1 ∧ ty ≠ 2) (hd : Dc cc pcs j (.getfield i) 3 nx) (k : Go (fun H locs pc la sv => W p l e Rm s m args below meth c H locs cells slots Q (F0 m pc la sv)) D A tys ad aC nL s pcs S r (nx) (ls) (mI (h a (kf : Int)) :: st) (h)) : Go (fun H locs pc la sv => W p l e Rm s m args below meth c H locs cells slots Q (F0 m pc la sv)) D A tys ad aC nL s pcs S r (j) (ls) (mR a :: st) (h) := by
  intro ws H locs la pc hpc hL hl hs hm hw hP hD hS hv
  obtain ⟨pc0, h1, hdg, h2⟩ := hd
  cases hpc.symm.trans h1
  obtain ⟨f9, hf9, hc9⟩ := hw.2.1 a ci ho
  cases hf.symm.trans hf9
  exact va_get (D := D) (v := .int (Int32.ofInt (h a (kf : Int)))) hx hb hts hin hown hK hP a hc9 hc kf hkN hlink (fun x q => by rw [hsame]; exact q) (by rw [fvs_get ht, Nat.zero_add]; unfold fvl; split <;> simp_all) hdg (k ws H locs la _ h2 hL hl (fun v9 hv9 => by rcases List.mem_cons.mp hv9 with rfl | hv9; exact (hm.2 a kf (by unfold isL; rw [ho]; simp only [hf, Int.toNat_natCast, ht]; split <;> simp_all)); exact hs _ (List.mem_cons_of_mem _ hv9)) hm hw hP hD hS hv)
theorem go_getL (hx : p.tables.exec = Jvm.exec) (hb : c.code = cc) {own ref C : String} {T : u_T} {N ci i kf ty : Nat} {f : List Nat} {a : Nat} (hts : ∀ w ∈ lw_tbl, w.before args s = true) (hin : ∀ w ∈ u_ws C T N, w ∈ lw_tbl) (hown : s.vm.findClass own = some m.cls) (hK : va_K D vwCl tys s) (hc : vwCl[ci]? = some (C, T, N)) (hf : nth FT ci = some f) (ht : nth f kf = some ty) (hkN : kf < N) (hlink : (Cond.fieldLink own i ref (T kf).2.1 (T kf).2.2.1).before args s = true) (hsame : ref = (T kf).1) (ho : nth S a = some (.inl ci)) (h0 : ty = 1) (hd : Dc cc pcs j (.getfield i) 3 nx) (k : Go (fun H locs pc la sv => W p l e Rm s m args below meth c H locs cells slots Q (F0 m pc la sv)) D A tys ad aC nL s pcs S r (nx) (ls) (mL (h a (kf : Int)) :: st) (h)) : Go (fun H locs pc la sv => W p l e Rm s m args below meth c H locs cells slots Q (F0 m pc la sv)) D A tys ad aC nL s pcs S r (j) (ls) (mR a :: st) (h) := by
  intro ws H locs la pc hpc hL hl hs hm hw hP hD hS hv
  obtain ⟨pc0, h1, hdg, h2⟩ := hd
  cases hpc.symm.trans h1
  obtain ⟨f9, hf9, hc9⟩ := hw.2.1 a ci ho
  cases hf.symm.trans hf9
  exact va_get (D := D) (v := .long (Int64.ofInt (h a (kf : Int)))) hx hb hts hin hown hK hP a hc9 hc kf hkN hlink (fun x q => by rw [hsame]; exact q) (by rw [fvs_get ht, Nat.zero_add, h0]; rfl) hdg (k ws H locs la _ h2 hL hl (fun v9 hv9 => by rcases List.mem_cons.mp hv9 with rfl | hv9; exact (hm.1 a kf); exact hs _ (List.mem_cons_of_mem _ hv9)) hm hw hP hD hS hv)
theorem go_getR (hx : p.tables.exec = Jvm.exec) (hb : c.code = cc) {own ref C : String} {T : u_T} {N ci i kf ty : Nat} {f : List Nat} {a : Nat} (hts : ∀ w ∈ lw_tbl, w.before args s = true) (hin : ∀ w ∈ u_ws C T N, w ∈ lw_tbl) (hown : s.vm.findClass own = some m.cls) (hK : va_K D vwCl tys s) (hc : vwCl[ci]? = some (C, T, N)) (hf : nth FT ci = some f) (ht : nth f kf = some ty) (hkN : kf < N) (hlink : (Cond.fieldLink own i ref (T kf).2.1 (T kf).2.2.1).before args s = true) (hsame : ref = (T kf).1) (ho : nth S a = some (.inl ci)) {b : Nat} (h0 : ty = 2) (hb0 : rfAt r a kf = some b) (hd : Dc cc pcs j (.getfield i) 3 nx) (k : Go (fun H locs pc la sv => W p l e Rm s m args below meth c H locs cells slots Q (F0 m pc la sv)) D A tys ad aC nL s pcs S r (nx) (ls) (mR b :: st) (h)) : Go (fun H locs pc la sv => W p l e Rm s m args below meth c H locs cells slots Q (F0 m pc la sv)) D A tys ad aC nL s pcs S r (j) (ls) (mR a :: st) (h) := by
  intro ws H locs la pc hpc hL hl hs hm hw hP hD hS hv
  obtain ⟨pc0, h1, hdg, h2⟩ := hd
  cases hpc.symm.trans h1
  obtain ⟨f9, hf9, hc9⟩ := hw.2.1 a ci ho
  cases hf.symm.trans hf9
  exact va_get (D := D) (v := .ref (ad b)) hx hb hts hin hown hK hP a hc9 hc kf hkN hlink (fun x q => by rw [hsame]; exact q) (by rw [fvs_get ht, Nat.zero_add, h0]; show some (va_rf ((rfAt r a kf).map ad)) = _; rw [hb0]; rfl) hdg (k ws H locs la _ h2 hL hl (fun v9 hv9 => by rcases List.mem_cons.mp hv9 with rfl | hv9; exact (hw.2.2.2 a kf b hb0); exact hs _ (List.mem_cons_of_mem _ hv9)) hm hw hP hD hS hv)
theorem go_putI (hx : p.tables.exec = Jvm.exec) (hb : c.code = cc) {x : Int} {own ref C : String} {T : u_T} {N ci i kf ty : Nat} {f : List Nat} {a : Nat} (hts : ∀ w ∈ lw_tbl, w.before args s = true) (hin : ∀ w ∈ u_ws C T N, w ∈ lw_tbl) (hown : s.vm.findClass own = some m.cls) (hK : va_K D vwCl tys s) (hc : vwCl[ci]? = some (C, T, N)) (hf : nth FT ci = some f) (ht : nth f kf = some ty) (hkN : kf < N) (hlink : (Cond.fieldLink own i ref (T kf).2.1 (T kf).2.2.1).before args s = true) (hsame : ref = (T kf).1) (ho : nth S a = some (.inl ci)) (ty0 : Nat → FieldType) (hty : ∀ k, k < N → parseFieldDescriptor (T k).2.2.1 = some (ty0 k)) (hnm : ∀ a, a < N → ∀ b, b < N → a ≠ b → (T a).2.1 ≠ (T b).2.1) (hfin : (T kf).2.2.2 = false) (h0 : ty = 0) (h00 : ty0 kf = .int) (hd : Dc cc pcs j (.putfield i) 3 nx) (k : Go (fun H locs pc la sv => W p l e Rm s m args below meth c H locs cells slots Q (F0 m pc la sv)) D A tys ad aC nL s pcs S r (nx) (ls) (st) (upM h a (kf : Int) x)) : Go (fun H locs pc la sv => W p l e Rm s m args below meth c H locs cells slots Q (F0 m pc la sv)) D A tys ad aC nL s pcs S r (j) (ls) (mI x :: mR a :: st) (h) := by
  intro ws H locs la pc hpc hL hl hs hm hw hP hD hS hv
  obtain ⟨pc0, h1, hdg, h2⟩ := hd
  cases hpc.symm.trans h1
  obtain ⟨f9, hf9, hc9⟩ := hw.2.1 a ci ho
  cases hf.symm.trans hf9
  have h9 : inI x := hs _ List.mem_cons_self
  have e9 := fvs_set (ad := ad) (r := r) (h := h) (a := a) (x := x) (j := kf) (i := 0) ht (by rw [h0]; decide) (Nat.zero_add kf).symm
  rw [if_neg (by rw [h0]; decide)] at e9
  refine va_put (D := D) (v := .int (Int32.ofInt x)) (ty := .int) hx hb hts hin ty0 hty hnm hown hK hP hD hS a hc9 hc kf hkN hlink (fun x q => by rw [hsame]; exact q) hfin (by rw [hty kf hkN, h00]) rfl rfl (by rw [fvs_len]; exact nth_lt ht) hdg (fun H1 locs1 hP1 hD1 hS1 => ?_)
  rw [← e9] at hP1 hD1
  exact k _ H1 locs1 la _ h2 hL hl (fun v9 hv9 => hs _ (List.mem_cons_of_mem _ (List.mem_cons_of_mem _ hv9))) (mOk_up hm (inL_of h9) (fun _ => h9)) (Wld_obj hw ho hf) hP1 hD1 hS1 hv
theorem go_putL (hx : p.tables.exec = Jvm.exec) (hb : c.code = cc) {x : Int} {own ref C : String} {T : u_T} {N ci i kf ty : Nat} {f : List Nat} {a : Nat} (hts : ∀ w ∈ lw_tbl, w.before args s = true) (hin : ∀ w ∈ u_ws C T N, w ∈ lw_tbl) (hown : s.vm.findClass own = some m.cls) (hK : va_K D vwCl tys s) (hc : vwCl[ci]? = some (C, T, N)) (hf : nth FT ci = some f) (ht : nth f kf = some ty) (hkN : kf < N) (hlink : (Cond.fieldLink own i ref (T kf).2.1 (T kf).2.2.1).before args s = true) (hsame : ref = (T kf).1) (ho : nth S a = some (.inl ci)) (ty0 : Nat → FieldType) (hty : ∀ k, k < N → parseFieldDescriptor (T k).2.2.1 = some (ty0 k)) (hnm : ∀ a, a < N → ∀ b, b < N → a ≠ b → (T a).2.1 ≠ (T b).2.1) (hfin : (T kf).2.2.2 = false) (h0 : ty = 1) (h00 : ty0 kf = .long) (hd : Dc cc pcs j (.putfield i) 3 nx) (k : Go (fun H locs pc la sv => W p l e Rm s m args below meth c H locs cells slots Q (F0 m pc la sv)) D A tys ad aC nL s pcs S r (nx) (ls) (st) (upM h a (kf : Int) x)) : Go (fun H locs pc la sv => W p l e Rm s m args below meth c H locs cells slots Q (F0 m pc la sv)) D A tys ad aC nL s pcs S r (j) (ls) (mL x :: mR a :: st) (h) := by
  intro ws H locs la pc hpc hL hl hs hm hw hP hD hS hv
  obtain ⟨pc0, h1, hdg, h2⟩ := hd
  cases hpc.symm.trans h1
  obtain ⟨f9, hf9, hc9⟩ := hw.2.1 a ci ho
  cases hf.symm.trans hf9
  have h9 : inL x := hs _ List.mem_cons_self
  have e9 := fvs_set (ad := ad) (r := r) (h := h) (a := a) (x := x) (j := kf) (i := 0) ht (by rw [h0]; decide) (Nat.zero_add kf).symm
  rw [if_pos h0] at e9
  refine va_put (D := D) (v := .long (Int64.ofInt x)) (ty := .long) hx hb hts hin ty0 hty hnm hown hK hP hD hS a hc9 hc kf hkN hlink (fun x q => by rw [hsame]; exact q) hfin (by rw [hty kf hkN, h00]) rfl rfl (by rw [fvs_len]; exact nth_lt ht) hdg (fun H1 locs1 hP1 hD1 hS1 => ?_)
  rw [← e9] at hP1 hD1
  exact k _ H1 locs1 la _ h2 hL hl (fun v9 hv9 => hs _ (List.mem_cons_of_mem _ (List.mem_cons_of_mem _ hv9))) (mOk_up hm h9 (fun q => by exfalso; revert q; unfold isL; rw [ho]; simp [hf, ht, h0])) (Wld_obj hw ho hf) hP1 hD1 hS1 hv
theorem go_putZ (hx : p.tables.exec = Jvm.exec) (hb : c.code = cc) {x : Int} {own ref C : String} {T : u_T} {N ci i kf ty : Nat} {f : List Nat} {a : Nat} (hts : ∀ w ∈ lw_tbl, w.before args s = true) (hin : ∀ w ∈ u_ws C T N, w ∈ lw_tbl) (hown : s.vm.findClass own = some m.cls) (hK : va_K D vwCl tys s) (hc : vwCl[ci]? = some (C, T, N)) (hf : nth FT ci = some f) (ht : nth f kf = some ty) (hkN : kf < N) (hlink : (Cond.fieldLink own i ref (T kf).2.1 (T kf).2.2.1).before args s = true) (hsame : ref = (T kf).1) (ho : nth S a = some (.inl ci)) (ty0 : Nat → FieldType) (hty : ∀ k, k < N → parseFieldDescriptor (T k).2.2.1 = some (ty0 k)) (hnm : ∀ a, a < N → ∀ b, b < N → a ≠ b → (T a).2.1 ≠ (T b).2.1) (hfin : (T kf).2.2.2 = false) (h0 : ty = 3) (h00 : ty0 kf = .boolean) (g : 0 ≤ x ∧ x ≤ 1) (hd : Dc cc pcs j (.putfield i) 3 nx) (k : Go (fun H locs pc la sv => W p l e Rm s m args below meth c H locs cells slots Q (F0 m pc la sv)) D A tys ad aC nL s pcs S r (nx) (ls) (st) (upM h a (kf : Int) x)) : Go (fun H locs pc la sv => W p l e Rm s m args below meth c H locs cells slots Q (F0 m pc la sv)) D A tys ad aC nL s pcs S r (j) (ls) (mI x :: mR a :: st) (h) := by
  intro ws H locs la pc hpc hL hl hs hm hw hP hD hS hv
  obtain ⟨pc0, h1, hdg, h2⟩ := hd
  cases hpc.symm.trans h1
  obtain ⟨f9, hf9, hc9⟩ := hw.2.1 a ci ho
  cases hf.symm.trans hf9
  have h9 : inI x := hs _ List.mem_cons_self
  have e9 := fvs_set (ad := ad) (r := r) (h := h) (a := a) (x := x) (j := kf) (i := 0) ht (by rw [h0]; decide) (Nat.zero_add kf).symm
  rw [if_neg (by rw [h0]; decide)] at e9
  refine va_put (D := D) (v := .int (Int32.ofInt x)) (ty := .boolean) hx hb hts hin ty0 hty hnm hown hK hP hD hS a hc9 hc kf hkN hlink (fun x q => by rw [hsame]; exact q) hfin (by rw [hty kf hkN, h00]) (nar_z g) (fit_z g) (by rw [fvs_len]; exact nth_lt ht) hdg (fun H1 locs1 hP1 hD1 hS1 => ?_)
  rw [← e9] at hP1 hD1
  exact k _ H1 locs1 la _ h2 hL hl (fun v9 hv9 => hs _ (List.mem_cons_of_mem _ (List.mem_cons_of_mem _ hv9))) (mOk_up hm (inL_of h9) (fun _ => h9)) (Wld_obj hw ho hf) hP1 hD1 hS1 hv
theorem go_iaload (hx : p.tables.exec = Jvm.exec) (hb : c.code = cc) {x : Int} {a n : Nat} (hK : va_K D vwCl tys s) (ho : nth S a = some (.inr (0, n))) (g : inA x n) (hd : Dc cc pcs j .iaload 1 nx) (k : Go (fun H locs pc la sv => W p l e Rm s m args below meth c H locs cells slots Q (F0 m pc la sv)) D A tys ad aC nL s pcs S r (nx) (ls) (mI (h a x) :: st) (h)) : Go (fun H locs pc la sv => W p l e Rm s m args below meth c H locs cells slots Q (F0 m pc la sv)) D A tys ad aC nL s pcs S r (j) (ls) (mI x :: mR a :: st) (h) := by
  intro ws H locs la pc hpc hL hl hs hm hw hP hD hS hv
  obtain ⟨pc0, h1, hdg, h2⟩ := hd
  cases hpc.symm.trans h1
  obtain ⟨cA, t0, g1, g2, g3⟩ := hw.2.2.1 a _ _ ho
  obtain ⟨i1, i2⟩ := inA_in (hs _ List.mem_cons_self) g
  have k9 := k ws H locs la _ h2 hL hl (fun v9 hv9 => by rcases List.mem_cons.mp hv9 with rfl | hv9; exact (hm.2 a x (by unfold isL; rw [ho]; rfl)); exact hs _ (List.mem_cons_of_mem _ (List.mem_cons_of_mem _ hv9))) hm hw hP hD hS hv
  refine va_iald hx hb hK hP a t0 g3 g1 i1 hdg ?_
  rw [i2, inA_cast g]
  exact k9
theorem go_laload (hx : p.tables.exec = Jvm.exec) (hb : c.code = cc) {x : Int} {a n : Nat} (hK : va_K D vwCl tys s) (ho : nth S a = some (.inr (1, n))) (g : inA x n) (hd : Dc cc pcs j .laload 1 nx) (k : Go (fun H locs pc la sv => W p l e Rm s m args below meth c H locs cells slots Q (F0 m pc la sv)) D A tys ad aC nL s pcs S r (nx) (ls) (mL (h a x) :: st) (h)) : Go (fun H locs pc la sv => W p l e Rm s m args below meth c H locs cells slots Q (F0 m pc la sv)) D A tys ad aC nL s pcs S r (j) (ls) (mI x :: mR a :: st) (h) := by
  intro ws H locs la pc hpc hL hl hs hm hw hP hD hS hv
  obtain ⟨pc0, h1, hdg, h2⟩ := hd
  cases hpc.symm.trans h1
  obtain ⟨cA, t0, g1, g2, g3⟩ := hw.2.2.1 a _ _ ho
  obtain ⟨i1, i2⟩ := inA_in (hs _ List.mem_cons_self) g
  have k9 := k ws H locs la _ h2 hL hl (fun v9 hv9 => by rcases List.mem_cons.mp hv9 with rfl | hv9; exact (hm.1 a x); exact hs _ (List.mem_cons_of_mem _ (List.mem_cons_of_mem _ hv9))) hm hw hP hD hS hv
  refine va_lald hx hb hK hP a t0 g3 g1 i1 hdg ?_
  rw [i2, inA_cast g]
  exact k9
theorem go_baload (hx : p.tables.exec = Jvm.exec) (hb : c.code = cc) {x : Int} {a n : Nat} (hK : va_K D vwCl tys s) (ho : nth S a = some (.inr (2, n))) (g : inA x n) (hd : Dc cc pcs j .baload 1 nx) (k : Go (fun H locs pc la sv => W p l e Rm s m args below meth c H locs cells slots Q (F0 m pc la sv)) D A tys ad aC nL s pcs S r (nx) (ls) (mI (h a x) :: st) (h)) : Go (fun H locs pc la sv => W p l e Rm s m args below meth c H locs cells slots Q (F0 m pc la sv)) D A tys ad aC nL s pcs S r (j) (ls) (mI x :: mR a :: st) (h) := by
  intro ws H locs la pc hpc hL hl hs hm hw hP hD hS hv
  obtain ⟨pc0, h1, hdg, h2⟩ := hd
  cases hpc.symm.trans h1
  obtain ⟨cA, t0, g1, g2, g3⟩ := hw.2.2.1 a _ _ ho
  obtain ⟨i1, i2⟩ := inA_in (hs _ List.mem_cons_self) g
  have k9 := k ws H locs la _ h2 hL hl (fun v9 hv9 => by rcases List.mem_cons.mp hv9 with rfl | hv9; exact (hm.2 a x (by unfold isL; rw [ho]; rfl)); exact hs _ (List.mem_cons_of_mem _ (List.mem_cons_of_mem _ hv9))) hm hw hP hD hS hv
  refine va_bald hx hb hK hP a t0 g3 g1 i1 hdg ?_
  rw [i2, inA_cast g]
  exact k9
theorem go_iastore (hx : p.tables.exec = Jvm.exec) (hb : c.code = cc) {v x : Int} {a n : Nat} (hK : va_K D vwCl tys s) (ho : nth S a = some (.inr (0, n))) (g : inA x n)  (hd : Dc cc pcs j .iastore 1 nx) (k : Go (fun H locs pc la sv => W p l e Rm s m args below meth c H locs cells slots Q (F0 m pc la sv)) D A tys ad aC nL s pcs S r (nx) (ls) (st) (upM h a x v)) : Go (fun H locs pc la sv => W p l e Rm s m args below meth c H locs cells slots Q (F0 m pc la sv)) D A tys ad aC nL s pcs S r (j) (ls) (mI v :: mI x :: mR a :: st) (h) := by
  intro ws H locs la pc hpc hL hl hs hm hw hP hD hS hv
  obtain ⟨pc0, h1, hdg, h2⟩ := hd
  cases hpc.symm.trans h1
  obtain ⟨cA, t0, g1, g2', g3⟩ := hw.2.2.1 a _ _ ho
  have h9 : inI v := hs _ List.mem_cons_self
  obtain ⟨i1, i2⟩ := inA_in (hs _ (List.mem_cons_of_mem _ List.mem_cons_self)) g
  have e9 := updI (h := h) (a := a) (x := v) g
  refine va_iast hx hb hK hP hD hS a t0 g3 g1 i1 hdg (fun H1 locs1 hP1 hD1 hS1 => ?_)
  rw [i2, e9] at hP1 hD1
  exact k _ H1 locs1 la _ h2 hL hl (fun v9 hv9 => hs _ (List.mem_cons_of_mem _ (List.mem_cons_of_mem _ (List.mem_cons_of_mem _ hv9)))) (mOk_up hm (inL_of h9) (fun _ => h9)) (Wld_arr hw ho g3) hP1 hD1 hS1 hv
theorem go_lastore (hx : p.tables.exec = Jvm.exec) (hb : c.code = cc) {v x : Int} {a n : Nat} (hK : va_K D vwCl tys s) (ho : nth S a = some (.inr (1, n))) (g : inA x n)  (hd : Dc cc pcs j .lastore 1 nx) (k : Go (fun H locs pc la sv => W p l e Rm s m args below meth c H locs cells slots Q (F0 m pc la sv)) D A tys ad aC nL s pcs S r (nx) (ls) (st) (upM h a x v)) : Go (fun H locs pc la sv => W p l e Rm s m args below meth c H locs cells slots Q (F0 m pc la sv)) D A tys ad aC nL s pcs S r (j) (ls) (mL v :: mI x :: mR a :: st) (h) := by
  intro ws H locs la pc hpc hL hl hs hm hw hP hD hS hv
  obtain ⟨pc0, h1, hdg, h2⟩ := hd
  cases hpc.symm.trans h1
  obtain ⟨cA, t0, g1, g2', g3⟩ := hw.2.2.1 a _ _ ho
  have h9 : inL v := hs _ List.mem_cons_self
  obtain ⟨i1, i2⟩ := inA_in (hs _ (List.mem_cons_of_mem _ List.mem_cons_self)) g
  have e9 := updL (h := h) (a := a) (x := v) g
  refine va_last hx hb hK hP hD hS a t0 g3 g1 i1 hdg (fun H1 locs1 hP1 hD1 hS1 => ?_)
  rw [i2, e9] at hP1 hD1
  exact k _ H1 locs1 la _ h2 hL hl (fun v9 hv9 => hs _ (List.mem_cons_of_mem _ (List.mem_cons_of_mem _ (List.mem_cons_of_mem _ hv9)))) (mOk_up hm h9 (fun q => by exfalso; revert q; unfold isL; rw [ho]; simp)) (Wld_arr hw ho g3) hP1 hD1 hS1 hv
theorem go_bastore (hx : p.tables.exec = Jvm.exec) (hb : c.code = cc) {v x : Int} {a n : Nat} (hK : va_K D vwCl tys s) (ho : nth S a = some (.inr (2, n))) (g : inA x n) (g2 : inB v) (hd : Dc cc pcs j .bastore 1 nx) (k : Go (fun H locs pc la sv => W p l e Rm s m args below meth c H locs cells slots Q (F0 m pc la sv)) D A tys ad aC nL s pcs S r (nx) (ls) (st) (upM h a x v)) : Go (fun H locs pc la sv => W p l e Rm s m args below meth c H locs cells slots Q (F0 m pc la sv)) D A tys ad aC nL s pcs S r (j) (ls) (mI v :: mI x :: mR a :: st) (h) := by
  intro ws H locs la pc hpc hL hl hs hm hw hP hD hS hv
  obtain ⟨pc0, h1, hdg, h2⟩ := hd
  cases hpc.symm.trans h1
  obtain ⟨cA, t0, g1, g2', g3⟩ := hw.2.2.1 a _ _ ho
  have h9 : inI v := hs _ List.mem_cons_self
  obtain ⟨i1, i2⟩ := inA_in (hs _ (List.mem_cons_of_mem _ List.mem_cons_self)) g
  have e9 := updI (h := h) (a := a) (x := v) g
  have n9 : vp_nar .byte (Int32.ofInt v) = Int32.ofInt v := nar_b g2
  refine va_bast hx hb hK hP hD hS a t0 g3 g1 i1 hdg (fun H1 locs1 hP1 hD1 hS1 => ?_)
  rw [i2, n9, e9] at hP1 hD1
  exact k _ H1 locs1 la _ h2 hL hl (fun v9 hv9 => hs _ (List.mem_cons_of_mem _ (List.mem_cons_of_mem _ (List.mem_cons_of_mem _ hv9)))) (mOk_up hm (inL_of h9) (fun _ => h9)) (Wld_arr hw ho g3) hP1 hD1 hS1 hv
theorem go_aaload (hx : p.tables.exec = Jvm.exec) (hb : c.code = cc) {x : Int} {a n b t : Nat} {Cn : String} (hK : va_K D vwCl tys s) (ht : aty t = .object Cn) (h3 : 3 < t) (ho : nth S a = some (.inr (t, n))) (hb0 : rfAt r a x.toNat = some b) (g : inA x n) (hd : Dc cc pcs j .aaload 1 nx) (k : Go (fun H locs pc la sv => W p l e Rm s m args below meth c H locs cells slots Q (F0 m pc la sv)) D A tys ad aC nL s pcs S r (nx) (ls) (mR b :: st) (h)) : Go (fun H locs pc la sv => W p l e Rm s m args below meth c H locs cells slots Q (F0 m pc la sv)) D A tys ad aC nL s pcs S r (j) (ls) (mI x :: mR a :: st) (h) := by
  intro ws H locs la pc hpc hL hl hs hm hw hP hD hS hv
  obtain ⟨pc0, h1, hdg, h2⟩ := hd
  cases hpc.symm.trans h1
  obtain ⟨cA, t0, g1, g2, g3⟩ := hw.2.2.1 a _ _ ho
  obtain ⟨i1, i2⟩ := inA_in (hs _ List.mem_cons_self) g
  have k9 := k ws H locs la _ h2 hL hl (fun v9 hv9 => by rcases List.mem_cons.mp hv9 with rfl | hv9; exact (hw.2.2.2 a _ b hb0); exact hs _ (List.mem_cons_of_mem _ (List.mem_cons_of_mem _ hv9))) hm hw hP hD hS hv
  have e9 : acn ad r h a t = .inr (.inr (.inr (.inr (fun j => (rfAt r a j).map ad)))) := by
    unfold acn
    split <;> first | omega | rfl
  rw [e9] at g3
  rw [ht] at g1
  refine va_aldq hx hb hK hP a t0 g3 g1 i1 hdg ?_
  rw [i2]
  show W p l e Rm s m args below meth c H locs cells slots Q (F0 m (pc + 1) la (va_rf ((rfAt r a x.toNat).map ad) :: _))
  rw [hb0]
  exact k9
end
end
section
/-! SIM 3: constants, copies, Math, switches -/
/-- the world where the numbers of one array changed -/
theorem Wld_at {tys : List (ClassId × FieldType)} {ws : va_W} {ad : Nat → Nat} {S : mSh} {r : mRf} {h h' : mM} {b t n cA : Nat} (hw : Wld tys ws ad S r h) (hb : nth S b = some (.inr (t, n))) (hcl : ws[b]? = some (ad b, .inl (cA, n, acn ad r h b t))) (he : ∀ c k, c ≠ b → h' c k = h c k) : Wld tys (ws.set b (ad b, .inl (cA, n, acn ad r h' b t))) ad S r h' := by
  obtain ⟨h1, h2, h3, h4⟩ := hw
  have hl := (List.getElem?_eq_some_iff.mp hcl).1
  refine ⟨by rw [List.length_set]; exact h1, fun c ci hc => ?_, fun c t' n' hc => ?_, h4⟩
  · have hne : c ≠ b := fun q => by subst q; rw [hb] at hc; cases hc
    obtain ⟨f, hf, hq⟩ := h2 c ci hc
    exact ⟨f, hf, by rw [List.getElem?_set_ne (Ne.symm hne), hq, fvs_congr (fun k => he c k hne)]⟩
  · by_cases hne : c = b
    · subst hne
      rw [hb] at hc
      cases hc
      obtain ⟨cA', t0, g1, g2, g3⟩ := h3 c _ _ hb
      rw [hcl] at g3
      cases g3
      exact ⟨_, t0, g1, g2, by rw [List.getElem?_set_self hl]⟩
    · obtain ⟨cA', t0, g1, g2, g3⟩ := h3 c t' n' hc
      exact ⟨cA', t0, g1, g2, by rw [List.getElem?_set_ne (Ne.symm hne), g3, acn_congr (fun k => he c k hne)]⟩
theorem mCpy_ne {h : mM} {a b c : Nat} {i j n k : Int} (hc : c ≠ b) : mCpy h a i b j n c k = h c k := by
  unfold mCpy
  rw [if_neg (fun q => hc q.1)]
theorem mCpyC_ne {h : mM} {l : List Int} {b c : Nat} {i j n k : Int} (hc : c ≠ b) : mCpyC h l i b j n c k = h c k := by
  unfold mCpyC
  rw [if_neg (fun q => hc q.1)]
theorem cpyI {h : mM} {a b : Nat} {x y n : Int} (g : 0 ≤ n ∧ 0 ≤ x ∧ 0 ≤ y) : va_cpy (fun j : Nat => Int32.ofInt (h a (j : Int))) (fun j : Nat => Int32.ofInt (h b (j : Int))) x.toNat y.toNat n.toNat = fun j : Nat => Int32.ofInt (mCpy h a x b y n b (j : Int)) := by
  funext k
  unfold va_cpy mCpy
  by_cases e : y.toNat ≤ k ∧ k < y.toNat + n.toNat
  · have q : ((x.toNat + (k - y.toNat) : Nat) : Int) = x + ((k : Int) - y) := by omega
    rw [if_pos e, if_pos ⟨rfl, by omega, by omega⟩, ← q]
  · rw [if_neg e, if_neg (fun q => e (by omega))]
theorem cpyL {h : mM} {a b : Nat} {x y n : Int} (g : 0 ≤ n ∧ 0 ≤ x ∧ 0 ≤ y) : va_cpy (fun j : Nat => Int64.ofInt (h a (j : Int))) (fun j : Nat => Int64.ofInt (h b (j : Int))) x.toNat y.toNat n.toNat = fun j : Nat => Int64.ofInt (mCpy h a x b y n b (j : Int)) := by
  funext k
  unfold va_cpy mCpy
  by_cases e : y.toNat ≤ k ∧ k < y.toNat + n.toNat
  · have q : ((x.toNat + (k - y.toNat) : Nat) : Int) = x + ((k : Int) - y) := by omega
    rw [if_pos e, if_pos ⟨rfl, by omega, by omega⟩, ← q]
  · rw [if_neg e, if_neg (fun q => e (by omega))]
theorem cpyC {h : mM} {lk : List Int} {b : Nat} {x y n : Int} (g : 0 ≤ n ∧ 0 ≤ x ∧ 0 ≤ y) : va_cpy (fun j : Nat => Int32.ofInt ((nth lk j).getD 0)) (fun j : Nat => Int32.ofInt (h b (j : Int))) x.toNat y.toNat n.toNat = fun j : Nat => Int32.ofInt (mCpyC h lk x b y n b (j : Int)) := by
  funext k
  unfold va_cpy mCpyC
  by_cases e : y.toNat ≤ k ∧ k < y.toNat + n.toNat
  · rw [if_pos e, if_pos ⟨rfl, by omega, by omega⟩]
    congr 3
    omega
  · rw [if_neg e, if_neg (fun q => e (by omega))]
theorem isL_arr {S : mSh} {a t n : Nat} {k : Int} (h : nth S a = some (.inr (t, n))) (ht : t ≠ 1) : isL S a k = false := by
  unfold isL
  rw [h]
  split
  · next q => cases q
  · next q => cases q; exact absurd rfl ht
  · rfl
theorem isL_arr1 {S : mSh} {a n : Nat} {k : Int} (h : nth S a = some (.inr (1, n))) : isL S a k = true := by
  unfold isL
  rw [h]
  rfl
theorem mOk_cpy {S : mSh} {h : mM} {a b t na nb : Nat} {x y n : Int} (hm : mOk S h) (ha : nth S a = some (.inr (t, na))) (hb : nth S b = some (.inr (t, nb))) : mOk S (mCpy h a x b y n) := by
  refine ⟨fun c k => ?_, fun c k hc => ?_⟩
  · unfold mCpy
    split
    · exact hm.1 _ _
    · exact hm.1 _ _
  · unfold mCpy
    split
    · next q =>
      refine hm.2 _ _ ?_
      by_cases ht : t = 1
      · subst ht
        rw [q.1, isL_arr1 hb] at hc
        cases hc
      · exact isL_arr ha ht
    · exact hm.2 _ _ hc
theorem cOk {lk : List Int} (h : ∀ v ∈ lk, inI v) (j : Nat) : inI ((nth lk j).getD 0) := by
  cases q : nth lk j with
  | none => exact ⟨by simp, by simp⟩
  | some v => exact h v (nth_mem q)
theorem mOk_cpyC {S : mSh} {h : mM} {lk : List Int} {b : Nat} {x y n : Int} (hm : mOk S h) (hk : ∀ v ∈ lk, inI v) : mOk S (mCpyC h lk x b y n) := by
  refine ⟨fun c k => ?_, fun c k hc => ?_⟩
  · unfold mCpyC
    split
    · exact inL_of (cOk hk _)
    · exact hm.1 _ _
  · unfold mCpyC
    split
    · exact cOk hk _
    · exact hm.2 _ _ hc
theorem nneg {x : Int} (hx : inI x) (h : 0 ≤ x) : ¬ Int32.ofInt x < 0 := fun q => by
  have := (i32_lt hx (y := 0) (by omega)).mp q
  omega
theorem clampN {x : Int} (hx : inI x) : (Int32.ofInt x).toNatClampNeg = x.toNat := by
  show (Int32.ofInt x).toInt.toNat = x.toNat
  rw [i32_of hx]
theorem max32 {x y : Int} (hx : inI x) (hy : inI y) : Int32.ofInt (max x y) = if Int32.ofInt x < Int32.ofInt y then Int32.ofInt y else Int32.ofInt x := by
  by_cases h : x < y
  · rw [if_pos ((i32_lt hx hy).mpr h), Int.max_def, if_pos (by omega)]
  · rw [if_neg (fun q => h ((i32_lt hx hy).mp q)), Int.max_def]
    split
    · congr 1; omega
    · rfl
theorem min32 {x y : Int} (hx : inI x) (hy : inI y) : Int32.ofInt (min x y) = if Int32.ofInt y < Int32.ofInt x then Int32.ofInt y else Int32.ofInt x := by
  by_cases h : y < x
  · rw [if_pos ((i32_lt hy hx).mpr h), Int.min_def, if_neg (by omega)]
  · rw [if_neg (fun q => h ((i32_lt hy hx).mp q)), Int.min_def, if_pos (by omega)]
theorem abs32 {x : Int} (hx : inI x) : Int32.ofInt (if x < 0 then -x else x) = if 0 ≤ Int32.ofInt x then Int32.ofInt x else 0 - Int32.ofInt x := by
  by_cases h : x < 0
  · rw [if_pos h, if_neg (fun q : (0 : Int32) ≤ _ => by have := (i32_le (x := 0) (by omega) hx).mp q; omega), Int32.ofInt_neg]
    simp
  · rw [if_neg h, if_pos (show (0 : Int32) ≤ _ from (i32_le (x := 0) (by omega) hx).mpr (by omega))]
theorem max64 {x y : Int} (hx : inL x) (hy : inL y) : Int64.ofInt (max x y) = if Int64.ofInt y < Int64.ofInt x then Int64.ofInt x else Int64.ofInt y := by
  by_cases h : y < x
  · rw [if_pos ((i64_lt hy hx).mpr h), Int.max_def, if_neg (by omega)]
  · rw [if_neg (fun q => h ((i64_lt hy hx).mp q)), Int.max_def, if_pos (by omega)]
/-- a table of whole numbers that stands fixed -/
def Tab (ct : Nat → List Int) (aC : Nat → Nat) (A : Nat → Prop) (k : Nat) (U : State) (H : Heap) : Prop := va_T .int (aC k) (ct k).length (fun j => .int (Int32.ofInt ((nth (ct k) j).getD 0))) A U H
theorem mk_copyT {p : Program} {l : Launch} {e : Env} {R : Room} {s : State} {m : MethodId} {args : Array Value} {below : List Frame} {meth : Method} {c : Code} {H : Heap} {locs : List Loc} {cells slots : Nat} {Q : State → Prop} {cc : ByteArray} {pc : Nat} {ls : Array Slot} {rest : List Value} {D : va_G} {cl : List vw_C} {A : Nat → Prop} {a : Nat} {tys : List (ClassId × FieldType)} {ws : va_W} (hexec : p.tables.exec = Jvm.exec) (hb : c.code = cc) (hml : c.maxLocals = ls.size) {own : String} {index : Nat} (hown : s.vm.findClass own = some m.cls) (hlink : (Cond.methodLink own index arraycopyName).before args s = true) (hnat : (Cond.native arraycopyName).before args s = true) (hstat : (Cond.static arraycopyName).before args s = true) (hini : (Cond.initialized "java/lang/System").before args s = true)
    (hK : va_K D cl tys s) (hP : va_P D cl ws H) (hD : va_D A ws) (hS : va_S A s.heap H locs) {b0 n0 : Nat} {f : Nat → Int32} (hX : va_T .int b0 n0 (fun j => .int (f j)) A s s.heap) (q1 t1 : Nat) {c1 : ClassId} {n1 : Nat} {g : Nat → Int32} (ha1 : ws[q1]? = some (a, .inl (c1, n1, .inl g))) (ht1 : tys[t1]? = some (c1, .int))
    {sp dp n : Int32} (h1 : ¬ sp < 0) (h2 : ¬ dp < 0) (h3 : ¬ n < 0) (h4 : sp.toNatClampNeg + n.toNatClampNeg ≤ n0) (h5 : dp.toNatClampNeg + n.toNatClampNeg ≤ n1)
    (hframes : 1 ≤ R.frames) (hlocals : (rest.map fun v => v.category).sum + (nativeFrameWords "java/lang/System" "arraycopy" 5 + 11) ≤ R.locals) (hdg : decode cc pc = .ok (.invokestatic index, 3))
    (kk : ∀ (H1 : Heap) (locs1 : List Loc), va_P D cl (ws.set q1 (a, .inl (c1, n1, .inl (va_cpy f g sp.toNatClampNeg dp.toNatClampNeg n.toNatClampNeg)))) H1 → va_D A (ws.set q1 (a, .inl (c1, n1, .inl (va_cpy f g sp.toNatClampNeg dp.toNatClampNeg n.toNatClampNeg)))) → va_S A s.heap H1 locs1 → W p l e R s m args below meth c H1 locs1 cells slots Q (F0 m (pc + 3) ls rest)) : W p l e R s m args below meth c H locs cells slots Q (F0 m pc ls (.int n :: .int dp :: .ref a :: .int sp :: .ref b0 :: rest)) := by
  have nn : ∀ z : Int32, ¬ z < 0 → z.toInt = (z.toNatClampNeg : Int) := by
    intro z hz
    have hz0 : (0 : Int) ≤ z.toInt := Int32.le_iff_toInt_le.mp (Int32.not_lt.mp hz)
    show z.toInt = ((z.toInt.toNat : Nat) : Int)
    omega
  intro T hT X
  obtain ⟨src, s1, s2, s3, s4, -, s5, s6⟩ := hX
  have hc0 : H[b0]? = some src := (hS.2.1 b0 (Array.getElem?_eq_some_iff.mp s1).1 s6).trans s1
  have hc1 : H[a]? = some (vp_cell c1 (n1, .inl g)) := hP q1 _ ha1
  obtain ⟨u1, k0, u2, cm0, u3⟩ := s2
  obtain ⟨-, k1, u4, cm1, u5⟩ := (hK.2 t1 _ ht1).1 n1 (fun j => .int (g j))
  obtain ⟨vm', X', step⟩ := X.arraycopy hexec hown hlink hnat hstat hini (src := b0) (dst := a) (cs := src) (cd := vp_cell c1 (n1, .inl g)) (srcPos := sp) (destPos := dp) (n := n) (by rw [hT]; exact hc0) (by rw [hT]; exact hc1)
    u1 (fun _ h => by cases h) s3 (fun h => by cases h) u2 u4 u3 u5 (by simp [refKind]) h1 h2 h3
    (by rw [nn sp h1, nn n h3]; omega)
    (by rw [nn dp h2, nn n h3]; show ¬ _ > ((arrV c1 n1 (fun j => .int (g j))).slots.size : Int); rw [arrV_size]; omega)
    (fun vm₁ _ i hi => by
      have e : src.slots.getD (sp.toNatClampNeg + i) .null = .int (f (sp.toNatClampNeg + i)) := by
        rw [Array.getD_eq_getD_getElem?, s5 _ (by omega)]
        rfl
      rw [e]
      exact ⟨rfl, trivial⟩)
    (g := F0 m pc ls (.int n :: .int dp :: .ref a :: .int sp :: .ref b0 :: rest)) rfl (by rw [hml]) (rest := rest) rfl (by rw [hb]; exact hdg) hframes (by show 2 * 0 + _ + _ ≤ _; omega)
  have e1 : copied src (vp_cell c1 (n1, .inl g)) sp dp n = vp_cell c1 (n1, .inl (va_cpy f g sp.toNatClampNeg dp.toNatClampNeg n.toNatClampNeg)) := va_copiedX (fun z => .int z) src c1 f g s5 h4
  rw [e1] at X' step
  have hl : a < H.size := (Array.getElem?_eq_some_iff.mp hc1).1
  have hheap : ((T.setVm vm').setCell a (vp_cell c1 (n1, .inl (va_cpy f g sp.toNatClampNeg dp.toNatClampNeg n.toNatClampNeg)))).heap = H.setIfInBounds a (vp_cell c1 (n1, .inl (va_cpy f g sp.toNatClampNeg dp.toNatClampNeg n.toNatClampNeg))) := by rw [← hT]; rfl
  have oq : ∀ q : Nat, q ≠ a → (H.setIfInBounds a (vp_cell c1 (n1, .inl (va_cpy f g sp.toNatClampNeg dp.toNatClampNeg n.toNatClampNeg))))[q]? = H[q]? := fun q hq => by simp [Array.getElem?_setIfInBounds, Ne.symm hq]
  obtain ⟨t, a1, b1⟩ := kk _ _ (hP.set hD ha1 (show (H.setIfInBounds a _)[a]? = some _ by simp [Array.getElem?_setIfInBounds, hl]) oq) (hD.set ha1) ⟨by simp; exact hS.1, fun q g1 g2 => by
      rw [oq q (fun e => g2 (by rw [e]; exact hD.2 q1 _ ha1))]
      exact hS.2.1 q g1 g2, fun q hq => by
      rcases List.mem_append.mp hq with h | h
      · exact hS.2.2 q h
      · obtain ⟨z, -, hz⟩ := List.mem_map.mp h
        rw [← hz]
        exact hD.2 q1 _ ha1⟩ _ hheap X'
  exact ⟨t, step t a1, b1⟩
section
variable {p : Program} {l : Launch} {e : Env} {Rm : Room} {s : State} {m : MethodId} {args : Array Value} {below : List Frame} {meth : Method} {c : Code} {cc : ByteArray} {D : va_G} {A : Nat → Prop} {tys : List (ClassId × FieldType)} {ad aC : Nat → Nat} {nL cells slots : Nat} {Q : State → Prop} {pcs : List Nat} {S : mSh} {r : mRf} {j nx : Nat} {ls st : List mv} {h : mM}
theorem go_cload (hx : p.tables.exec = Jvm.exec) (hb : c.code = cc) {ct : Nat → List Int} {x : Int} {k0 : Nat} (hT : Tab ct aC A k0 s s.heap) (hc0 : ∀ v ∈ ct k0, inI v) (g : inA x (ct k0).length) (hd : Dc cc pcs j .iaload 1 nx) (k : Go (fun H locs pc la sv => W p l e Rm s m args below meth c H locs cells slots Q (F0 m pc la sv)) D A tys ad aC nL s pcs S r (nx) (ls) (mI ((nth (ct k0) x.toNat).getD 0) :: st) (h)) : Go (fun H locs pc la sv => W p l e Rm s m args below meth c H locs cells slots Q (F0 m pc la sv)) D A tys ad aC nL s pcs S r (j) (ls) (mI x :: mC k0 :: st) (h) := by
  intro ws H locs la pc hpc hL hl hs hm hw hP hD hS hv
  obtain ⟨pc0, h1, hdg, h2⟩ := hd
  cases hpc.symm.trans h1
  obtain ⟨i1, i2⟩ := inA_in (hs _ List.mem_cons_self) g
  have k9 := k ws H locs la _ h2 hL hl (fun v9 hv9 => by rcases List.mem_cons.mp hv9 with rfl | hv9; exact (cOk hc0 _); exact hs _ (List.mem_cons_of_mem _ (List.mem_cons_of_mem _ hv9))) hm hw hP hD hS hv
  exact va_ti hx hb hT hS i1 (by rw [i2]; rfl) hdg k9
theorem go_clen (hx : p.tables.exec = Jvm.exec) (hb : c.code = cc) {ct : Nat → List Int} {k0 : Nat} (hT : Tab ct aC A k0 s s.heap) (hc0 : (ct k0).length < 2147483648) (hd : Dc cc pcs j .arraylength 1 nx) (k : Go (fun H locs pc la sv => W p l e Rm s m args below meth c H locs cells slots Q (F0 m pc la sv)) D A tys ad aC nL s pcs S r (nx) (ls) (mI ((ct k0).length : Int) :: st) (h)) : Go (fun H locs pc la sv => W p l e Rm s m args below meth c H locs cells slots Q (F0 m pc la sv)) D A tys ad aC nL s pcs S r (j) (ls) (mC k0 :: st) (h) := by
  intro ws H locs la pc hpc hL hl hs hm hw hP hD hS hv
  obtain ⟨pc0, h1, hdg, h2⟩ := hd
  cases hpc.symm.trans h1
  have k9 := k ws H locs la _ h2 hL hl (fun v9 hv9 => by rcases List.mem_cons.mp hv9 with rfl | hv9; exact (⟨by omega, by omega⟩ : inI ((ct k0).length : Int)); exact hs _ (List.mem_cons_of_mem _ hv9)) hm hw hP hD hS hv
  exact va_tlen hx hb hT hS (by rw [Int32.ofInt_eq_ofNat]) hdg k9
theorem go_gets (hx : p.tables.exec = Jvm.exec) (hb : c.code = cc) {C n d own : String} {i k0 : Nat} (hZ : va_Z C n d (.ref (aC k0)) A s s.heap) (hown : s.vm.findClass own = some m.cls) (hl9 : (Cond.fieldLink own i C n d).before args s = true) (hd : Dc cc pcs j (.getstatic i) 3 nx) (k : Go (fun H locs pc la sv => W p l e Rm s m args below meth c H locs cells slots Q (F0 m pc la sv)) D A tys ad aC nL s pcs S r (nx) (ls) (mC k0 :: st) (h)) : Go (fun H locs pc la sv => W p l e Rm s m args below meth c H locs cells slots Q (F0 m pc la sv)) D A tys ad aC nL s pcs S r (j) (ls) (st) (h) := by
  intro ws H locs la pc hpc hL hl hs hm hw hP hD hS hv
  obtain ⟨pc0, h1, hdg, h2⟩ := hd
  cases hpc.symm.trans h1
  exact va_gets hx hb hZ hS hown hl9 (fun x q => q) hdg (k ws H locs la _ h2 hL hl (fun v9 hv9 => by rcases List.mem_cons.mp hv9 with rfl | hv9; exact trivial; exact hs _ hv9) hm hw hP hD hS hv)
theorem go_getsN (hx : p.tables.exec = Jvm.exec) (hb : c.code = cc) {C n d own host : String} {i k0 : Nat} (hZ : va_Z C n d (.ref (aC k0)) A s s.heap) (hown : s.vm.findClass own = some m.cls) (hl9 : (Cond.fieldLinkNest own i C n d host).before args s = true) (hd : Dc cc pcs j (.getstatic i) 3 nx) (k : Go (fun H locs pc la sv => W p l e Rm s m args below meth c H locs cells slots Q (F0 m pc la sv)) D A tys ad aC nL s pcs S r (nx) (ls) (mC k0 :: st) (h)) : Go (fun H locs pc la sv => W p l e Rm s m args below meth c H locs cells slots Q (F0 m pc la sv)) D A tys ad aC nL s pcs S r (j) (ls) (st) (h) := by
  intro ws H locs la pc hpc hL hl hs hm hw hP hD hS hv
  obtain ⟨pc0, h1, hdg, h2⟩ := hd
  cases hpc.symm.trans h1
  exact va_getsN hx hb hZ hS hown hl9 (fun x q => q) hdg (k ws H locs la _ h2 hL hl (fun v9 hv9 => by rcases List.mem_cons.mp hv9 with rfl | hv9; exact trivial; exact hs _ hv9) hm hw hP hD hS hv)
theorem go_ldcS (hx : p.tables.exec = Jvm.exec) (hb : c.code = cc) {own tx : String} {i k0 : Nat} (hZ : vk_R own i tx (aC k0) s) (hown : s.vm.findClass own = some m.cls) (hd : Dc cc pcs j (.ldc i) 2 nx) (k : Go (fun H locs pc la sv => W p l e Rm s m args below meth c H locs cells slots Q (F0 m pc la sv)) D A tys ad aC nL s pcs S r (nx) (ls) (mC k0 :: st) (h)) : Go (fun H locs pc la sv => W p l e Rm s m args below meth c H locs cells slots Q (F0 m pc la sv)) D A tys ad aC nL s pcs S r (j) (ls) (st) (h) := by
  intro ws H locs la pc hpc hL hl hs hm hw hP hD hS hv
  obtain ⟨pc0, h1, hdg, h2⟩ := hd
  cases hpc.symm.trans h1
  exact va_ldcS hx hb hown hZ hdg (k ws H locs la _ h2 hL hl (fun v9 hv9 => by rcases List.mem_cons.mp hv9 with rfl | hv9; exact trivial; exact hs _ hv9) hm hw hP hD hS hv)
theorem go_copyI (hx : p.tables.exec = Jvm.exec) (hb : c.code = cc) {own : String} {i : Nat} (hown : s.vm.findClass own = some m.cls) (hlink : (Cond.methodLink own i arraycopyName).before args s = true) (hnat : (Cond.native arraycopyName).before args s = true) (hstat : (Cond.static arraycopyName).before args s = true) (hini : (Cond.initialized "java/lang/System").before args s = true) (hml : c.maxLocals = nL) (hK : va_K D vwCl tys s) (hR : 1 ≤ Rm.frames ∧ 100 ≤ Rm.locals ∧ cells ≤ Rm.cells ∧ slots ≤ Rm.slots) (hw8 : wds st ≤ 8) {a b na nb : Nat} {x y n : Int} (ha : nth S a = some (.inr (0, na))) (hb0 : nth S b = some (.inr (0, nb))) (g : (0 ≤ n ∧ 0 ≤ x ∧ 0 ≤ y) ∧ x + n ≤ (na : Int) ∧ y + n ≤ (nb : Int)) (hd : Dc cc pcs j (.invokestatic i) 3 nx) (k : Go (fun H locs pc la sv => W p l e Rm s m args below meth c H locs cells slots Q (F0 m pc la sv)) D A tys ad aC nL s pcs S r (nx) (ls) (st) (mCpy h a x b y n)) : Go (fun H locs pc la sv => W p l e Rm s m args below meth c H locs cells slots Q (F0 m pc la sv)) D A tys ad aC nL s pcs S r (j) (ls) (mI n :: mI y :: mR b :: mI x :: mR a :: st) (h) := by
  intro ws H locs la pc hpc hL hl hs hm hw hP hD hS hv
  obtain ⟨pc0, h1, hdg, h2⟩ := hd
  cases hpc.symm.trans h1
  obtain ⟨cA, t0, g1, g2, g3⟩ := hw.2.2.1 a _ _ ha
  obtain ⟨cB, t1, f1, f2, f3⟩ := hw.2.2.1 b _ _ hb0
  have hn9 : inI n := hs _ List.mem_cons_self
  have hy9 : inI y := hs _ (List.mem_cons_of_mem _ List.mem_cons_self)
  have hx9 : inI x := hs _ (List.mem_cons_of_mem _ (List.mem_cons_of_mem _ (List.mem_cons_of_mem _ List.mem_cons_self)))
  have e9 := cpyI (h := h) (a := a) (b := b) g.1
  refine va_copyi hx hb (hml.trans hv.1.symm) hown hlink hnat hstat hini hK hP hD hS a b t0 t1 g3 f3 g1 f1 rfl (nneg hx9 g.1.2.1) (nneg hy9 g.1.2.2) (nneg hn9 g.1.1) (by rw [clampN hx9, clampN hn9]; omega) (by rw [clampN hy9, clampN hn9]; omega) (fun _ _ => rfl) hR.1 (by
    have q := wds_ok (ad := ad) (aC := aC) st
    rw [q]
    have q2 : nativeFrameWords "java/lang/System" "arraycopy" 5 + 11 ≤ 92 := by decide +kernel
    omega) hdg (fun H1 locs1 hP1 hD1 hS1 => ?_)
  rw [clampN hx9, clampN hy9, clampN hn9, e9] at hP1 hD1
  exact k _ H1 locs1 la _ h2 hL hl (fun v9 hv9 => hs _ (by revert hv9; simp only [List.mem_cons]; grind)) (mOk_cpy hm ha hb0) (Wld_at hw hb0 f3 (fun c k q => mCpy_ne q)) hP1 hD1 hS1 hv
theorem go_copyL (hx : p.tables.exec = Jvm.exec) (hb : c.code = cc) {own : String} {i : Nat} (hown : s.vm.findClass own = some m.cls) (hlink : (Cond.methodLink own i arraycopyName).before args s = true) (hnat : (Cond.native arraycopyName).before args s = true) (hstat : (Cond.static arraycopyName).before args s = true) (hini : (Cond.initialized "java/lang/System").before args s = true) (hml : c.maxLocals = nL) (hK : va_K D vwCl tys s) (hR : 1 ≤ Rm.frames ∧ 100 ≤ Rm.locals ∧ cells ≤ Rm.cells ∧ slots ≤ Rm.slots) (hw8 : wds st ≤ 8) {a b na nb : Nat} {x y n : Int} (ha : nth S a = some (.inr (1, na))) (hb0 : nth S b = some (.inr (1, nb))) (g : (0 ≤ n ∧ 0 ≤ x ∧ 0 ≤ y) ∧ x + n ≤ (na : Int) ∧ y + n ≤ (nb : Int)) (hd : Dc cc pcs j (.invokestatic i) 3 nx) (k : Go (fun H locs pc la sv => W p l e Rm s m args below meth c H locs cells slots Q (F0 m pc la sv)) D A tys ad aC nL s pcs S r (nx) (ls) (st) (mCpy h a x b y n)) : Go (fun H locs pc la sv => W p l e Rm s m args below meth c H locs cells slots Q (F0 m pc la sv)) D A tys ad aC nL s pcs S r (j) (ls) (mI n :: mI y :: mR b :: mI x :: mR a :: st) (h) := by
  intro ws H locs la pc hpc hL hl hs hm hw hP hD hS hv
  obtain ⟨pc0, h1, hdg, h2⟩ := hd
  cases hpc.symm.trans h1
  obtain ⟨cA, t0, g1, g2, g3⟩ := hw.2.2.1 a _ _ ha
  obtain ⟨cB, t1, f1, f2, f3⟩ := hw.2.2.1 b _ _ hb0
  have hn9 : inI n := hs _ List.mem_cons_self
  have hy9 : inI y := hs _ (List.mem_cons_of_mem _ List.mem_cons_self)
  have hx9 : inI x := hs _ (List.mem_cons_of_mem _ (List.mem_cons_of_mem _ (List.mem_cons_of_mem _ List.mem_cons_self)))
  have e9 := cpyL (h := h) (a := a) (b := b) g.1
  refine va_copyl hx hb (hml.trans hv.1.symm) hown hlink hnat hstat hini hK hP hD hS a b t0 t1 g3 f3 g1 f1 rfl (nneg hx9 g.1.2.1) (nneg hy9 g.1.2.2) (nneg hn9 g.1.1) (by rw [clampN hx9, clampN hn9]; omega) (by rw [clampN hy9, clampN hn9]; omega) (fun _ _ => rfl) hR.1 (by
    have q := wds_ok (ad := ad) (aC := aC) st
    rw [q]
    have q2 : nativeFrameWords "java/lang/System" "arraycopy" 5 + 11 ≤ 92 := by decide +kernel
    omega) hdg (fun H1 locs1 hP1 hD1 hS1 => ?_)
  rw [clampN hx9, clampN hy9, clampN hn9, e9] at hP1 hD1
  exact k _ H1 locs1 la _ h2 hL hl (fun v9 hv9 => hs _ (by revert hv9; simp only [List.mem_cons]; grind)) (mOk_cpy hm ha hb0) (Wld_at hw hb0 f3 (fun c k q => mCpy_ne q)) hP1 hD1 hS1 hv
theorem go_copyC (hx : p.tables.exec = Jvm.exec) (hb : c.code = cc) {own : String} {i : Nat} (hown : s.vm.findClass own = some m.cls) (hlink : (Cond.methodLink own i arraycopyName).before args s = true) (hnat : (Cond.native arraycopyName).before args s = true) (hstat : (Cond.static arraycopyName).before args s = true) (hini : (Cond.initialized "java/lang/System").before args s = true) (hml : c.maxLocals = nL) (hK : va_K D vwCl tys s) (hR : 1 ≤ Rm.frames ∧ 100 ≤ Rm.locals ∧ cells ≤ Rm.cells ∧ slots ≤ Rm.slots) (hw8 : wds st ≤ 8) {ct : Nat → List Int} {k0 b nb : Nat} {x y n : Int} (hT : Tab ct aC A k0 s s.heap) (hc0 : ∀ v ∈ ct k0, inI v) (hb0 : nth S b = some (.inr (0, nb))) (g : (0 ≤ n ∧ 0 ≤ x ∧ 0 ≤ y) ∧ x + n ≤ ((ct k0).length : Int) ∧ y + n ≤ (nb : Int)) (hd : Dc cc pcs j (.invokestatic i) 3 nx) (k : Go (fun H locs pc la sv => W p l e Rm s m args below meth c H locs cells slots Q (F0 m pc la sv)) D A tys ad aC nL s pcs S r (nx) (ls) (st) (mCpyC h (ct k0) x b y n)) : Go (fun H locs pc la sv => W p l e Rm s m args below meth c H locs cells slots Q (F0 m pc la sv)) D A tys ad aC nL s pcs S r (j) (ls) (mI n :: mI y :: mR b :: mI x :: mC k0 :: st) (h) := by
  intro ws H locs la pc hpc hL hl hs hm hw hP hD hS hv
  obtain ⟨pc0, h1, hdg, h2⟩ := hd
  cases hpc.symm.trans h1
  obtain ⟨cB, t1, f1, f2, f3⟩ := hw.2.2.1 b _ _ hb0
  have hn9 : inI n := hs _ List.mem_cons_self
  have hy9 : inI y := hs _ (List.mem_cons_of_mem _ List.mem_cons_self)
  have hx9 : inI x := hs _ (List.mem_cons_of_mem _ (List.mem_cons_of_mem _ (List.mem_cons_of_mem _ List.mem_cons_self)))
  have e9 := cpyC (h := h) (lk := ct k0) (b := b) g.1
  refine mk_copyT (b0 := aC k0) hx hb (hml.trans hv.1.symm) hown hlink hnat hstat hini hK hP hD hS hT b t1 f3 f1 (nneg hx9 g.1.2.1) (nneg hy9 g.1.2.2) (nneg hn9 g.1.1) (by rw [clampN hx9, clampN hn9]; omega) (by rw [clampN hy9, clampN hn9]; omega) hR.1 (by
    have q := wds_ok (ad := ad) (aC := aC) st
    rw [q]
    have q2 : nativeFrameWords "java/lang/System" "arraycopy" 5 + 11 ≤ 92 := by decide +kernel
    omega) hdg (fun H1 locs1 hP1 hD1 hS1 => ?_)
  rw [clampN hx9, clampN hy9, clampN hn9, e9] at hP1 hD1
  exact k _ H1 locs1 la _ h2 hL hl (fun v9 hv9 => hs _ (by revert hv9; simp only [List.mem_cons]; grind)) (mOk_cpyC hm hc0) (Wld_at hw hb0 f3 (fun c k q => mCpyC_ne q)) hP1 hD1 hS1 hv
theorem go_max (hx : p.tables.exec = Jvm.exec) (hb : c.code = cc) {own : String} {i : Nat} (hown : s.vm.findClass own = some m.cls) (hlink : (Cond.methodLink own i Lib.Math.max.name).before args s = true) (hstat : (Cond.static Lib.Math.max.name).before args s = true) (hini : (Cond.initialized "java/lang/Math").before args s = true) (hcode : (Cond.code Lib.Math.max.name Lib.Math.max.code 2 (some .int)).before args s = true) (hml : c.maxLocals = nL) (hR : 1 ≤ Rm.frames ∧ 100 ≤ Rm.locals ∧ cells ≤ Rm.cells ∧ slots ≤ Rm.slots) (hw8 : wds st ≤ 8) {x y : Int}  (hd : Dc cc pcs j (.invokestatic i) 3 nx) (k : Go (fun H locs pc la sv => W p l e Rm s m args below meth c H locs cells slots Q (F0 m pc la sv)) D A tys ad aC nL s pcs S r (nx) (ls) (mI (max x y) :: st) (h)) : Go (fun H locs pc la sv => W p l e Rm s m args below meth c H locs cells slots Q (F0 m pc la sv)) D A tys ad aC nL s pcs S r (j) (ls) (mI y :: mI x :: st) (h) := by
  intro ws H locs la pc hpc hL hl hs hm hw hP hD hS hv
  obtain ⟨pc0, h1, hdg, h2⟩ := hd
  cases hpc.symm.trans h1
  have hx9 : inI x := hs _ (List.mem_cons_of_mem _ List.mem_cons_self)
  have hy9 : inI y := hs _ List.mem_cons_self
  have k9 := k ws H locs la _ h2 hL hl (fun v9 hv9 => by rcases List.mem_cons.mp hv9 with rfl | hv9; exact (show inI (max x y) by rw [Int.max_def]; split <;> assumption); exact hs _ (List.mem_cons_of_mem _ (List.mem_cons_of_mem _ hv9))) hm hw hP hD hS hv
  have e9 : Int32.ofInt (max x y) = if Int32.ofInt x < Int32.ofInt y then Int32.ofInt y else Int32.ofInt x := max32 hx9 hy9
  simp only [List.map_cons, rV, e9] at k9
  exact va_mmax hx hb (hml.trans hv.1.symm) hown hlink hstat hini hcode hR.1 (by have q := wds_ok (ad := ad) (aC := aC) st; rw [q]; omega) hR.2.2.1 hR.2.2.2 hdg k9
theorem go_min (hx : p.tables.exec = Jvm.exec) (hb : c.code = cc) {own : String} {i : Nat} (hown : s.vm.findClass own = some m.cls) (hlink : (Cond.methodLink own i Lib.Math.min.name).before args s = true) (hstat : (Cond.static Lib.Math.min.name).before args s = true) (hini : (Cond.initialized "java/lang/Math").before args s = true) (hcode : (Cond.code Lib.Math.min.name Lib.Math.min.code 2 (some .int)).before args s = true) (hml : c.maxLocals = nL) (hR : 1 ≤ Rm.frames ∧ 100 ≤ Rm.locals ∧ cells ≤ Rm.cells ∧ slots ≤ Rm.slots) (hw8 : wds st ≤ 8) {x y : Int}  (hd : Dc cc pcs j (.invokestatic i) 3 nx) (k : Go (fun H locs pc la sv => W p l e Rm s m args below meth c H locs cells slots Q (F0 m pc la sv)) D A tys ad aC nL s pcs S r (nx) (ls) (mI (min x y) :: st) (h)) : Go (fun H locs pc la sv => W p l e Rm s m args below meth c H locs cells slots Q (F0 m pc la sv)) D A tys ad aC nL s pcs S r (j) (ls) (mI y :: mI x :: st) (h) := by
  intro ws H locs la pc hpc hL hl hs hm hw hP hD hS hv
  obtain ⟨pc0, h1, hdg, h2⟩ := hd
  cases hpc.symm.trans h1
  have hx9 : inI x := hs _ (List.mem_cons_of_mem _ List.mem_cons_self)
  have hy9 : inI y := hs _ List.mem_cons_self
  have k9 := k ws H locs la _ h2 hL hl (fun v9 hv9 => by rcases List.mem_cons.mp hv9 with rfl | hv9; exact (show inI (min x y) by rw [Int.min_def]; split <;> assumption); exact hs _ (List.mem_cons_of_mem _ (List.mem_cons_of_mem _ hv9))) hm hw hP hD hS hv
  have e9 : Int32.ofInt (min x y) = if Int32.ofInt y < Int32.ofInt x then Int32.ofInt y else Int32.ofInt x := min32 hx9 hy9
  simp only [List.map_cons, rV, e9] at k9
  exact va_mmin hx hb (hml.trans hv.1.symm) hown hlink hstat hini hcode hR.1 (by have q := wds_ok (ad := ad) (aC := aC) st; rw [q]; omega) hR.2.2.1 hR.2.2.2 hdg k9
theorem go_abs (hx : p.tables.exec = Jvm.exec) (hb : c.code = cc) {own : String} {i : Nat} (hown : s.vm.findClass own = some m.cls) (hlink : (Cond.methodLink own i Lib.Math.abs.name).before args s = true) (hstat : (Cond.static Lib.Math.abs.name).before args s = true) (hini : (Cond.initialized "java/lang/Math").before args s = true) (hcode : (Cond.code Lib.Math.abs.name Lib.Math.abs.code 1 (some .int)).before args s = true) (hml : c.maxLocals = nL) (hR : 1 ≤ Rm.frames ∧ 100 ≤ Rm.locals ∧ cells ≤ Rm.cells ∧ slots ≤ Rm.slots) (hw8 : wds st ≤ 8) {x : Int} (g : inI (-x)) (hd : Dc cc pcs j (.invokestatic i) 3 nx) (k : Go (fun H locs pc la sv => W p l e Rm s m args below meth c H locs cells slots Q (F0 m pc la sv)) D A tys ad aC nL s pcs S r (nx) (ls) (mI (if x < 0 then -x else x) :: st) (h)) : Go (fun H locs pc la sv => W p l e Rm s m args below meth c H locs cells slots Q (F0 m pc la sv)) D A tys ad aC nL s pcs S r (j) (ls) (mI x :: st) (h) := by
  intro ws H locs la pc hpc hL hl hs hm hw hP hD hS hv
  obtain ⟨pc0, h1, hdg, h2⟩ := hd
  cases hpc.symm.trans h1
  have hx9 : inI x := hs _ List.mem_cons_self
  have k9 := k ws H locs la _ h2 hL hl (fun v9 hv9 => by rcases List.mem_cons.mp hv9 with rfl | hv9; exact (show inI (if x < 0 then -x else x) by split <;> assumption); exact hs _ (List.mem_cons_of_mem _ hv9)) hm hw hP hD hS hv
  have e9 : Int32.ofInt (if x < 0 then -x else x) = if 0 ≤ Int32.ofInt x then Int32.ofInt x else 0 - Int32.ofInt x := abs32 hx9
  simp only [List.map_cons, rV, e9] at k9
  exact va_mabs hx hb (hml.trans hv.1.symm) hown hlink hstat hini hcode hR.1 (by have q := wds_ok (ad := ad) (aC := aC) st; rw [q]; omega) hR.2.2.1 hR.2.2.2 hdg k9
theorem go_maxL (hx : p.tables.exec = Jvm.exec) (hb : c.code = cc) {own : String} {i : Nat} (hown : s.vm.findClass own = some m.cls) (hlink : (Cond.methodLink own i Lib.MathLoose.max_long.x).before args s = true) (hstat : (Cond.static Lib.MathLoose.max_long.x).before args s = true) (hini : (Cond.initialized "java/lang/Math").before args s = true) (hcode : (Cond.code Lib.MathLoose.max_long.x Lib.MathLoose.max_long.code 4 (some .long)).before args s = true) (hml : c.maxLocals = nL) (hR : 1 ≤ Rm.frames ∧ 100 ≤ Rm.locals ∧ cells ≤ Rm.cells ∧ slots ≤ Rm.slots) (hw8 : wds st ≤ 8) {x y : Int}  (hd : Dc cc pcs j (.invokestatic i) 3 nx) (k : Go (fun H locs pc la sv => W p l e Rm s m args below meth c H locs cells slots Q (F0 m pc la sv)) D A tys ad aC nL s pcs S r (nx) (ls) (mL (max x y) :: st) (h)) : Go (fun H locs pc la sv => W p l e Rm s m args below meth c H locs cells slots Q (F0 m pc la sv)) D A tys ad aC nL s pcs S r (j) (ls) (mL y :: mL x :: st) (h) := by
  intro ws H locs la pc hpc hL hl hs hm hw hP hD hS hv
  obtain ⟨pc0, h1, hdg, h2⟩ := hd
  cases hpc.symm.trans h1
  have hx9 : inL x := hs _ (List.mem_cons_of_mem _ List.mem_cons_self)
  have hy9 : inL y := hs _ List.mem_cons_self
  have k9 := k ws H locs la _ h2 hL hl (fun v9 hv9 => by rcases List.mem_cons.mp hv9 with rfl | hv9; exact (show inL (max x y) by rw [Int.max_def]; split <;> assumption); exact hs _ (List.mem_cons_of_mem _ (List.mem_cons_of_mem _ hv9))) hm hw hP hD hS hv
  have e9 : Int64.ofInt (max x y) = if Int64.ofInt y < Int64.ofInt x then Int64.ofInt x else Int64.ofInt y := max64 hx9 hy9
  simp only [List.map_cons, rV, e9] at k9
  exact va_mmax_long hx hb (hml.trans hv.1.symm) hown hlink hstat hini hcode hR.1 (by have q := wds_ok (ad := ad) (aC := aC) st; rw [q]; omega) hR.2.2.1 hR.2.2.2 hdg k9
end
end
section
/-! THE RICH MACHINE: it makes cells, too -/
def rset (r : mRf) (a k v : Nat) : mRf := match nth r a with
  | some l => lset r a (lset l k (some v))
  | none => r
def ex2 (ct : Nat → List Int) (cl : Nat → Nat → List mv → mH → Option (List mv × mH)) (N : Nat → List mv → List mv → mH → Option (List mv × mH)) (i : mIn) (ls st : List mv) (g : mH) : Option (List mv × mH) :=
  match i.1 with
  | .new ci => match i.2.2 with
    | [nf] => N i.2.1 ls (mR g.1.length :: st) (g.1 ++ [.inl ci], g.2.1 ++ [List.replicate nf none], g.2.2)
    | _ => none
  | .newarray _ => match st, i.2.2 with
    | .inl n :: st, [ty] => if 0 ≤ n ∧ n ≤ 10000 then N i.2.1 ls (mR g.1.length :: st) (g.1 ++ [.inr (ty, n.toNat)], g.2.1 ++ [[]], g.2.2) else none
    | _, _ => none
  | .anewarray ci => match st with
    | .inl n :: st => if 0 ≤ n ∧ n ≤ 10000 then N i.2.1 ls (mR g.1.length :: st) (g.1 ++ [.inr (10 + ci, n.toNat)], g.2.1 ++ [List.replicate n.toNat none], g.2.2) else none
    | _ => none
  | .multianewarray _ _ => match st with
    | .inl k :: .inl n :: st => if (0 ≤ n ∧ n ≤ 100) ∧ 0 ≤ k ∧ k ≤ 100 then N i.2.1 ls (mR g.1.length :: st) (g.1 ++ (.inr (3, n.toNat) :: List.replicate n.toNat (.inr (1, k.toNat))), g.2.1 ++ ((List.range n.toNat).map (fun q => some (g.1.length + 1 + q)) :: List.replicate n.toNat []), g.2.2) else none
    | _ => none
  | .aastore => match st, i.2.2 with
    | .inr (.inr (.inl v)) :: .inl x :: .inr (.inr (.inl a)) :: st, [ty] => match mArr g.1 a ty with
      | some n => match mObj g.1 v (ty - 10) with
        | true => if inA x n ∧ 10 ≤ ty then N i.2.1 ls st (g.1, rset g.2.1 a x.toNat v, g.2.2) else none
        | false => none
      | none => none
    | _, _ => none
  | .invokespecial _ => match st with
    | .inr (.inr (.inl _)) :: st => few st (N i.2.1 ls st g)
    | _ => none
  | .invokestatic id => match i.2.2 with
    | [na, fl, kd] => match mTake na [] st with
      | some (args, rest) => few rest (match cl id fl args g with
        | some (ret, g') => match kd, ret with
          | 0, [] => N i.2.1 ls rest g'
          | 1, [.inl v] => N i.2.1 ls (mI v :: rest) g'
          | 2, [.inr (.inl v)] => N i.2.1 ls (mL v :: rest) g'
          | 3, [.inr (.inr (.inl v))] => N i.2.1 ls (mR v :: rest) g'
          | _, _ => none
        | none => none)
      | none => none
    | _ => none
  | .putfield k => match i.2.2, st with
    | [ci, 2], .inr (.inr (.inl v)) :: .inr (.inr (.inl a)) :: st => match mObj g.1 a ci with
      | true => N i.2.1 ls st (g.1, rset g.2.1 a k v, g.2.2)
      | false => none
    | _, _ => ex1 g.1 g.2.1 ct (fun _ _ _ _ => none) (fun v m => some (v, (g.1, g.2.1, m))) (fun j ls st m => N j ls st (g.1, g.2.1, m)) i ls st g.2.2
  | _ => ex1 g.1 g.2.1 ct (fun _ _ _ _ => none) (fun v m => some (v, (g.1, g.2.1, m))) (fun j ls st m => N j ls st (g.1, g.2.1, m)) i ls st g.2.2
section
variable (P : mPr) (ct : Nat → List Int)
def exR : Nat → Nat → mCode → Nat → List mv → List mv → mH → Option (List mv × mH)
  | 0, _, _, _, _, _, _ => none
  | n + 1, d, c, j, ls, st, g => match nth c j with
    | none => none
    | some i => ex2 ct (fun id fl args g => match fl, d with
        | 0, d => exR n d (P id).1 0 (mPad (P id).2 (mEntry args)) [] g
        | _, d + 1 => exR n d (P id).1 0 (mPad (P id).2 (mEntry args)) [] g
        | _, 0 => none) (exR n d c) i ls st g
def clR (n d : Nat) (id fl : Nat) (args : List mv) (g : mH) : Option (List mv × mH) := match fl, d with
  | 0, d => exR P ct n d (P id).1 0 (mPad (P id).2 (mEntry args)) [] g
  | _, d + 1 => exR P ct n d (P id).1 0 (mPad (P id).2 (mEntry args)) [] g
  | _, 0 => none
theorem exR_succ (n d : Nat) (c : mCode) (j : Nat) (ls st : List mv) (g : mH) : exR P ct (n + 1) d c j ls st g = match nth c j with
    | none => none
    | some i => ex2 ct (clR P ct n d) (exR P ct n d c) i ls st g := by
  rw [exR]
  rfl
end
section
variable {ρ τ : Type}
/-- what a comes to, b comes to, seen by f -/
def Mp (f : ρ → τ) (a : Option ρ) (b : Option τ) : Prop := ∀ r, a = some r → b = some (f r)
theorem Mp.none' {f : ρ → τ} {b : Option τ} : Mp f none b := fun r h => by cases h
theorem Mp.ite {f : ρ → τ} {c : Prop} [Decidable c] {a a' : Option ρ} {b b' : Option τ} (h : Mp f a b) (h' : Mp f a' b') : Mp f (if c then a else a') (if c then b else b') := by
  by_cases q : c
  · simpa only [if_pos q] using h
  · simpa only [if_neg q] using h'
theorem Mp.few {f : ρ → τ} {st : List mv} {a : Option ρ} {b : Option τ} (h : Mp f a b) : Mp f (few st a) (few st b) := by
  unfold Jvm.Pilot.@@N@@.few
  split
  · exact h
  · exact Mp.none'
theorem Mp.pB {f : ρ → τ} {c : Nat} {x y : Int} {a a' : Option ρ} {b b' : Option τ} (h : Mp f a b) (h' : Mp f a' b') : Mp f (pB c x y a a') (pB c x y b b') := by
  unfold Jvm.Pilot.@@N@@.pB
  split
  · exact Mp.ite h h'
  · exact Mp.ite h' h
  · exact Mp.ite h h'
  · exact Mp.ite h' h
  · exact Mp.ite h h'
  · exact Mp.ite h' h
theorem Mp.pSw {f : ρ → τ} {x : Int} {d : Nat} {N : Nat → Option ρ} {M : Nat → Option τ} (h : ∀ t, Mp f (N t) (M t)) : ∀ (l : List Nat) (lo : Int), Mp f (pSw x N d lo l) (pSw x M d lo l)
  | [], lo => h d
  | t :: ts, lo => Mp.ite (h t) (Mp.pSw h ts (lo + 1))
theorem Mp.pLk {f : ρ → τ} {x : Int} {d : Nat} {N : Nat → Option ρ} {M : Nat → Option τ} (h : ∀ t, Mp f (N t) (M t)) : ∀ (l : List Nat), Mp f (pLk x N d l) (pLk x M d l)
  | [] => h d
  | [_] => h d
  | _ :: t :: ts => Mp.ite (h t) (Mp.pLk h ts)
theorem Mp.stK {f : ρ → τ} {v : mv} : ∀ (k : Nat) (ls : List mv) {K : List mv → Option ρ} {L : List mv → Option τ}, (∀ l, Mp f (K l) (L l)) → Mp f (stK v k ls K) (stK v k ls L)
  | 0, [], _, _, _ => Mp.none'
  | 0, _ :: l, _, _, h => h _
  | 1, [], _, _, _ => Mp.none'
  | 1, [_], _, _, _ => Mp.none'
  | 1, a :: _ :: l, _, _, h => h _
  | k + 2, [], _, _, _ => Mp.none'
  | k + 2, a :: l, _, _, h => Mp.stK (k + 1) l (fun l => h (a :: l))
theorem Mp.stL {f : ρ → τ} {v : mv} : ∀ (k : Nat) (ls : List mv) {K : List mv → Option ρ} {L : List mv → Option τ}, (∀ l, Mp f (K l) (L l)) → Mp f (stL v k ls K) (stL v k ls L)
  | 0, [], _, _, _ => Mp.none'
  | 0, [_], _, _, _ => Mp.none'
  | 0, _ :: _ :: l, _, _, h => h _
  | 1, [], _, _, _ => Mp.none'
  | 1, [_], _, _, _ => Mp.none'
  | 1, [_, _], _, _, _ => Mp.none'
  | 1, a :: _ :: _ :: l, _, _, h => h _
  | k + 2, [], _, _, _ => Mp.none'
  | k + 2, a :: l, _, _, h => Mp.stL (k + 1) l (fun l => h (a :: l))
theorem ex1_mp (S : mSh) (R : List (List (Option Nat))) (ct : Nat → List Int) {f : ρ → τ} {cl cl' : Nat → Nat → List mv → mM → Option (List mv × mM)} {ret : List mv → mM → Option ρ} {ret' : List mv → mM → Option τ} {N : Nat → List mv → List mv → mM → Option ρ} {N' : Nat → List mv → List mv → mM → Option τ}
    (hr : ∀ v h, Mp f (ret v h) (ret' v h)) (hN : ∀ j ls st h, Mp f (N j ls st h) (N' j ls st h)) (i : mIn) (hi : ∀ id, i.1 ≠ .invokestatic id) (ls st : List mv) (h : mM) :
    Mp f (ex1 S R ct cl ret N i ls st h) (ex1 S R ct cl' ret' N' i ls st h) := by
  intro r H
  obtain ⟨o, nx, l⟩ := i
  unfold ex1 at H ⊢
  dsimp only at H ⊢
  split at H
  all_goals repeat' first
    | (cases H; done)
    | exact absurd rfl (hi _)
    | exact hN _ _ _ _ _ H
    | exact hr _ _ _ H
    | (revert H; exact Mp.ite (hN _ _ _ _) Mp.none' _)
    | (revert H; exact Mp.ite (Mp.ite (hN _ _ _ _) Mp.none') Mp.none' _)
    | (revert H; exact Mp.ite (hr _ _) Mp.none' _)
    | (revert H; exact Mp.stK _ _ (fun l => hN _ _ _ _) _)
    | (revert H; exact Mp.stL _ _ (fun l => hN _ _ _ _) _)
    | (revert H; exact Mp.ite (Mp.stK _ _ (fun l => hN _ _ _ _)) Mp.none' _)
    | (revert H; exact Mp.few (hN _ _ _ _) _)
    | (revert H; exact Mp.few (Mp.ite (hN _ _ _ _) Mp.none') _)
    | (revert H; exact Mp.pB (hN _ _ _ _) (hN _ _ _ _) _)
    | (revert H; exact Mp.pSw (fun t => hN _ _ _ _) _ _ _)
    | (revert H; exact Mp.pLk (fun t => hN _ _ _ _) _ _)
    | split at H
end
section
variable (P : mPr) (S : mSh) (R : List (List (Option Nat))) (ct : Nat → List Int)
theorem exR_of : ∀ (n d : Nat) (c : mCode) (j : Nat) (ls st : List mv) (h : mM), Mp (fun r : List mv × mM => (r.1, (S, R, r.2))) (exN P S R ct n d c j ls st h) (exR P ct n d c j ls st (S, R, h)) := by
  intro n
  induction n with
  | zero => intro d c j ls st h r H; cases H
  | succ n ih =>
    intro d c j ls st h r H
    rw [exN_succ] at H
    rw [exR_succ]
    split at H
    · cases H
    · next i hi =>
      rw [hi]
      dsimp only
      by_cases hq : ∃ id, i.1 = .invokestatic id
      · obtain ⟨id, hid⟩ := hq
        obtain ⟨o, nx, l⟩ := i
        dsimp only at hid
        subst hid
        unfold ex1 at H
        unfold ex2
        dsimp only at H ⊢
        have hcl : ∀ fl a h r, clN P S R ct n d id fl a h = some r → clR P ct n d id fl a (S, R, h) = some (r.1, (S, R, r.2)) := by
          intro fl a h r h9
          cases fl with
          | zero => exact ih _ _ _ _ _ _ _ h9
          | succ fl => cases d with
            | zero => cases h9
            | succ d => exact ih _ _ _ _ _ _ _ h9
        split at H
        · next na fl kd =>
          split at H
          · next args rest hT =>
            dsimp only
            rw [hT]
            dsimp only
            obtain ⟨g1, g2⟩ : Nat.ble (wds rest) 8 = true ∧ _ = some r := by
              unfold few at H
              split at H
              · next q => exact ⟨q, H⟩
              · cases H
            unfold few
            rw [g1]
            dsimp only
            split at g2
            · unfold cV at g2
              split at g2
              · next h9 hc => rw [hcl _ _ _ _ hc]; exact ih _ _ _ _ _ _ _ g2
              · cases g2
            · unfold cI at g2
              split at g2
              · next v h9 hc => rw [hcl _ _ _ _ hc]; exact ih _ _ _ _ _ _ _ g2
              · cases g2
            · unfold cL at g2
              split at g2
              · next v h9 hc => rw [hcl _ _ _ _ hc]; exact ih _ _ _ _ _ _ _ g2
              · cases g2
            · unfold cR at g2
              split at g2
              · next v h9 hc => rw [hcl _ _ _ _ hc]; exact ih _ _ _ _ _ _ _ g2
              · cases g2
            · cases g2
          · cases H
        · cases H
      · have hi9 : ∀ id, i.1 ≠ .invokestatic id := fun id q => hq ⟨id, q⟩
        have k9 := ex1_mp S R ct (f := fun r : List mv × mM => (r.1, (S, R, r.2))) (cl' := fun _ _ _ _ => none) (ret' := fun v m => some (v, (S, R, m))) (N' := fun j ls st m => exR P ct n d c j ls st (S, R, m)) (fun v h r q => by cases q; rfl) (fun j ls st h => ih d c j ls st h) i hi9 ls st h r H
        obtain ⟨o, nx, l⟩ := i
        unfold ex2
        dsimp only at hi9 ⊢
        split
        all_goals first
          | exact k9
          | (exfalso; exact hi9 _ rfl)
          | (exfalso; unfold ex1 at H; dsimp only at H; cases H; done)
          | skip
        split
        · exfalso
          unfold ex1 at H
          dsimp only at H
          cases H
        · exact k9
end
end
