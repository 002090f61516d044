section
-- ===== PART A: goes FIRST, ahead of the names: the tables' words, and 'selects' of the private methods out of them =====
/-- a private method of a class that the tables say can be made, by its rows of tables_1 -/
def lw_okq (q : MethodName × Nat) : Prop := (q.1.cls ≠ "java/lang/invoke/MethodHandle" ∧ q.1.cls ≠ "java/lang/invoke/VarHandle") ∧ Cond.instantiable q.1.cls q.2 ∈ tables_1 ∧ Cond.privateMethod q.1 ∈ tables_1 ∧ Cond.instanceMethod q.1 ∈ tables_1
theorem lw_p0 : lw_okq (⟨"ToastMap", "deny", "(I)Z"⟩, 19) := ⟨⟨by decide +kernel, by decide +kernel⟩, List.mem_of_getElem? (i := 22) (by decide +kernel), List.mem_of_getElem? (i := 505) (by decide +kernel), List.mem_of_getElem? (i := 506) (by decide +kernel)⟩
theorem lw_p1 : lw_okq (⟨"ToastMap", "grant", "()Z"⟩, 19) := ⟨⟨by decide +kernel, by decide +kernel⟩, List.mem_of_getElem? (i := 22) (by decide +kernel), List.mem_of_getElem? (i := 513) (by decide +kernel), List.mem_of_getElem? (i := 514) (by decide +kernel)⟩
theorem lw_p2 : lw_okq (⟨"ToastMap", "placeStatus", "(II)I"⟩, 19) := ⟨⟨by decide +kernel, by decide +kernel⟩, List.mem_of_getElem? (i := 22) (by decide +kernel), List.mem_of_getElem? (i := 521) (by decide +kernel), List.mem_of_getElem? (i := 522) (by decide +kernel)⟩
theorem lw_p3 : lw_okq (⟨"ToastMap", "refuse", "(I)I"⟩, 19) := ⟨⟨by decide +kernel, by decide +kernel⟩, List.mem_of_getElem? (i := 22) (by decide +kernel), List.mem_of_getElem? (i := 544) (by decide +kernel), List.mem_of_getElem? (i := 545) (by decide +kernel)⟩
theorem lw_p4 : lw_okq (⟨"ToastMap", "pourStatus", "(IIIII)I"⟩, 19) := ⟨⟨by decide +kernel, by decide +kernel⟩, List.mem_of_getElem? (i := 22) (by decide +kernel), List.mem_of_getElem? (i := 556) (by decide +kernel), List.mem_of_getElem? (i := 557) (by decide +kernel)⟩
theorem lw_p5 : lw_okq (⟨"ToastMap$Tape", "stepWord", "()V"⟩, 13) := ⟨⟨by decide +kernel, by decide +kernel⟩, List.mem_of_getElem? (i := 50) (by decide +kernel), List.mem_of_getElem? (i := 618) (by decide +kernel), List.mem_of_getElem? (i := 619) (by decide +kernel)⟩
theorem lw_p6 : lw_okq (⟨"ToastMap$Tape", "wordOf", "(J)I"⟩, 13) := ⟨⟨by decide +kernel, by decide +kernel⟩, List.mem_of_getElem? (i := 50) (by decide +kernel), List.mem_of_getElem? (i := 622) (by decide +kernel), List.mem_of_getElem? (i := 623) (by decide +kernel)⟩
theorem lw_p7 : lw_okq (⟨"ToastMap$Tape", "stepNumber", "()V"⟩, 13) := ⟨⟨by decide +kernel, by decide +kernel⟩, List.mem_of_getElem? (i := 50) (by decide +kernel), List.mem_of_getElem? (i := 629) (by decide +kernel), List.mem_of_getElem? (i := 630) (by decide +kernel)⟩
theorem lw_p8 : lw_okq (⟨"ToastMap$MapReader", "readPart", "()Z"⟩, 3) := ⟨⟨by decide +kernel, by decide +kernel⟩, List.mem_of_getElem? (i := 266) (by decide +kernel), List.mem_of_getElem? (i := 640) (by decide +kernel), List.mem_of_getElem? (i := 641) (by decide +kernel)⟩
theorem lw_p9 : lw_okq (⟨"ToastMap$MapReader", "readRule", "(I)Z"⟩, 3) := ⟨⟨by decide +kernel, by decide +kernel⟩, List.mem_of_getElem? (i := 266) (by decide +kernel), List.mem_of_getElem? (i := 644) (by decide +kernel), List.mem_of_getElem? (i := 645) (by decide +kernel)⟩
theorem lw_p10 : lw_okq (⟨"ToastMap$MapReader", "readPerson", "()Z"⟩, 3) := ⟨⟨by decide +kernel, by decide +kernel⟩, List.mem_of_getElem? (i := 266) (by decide +kernel), List.mem_of_getElem? (i := 670) (by decide +kernel), List.mem_of_getElem? (i := 671) (by decide +kernel)⟩
theorem lw_p11 : lw_okq (⟨"ToastMap$MapReader", "readPerhaps", "(I[III)Z"⟩, 3) := ⟨⟨by decide +kernel, by decide +kernel⟩, List.mem_of_getElem? (i := 266) (by decide +kernel), List.mem_of_getElem? (i := 691) (by decide +kernel), List.mem_of_getElem? (i := 692) (by decide +kernel)⟩
theorem lw_p12 : lw_okq (⟨"ToastMap$MapReader", "readToast", "()Z"⟩, 3) := ⟨⟨by decide +kernel, by decide +kernel⟩, List.mem_of_getElem? (i := 266) (by decide +kernel), List.mem_of_getElem? (i := 695) (by decide +kernel), List.mem_of_getElem? (i := 696) (by decide +kernel)⟩
theorem lw_p13 : lw_okq (⟨"ToastMap", "answer", "(I)I"⟩, 19) := ⟨⟨by decide +kernel, by decide +kernel⟩, List.mem_of_getElem? (i := 22) (by decide +kernel), List.mem_of_getElem? (i := 724) (by decide +kernel), List.mem_of_getElem? (i := 725) (by decide +kernel)⟩
theorem lw_p14 : lw_okq (⟨"ToastMap$TimesReader", "readStep", "(LToastMap$Company;)Z"⟩, 4) := ⟨⟨by decide +kernel, by decide +kernel⟩, List.mem_of_getElem? (i := 284) (by decide +kernel), List.mem_of_getElem? (i := 739) (by decide +kernel), List.mem_of_getElem? (i := 740) (by decide +kernel)⟩
theorem lw_p15 : lw_okq (⟨"ToastMap$TimesReader", "readEnd", "()Z"⟩, 4) := ⟨⟨by decide +kernel, by decide +kernel⟩, List.mem_of_getElem? (i := 284) (by decide +kernel), List.mem_of_getElem? (i := 743) (by decide +kernel), List.mem_of_getElem? (i := 744) (by decide +kernel)⟩
def lw_privs_1 : List (MethodName × Nat) := [(⟨"ToastMap", "deny", "(I)Z"⟩, 19), (⟨"ToastMap", "grant", "()Z"⟩, 19), (⟨"ToastMap", "placeStatus", "(II)I"⟩, 19), (⟨"ToastMap", "refuse", "(I)I"⟩, 19), (⟨"ToastMap", "pourStatus", "(IIIII)I"⟩, 19), (⟨"ToastMap$Tape", "stepWord", "()V"⟩, 13), (⟨"ToastMap$Tape", "wordOf", "(J)I"⟩, 13), (⟨"ToastMap$Tape", "stepNumber", "()V"⟩, 13), (⟨"ToastMap$MapReader", "readPart", "()Z"⟩, 3), (⟨"ToastMap$MapReader", "readRule", "(I)Z"⟩, 3), (⟨"ToastMap$MapReader", "readPerson", "()Z"⟩, 3), (⟨"ToastMap$MapReader", "readPerhaps", "(I[III)Z"⟩, 3), (⟨"ToastMap$MapReader", "readToast", "()Z"⟩, 3), (⟨"ToastMap", "answer", "(I)I"⟩, 19), (⟨"ToastMap$TimesReader", "readStep", "(LToastMap$Company;)Z"⟩, 4), (⟨"ToastMap$TimesReader", "readEnd", "()Z"⟩, 4)]
theorem lw_r1 : ∀ q ∈ lw_privs_1, lw_okq q := List.forall_mem_cons.mpr ⟨lw_p0, List.forall_mem_cons.mpr ⟨lw_p1, List.forall_mem_cons.mpr ⟨lw_p2, List.forall_mem_cons.mpr ⟨lw_p3, List.forall_mem_cons.mpr ⟨lw_p4, List.forall_mem_cons.mpr ⟨lw_p5, List.forall_mem_cons.mpr ⟨lw_p6, List.forall_mem_cons.mpr ⟨lw_p7, List.forall_mem_cons.mpr ⟨lw_p8, List.forall_mem_cons.mpr ⟨lw_p9, List.forall_mem_cons.mpr ⟨lw_p10, List.forall_mem_cons.mpr ⟨lw_p11, List.forall_mem_cons.mpr ⟨lw_p12, List.forall_mem_cons.mpr ⟨lw_p13, List.forall_mem_cons.mpr ⟨lw_p14, List.forall_mem_cons.mpr ⟨lw_p15, fun _ h => absurd h List.not_mem_nil⟩⟩⟩⟩⟩⟩⟩⟩⟩⟩⟩⟩⟩⟩⟩⟩
theorem lw_p16 : lw_okq (⟨"ToastMap$TimesReader", "readWho", "(ILToastMap$Company;)Z"⟩, 4) := ⟨⟨by decide +kernel, by decide +kernel⟩, List.mem_of_getElem? (i := 284) (by decide +kernel), List.mem_of_getElem? (i := 755) (by decide +kernel), List.mem_of_getElem? (i := 756) (by decide +kernel)⟩
theorem lw_p17 : lw_okq (⟨"ToastMap$TimesReader", "readAmount", "(III)Z"⟩, 4) := ⟨⟨by decide +kernel, by decide +kernel⟩, List.mem_of_getElem? (i := 284) (by decide +kernel), List.mem_of_getElem? (i := 760) (by decide +kernel), List.mem_of_getElem? (i := 761) (by decide +kernel)⟩
theorem lw_p18 : lw_okq (⟨"ToastMap$TimesReader", "readTest", "(ILToastMap$Company;)Z"⟩, 4) := ⟨⟨by decide +kernel, by decide +kernel⟩, List.mem_of_getElem? (i := 284) (by decide +kernel), List.mem_of_getElem? (i := 766) (by decide +kernel), List.mem_of_getElem? (i := 767) (by decide +kernel)⟩
theorem lw_p19 : lw_okq (⟨"ToastMap$TimesReader", "readCompares", "(I)Z"⟩, 4) := ⟨⟨by decide +kernel, by decide +kernel⟩, List.mem_of_getElem? (i := 284) (by decide +kernel), List.mem_of_getElem? (i := 770) (by decide +kernel), List.mem_of_getElem? (i := 771) (by decide +kernel)⟩
theorem lw_p20 : lw_okq (⟨"ToastMap", "isCouple", "(II)Z"⟩, 19) := ⟨⟨by decide +kernel, by decide +kernel⟩, List.mem_of_getElem? (i := 22) (by decide +kernel), List.mem_of_getElem? (i := 918) (by decide +kernel), List.mem_of_getElem? (i := 919) (by decide +kernel)⟩
theorem lw_p21 : lw_okq (⟨"ToastMap", "lookAhead", "(I)V"⟩, 19) := ⟨⟨by decide +kernel, by decide +kernel⟩, List.mem_of_getElem? (i := 22) (by decide +kernel), List.mem_of_getElem? (i := 947) (by decide +kernel), List.mem_of_getElem? (i := 948) (by decide +kernel)⟩
theorem lw_p22 : lw_okq (⟨"ToastMap", "findPeriod", "()I"⟩, 19) := ⟨⟨by decide +kernel, by decide +kernel⟩, List.mem_of_getElem? (i := 22) (by decide +kernel), List.mem_of_getElem? (i := 959) (by decide +kernel), List.mem_of_getElem? (i := 960) (by decide +kernel)⟩
theorem lw_p23 : lw_okq (⟨"ToastMap", "firstSettled", "(I)I"⟩, 19) := ⟨⟨by decide +kernel, by decide +kernel⟩, List.mem_of_getElem? (i := 22) (by decide +kernel), List.mem_of_getElem? (i := 967) (by decide +kernel), List.mem_of_getElem? (i := 968) (by decide +kernel)⟩
theorem lw_p24 : lw_okq (⟨"ToastMap$Company", "warmestOf", "(I)I"⟩, 10) := ⟨⟨by decide +kernel, by decide +kernel⟩, List.mem_of_getElem? (i := 153) (by decide +kernel), List.mem_of_getElem? (i := 1023) (by decide +kernel), List.mem_of_getElem? (i := 1024) (by decide +kernel)⟩
theorem lw_p25 : lw_okq (⟨"ToastMap$Company", "canAllBeLit", "(II)Z"⟩, 10) := ⟨⟨by decide +kernel, by decide +kernel⟩, List.mem_of_getElem? (i := 153) (by decide +kernel), List.mem_of_getElem? (i := 1036) (by decide +kernel), List.mem_of_getElem? (i := 1037) (by decide +kernel)⟩
theorem lw_p26 : lw_okq (⟨"ToastMap", "waysStatus", "(II)I"⟩, 19) := ⟨⟨by decide +kernel, by decide +kernel⟩, List.mem_of_getElem? (i := 22) (by decide +kernel), List.mem_of_getElem? (i := 1053) (by decide +kernel), List.mem_of_getElem? (i := 1054) (by decide +kernel)⟩
theorem lw_p27 : lw_okq (⟨"ToastMap", "rowsStatus", "(IIII)I"⟩, 19) := ⟨⟨by decide +kernel, by decide +kernel⟩, List.mem_of_getElem? (i := 22) (by decide +kernel), List.mem_of_getElem? (i := 1057) (by decide +kernel), List.mem_of_getElem? (i := 1058) (by decide +kernel)⟩
theorem lw_p28 : lw_okq (⟨"ToastMap", "findWays", "(II)V"⟩, 19) := ⟨⟨by decide +kernel, by decide +kernel⟩, List.mem_of_getElem? (i := 22) (by decide +kernel), List.mem_of_getElem? (i := 1061) (by decide +kernel), List.mem_of_getElem? (i := 1062) (by decide +kernel)⟩
theorem lw_p29 : lw_okq (⟨"ToastMap$Ways", "spread", "(I)V"⟩, 5) := ⟨⟨by decide +kernel, by decide +kernel⟩, List.mem_of_getElem? (i := 364) (by decide +kernel), List.mem_of_getElem? (i := 1078) (by decide +kernel), List.mem_of_getElem? (i := 1079) (by decide +kernel)⟩
theorem lw_p30 : lw_okq (⟨"ToastMap$Ways", "isOpen", "(III)Z"⟩, 5) := ⟨⟨by decide +kernel, by decide +kernel⟩, List.mem_of_getElem? (i := 364) (by decide +kernel), List.mem_of_getElem? (i := 1083) (by decide +kernel), List.mem_of_getElem? (i := 1084) (by decide +kernel)⟩
theorem lw_p31 : lw_okq (⟨"ToastMap$Ways", "gather", "(I)V"⟩, 5) := ⟨⟨by decide +kernel, by decide +kernel⟩, List.mem_of_getElem? (i := 364) (by decide +kernel), List.mem_of_getElem? (i := 1087) (by decide +kernel), List.mem_of_getElem? (i := 1088) (by decide +kernel)⟩
def lw_privs_2 : List (MethodName × Nat) := [(⟨"ToastMap$TimesReader", "readWho", "(ILToastMap$Company;)Z"⟩, 4), (⟨"ToastMap$TimesReader", "readAmount", "(III)Z"⟩, 4), (⟨"ToastMap$TimesReader", "readTest", "(ILToastMap$Company;)Z"⟩, 4), (⟨"ToastMap$TimesReader", "readCompares", "(I)Z"⟩, 4), (⟨"ToastMap", "isCouple", "(II)Z"⟩, 19), (⟨"ToastMap", "lookAhead", "(I)V"⟩, 19), (⟨"ToastMap", "findPeriod", "()I"⟩, 19), (⟨"ToastMap", "firstSettled", "(I)I"⟩, 19), (⟨"ToastMap$Company", "warmestOf", "(I)I"⟩, 10), (⟨"ToastMap$Company", "canAllBeLit", "(II)Z"⟩, 10), (⟨"ToastMap", "waysStatus", "(II)I"⟩, 19), (⟨"ToastMap", "rowsStatus", "(IIII)I"⟩, 19), (⟨"ToastMap", "findWays", "(II)V"⟩, 19), (⟨"ToastMap$Ways", "spread", "(I)V"⟩, 5), (⟨"ToastMap$Ways", "isOpen", "(III)Z"⟩, 5), (⟨"ToastMap$Ways", "gather", "(I)V"⟩, 5)]
theorem lw_r2 : ∀ q ∈ lw_privs_2, lw_okq q := List.forall_mem_cons.mpr ⟨lw_p16, List.forall_mem_cons.mpr ⟨lw_p17, List.forall_mem_cons.mpr ⟨lw_p18, List.forall_mem_cons.mpr ⟨lw_p19, List.forall_mem_cons.mpr ⟨lw_p20, List.forall_mem_cons.mpr ⟨lw_p21, List.forall_mem_cons.mpr ⟨lw_p22, List.forall_mem_cons.mpr ⟨lw_p23, List.forall_mem_cons.mpr ⟨lw_p24, List.forall_mem_cons.mpr ⟨lw_p25, List.forall_mem_cons.mpr ⟨lw_p26, List.forall_mem_cons.mpr ⟨lw_p27, List.forall_mem_cons.mpr ⟨lw_p28, List.forall_mem_cons.mpr ⟨lw_p29, List.forall_mem_cons.mpr ⟨lw_p30, List.forall_mem_cons.mpr ⟨lw_p31, fun _ h => absurd h List.not_mem_nil⟩⟩⟩⟩⟩⟩⟩⟩⟩⟩⟩⟩⟩⟩⟩⟩
theorem lw_p32 : lw_okq (⟨"ToastMap$Ways", "firstOpen", "(II)I"⟩, 5) := ⟨⟨by decide +kernel, by decide +kernel⟩, List.mem_of_getElem? (i := 364) (by decide +kernel), List.mem_of_getElem? (i := 1103) (by decide +kernel), List.mem_of_getElem? (i := 1104) (by decide +kernel)⟩
theorem lw_p33 : lw_okq (⟨"ToastMap", "tell", "(JJ)Z"⟩, 19) := ⟨⟨by decide +kernel, by decide +kernel⟩, List.mem_of_getElem? (i := 22) (by decide +kernel), List.mem_of_getElem? (i := 1115) (by decide +kernel), List.mem_of_getElem? (i := 1116) (by decide +kernel)⟩
theorem lw_p34 : lw_okq (⟨"ToastMap$Ways", "mostThrough", "(I)I"⟩, 5) := ⟨⟨by decide +kernel, by decide +kernel⟩, List.mem_of_getElem? (i := 364) (by decide +kernel), List.mem_of_getElem? (i := 1133) (by decide +kernel), List.mem_of_getElem? (i := 1134) (by decide +kernel)⟩
theorem lw_p35 : lw_okq (⟨"ToastMap", "lawStatus", "(II)I"⟩, 19) := ⟨⟨by decide +kernel, by decide +kernel⟩, List.mem_of_getElem? (i := 22) (by decide +kernel), List.mem_of_getElem? (i := 1143) (by decide +kernel), List.mem_of_getElem? (i := 1144) (by decide +kernel)⟩
theorem lw_p36 : lw_okq (⟨"ToastMap", "isLaw", "(IIII)Z"⟩, 19) := ⟨⟨by decide +kernel, by decide +kernel⟩, List.mem_of_getElem? (i := 22) (by decide +kernel), List.mem_of_getElem? (i := 1150) (by decide +kernel), List.mem_of_getElem? (i := 1151) (by decide +kernel)⟩
theorem lw_p37 : lw_okq (⟨"ToastMap", "tasteBoth", "(I)V"⟩, 19) := ⟨⟨by decide +kernel, by decide +kernel⟩, List.mem_of_getElem? (i := 22) (by decide +kernel), List.mem_of_getElem? (i := 1163) (by decide +kernel), List.mem_of_getElem? (i := 1164) (by decide +kernel)⟩
theorem lw_p38 : lw_okq (⟨"ToastMap$Game", "litCount", "()I"⟩, 4) := ⟨⟨by decide +kernel, by decide +kernel⟩, List.mem_of_getElem? (i := 386) (by decide +kernel), List.mem_of_getElem? (i := 1200) (by decide +kernel), List.mem_of_getElem? (i := 1201) (by decide +kernel)⟩
theorem lw_p39 : lw_okq (⟨"ToastMap$Game", "behindDrink", "(IIII)I"⟩, 4) := ⟨⟨by decide +kernel, by decide +kernel⟩, List.mem_of_getElem? (i := 386) (by decide +kernel), List.mem_of_getElem? (i := 1207) (by decide +kernel), List.mem_of_getElem? (i := 1208) (by decide +kernel)⟩
theorem lw_p40 : lw_okq (⟨"ToastMap$Game", "draught", "(III)I"⟩, 4) := ⟨⟨by decide +kernel, by decide +kernel⟩, List.mem_of_getElem? (i := 386) (by decide +kernel), List.mem_of_getElem? (i := 1212) (by decide +kernel), List.mem_of_getElem? (i := 1213) (by decide +kernel)⟩
theorem lw_p41 : lw_okq (⟨"ToastMap$Game", "butler", "(III)I"⟩, 4) := ⟨⟨by decide +kernel, by decide +kernel⟩, List.mem_of_getElem? (i := 386) (by decide +kernel), List.mem_of_getElem? (i := 1216) (by decide +kernel), List.mem_of_getElem? (i := 1217) (by decide +kernel)⟩
theorem lw_p42 : lw_okq (⟨"ToastMap$Living", "behindEnd", "(LToastMap$Times;I)I"⟩, 8) := ⟨⟨by decide +kernel, by decide +kernel⟩, List.mem_of_getElem? (i := 327) (by decide +kernel), List.mem_of_getElem? (i := 1251) (by decide +kernel), List.mem_of_getElem? (i := 1252) (by decide +kernel)⟩
theorem lw_p43 : lw_okq (⟨"ToastMap$Living", "behindStep", "(LToastMap$Company;LToastMap$Times;I)I"⟩, 8) := ⟨⟨by decide +kernel, by decide +kernel⟩, List.mem_of_getElem? (i := 327) (by decide +kernel), List.mem_of_getElem? (i := 1255) (by decide +kernel), List.mem_of_getElem? (i := 1256) (by decide +kernel)⟩
theorem lw_p44 : lw_okq (⟨"ToastMap$Living", "liveDrink", "(LToastMap$Company;I)V"⟩, 8) := ⟨⟨by decide +kernel, by decide +kernel⟩, List.mem_of_getElem? (i := 327) (by decide +kernel), List.mem_of_getElem? (i := 1259) (by decide +kernel), List.mem_of_getElem? (i := 1260) (by decide +kernel)⟩
theorem lw_p45 : lw_okq (⟨"ToastMap$Living", "liveNights", "(LToastMap$Company;I)V"⟩, 8) := ⟨⟨by decide +kernel, by decide +kernel⟩, List.mem_of_getElem? (i := 327) (by decide +kernel), List.mem_of_getElem? (i := 1266) (by decide +kernel), List.mem_of_getElem? (i := 1267) (by decide +kernel)⟩
theorem lw_p46 : lw_okq (⟨"ToastMap$Living", "liveEvening", "(LToastMap$Company;)V"⟩, 8) := ⟨⟨by decide +kernel, by decide +kernel⟩, List.mem_of_getElem? (i := 327) (by decide +kernel), List.mem_of_getElem? (i := 1272) (by decide +kernel), List.mem_of_getElem? (i := 1273) (by decide +kernel)⟩
theorem lw_p47 : lw_okq (⟨"ToastMap$Living", "liveFill", "(LToastMap$Company;II)V"⟩, 8) := ⟨⟨by decide +kernel, by decide +kernel⟩, List.mem_of_getElem? (i := 327) (by decide +kernel), List.mem_of_getElem? (i := 1277) (by decide +kernel), List.mem_of_getElem? (i := 1278) (by decide +kernel)⟩
def lw_privs_3 : List (MethodName × Nat) := [(⟨"ToastMap$Ways", "firstOpen", "(II)I"⟩, 5), (⟨"ToastMap", "tell", "(JJ)Z"⟩, 19), (⟨"ToastMap$Ways", "mostThrough", "(I)I"⟩, 5), (⟨"ToastMap", "lawStatus", "(II)I"⟩, 19), (⟨"ToastMap", "isLaw", "(IIII)Z"⟩, 19), (⟨"ToastMap", "tasteBoth", "(I)V"⟩, 19), (⟨"ToastMap$Game", "litCount", "()I"⟩, 4), (⟨"ToastMap$Game", "behindDrink", "(IIII)I"⟩, 4), (⟨"ToastMap$Game", "draught", "(III)I"⟩, 4), (⟨"ToastMap$Game", "butler", "(III)I"⟩, 4), (⟨"ToastMap$Living", "behindEnd", "(LToastMap$Times;I)I"⟩, 8), (⟨"ToastMap$Living", "behindStep", "(LToastMap$Company;LToastMap$Times;I)I"⟩, 8), (⟨"ToastMap$Living", "liveDrink", "(LToastMap$Company;I)V"⟩, 8), (⟨"ToastMap$Living", "liveNights", "(LToastMap$Company;I)V"⟩, 8), (⟨"ToastMap$Living", "liveEvening", "(LToastMap$Company;)V"⟩, 8), (⟨"ToastMap$Living", "liveFill", "(LToastMap$Company;II)V"⟩, 8)]
theorem lw_r3 : ∀ q ∈ lw_privs_3, lw_okq q := List.forall_mem_cons.mpr ⟨lw_p32, List.forall_mem_cons.mpr ⟨lw_p33, List.forall_mem_cons.mpr ⟨lw_p34, List.forall_mem_cons.mpr ⟨lw_p35, List.forall_mem_cons.mpr ⟨lw_p36, List.forall_mem_cons.mpr ⟨lw_p37, List.forall_mem_cons.mpr ⟨lw_p38, List.forall_mem_cons.mpr ⟨lw_p39, List.forall_mem_cons.mpr ⟨lw_p40, List.forall_mem_cons.mpr ⟨lw_p41, List.forall_mem_cons.mpr ⟨lw_p42, List.forall_mem_cons.mpr ⟨lw_p43, List.forall_mem_cons.mpr ⟨lw_p44, List.forall_mem_cons.mpr ⟨lw_p45, List.forall_mem_cons.mpr ⟨lw_p46, List.forall_mem_cons.mpr ⟨lw_p47, fun _ h => absurd h List.not_mem_nil⟩⟩⟩⟩⟩⟩⟩⟩⟩⟩⟩⟩⟩⟩⟩⟩
theorem lw_p48 : lw_okq (⟨"ToastMap$Living", "liveAny", "(LToastMap$Company;)V"⟩, 8) := ⟨⟨by decide +kernel, by decide +kernel⟩, List.mem_of_getElem? (i := 327) (by decide +kernel), List.mem_of_getElem? (i := 1281) (by decide +kernel), List.mem_of_getElem? (i := 1282) (by decide +kernel)⟩
theorem lw_p49 : lw_okq (⟨"ToastMap$Living", "drawBy", "(I)I"⟩, 8) := ⟨⟨by decide +kernel, by decide +kernel⟩, List.mem_of_getElem? (i := 327) (by decide +kernel), List.mem_of_getElem? (i := 1285) (by decide +kernel), List.mem_of_getElem? (i := 1286) (by decide +kernel)⟩
theorem lw_p50 : lw_okq (⟨"ToastMap$Living", "holds", "(LToastMap$Company;LToastMap$Times;I)Z"⟩, 8) := ⟨⟨by decide +kernel, by decide +kernel⟩, List.mem_of_getElem? (i := 327) (by decide +kernel), List.mem_of_getElem? (i := 1291) (by decide +kernel), List.mem_of_getElem? (i := 1292) (by decide +kernel)⟩
theorem lw_p51 : lw_okq (⟨"ToastMapModel", "plain", "(I)V"⟩, 46) := ⟨⟨by decide +kernel, by decide +kernel⟩, List.mem_of_getElem? (i := 1330) (by decide +kernel), List.mem_of_getElem? (i := 1336) (by decide +kernel), List.mem_of_getElem? (i := 1337) (by decide +kernel)⟩
theorem lw_p52 : lw_okq (⟨"ToastMapModel", "is", "(I)Z"⟩, 46) := ⟨⟨by decide +kernel, by decide +kernel⟩, List.mem_of_getElem? (i := 1330) (by decide +kernel), List.mem_of_getElem? (i := 1498) (by decide +kernel), List.mem_of_getElem? (i := 1499) (by decide +kernel)⟩
theorem lw_p53 : lw_okq (⟨"ToastMapModel", "wrongPlace", "(II)I"⟩, 46) := ⟨⟨by decide +kernel, by decide +kernel⟩, List.mem_of_getElem? (i := 1330) (by decide +kernel), List.mem_of_getElem? (i := 1506) (by decide +kernel), List.mem_of_getElem? (i := 1507) (by decide +kernel)⟩
theorem lw_p54 : lw_okq (⟨"ToastMapModel", "four", "(I)V"⟩, 46) := ⟨⟨by decide +kernel, by decide +kernel⟩, List.mem_of_getElem? (i := 1330) (by decide +kernel), List.mem_of_getElem? (i := 1526) (by decide +kernel), List.mem_of_getElem? (i := 1527) (by decide +kernel)⟩
theorem lw_p55 : lw_okq (⟨"ToastMapModel", "begins", "(II)Z"⟩, 46) := ⟨⟨by decide +kernel, by decide +kernel⟩, List.mem_of_getElem? (i := 1330) (by decide +kernel), List.mem_of_getElem? (i := 1538) (by decide +kernel), List.mem_of_getElem? (i := 1539) (by decide +kernel)⟩
theorem lw_p56 : lw_okq (⟨"ToastMapModel", "ahead", "()V"⟩, 46) := ⟨⟨by decide +kernel, by decide +kernel⟩, List.mem_of_getElem? (i := 1330) (by decide +kernel), List.mem_of_getElem? (i := 1542) (by decide +kernel), List.mem_of_getElem? (i := 1543) (by decide +kernel)⟩
theorem lw_p57 : lw_okq (⟨"ToastMapModel", "byteAt", "(I)I"⟩, 46) := ⟨⟨by decide +kernel, by decide +kernel⟩, List.mem_of_getElem? (i := 1330) (by decide +kernel), List.mem_of_getElem? (i := 1546) (by decide +kernel), List.mem_of_getElem? (i := 1547) (by decide +kernel)⟩
theorem lw_p58 : lw_okq (⟨"ToastMapModel", "refuse", "(I)I"⟩, 46) := ⟨⟨by decide +kernel, by decide +kernel⟩, List.mem_of_getElem? (i := 1330) (by decide +kernel), List.mem_of_getElem? (i := 1558) (by decide +kernel), List.mem_of_getElem? (i := 1559) (by decide +kernel)⟩
theorem lw_p59 : lw_okq (⟨"ToastMapModel", "mapPart", "()Z"⟩, 46) := ⟨⟨by decide +kernel, by decide +kernel⟩, List.mem_of_getElem? (i := 1330) (by decide +kernel), List.mem_of_getElem? (i := 1562) (by decide +kernel), List.mem_of_getElem? (i := 1563) (by decide +kernel)⟩
theorem lw_p60 : lw_okq (⟨"ToastMapModel", "inWords", "(Ljava/lang/String;)I"⟩, 46) := ⟨⟨by decide +kernel, by decide +kernel⟩, List.mem_of_getElem? (i := 1330) (by decide +kernel), List.mem_of_getElem? (i := 1567) (by decide +kernel), List.mem_of_getElem? (i := 1568) (by decide +kernel)⟩
theorem lw_p61 : lw_okq (⟨"ToastMapModel", "fails", "(I)Z"⟩, 46) := ⟨⟨by decide +kernel, by decide +kernel⟩, List.mem_of_getElem? (i := 1330) (by decide +kernel), List.mem_of_getElem? (i := 1573) (by decide +kernel), List.mem_of_getElem? (i := 1574) (by decide +kernel)⟩
theorem lw_p62 : lw_okq (⟨"ToastMapModel", "isIn", "(II)Z"⟩, 46) := ⟨⟨by decide +kernel, by decide +kernel⟩, List.mem_of_getElem? (i := 1330) (by decide +kernel), List.mem_of_getElem? (i := 1577) (by decide +kernel), List.mem_of_getElem? (i := 1578) (by decide +kernel)⟩
theorem lw_p63 : lw_okq (⟨"ToastMapModel", "aPerson", "()Z"⟩, 46) := ⟨⟨by decide +kernel, by decide +kernel⟩, List.mem_of_getElem? (i := 1330) (by decide +kernel), List.mem_of_getElem? (i := 1581) (by decide +kernel), List.mem_of_getElem? (i := 1582) (by decide +kernel)⟩
def lw_privs_4 : List (MethodName × Nat) := [(⟨"ToastMap$Living", "liveAny", "(LToastMap$Company;)V"⟩, 8), (⟨"ToastMap$Living", "drawBy", "(I)I"⟩, 8), (⟨"ToastMap$Living", "holds", "(LToastMap$Company;LToastMap$Times;I)Z"⟩, 8), (⟨"ToastMapModel", "plain", "(I)V"⟩, 46), (⟨"ToastMapModel", "is", "(I)Z"⟩, 46), (⟨"ToastMapModel", "wrongPlace", "(II)I"⟩, 46), (⟨"ToastMapModel", "four", "(I)V"⟩, 46), (⟨"ToastMapModel", "begins", "(II)Z"⟩, 46), (⟨"ToastMapModel", "ahead", "()V"⟩, 46), (⟨"ToastMapModel", "byteAt", "(I)I"⟩, 46), (⟨"ToastMapModel", "refuse", "(I)I"⟩, 46), (⟨"ToastMapModel", "mapPart", "()Z"⟩, 46), (⟨"ToastMapModel", "inWords", "(Ljava/lang/String;)I"⟩, 46), (⟨"ToastMapModel", "fails", "(I)Z"⟩, 46), (⟨"ToastMapModel", "isIn", "(II)Z"⟩, 46), (⟨"ToastMapModel", "aPerson", "()Z"⟩, 46)]
theorem lw_r4 : ∀ q ∈ lw_privs_4, lw_okq q := List.forall_mem_cons.mpr ⟨lw_p48, List.forall_mem_cons.mpr ⟨lw_p49, List.forall_mem_cons.mpr ⟨lw_p50, List.forall_mem_cons.mpr ⟨lw_p51, List.forall_mem_cons.mpr ⟨lw_p52, List.forall_mem_cons.mpr ⟨lw_p53, List.forall_mem_cons.mpr ⟨lw_p54, List.forall_mem_cons.mpr ⟨lw_p55, List.forall_mem_cons.mpr ⟨lw_p56, List.forall_mem_cons.mpr ⟨lw_p57, List.forall_mem_cons.mpr ⟨lw_p58, List.forall_mem_cons.mpr ⟨lw_p59, List.forall_mem_cons.mpr ⟨lw_p60, List.forall_mem_cons.mpr ⟨lw_p61, List.forall_mem_cons.mpr ⟨lw_p62, List.forall_mem_cons.mpr ⟨lw_p63, fun _ h => absurd h List.not_mem_nil⟩⟩⟩⟩⟩⟩⟩⟩⟩⟩⟩⟩⟩⟩⟩⟩
theorem lw_p64 : lw_okq (⟨"ToastMapModel", "isName", "(Ljava/lang/String;)Z"⟩, 46) := ⟨⟨by decide +kernel, by decide +kernel⟩, List.mem_of_getElem? (i := 1330) (by decide +kernel), List.mem_of_getElem? (i := 1588) (by decide +kernel), List.mem_of_getElem? (i := 1589) (by decide +kernel)⟩
theorem lw_p65 : lw_okq (⟨"ToastMapModel", "findHere", "(II)I"⟩, 46) := ⟨⟨by decide +kernel, by decide +kernel⟩, List.mem_of_getElem? (i := 1330) (by decide +kernel), List.mem_of_getElem? (i := 1592) (by decide +kernel), List.mem_of_getElem? (i := 1593) (by decide +kernel)⟩
theorem lw_p66 : lw_okq (⟨"ToastMapModel", "nameHere", "()J"⟩, 46) := ⟨⟨by decide +kernel, by decide +kernel⟩, List.mem_of_getElem? (i := 1330) (by decide +kernel), List.mem_of_getElem? (i := 1596) (by decide +kernel), List.mem_of_getElem? (i := 1597) (by decide +kernel)⟩
theorem lw_p67 : lw_okq (⟨"ToastMapModel", "wantWord", "(Ljava/lang/String;I)Z"⟩, 46) := ⟨⟨by decide +kernel, by decide +kernel⟩, List.mem_of_getElem? (i := 1330) (by decide +kernel), List.mem_of_getElem? (i := 1600) (by decide +kernel), List.mem_of_getElem? (i := 1601) (by decide +kernel)⟩
theorem lw_p68 : lw_okq (⟨"ToastMapModel", "number", "(III)Z"⟩, 46) := ⟨⟨by decide +kernel, by decide +kernel⟩, List.mem_of_getElem? (i := 1330) (by decide +kernel), List.mem_of_getElem? (i := 1604) (by decide +kernel), List.mem_of_getElem? (i := 1605) (by decide +kernel)⟩
theorem lw_p69 : lw_okq (⟨"ToastMapModel", "perhaps", "(IIIII)Z"⟩, 46) := ⟨⟨by decide +kernel, by decide +kernel⟩, List.mem_of_getElem? (i := 1330) (by decide +kernel), List.mem_of_getElem? (i := 1608) (by decide +kernel), List.mem_of_getElem? (i := 1609) (by decide +kernel)⟩
theorem lw_p70 : lw_okq (⟨"ToastMapModel", "isThere", "(I)Z"⟩, 46) := ⟨⟨by decide +kernel, by decide +kernel⟩, List.mem_of_getElem? (i := 1330) (by decide +kernel), List.mem_of_getElem? (i := 1612) (by decide +kernel), List.mem_of_getElem? (i := 1613) (by decide +kernel)⟩
theorem lw_p71 : lw_okq (⟨"ToastMapModel", "wantSign", "(I)Z"⟩, 46) := ⟨⟨by decide +kernel, by decide +kernel⟩, List.mem_of_getElem? (i := 1330) (by decide +kernel), List.mem_of_getElem? (i := 1616) (by decide +kernel), List.mem_of_getElem? (i := 1617) (by decide +kernel)⟩
theorem lw_p72 : lw_okq (⟨"ToastMapModel", "isSign", "(I)Z"⟩, 46) := ⟨⟨by decide +kernel, by decide +kernel⟩, List.mem_of_getElem? (i := 1330) (by decide +kernel), List.mem_of_getElem? (i := 1620) (by decide +kernel), List.mem_of_getElem? (i := 1621) (by decide +kernel)⟩
theorem lw_p73 : lw_okq (⟨"ToastMapModel", "aToast", "()Z"⟩, 46) := ⟨⟨by decide +kernel, by decide +kernel⟩, List.mem_of_getElem? (i := 1330) (by decide +kernel), List.mem_of_getElem? (i := 1624) (by decide +kernel), List.mem_of_getElem? (i := 1625) (by decide +kernel)⟩
theorem lw_p74 : lw_okq (⟨"ToastMapModel", "taken", "(I)I"⟩, 46) := ⟨⟨by decide +kernel, by decide +kernel⟩, List.mem_of_getElem? (i := 1330) (by decide +kernel), List.mem_of_getElem? (i := 1634) (by decide +kernel), List.mem_of_getElem? (i := 1635) (by decide +kernel)⟩
theorem lw_p75 : lw_okq (⟨"ToastMapModel", "gives", "(I)I"⟩, 46) := ⟨⟨by decide +kernel, by decide +kernel⟩, List.mem_of_getElem? (i := 1330) (by decide +kernel), List.mem_of_getElem? (i := 1638) (by decide +kernel), List.mem_of_getElem? (i := 1639) (by decide +kernel)⟩
theorem lw_p76 : lw_okq (⟨"ToastMapModel", "timeStep", "()Z"⟩, 46) := ⟨⟨by decide +kernel, by decide +kernel⟩, List.mem_of_getElem? (i := 1330) (by decide +kernel), List.mem_of_getElem? (i := 1646) (by decide +kernel), List.mem_of_getElem? (i := 1647) (by decide +kernel)⟩
theorem lw_p77 : lw_okq (⟨"ToastMapModel", "timeOrder", "(II)Z"⟩, 46) := ⟨⟨by decide +kernel, by decide +kernel⟩, List.mem_of_getElem? (i := 1330) (by decide +kernel), List.mem_of_getElem? (i := 1650) (by decide +kernel), List.mem_of_getElem? (i := 1651) (by decide +kernel)⟩
theorem lw_p78 : lw_okq (⟨"ToastMapModel", "personTo", "(I)Z"⟩, 46) := ⟨⟨by decide +kernel, by decide +kernel⟩, List.mem_of_getElem? (i := 1330) (by decide +kernel), List.mem_of_getElem? (i := 1654) (by decide +kernel), List.mem_of_getElem? (i := 1655) (by decide +kernel)⟩
theorem lw_p79 : lw_okq (⟨"ToastMapModel", "test", "(I)Z"⟩, 46) := ⟨⟨by decide +kernel, by decide +kernel⟩, List.mem_of_getElem? (i := 1330) (by decide +kernel), List.mem_of_getElem? (i := 1658) (by decide +kernel), List.mem_of_getElem? (i := 1659) (by decide +kernel)⟩
def lw_privs_5 : List (MethodName × Nat) := [(⟨"ToastMapModel", "isName", "(Ljava/lang/String;)Z"⟩, 46), (⟨"ToastMapModel", "findHere", "(II)I"⟩, 46), (⟨"ToastMapModel", "nameHere", "()J"⟩, 46), (⟨"ToastMapModel", "wantWord", "(Ljava/lang/String;I)Z"⟩, 46), (⟨"ToastMapModel", "number", "(III)Z"⟩, 46), (⟨"ToastMapModel", "perhaps", "(IIIII)Z"⟩, 46), (⟨"ToastMapModel", "isThere", "(I)Z"⟩, 46), (⟨"ToastMapModel", "wantSign", "(I)Z"⟩, 46), (⟨"ToastMapModel", "isSign", "(I)Z"⟩, 46), (⟨"ToastMapModel", "aToast", "()Z"⟩, 46), (⟨"ToastMapModel", "taken", "(I)I"⟩, 46), (⟨"ToastMapModel", "gives", "(I)I"⟩, 46), (⟨"ToastMapModel", "timeStep", "()Z"⟩, 46), (⟨"ToastMapModel", "timeOrder", "(II)Z"⟩, 46), (⟨"ToastMapModel", "personTo", "(I)Z"⟩, 46), (⟨"ToastMapModel", "test", "(I)Z"⟩, 46)]
theorem lw_r5 : ∀ q ∈ lw_privs_5, lw_okq q := List.forall_mem_cons.mpr ⟨lw_p64, List.forall_mem_cons.mpr ⟨lw_p65, List.forall_mem_cons.mpr ⟨lw_p66, List.forall_mem_cons.mpr ⟨lw_p67, List.forall_mem_cons.mpr ⟨lw_p68, List.forall_mem_cons.mpr ⟨lw_p69, List.forall_mem_cons.mpr ⟨lw_p70, List.forall_mem_cons.mpr ⟨lw_p71, List.forall_mem_cons.mpr ⟨lw_p72, List.forall_mem_cons.mpr ⟨lw_p73, List.forall_mem_cons.mpr ⟨lw_p74, List.forall_mem_cons.mpr ⟨lw_p75, List.forall_mem_cons.mpr ⟨lw_p76, List.forall_mem_cons.mpr ⟨lw_p77, List.forall_mem_cons.mpr ⟨lw_p78, List.forall_mem_cons.mpr ⟨lw_p79, fun _ h => absurd h List.not_mem_nil⟩⟩⟩⟩⟩⟩⟩⟩⟩⟩⟩⟩⟩⟩⟩⟩
theorem lw_p80 : lw_okq (⟨"ToastMapModel", "areLit", "()I"⟩, 46) := ⟨⟨by decide +kernel, by decide +kernel⟩, List.mem_of_getElem? (i := 1330) (by decide +kernel), List.mem_of_getElem? (i := 1666) (by decide +kernel), List.mem_of_getElem? (i := 1667) (by decide +kernel)⟩
theorem lw_p81 : lw_okq (⟨"ToastMapModel", "isLit", "(I)Z"⟩, 46) := ⟨⟨by decide +kernel, by decide +kernel⟩, List.mem_of_getElem? (i := 1330) (by decide +kernel), List.mem_of_getElem? (i := 1670) (by decide +kernel), List.mem_of_getElem? (i := 1671) (by decide +kernel)⟩
theorem lw_p82 : lw_okq (⟨"ToastMapModel", "personOf", "(II)I"⟩, 46) := ⟨⟨by decide +kernel, by decide +kernel⟩, List.mem_of_getElem? (i := 1330) (by decide +kernel), List.mem_of_getElem? (i := 1674) (by decide +kernel), List.mem_of_getElem? (i := 1675) (by decide +kernel)⟩
theorem lw_p83 : lw_okq (⟨"ToastMapModel", "haveWhom", "()I"⟩, 46) := ⟨⟨by decide +kernel, by decide +kernel⟩, List.mem_of_getElem? (i := 1330) (by decide +kernel), List.mem_of_getElem? (i := 1678) (by decide +kernel), List.mem_of_getElem? (i := 1679) (by decide +kernel)⟩
theorem lw_p84 : lw_okq (⟨"ToastMapModel", "whomOf", "(I)I"⟩, 46) := ⟨⟨by decide +kernel, by decide +kernel⟩, List.mem_of_getElem? (i := 1330) (by decide +kernel), List.mem_of_getElem? (i := 1682) (by decide +kernel), List.mem_of_getElem? (i := 1683) (by decide +kernel)⟩
theorem lw_p85 : lw_okq (⟨"ToastMapModel", "together", "(I)I"⟩, 46) := ⟨⟨by decide +kernel, by decide +kernel⟩, List.mem_of_getElem? (i := 1330) (by decide +kernel), List.mem_of_getElem? (i := 1686) (by decide +kernel), List.mem_of_getElem? (i := 1687) (by decide +kernel)⟩
theorem lw_p86 : lw_okq (⟨"ToastMapModel", "isPerson", "(I)Z"⟩, 46) := ⟨⟨by decide +kernel, by decide +kernel⟩, List.mem_of_getElem? (i := 1330) (by decide +kernel), List.mem_of_getElem? (i := 1694) (by decide +kernel), List.mem_of_getElem? (i := 1695) (by decide +kernel)⟩
theorem lw_p87 : lw_okq (⟨"ToastMapModel", "warmersOf", "(I)I"⟩, 46) := ⟨⟨by decide +kernel, by decide +kernel⟩, List.mem_of_getElem? (i := 1330) (by decide +kernel), List.mem_of_getElem? (i := 1698) (by decide +kernel), List.mem_of_getElem? (i := 1699) (by decide +kernel)⟩
theorem lw_p88 : lw_okq (⟨"ToastMapModel", "warmOf", "(I)I"⟩, 46) := ⟨⟨by decide +kernel, by decide +kernel⟩, List.mem_of_getElem? (i := 1330) (by decide +kernel), List.mem_of_getElem? (i := 1702) (by decide +kernel), List.mem_of_getElem? (i := 1703) (by decide +kernel)⟩
theorem lw_p89 : lw_okq (⟨"ToastMapModel", "farBetween", "(II)I"⟩, 46) := ⟨⟨by decide +kernel, by decide +kernel⟩, List.mem_of_getElem? (i := 1330) (by decide +kernel), List.mem_of_getElem? (i := 1706) (by decide +kernel), List.mem_of_getElem? (i := 1707) (by decide +kernel)⟩
theorem lw_p90 : lw_okq (⟨"ToastMapModel", "drinks", "(I)Z"⟩, 46) := ⟨⟨by decide +kernel, by decide +kernel⟩, List.mem_of_getElem? (i := 1330) (by decide +kernel), List.mem_of_getElem? (i := 1722) (by decide +kernel), List.mem_of_getElem? (i := 1723) (by decide +kernel)⟩
theorem lw_p91 : lw_okq (⟨"ToastMapModel", "warms", "(II)V"⟩, 46) := ⟨⟨by decide +kernel, by decide +kernel⟩, List.mem_of_getElem? (i := 1330) (by decide +kernel), List.mem_of_getElem? (i := 1726) (by decide +kernel), List.mem_of_getElem? (i := 1727) (by decide +kernel)⟩
theorem lw_p92 : lw_okq (⟨"ToastMapModel", "nightsGo", "(I)V"⟩, 46) := ⟨⟨by decide +kernel, by decide +kernel⟩, List.mem_of_getElem? (i := 1330) (by decide +kernel), List.mem_of_getElem? (i := 1738) (by decide +kernel), List.mem_of_getElem? (i := 1739) (by decide +kernel)⟩
theorem lw_p93 : lw_okq (⟨"ToastMapModel", "nightGoes", "()V"⟩, 46) := ⟨⟨by decide +kernel, by decide +kernel⟩, List.mem_of_getElem? (i := 1330) (by decide +kernel), List.mem_of_getElem? (i := 1742) (by decide +kernel), List.mem_of_getElem? (i := 1743) (by decide +kernel)⟩
theorem lw_p94 : lw_okq (⟨"ToastMapModel", "cools", "(I)V"⟩, 46) := ⟨⟨by decide +kernel, by decide +kernel⟩, List.mem_of_getElem? (i := 1330) (by decide +kernel), List.mem_of_getElem? (i := 1746) (by decide +kernel), List.mem_of_getElem? (i := 1747) (by decide +kernel)⟩
theorem lw_p95 : lw_okq (⟨"ToastMapModel", "eveningGoes", "(I)I"⟩, 46) := ⟨⟨by decide +kernel, by decide +kernel⟩, List.mem_of_getElem? (i := 1330) (by decide +kernel), List.mem_of_getElem? (i := 1754) (by decide +kernel), List.mem_of_getElem? (i := 1755) (by decide +kernel)⟩
def lw_privs_6 : List (MethodName × Nat) := [(⟨"ToastMapModel", "areLit", "()I"⟩, 46), (⟨"ToastMapModel", "isLit", "(I)Z"⟩, 46), (⟨"ToastMapModel", "personOf", "(II)I"⟩, 46), (⟨"ToastMapModel", "haveWhom", "()I"⟩, 46), (⟨"ToastMapModel", "whomOf", "(I)I"⟩, 46), (⟨"ToastMapModel", "together", "(I)I"⟩, 46), (⟨"ToastMapModel", "isPerson", "(I)Z"⟩, 46), (⟨"ToastMapModel", "warmersOf", "(I)I"⟩, 46), (⟨"ToastMapModel", "warmOf", "(I)I"⟩, 46), (⟨"ToastMapModel", "farBetween", "(II)I"⟩, 46), (⟨"ToastMapModel", "drinks", "(I)Z"⟩, 46), (⟨"ToastMapModel", "warms", "(II)V"⟩, 46), (⟨"ToastMapModel", "nightsGo", "(I)V"⟩, 46), (⟨"ToastMapModel", "nightGoes", "()V"⟩, 46), (⟨"ToastMapModel", "cools", "(I)V"⟩, 46), (⟨"ToastMapModel", "eveningGoes", "(I)I"⟩, 46)]
theorem lw_r6 : ∀ q ∈ lw_privs_6, lw_okq q := List.forall_mem_cons.mpr ⟨lw_p80, List.forall_mem_cons.mpr ⟨lw_p81, List.forall_mem_cons.mpr ⟨lw_p82, List.forall_mem_cons.mpr ⟨lw_p83, List.forall_mem_cons.mpr ⟨lw_p84, List.forall_mem_cons.mpr ⟨lw_p85, List.forall_mem_cons.mpr ⟨lw_p86, List.forall_mem_cons.mpr ⟨lw_p87, List.forall_mem_cons.mpr ⟨lw_p88, List.forall_mem_cons.mpr ⟨lw_p89, List.forall_mem_cons.mpr ⟨lw_p90, List.forall_mem_cons.mpr ⟨lw_p91, List.forall_mem_cons.mpr ⟨lw_p92, List.forall_mem_cons.mpr ⟨lw_p93, List.forall_mem_cons.mpr ⟨lw_p94, List.forall_mem_cons.mpr ⟨lw_p95, fun _ h => absurd h List.not_mem_nil⟩⟩⟩⟩⟩⟩⟩⟩⟩⟩⟩⟩⟩⟩⟩⟩
theorem lw_p96 : lw_okq (⟨"ToastMapModel", "fills", "(II)Z"⟩, 46) := ⟨⟨by decide +kernel, by decide +kernel⟩, List.mem_of_getElem? (i := 1330) (by decide +kernel), List.mem_of_getElem? (i := 1763) (by decide +kernel), List.mem_of_getElem? (i := 1764) (by decide +kernel)⟩
theorem lw_p97 : lw_okq (⟨"ToastMapModel", "areTwo", "(II)Z"⟩, 46) := ⟨⟨by decide +kernel, by decide +kernel⟩, List.mem_of_getElem? (i := 1330) (by decide +kernel), List.mem_of_getElem? (i := 1780) (by decide +kernel), List.mem_of_getElem? (i := 1781) (by decide +kernel)⟩
theorem lw_p98 : lw_okq (⟨"ToastMapModel", "cooled", "(II)I"⟩, 46) := ⟨⟨by decide +kernel, by decide +kernel⟩, List.mem_of_getElem? (i := 1330) (by decide +kernel), List.mem_of_getElem? (i := 1797) (by decide +kernel), List.mem_of_getElem? (i := 1798) (by decide +kernel)⟩
theorem lw_p99 : lw_okq (⟨"ToastMapModel", "keeps", "(I)V"⟩, 46) := ⟨⟨by decide +kernel, by decide +kernel⟩, List.mem_of_getElem? (i := 1330) (by decide +kernel), List.mem_of_getElem? (i := 1809) (by decide +kernel), List.mem_of_getElem? (i := 1810) (by decide +kernel)⟩
theorem lw_p100 : lw_okq (⟨"ToastMapModel", "eveningsGo", "(I)V"⟩, 46) := ⟨⟨by decide +kernel, by decide +kernel⟩, List.mem_of_getElem? (i := 1330) (by decide +kernel), List.mem_of_getElem? (i := 1813) (by decide +kernel), List.mem_of_getElem? (i := 1814) (by decide +kernel)⟩
theorem lw_p101 : lw_okq (⟨"ToastMapModel", "restores", "(I)V"⟩, 46) := ⟨⟨by decide +kernel, by decide +kernel⟩, List.mem_of_getElem? (i := 1330) (by decide +kernel), List.mem_of_getElem? (i := 1817) (by decide +kernel), List.mem_of_getElem? (i := 1818) (by decide +kernel)⟩
theorem lw_p102 : lw_okq (⟨"ToastMapModel", "laysSettled", "()Z"⟩, 46) := ⟨⟨by decide +kernel, by decide +kernel⟩, List.mem_of_getElem? (i := 1330) (by decide +kernel), List.mem_of_getElem? (i := 1829) (by decide +kernel), List.mem_of_getElem? (i := 1830) (by decide +kernel)⟩
theorem lw_p103 : lw_okq (⟨"ToastMapModel", "isAlike", "(II)Z"⟩, 46) := ⟨⟨by decide +kernel, by decide +kernel⟩, List.mem_of_getElem? (i := 1330) (by decide +kernel), List.mem_of_getElem? (i := 1833) (by decide +kernel), List.mem_of_getElem? (i := 1834) (by decide +kernel)⟩
theorem lw_p104 : lw_okq (⟨"ToastMapModel", "laysChain", "(I)V"⟩, 46) := ⟨⟨by decide +kernel, by decide +kernel⟩, List.mem_of_getElem? (i := 1330) (by decide +kernel), List.mem_of_getElem? (i := 1845) (by decide +kernel), List.mem_of_getElem? (i := 1846) (by decide +kernel)⟩
theorem lw_p105 : lw_okq (⟨"ToastMapModel", "ringOf", "(I)I"⟩, 46) := ⟨⟨by decide +kernel, by decide +kernel⟩, List.mem_of_getElem? (i := 1330) (by decide +kernel), List.mem_of_getElem? (i := 1857) (by decide +kernel), List.mem_of_getElem? (i := 1858) (by decide +kernel)⟩
theorem lw_p106 : lw_okq (⟨"ToastMapModel", "needsOf", "(I)I"⟩, 46) := ⟨⟨by decide +kernel, by decide +kernel⟩, List.mem_of_getElem? (i := 1330) (by decide +kernel), List.mem_of_getElem? (i := 1869) (by decide +kernel), List.mem_of_getElem? (i := 1870) (by decide +kernel)⟩
theorem lw_p107 : lw_okq (⟨"ToastMapModel", "mostOfAll", "(I)I"⟩, 46) := ⟨⟨by decide +kernel, by decide +kernel⟩, List.mem_of_getElem? (i := 1330) (by decide +kernel), List.mem_of_getElem? (i := 1879) (by decide +kernel), List.mem_of_getElem? (i := 1880) (by decide +kernel)⟩
theorem lw_p108 : lw_okq (⟨"ToastMapModel", "litBehind", "(I)I"⟩, 46) := ⟨⟨by decide +kernel, by decide +kernel⟩, List.mem_of_getElem? (i := 1330) (by decide +kernel), List.mem_of_getElem? (i := 1894) (by decide +kernel), List.mem_of_getElem? (i := 1895) (by decide +kernel)⟩
theorem lw_p109 : lw_okq (⟨"ToastMapModel", "wrongSeen", "(II)I"⟩, 46) := ⟨⟨by decide +kernel, by decide +kernel⟩, List.mem_of_getElem? (i := 1330) (by decide +kernel), List.mem_of_getElem? (i := 1902) (by decide +kernel), List.mem_of_getElem? (i := 1903) (by decide +kernel)⟩
theorem lw_p110 : lw_okq (⟨"ToastMapModel", "laysWays", "(II)V"⟩, 46) := ⟨⟨by decide +kernel, by decide +kernel⟩, List.mem_of_getElem? (i := 1330) (by decide +kernel), List.mem_of_getElem? (i := 1907) (by decide +kernel), List.mem_of_getElem? (i := 1908) (by decide +kernel)⟩
theorem lw_p111 : lw_okq (⟨"ToastMapModel", "isWay", "(II)Z"⟩, 46) := ⟨⟨by decide +kernel, by decide +kernel⟩, List.mem_of_getElem? (i := 1330) (by decide +kernel), List.mem_of_getElem? (i := 1911) (by decide +kernel), List.mem_of_getElem? (i := 1912) (by decide +kernel)⟩
def lw_privs_7 : List (MethodName × Nat) := [(⟨"ToastMapModel", "fills", "(II)Z"⟩, 46), (⟨"ToastMapModel", "areTwo", "(II)Z"⟩, 46), (⟨"ToastMapModel", "cooled", "(II)I"⟩, 46), (⟨"ToastMapModel", "keeps", "(I)V"⟩, 46), (⟨"ToastMapModel", "eveningsGo", "(I)V"⟩, 46), (⟨"ToastMapModel", "restores", "(I)V"⟩, 46), (⟨"ToastMapModel", "laysSettled", "()Z"⟩, 46), (⟨"ToastMapModel", "isAlike", "(II)Z"⟩, 46), (⟨"ToastMapModel", "laysChain", "(I)V"⟩, 46), (⟨"ToastMapModel", "ringOf", "(I)I"⟩, 46), (⟨"ToastMapModel", "needsOf", "(I)I"⟩, 46), (⟨"ToastMapModel", "mostOfAll", "(I)I"⟩, 46), (⟨"ToastMapModel", "litBehind", "(I)I"⟩, 46), (⟨"ToastMapModel", "wrongSeen", "(II)I"⟩, 46), (⟨"ToastMapModel", "laysWays", "(II)V"⟩, 46), (⟨"ToastMapModel", "isWay", "(II)Z"⟩, 46)]
theorem lw_r7 : ∀ q ∈ lw_privs_7, lw_okq q := List.forall_mem_cons.mpr ⟨lw_p96, List.forall_mem_cons.mpr ⟨lw_p97, List.forall_mem_cons.mpr ⟨lw_p98, List.forall_mem_cons.mpr ⟨lw_p99, List.forall_mem_cons.mpr ⟨lw_p100, List.forall_mem_cons.mpr ⟨lw_p101, List.forall_mem_cons.mpr ⟨lw_p102, List.forall_mem_cons.mpr ⟨lw_p103, List.forall_mem_cons.mpr ⟨lw_p104, List.forall_mem_cons.mpr ⟨lw_p105, List.forall_mem_cons.mpr ⟨lw_p106, List.forall_mem_cons.mpr ⟨lw_p107, List.forall_mem_cons.mpr ⟨lw_p108, List.forall_mem_cons.mpr ⟨lw_p109, List.forall_mem_cons.mpr ⟨lw_p110, List.forall_mem_cons.mpr ⟨lw_p111, fun _ h => absurd h List.not_mem_nil⟩⟩⟩⟩⟩⟩⟩⟩⟩⟩⟩⟩⟩⟩⟩⟩
theorem lw_p112 : lw_okq (⟨"ToastMapModel", "mayHave", "(II)Z"⟩, 46) := ⟨⟨by decide +kernel, by decide +kernel⟩, List.mem_of_getElem? (i := 1330) (by decide +kernel), List.mem_of_getElem? (i := 1915) (by decide +kernel), List.mem_of_getElem? (i := 1916) (by decide +kernel)⟩
theorem lw_p113 : lw_okq (⟨"ToastMapModel", "counts", "()V"⟩, 46) := ⟨⟨by decide +kernel, by decide +kernel⟩, List.mem_of_getElem? (i := 1330) (by decide +kernel), List.mem_of_getElem? (i := 1919) (by decide +kernel), List.mem_of_getElem? (i := 1920) (by decide +kernel)⟩
theorem lw_p114 : lw_okq (⟨"ToastMapModel", "tellsBy", "(JJ)Z"⟩, 46) := ⟨⟨by decide +kernel, by decide +kernel⟩, List.mem_of_getElem? (i := 1330) (by decide +kernel), List.mem_of_getElem? (i := 1931) (by decide +kernel), List.mem_of_getElem? (i := 1932) (by decide +kernel)⟩
theorem lw_p115 : lw_okq (⟨"ToastMapModel", "mostAlike", "(I)I"⟩, 46) := ⟨⟨by decide +kernel, by decide +kernel⟩, List.mem_of_getElem? (i := 1330) (by decide +kernel), List.mem_of_getElem? (i := 1939) (by decide +kernel), List.mem_of_getElem? (i := 1940) (by decide +kernel)⟩
theorem lw_p116 : lw_okq (⟨"ToastMapModel", "wrongLaw", "(II)I"⟩, 46) := ⟨⟨by decide +kernel, by decide +kernel⟩, List.mem_of_getElem? (i := 1330) (by decide +kernel), List.mem_of_getElem? (i := 1947) (by decide +kernel), List.mem_of_getElem? (i := 1948) (by decide +kernel)⟩
theorem lw_p117 : lw_okq (⟨"ToastMapModel", "isLaw", "(III)Z"⟩, 46) := ⟨⟨by decide +kernel, by decide +kernel⟩, List.mem_of_getElem? (i := 1330) (by decide +kernel), List.mem_of_getElem? (i := 1953) (by decide +kernel), List.mem_of_getElem? (i := 1954) (by decide +kernel)⟩
theorem lw_p118 : lw_okq (⟨"ToastMapModel", "errorOf", "(III)J"⟩, 46) := ⟨⟨by decide +kernel, by decide +kernel⟩, List.mem_of_getElem? (i := 1330) (by decide +kernel), List.mem_of_getElem? (i := 1967) (by decide +kernel), List.mem_of_getElem? (i := 1968) (by decide +kernel)⟩
theorem lw_p119 : lw_okq (⟨"ToastMapModel", "atLeast", "(III)J"⟩, 46) := ⟨⟨by decide +kernel, by decide +kernel⟩, List.mem_of_getElem? (i := 1330) (by decide +kernel), List.mem_of_getElem? (i := 1975) (by decide +kernel), List.mem_of_getElem? (i := 1976) (by decide +kernel)⟩
theorem lw_p120 : lw_okq (⟨"ToastMapModel", "playing", "(I)I"⟩, 46) := ⟨⟨by decide +kernel, by decide +kernel⟩, List.mem_of_getElem? (i := 1330) (by decide +kernel), List.mem_of_getElem? (i := 1988) (by decide +kernel), List.mem_of_getElem? (i := 1989) (by decide +kernel)⟩
theorem lw_p121 : lw_okq (⟨"ToastMapModel", "beginsAt", "(I)V"⟩, 46) := ⟨⟨by decide +kernel, by decide +kernel⟩, List.mem_of_getElem? (i := 1330) (by decide +kernel), List.mem_of_getElem? (i := 1992) (by decide +kernel), List.mem_of_getElem? (i := 1993) (by decide +kernel)⟩
theorem lw_p122 : lw_okq (⟨"ToastMapModel", "settlesAt", "(II)V"⟩, 46) := ⟨⟨by decide +kernel, by decide +kernel⟩, List.mem_of_getElem? (i := 1330) (by decide +kernel), List.mem_of_getElem? (i := 1999) (by decide +kernel), List.mem_of_getElem? (i := 2000) (by decide +kernel)⟩
theorem lw_p123 : lw_okq (⟨"ToastMapModel", "lives", "(I)V"⟩, 46) := ⟨⟨by decide +kernel, by decide +kernel⟩, List.mem_of_getElem? (i := 1330) (by decide +kernel), List.mem_of_getElem? (i := 2020) (by decide +kernel), List.mem_of_getElem? (i := 2021) (by decide +kernel)⟩
theorem lw_p124 : lw_okq (⟨"ToastMapModel", "does", "(I)Z"⟩, 46) := ⟨⟨by decide +kernel, by decide +kernel⟩, List.mem_of_getElem? (i := 1330) (by decide +kernel), List.mem_of_getElem? (i := 2024) (by decide +kernel), List.mem_of_getElem? (i := 2025) (by decide +kernel)⟩
theorem lw_p125 : lw_okq (⟨"ToastMapModel", "drinksBy", "(I)Z"⟩, 46) := ⟨⟨by decide +kernel, by decide +kernel⟩, List.mem_of_getElem? (i := 1330) (by decide +kernel), List.mem_of_getElem? (i := 2028) (by decide +kernel), List.mem_of_getElem? (i := 2029) (by decide +kernel)⟩
theorem lw_p126 : lw_okq (⟨"ToastMapModel", "nightsBy", "(I)Z"⟩, 46) := ⟨⟨by decide +kernel, by decide +kernel⟩, List.mem_of_getElem? (i := 1330) (by decide +kernel), List.mem_of_getElem? (i := 2032) (by decide +kernel), List.mem_of_getElem? (i := 2033) (by decide +kernel)⟩
theorem lw_p127 : lw_okq (⟨"ToastMapModel", "eveningsBy", "()Z"⟩, 46) := ⟨⟨by decide +kernel, by decide +kernel⟩, List.mem_of_getElem? (i := 1330) (by decide +kernel), List.mem_of_getElem? (i := 2036) (by decide +kernel), List.mem_of_getElem? (i := 2037) (by decide +kernel)⟩
def lw_privs_8 : List (MethodName × Nat) := [(⟨"ToastMapModel", "mayHave", "(II)Z"⟩, 46), (⟨"ToastMapModel", "counts", "()V"⟩, 46), (⟨"ToastMapModel", "tellsBy", "(JJ)Z"⟩, 46), (⟨"ToastMapModel", "mostAlike", "(I)I"⟩, 46), (⟨"ToastMapModel", "wrongLaw", "(II)I"⟩, 46), (⟨"ToastMapModel", "isLaw", "(III)Z"⟩, 46), (⟨"ToastMapModel", "errorOf", "(III)J"⟩, 46), (⟨"ToastMapModel", "atLeast", "(III)J"⟩, 46), (⟨"ToastMapModel", "playing", "(I)I"⟩, 46), (⟨"ToastMapModel", "beginsAt", "(I)V"⟩, 46), (⟨"ToastMapModel", "settlesAt", "(II)V"⟩, 46), (⟨"ToastMapModel", "lives", "(I)V"⟩, 46), (⟨"ToastMapModel", "does", "(I)Z"⟩, 46), (⟨"ToastMapModel", "drinksBy", "(I)Z"⟩, 46), (⟨"ToastMapModel", "nightsBy", "(I)Z"⟩, 46), (⟨"ToastMapModel", "eveningsBy", "()Z"⟩, 46)]
theorem lw_r8 : ∀ q ∈ lw_privs_8, lw_okq q := List.forall_mem_cons.mpr ⟨lw_p112, List.forall_mem_cons.mpr ⟨lw_p113, List.forall_mem_cons.mpr ⟨lw_p114, List.forall_mem_cons.mpr ⟨lw_p115, List.forall_mem_cons.mpr ⟨lw_p116, List.forall_mem_cons.mpr ⟨lw_p117, List.forall_mem_cons.mpr ⟨lw_p118, List.forall_mem_cons.mpr ⟨lw_p119, List.forall_mem_cons.mpr ⟨lw_p120, List.forall_mem_cons.mpr ⟨lw_p121, List.forall_mem_cons.mpr ⟨lw_p122, List.forall_mem_cons.mpr ⟨lw_p123, List.forall_mem_cons.mpr ⟨lw_p124, List.forall_mem_cons.mpr ⟨lw_p125, List.forall_mem_cons.mpr ⟨lw_p126, List.forall_mem_cons.mpr ⟨lw_p127, fun _ h => absurd h List.not_mem_nil⟩⟩⟩⟩⟩⟩⟩⟩⟩⟩⟩⟩⟩⟩⟩⟩
theorem lw_p128 : lw_okq (⟨"ToastMapModel", "doesAny", "()Z"⟩, 46) := ⟨⟨by decide +kernel, by decide +kernel⟩, List.mem_of_getElem? (i := 1330) (by decide +kernel), List.mem_of_getElem? (i := 2040) (by decide +kernel), List.mem_of_getElem? (i := 2041) (by decide +kernel)⟩
theorem lw_p129 : lw_okq (⟨"ToastMapModel", "draw", "(I)I"⟩, 46) := ⟨⟨by decide +kernel, by decide +kernel⟩, List.mem_of_getElem? (i := 1330) (by decide +kernel), List.mem_of_getElem? (i := 2044) (by decide +kernel), List.mem_of_getElem? (i := 2045) (by decide +kernel)⟩
theorem lw_p130 : lw_okq (⟨"ToastMapModel", "holds", "(I)Z"⟩, 46) := ⟨⟨by decide +kernel, by decide +kernel⟩, List.mem_of_getElem? (i := 1330) (by decide +kernel), List.mem_of_getElem? (i := 2049) (by decide +kernel), List.mem_of_getElem? (i := 2050) (by decide +kernel)⟩
theorem lw_p131 : lw_okq (⟨"ToastMapModel", "behindEnds", "(I)I"⟩, 46) := ⟨⟨by decide +kernel, by decide +kernel⟩, List.mem_of_getElem? (i := 1330) (by decide +kernel), List.mem_of_getElem? (i := 2053) (by decide +kernel), List.mem_of_getElem? (i := 2054) (by decide +kernel)⟩
theorem lw_p132 : lw_okq (⟨"ToastMapModel", "copies", "(II)V"⟩, 46) := ⟨⟨by decide +kernel, by decide +kernel⟩, List.mem_of_getElem? (i := 1330) (by decide +kernel), List.mem_of_getElem? (i := 2069) (by decide +kernel), List.mem_of_getElem? (i := 2070) (by decide +kernel)⟩
def lw_privs_9 : List (MethodName × Nat) := [(⟨"ToastMapModel", "doesAny", "()Z"⟩, 46), (⟨"ToastMapModel", "draw", "(I)I"⟩, 46), (⟨"ToastMapModel", "holds", "(I)Z"⟩, 46), (⟨"ToastMapModel", "behindEnds", "(I)I"⟩, 46), (⟨"ToastMapModel", "copies", "(II)V"⟩, 46)]
theorem lw_r9 : ∀ q ∈ lw_privs_9, lw_okq q := List.forall_mem_cons.mpr ⟨lw_p128, List.forall_mem_cons.mpr ⟨lw_p129, List.forall_mem_cons.mpr ⟨lw_p130, List.forall_mem_cons.mpr ⟨lw_p131, List.forall_mem_cons.mpr ⟨lw_p132, fun _ h => absurd h List.not_mem_nil⟩⟩⟩⟩⟩
def lw_privs : List (MethodName × Nat) := lw_privs_1 ++ (lw_privs_2 ++ (lw_privs_3 ++ (lw_privs_4 ++ (lw_privs_5 ++ (lw_privs_6 ++ (lw_privs_7 ++ (lw_privs_8 ++ (lw_privs_9))))))))
def lw_tbl : List Cond := k2_sels lw_privs ++ tables_1
theorem lw_privs_ok : ∀ q ∈ lw_privs, lw_okq q := by
  show ∀ q ∈ lw_privs_1 ++ (lw_privs_2 ++ (lw_privs_3 ++ (lw_privs_4 ++ (lw_privs_5 ++ (lw_privs_6 ++ (lw_privs_7 ++ (lw_privs_8 ++ (lw_privs_9)))))))), lw_okq q
  exact List.forall_mem_append.mpr ⟨lw_r1, List.forall_mem_append.mpr ⟨lw_r2, List.forall_mem_append.mpr ⟨lw_r3, List.forall_mem_append.mpr ⟨lw_r4, List.forall_mem_append.mpr ⟨lw_r5, List.forall_mem_append.mpr ⟨lw_r6, List.forall_mem_append.mpr ⟨lw_r7, List.forall_mem_append.mpr ⟨lw_r8, lw_r9⟩⟩⟩⟩⟩⟩⟩⟩

def sm_AOA (ty : FieldType) (U : State) : Prop := (Cond.arrayOver (.array ty)).before #[] U = true
theorem sm_AOA.use {ty : FieldType} {A : Array Value} {U : State} (h : sm_AOA ty U) : (Cond.arrayOver (.array ty)).before A U = true := h
/-! ===== BEGIN new T[n][m]: the outer array a place, the inner ones among the pooled ===== -/
/-- f, but v at every address of l -/
def vr_up {α : Type} (f : Nat → α) (l : List Nat) (v : α) : Nat → α := fun a => if a ∈ l then v else f a
theorem vr_up_in {α : Type} {f : Nat → α} {l : List Nat} {v : α} {a : Nat} (h : a ∈ l) : vr_up f l v a = v := if_pos h
theorem vr_up_ne {α : Type} {f : Nat → α} {l : List Nat} {v : α} {a : Nat} (h : a ∉ l) : vr_up f l v a = f a := if_neg h
theorem vr_rows {L l : List Nat} {f : Nat → va_E} {e : va_E} (h : ∀ a, a ∈ l → a ∉ L) : va_pl L f ++ l.map (fun a => (a, e)) = va_pl (L ++ l) (vr_up f l e) := by
  unfold va_pl
  rw [List.map_append]
  congr 1
  · apply List.map_congr_left
    intro a ha
    rw [vr_up_ne (fun q => h a q ha)]
  · apply List.map_congr_left
    intro a ha
    rw [vr_up_in ha]
theorem vr_lay {X rows : va_W} {x : Nat × va_E} {pl : va_W} {D : va_G} {cl : List vw_C} {H : Heap} (hP : va_P D cl (((X ++ pl) ++ [x]) ++ rows) H) : va_P D cl ((X ++ [x]) ++ (pl ++ rows)) H := by
  rw [List.append_assoc (X ++ pl)] at hP
  have h := va_P.swap hP
  rw [← List.append_assoc X] at h
  have h2 := va_P.swap h
  rw [List.append_assoc (X ++ [x])] at h2
  exact h2
theorem vr_layD {X rows : va_W} {x : Nat × va_E} {pl : va_W} {A : Nat → Prop} (hD : va_D A (((X ++ pl) ++ [x]) ++ rows)) : va_D A ((X ++ [x]) ++ (pl ++ rows)) := by
  rw [List.append_assoc (X ++ pl)] at hD
  have h := va_D.swap hD
  rw [← List.append_assoc X] at h
  have h2 := va_D.swap h
  rw [List.append_assoc (X ++ [x])] at h2
  exact h2
theorem vr_outer (c : ClassId) (N h0 : Nat) : ∀ i : Nat, Jvm.Free.Multi.outerC c N h0 i = arrV c N (fun j => va_rf (if j < i then some (h0 + 1 + j) else none))
  | 0 => by
    show ({ cls := c, slots := Array.replicate N .null, vm := .none } : Cell) = _
    rw [arrV_new]
    refine congrArg (arrV c N) (funext fun j => ?_)
    simp [va_rf]
  | i + 1 => by
    show (Jvm.Free.Multi.outerC c N h0 i).setSlot i (.ref (h0 + 1 + i)) = _
    rw [vr_outer c N h0 i, arrV_store]
    refine congrArg (arrV c N) (funext fun j => ?_)
    by_cases e : j = i
    · subst e
      simp [updV, va_rf]
    · by_cases h : j < i
      · simp [updV, e, h, Nat.lt_succ_of_lt h]
      · simp [updV, e, h, show ¬ j < i + 1 by omega]
section VGM
variable {p : Program} {l : Launch} {e : Env} {R : Room} {s : State} {m : MethodId} {args : Array Value} {below : List Frame} {meth : Method} {c : Code} {H : Heap} {locs : List Loc} {cells slots : Nat} {Q : State → Prop}
variable {cc : ByteArray} {pc : Nat} {ls : Array Slot} {rest : List Value} {D : va_G} {cl : List vw_C} {A : Nat → Prop} {a : Nat} {tys : List (ClassId × FieldType)} {ws : va_W} {H0 : Heap}
theorem va_mna {X : va_W} {L : List Nat} {f : Nat → va_E} {cc : ByteArray} (hexec : p.tables.exec = Jvm.exec) (hb : c.code = cc) {own : String} {index : Nat} {ty : FieldType} {cy : ClassId} (hown : s.vm.findClass own = some m.cls) (hclink : (Cond.classLink own index ("[" ++ (FieldType.array ty).toString)).before args s = true) (hover : sm_AOA ty s) (harr : (Cond.arrayClass ty).before args s = true) (hcy : s.vm.findClass (FieldType.array ty).toString = some cy)
    (hK : va_K D cl tys s) (hP : va_P D cl (X ++ va_pl L f) H) (hD : va_D A (X ++ va_pl L f)) (hS : va_S A H0 H locs) (hA : ∀ q, H0.size ≤ q → A q) {n k : Int32} {N' K' : Nat} {z : vp_A} (hn : ¬ n < 0) (hk : ¬ k < 0) (hN : n.toNatClampNeg = N') (hM : k.toNatClampNeg = K')
    (hb1 : N' * 4 ≤ 536870912) (hb2 : K' * componentBytes ty ≤ 536870912) (hb3 : K' ≤ 536870912) (hdf : fits ty (defaultValue ty) = true) (hdd : (defaultValue ty).isDefault = true) (hcells : cells + (1 + N') ≤ R.cells) (hslots : slots + (N' + N' * K') ≤ R.slots) (hz : ∀ c : ClassId, Jvm.Free.Multi.innerC c K' (defaultValue ty) = vp_cell c z) (hdg : decode cc pc = .ok (.multianewarray index 2, 4))
    (kk : ∀ (q : Nat) (r : Nat → Nat) (cA : ClassId) (H1 : Heap), (∀ i j : Nat, i < N' → j < N' → r i = r j → i = j) → (∀ i : Nat, i < N' → r i ∉ L) → va_K D cl (tys ++ [(cA, .array ty)]) s →
      va_P D cl ((X ++ [(q, .inl (cA, N', .inr (.inr (.inr (.inr (fun i => if i < N' then some (r i) else none))))))]) ++ va_pl (L ++ (List.range N').map r) (vr_up f ((List.range N').map r) (.inl (cy, z)))) H1 → va_D A ((X ++ [(q, .inl (cA, N', .inr (.inr (.inr (.inr (fun i => if i < N' then some (r i) else none))))))]) ++ va_pl (L ++ (List.range N').map r) (vr_up f ((List.range N').map r) (.inl (cy, z)))) → va_S A H0 H1 locs →
      W p l e R s m args below meth c H1 locs (cells + 1 + N') (slots + N' + N' * K') Q (F0 m (pc + 4) ls (.ref q :: rest))) : W p l e R s m args below meth c H locs cells slots Q (F0 m pc ls (.int k :: .int n :: rest)) := by
  subst hN
  subst hM
  intro T hT Xs
  obtain ⟨vm₁, cA, comp, -, fA, fC, hO, -, X', step⟩ := Xs.multianewarray2F hexec hown hclink (sm_AOA.use hover) harr (g := F0 m pc ls (.int k :: .int n :: rest)) rfl (by rw [hb]; exact hdg) rfl hn hk hb1 hb2 hb3 hdf hdd hcells hslots
  have ec : some cy = some comp := hcy.symm.trans fC
  cases ec
  generalize hF : Jvm.Free.Multi.fill (T.setVm vm₁) cA cy n.toNatClampNeg k.toNatClampNeg (defaultValue ty) n.toNatClampNeg = F at X' step
  have hTh : (T.setVm vm₁).heap = H := hT
  obtain ⟨f1, f2, -, -⟩ := Jvm.Free.Multi.fill_facts (T.setVm vm₁) cA cy n.toNatClampNeg k.toNatClampNeg (defaultValue ty) n.toNatClampNeg
  rw [hF, hTh] at f1 f2
  have hold : ∀ x : Nat, x < H.size → F.heap[x]? = H[x]? := fun x hx => by
    have := Jvm.Free.Multi.fill_old (T.setVm vm₁) cA cy n.toNatClampNeg k.toNatClampNeg (defaultValue ty) (a := x) (by rw [hTh]; exact hx) n.toNatClampNeg
    rw [hF, hTh] at this
    exact this
  have hrow : ∀ j : Nat, j < n.toNatClampNeg → F.heap[H.size + 1 + j]? = some (vp_cell cy z) := fun j hj => by
    have := Jvm.Free.Multi.fill_inner (T.setVm vm₁) cA cy n.toNatClampNeg k.toNatClampNeg (defaultValue ty) n.toNatClampNeg j hj
    rw [hF, hTh, hz] at this
    exact this
  have hout : Jvm.Free.Multi.outerC cA n.toNatClampNeg H.size n.toNatClampNeg = vp_cell cA (n.toNatClampNeg, .inr (.inr (.inr (.inr (fun i => if i < n.toNatClampNeg then some (H.size + 1 + i) else none))))) := by
    rw [vp_cell_q]
    exact vr_outer cA n.toNatClampNeg H.size n.toNatClampNeg
  rw [hout] at f2
  have hlt : ∀ a, a ∈ L → a < H.size := fun a ha => by
    obtain ⟨k9, hk9⟩ := va_pl_get (X := X) (f := f) ha
    exact (hP k9 _ hk9).lt
  have hnl : ∀ i : Nat, i < n.toNatClampNeg → H.size + 1 + i ∉ L := fun i _ h => by
    have := hlt _ h
    omega
  have hnm : ∀ a, a ∈ (List.range n.toNatClampNeg).map (fun i => H.size + 1 + i) → a ∉ L := fun a ha h => by
    obtain ⟨i, -, rfl⟩ := List.mem_map.mp ha
    have := hlt _ h
    omega
  have hP0 : va_P D cl (X ++ va_pl L f) F.heap := hP.kept (fun k9 x hx => hold x.1 ((hP k9 x hx).lt))
  have hP1 : va_P D cl ((X ++ va_pl L f) ++ [(H.size, .inl (cA, n.toNatClampNeg, .inr (.inr (.inr (.inr (fun i => if i < n.toNatClampNeg then some (H.size + 1 + i) else none))))))]) F.heap := hP0.app (fun k9 x hx => by
    have h0 : k9 < 1 := (List.getElem?_eq_some_iff.mp hx).1
    rw [show k9 = 0 by omega] at hx
    cases hx
    exact f2)
  have hP2 : va_P D cl (((X ++ va_pl L f) ++ [(H.size, .inl (cA, n.toNatClampNeg, .inr (.inr (.inr (.inr (fun i => if i < n.toNatClampNeg then some (H.size + 1 + i) else none))))))]) ++ ((List.range n.toNatClampNeg).map (fun i => H.size + 1 + i)).map (fun a => (a, .inl (cy, z)))) F.heap := hP1.app (fun k9 x hx => by
    obtain ⟨a, ha, rfl⟩ := List.mem_map.mp (List.mem_of_getElem? hx)
    obtain ⟨i, hi, rfl⟩ := List.mem_map.mp ha
    exact hrow i (List.mem_range.mp hi))
  have hD2 : va_D A (((X ++ va_pl L f) ++ [(H.size, .inl (cA, n.toNatClampNeg, .inr (.inr (.inr (.inr (fun i => if i < n.toNatClampNeg then some (H.size + 1 + i) else none))))))]) ++ ((List.range n.toNatClampNeg).map (fun i => H.size + 1 + i)).map (fun a => (a, .inl (cy, z)))) := by
    have hD1 := hD.push (e := .inl (cA, n.toNatClampNeg, .inr (.inr (.inr (.inr (fun i => if i < n.toNatClampNeg then some (H.size + 1 + i) else none)))))) hP rfl (hA _ hS.1)
    generalize hW1 : (X ++ va_pl L f) ++ [(H.size, .inl (cA, n.toNatClampNeg, .inr (.inr (.inr (.inr (fun i => if i < n.toNatClampNeg then some (H.size + 1 + i) else none))))))] = W1 at hD1 hP1 ⊢
    have hle : ∀ (k9 : Nat) (x : Nat × va_E), W1[k9]? = some x → x.1 ≤ H.size := fun k9 x hx => by
      rw [← hW1] at hx
      by_cases hl : k9 < (X ++ va_pl L f).length
      · rw [List.getElem?_append_left hl] at hx
        exact Nat.le_of_lt ((hP k9 x hx).lt)
      · rw [List.getElem?_append_right (by omega)] at hx
        have h0 : k9 - (X ++ va_pl L f).length < 1 := (List.getElem?_eq_some_iff.mp hx).1
        rw [show k9 - (X ++ va_pl L f).length = 0 by omega] at hx
        cases hx
        exact Nat.le_refl _
    have hr : ∀ (k9 : Nat) (x : Nat × va_E), (((List.range n.toNatClampNeg).map (fun i => H.size + 1 + i)).map (fun a => ((a, .inl (cy, z)) : Nat × va_E)))[k9]? = some x → x.1 = H.size + 1 + k9 := fun k9 x hx => by
      rw [List.getElem?_map, List.getElem?_map] at hx
      by_cases h9 : k9 < n.toNatClampNeg
      · rw [List.getElem?_range h9] at hx
        cases hx
        rfl
      · have hn0 : (List.range n.toNatClampNeg)[k9]? = none := List.getElem?_eq_none (by rw [List.length_range]; omega)
        rw [hn0] at hx
        cases hx
    refine ⟨fun i j x y hi hj hxy => ?_, fun k9 x hx => ?_⟩
    · by_cases h1 : i < W1.length <;> by_cases h2 : j < W1.length
      · rw [List.getElem?_append_left h1] at hi
        rw [List.getElem?_append_left h2] at hj
        exact hD1.1 i j x y hi hj hxy
      · rw [List.getElem?_append_left h1] at hi
        rw [List.getElem?_append_right (by omega)] at hj
        have := hle _ _ hi
        have := hr _ _ hj
        omega
      · rw [List.getElem?_append_right (by omega)] at hi
        rw [List.getElem?_append_left h2] at hj
        have := hle _ _ hj
        have := hr _ _ hi
        omega
      · rw [List.getElem?_append_right (by omega)] at hi hj
        have := hr _ _ hi
        have := hr _ _ hj
        omega
    · by_cases h1 : k9 < W1.length
      · rw [List.getElem?_append_left h1] at hx
        exact hD1.2 k9 x hx
      · rw [List.getElem?_append_right (by omega)] at hx
        have := hr _ _ hx
        exact hA _ (by have := hS.1; omega)
  have hAr : ArrOfT s cA (.array ty) := fun N9 z9 => by
    obtain ⟨-, k9, hk9, cm9, hkk9⟩ := (hO 0 0 0).1
    exact ⟨(fun q hq => by cases hq), k9, hk9, cm9, hkk9⟩
  have hK2 : va_K D cl (tys ++ [(cA, .array ty)]) s := ⟨hK.1, fun k9 x hx => by
    by_cases hl : k9 < tys.length
    · rw [List.getElem?_append_left hl] at hx
      exact hK.2 k9 x hx
    · rw [List.getElem?_append_right (by omega)] at hx
      have h0 : k9 - tys.length < 1 := (List.getElem?_eq_some_iff.mp hx).1
      rw [show k9 - tys.length = 0 by omega] at hx
      cases hx
      exact ⟨hAr, fA⟩⟩
  obtain ⟨t, a1, b1⟩ := kk H.size (fun i => H.size + 1 + i) cA F.heap (fun i j _ _ h => by have h9 : H.size + 1 + i = H.size + 1 + j := h; omega) hnl hK2 (by rw [← vr_rows hnm]; exact vr_lay hP2) (by rw [← vr_rows hnm]; exact vr_layD hD2) ⟨by rw [f1]; have := hS.1; omega, fun x h1 h2 => (hold x (Nat.lt_of_lt_of_le h1 hS.1)).trans (hS.2.1 x h1 h2), hS.2.2⟩ F rfl X'
  refine ⟨t, step t ?_, b1⟩
  have e : T.heap.size = H.size := by rw [hT]
  rw [e]
  exact a1
end VGM
/-! ===== END ===== -/
def RX0 : String := "ToastMap$Company"
def TX0 : u_T := fun k => match k with
  | 0 => ("ToastMap$Company", "count", "I", false)
  | 1 => ("ToastMap$Company", "night", "I", false)
  | 2 => ("ToastMap$Company", "rules", "[I", true)
  | 3 => ("ToastMap$Company", "place", "[I", true)
  | 4 => ("ToastMap$Company", "meant", "[I", true)
  | 5 => ("ToastMap$Company", "warmth", "[I", true)
  | 6 => ("ToastMap$Company", "glasses", "[I", true)
  | 7 => ("ToastMap$Company", "whom", "[I", true)
  | 8 => ("ToastMap$Company", "names", "[J", true)
  | _ => ("ToastMap$Company", "sums", "[I", true)
def tyX0 : Nat → FieldType := fun k => match k with
  | 0 => .int
  | 1 => .int
  | 2 => .array .int
  | 3 => .array .int
  | 4 => .array .int
  | 5 => .array .int
  | 6 => .array .int
  | 7 => .array .int
  | 8 => .array .long
  | _ => .array .int
abbrev wsX00 : List Cond := u_ws RX0 TX0 10
theorem nmX0 : ∀ a, a < 10 → ∀ b, b < 10 → a ≠ b → (TX0 a).2.1 ≠ (TX0 b).2.1 := by decide +kernel
theorem tyX0_ok : ∀ k, k < 10 → parseFieldDescriptor (TX0 k).2.2.1 = some (tyX0 k) := by decide +kernel
abbrev cX0_init : ByteArray := prog_2_method_1_code
def yX0_init : MethodName := ⟨RX0, "<init>", "()V"⟩
abbrev cX0_clear : ByteArray := prog_2_method_2_code
def yX0_clear : MethodName := ⟨RX0, "clear", "()V"⟩
abbrev cX0_takeFrom : ByteArray := prog_2_method_3_code
def yX0_takeFrom : MethodName := ⟨RX0, "takeFrom", "(LToastMap$Company;)V"⟩
abbrev cX0_has : ByteArray := prog_2_method_4_code
def yX0_has : MethodName := ⟨RX0, "has", "(I)Z"⟩
abbrev cX0_isFull : ByteArray := prog_2_method_5_code
def yX0_isFull : MethodName := ⟨RX0, "isFull", "()Z"⟩
abbrev cX0_add : ByteArray := prog_2_method_6_code
def yX0_add : MethodName := ⟨RX0, "add", "(IJ)I"⟩
abbrev cX0_named : ByteArray := prog_2_method_7_code
def yX0_named : MethodName := ⟨RX0, "named", "(J)I"⟩
abbrev cX0_hasWhom : ByteArray := prog_2_method_8_code
def yX0_hasWhom : MethodName := ⟨RX0, "hasWhom", "(I)Z"⟩
abbrev cX0_apart : ByteArray := prog_2_method_9_code
def yX0_apart : MethodName := ⟨RX0, "apart", "(II)I"⟩
abbrev cX0_warmOf : ByteArray := prog_2_method_10_code
def yX0_warmOf : MethodName := ⟨RX0, "warmOf", "(I)I"⟩
abbrev cX0_isLit : ByteArray := prog_2_method_11_code
def yX0_isLit : MethodName := ⟨RX0, "isLit", "(I)Z"⟩
abbrev cX0_litSet : ByteArray := prog_2_method_12_code
def yX0_litSet : MethodName := ⟨RX0, "litSet", "()I"⟩
abbrev cX0_toastingSet : ByteArray := prog_2_method_13_code
def yX0_toastingSet : MethodName := ⟨RX0, "toastingSet", "()I"⟩
abbrev cX0_warmersOf : ByteArray := prog_2_method_14_code
def yX0_warmersOf : MethodName := ⟨RX0, "warmersOf", "(I)I"⟩
abbrev cX0_allWarmth : ByteArray := prog_2_method_15_code
def yX0_allWarmth : MethodName := ⟨RX0, "allWarmth", "()I"⟩
abbrev cX0_allGlasses : ByteArray := prog_2_method_16_code
def yX0_allGlasses : MethodName := ⟨RX0, "allGlasses", "()I"⟩
abbrev cX0_warmthAsOne : ByteArray := prog_2_method_17_code
def yX0_warmthAsOne : MethodName := ⟨RX0, "warmthAsOne", "()J"⟩
abbrev cX0_canDrink : ByteArray := prog_2_method_18_code
def yX0_canDrink : MethodName := ⟨RX0, "canDrink", "(I)Z"⟩
abbrev cX0_letDrink : ByteArray := prog_2_method_19_code
def yX0_letDrink : MethodName := ⟨RX0, "letDrink", "(I)I"⟩
abbrev cX0_hasNights : ByteArray := prog_2_method_20_code
def yX0_hasNights : MethodName := ⟨RX0, "hasNights", "(I)Z"⟩
abbrev cX0_warmthIn : ByteArray := prog_2_method_21_code
def yX0_warmthIn : MethodName := ⟨RX0, "warmthIn", "(II)I"⟩
abbrev cX0_passNights : ByteArray := prog_2_method_22_code
def yX0_passNights : MethodName := ⟨RX0, "passNights", "(I)V"⟩
abbrev cX0_passEvening : ByteArray := prog_2_method_23_code
def yX0_passEvening : MethodName := ⟨RX0, "passEvening", "(I)I"⟩
abbrev cX0_chainLength : ByteArray := prog_2_method_24_code
def yX0_chainLength : MethodName := ⟨RX0, "chainLength", "(I)I"⟩
abbrev cX0_alongChain : ByteArray := prog_2_method_25_code
def yX0_alongChain : MethodName := ⟨RX0, "alongChain", "(II)I"⟩
abbrev cX0_isInRing : ByteArray := prog_2_method_26_code
def yX0_isInRing : MethodName := ⟨RX0, "isInRing", "(I)Z"⟩
abbrev cX0_leadsRing : ByteArray := prog_2_method_27_code
def yX0_leadsRing : MethodName := ⟨RX0, "leadsRing", "(I)Z"⟩
abbrev cX0_drinksTo : ByteArray := prog_2_method_28_code
def yX0_drinksTo : MethodName := ⟨RX0, "drinksTo", "(I)I"⟩
abbrev cX0_warmestOf : ByteArray := prog_2_method_29_code
def yX0_warmestOf : MethodName := ⟨RX0, "warmestOf", "(I)I"⟩
abbrev cX0_mostLit : ByteArray := prog_2_method_30_code
def yX0_mostLit : MethodName := ⟨RX0, "mostLit", "(I)I"⟩
abbrev cX0_canAllBeLit : ByteArray := prog_2_method_31_code
def yX0_canAllBeLit : MethodName := ⟨RX0, "canAllBeLit", "(II)Z"⟩
def RX1 : String := "ToastMap$Game"
def TX1 : u_T := fun k => match k with
  | 0 => ("ToastMap$Game", "table", "LToastMap$Company;", true)
  | 1 => ("ToastMap$Game", "turns", "I", false)
  | 2 => ("ToastMap$Game", "worth", "I", false)
  | _ => ("ToastMap$Game", "move", "I", false)
def tyX1 : Nat → FieldType := fun k => match k with
  | 0 => .object "ToastMap$Company"
  | 1 => .int
  | 2 => .int
  | _ => .int
abbrev wsX10 : List Cond := u_ws RX1 TX1 4
theorem nmX1 : ∀ a, a < 4 → ∀ b, b < 4 → a ≠ b → (TX1 a).2.1 ≠ (TX1 b).2.1 := by decide +kernel
theorem tyX1_ok : ∀ k, k < 4 → parseFieldDescriptor (TX1 k).2.2.1 = some (tyX1 k) := by decide +kernel
abbrev cX1_init : ByteArray := prog_3_method_1_code
def yX1_init : MethodName := ⟨RX1, "<init>", "()V"⟩
abbrev cX1_worth : ByteArray := prog_3_method_2_code
def yX1_worth : MethodName := ⟨RX1, "worth", "()I"⟩
abbrev cX1_firstMove : ByteArray := prog_3_method_3_code
def yX1_firstMove : MethodName := ⟨RX1, "firstMove", "()I"⟩
abbrev cX1_playOut : ByteArray := prog_3_method_4_code
def yX1_playOut : MethodName := ⟨RX1, "playOut", "(LToastMap$Company;I)V"⟩
abbrev cX1_litCount : ByteArray := prog_3_method_5_code
def yX1_litCount : MethodName := ⟨RX1, "litCount", "()I"⟩
abbrev cX1_butler : ByteArray := prog_3_method_6_code
def yX1_butler : MethodName := ⟨RX1, "butler", "(III)I"⟩
abbrev cX1_behindDrink : ByteArray := prog_3_method_7_code
def yX1_behindDrink : MethodName := ⟨RX1, "behindDrink", "(IIII)I"⟩
abbrev cX1_draught : ByteArray := prog_3_method_8_code
def yX1_draught : MethodName := ⟨RX1, "draught", "(III)I"⟩
def RX2 : String := "ToastMap$Glasses"
def TX2 : u_T := fun k => match k with
  | 0 => ("ToastMap$Glasses", "counts", "[J", true)
  | _ => ("ToastMap$Glasses", "glasses", "I", false)
def tyX2 : Nat → FieldType := fun k => match k with
  | 0 => .array .long
  | _ => .int
abbrev wsX20 : List Cond := u_ws RX2 TX2 2
theorem nmX2 : ∀ a, a < 2 → ∀ b, b < 2 → a ≠ b → (TX2 a).2.1 ≠ (TX2 b).2.1 := by decide +kernel
theorem tyX2_ok : ∀ k, k < 2 → parseFieldDescriptor (TX2 k).2.2.1 = some (tyX2 k) := by decide +kernel
abbrev cX2_init : ByteArray := prog_4_method_1_code
def yX2_init : MethodName := ⟨RX2, "<init>", "()V"⟩
abbrev cX2_taste : ByteArray := prog_4_method_2_code
def yX2_taste : MethodName := ⟨RX2, "taste", "(II)V"⟩
abbrev cX2_all : ByteArray := prog_4_method_3_code
def yX2_all : MethodName := ⟨RX2, "all", "()J"⟩
abbrev cX2_below : ByteArray := prog_4_method_4_code
def yX2_below : MethodName := ⟨RX2, "below", "(I)J"⟩
abbrev cX2_from : ByteArray := prog_4_method_5_code
def yX2_from : MethodName := ⟨RX2, "from", "(I)J"⟩
def RX3 : String := "ToastMap$Living"
def TX3 : u_T := fun k => match k with
  | 0 => ("ToastMap$Living", "turnsLeft", "[I", true)
  | 1 => ("ToastMap$Living", "drawn", "I", false)
  | 2 => ("ToastMap$Living", "stepsDone", "I", false)
  | 3 => ("ToastMap$Living", "missed", "I", false)
  | 4 => ("ToastMap$Living", "nights", "I", false)
  | 5 => ("ToastMap$Living", "drinks", "I", false)
  | 6 => ("ToastMap$Living", "evenings", "I", false)
  | _ => ("ToastMap$Living", "wasCut", "Z", false)
def tyX3 : Nat → FieldType := fun k => match k with
  | 0 => .array .int
  | 1 => .int
  | 2 => .int
  | 3 => .int
  | 4 => .int
  | 5 => .int
  | 6 => .int
  | _ => .boolean
abbrev wsX30 : List Cond := u_ws RX3 TX3 8
theorem nmX3 : ∀ a, a < 8 → ∀ b, b < 8 → a ≠ b → (TX3 a).2.1 ≠ (TX3 b).2.1 := by decide +kernel
theorem tyX3_ok : ∀ k, k < 8 → parseFieldDescriptor (TX3 k).2.2.1 = some (tyX3 k) := by decide +kernel
abbrev cX3_init : ByteArray := prog_5_method_1_code
def yX3_init : MethodName := ⟨RX3, "<init>", "()V"⟩
abbrev cX3_runThrough : ByteArray := prog_5_method_2_code
def yX3_runThrough : MethodName := ⟨RX3, "runThrough", "(LToastMap$Company;LToastMap$Times;I)V"⟩
abbrev cX3_behindEnd : ByteArray := prog_5_method_3_code
def yX3_behindEnd : MethodName := ⟨RX3, "behindEnd", "(LToastMap$Times;I)I"⟩
abbrev cX3_behindStep : ByteArray := prog_5_method_4_code
def yX3_behindStep : MethodName := ⟨RX3, "behindStep", "(LToastMap$Company;LToastMap$Times;I)I"⟩
abbrev cX3_liveDrink : ByteArray := prog_5_method_5_code
def yX3_liveDrink : MethodName := ⟨RX3, "liveDrink", "(LToastMap$Company;I)V"⟩
abbrev cX3_liveNights : ByteArray := prog_5_method_6_code
def yX3_liveNights : MethodName := ⟨RX3, "liveNights", "(LToastMap$Company;I)V"⟩
abbrev cX3_liveEvening : ByteArray := prog_5_method_7_code
def yX3_liveEvening : MethodName := ⟨RX3, "liveEvening", "(LToastMap$Company;)V"⟩
abbrev cX3_liveFill : ByteArray := prog_5_method_8_code
def yX3_liveFill : MethodName := ⟨RX3, "liveFill", "(LToastMap$Company;II)V"⟩
abbrev cX3_liveAny : ByteArray := prog_5_method_9_code
def yX3_liveAny : MethodName := ⟨RX3, "liveAny", "(LToastMap$Company;)V"⟩
abbrev cX3_drawBy : ByteArray := prog_5_method_10_code
def yX3_drawBy : MethodName := ⟨RX3, "drawBy", "(I)I"⟩
abbrev cX3_holds : ByteArray := prog_5_method_11_code
def yX3_holds : MethodName := ⟨RX3, "holds", "(LToastMap$Company;LToastMap$Times;I)Z"⟩
def RX4 : String := "ToastMap$MapReader"
def TX4 : u_T := fun k => match k with
  | 0 => ("ToastMap$MapReader", "tape", "LToastMap$Tape;", true)
  | 1 => ("ToastMap$MapReader", "company", "LToastMap$Company;", true)
  | _ => ("ToastMap$MapReader", "rulesTold", "I", false)
def tyX4 : Nat → FieldType := fun k => match k with
  | 0 => .object "ToastMap$Tape"
  | 1 => .object "ToastMap$Company"
  | _ => .int
abbrev wsX40 : List Cond := u_ws RX4 TX4 3
theorem nmX4 : ∀ a, a < 3 → ∀ b, b < 3 → a ≠ b → (TX4 a).2.1 ≠ (TX4 b).2.1 := by decide +kernel
theorem tyX4_ok : ∀ k, k < 3 → parseFieldDescriptor (TX4 k).2.2.1 = some (tyX4 k) := by decide +kernel
abbrev cX4_init : ByteArray := prog_6_method_1_code
def yX4_init : MethodName := ⟨RX4, "<init>", "(LToastMap$Tape;)V"⟩
abbrev cX4_draft : ByteArray := prog_6_method_2_code
def yX4_draft : MethodName := ⟨RX4, "draft", "()LToastMap$Company;"⟩
abbrev cX4_readMap : ByteArray := prog_6_method_3_code
def yX4_readMap : MethodName := ⟨RX4, "readMap", "(I)Z"⟩
abbrev cX4_readPart : ByteArray := prog_6_method_4_code
def yX4_readPart : MethodName := ⟨RX4, "readPart", "()Z"⟩
abbrev cX4_readRule : ByteArray := prog_6_method_5_code
def yX4_readRule : MethodName := ⟨RX4, "readRule", "(I)Z"⟩
abbrev cX4_readPerson : ByteArray := prog_6_method_6_code
def yX4_readPerson : MethodName := ⟨RX4, "readPerson", "()Z"⟩
abbrev cX4_readPerhaps : ByteArray := prog_6_method_7_code
def yX4_readPerhaps : MethodName := ⟨RX4, "readPerhaps", "(I[III)Z"⟩
abbrev cX4_readToast : ByteArray := prog_6_method_8_code
def yX4_readToast : MethodName := ⟨RX4, "readToast", "()Z"⟩
def RX5 : String := "ToastMap$Marks"
def TX5 : u_T := fun k => match k with
  | 0 => ("ToastMap$Marks", "companies", "[LToastMap$Company;", true)
  | 1 => ("ToastMap$Marks", "times", "[LToastMap$Times;", true)
  | _ => ("ToastMap$Marks", "count", "I", false)
def tyX5 : Nat → FieldType := fun k => match k with
  | 0 => .array (.object "ToastMap$Company")
  | 1 => .array (.object "ToastMap$Times")
  | _ => .int
abbrev wsX50 : List Cond := u_ws RX5 TX5 3
theorem nmX5 : ∀ a, a < 3 → ∀ b, b < 3 → a ≠ b → (TX5 a).2.1 ≠ (TX5 b).2.1 := by decide +kernel
theorem tyX5_ok : ∀ k, k < 3 → parseFieldDescriptor (TX5 k).2.2.1 = some (tyX5 k) := by decide +kernel
abbrev cX5_init : ByteArray := prog_7_method_1_code
def yX5_init : MethodName := ⟨RX5, "<init>", "()V"⟩
abbrev cX5_isFull : ByteArray := prog_7_method_2_code
def yX5_isFull : MethodName := ⟨RX5, "isFull", "()Z"⟩
abbrev cX5_isEmpty : ByteArray := prog_7_method_3_code
def yX5_isEmpty : MethodName := ⟨RX5, "isEmpty", "()Z"⟩
abbrev cX5_keep : ByteArray := prog_7_method_4_code
def yX5_keep : MethodName := ⟨RX5, "keep", "(LToastMap$Company;LToastMap$Times;)I"⟩
abbrev cX5_giveBack : ByteArray := prog_7_method_5_code
def yX5_giveBack : MethodName := ⟨RX5, "giveBack", "(LToastMap$Company;LToastMap$Times;)I"⟩
def RX6 : String := "ToastMap$Tape"
def TX6 : u_T := fun k => match k with
  | 0 => ("ToastMap$Tape", "bytes", "[B", true)
  | 1 => ("ToastMap$Tape", "words", "[J", true)
  | 2 => ("ToastMap$Tape", "many", "I", false)
  | 3 => ("ToastMap$Tape", "textLength", "I", false)
  | 4 => ("ToastMap$Tape", "next", "I", false)
  | 5 => ("ToastMap$Tape", "kind", "I", false)
  | 6 => ("ToastMap$Tape", "start", "I", false)
  | 7 => ("ToastMap$Tape", "number", "I", false)
  | 8 => ("ToastMap$Tape", "sign", "I", false)
  | 9 => ("ToastMap$Tape", "word", "I", false)
  | 10 => ("ToastMap$Tape", "letters", "J", false)
  | 11 => ("ToastMap$Tape", "faultKind", "I", false)
  | _ => ("ToastMap$Tape", "faultPlace", "I", false)
def tyX6 : Nat → FieldType := fun k => match k with
  | 0 => .array .byte
  | 1 => .array .long
  | 2 => .int
  | 3 => .int
  | 4 => .int
  | 5 => .int
  | 6 => .int
  | 7 => .int
  | 8 => .int
  | 9 => .int
  | 10 => .long
  | 11 => .int
  | _ => .int
abbrev wsX60 : List Cond := u_ws RX6 TX6 13
theorem nmX6 : ∀ a, a < 13 → ∀ b, b < 13 → a ≠ b → (TX6 a).2.1 ≠ (TX6 b).2.1 := by decide +kernel
theorem tyX6_ok : ∀ k, k < 13 → parseFieldDescriptor (TX6 k).2.2.1 = some (tyX6 k) := by decide +kernel
abbrev cX6_init : ByteArray := prog_8_method_1_code
def yX6_init : MethodName := ⟨RX6, "<init>", "()V"⟩
abbrev cX6_length : ByteArray := prog_8_method_2_code
def yX6_length : MethodName := ⟨RX6, "length", "()I"⟩
abbrev cX6_faultKind : ByteArray := prog_8_method_3_code
def yX6_faultKind : MethodName := ⟨RX6, "faultKind", "()I"⟩
abbrev cX6_faultPlace : ByteArray := prog_8_method_4_code
def yX6_faultPlace : MethodName := ⟨RX6, "faultPlace", "()I"⟩
abbrev cX6_hasRoom : ByteArray := prog_8_method_5_code
def yX6_hasRoom : MethodName := ⟨RX6, "hasRoom", "(I)Z"⟩
abbrev cX6_append : ByteArray := prog_8_method_6_code
def yX6_append : MethodName := ⟨RX6, "append", "(I)V"⟩
abbrev cX6_empty : ByteArray := prog_8_method_7_code
def yX6_empty : MethodName := ⟨RX6, "empty", "()V"⟩
abbrev cX6_begin : ByteArray := prog_8_method_8_code
def yX6_begin : MethodName := ⟨RX6, "begin", "(I)V"⟩
abbrev cX6_isAtEnd : ByteArray := prog_8_method_9_code
def yX6_isAtEnd : MethodName := ⟨RX6, "isAtEnd", "()Z"⟩
abbrev cX6_isAtCompares : ByteArray := prog_8_method_10_code
def yX6_isAtCompares : MethodName := ⟨RX6, "isAtCompares", "()Z"⟩
abbrev cX6_sign : ByteArray := prog_8_method_11_code
def yX6_sign : MethodName := ⟨RX6, "sign", "()I"⟩
abbrev cX6_number : ByteArray := prog_8_method_12_code
def yX6_number : MethodName := ⟨RX6, "number", "()I"⟩
abbrev cX6_object : ByteArray := prog_8_method_13_code
def yX6_object : MethodName := ⟨RX6, "object", "(I)Z"⟩
abbrev cX6_passWord : ByteArray := prog_8_method_14_code
def yX6_passWord : MethodName := ⟨RX6, "passWord", "(I)Z"⟩
abbrev cX6_passSemicolon : ByteArray := prog_8_method_15_code
def yX6_passSemicolon : MethodName := ⟨RX6, "passSemicolon", "()Z"⟩
abbrev cX6_isNumber : ByteArray := prog_8_method_16_code
def yX6_isNumber : MethodName := ⟨RX6, "isNumber", "(II)Z"⟩
abbrev cX6_whoIsNamed : ByteArray := prog_8_method_17_code
def yX6_whoIsNamed : MethodName := ⟨RX6, "whoIsNamed", "(LToastMap$Company;)I"⟩
abbrev cX6_step : ByteArray := prog_8_method_18_code
def yX6_step : MethodName := ⟨RX6, "step", "()V"⟩
abbrev cX6_stepWord : ByteArray := prog_8_method_19_code
def yX6_stepWord : MethodName := ⟨RX6, "stepWord", "()V"⟩
abbrev cX6_stepNumber : ByteArray := prog_8_method_20_code
def yX6_stepNumber : MethodName := ⟨RX6, "stepNumber", "()V"⟩
abbrev cX6_wordOf : ByteArray := prog_8_method_21_code
def yX6_wordOf : MethodName := ⟨RX6, "wordOf", "(J)I"⟩
abbrev cX6_withLetter : ByteArray := prog_8_method_22_code
def yX6_withLetter : MethodName := ⟨RX6, "withLetter", "(JI)J"⟩
abbrev cX6_isBlank : ByteArray := prog_8_method_23_code
def yX6_isBlank : MethodName := ⟨RX6, "isBlank", "(B)Z"⟩
abbrev cX6_isLetter : ByteArray := prog_8_method_24_code
def yX6_isLetter : MethodName := ⟨RX6, "isLetter", "(B)Z"⟩
abbrev cX6_isDigit : ByteArray := prog_8_method_25_code
def yX6_isDigit : MethodName := ⟨RX6, "isDigit", "(B)Z"⟩
abbrev cX6_isSign : ByteArray := prog_8_method_26_code
def yX6_isSign : MethodName := ⟨RX6, "isSign", "(B)Z"⟩
def RX7 : String := "ToastMap$Times"
def TX7 : u_T := fun k => match k with
  | 0 => ("ToastMap$Times", "words", "[I", true)
  | 1 => ("ToastMap$Times", "people", "[I", true)
  | 2 => ("ToastMap$Times", "tests", "[I", true)
  | 3 => ("ToastMap$Times", "signs", "[I", true)
  | 4 => ("ToastMap$Times", "numbers", "[I", true)
  | 5 => ("ToastMap$Times", "partners", "[I", true)
  | 6 => ("ToastMap$Times", "rowCount", "I", false)
  | 7 => ("ToastMap$Times", "stepCount", "I", false)
  | _ => ("ToastMap$Times", "isThere", "Z", false)
def tyX7 : Nat → FieldType := fun k => match k with
  | 0 => .array .int
  | 1 => .array .int
  | 2 => .array .int
  | 3 => .array .int
  | 4 => .array .int
  | 5 => .array .int
  | 6 => .int
  | 7 => .int
  | _ => .boolean
abbrev wsX70 : List Cond := u_ws RX7 TX7 9
theorem nmX7 : ∀ a, a < 9 → ∀ b, b < 9 → a ≠ b → (TX7 a).2.1 ≠ (TX7 b).2.1 := by decide +kernel
theorem tyX7_ok : ∀ k, k < 9 → parseFieldDescriptor (TX7 k).2.2.1 = some (tyX7 k) := by decide +kernel
abbrev cX7_init : ByteArray := prog_9_method_1_code
def yX7_init : MethodName := ⟨RX7, "<init>", "()V"⟩
abbrev cX7_forget : ByteArray := prog_9_method_2_code
def yX7_forget : MethodName := ⟨RX7, "forget", "()V"⟩
abbrev cX7_add : ByteArray := prog_9_method_3_code
def yX7_add : MethodName := ⟨RX7, "add", "(I)I"⟩
abbrev cX7_takeFrom : ByteArray := prog_9_method_4_code
def yX7_takeFrom : MethodName := ⟨RX7, "takeFrom", "(LToastMap$Times;)V"⟩
def RX8 : String := "ToastMap$TimesReader"
def TX8 : u_T := fun k => match k with
  | 0 => ("ToastMap$TimesReader", "tape", "LToastMap$Tape;", true)
  | 1 => ("ToastMap$TimesReader", "times", "LToastMap$Times;", true)
  | 2 => ("ToastMap$TimesReader", "open", "[I", true)
  | _ => ("ToastMap$TimesReader", "depth", "I", false)
def tyX8 : Nat → FieldType := fun k => match k with
  | 0 => .object "ToastMap$Tape"
  | 1 => .object "ToastMap$Times"
  | 2 => .array .int
  | _ => .int
abbrev wsX80 : List Cond := u_ws RX8 TX8 4
theorem nmX8 : ∀ a, a < 4 → ∀ b, b < 4 → a ≠ b → (TX8 a).2.1 ≠ (TX8 b).2.1 := by decide +kernel
theorem tyX8_ok : ∀ k, k < 4 → parseFieldDescriptor (TX8 k).2.2.1 = some (tyX8 k) := by decide +kernel
abbrev cX8_init : ByteArray := prog_10_method_1_code
def yX8_init : MethodName := ⟨RX8, "<init>", "(LToastMap$Tape;)V"⟩
abbrev cX8_draft : ByteArray := prog_10_method_2_code
def yX8_draft : MethodName := ⟨RX8, "draft", "()LToastMap$Times;"⟩
abbrev cX8_readTimes : ByteArray := prog_10_method_3_code
def yX8_readTimes : MethodName := ⟨RX8, "readTimes", "(ILToastMap$Company;)Z"⟩
abbrev cX8_readStep : ByteArray := prog_10_method_4_code
def yX8_readStep : MethodName := ⟨RX8, "readStep", "(LToastMap$Company;)Z"⟩
abbrev cX8_readEnd : ByteArray := prog_10_method_5_code
def yX8_readEnd : MethodName := ⟨RX8, "readEnd", "()Z"⟩
abbrev cX8_readTest : ByteArray := prog_10_method_6_code
def yX8_readTest : MethodName := ⟨RX8, "readTest", "(ILToastMap$Company;)Z"⟩
abbrev cX8_readWho : ByteArray := prog_10_method_7_code
def yX8_readWho : MethodName := ⟨RX8, "readWho", "(ILToastMap$Company;)Z"⟩
abbrev cX8_readCompares : ByteArray := prog_10_method_8_code
def yX8_readCompares : MethodName := ⟨RX8, "readCompares", "(I)Z"⟩
abbrev cX8_readAmount : ByteArray := prog_10_method_9_code
def yX8_readAmount : MethodName := ⟨RX8, "readAmount", "(III)Z"⟩
def RX9 : String := "ToastMap$Trays"
def TX9 : u_T := fun k => match k with
  | 0 => ("ToastMap$Trays", "rows", "[[J", true)
  | 1 => ("ToastMap$Trays", "sorts", "[I", true)
  | _ => ("ToastMap$Trays", "lengths", "[I", true)
def tyX9 : Nat → FieldType := fun k => match k with
  | 0 => .array (.array .long)
  | 1 => .array .int
  | _ => .array .int
abbrev wsX90 : List Cond := u_ws RX9 TX9 3
theorem nmX9 : ∀ a, a < 3 → ∀ b, b < 3 → a ≠ b → (TX9 a).2.1 ≠ (TX9 b).2.1 := by decide +kernel
theorem tyX9_ok : ∀ k, k < 3 → parseFieldDescriptor (TX9 k).2.2.1 = some (tyX9 k) := by decide +kernel
abbrev cX9_init : ByteArray := prog_11_method_1_code
def yX9_init : MethodName := ⟨RX9, "<init>", "()V"⟩
abbrev cX9_isTray : ByteArray := prog_11_method_2_code
def yX9_isTray : MethodName := ⟨RX9, "isTray", "(I)Z"⟩
abbrev cX9_isSort : ByteArray := prog_11_method_3_code
def yX9_isSort : MethodName := ⟨RX9, "isSort", "(I)Z"⟩
abbrev cX9_isMissing : ByteArray := prog_11_method_4_code
def yX9_isMissing : MethodName := ⟨RX9, "isMissing", "(I)Z"⟩
abbrev cX9_length : ByteArray := prog_11_method_5_code
def yX9_length : MethodName := ⟨RX9, "length", "(I)I"⟩
abbrev cX9_sort : ByteArray := prog_11_method_6_code
def yX9_sort : MethodName := ⟨RX9, "sort", "(I)I"⟩
abbrev cX9_has : ByteArray := prog_11_method_7_code
def yX9_has : MethodName := ⟨RX9, "has", "(III)Z"⟩
abbrev cX9_lay : ByteArray := prog_11_method_8_code
def yX9_lay : MethodName := ⟨RX9, "lay", "(III)V"⟩
abbrev cX9_at : ByteArray := prog_11_method_9_code
def yX9_at : MethodName := ⟨RX9, "at", "(II)J"⟩
abbrev cX9_put : ByteArray := prog_11_method_10_code
def yX9_put : MethodName := ⟨RX9, "put", "(IIJ)V"⟩
abbrev cX9_copy : ByteArray := prog_11_method_11_code
def yX9_copy : MethodName := ⟨RX9, "copy", "(IIIII)V"⟩
abbrev cX9_cutTo : ByteArray := prog_11_method_12_code
def yX9_cutTo : MethodName := ⟨RX9, "cutTo", "(IJ)J"⟩
def RX10 : String := "ToastMap$Ways"
def TX10 : u_T := fun k => match k with
  | 0 => ("ToastMap$Ways", "allowed", "[I", true)
  | 1 => ("ToastMap$Ways", "ahead", "[I", true)
  | 2 => ("ToastMap$Ways", "behind", "[I", true)
  | 3 => ("ToastMap$Ways", "count", "I", false)
  | _ => ("ToastMap$Ways", "full", "I", false)
def tyX10 : Nat → FieldType := fun k => match k with
  | 0 => .array .int
  | 1 => .array .int
  | 2 => .array .int
  | 3 => .int
  | _ => .int
abbrev wsX100 : List Cond := u_ws RX10 TX10 5
theorem nmX10 : ∀ a, a < 5 → ∀ b, b < 5 → a ≠ b → (TX10 a).2.1 ≠ (TX10 b).2.1 := by decide +kernel
theorem tyX10_ok : ∀ k, k < 5 → parseFieldDescriptor (TX10 k).2.2.1 = some (tyX10 k) := by decide +kernel
abbrev cX10_init : ByteArray := prog_12_method_1_code
def yX10_init : MethodName := ⟨RX10, "<init>", "()V"⟩
abbrev cX10_begin : ByteArray := prog_12_method_2_code
def yX10_begin : MethodName := ⟨RX10, "begin", "(I)V"⟩
abbrev cX10_seen : ByteArray := prog_12_method_3_code
def yX10_seen : MethodName := ⟨RX10, "seen", "(II)V"⟩
abbrev cX10_countAll : ByteArray := prog_12_method_4_code
def yX10_countAll : MethodName := ⟨RX10, "countAll", "()V"⟩
abbrev cX10_spread : ByteArray := prog_12_method_5_code
def yX10_spread : MethodName := ⟨RX10, "spread", "(I)V"⟩
abbrev cX10_gather : ByteArray := prog_12_method_6_code
def yX10_gather : MethodName := ⟨RX10, "gather", "(I)V"⟩
abbrev cX10_isOpen : ByteArray := prog_12_method_7_code
def yX10_isOpen : MethodName := ⟨RX10, "isOpen", "(III)Z"⟩
abbrev cX10_all : ByteArray := prog_12_method_8_code
def yX10_all : MethodName := ⟨RX10, "all", "()I"⟩
abbrev cX10_through : ByteArray := prog_12_method_9_code
def yX10_through : MethodName := ⟨RX10, "through", "(II)I"⟩
abbrev cX10_firstWhom : ByteArray := prog_12_method_10_code
def yX10_firstWhom : MethodName := ⟨RX10, "firstWhom", "(I)I"⟩
abbrev cX10_firstOpen : ByteArray := prog_12_method_11_code
def yX10_firstOpen : MethodName := ⟨RX10, "firstOpen", "(II)I"⟩
abbrev cX10_bestAsked : ByteArray := prog_12_method_12_code
def yX10_bestAsked : MethodName := ⟨RX10, "bestAsked", "()I"⟩
abbrev cX10_mostThrough : ByteArray := prog_12_method_13_code
def yX10_mostThrough : MethodName := ⟨RX10, "mostThrough", "(I)I"⟩
def RX11 : String := "ToastMap"
def TX11 : u_T := fun k => match k with
  | 0 => ("ToastMap", "status", "I", false)
  | 1 => ("ToastMap", "fractionTop", "J", false)
  | 2 => ("ToastMap", "fractionBottom", "J", false)
  | 3 => ("ToastMap", "everLived", "Z", false)
  | 4 => ("ToastMap", "trays", "LToastMap$Trays;", true)
  | 5 => ("ToastMap", "tape", "LToastMap$Tape;", true)
  | 6 => ("ToastMap", "now", "LToastMap$Company;", true)
  | 7 => ("ToastMap", "spare", "LToastMap$Company;", true)
  | 8 => ("ToastMap", "steps", "LToastMap$Times;", true)
  | 9 => ("ToastMap", "mapReader", "LToastMap$MapReader;", true)
  | 10 => ("ToastMap", "timesReader", "LToastMap$TimesReader;", true)
  | 11 => ("ToastMap", "marks", "LToastMap$Marks;", true)
  | 12 => ("ToastMap", "latest", "LToastMap$Living;", true)
  | 13 => ("ToastMap", "trial", "LToastMap$Living;", true)
  | 14 => ("ToastMap", "ways", "LToastMap$Ways;", true)
  | 15 => ("ToastMap", "play", "LToastMap$Game;", true)
  | 16 => ("ToastMap", "honest", "LToastMap$Glasses;", true)
  | 17 => ("ToastMap", "shams", "LToastMap$Glasses;", true)
  | _ => ("ToastMap", "states", "[J", true)
def tyX11 : Nat → FieldType := fun k => match k with
  | 0 => .int
  | 1 => .long
  | 2 => .long
  | 3 => .boolean
  | 4 => .object "ToastMap$Trays"
  | 5 => .object "ToastMap$Tape"
  | 6 => .object "ToastMap$Company"
  | 7 => .object "ToastMap$Company"
  | 8 => .object "ToastMap$Times"
  | 9 => .object "ToastMap$MapReader"
  | 10 => .object "ToastMap$TimesReader"
  | 11 => .object "ToastMap$Marks"
  | 12 => .object "ToastMap$Living"
  | 13 => .object "ToastMap$Living"
  | 14 => .object "ToastMap$Ways"
  | 15 => .object "ToastMap$Game"
  | 16 => .object "ToastMap$Glasses"
  | 17 => .object "ToastMap$Glasses"
  | _ => .array .long
abbrev wsX110 : List Cond := u_ws RX11 TX11 19
theorem nmX11 : ∀ a, a < 19 → ∀ b, b < 19 → a ≠ b → (TX11 a).2.1 ≠ (TX11 b).2.1 := by decide +kernel
theorem tyX11_ok : ∀ k, k < 19 → parseFieldDescriptor (TX11 k).2.2.1 = some (tyX11 k) := by decide +kernel
abbrev cX11_init : ByteArray := prog_1_method_1_code
def yX11_init : MethodName := ⟨RX11, "<init>", "()V"⟩
abbrev cX11_status : ByteArray := prog_1_method_2_code
def yX11_status : MethodName := ⟨RX11, "status", "()I"⟩
abbrev cX11_top : ByteArray := prog_1_method_3_code
def yX11_top : MethodName := ⟨RX11, "top", "()J"⟩
abbrev cX11_bottom : ByteArray := prog_1_method_4_code
def yX11_bottom : MethodName := ⟨RX11, "bottom", "()J"⟩
abbrev cX11_tray : ByteArray := prog_1_method_5_code
def yX11_tray : MethodName := ⟨RX11, "tray", "(III)Z"⟩
abbrev cX11_write : ByteArray := prog_1_method_6_code
def yX11_write : MethodName := ⟨RX11, "write", "(IIJ)Z"⟩
abbrev cX11_read : ByteArray := prog_1_method_7_code
def yX11_read : MethodName := ⟨RX11, "read", "(II)J"⟩
abbrev cX11_pour : ByteArray := prog_1_method_8_code
def yX11_pour : MethodName := ⟨RX11, "pour", "(IIIII)Z"⟩
abbrev cX11_placeStatus : ByteArray := prog_1_method_9_code
def yX11_placeStatus : MethodName := ⟨RX11, "placeStatus", "(II)I"⟩
abbrev cX11_pourStatus : ByteArray := prog_1_method_10_code
def yX11_pourStatus : MethodName := ⟨RX11, "pourStatus", "(IIIII)I"⟩
abbrev cX11_feed : ByteArray := prog_1_method_11_code
def yX11_feed : MethodName := ⟨RX11, "feed", "(IIIII)I"⟩
abbrev cX11_map : ByteArray := prog_1_method_12_code
def yX11_map : MethodName := ⟨RX11, "map", "(I)I"⟩
abbrev cX11_times : ByteArray := prog_1_method_13_code
def yX11_times : MethodName := ⟨RX11, "times", "(I)I"⟩
abbrev cX11_fault : ByteArray := prog_1_method_14_code
def yX11_fault : MethodName := ⟨RX11, "fault", "(I)I"⟩
abbrev cX11_told : ByteArray := prog_1_method_15_code
def yX11_told : MethodName := ⟨RX11, "told", "(I)I"⟩
abbrev cX11_person : ByteArray := prog_1_method_16_code
def yX11_person : MethodName := ⟨RX11, "person", "(II)I"⟩
abbrev cX11_far : ByteArray := prog_1_method_17_code
def yX11_far : MethodName := ⟨RX11, "far", "(II)I"⟩
abbrev cX11_drink : ByteArray := prog_1_method_18_code
def yX11_drink : MethodName := ⟨RX11, "drink", "(I)I"⟩
abbrev cX11_night : ByteArray := prog_1_method_19_code
def yX11_night : MethodName := ⟨RX11, "night", "(I)I"⟩
abbrev cX11_evening : ByteArray := prog_1_method_20_code
def yX11_evening : MethodName := ⟨RX11, "evening", "()I"⟩
abbrev cX11_fill : ByteArray := prog_1_method_21_code
def yX11_fill : MethodName := ⟨RX11, "fill", "(II)I"⟩
abbrev cX11_means : ByteArray := prog_1_method_22_code
def yX11_means : MethodName := ⟨RX11, "means", "(II)I"⟩
abbrev cX11_move : ByteArray := prog_1_method_23_code
def yX11_move : MethodName := ⟨RX11, "move", "(II)I"⟩
abbrev cX11_aim : ByteArray := prog_1_method_24_code
def yX11_aim : MethodName := ⟨RX11, "aim", "(II)I"⟩
abbrev cX11_come : ByteArray := prog_1_method_25_code
def yX11_come : MethodName := ⟨RX11, "come", "(I)I"⟩
abbrev cX11_rule : ByteArray := prog_1_method_26_code
def yX11_rule : MethodName := ⟨RX11, "rule", "(II)Z"⟩
abbrev cX11_warmIn : ByteArray := prog_1_method_27_code
def yX11_warmIn : MethodName := ⟨RX11, "warmIn", "(II)I"⟩
abbrev cX11_darkIn : ByteArray := prog_1_method_28_code
def yX11_darkIn : MethodName := ⟨RX11, "darkIn", "(I)I"⟩
abbrev cX11_eveningIn : ByteArray := prog_1_method_29_code
def yX11_eveningIn : MethodName := ⟨RX11, "eveningIn", "(II)I"⟩
abbrev cX11_litIn : ByteArray := prog_1_method_30_code
def yX11_litIn : MethodName := ⟨RX11, "litIn", "(I)I"⟩
abbrev cX11_settles : ByteArray := prog_1_method_31_code
def yX11_settles : MethodName := ⟨RX11, "settles", "()I"⟩
abbrev cX11_period : ByteArray := prog_1_method_32_code
def yX11_period : MethodName := ⟨RX11, "period", "()I"⟩
abbrev cX11_lookAhead : ByteArray := prog_1_method_33_code
def yX11_lookAhead : MethodName := ⟨RX11, "lookAhead", "(I)V"⟩
abbrev cX11_findPeriod : ByteArray := prog_1_method_34_code
def yX11_findPeriod : MethodName := ⟨RX11, "findPeriod", "()I"⟩
abbrev cX11_firstSettled : ByteArray := prog_1_method_35_code
def yX11_firstSettled : MethodName := ⟨RX11, "firstSettled", "(I)I"⟩
abbrev cX11_chain : ByteArray := prog_1_method_36_code
def yX11_chain : MethodName := ⟨RX11, "chain", "(I)I"⟩
abbrev cX11_chainAt : ByteArray := prog_1_method_37_code
def yX11_chainAt : MethodName := ⟨RX11, "chainAt", "(II)I"⟩
abbrev cX11_rings : ByteArray := prog_1_method_38_code
def yX11_rings : MethodName := ⟨RX11, "rings", "()I"⟩
abbrev cX11_inRings : ByteArray := prog_1_method_39_code
def yX11_inRings : MethodName := ⟨RX11, "inRings", "()I"⟩
abbrev cX11_needs : ByteArray := prog_1_method_40_code
def yX11_needs : MethodName := ⟨RX11, "needs", "(I)I"⟩
abbrev cX11_most : ByteArray := prog_1_method_41_code
def yX11_most : MethodName := ⟨RX11, "most", "(I)I"⟩
abbrev cX11_mostSet : ByteArray := prog_1_method_42_code
def yX11_mostSet : MethodName := ⟨RX11, "mostSet", "(I)I"⟩
abbrev cX11_misses : ByteArray := prog_1_method_43_code
def yX11_misses : MethodName := ⟨RX11, "misses", "(I)I"⟩
abbrev cX11_fits : ByteArray := prog_1_method_44_code
def yX11_fits : MethodName := ⟨RX11, "fits", "(II)I"⟩
abbrev cX11_firstOf : ByteArray := prog_1_method_45_code
def yX11_firstOf : MethodName := ⟨RX11, "firstOf", "(III)I"⟩
abbrev cX11_oddsThat : ByteArray := prog_1_method_46_code
def yX11_oddsThat : MethodName := ⟨RX11, "oddsThat", "(IIII)Z"⟩
abbrev cX11_ask : ByteArray := prog_1_method_47_code
def yX11_ask : MethodName := ⟨RX11, "ask", "(II)I"⟩
abbrev cX11_waysStatus : ByteArray := prog_1_method_48_code
def yX11_waysStatus : MethodName := ⟨RX11, "waysStatus", "(II)I"⟩
abbrev cX11_findWays : ByteArray := prog_1_method_49_code
def yX11_findWays : MethodName := ⟨RX11, "findWays", "(II)V"⟩
abbrev cX11_rowsStatus : ByteArray := prog_1_method_50_code
def yX11_rowsStatus : MethodName := ⟨RX11, "rowsStatus", "(IIII)I"⟩
abbrev cX11_laws : ByteArray := prog_1_method_51_code
def yX11_laws : MethodName := ⟨RX11, "laws", "(II)I"⟩
abbrev cX11_lawOf : ByteArray := prog_1_method_52_code
def yX11_lawOf : MethodName := ⟨RX11, "lawOf", "(III)I"⟩
abbrev cX11_error : ByteArray := prog_1_method_53_code
def yX11_error : MethodName := ⟨RX11, "error", "(III)Z"⟩
abbrev cX11_cut : ByteArray := prog_1_method_54_code
def yX11_cut : MethodName := ⟨RX11, "cut", "(I)I"⟩
abbrev cX11_lawStatus : ByteArray := prog_1_method_55_code
def yX11_lawStatus : MethodName := ⟨RX11, "lawStatus", "(II)I"⟩
abbrev cX11_isLaw : ByteArray := prog_1_method_56_code
def yX11_isLaw : MethodName := ⟨RX11, "isLaw", "(IIII)Z"⟩
abbrev cX11_tasteBoth : ByteArray := prog_1_method_57_code
def yX11_tasteBoth : MethodName := ⟨RX11, "tasteBoth", "(I)V"⟩
abbrev cX11_game : ByteArray := prog_1_method_58_code
def yX11_game : MethodName := ⟨RX11, "game", "(I)I"⟩
abbrev cX11_moveOf : ByteArray := prog_1_method_59_code
def yX11_moveOf : MethodName := ⟨RX11, "moveOf", "(I)I"⟩
abbrev cX11_share : ByteArray := prog_1_method_60_code
def yX11_share : MethodName := ⟨RX11, "share", "(I)Z"⟩
abbrev cX11_copyWarmth : ByteArray := prog_1_method_61_code
def yX11_copyWarmth : MethodName := ⟨RX11, "copyWarmth", "(I)I"⟩
abbrev cX11_live : ByteArray := prog_1_method_62_code
def yX11_live : MethodName := ⟨RX11, "live", "(I)I"⟩
abbrev cX11_lived : ByteArray := prog_1_method_63_code
def yX11_lived : MethodName := ⟨RX11, "lived", "(I)I"⟩
abbrev cX11_mean : ByteArray := prog_1_method_64_code
def yX11_mean : MethodName := ⟨RX11, "mean", "(II)Z"⟩
abbrev cX11_mark : ByteArray := prog_1_method_65_code
def yX11_mark : MethodName := ⟨RX11, "mark", "()I"⟩
abbrev cX11_undo : ByteArray := prog_1_method_66_code
def yX11_undo : MethodName := ⟨RX11, "undo", "()I"⟩
abbrev cX11_answer : ByteArray := prog_1_method_67_code
def yX11_answer : MethodName := ⟨RX11, "answer", "(I)I"⟩
abbrev cX11_refuse : ByteArray := prog_1_method_68_code
def yX11_refuse : MethodName := ⟨RX11, "refuse", "(I)I"⟩
abbrev cX11_grant : ByteArray := prog_1_method_69_code
def yX11_grant : MethodName := ⟨RX11, "grant", "()Z"⟩
abbrev cX11_deny : ByteArray := prog_1_method_70_code
def yX11_deny : MethodName := ⟨RX11, "deny", "(I)Z"⟩
abbrev cX11_tell : ByteArray := prog_1_method_71_code
def yX11_tell : MethodName := ⟨RX11, "tell", "(JJ)Z"⟩
abbrev cX11_commonDivisor : ByteArray := prog_1_method_72_code
def yX11_commonDivisor : MethodName := ⟨RX11, "commonDivisor", "(JJ)J"⟩
abbrev cX11_isCouple : ByteArray := prog_1_method_73_code
def yX11_isCouple : MethodName := ⟨RX11, "isCouple", "(II)Z"⟩
abbrev cX11_within : ByteArray := prog_1_method_74_code
def yX11_within : MethodName := ⟨RX11, "within", "(III)Z"⟩
abbrev cX11_warmBy : ByteArray := prog_1_method_75_code
def yX11_warmBy : MethodName := ⟨RX11, "warmBy", "(IIII)I"⟩
def RX12 : String := "ToastMapModel"
def TX12 : u_T := fun k => match k with
  | 0 => ("ToastMapModel", "at", "[I", true)
  | 1 => ("ToastMapModel", "names", "[J", true)
  | 2 => ("ToastMapModel", "status", "I", false)
  | 3 => ("ToastMapModel", "top", "J", false)
  | 4 => ("ToastMapModel", "bottom", "J", false)
  | 5 => ("ToastMapModel", "sort", "[I", true)
  | 6 => ("ToastMapModel", "trayMany", "[I", true)
  | 7 => ("ToastMapModel", "trays", "[J", true)
  | 8 => ("ToastMapModel", "tape", "[B", true)
  | 9 => ("ToastMapModel", "text", "[B", true)
  | 10 => ("ToastMapModel", "taped", "I", false)
  | 11 => ("ToastMapModel", "size", "I", false)
  | 12 => ("ToastMapModel", "token", "I", false)
  | 13 => ("ToastMapModel", "from", "I", false)
  | 14 => ("ToastMapModel", "end", "I", false)
  | 15 => ("ToastMapModel", "value", "I", false)
  | 16 => ("ToastMapModel", "faultKind", "I", false)
  | 17 => ("ToastMapModel", "faultPlace", "I", false)
  | 18 => ("ToastMapModel", "faults", "I", false)
  | 19 => ("ToastMapModel", "seen", "I", false)
  | 20 => ("ToastMapModel", "toldParts", "I", false)
  | 21 => ("ToastMapModel", "opened", "[I", true)
  | 22 => ("ToastMapModel", "depth", "I", false)
  | 23 => ("ToastMapModel", "counted", "I", false)
  | 24 => ("ToastMapModel", "comesBy", "[I", true)
  | 25 => ("ToastMapModel", "eveningBy", "[I", true)
  | 26 => ("ToastMapModel", "settledAt", "I", false)
  | 27 => ("ToastMapModel", "settledFor", "I", false)
  | 28 => ("ToastMapModel", "chainBy", "[I", true)
  | 29 => ("ToastMapModel", "chainMany", "I", false)
  | 30 => ("ToastMapModel", "needBy", "[I", true)
  | 31 => ("ToastMapModel", "hasBy", "[I", true)
  | 32 => ("ToastMapModel", "firstBy", "[I", true)
  | 33 => ("ToastMapModel", "warmsBy", "[I", true)
  | 34 => ("ToastMapModel", "wayMany", "I", false)
  | 35 => ("ToastMapModel", "testBy", "[J", true)
  | 36 => ("ToastMapModel", "doneAt", "[I", true)
  | 37 => ("ToastMapModel", "gotAt", "[I", true)
  | 38 => ("ToastMapModel", "bestDeed", "[I", true)
  | 39 => ("ToastMapModel", "drawn", "I", false)
  | 40 => ("ToastMapModel", "ranSteps", "I", false)
  | 41 => ("ToastMapModel", "loops", "[I", true)
  | 42 => ("ToastMapModel", "ran", "[I", true)
  | 43 => ("ToastMapModel", "told1", "[I", true)
  | 44 => ("ToastMapModel", "isTold", "Z", false)
  | _ => ("ToastMapModel", "marks", "I", false)
def tyX12 : Nat → FieldType := fun k => match k with
  | 0 => .array .int
  | 1 => .array .long
  | 2 => .int
  | 3 => .long
  | 4 => .long
  | 5 => .array .int
  | 6 => .array .int
  | 7 => .array .long
  | 8 => .array .byte
  | 9 => .array .byte
  | 10 => .int
  | 11 => .int
  | 12 => .int
  | 13 => .int
  | 14 => .int
  | 15 => .int
  | 16 => .int
  | 17 => .int
  | 18 => .int
  | 19 => .int
  | 20 => .int
  | 21 => .array .int
  | 22 => .int
  | 23 => .int
  | 24 => .array .int
  | 25 => .array .int
  | 26 => .int
  | 27 => .int
  | 28 => .array .int
  | 29 => .int
  | 30 => .array .int
  | 31 => .array .int
  | 32 => .array .int
  | 33 => .array .int
  | 34 => .int
  | 35 => .array .long
  | 36 => .array .int
  | 37 => .array .int
  | 38 => .array .int
  | 39 => .int
  | 40 => .int
  | 41 => .array .int
  | 42 => .array .int
  | 43 => .array .int
  | 44 => .boolean
  | _ => .int
abbrev wsX120 : List Cond := u_ws RX12 TX12 46
theorem nmX12 : ∀ a, a < 46 → ∀ b, b < 46 → a ≠ b → (TX12 a).2.1 ≠ (TX12 b).2.1 := by decide +kernel
theorem tyX12_ok : ∀ k, k < 46 → parseFieldDescriptor (TX12 k).2.2.1 = some (tyX12 k) := by decide +kernel
abbrev cX12_init : ByteArray := prog_14_method_1_code
def yX12_init : MethodName := ⟨RX12, "<init>", "()V"⟩
abbrev cX12_plain : ByteArray := prog_14_method_2_code
def yX12_plain : MethodName := ⟨RX12, "plain", "(I)V"⟩
abbrev cX12_status : ByteArray := prog_14_method_3_code
def yX12_status : MethodName := ⟨RX12, "status", "()I"⟩
abbrev cX12_top : ByteArray := prog_14_method_4_code
def yX12_top : MethodName := ⟨RX12, "top", "()J"⟩
abbrev cX12_bottom : ByteArray := prog_14_method_5_code
def yX12_bottom : MethodName := ⟨RX12, "bottom", "()J"⟩
abbrev cX12_is : ByteArray := prog_14_method_6_code
def yX12_is : MethodName := ⟨RX12, "is", "(I)Z"⟩
abbrev cX12_refuse : ByteArray := prog_14_method_7_code
def yX12_refuse : MethodName := ⟨RX12, "refuse", "(I)I"⟩
abbrev cX12_gives : ByteArray := prog_14_method_8_code
def yX12_gives : MethodName := ⟨RX12, "gives", "(I)I"⟩
abbrev cX12_tellsBy : ByteArray := prog_14_method_10_code
def yX12_tellsBy : MethodName := ⟨RX12, "tellsBy", "(JJ)Z"⟩
abbrev cX12_isTray : ByteArray := prog_14_method_11_code
def yX12_isTray : MethodName := ⟨RX12, "isTray", "(I)Z"⟩
abbrev cX12_shrunk : ByteArray := prog_14_method_12_code
def yX12_shrunk : MethodName := ⟨RX12, "shrunk", "(JI)J"⟩
abbrev cX12_tray : ByteArray := prog_14_method_13_code
def yX12_tray : MethodName := ⟨RX12, "tray", "(III)Z"⟩
abbrev cX12_wrongPlace : ByteArray := prog_14_method_14_code
def yX12_wrongPlace : MethodName := ⟨RX12, "wrongPlace", "(II)I"⟩
abbrev cX12_write : ByteArray := prog_14_method_15_code
def yX12_write : MethodName := ⟨RX12, "write", "(IIJ)Z"⟩
abbrev cX12_read : ByteArray := prog_14_method_16_code
def yX12_read : MethodName := ⟨RX12, "read", "(II)J"⟩
abbrev cX12_pour : ByteArray := prog_14_method_17_code
def yX12_pour : MethodName := ⟨RX12, "pour", "(IIIII)Z"⟩
abbrev cX12_isFrom : ByteArray := prog_14_method_18_code
def yX12_isFrom : MethodName := ⟨RX12, "isFrom", "(JJJ)Z"⟩
abbrev cX12_feed : ByteArray := prog_14_method_19_code
def yX12_feed : MethodName := ⟨RX12, "feed", "(IIIII)I"⟩
abbrev cX12_four : ByteArray := prog_14_method_20_code
def yX12_four : MethodName := ⟨RX12, "four", "(I)V"⟩
abbrev cX12_byteAt : ByteArray := prog_14_method_21_code
def yX12_byteAt : MethodName := ⟨RX12, "byteAt", "(I)I"⟩
abbrev cX12_isSmall : ByteArray := prog_14_method_22_code
def yX12_isSmall : MethodName := ⟨RX12, "isSmall", "(I)Z"⟩
abbrev cX12_isDigit : ByteArray := prog_14_method_23_code
def yX12_isDigit : MethodName := ⟨RX12, "isDigit", "(I)Z"⟩
abbrev cX12_ahead : ByteArray := prog_14_method_24_code
def yX12_ahead : MethodName := ⟨RX12, "ahead", "()V"⟩
abbrev cX12_isSign : ByteArray := prog_14_method_25_code
def yX12_isSign : MethodName := ⟨RX12, "isSign", "(I)Z"⟩
abbrev cX12_inWords : ByteArray := prog_14_method_26_code
def yX12_inWords : MethodName := ⟨RX12, "inWords", "(Ljava/lang/String;)I"⟩
abbrev cX12_fails : ByteArray := prog_14_method_27_code
def yX12_fails : MethodName := ⟨RX12, "fails", "(I)Z"⟩
abbrev cX12_begins : ByteArray := prog_14_method_28_code
def yX12_begins : MethodName := ⟨RX12, "begins", "(II)Z"⟩
abbrev cX12_wantSign : ByteArray := prog_14_method_29_code
def yX12_wantSign : MethodName := ⟨RX12, "wantSign", "(I)Z"⟩
abbrev cX12_wantWord : ByteArray := prog_14_method_30_code
def yX12_wantWord : MethodName := ⟨RX12, "wantWord", "(Ljava/lang/String;I)Z"⟩
abbrev cX12_number : ByteArray := prog_14_method_31_code
def yX12_number : MethodName := ⟨RX12, "number", "(III)Z"⟩
abbrev cX12_isName : ByteArray := prog_14_method_32_code
def yX12_isName : MethodName := ⟨RX12, "isName", "(Ljava/lang/String;)Z"⟩
abbrev cX12_nameHere : ByteArray := prog_14_method_33_code
def yX12_nameHere : MethodName := ⟨RX12, "nameHere", "()J"⟩
abbrev cX12_findHere : ByteArray := prog_14_method_34_code
def yX12_findHere : MethodName := ⟨RX12, "findHere", "(II)I"⟩
abbrev cX12_fault : ByteArray := prog_14_method_35_code
def yX12_fault : MethodName := ⟨RX12, "fault", "(I)I"⟩
abbrev cX12_taken : ByteArray := prog_14_method_36_code
def yX12_taken : MethodName := ⟨RX12, "taken", "(I)I"⟩
abbrev cX12_personRow : ByteArray := prog_14_method_37_code
def yX12_personRow : MethodName := ⟨RX12, "personRow", "(I)I"⟩
abbrev cX12_isIn : ByteArray := prog_14_method_38_code
def yX12_isIn : MethodName := ⟨RX12, "isIn", "(II)Z"⟩
abbrev cX12_isThere : ByteArray := prog_14_method_39_code
def yX12_isThere : MethodName := ⟨RX12, "isThere", "(I)Z"⟩
abbrev cX12_perhaps : ByteArray := prog_14_method_40_code
def yX12_perhaps : MethodName := ⟨RX12, "perhaps", "(IIIII)Z"⟩
abbrev cX12_leastOf : ByteArray := prog_14_method_41_code
def yX12_leastOf : MethodName := ⟨RX12, "leastOf", "(I)I"⟩
abbrev cX12_mostOf : ByteArray := prog_14_method_42_code
def yX12_mostOf : MethodName := ⟨RX12, "mostOf", "(I)I"⟩
abbrev cX12_aPerson : ByteArray := prog_14_method_43_code
def yX12_aPerson : MethodName := ⟨RX12, "aPerson", "()Z"⟩
abbrev cX12_aToast : ByteArray := prog_14_method_44_code
def yX12_aToast : MethodName := ⟨RX12, "aToast", "()Z"⟩
abbrev cX12_mapPart : ByteArray := prog_14_method_45_code
def yX12_mapPart : MethodName := ⟨RX12, "mapPart", "()Z"⟩
abbrev cX12_map : ByteArray := prog_14_method_46_code
def yX12_map : MethodName := ⟨RX12, "map", "(I)I"⟩
abbrev cX12_personTo : ByteArray := prog_14_method_47_code
def yX12_personTo : MethodName := ⟨RX12, "personTo", "(I)Z"⟩
abbrev cX12_test : ByteArray := prog_14_method_48_code
def yX12_test : MethodName := ⟨RX12, "test", "(I)Z"⟩
abbrev cX12_timeOrder : ByteArray := prog_14_method_49_code
def yX12_timeOrder : MethodName := ⟨RX12, "timeOrder", "(II)Z"⟩
abbrev cX12_timeStep : ByteArray := prog_14_method_50_code
def yX12_timeStep : MethodName := ⟨RX12, "timeStep", "()Z"⟩
abbrev cX12_times : ByteArray := prog_14_method_51_code
def yX12_times : MethodName := ⟨RX12, "times", "(I)I"⟩
abbrev cX12_isPerson : ByteArray := prog_14_method_52_code
def yX12_isPerson : MethodName := ⟨RX12, "isPerson", "(I)Z"⟩
abbrev cX12_areTwo : ByteArray := prog_14_method_53_code
def yX12_areTwo : MethodName := ⟨RX12, "areTwo", "(II)Z"⟩
abbrev cX12_bits : ByteArray := prog_14_method_54_code
def yX12_bits : MethodName := ⟨RX12, "bits", "(I)I"⟩
abbrev cX12_personOf : ByteArray := prog_14_method_55_code
def yX12_personOf : MethodName := ⟨RX12, "personOf", "(II)I"⟩
abbrev cX12_whomOf : ByteArray := prog_14_method_56_code
def yX12_whomOf : MethodName := ⟨RX12, "whomOf", "(I)I"⟩
abbrev cX12_farBetween : ByteArray := prog_14_method_57_code
def yX12_farBetween : MethodName := ⟨RX12, "farBetween", "(II)I"⟩
abbrev cX12_warmBy : ByteArray := prog_14_method_58_code
def yX12_warmBy : MethodName := ⟨RX12, "warmBy", "(IIII)I"⟩
abbrev cX12_warmOf : ByteArray := prog_14_method_59_code
def yX12_warmOf : MethodName := ⟨RX12, "warmOf", "(I)I"⟩
abbrev cX12_isLit : ByteArray := prog_14_method_60_code
def yX12_isLit : MethodName := ⟨RX12, "isLit", "(I)Z"⟩
abbrev cX12_areLit : ByteArray := prog_14_method_61_code
def yX12_areLit : MethodName := ⟨RX12, "areLit", "()I"⟩
abbrev cX12_haveWhom : ByteArray := prog_14_method_62_code
def yX12_haveWhom : MethodName := ⟨RX12, "haveWhom", "()I"⟩
abbrev cX12_warmersOf : ByteArray := prog_14_method_63_code
def yX12_warmersOf : MethodName := ⟨RX12, "warmersOf", "(I)I"⟩
abbrev cX12_together : ByteArray := prog_14_method_64_code
def yX12_together : MethodName := ⟨RX12, "together", "(I)I"⟩
abbrev cX12_told : ByteArray := prog_14_method_65_code
def yX12_told : MethodName := ⟨RX12, "told", "(I)I"⟩
abbrev cX12_person : ByteArray := prog_14_method_66_code
def yX12_person : MethodName := ⟨RX12, "person", "(II)I"⟩
abbrev cX12_far : ByteArray := prog_14_method_67_code
def yX12_far : MethodName := ⟨RX12, "far", "(II)I"⟩
abbrev cX12_warms : ByteArray := prog_14_method_68_code
def yX12_warms : MethodName := ⟨RX12, "warms", "(II)V"⟩
abbrev cX12_drinks : ByteArray := prog_14_method_69_code
def yX12_drinks : MethodName := ⟨RX12, "drinks", "(I)Z"⟩
abbrev cX12_drink : ByteArray := prog_14_method_70_code
def yX12_drink : MethodName := ⟨RX12, "drink", "(I)I"⟩
abbrev cX12_cools : ByteArray := prog_14_method_71_code
def yX12_cools : MethodName := ⟨RX12, "cools", "(I)V"⟩
abbrev cX12_nightGoes : ByteArray := prog_14_method_72_code
def yX12_nightGoes : MethodName := ⟨RX12, "nightGoes", "()V"⟩
abbrev cX12_nightsGo : ByteArray := prog_14_method_73_code
def yX12_nightsGo : MethodName := ⟨RX12, "nightsGo", "(I)V"⟩
abbrev cX12_night : ByteArray := prog_14_method_74_code
def yX12_night : MethodName := ⟨RX12, "night", "(I)I"⟩
abbrev cX12_eveningGoes : ByteArray := prog_14_method_75_code
def yX12_eveningGoes : MethodName := ⟨RX12, "eveningGoes", "(I)I"⟩
abbrev cX12_evening : ByteArray := prog_14_method_76_code
def yX12_evening : MethodName := ⟨RX12, "evening", "()I"⟩
abbrev cX12_fills : ByteArray := prog_14_method_77_code
def yX12_fills : MethodName := ⟨RX12, "fills", "(II)Z"⟩
abbrev cX12_fill : ByteArray := prog_14_method_78_code
def yX12_fill : MethodName := ⟨RX12, "fill", "(II)I"⟩
abbrev cX12_means : ByteArray := prog_14_method_79_code
def yX12_means : MethodName := ⟨RX12, "means", "(II)I"⟩
abbrev cX12_move : ByteArray := prog_14_method_80_code
def yX12_move : MethodName := ⟨RX12, "move", "(II)I"⟩
abbrev cX12_aim : ByteArray := prog_14_method_81_code
def yX12_aim : MethodName := ⟨RX12, "aim", "(II)I"⟩
abbrev cX12_come : ByteArray := prog_14_method_82_code
def yX12_come : MethodName := ⟨RX12, "come", "(I)I"⟩
abbrev cX12_rule : ByteArray := prog_14_method_83_code
def yX12_rule : MethodName := ⟨RX12, "rule", "(II)Z"⟩
abbrev cX12_levelAt : ByteArray := prog_14_method_84_code
def yX12_levelAt : MethodName := ⟨RX12, "levelAt", "(I)I"⟩
abbrev cX12_keeps : ByteArray := prog_14_method_85_code
def yX12_keeps : MethodName := ⟨RX12, "keeps", "(I)V"⟩
abbrev cX12_restores : ByteArray := prog_14_method_86_code
def yX12_restores : MethodName := ⟨RX12, "restores", "(I)V"⟩
abbrev cX12_cooled : ByteArray := prog_14_method_87_code
def yX12_cooled : MethodName := ⟨RX12, "cooled", "(II)I"⟩
abbrev cX12_warmIn : ByteArray := prog_14_method_88_code
def yX12_warmIn : MethodName := ⟨RX12, "warmIn", "(II)I"⟩
abbrev cX12_darkIn : ByteArray := prog_14_method_89_code
def yX12_darkIn : MethodName := ⟨RX12, "darkIn", "(I)I"⟩
abbrev cX12_eveningsGo : ByteArray := prog_14_method_90_code
def yX12_eveningsGo : MethodName := ⟨RX12, "eveningsGo", "(I)V"⟩
abbrev cX12_eveningIn : ByteArray := prog_14_method_91_code
def yX12_eveningIn : MethodName := ⟨RX12, "eveningIn", "(II)I"⟩
abbrev cX12_litIn : ByteArray := prog_14_method_92_code
def yX12_litIn : MethodName := ⟨RX12, "litIn", "(I)I"⟩
abbrev cX12_isAlike : ByteArray := prog_14_method_93_code
def yX12_isAlike : MethodName := ⟨RX12, "isAlike", "(II)Z"⟩
abbrev cX12_laysSettled : ByteArray := prog_14_method_94_code
def yX12_laysSettled : MethodName := ⟨RX12, "laysSettled", "()Z"⟩
abbrev cX12_settles : ByteArray := prog_14_method_95_code
def yX12_settles : MethodName := ⟨RX12, "settles", "()I"⟩
abbrev cX12_period : ByteArray := prog_14_method_96_code
def yX12_period : MethodName := ⟨RX12, "period", "()I"⟩
abbrev cX12_laysChain : ByteArray := prog_14_method_97_code
def yX12_laysChain : MethodName := ⟨RX12, "laysChain", "(I)V"⟩
abbrev cX12_chain : ByteArray := prog_14_method_98_code
def yX12_chain : MethodName := ⟨RX12, "chain", "(I)I"⟩
abbrev cX12_chainAt : ByteArray := prog_14_method_99_code
def yX12_chainAt : MethodName := ⟨RX12, "chainAt", "(II)I"⟩
abbrev cX12_ringOf : ByteArray := prog_14_method_100_code
def yX12_ringOf : MethodName := ⟨RX12, "ringOf", "(I)I"⟩
abbrev cX12_rings : ByteArray := prog_14_method_101_code
def yX12_rings : MethodName := ⟨RX12, "rings", "()I"⟩
abbrev cX12_inRings : ByteArray := prog_14_method_102_code
def yX12_inRings : MethodName := ⟨RX12, "inRings", "()I"⟩
abbrev cX12_needsOf : ByteArray := prog_14_method_103_code
def yX12_needsOf : MethodName := ⟨RX12, "needsOf", "(I)I"⟩
abbrev cX12_needs : ByteArray := prog_14_method_104_code
def yX12_needs : MethodName := ⟨RX12, "needs", "(I)I"⟩
abbrev cX12_mostOfAll : ByteArray := prog_14_method_105_code
def yX12_mostOfAll : MethodName := ⟨RX12, "mostOfAll", "(I)I"⟩
abbrev cX12_most : ByteArray := prog_14_method_106_code
def yX12_most : MethodName := ⟨RX12, "most", "(I)I"⟩
abbrev cX12_mostSet : ByteArray := prog_14_method_107_code
def yX12_mostSet : MethodName := ⟨RX12, "mostSet", "(I)I"⟩
abbrev cX12_litBehind : ByteArray := prog_14_method_108_code
def yX12_litBehind : MethodName := ⟨RX12, "litBehind", "(I)I"⟩
abbrev cX12_misses : ByteArray := prog_14_method_109_code
def yX12_misses : MethodName := ⟨RX12, "misses", "(I)I"⟩
abbrev cX12_wrongSeen : ByteArray := prog_14_method_110_code
def yX12_wrongSeen : MethodName := ⟨RX12, "wrongSeen", "(II)I"⟩
abbrev cX12_isWay : ByteArray := prog_14_method_111_code
def yX12_isWay : MethodName := ⟨RX12, "isWay", "(II)Z"⟩
abbrev cX12_counts : ByteArray := prog_14_method_112_code
def yX12_counts : MethodName := ⟨RX12, "counts", "()V"⟩
abbrev cX12_mayHave : ByteArray := prog_14_method_113_code
def yX12_mayHave : MethodName := ⟨RX12, "mayHave", "(II)Z"⟩
abbrev cX12_laysWays : ByteArray := prog_14_method_114_code
def yX12_laysWays : MethodName := ⟨RX12, "laysWays", "(II)V"⟩
abbrev cX12_fits : ByteArray := prog_14_method_115_code
def yX12_fits : MethodName := ⟨RX12, "fits", "(II)I"⟩
abbrev cX12_firstOf : ByteArray := prog_14_method_116_code
def yX12_firstOf : MethodName := ⟨RX12, "firstOf", "(III)I"⟩
abbrev cX12_oddsThat : ByteArray := prog_14_method_117_code
def yX12_oddsThat : MethodName := ⟨RX12, "oddsThat", "(IIII)Z"⟩
abbrev cX12_mostAlike : ByteArray := prog_14_method_118_code
def yX12_mostAlike : MethodName := ⟨RX12, "mostAlike", "(I)I"⟩
abbrev cX12_ask : ByteArray := prog_14_method_119_code
def yX12_ask : MethodName := ⟨RX12, "ask", "(II)I"⟩
abbrev cX12_wrongLaw : ByteArray := prog_14_method_120_code
def yX12_wrongLaw : MethodName := ⟨RX12, "wrongLaw", "(II)I"⟩
abbrev cX12_isLaw : ByteArray := prog_14_method_121_code
def yX12_isLaw : MethodName := ⟨RX12, "isLaw", "(III)Z"⟩
abbrev cX12_laws : ByteArray := prog_14_method_122_code
def yX12_laws : MethodName := ⟨RX12, "laws", "(II)I"⟩
abbrev cX12_lawOf : ByteArray := prog_14_method_123_code
def yX12_lawOf : MethodName := ⟨RX12, "lawOf", "(III)I"⟩
abbrev cX12_atLeast : ByteArray := prog_14_method_124_code
def yX12_atLeast : MethodName := ⟨RX12, "atLeast", "(III)J"⟩
abbrev cX12_waysOf : ByteArray := prog_14_method_125_code
def yX12_waysOf : MethodName := ⟨RX12, "waysOf", "(I)J"⟩
abbrev cX12_errorOf : ByteArray := prog_14_method_126_code
def yX12_errorOf : MethodName := ⟨RX12, "errorOf", "(III)J"⟩
abbrev cX12_error : ByteArray := prog_14_method_127_code
def yX12_error : MethodName := ⟨RX12, "error", "(III)Z"⟩
abbrev cX12_cut : ByteArray := prog_14_method_128_code
def yX12_cut : MethodName := ⟨RX12, "cut", "(I)I"⟩
abbrev cX12_settlesAt : ByteArray := prog_14_method_129_code
def yX12_settlesAt : MethodName := ⟨RX12, "settlesAt", "(II)V"⟩
abbrev cX12_beginsAt : ByteArray := prog_14_method_130_code
def yX12_beginsAt : MethodName := ⟨RX12, "beginsAt", "(I)V"⟩
abbrev cX12_playing : ByteArray := prog_14_method_131_code
def yX12_playing : MethodName := ⟨RX12, "playing", "(I)I"⟩
abbrev cX12_game : ByteArray := prog_14_method_132_code
def yX12_game : MethodName := ⟨RX12, "game", "(I)I"⟩
abbrev cX12_moveOf : ByteArray := prog_14_method_133_code
def yX12_moveOf : MethodName := ⟨RX12, "moveOf", "(I)I"⟩
abbrev cX12_share : ByteArray := prog_14_method_134_code
def yX12_share : MethodName := ⟨RX12, "share", "(I)Z"⟩
abbrev cX12_copyWarmth : ByteArray := prog_14_method_135_code
def yX12_copyWarmth : MethodName := ⟨RX12, "copyWarmth", "(I)I"⟩
abbrev cX12_draw : ByteArray := prog_14_method_136_code
def yX12_draw : MethodName := ⟨RX12, "draw", "(I)I"⟩
abbrev cX12_nightsBy : ByteArray := prog_14_method_137_code
def yX12_nightsBy : MethodName := ⟨RX12, "nightsBy", "(I)Z"⟩
abbrev cX12_drinksBy : ByteArray := prog_14_method_138_code
def yX12_drinksBy : MethodName := ⟨RX12, "drinksBy", "(I)Z"⟩
abbrev cX12_eveningsBy : ByteArray := prog_14_method_139_code
def yX12_eveningsBy : MethodName := ⟨RX12, "eveningsBy", "()Z"⟩
abbrev cX12_doesAny : ByteArray := prog_14_method_140_code
def yX12_doesAny : MethodName := ⟨RX12, "doesAny", "()Z"⟩
abbrev cX12_does : ByteArray := prog_14_method_141_code
def yX12_does : MethodName := ⟨RX12, "does", "(I)Z"⟩
abbrev cX12_holds : ByteArray := prog_14_method_142_code
def yX12_holds : MethodName := ⟨RX12, "holds", "(I)Z"⟩
abbrev cX12_behindEnds : ByteArray := prog_14_method_143_code
def yX12_behindEnds : MethodName := ⟨RX12, "behindEnds", "(I)I"⟩
abbrev cX12_lives : ByteArray := prog_14_method_144_code
def yX12_lives : MethodName := ⟨RX12, "lives", "(I)V"⟩
abbrev cX12_live : ByteArray := prog_14_method_145_code
def yX12_live : MethodName := ⟨RX12, "live", "(I)I"⟩
abbrev cX12_lived : ByteArray := prog_14_method_146_code
def yX12_lived : MethodName := ⟨RX12, "lived", "(I)I"⟩
abbrev cX12_mean : ByteArray := prog_14_method_147_code
def yX12_mean : MethodName := ⟨RX12, "mean", "(II)Z"⟩
abbrev cX12_copies : ByteArray := prog_14_method_148_code
def yX12_copies : MethodName := ⟨RX12, "copies", "(II)V"⟩
abbrev cX12_mark : ByteArray := prog_14_method_149_code
def yX12_mark : MethodName := ⟨RX12, "mark", "()I"⟩
abbrev cX12_undo : ByteArray := prog_14_method_150_code
def yX12_undo : MethodName := ⟨RX12, "undo", "()I"⟩
def RJ6 : String := "java/lang/Integer"
def TJ6 : u_T := fun k => match k with
  | _ => ("", "", "", false)
def tyJ6 : Nat → FieldType := fun k => match k with
  | _ => .int
abbrev wsJ60 : List Cond := u_ws RJ6 TJ6 0
theorem nmJ6 : ∀ a, a < 0 → ∀ b, b < 0 → a ≠ b → (TJ6 a).2.1 ≠ (TJ6 b).2.1 := by decide +kernel
theorem tyJ6_ok : ∀ k, k < 0 → parseFieldDescriptor (TJ6 k).2.2.1 = some (tyJ6 k) := by decide +kernel
abbrev cJ6_bitCount_0f7a4 : ByteArray := prog_15_method_49_code
def yJ6_bitCount_0f7a4 : MethodName := ⟨RJ6, "bitCount", "(I)I"⟩
def RJ9 : String := "java/lang/Math"
def TJ9 : u_T := fun k => match k with
  | _ => ("", "", "", false)
def tyJ9 : Nat → FieldType := fun k => match k with
  | _ => .int
abbrev wsJ90 : List Cond := u_ws RJ9 TJ9 0
theorem nmJ9 : ∀ a, a < 0 → ∀ b, b < 0 → a ≠ b → (TJ9 a).2.1 ≠ (TJ9 b).2.1 := by decide +kernel
theorem tyJ9_ok : ∀ k, k < 0 → parseFieldDescriptor (TJ9 k).2.2.1 = some (tyJ9 k) := by decide +kernel
abbrev cJ9_abs_0f7a4 : ByteArray := prog_16_method_59_code
def yJ9_abs_0f7a4 : MethodName := ⟨RJ9, "abs", "(I)I"⟩
abbrev cJ9_max_7cf53 : ByteArray := prog_16_method_65_code
def yJ9_max_7cf53 : MethodName := ⟨RJ9, "max", "(II)I"⟩
abbrev cJ9_max_f86c9 : ByteArray := prog_16_method_66_code
def yJ9_max_f86c9 : MethodName := ⟨RJ9, "max", "(JJ)J"⟩
abbrev cJ9_min_7cf53 : ByteArray := prog_16_method_69_code
def yJ9_min_7cf53 : MethodName := ⟨RJ9, "min", "(II)I"⟩
def RJ0 : String := "java/lang/String"
def TJ0 : u_T := fun k => match k with
  | _ => ("", "", "", false)
def tyJ0 : Nat → FieldType := fun k => match k with
  | _ => .int
abbrev wsJ00 : List Cond := u_ws RJ0 TJ0 0
theorem nmJ0 : ∀ a, a < 0 → ∀ b, b < 0 → a ≠ b → (TJ0 a).2.1 ≠ (TJ0 b).2.1 := by decide +kernel
theorem tyJ0_ok : ∀ k, k < 0 → parseFieldDescriptor (TJ0 k).2.2.1 = some (tyJ0 k) := by decide +kernel
abbrev cJ0_length_8abf5 : ByteArray := prog_17_method_54_code
def yJ0_length_8abf5 : MethodName := ⟨RJ0, "length", "()I"⟩
abbrev cJ0_charAt_5068e : ByteArray := prog_17_method_56_code
def yJ0_charAt_5068e : MethodName := ⟨RJ0, "charAt", "(I)C"⟩
abbrev cJ0_coder_7d493 : ByteArray := prog_17_method_152_code
def yJ0_coder_7d493 : MethodName := ⟨RJ0, "coder", "()B"⟩
abbrev cJ0_isLatin1_aae02 : ByteArray := prog_17_method_154_code
def yJ0_isLatin1_aae02 : MethodName := ⟨RJ0, "isLatin1", "()Z"⟩
abbrev cJ0_checkIndex_df160 : ByteArray := prog_17_method_155_code
def yJ0_checkIndex_df160 : MethodName := ⟨RJ0, "checkIndex", "(II)V"⟩
def RJ1 : String := "java/lang/StringLatin1"
def TJ1 : u_T := fun k => match k with
  | _ => ("", "", "", false)
def tyJ1 : Nat → FieldType := fun k => match k with
  | _ => .int
abbrev wsJ10 : List Cond := u_ws RJ1 TJ1 0
theorem nmJ1 : ∀ a, a < 0 → ∀ b, b < 0 → a ≠ b → (TJ1 a).2.1 ≠ (TJ1 b).2.1 := by decide +kernel
theorem tyJ1_ok : ∀ k, k < 0 → parseFieldDescriptor (TJ1 k).2.2.1 = some (tyJ1 k) := by decide +kernel
abbrev cJ1_charAt_3b067 : ByteArray := prog_18_method_2_code
def yJ1_charAt_3b067 : MethodName := ⟨RJ1, "charAt", "([BI)C"⟩
def RJ2 : String := "java/lang/StringUTF16"
def TJ2 : u_T := fun k => match k with
  | _ => ("", "", "", false)
def tyJ2 : Nat → FieldType := fun k => match k with
  | _ => .int
abbrev wsJ20 : List Cond := u_ws RJ2 TJ2 0
theorem nmJ2 : ∀ a, a < 0 → ∀ b, b < 0 → a ≠ b → (TJ2 a).2.1 ≠ (TJ2 b).2.1 := by decide +kernel
theorem tyJ2_ok : ∀ k, k < 0 → parseFieldDescriptor (TJ2 k).2.2.1 = some (tyJ2 k) := by decide +kernel
abbrev cJ2_getChar_3b067 : ByteArray := prog_19_method_5_code
def yJ2_getChar_3b067 : MethodName := ⟨RJ2, "getChar", "([BI)C"⟩
abbrev cJ2_length_9d52b : ByteArray := prog_19_method_6_code
def yJ2_length_9d52b : MethodName := ⟨RJ2, "length", "([B)I"⟩
abbrev cJ2_charAt_3b067 : ByteArray := prog_19_method_83_code
def yJ2_charAt_3b067 : MethodName := ⟨RJ2, "charAt", "([BI)C"⟩
abbrev cJ2_checkIndex_2214a : ByteArray := prog_19_method_91_code
def yJ2_checkIndex_2214a : MethodName := ⟨RJ2, "checkIndex", "(I[B)V"⟩
def RJ10 : String := "java/lang/System"
def TJ10 : u_T := fun k => match k with
  | _ => ("", "", "", false)
def tyJ10 : Nat → FieldType := fun k => match k with
  | _ => .int
abbrev wsJ100 : List Cond := u_ws RJ10 TJ10 0
theorem nmJ10 : ∀ a, a < 0 → ∀ b, b < 0 → a ≠ b → (TJ10 a).2.1 ≠ (TJ10 b).2.1 := by decide +kernel
theorem tyJ10_ok : ∀ k, k < 0 → parseFieldDescriptor (TJ10 k).2.2.1 = some (tyJ10 k) := by decide +kernel
def RJ3 : String := "jdk/internal/util/Preconditions"
def TJ3 : u_T := fun k => match k with
  | _ => ("", "", "", false)
def tyJ3 : Nat → FieldType := fun k => match k with
  | _ => .int
abbrev wsJ30 : List Cond := u_ws RJ3 TJ3 0
theorem nmJ3 : ∀ a, a < 0 → ∀ b, b < 0 → a ≠ b → (TJ3 a).2.1 ≠ (TJ3 b).2.1 := by decide +kernel
theorem tyJ3_ok : ∀ k, k < 0 → parseFieldDescriptor (TJ3 k).2.2.1 = some (tyJ3 k) := by decide +kernel
abbrev cJ3_checkIndex_8e157 : ByteArray := prog_21_method_11_code
def yJ3_checkIndex_8e157 : MethodName := ⟨RJ3, "checkIndex", "(IILjava/util/function/BiFunction;)I"⟩
def RL : String := "ToastMapLaw"
abbrev cL_law : ByteArray := code
def yL_law : MethodName := ⟨RL, "law", "([I)Z"⟩
abbrev vwCl : List vw_C := [(RX0, TX0, 10), (RX1, TX1, 4), (RX2, TX2, 2), (RX3, TX3, 8), (RX4, TX4, 3), (RX5, TX5, 3), (RX6, TX6, 13), (RX7, TX7, 9), (RX8, TX8, 4), (RX9, TX9, 3), (RX10, TX10, 5), (RX11, TX11, 19), (RX12, TX12, 46)]
set_option maxRecDepth 20000 in
theorem inX0 : ∀ w ∈ wsX00, w ∈ lw_tbl := by decide +kernel
set_option maxRecDepth 20000 in
theorem inX1 : ∀ w ∈ wsX10, w ∈ lw_tbl := by decide +kernel
set_option maxRecDepth 20000 in
theorem inX2 : ∀ w ∈ wsX20, w ∈ lw_tbl := by decide +kernel
set_option maxRecDepth 20000 in
theorem inX3 : ∀ w ∈ wsX30, w ∈ lw_tbl := by decide +kernel
set_option maxRecDepth 20000 in
theorem inX4 : ∀ w ∈ wsX40, w ∈ lw_tbl := by decide +kernel
set_option maxRecDepth 20000 in
theorem inX5 : ∀ w ∈ wsX50, w ∈ lw_tbl := by decide +kernel
set_option maxRecDepth 20000 in
theorem inX6 : ∀ w ∈ wsX60, w ∈ lw_tbl := by decide +kernel
set_option maxRecDepth 20000 in
theorem inX7 : ∀ w ∈ wsX70, w ∈ lw_tbl := by decide +kernel
set_option maxRecDepth 20000 in
theorem inX8 : ∀ w ∈ wsX80, w ∈ lw_tbl := by decide +kernel
set_option maxRecDepth 20000 in
theorem inX9 : ∀ w ∈ wsX90, w ∈ lw_tbl := by decide +kernel
set_option maxRecDepth 20000 in
theorem inX10 : ∀ w ∈ wsX100, w ∈ lw_tbl := by decide +kernel
set_option maxRecDepth 20000 in
theorem inX11 : ∀ w ∈ wsX110, w ∈ lw_tbl := by decide +kernel
set_option maxRecDepth 20000 in
theorem inX12 : ∀ w ∈ wsX120, w ∈ lw_tbl := by decide +kernel
theorem inJ6 : ∀ w ∈ wsJ60, w ∈ lw_tbl := by decide +kernel
theorem inJ9 : ∀ w ∈ wsJ90, w ∈ lw_tbl := by decide +kernel
theorem inJ0 : ∀ w ∈ wsJ00, w ∈ lw_tbl := by decide +kernel
theorem inJ1 : ∀ w ∈ wsJ10, w ∈ lw_tbl := by decide +kernel
theorem inJ2 : ∀ w ∈ wsJ20, w ∈ lw_tbl := by decide +kernel
theorem inJ10 : ∀ w ∈ wsJ100, w ∈ lw_tbl := by decide +kernel
theorem inJ3 : ∀ w ∈ wsJ30, w ∈ lw_tbl := by decide +kernel
end
section
/-! A SMALL MACHINE: values are whole numbers (int, long), the number of a cell, or a constant's number; a heap is shapes, references, numbers -/
abbrev mv := Int ⊕ Int ⊕ Nat ⊕ Nat
abbrev mI (x : Int) : mv := Sum.inl x
abbrev mL (x : Int) : mv := Sum.inr (Sum.inl x)
abbrev mR (a : Nat) : mv := Sum.inr (Sum.inr (Sum.inl a))
abbrev mC (a : Nat) : mv := Sum.inr (Sum.inr (Sum.inr a))
/-- a cell's shape: a class's number, or an array's kind (0 int, 1 long, 2 byte, 3 row of longs, 10 + c: of class c) and length -/
abbrev mSh := List (Nat ⊕ (Nat × Nat))
abbrev mRf := List (List (Option Nat))
abbrev mM := Nat → Int → Int
abbrev mH := mSh × mRf × mM
abbrev mOut := Option (List mv × mH)
/-- an instruction, the place behind it, what it names -/
abbrev mIn := Instr × Nat × List Nat
abbrev mCode := List mIn
def nth {α : Type} : List α → Nat → Option α
  | [], _ => none
  | a :: _, 0 => some a
  | _ :: l, n + 1 => nth l n
def lset {α : Type} : List α → Nat → α → List α
  | [], _, _ => []
  | _ :: l, 0, b => b :: l
  | a :: l, n + 1, b => a :: lset l n b
def upM (h : mM) (a : Nat) (i : Int) (v : Int) : mM := fun a' i' => if a' = a ∧ i' = i then v else h a' i'
abbrev inI (x : Int) : Prop := -2147483648 ≤ x ∧ x ≤ 2147483647
abbrev inL (x : Int) : Prop := -9223372036854775808 ≤ x ∧ x ≤ 9223372036854775807
abbrev inB (x : Int) : Prop := -128 ≤ x ∧ x ≤ 127
abbrev inA (i : Int) (n : Nat) : Prop := 0 ≤ i ∧ i < (n : Int)
def fAnd (x y : Int) : Int := (Int32.ofInt x &&& Int32.ofInt y).toInt
def fOr (x y : Int) : Int := (Int32.ofInt x ||| Int32.ofInt y).toInt
def fXor (x y : Int) : Int := (Int32.ofInt x ^^^ Int32.ofInt y).toInt
def fShl (x y : Int) : Int := (Int32.ofInt x <<< (Int32.ofInt y &&& 31)).toInt
def fShr (x y : Int) : Int := (Int32.ofInt x >>> (Int32.ofInt y &&& 31)).toInt
def fUshr (x y : Int) : Int := ((Int32.ofInt x).toUInt32 >>> ((Int32.ofInt y).toUInt32 &&& Int32.toUInt32 31)).toInt32.toInt
def fLand (x y : Int) : Int := (Int64.ofInt x &&& Int64.ofInt y).toInt
def fLor (x y : Int) : Int := (Int64.ofInt x ||| Int64.ofInt y).toInt
def fLshl (x y : Int) : Int := (Int64.ofInt x <<< ((Int32.ofInt y).toInt64 &&& 63)).toInt
def fL2i (x : Int) : Int := (Int64.ofInt x).toInt32.toInt
def fI2b (x : Int) : Int := (Int32.ofInt x).toInt8.toInt32.toInt
def fI2s (x : Int) : Int := (Int32.ofInt x).toInt16.toInt32.toInt
/-- what stays of a value whose second half a store covers -/
def kl (a : mv) : mv := match a with
  | .inr (.inl _) => mC 0
  | a => a
/-- a store to a place: a long that lay one ahead is gone -/
def stK {ρ : Type} (v : mv) : Nat → List mv → (List mv → Option ρ) → Option ρ
  | 0, _ :: l, K => K (v :: l)
  | 1, a :: _ :: l, K => K (kl a :: v :: l)
  | k + 2, a :: l, K => stK v (k + 1) l (fun l => K (a :: l))
  | _, _, _ => none
/-- a store of a long to a place and the next -/
def stL {ρ : Type} (v : mv) : Nat → List mv → (List mv → Option ρ) → Option ρ
  | 0, _ :: _ :: l, K => K (v :: mC 0 :: l)
  | 1, a :: _ :: _ :: l, K => K (kl a :: v :: mC 0 :: l)
  | k + 2, a :: l, K => stL v (k + 1) l (fun l => K (a :: l))
  | _, _, _ => none
def mEntry : List mv → List mv
  | [] => []
  | .inr (.inl x) :: r => mL x :: mC 0 :: mEntry r
  | v :: r => v :: mEntry r
def mPad : Nat → List mv → List mv
  | 0, _ => []
  | n + 1, [] => mC 0 :: mPad n []
  | n + 1, v :: r => v :: mPad n r
def mObj (s : mSh) (a ci : Nat) : Bool := match nth s a with
  | some (.inl c) => Nat.beq c ci
  | _ => false
/-- an array's length, if it is of that kind -/
def mArr (s : mSh) (a ty : Nat) : Option Nat := match nth s a with
  | some (.inr (t, n)) => match Nat.beq t ty with
    | true => some n
    | false => none
  | _ => none
/-- n cells of a shape more -/
def mTake : Nat → List mv → List mv → Option (List mv × List mv)
  | 0, acc, st => some (acc, st)
  | n + 1, acc, v :: st => mTake n (v :: acc) st
  | _ + 1, _, [] => none
def mCpy (h : mM) (a : Nat) (i : Int) (b : Nat) (j n : Int) : mM := fun a' k => if a' = b ∧ j ≤ k ∧ k < j + n then h a (i + (k - j)) else h a' k
def mCpyC (h : mM) (l : List Int) (i : Int) (b : Nat) (j n : Int) : mM := fun a' k => if a' = b ∧ j ≤ k ∧ k < j + n then (nth l (i + (k - j)).toNat).getD 0 else h a' k
/-- how many words lie on the stack -/
def wds : List mv → Nat
  | [] => 0
  | .inr (.inl _) :: r => wds r + 2
  | _ :: r => wds r + 1
/-- the receiver is an object of that class (0: none is asked) -/
def rcv (S : mSh) : Nat → List mv → Bool
  | 0, _ => true
  | c + 1, .inr (.inr (.inl a)) :: _ => mObj S a c
  | _ + 1, _ => false
/-- few words -/
def few {ρ : Type} (st : List mv) (k : Option ρ) : Option ρ := match Nat.ble (wds st) 8 with
  | true => k
  | false => none
/-- behind a call: what came back -/
def cV {ρ : Type} (o : Option (List mv × mM)) (K : mM → Option ρ) : Option ρ := match o with
  | some ([], h) => K h
  | _ => none
def cI {ρ : Type} (o : Option (List mv × mM)) (K : Int → mM → Option ρ) : Option ρ := match o with
  | some ([.inl v], h) => K v h
  | _ => none
def cL {ρ : Type} (o : Option (List mv × mM)) (K : Int → mM → Option ρ) : Option ρ := match o with
  | some ([.inr (.inl v)], h) => K v h
  | _ => none
def cR {ρ : Type} (o : Option (List mv × mM)) (K : Nat → mM → Option ρ) : Option ρ := match o with
  | some ([.inr (.inr (.inl v))], h) => K v h
  | _ => none
section
variable {ρ : Type}
def pB (c : Nat) (x y : Int) (A B : Option ρ) : Option ρ := match c with
  | 0 => if x = y then A else B
  | 1 => if x = y then B else A
  | 2 => if x < y then A else B
  | 3 => if x < y then B else A
  | 4 => if y < x then A else B
  | _ => if y < x then B else A
def pSw (x : Int) (N : Nat → Option ρ) (d : Nat) : Int → List Nat → Option ρ
  | _, [] => N d
  | lo, t :: ts => if x = lo then N t else pSw x N d (lo + 1) ts
def pLk (x : Int) (N : Nat → Option ρ) (d : Nat) : List Nat → Option ρ
  | k :: t :: r => if x = (k : Int) then N t else pLk x N d r
  | _ => N d
/-- ONE INSTRUCTION that makes no cell and moves no reference -/
def ex1 (S : mSh) (R : List (List (Option Nat))) (ct : Nat → List Int) (cl : Nat → Nat → List mv → mM → Option (List mv × mM)) (ret : List mv → mM → Option ρ) (N : Nat → List mv → List mv → mM → Option ρ) (i : mIn) (ls st : List mv) (h : mM) : Option ρ :=
  match i.1 with
  | .iconst n => N i.2.1 ls (mI n :: st) h
  | .sipush n => N i.2.1 ls (mL n :: st) h
  | .ldc k => N i.2.1 ls (mC k :: st) h
  | .iload k => match nth ls k with
    | some (.inl x) => N i.2.1 ls (mI x :: st) h
    | _ => none
  | .lload k => match nth ls k with
    | some (.inr (.inl x)) => N i.2.1 ls (mL x :: st) h
    | _ => none
  | .aload k => match nth ls k with
    | some (.inr (.inr (.inl a))) => N i.2.1 ls (mR a :: st) h
    | some (.inr (.inr (.inr (a + 1)))) => N i.2.1 ls (mC (a + 1) :: st) h
    | _ => none
  | .istore k => match st with
    | .inl x :: st => stK (mI x) k ls (fun ls => N i.2.1 ls st h)
    | _ => none
  | .lstore k => match st with
    | .inr (.inl x) :: st => stL (mL x) k ls (fun ls => N i.2.1 ls st h)
    | _ => none
  | .astore k => match st with
    | .inr (.inr (.inl a)) :: st => stK (mR a) k ls (fun ls => N i.2.1 ls st h)
    | _ => none
  | .iinc k n => match nth ls k with
    | some (.inl x) => if inI (x + n) then stK (mI (x + n)) k ls (fun ls => N i.2.1 ls st h) else none
    | _ => none
  | .iadd => match st with
    | .inl y :: .inl x :: st => if inI (x + y) then N i.2.1 ls (mI (x + y) :: st) h else none
    | _ => none
  | .isub => match st with
    | .inl y :: .inl x :: st => if inI (x - y) then N i.2.1 ls (mI (x - y) :: st) h else none
    | _ => none
  | .imul => match st with
    | .inl y :: .inl x :: st => if inI (x * y) then N i.2.1 ls (mI (x * y) :: st) h else none
    | _ => none
  | .idiv => match st with
    | .inl y :: .inl x :: st => if 0 ≤ x ∧ 0 < y then N i.2.1 ls (mI (x / y) :: st) h else none
    | _ => none
  | .irem => match st with
    | .inl y :: .inl x :: st => if 0 ≤ x ∧ 0 < y then N i.2.1 ls (mI (x % y) :: st) h else none
    | _ => none
  | .ladd => match st with
    | .inr (.inl y) :: .inr (.inl x) :: st => if inL (x + y) then N i.2.1 ls (mL (x + y) :: st) h else none
    | _ => none
  | .lsub => match st with
    | .inr (.inl y) :: .inr (.inl x) :: st => if inL (x - y) then N i.2.1 ls (mL (x - y) :: st) h else none
    | _ => none
  | .lmul => match st with
    | .inr (.inl y) :: .inr (.inl x) :: st => if inL (x * y) then N i.2.1 ls (mL (x * y) :: st) h else none
    | _ => none
  | .ldiv => match st with
    | .inr (.inl y) :: .inr (.inl x) :: st => if 0 ≤ x ∧ 0 < y then N i.2.1 ls (mL (x / y) :: st) h else none
    | _ => none
  | .lrem => match st with
    | .inr (.inl y) :: .inr (.inl x) :: st => if 0 ≤ x ∧ 0 < y then N i.2.1 ls (mL (x % y) :: st) h else none
    | _ => none
  | .iand => match st with
    | .inl y :: .inl x :: st => N i.2.1 ls (mI (fAnd x y) :: st) h
    | _ => none
  | .ior => match st with
    | .inl y :: .inl x :: st => N i.2.1 ls (mI (fOr x y) :: st) h
    | _ => none
  | .ixor => match st with
    | .inl y :: .inl x :: st => N i.2.1 ls (mI (fXor x y) :: st) h
    | _ => none
  | .ishl => match st with
    | .inl y :: .inl x :: st => N i.2.1 ls (mI (fShl x y) :: st) h
    | _ => none
  | .ishr => match st with
    | .inl y :: .inl x :: st => N i.2.1 ls (mI (fShr x y) :: st) h
    | _ => none
  | .iushr => match st with
    | .inl y :: .inl x :: st => N i.2.1 ls (mI (fUshr x y) :: st) h
    | _ => none
  | .land => match st with
    | .inr (.inl y) :: .inr (.inl x) :: st => N i.2.1 ls (mL (fLand x y) :: st) h
    | _ => none
  | .lor => match st with
    | .inr (.inl y) :: .inr (.inl x) :: st => N i.2.1 ls (mL (fLor x y) :: st) h
    | _ => none
  | .lshl => match st with
    | .inl y :: .inr (.inl x) :: st => N i.2.1 ls (mL (fLshl x y) :: st) h
    | _ => none
  | .i2l => match st with
    | .inl x :: st => N i.2.1 ls (mL x :: st) h
    | _ => none
  | .l2i => match st with
    | .inr (.inl x) :: st => N i.2.1 ls (mI (fL2i x) :: st) h
    | _ => none
  | .i2b => match st with
    | .inl x :: st => N i.2.1 ls (mI (fI2b x) :: st) h
    | _ => none
  | .i2s => match st with
    | .inl x :: st => N i.2.1 ls (mI (fI2s x) :: st) h
    | _ => none
  | .dup => match st with
    | .inl x :: st => N i.2.1 ls (mI x :: mI x :: st) h
    | .inr (.inr v) :: st => N i.2.1 ls (.inr (.inr v) :: .inr (.inr v) :: st) h
    | _ => none
  | .dup2 => match st with
    | .inr (.inl x) :: st => N i.2.1 ls (mL x :: mL x :: st) h
    | .inl y :: .inl x :: st => N i.2.1 ls (mI y :: mI x :: mI y :: mI x :: st) h
    | .inl y :: .inr (.inr x) :: st => N i.2.1 ls (mI y :: .inr (.inr x) :: mI y :: .inr (.inr x) :: st) h
    | _ => none
  | .pop => match st with
    | .inl _ :: st => N i.2.1 ls st h
    | _ => none
  | .ifCond _ _ => match st, i.2.2 with
    | .inl x :: st, [c, t] => pB c x 0 (N t ls st h) (N i.2.1 ls st h)
    | _, _ => none
  | .if_icmp _ _ => match st, i.2.2 with
    | .inl y :: .inl x :: st, [c, t] => pB c x y (N t ls st h) (N i.2.1 ls st h)
    | _, _ => none
  | .lcmp => match st, i.2.2 with
    | .inr (.inl y) :: .inr (.inl x) :: st, [c, t] => pB c x y (N t ls st h) (N i.2.1 ls st h)
    | _, _ => none
  | .goto _ => match i.2.2 with
    | [t] => N t ls st h
    | _ => none
  | .tableswitch _ lo _ _ => match st, i.2.2 with
    | .inl x :: st, d :: ts => pSw x (fun t => N t ls st h) d lo ts
    | _, _ => none
  | .lookupswitch _ _ => match st, i.2.2 with
    | .inl x :: st, d :: ts => pLk x (fun t => N t ls st h) d ts
    | _, _ => none
  | .getfield k => match st, i.2.2 with
    | .inr (.inr (.inl a)) :: st, [ci, ty] => match mObj S a ci with
      | true => match ty with
        | 0 => N i.2.1 ls (mI (h a (k : Int)) :: st) h
        | 1 => N i.2.1 ls (mL (h a (k : Int)) :: st) h
        | 2 => match nth R a with
          | some l => match nth l k with
            | some (some b) => N i.2.1 ls (mR b :: st) h
            | _ => none
          | none => none
        | _ => none
      | false => none
    | _, _ => none
  | .putfield k => match i.2.2 with
    | [ci, ty] => match ty with
      | 0 => match st with
        | .inl x :: .inr (.inr (.inl a)) :: st => match mObj S a ci with
          | true => N i.2.1 ls st (upM h a (k : Int) x)
          | false => none
        | _ => none
      | 1 => match st with
        | .inr (.inl x) :: .inr (.inr (.inl a)) :: st => match mObj S a ci with
          | true => N i.2.1 ls st (upM h a (k : Int) x)
          | false => none
        | _ => none
      | 3 => match st with
        | .inl x :: .inr (.inr (.inl a)) :: st => match mObj S a ci with
          | true => if 0 ≤ x ∧ x ≤ 1 then N i.2.1 ls st (upM h a (k : Int) x) else none
          | false => none
        | _ => none
      | _ => none
    | _ => none
  | .iaload => match st with
    | .inl x :: .inr (.inr (.inl a)) :: st => match mArr S a 0 with
      | some n => if inA x n then N i.2.1 ls (mI (h a x) :: st) h else none
      | none => none
    | .inl x :: .inr (.inr (.inr (k + 1))) :: st => match Nat.ble k 3 with
      | true => if inA x (ct (k + 1)).length then N i.2.1 ls (mI ((nth (ct (k + 1)) x.toNat).getD 0) :: st) h else none
      | false => none
    | _ => none
  | .laload => match st with
    | .inl x :: .inr (.inr (.inl a)) :: st => match mArr S a 1 with
      | some n => if inA x n then N i.2.1 ls (mL (h a x) :: st) h else none
      | none => none
    | _ => none
  | .baload => match st with
    | .inl x :: .inr (.inr (.inl a)) :: st => match mArr S a 2 with
      | some n => if inA x n then N i.2.1 ls (mI (h a x) :: st) h else none
      | none => none
    | _ => none
  | .aaload => match st, i.2.2 with
    | .inl x :: .inr (.inr (.inl a)) :: st, [ty] => match mArr S a ty with
      | some n => match nth R a with
        | some l => match nth l x.toNat with
          | some (some b) => if inA x n then N i.2.1 ls (mR b :: st) h else none
          | _ => none
        | none => none
      | none => none
    | _, _ => none
  | .iastore => match st with
    | .inl v :: .inl x :: .inr (.inr (.inl a)) :: st => match mArr S a 0 with
      | some n => if inA x n then N i.2.1 ls st (upM h a x v) else none
      | none => none
    | _ => none
  | .lastore => match st with
    | .inr (.inl v) :: .inl x :: .inr (.inr (.inl a)) :: st => match mArr S a 1 with
      | some n => if inA x n then N i.2.1 ls st (upM h a x v) else none
      | none => none
    | _ => none
  | .bastore => match st with
    | .inl v :: .inl x :: .inr (.inr (.inl a)) :: st => match mArr S a 2 with
      | some n => if inA x n then if inB v then N i.2.1 ls st (upM h a x v) else none else none
      | none => none
    | _ => none
  | .arraylength => match st, i.2.2 with
    | .inr (.inr (.inr (k + 1))) :: st, [t] => match t with
      | 0 => match Nat.ble k 3 with
        | true => few st (N i.2.1 ls (mI ((ct (k + 1)).length : Int) :: st) h)
        | false => none
      | _ => match (Nat.ble 4 k).and (Nat.ble k 5) with
        | true => few st (N i.2.1 ls (mI ((ct (k + 1)).length : Int) :: st) h)
        | false => none
    | _, _ => none
  | .caload => match st with
    | .inl x :: .inr (.inr (.inr (k + 1))) :: st => match (Nat.ble 4 k).and (Nat.ble k 5) with
      | true => few st (if inA x (ct (k + 1)).length then N i.2.1 ls (mI ((nth (ct (k + 1)) x.toNat).getD 0) :: st) h else none)
      | false => none
    | _ => none
  | .dadd => match st with
    | .inl y :: .inl x :: st => few st (N i.2.1 ls (mI (max x y) :: st) h)
    | _ => none
  | .dsub => match st with
    | .inl y :: .inl x :: st => few st (N i.2.1 ls (mI (min x y) :: st) h)
    | _ => none
  | .dneg => match st with
    | .inl x :: st => few st (if inI (-x) then N i.2.1 ls (mI (if x < 0 then -x else x) :: st) h else none)
    | _ => none
  | .dmul => match st with
    | .inr (.inl y) :: .inr (.inl x) :: st => few st (N i.2.1 ls (mL (max x y) :: st) h)
    | _ => none
  | .swap => match st, i.2.2 with
    | .inl n :: .inl y :: .inr (.inr (.inl b)) :: .inl x :: .inr (.inr (.inl a)) :: st, [ty] => match mArr S a ty with
      | some na => match mArr S b ty with
        | some nb => few st (if (0 ≤ n ∧ 0 ≤ x ∧ 0 ≤ y) ∧ x + n ≤ (na : Int) ∧ y + n ≤ (nb : Int) then N i.2.1 ls st (mCpy h a x b y n) else none)
        | none => none
      | none => none
    | .inl n :: .inl y :: .inr (.inr (.inl b)) :: .inl x :: .inr (.inr (.inr (k + 1))) :: st, [_] => match Nat.ble k 3 with
      | true => match mArr S b 0 with
        | some nb => few st (if (0 ≤ n ∧ 0 ≤ x ∧ 0 ≤ y) ∧ x + n ≤ ((ct (k + 1)).length : Int) ∧ y + n ≤ (nb : Int) then N i.2.1 ls st (mCpyC h (ct (k + 1)) x b y n) else none)
        | none => none
      | false => none
    | _, _ => none
  | .invokestatic id => match i.2.2 with
    | [na, fl, kd, w, rc] => match mTake na [] st with
      | some (args, rest) => match (Nat.ble (wds args) w).and (rcv S rc args) with
        | true => few rest (match kd with
          | 0 => cV (cl id fl args h) (fun h' => N i.2.1 ls rest h')
          | 1 => cI (cl id fl args h) (fun v h' => N i.2.1 ls (mI v :: rest) h')
          | 2 => cL (cl id fl args h) (fun v h' => N i.2.1 ls (mL v :: rest) h')
          | 3 => cR (cl id fl args h) (fun v h' => N i.2.1 ls (mR v :: rest) h')
          | _ => none)
        | false => none
      | none => none
    | _ => none
  | .ireturn => match st, i.2.2 with
    | [.inl x], [ty] => match ty with
      | 0 => ret [mI x] h
      | _ => if 0 ≤ x ∧ x ≤ 1 then ret [mI x] h else none
    | _, _ => none
  | .lreturn => match st with
    | [.inr (.inl x)] => ret [mL x] h
    | _ => none
  | .areturn => match st with
    | [.inr (.inr (.inl a))] => ret [mR a] h
    | _ => none
  | .return_ => match st with
    | [] => ret [] h
    | _ => none
  | _ => none
end
/-- a program: of a method's number its code and how many locals it has -/
abbrev mPr := Nat → mCode × Nat
section
variable (P : mPr) (S : mSh) (R : List (List (Option Nat))) (ct : Nat → List Int)
/-- so many steps at most, so deep at most -/
def exN : Nat → Nat → mCode → Nat → List mv → List mv → mM → Option (List mv × mM)
  | 0, _, _, _, _, _, _ => none
  | n + 1, d, c, j, ls, st, h => match nth c j with
    | none => none
    | some i => ex1 S R ct (fun id fl args h => match fl, d with
        | 0, d => exN n d (P id).1 0 (mPad (P id).2 (mEntry args)) [] h
        | _, d + 1 => exN n d (P id).1 0 (mPad (P id).2 (mEntry args)) [] h
        | _, 0 => none) (fun v h => some (v, h)) (exN n d c) i ls st h
/-- where it comes to, however many steps it takes -/
noncomputable def Ex (d : Nat) (c : mCode) (j : Nat) (ls st : List mv) (h : mM) : Option (List mv × mM) :=
  @dite _ (∃ r n, exN P S R ct n d c j ls st h = some r) (Classical.propDecidable _) (fun q => some (Classical.choose q)) (fun _ => none)
noncomputable def Cl (d : Nat) (id fl : Nat) (args : List mv) (h : mM) : Option (List mv × mM) := match fl, d with
  | 0, d => Ex P S R ct d (P id).1 0 (mPad (P id).2 (mEntry args)) [] h
  | _, d + 1 => Ex P S R ct d (P id).1 0 (mPad (P id).2 (mEntry args)) [] h
  | _, 0 => none
end
end
section
section
variable {ρ : Type}
/-- what a comes to, b n comes to from some n on -/
def Tr (a : Option ρ) (b : Nat → Option ρ) : Prop := ∀ r, a = some r → ∃ n0, ∀ n, n0 ≤ n → b n = some r
theorem Tr.none' {b : Nat → Option ρ} : Tr none b := fun r h => by cases h
theorem Tr.same (a : Option ρ) : Tr a (fun _ => a) := fun r h => ⟨0, fun _ _ => h⟩
theorem Tr.ite {c : Prop} [Decidable c] {a a' : Option ρ} {b b' : Nat → Option ρ} (h : Tr a b) (h' : Tr a' b') : Tr (if c then a else a') (fun n => if c then b n else b' n) := by
  by_cases q : c
  · simpa only [if_pos q] using h
  · simpa only [if_neg q] using h'
theorem Tr.pB {c : Nat} {x y : Int} {a a' : Option ρ} {b b' : Nat → Option ρ} (h : Tr a b) (h' : Tr a' b') : Tr (pB c x y a a') (fun n => pB c x y (b n) (b' n)) := by
  unfold Jvm.Pilot.@@N@@.pB
  split
  · exact Tr.ite h h'
  · exact Tr.ite h' h
  · exact Tr.ite h h'
  · exact Tr.ite h' h
  · exact Tr.ite h h'
  · exact Tr.ite h' h
theorem Tr.pSw {x : Int} {d : Nat} {N : Nat → Option ρ} {M : Nat → Nat → Option ρ} (h : ∀ t, Tr (N t) (fun n => M n t)) : ∀ (l : List Nat) (lo : Int), Tr (pSw x N d lo l) (fun n => pSw x (M n) d lo l)
  | [], lo => h d
  | t :: ts, lo => Tr.ite (h t) (Tr.pSw h ts (lo + 1))
theorem Tr.pLk {x : Int} {d : Nat} {N : Nat → Option ρ} {M : Nat → Nat → Option ρ} (h : ∀ t, Tr (N t) (fun n => M n t)) : ∀ (l : List Nat), Tr (pLk x N d l) (fun n => pLk x (M n) d l)
  | [] => h d
  | [_] => h d
  | _ :: t :: ts => Tr.ite (h t) (Tr.pLk h ts)
theorem Tr.cV {o : Option (List mv × mM)} {p : Nat → Option (List mv × mM)} {K : mM → Option ρ} {L : Nat → mM → Option ρ} (ho : Tr o p) (h : ∀ m, Tr (K m) (fun n => L n m)) : Tr (cV o K) (fun n => cV (p n) (L n)) := by
  intro r H
  unfold Jvm.Pilot.@@N@@.cV at H
  split at H
  · next m =>
    obtain ⟨n1, h1⟩ := ho _ rfl
    obtain ⟨n2, h2⟩ := h _ r H
    refine ⟨max n1 n2, fun n hn => ?_⟩
    (try dsimp only)
    (try dsimp only)
    rw [h1 n (by omega)]
    exact h2 n (by omega)
  · cases H
theorem Tr.cI {o : Option (List mv × mM)} {p : Nat → Option (List mv × mM)} {K : Int → mM → Option ρ} {L : Nat → Int → mM → Option ρ} (ho : Tr o p) (h : ∀ v m, Tr (K v m) (fun n => L n v m)) : Tr (cI o K) (fun n => cI (p n) (L n)) := by
  intro r H
  unfold Jvm.Pilot.@@N@@.cI at H
  split at H
  · next v m =>
    obtain ⟨n1, h1⟩ := ho _ rfl
    obtain ⟨n2, h2⟩ := h _ _ r H
    refine ⟨max n1 n2, fun n hn => ?_⟩
    (try dsimp only)
    rw [h1 n (by omega)]
    exact h2 n (by omega)
  · cases H
theorem Tr.cL {o : Option (List mv × mM)} {p : Nat → Option (List mv × mM)} {K : Int → mM → Option ρ} {L : Nat → Int → mM → Option ρ} (ho : Tr o p) (h : ∀ v m, Tr (K v m) (fun n => L n v m)) : Tr (cL o K) (fun n => cL (p n) (L n)) := by
  intro r H
  unfold Jvm.Pilot.@@N@@.cL at H
  split at H
  · next v m =>
    obtain ⟨n1, h1⟩ := ho _ rfl
    obtain ⟨n2, h2⟩ := h _ _ r H
    refine ⟨max n1 n2, fun n hn => ?_⟩
    (try dsimp only)
    rw [h1 n (by omega)]
    exact h2 n (by omega)
  · cases H
theorem Tr.cR {o : Option (List mv × mM)} {p : Nat → Option (List mv × mM)} {K : Nat → mM → Option ρ} {L : Nat → Nat → mM → Option ρ} (ho : Tr o p) (h : ∀ v m, Tr (K v m) (fun n => L n v m)) : Tr (cR o K) (fun n => cR (p n) (L n)) := by
  intro r H
  unfold Jvm.Pilot.@@N@@.cR at H
  split at H
  · next v m =>
    obtain ⟨n1, h1⟩ := ho _ rfl
    obtain ⟨n2, h2⟩ := h _ _ r H
    refine ⟨max n1 n2, fun n hn => ?_⟩
    (try dsimp only)
    rw [h1 n (by omega)]
    exact h2 n (by omega)
  · cases H
theorem Tr.few {st : List mv} {a : Option ρ} {b : Nat → Option ρ} (h : Tr a b) : Tr (few st a) (fun n => few st (b n)) := by
  unfold Jvm.Pilot.@@N@@.few
  split
  · exact h
  · exact Tr.none'
theorem Tr.stK {v : mv} : ∀ (k : Nat) (ls : List mv) {K : List mv → Option ρ} {L : Nat → List mv → Option ρ}, (∀ l, Tr (K l) (fun n => L n l)) → Tr (stK v k ls K) (fun n => stK v k ls (L n))
  | 0, [], _, _, _ => Tr.none'
  | 0, _ :: l, _, _, h => h _
  | 1, [], _, _, _ => Tr.none'
  | 1, [_], _, _, _ => Tr.none'
  | 1, a :: _ :: l, _, _, h => h _
  | k + 2, [], _, _, _ => Tr.none'
  | k + 2, a :: l, _, _, h => Tr.stK (k + 1) l (fun l => h (a :: l))
theorem Tr.stL {v : mv} : ∀ (k : Nat) (ls : List mv) {K : List mv → Option ρ} {L : Nat → List mv → Option ρ}, (∀ l, Tr (K l) (fun n => L n l)) → Tr (stL v k ls K) (fun n => stL v k ls (L n))
  | 0, [], _, _, _ => Tr.none'
  | 0, [_], _, _, _ => Tr.none'
  | 0, _ :: _ :: l, _, _, h => h _
  | 1, [], _, _, _ => Tr.none'
  | 1, [_], _, _, _ => Tr.none'
  | 1, [_, _], _, _, _ => Tr.none'
  | 1, a :: _ :: _ :: l, _, _, h => h _
  | k + 2, [], _, _, _ => Tr.none'
  | k + 2, a :: l, _, _, h => Tr.stL (k + 1) l (fun l => h (a :: l))
theorem ex1_tr (S : mSh) (R : List (List (Option Nat))) (ct : Nat → List Int) {cl : Nat → Nat → List mv → mM → Option (List mv × mM)} {cl' : Nat → Nat → Nat → List mv → mM → Option (List mv × mM)} {ret : List mv → mM → Option ρ} {N : Nat → List mv → List mv → mM → Option ρ} {N' : Nat → Nat → List mv → List mv → mM → Option ρ}
    (hcl : ∀ id fl a h, Tr (cl id fl a h) (fun n => cl' n id fl a h)) (hN : ∀ j ls st h, Tr (N j ls st h) (fun n => N' n j ls st h)) (i : mIn) (ls st : List mv) (h : mM) :
    Tr (ex1 S R ct cl ret N i ls st h) (fun n => ex1 S R ct (cl' n) ret (N' n) i ls st h) := by
  intro r H
  obtain ⟨o, nx, l⟩ := i
  unfold ex1 at H ⊢
  dsimp only at H ⊢
  split at H
  all_goals repeat' first
    | (cases H; done)
    | exact hN _ _ _ _ _ H
    | exact ⟨0, fun _ _ => H⟩
    | (revert H; exact Tr.ite (hN _ _ _ _) Tr.none' _)
    | (revert H; exact Tr.ite (Tr.ite (hN _ _ _ _) Tr.none') Tr.none' _)
    | (revert H; exact Tr.ite (Tr.same _) Tr.none' _)
    | (revert H; exact Tr.stK _ _ (fun l => hN _ _ _ _) _)
    | (revert H; exact Tr.stL _ _ (fun l => hN _ _ _ _) _)
    | (revert H; exact Tr.ite (Tr.stK _ _ (fun l => hN _ _ _ _)) Tr.none' _)
    | (revert H; exact Tr.few (hN _ _ _ _) _)
    | (revert H; exact Tr.few (Tr.ite (hN _ _ _ _) Tr.none') _)
    | (unfold few at H ⊢; split at H)
    | (revert H; exact Tr.pB (hN _ _ _ _) (hN _ _ _ _) _)
    | (revert H; exact Tr.pSw (fun t => hN _ _ _ _) _ _ _)
    | (revert H; exact Tr.pLk (fun t => hN _ _ _ _) _ _)
    | (revert H; exact Tr.cV (hcl _ _ _ _) (fun m => hN _ _ _ _) _)
    | (revert H; exact Tr.cI (hcl _ _ _ _) (fun v m => hN _ _ _ _) _)
    | (revert H; exact Tr.cL (hcl _ _ _ _) (fun v m => hN _ _ _ _) _)
    | (revert H; exact Tr.cR (hcl _ _ _ _) (fun v m => hN _ _ _ _) _)
    | split at H
end
section
variable (P : mPr) (S : mSh) (R : List (List (Option Nat))) (ct : Nat → List Int)
def clN (n d : Nat) (id fl : Nat) (args : List mv) (h : mM) : Option (List mv × mM) := match fl, d with
  | 0, d => exN P S R ct n d (P id).1 0 (mPad (P id).2 (mEntry args)) [] h
  | _, d + 1 => exN P S R ct n d (P id).1 0 (mPad (P id).2 (mEntry args)) [] h
  | _, 0 => none
theorem exN_succ (n d : Nat) (c : mCode) (j : Nat) (ls st : List mv) (h : mM) : exN P S R ct (n + 1) d c j ls st h = match nth c j with
    | none => none
    | some i => ex1 S R ct (clN P S R ct n d) (fun v h => some (v, h)) (exN P S R ct n d c) i ls st h := by
  rw [exN]
  rfl
theorem exN_ev : ∀ (n d : Nat) (c : mCode) (j : Nat) (ls st : List mv) (h : mM), Tr (exN P S R ct n d c j ls st h) (fun k => exN P S R ct k d c j ls st h) := by
  intro n
  induction n with
  | zero => intro d c j ls st h r H; cases H
  | succ n ih =>
    intro d c j ls st h r H
    rw [exN_succ] at H
    split at H
    · cases H
    · next i hi =>
      have hcl : ∀ id fl a h, Tr (clN P S R ct n d id fl a h) (fun k => clN P S R ct k d id fl a h) := by
        intro id fl a h
        cases fl with
        | zero => exact ih _ _ _ _ _ _
        | succ fl => cases d with
          | zero => exact Tr.none'
          | succ d => exact ih _ _ _ _ _ _
      obtain ⟨n0, h0⟩ := ex1_tr S R ct hcl (fun j ls st h => ih d c j ls st h) i ls st h r H
      refine ⟨n0 + 1, fun k hk => ?_⟩
      obtain ⟨k, rfl⟩ : ∃ q, k = q + 1 := ⟨k - 1, by omega⟩
      show exN P S R ct (k + 1) d c j ls st h = some r
      rw [exN_succ, hi]
      exact h0 k (by omega)
theorem Ex_iff {d : Nat} {c : mCode} {j : Nat} {ls st : List mv} {h : mM} {r : List mv × mM} : Ex P S R ct d c j ls st h = some r ↔ ∃ n, exN P S R ct n d c j ls st h = some r := by
  unfold Ex
  constructor
  · intro H
    split at H
    · next q =>
      cases H
      exact Classical.choose_spec q
    · cases H
  · rintro ⟨n, hn⟩
    have q : ∃ r n, exN P S R ct n d c j ls st h = some r := ⟨r, n, hn⟩
    rw [dif_pos q]
    obtain ⟨m, hm⟩ := Classical.choose_spec q
    obtain ⟨n1, h1⟩ := exN_ev P S R ct n d c j ls st h r hn
    obtain ⟨n2, h2⟩ := exN_ev P S R ct m d c j ls st h _ hm
    have e := (h1 (max n1 n2) (by omega)).symm.trans (h2 (max n1 n2) (by omega))
    exact e.symm
theorem Ex_tr (d : Nat) (c : mCode) (j : Nat) (ls st : List mv) (h : mM) : Tr (Ex P S R ct d c j ls st h) (fun k => exN P S R ct k d c j ls st h) := by
  intro r H
  obtain ⟨n, hn⟩ := (Ex_iff P S R ct).mp H
  exact exN_ev P S R ct n d c j ls st h r hn
theorem Cl_tr (d id fl : Nat) (a : List mv) (h : mM) : Tr (Cl P S R ct d id fl a h) (fun k => clN P S R ct k d id fl a h) := by
  cases fl with
  | zero => exact Ex_tr P S R ct _ _ _ _ _ _
  | succ fl => cases d with
    | zero => exact Tr.none'
    | succ d => exact Ex_tr P S R ct _ _ _ _ _ _
theorem Cl_of (n d id fl : Nat) (a : List mv) (h : mM) : Tr (clN P S R ct n d id fl a h) (fun _ => Cl P S R ct d id fl a h) := by
  cases fl with
  | zero => exact fun r H => ⟨0, fun _ _ => (Ex_iff P S R ct).mpr ⟨n, H⟩⟩
  | succ fl => cases d with
    | zero => exact Tr.none'
    | succ d => exact fun r H => ⟨0, fun _ _ => (Ex_iff P S R ct).mpr ⟨n, H⟩⟩
/-- one instruction on -/
theorem Ex_step {d : Nat} {c : mCode} {j : Nat} {i : mIn} (hi : nth c j = some i) (ls st : List mv) (h : mM) : Ex P S R ct d c j ls st h = ex1 S R ct (Cl P S R ct d) (fun v h => some (v, h)) (Ex P S R ct d c) i ls st h := by
  refine Option.ext fun r => ⟨fun H => ?_, fun H => ?_⟩
  · obtain ⟨n, hn⟩ := (Ex_iff P S R ct).mp H
    cases n with
    | zero => cases hn
    | succ n =>
      rw [exN_succ, hi] at hn
      obtain ⟨n0, h0⟩ := ex1_tr S R ct (fun id fl a h => Cl_of P S R ct n d id fl a h) (N' := fun _ => Ex P S R ct d c) (fun j ls st h r H => ⟨0, fun _ _ => (Ex_iff P S R ct).mpr ⟨n, H⟩⟩) i ls st h r hn
      exact h0 n0 (Nat.le_refl _)
  · obtain ⟨n0, h0⟩ := ex1_tr S R ct (fun id fl a h => Cl_tr P S R ct d id fl a h) (fun j ls st h => Ex_tr P S R ct d c j ls st h) i ls st h r H
    refine (Ex_iff P S R ct).mpr ⟨n0 + 1, ?_⟩
    rw [exN_succ, hi]
    exact h0 n0 (Nat.le_refl _)
theorem Ex_off {d : Nat} {c : mCode} {j : Nat} (hi : nth c j = none) (ls st : List mv) (h : mM) : Ex P S R ct d c j ls st h = none := by
  refine Option.ext fun r => ⟨fun H => ?_, fun H => by cases H⟩
  obtain ⟨n, hn⟩ := (Ex_iff P S R ct).mp H
  cases n with
  | zero => cases hn
  | succ n => rw [exN_succ, hi] at hn; cases hn
/-- so many instructions on, but to the stops -/
noncomputable def blk (d : Nat) (c : mCode) (stop : List Nat) : Nat → Nat → List mv → List mv → mM → Option (List mv × mM)
  | 0, j, ls, st, h => Ex P S R ct d c j ls st h
  | n + 1, j, ls, st, h => match nth c j with
    | none => none
    | some i => ex1 S R ct (Cl P S R ct d) (fun v h => some (v, h)) (fun j ls st h => match stop.elem j with
      | true => Ex P S R ct d c j ls st h
      | false => blk d c stop n j ls st h) i ls st h
theorem Ex_blk (d : Nat) (c : mCode) (stop : List Nat) : ∀ (n : Nat) (j : Nat) (ls st : List mv) (h : mM), Ex P S R ct d c j ls st h = blk P S R ct d c stop n j ls st h := by
  intro n
  induction n with
  | zero => intro j ls st h; rfl
  | succ n ih =>
    intro j ls st h
    show _ = (match nth c j with | none => none | some i => _)
    cases hi : nth c j with
    | none => exact Ex_off P S R ct hi ls st h
    | some i =>
      rw [Ex_step P S R ct hi]
      have e : (fun j ls st h => match stop.elem j with
        | true => Ex P S R ct d c j ls st h
        | false => blk P S R ct d c stop n j ls st h) = Ex P S R ct d c := by
        funext j ls st h
        split
        · rfl
        · exact (ih j ls st h).symm
      show _ = ex1 S R ct _ _ (fun j ls st h => match stop.elem j with
        | true => Ex P S R ct d c j ls st h
        | false => blk P S R ct d c stop n j ls st h) i ls st h
      rw [e]
end
end
section
/-! the program, by program out of javap's listing -/
def k_J_bitCount : mCode := [(.iload 0, 1, []), (.iload 0, 2, []), (.iconst (1), 3, []), (.iushr, 4, []), (.iconst (1431655765), 5, []), (.iand, 6, []), (.isub, 7, []), (.istore 0, 8, []), (.iload 0, 9, []), (.iconst (858993459), 10, []), (.iand, 11, []), (.iload 0, 12, []), (.iconst (2), 13, []), (.iushr, 14, []), (.iconst (858993459), 15, []), (.iand, 16, []), (.iadd, 17, []), (.istore 0, 18, []), (.iload 0, 19, []), (.iload 0, 20, []), (.iconst (4), 21, []), (.iushr, 22, []), (.iadd, 23, []), (.iconst (252645135), 24, []), (.iand, 25, []), (.istore 0, 26, []), (.iload 0, 27, []), (.iload 0, 28, []), (.iconst (8), 29, []), (.iushr, 30, []), (.iadd, 31, []), (.istore 0, 32, []), (.iload 0, 33, []), (.iload 0, 34, []), (.iconst (16), 35, []), (.iushr, 36, []), (.iadd, 37, []), (.istore 0, 38, []), (.iload 0, 39, []), (.iconst (63), 40, []), (.iand, 41, []), (.ireturn, 42, [0])]
def k_T_init : mCode := [(.aload 0, 1, []), (.invokespecial 0, 2, []), (.aload 0, 3, []), (.iconst (0), 4, []), (.putfield 0, 5, [11, 0]), (.aload 0, 6, []), (.sipush (0), 7, []), (.putfield 1, 8, [11, 1]), (.aload 0, 9, []), (.sipush (1), 10, []), (.putfield 2, 11, [11, 1]), (.aload 0, 12, []), (.iconst (0), 13, []), (.putfield 3, 14, [11, 3]), (.aload 0, 15, []), (.new 9, 16, [3]), (.dup, 17, []), (.invokestatic 332, 18, [1, 0, 0, 1, 10]), (.putfield 4, 19, [11, 2]), (.aload 0, 20, []), (.new 6, 21, [13]), (.dup, 22, []), (.invokestatic 293, 23, [1, 0, 0, 6, 7]), (.putfield 5, 24, [11, 2]), (.aload 0, 25, []), (.new 0, 26, [10]), (.dup, 27, []), (.invokestatic 225, 28, [1, 0, 0, 1, 1]), (.putfield 6, 29, [11, 2]), (.aload 0, 30, []), (.new 0, 31, [10]), (.dup, 32, []), (.invokestatic 225, 33, [1, 0, 0, 1, 1]), (.putfield 7, 34, [11, 2]), (.aload 0, 35, []), (.new 7, 36, [9]), (.dup, 37, []), (.invokestatic 319, 38, [1, 0, 0, 1, 8]), (.putfield 8, 39, [11, 2]), (.aload 0, 40, []), (.new 4, 41, [3]), (.dup, 42, []), (.aload 0, 43, []), (.getfield 5, 44, [11, 2]), (.invokestatic 280, 45, [2, 0, 0, 2, 5]), (.putfield 9, 46, [11, 2]), (.aload 0, 47, []), (.new 8, 48, [4]), (.dup, 49, []), (.aload 0, 50, []), (.getfield 5, 51, [11, 2]), (.invokestatic 323, 52, [2, 0, 0, 2, 9]), (.putfield 10, 53, [11, 2]), (.aload 0, 54, []), (.new 5, 55, [3]), (.dup, 56, []), (.invokestatic 288, 57, [1, 0, 0, 2, 6]), (.putfield 11, 58, [11, 2]), (.aload 0, 59, []), (.new 3, 60, [8]), (.dup, 61, []), (.invokestatic 269, 62, [1, 0, 0, 1, 4]), (.putfield 12, 63, [11, 2]), (.aload 0, 64, []), (.new 3, 65, [8]), (.dup, 66, []), (.invokestatic 269, 67, [1, 0, 0, 1, 4]), (.putfield 13, 68, [11, 2]), (.aload 0, 69, []), (.new 10, 70, [5]), (.dup, 71, []), (.invokestatic 344, 72, [1, 0, 0, 1, 11]), (.putfield 14, 73, [11, 2]), (.aload 0, 74, []), (.new 1, 75, [4]), (.dup, 76, []), (.invokestatic 256, 77, [1, 0, 0, 1, 2]), (.putfield 15, 78, [11, 2]), (.aload 0, 79, []), (.new 2, 80, [2]), (.dup, 81, []), (.invokestatic 264, 82, [1, 0, 0, 1, 3]), (.putfield 16, 83, [11, 2]), (.aload 0, 84, []), (.new 2, 85, [2]), (.dup, 86, []), (.invokestatic 264, 87, [1, 0, 0, 1, 3]), (.putfield 17, 88, [11, 2]), (.aload 0, 89, []), (.iconst (201), 90, []), (.newarray .long, 91, [1]), (.putfield 18, 92, [11, 2]), (.return_, 93, [])]
def k_T_status : mCode := [(.aload 0, 1, []), (.getfield 0, 2, [11, 0]), (.ireturn, 3, [0])]
def k_T_top : mCode := [(.aload 0, 1, []), (.getfield 1, 2, [11, 1]), (.lreturn, 3, [])]
def k_T_bottom : mCode := [(.aload 0, 1, []), (.getfield 2, 2, [11, 1]), (.lreturn, 3, [])]
def k_T_tray : mCode := [(.aload 0, 1, []), (.getfield 4, 2, [11, 2]), (.iload 1, 3, []), (.invokestatic 333, 4, [2, 0, 1, 2, 10]), (.ifCond .eq 0, 5, [0, 15]), (.aload 0, 6, []), (.getfield 4, 7, [11, 2]), (.iload 2, 8, []), (.invokestatic 334, 9, [2, 0, 1, 2, 10]), (.ifCond .eq 0, 10, [0, 15]), (.iload 3, 11, []), (.iconst (0), 12, []), (.iconst (60), 13, []), (.invokestatic 74, 14, [3, 0, 1, 3, 0]), (.ifCond .eq 0, 15, [1, 19]), (.aload 0, 16, []), (.iconst (1), 17, []), (.invokestatic 70, 18, [2, 0, 1, 2, 12]), (.ireturn, 19, [3]), (.aload 0, 20, []), (.getfield 4, 21, [11, 2]), (.iload 1, 22, []), (.iload 2, 23, []), (.iload 3, 24, []), (.invokestatic 339, 25, [4, 0, 0, 5, 10]), (.aload 0, 26, []), (.invokestatic 69, 27, [1, 0, 1, 1, 12]), (.ireturn, 28, [3])]
def k_T_write : mCode := [(.aload 0, 1, []), (.iload 1, 2, []), (.iload 2, 3, []), (.invokestatic 9, 4, [3, 0, 1, 3, 12]), (.istore 5, 5, []), (.iload 5, 6, []), (.ifCond .eq 0, 7, [0, 11]), (.aload 0, 8, []), (.iload 5, 9, []), (.invokestatic 70, 10, [2, 0, 1, 2, 12]), (.ireturn, 11, [3]), (.aload 0, 12, []), (.getfield 4, 13, [11, 2]), (.iload 1, 14, []), (.iload 2, 15, []), (.lload 3, 16, []), (.invokestatic 341, 17, [4, 0, 0, 5, 10]), (.aload 0, 18, []), (.invokestatic 69, 19, [1, 0, 1, 1, 12]), (.ireturn, 20, [3])]
def k_T_read : mCode := [(.aload 0, 1, []), (.iload 1, 2, []), (.iload 2, 3, []), (.invokestatic 9, 4, [3, 0, 1, 3, 12]), (.istore 3, 5, []), (.iload 3, 6, []), (.ifCond .eq 0, 7, [0, 12]), (.aload 0, 8, []), (.iload 3, 9, []), (.invokestatic 68, 10, [2, 0, 1, 2, 12]), (.i2l, 11, []), (.lreturn, 12, []), (.aload 0, 13, []), (.iconst (0), 14, []), (.putfield 0, 15, [11, 0]), (.aload 0, 16, []), (.getfield 4, 17, [11, 2]), (.iload 1, 18, []), (.iload 2, 19, []), (.invokestatic 340, 20, [3, 0, 2, 3, 10]), (.lreturn, 21, [])]
def k_T_pour : mCode := [(.aload 0, 1, []), (.iload 1, 2, []), (.iload 2, 3, []), (.iload 3, 4, []), (.iload 4, 5, []), (.iload 5, 6, []), (.invokestatic 10, 7, [6, 0, 1, 6, 12]), (.istore 6, 8, []), (.iload 6, 9, []), (.ifCond .eq 0, 10, [0, 14]), (.aload 0, 11, []), (.iload 6, 12, []), (.invokestatic 70, 13, [2, 0, 1, 2, 12]), (.ireturn, 14, [3]), (.aload 0, 15, []), (.getfield 4, 16, [11, 2]), (.iload 1, 17, []), (.iload 2, 18, []), (.iload 3, 19, []), (.iload 4, 20, []), (.iload 5, 21, []), (.invokestatic 342, 22, [6, 0, 0, 6, 10]), (.aload 0, 23, []), (.invokestatic 69, 24, [1, 0, 1, 1, 12]), (.ireturn, 25, [3])]
def k_T_placeStatus : mCode := [(.aload 0, 1, []), (.getfield 4, 2, [11, 2]), (.iload 1, 3, []), (.invokestatic 333, 4, [2, 0, 1, 2, 10]), (.ifCond .eq 0, 5, [1, 7]), (.iconst (1), 6, []), (.ireturn, 7, [0]), (.aload 0, 8, []), (.getfield 4, 9, [11, 2]), (.iload 1, 10, []), (.invokestatic 335, 11, [2, 0, 1, 2, 10]), (.ifCond .eq 0, 12, [0, 14]), (.iconst (2), 13, []), (.ireturn, 14, [0]), (.iload 2, 15, []), (.iconst (0), 16, []), (.aload 0, 17, []), (.getfield 4, 18, [11, 2]), (.iload 1, 19, []), (.invokestatic 336, 20, [2, 0, 1, 2, 10]), (.iconst (1), 21, []), (.isub, 22, []), (.invokestatic 74, 23, [3, 0, 1, 3, 0]), (.ifCond .eq 0, 24, [0, 26]), (.iconst (0), 25, []), (.goto 0, 26, [27]), (.iconst (3), 27, []), (.ireturn, 28, [0])]
def k_T_pourStatus : mCode := [(.aload 0, 1, []), (.getfield 4, 2, [11, 2]), (.iload 1, 3, []), (.invokestatic 333, 4, [2, 0, 1, 2, 10]), (.ifCond .eq 0, 5, [0, 16]), (.aload 0, 6, []), (.getfield 4, 7, [11, 2]), (.iload 3, 8, []), (.invokestatic 333, 9, [2, 0, 1, 2, 10]), (.ifCond .eq 0, 10, [0, 16]), (.iload 2, 11, []), (.ifCond .eq 0, 12, [2, 16]), (.iload 4, 13, []), (.ifCond .eq 0, 14, [2, 16]), (.iload 5, 15, []), (.ifCond .eq 0, 16, [3, 18]), (.iconst (1), 17, []), (.ireturn, 18, [0]), (.aload 0, 19, []), (.getfield 4, 20, [11, 2]), (.iload 1, 21, []), (.invokestatic 335, 22, [2, 0, 1, 2, 10]), (.ifCond .eq 0, 23, [1, 28]), (.aload 0, 24, []), (.getfield 4, 25, [11, 2]), (.iload 3, 26, []), (.invokestatic 335, 27, [2, 0, 1, 2, 10]), (.ifCond .eq 0, 28, [0, 30]), (.iconst (2), 29, []), (.ireturn, 30, [0]), (.aload 0, 31, []), (.getfield 4, 32, [11, 2]), (.iload 1, 33, []), (.invokestatic 337, 34, [2, 0, 1, 2, 10]), (.aload 0, 35, []), (.getfield 4, 36, [11, 2]), (.iload 3, 37, []), (.invokestatic 337, 38, [2, 0, 1, 2, 10]), (.if_icmp .eq 0, 39, [0, 41]), (.iconst (8), 40, []), (.ireturn, 41, [0]), (.aload 0, 42, []), (.getfield 4, 43, [11, 2]), (.iload 1, 44, []), (.iload 2, 45, []), (.iload 5, 46, []), (.invokestatic 338, 47, [4, 0, 1, 4, 10]), (.ifCond .eq 0, 48, [0, 57]), (.aload 0, 49, []), (.getfield 4, 50, [11, 2]), (.iload 3, 51, []), (.iload 4, 52, []), (.iload 5, 53, []), (.invokestatic 338, 54, [4, 0, 1, 4, 10]), (.ifCond .eq 0, 55, [0, 57]), (.iconst (0), 56, []), (.goto 0, 57, [58]), (.iconst (3), 58, []), (.ireturn, 59, [0])]
def k_T_feed : mCode := [(.aload 0, 1, []), (.getfield 5, 2, [11, 2]), (.iconst (20), 3, []), (.invokestatic 297, 4, [2, 0, 1, 2, 7]), (.ifCond .eq 0, 5, [1, 7]), (.iconst (-1), 6, []), (.ireturn, 7, [0]), (.aload 0, 8, []), (.getfield 5, 9, [11, 2]), (.iload 1, 10, []), (.invokestatic 298, 11, [2, 0, 0, 3, 7]), (.aload 0, 12, []), (.getfield 5, 13, [11, 2]), (.iload 2, 14, []), (.invokestatic 298, 15, [2, 0, 0, 3, 7]), (.aload 0, 16, []), (.getfield 5, 17, [11, 2]), (.iload 3, 18, []), (.invokestatic 298, 19, [2, 0, 0, 3, 7]), (.aload 0, 20, []), (.getfield 5, 21, [11, 2]), (.iload 4, 22, []), (.invokestatic 298, 23, [2, 0, 0, 3, 7]), (.aload 0, 24, []), (.getfield 5, 25, [11, 2]), (.iload 5, 26, []), (.invokestatic 298, 27, [2, 0, 0, 3, 7]), (.aload 0, 28, []), (.getfield 5, 29, [11, 2]), (.invokestatic 294, 30, [1, 0, 1, 1, 7]), (.ireturn, 31, [0])]
def k_T_map : mCode := [(.iload 1, 1, []), (.iconst (0), 2, []), (.aload 0, 3, []), (.getfield 5, 4, [11, 2]), (.invokestatic 294, 5, [1, 0, 1, 1, 7]), (.invokestatic 74, 6, [3, 0, 1, 3, 0]), (.ifCond .eq 0, 7, [1, 11]), (.aload 0, 8, []), (.iconst (1), 9, []), (.invokestatic 68, 10, [2, 0, 1, 2, 12]), (.ireturn, 11, [0]), (.aload 0, 12, []), (.getfield 9, 13, [11, 2]), (.iload 1, 14, []), (.invokestatic 282, 15, [2, 0, 1, 3, 5]), (.istore 2, 16, []), (.aload 0, 17, []), (.getfield 5, 18, [11, 2]), (.invokestatic 299, 19, [1, 0, 0, 1, 7]), (.iload 2, 20, []), (.ifCond .eq 0, 21, [1, 25]), (.aload 0, 22, []), (.iconst (9), 23, []), (.invokestatic 68, 24, [2, 0, 1, 2, 12]), (.ireturn, 25, [0]), (.aload 0, 26, []), (.getfield 6, 27, [11, 2]), (.aload 0, 28, []), (.getfield 9, 29, [11, 2]), (.invokestatic 281, 30, [1, 0, 3, 1, 5]), (.invokestatic 227, 31, [2, 0, 0, 2, 1]), (.aload 0, 32, []), (.getfield 8, 33, [11, 2]), (.invokestatic 320, 34, [1, 0, 0, 1, 8]), (.aload 0, 35, []), (.aload 0, 36, []), (.getfield 6, 37, [11, 2]), (.getfield 0, 38, [0, 0]), (.invokestatic 67, 39, [2, 0, 1, 2, 12]), (.ireturn, 40, [0])]
def k_T_times : mCode := [(.iload 1, 1, []), (.iconst (0), 2, []), (.aload 0, 3, []), (.getfield 5, 4, [11, 2]), (.invokestatic 294, 5, [1, 0, 1, 1, 7]), (.invokestatic 74, 6, [3, 0, 1, 3, 0]), (.ifCond .eq 0, 7, [0, 10]), (.iload 1, 8, []), (.iconst (300), 9, []), (.if_icmp .eq 0, 10, [5, 14]), (.aload 0, 11, []), (.iconst (1), 12, []), (.invokestatic 68, 13, [2, 0, 1, 2, 12]), (.ireturn, 14, [0]), (.aload 0, 15, []), (.getfield 10, 16, [11, 2]), (.iload 1, 17, []), (.aload 0, 18, []), (.getfield 6, 19, [11, 2]), (.invokestatic 325, 20, [3, 0, 1, 4, 9]), (.istore 2, 21, []), (.aload 0, 22, []), (.getfield 5, 23, [11, 2]), (.invokestatic 299, 24, [1, 0, 0, 1, 7]), (.iload 2, 25, []), (.ifCond .eq 0, 26, [1, 30]), (.aload 0, 27, []), (.iconst (9), 28, []), (.invokestatic 68, 29, [2, 0, 1, 2, 12]), (.ireturn, 30, [0]), (.aload 0, 31, []), (.getfield 8, 32, [11, 2]), (.aload 0, 33, []), (.getfield 10, 34, [11, 2]), (.invokestatic 324, 35, [1, 0, 3, 1, 9]), (.invokestatic 322, 36, [2, 0, 0, 2, 8]), (.aload 0, 37, []), (.aload 0, 38, []), (.getfield 8, 39, [11, 2]), (.getfield 7, 40, [7, 0]), (.invokestatic 67, 41, [2, 0, 1, 2, 12]), (.ireturn, 42, [0])]
def k_T_fault : mCode := [(.iload 1, 1, []), (.ifCond .eq 0, 2, [1, 6]), (.aload 0, 3, []), (.getfield 5, 4, [11, 2]), (.invokestatic 295, 5, [1, 0, 1, 1, 7]), (.ireturn, 6, [0]), (.iload 1, 7, []), (.iconst (1), 8, []), (.if_icmp .eq 0, 9, [1, 13]), (.aload 0, 10, []), (.getfield 5, 11, [11, 2]), (.invokestatic 296, 12, [1, 0, 1, 1, 7]), (.goto 0, 13, [14]), (.iconst (-1), 14, []), (.ireturn, 15, [0])]
def k_T_told : mCode := [(.iload 1, 1, []), (.iconst (1), 2, []), (.if_icmp .eq 0, 3, [2, 14]), (.iload 1, 4, []), (.iconst (6), 5, []), (.if_icmp .eq 0, 6, [4, 14]), (.aload 0, 7, []), (.aload 0, 8, []), (.getfield 6, 9, [11, 2]), (.getfield 2, 10, [0, 2]), (.iload 1, 11, []), (.iaload, 12, []), (.invokestatic 67, 13, [2, 0, 1, 2, 12]), (.ireturn, 14, [0]), (.iload 1, 15, []), (.tableswitch 0 (0) 0 #[], 16, [52, 16, 52, 52, 52, 52, 52, 52, 22, 28, 34, 40, 46]), (.aload 0, 17, []), (.aload 0, 18, []), (.getfield 6, 19, [11, 2]), (.getfield 0, 20, [0, 0]), (.invokestatic 67, 21, [2, 0, 1, 2, 12]), (.ireturn, 22, [0]), (.aload 0, 23, []), (.aload 0, 24, []), (.getfield 6, 25, [11, 2]), (.getfield 1, 26, [0, 0]), (.invokestatic 67, 27, [2, 0, 1, 2, 12]), (.ireturn, 28, [0]), (.aload 0, 29, []), (.aload 0, 30, []), (.getfield 6, 31, [11, 2]), (.invokestatic 236, 32, [1, 0, 1, 3, 1]), (.invokestatic 67, 33, [2, 0, 1, 2, 12]), (.ireturn, 34, [0]), (.aload 0, 35, []), (.aload 0, 36, []), (.getfield 6, 37, [11, 2]), (.invokestatic 237, 38, [1, 0, 1, 3, 1]), (.invokestatic 67, 39, [2, 0, 1, 2, 12]), (.ireturn, 40, [0]), (.aload 0, 41, []), (.aload 0, 42, []), (.getfield 6, 43, [11, 2]), (.invokestatic 239, 44, [1, 0, 1, 3, 1]), (.invokestatic 67, 45, [2, 0, 1, 2, 12]), (.ireturn, 46, [0]), (.aload 0, 47, []), (.aload 0, 48, []), (.getfield 6, 49, [11, 2]), (.invokestatic 240, 50, [1, 0, 1, 3, 1]), (.invokestatic 67, 51, [2, 0, 1, 2, 12]), (.ireturn, 52, [0]), (.aload 0, 53, []), (.iconst (1), 54, []), (.invokestatic 68, 55, [2, 0, 1, 2, 12]), (.ireturn, 56, [0])]
def k_T_person : mCode := [(.aload 0, 1, []), (.getfield 6, 2, [11, 2]), (.iload 1, 3, []), (.invokestatic 228, 4, [2, 0, 1, 2, 1]), (.ifCond .eq 0, 5, [0, 10]), (.iload 2, 6, []), (.iconst (0), 7, []), (.iconst (6), 8, []), (.invokestatic 74, 9, [3, 0, 1, 3, 0]), (.ifCond .eq 0, 10, [1, 14]), (.aload 0, 11, []), (.iconst (1), 12, []), (.invokestatic 68, 13, [2, 0, 1, 2, 12]), (.ireturn, 14, [0]), (.iload 2, 15, []), (.iconst (4), 16, []), (.if_icmp .eq 0, 17, [0, 20]), (.iload 2, 18, []), (.iconst (5), 19, []), (.if_icmp .eq 0, 20, [1, 22]), (.iconst (1), 21, []), (.goto 0, 22, [23]), (.iconst (0), 23, []), (.istore 3, 24, []), (.iload 3, 25, []), (.ifCond .eq 0, 26, [0, 35]), (.aload 0, 27, []), (.getfield 6, 28, [11, 2]), (.iload 1, 29, []), (.invokestatic 232, 30, [2, 0, 1, 2, 1]), (.ifCond .eq 0, 31, [1, 35]), (.aload 0, 32, []), (.iconst (6), 33, []), (.invokestatic 68, 34, [2, 0, 1, 2, 12]), (.ireturn, 35, [0]), (.iload 2, 36, []), (.tableswitch 0 (0) 0 #[], 37, [84, 37, 45, 53, 61, 69, 77]), (.aload 0, 38, []), (.aload 0, 39, []), (.getfield 6, 40, [11, 2]), (.getfield 3, 41, [0, 2]), (.iload 1, 42, []), (.iaload, 43, []), (.invokestatic 67, 44, [2, 0, 1, 2, 12]), (.ireturn, 45, [0]), (.aload 0, 46, []), (.aload 0, 47, []), (.getfield 6, 48, [11, 2]), (.getfield 4, 49, [0, 2]), (.iload 1, 50, []), (.iaload, 51, []), (.invokestatic 67, 52, [2, 0, 1, 2, 12]), (.ireturn, 53, [0]), (.aload 0, 54, []), (.aload 0, 55, []), (.getfield 6, 56, [11, 2]), (.getfield 5, 57, [0, 2]), (.iload 1, 58, []), (.iaload, 59, []), (.invokestatic 67, 60, [2, 0, 1, 2, 12]), (.ireturn, 61, [0]), (.aload 0, 62, []), (.aload 0, 63, []), (.getfield 6, 64, [11, 2]), (.getfield 6, 65, [0, 2]), (.iload 1, 66, []), (.iaload, 67, []), (.invokestatic 67, 68, [2, 0, 1, 2, 12]), (.ireturn, 69, [0]), (.aload 0, 70, []), (.aload 0, 71, []), (.getfield 6, 72, [11, 2]), (.getfield 7, 73, [0, 2]), (.iload 1, 74, []), (.iaload, 75, []), (.invokestatic 67, 76, [2, 0, 1, 2, 12]), (.ireturn, 77, [0]), (.aload 0, 78, []), (.aload 0, 79, []), (.getfield 6, 80, [11, 2]), (.iload 1, 81, []), (.invokestatic 234, 82, [2, 0, 1, 3, 1]), (.invokestatic 67, 83, [2, 0, 1, 2, 12]), (.ireturn, 84, [0]), (.aload 0, 85, []), (.aload 0, 86, []), (.getfield 6, 87, [11, 2]), (.iload 1, 88, []), (.invokestatic 238, 89, [2, 0, 1, 4, 1]), (.invokestatic 67, 90, [2, 0, 1, 2, 12]), (.ireturn, 91, [0])]
def k_T_far : mCode := [(.aload 0, 1, []), (.getfield 6, 2, [11, 2]), (.iload 1, 3, []), (.invokestatic 228, 4, [2, 0, 1, 2, 1]), (.ifCond .eq 0, 5, [0, 10]), (.aload 0, 6, []), (.getfield 6, 7, [11, 2]), (.iload 2, 8, []), (.invokestatic 228, 9, [2, 0, 1, 2, 1]), (.ifCond .eq 0, 10, [1, 14]), (.aload 0, 11, []), (.iconst (1), 12, []), (.invokestatic 68, 13, [2, 0, 1, 2, 12]), (.ireturn, 14, [0]), (.aload 0, 15, []), (.aload 0, 16, []), (.getfield 6, 17, [11, 2]), (.iload 1, 18, []), (.iload 2, 19, []), (.invokestatic 233, 20, [3, 0, 1, 3, 1]), (.invokestatic 67, 21, [2, 0, 1, 2, 12]), (.ireturn, 22, [0])]
def k_T_drink : mCode := [(.aload 0, 1, []), (.getfield 6, 2, [11, 2]), (.iload 1, 3, []), (.invokestatic 228, 4, [2, 0, 1, 2, 1]), (.ifCond .eq 0, 5, [1, 9]), (.aload 0, 6, []), (.iconst (1), 7, []), (.invokestatic 68, 8, [2, 0, 1, 2, 12]), (.ireturn, 9, [0]), (.aload 0, 10, []), (.getfield 6, 11, [11, 2]), (.iload 1, 12, []), (.invokestatic 242, 13, [2, 0, 1, 2, 1]), (.ifCond .eq 0, 14, [1, 18]), (.aload 0, 15, []), (.iconst (7), 16, []), (.invokestatic 68, 17, [2, 0, 1, 2, 12]), (.ireturn, 18, [0]), (.aload 0, 19, []), (.aload 0, 20, []), (.getfield 6, 21, [11, 2]), (.iload 1, 22, []), (.invokestatic 243, 23, [2, 0, 1, 4, 1]), (.invokestatic 67, 24, [2, 0, 1, 2, 12]), (.ireturn, 25, [0])]
def k_T_night : mCode := [(.iload 1, 1, []), (.iconst (1), 2, []), (.iconst (99), 3, []), (.invokestatic 74, 4, [3, 0, 1, 3, 0]), (.ifCond .eq 0, 5, [1, 9]), (.aload 0, 6, []), (.iconst (1), 7, []), (.invokestatic 68, 8, [2, 0, 1, 2, 12]), (.ireturn, 9, [0]), (.aload 0, 10, []), (.getfield 6, 11, [11, 2]), (.iload 1, 12, []), (.invokestatic 244, 13, [2, 0, 1, 2, 1]), (.ifCond .eq 0, 14, [1, 18]), (.aload 0, 15, []), (.iconst (4), 16, []), (.invokestatic 68, 17, [2, 0, 1, 2, 12]), (.ireturn, 18, [0]), (.aload 0, 19, []), (.getfield 6, 20, [11, 2]), (.iload 1, 21, []), (.invokestatic 246, 22, [2, 0, 0, 3, 1]), (.aload 0, 23, []), (.aload 0, 24, []), (.getfield 6, 25, [11, 2]), (.invokestatic 236, 26, [1, 0, 1, 3, 1]), (.invokestatic 67, 27, [2, 0, 1, 2, 12]), (.ireturn, 28, [0])]
def k_T_evening : mCode := [(.aload 0, 1, []), (.getfield 6, 2, [11, 2]), (.iconst (1), 3, []), (.invokestatic 244, 4, [2, 0, 1, 2, 1]), (.ifCond .eq 0, 5, [1, 9]), (.aload 0, 6, []), (.iconst (4), 7, []), (.invokestatic 68, 8, [2, 0, 1, 2, 12]), (.ireturn, 9, [0]), (.aload 0, 10, []), (.aload 0, 11, []), (.getfield 6, 12, [11, 2]), (.iconst (-1), 13, []), (.invokestatic 247, 14, [2, 0, 1, 4, 1]), (.invokestatic 67, 15, [2, 0, 1, 2, 12]), (.ireturn, 16, [0])]
def k_T_fill : mCode := [(.aload 0, 1, []), (.getfield 6, 2, [11, 2]), (.iload 1, 3, []), (.invokestatic 228, 4, [2, 0, 1, 2, 1]), (.ifCond .eq 0, 5, [0, 10]), (.iload 2, 6, []), (.iconst (0), 7, []), (.iconst (9), 8, []), (.invokestatic 74, 9, [3, 0, 1, 3, 0]), (.ifCond .eq 0, 10, [1, 14]), (.aload 0, 11, []), (.iconst (1), 12, []), (.invokestatic 68, 13, [2, 0, 1, 2, 12]), (.ireturn, 14, [0]), (.aload 0, 15, []), (.getfield 6, 16, [11, 2]), (.getfield 6, 17, [0, 2]), (.iload 1, 18, []), (.iaload, 19, []), (.istore 3, 20, []), (.aload 0, 21, []), (.getfield 6, 22, [11, 2]), (.getfield 6, 23, [0, 2]), (.iload 1, 24, []), (.iload 2, 25, []), (.iastore, 26, []), (.aload 0, 27, []), (.iload 3, 28, []), (.invokestatic 67, 29, [2, 0, 1, 2, 12]), (.ireturn, 30, [0])]
def k_T_means : mCode := [(.aload 0, 1, []), (.getfield 6, 2, [11, 2]), (.iload 1, 3, []), (.invokestatic 228, 4, [2, 0, 1, 2, 1]), (.ifCond .eq 0, 5, [0, 10]), (.iload 2, 6, []), (.iconst (0), 7, []), (.iconst (9), 8, []), (.invokestatic 74, 9, [3, 0, 1, 3, 0]), (.ifCond .eq 0, 10, [1, 14]), (.aload 0, 11, []), (.iconst (1), 12, []), (.invokestatic 68, 13, [2, 0, 1, 2, 12]), (.ireturn, 14, [0]), (.aload 0, 15, []), (.getfield 6, 16, [11, 2]), (.getfield 4, 17, [0, 2]), (.iload 1, 18, []), (.iaload, 19, []), (.istore 3, 20, []), (.aload 0, 21, []), (.getfield 6, 22, [11, 2]), (.getfield 4, 23, [0, 2]), (.iload 1, 24, []), (.iload 2, 25, []), (.iastore, 26, []), (.aload 0, 27, []), (.iload 3, 28, []), (.invokestatic 67, 29, [2, 0, 1, 2, 12]), (.ireturn, 30, [0])]
def k_T_move : mCode := [(.aload 0, 1, []), (.getfield 6, 2, [11, 2]), (.iload 1, 3, []), (.invokestatic 228, 4, [2, 0, 1, 2, 1]), (.ifCond .eq 0, 5, [0, 10]), (.iload 2, 6, []), (.iconst (0), 7, []), (.iconst (59), 8, []), (.invokestatic 74, 9, [3, 0, 1, 3, 0]), (.ifCond .eq 0, 10, [1, 14]), (.aload 0, 11, []), (.iconst (1), 12, []), (.invokestatic 68, 13, [2, 0, 1, 2, 12]), (.ireturn, 14, [0]), (.aload 0, 15, []), (.getfield 6, 16, [11, 2]), (.getfield 3, 17, [0, 2]), (.iload 1, 18, []), (.iaload, 19, []), (.istore 3, 20, []), (.aload 0, 21, []), (.getfield 6, 22, [11, 2]), (.getfield 3, 23, [0, 2]), (.iload 1, 24, []), (.iload 2, 25, []), (.iastore, 26, []), (.aload 0, 27, []), (.iload 3, 28, []), (.invokestatic 67, 29, [2, 0, 1, 2, 12]), (.ireturn, 30, [0])]
def k_T_aim : mCode := [(.aload 0, 1, []), (.iload 1, 2, []), (.iload 2, 3, []), (.invokestatic 73, 4, [3, 0, 1, 3, 12]), (.ifCond .eq 0, 5, [1, 9]), (.aload 0, 6, []), (.iconst (1), 7, []), (.invokestatic 68, 8, [2, 0, 1, 2, 12]), (.ireturn, 9, [0]), (.aload 0, 10, []), (.getfield 6, 11, [11, 2]), (.getfield 7, 12, [0, 2]), (.iload 1, 13, []), (.iaload, 14, []), (.istore 3, 15, []), (.iload 3, 16, []), (.iload 2, 17, []), (.if_icmp .eq 0, 18, [1, 22]), (.aload 0, 19, []), (.iconst (7), 20, []), (.invokestatic 68, 21, [2, 0, 1, 2, 12]), (.ireturn, 22, [0]), (.aload 0, 23, []), (.getfield 6, 24, [11, 2]), (.getfield 7, 25, [0, 2]), (.iload 1, 26, []), (.iload 2, 27, []), (.iastore, 28, []), (.aload 0, 29, []), (.iload 3, 30, []), (.iconst (-1), 31, []), (.if_icmp .eq 0, 32, [1, 36]), (.aload 0, 33, []), (.getfield 6, 34, [11, 2]), (.getfield 0, 35, [0, 0]), (.goto 0, 36, [37]), (.iload 3, 37, []), (.invokestatic 67, 38, [2, 0, 1, 2, 12]), (.ireturn, 39, [0])]
def k_T_come : mCode := [(.iload 1, 1, []), (.iconst (0), 2, []), (.iconst (59), 3, []), (.invokestatic 74, 4, [3, 0, 1, 3, 0]), (.ifCond .eq 0, 5, [1, 9]), (.aload 0, 6, []), (.iconst (1), 7, []), (.invokestatic 68, 8, [2, 0, 1, 2, 12]), (.ireturn, 9, [0]), (.aload 0, 10, []), (.getfield 6, 11, [11, 2]), (.invokestatic 229, 12, [1, 0, 1, 1, 1]), (.ifCond .eq 0, 13, [0, 17]), (.aload 0, 14, []), (.iconst (4), 15, []), (.invokestatic 68, 16, [2, 0, 1, 2, 12]), (.ireturn, 17, [0]), (.aload 0, 18, []), (.aload 0, 19, []), (.getfield 6, 20, [11, 2]), (.iload 1, 21, []), (.sipush (0), 22, []), (.invokestatic 230, 23, [3, 0, 1, 5, 1]), (.invokestatic 67, 24, [2, 0, 1, 2, 12]), (.ireturn, 25, [0])]
def k_T_rule : mCode := [(.iload 1, 1, []), (.iconst (1), 2, []), (.iconst (6), 3, []), (.invokestatic 74, 4, [3, 0, 1, 3, 0]), (.ifCond .eq 0, 5, [0, 14]), (.iload 2, 6, []), (.ldc 2, 7, []), (.iload 1, 8, []), (.iaload, 9, []), (.ldc 3, 10, []), (.iload 1, 11, []), (.iaload, 12, []), (.invokestatic 74, 13, [3, 0, 1, 3, 0]), (.ifCond .eq 0, 14, [1, 18]), (.aload 0, 15, []), (.iconst (1), 16, []), (.invokestatic 70, 17, [2, 0, 1, 2, 12]), (.ireturn, 18, [3]), (.aload 0, 19, []), (.getfield 6, 20, [11, 2]), (.getfield 2, 21, [0, 2]), (.iload 1, 22, []), (.iload 2, 23, []), (.iastore, 24, []), (.aload 0, 25, []), (.invokestatic 69, 26, [1, 0, 1, 1, 12]), (.ireturn, 27, [3])]
def k_T_warmIn : mCode := [(.aload 0, 1, []), (.getfield 6, 2, [11, 2]), (.iload 1, 3, []), (.invokestatic 228, 4, [2, 0, 1, 2, 1]), (.ifCond .eq 0, 5, [0, 10]), (.iload 2, 6, []), (.iconst (0), 7, []), (.iconst (60), 8, []), (.invokestatic 74, 9, [3, 0, 1, 3, 0]), (.ifCond .eq 0, 10, [1, 14]), (.aload 0, 11, []), (.iconst (1), 12, []), (.invokestatic 68, 13, [2, 0, 1, 2, 12]), (.ireturn, 14, [0]), (.aload 0, 15, []), (.aload 0, 16, []), (.getfield 6, 17, [11, 2]), (.iload 1, 18, []), (.iload 2, 19, []), (.invokestatic 245, 20, [3, 0, 1, 3, 1]), (.invokestatic 67, 21, [2, 0, 1, 2, 12]), (.ireturn, 22, [0])]
def k_T_darkIn : mCode := [(.aload 0, 1, []), (.getfield 6, 2, [11, 2]), (.iload 1, 3, []), (.invokestatic 228, 4, [2, 0, 1, 2, 1]), (.ifCond .eq 0, 5, [1, 9]), (.aload 0, 6, []), (.iconst (1), 7, []), (.invokestatic 68, 8, [2, 0, 1, 2, 12]), (.ireturn, 9, [0]), (.iconst (0), 10, []), (.istore 2, 11, []), (.iload 2, 12, []), (.iconst (99), 13, []), (.if_icmp .eq 0, 14, [4, 31]), (.aload 0, 15, []), (.getfield 6, 16, [11, 2]), (.iload 1, 17, []), (.iload 2, 18, []), (.invokestatic 245, 19, [3, 0, 1, 3, 1]), (.aload 0, 20, []), (.getfield 6, 21, [11, 2]), (.getfield 2, 22, [0, 2]), (.iconst (3), 23, []), (.iaload, 24, []), (.if_icmp .eq 0, 25, [3, 29]), (.aload 0, 26, []), (.iload 2, 27, []), (.invokestatic 67, 28, [2, 0, 1, 2, 12]), (.ireturn, 29, [0]), (.iinc 2 (1), 30, []), (.goto 0, 31, [11]), (.aload 0, 32, []), (.iconst (6), 33, []), (.invokestatic 68, 34, [2, 0, 1, 2, 12]), (.ireturn, 35, [0])]
def k_T_eveningIn : mCode := [(.aload 0, 1, []), (.getfield 6, 2, [11, 2]), (.iload 1, 3, []), (.invokestatic 228, 4, [2, 0, 1, 2, 1]), (.ifCond .eq 0, 5, [0, 10]), (.iload 2, 6, []), (.iconst (0), 7, []), (.iconst (60), 8, []), (.invokestatic 74, 9, [3, 0, 1, 3, 0]), (.ifCond .eq 0, 10, [1, 14]), (.aload 0, 11, []), (.iconst (1), 12, []), (.invokestatic 68, 13, [2, 0, 1, 2, 12]), (.ireturn, 14, [0]), (.aload 0, 15, []), (.iload 2, 16, []), (.invokestatic 33, 17, [2, 0, 0, 3, 12]), (.aload 0, 18, []), (.aload 0, 19, []), (.getfield 7, 20, [11, 2]), (.getfield 5, 21, [0, 2]), (.iload 1, 22, []), (.iaload, 23, []), (.invokestatic 67, 24, [2, 0, 1, 2, 12]), (.ireturn, 25, [0])]
def k_T_litIn : mCode := [(.iload 1, 1, []), (.iconst (0), 2, []), (.iconst (60), 3, []), (.invokestatic 74, 4, [3, 0, 1, 3, 0]), (.ifCond .eq 0, 5, [1, 9]), (.aload 0, 6, []), (.iconst (1), 7, []), (.invokestatic 68, 8, [2, 0, 1, 2, 12]), (.ireturn, 9, [0]), (.aload 0, 10, []), (.iload 1, 11, []), (.invokestatic 33, 12, [2, 0, 0, 3, 12]), (.aload 0, 13, []), (.aload 0, 14, []), (.getfield 7, 15, [11, 2]), (.invokestatic 236, 16, [1, 0, 1, 3, 1]), (.invokestatic 67, 17, [2, 0, 1, 2, 12]), (.ireturn, 18, [0])]
def k_T_settles : mCode := [(.aload 0, 1, []), (.invokestatic 34, 2, [1, 0, 1, 2, 12]), (.istore 1, 3, []), (.iload 1, 4, []), (.iconst (-1), 5, []), (.if_icmp .eq 0, 6, [1, 10]), (.aload 0, 7, []), (.iconst (6), 8, []), (.invokestatic 68, 9, [2, 0, 1, 2, 12]), (.goto 0, 10, [15]), (.aload 0, 11, []), (.aload 0, 12, []), (.iload 1, 13, []), (.invokestatic 35, 14, [2, 0, 1, 3, 12]), (.invokestatic 67, 15, [2, 0, 1, 2, 12]), (.ireturn, 16, [0])]
def k_T_period : mCode := [(.aload 0, 1, []), (.invokestatic 34, 2, [1, 0, 1, 2, 12]), (.istore 1, 3, []), (.iload 1, 4, []), (.iconst (-1), 5, []), (.if_icmp .eq 0, 6, [1, 10]), (.aload 0, 7, []), (.iconst (6), 8, []), (.invokestatic 68, 9, [2, 0, 1, 2, 12]), (.goto 0, 10, [13]), (.aload 0, 11, []), (.iload 1, 12, []), (.invokestatic 67, 13, [2, 0, 1, 2, 12]), (.ireturn, 14, [0])]
def k_T_lookAhead : mCode := [(.aload 0, 1, []), (.getfield 7, 2, [11, 2]), (.aload 0, 3, []), (.getfield 6, 4, [11, 2]), (.invokestatic 227, 5, [2, 0, 0, 2, 1]), (.iconst (0), 6, []), (.istore 2, 7, []), (.iload 2, 8, []), (.iload 1, 9, []), (.if_icmp .eq 0, 10, [3, 17]), (.aload 0, 11, []), (.getfield 7, 12, [11, 2]), (.iconst (-1), 13, []), (.invokestatic 247, 14, [2, 0, 1, 4, 1]), (.pop, 15, []), (.iinc 2 (1), 16, []), (.goto 0, 17, [7]), (.return_, 18, [])]
def k_T_findPeriod : mCode := [(.aload 0, 1, []), (.getfield 7, 2, [11, 2]), (.aload 0, 3, []), (.getfield 6, 4, [11, 2]), (.invokestatic 227, 5, [2, 0, 0, 2, 1]), (.aload 0, 6, []), (.getfield 18, 7, [11, 2]), (.iconst (0), 8, []), (.aload 0, 9, []), (.getfield 7, 10, [11, 2]), (.invokestatic 241, 11, [1, 0, 2, 4, 1]), (.lastore, 12, []), (.iconst (1), 13, []), (.istore 1, 14, []), (.iload 1, 15, []), (.iconst (200), 16, []), (.if_icmp .eq 0, 17, [4, 31]), (.aload 0, 18, []), (.getfield 7, 19, [11, 2]), (.iconst (-1), 20, []), (.invokestatic 247, 21, [2, 0, 1, 4, 1]), (.pop, 22, []), (.aload 0, 23, []), (.getfield 18, 24, [11, 2]), (.iload 1, 25, []), (.aload 0, 26, []), (.getfield 7, 27, [11, 2]), (.invokestatic 241, 28, [1, 0, 2, 4, 1]), (.lastore, 29, []), (.iinc 1 (1), 30, []), (.goto 0, 31, [14]), (.iconst (199), 32, []), (.istore 1, 33, []), (.iload 1, 34, []), (.ifCond .eq 0, 35, [2, 51]), (.aload 0, 36, []), (.getfield 18, 37, [11, 2]), (.iload 1, 38, []), (.laload, 39, []), (.aload 0, 40, []), (.getfield 18, 41, [11, 2]), (.iconst (200), 42, []), (.laload, 43, []), (.lcmp, 45, [1, 49]), (.ifCond .eq 0, 45, [1, 49]), (.iconst (200), 46, []), (.iload 1, 47, []), (.isub, 48, []), (.ireturn, 49, [0]), (.iinc 1 (-1), 50, []), (.goto 0, 51, [33]), (.iconst (-1), 52, []), (.ireturn, 53, [0])]
def k_T_firstSettled : mCode := [(.iconst (0), 1, []), (.istore 2, 2, []), (.iload 2, 3, []), (.iload 1, 4, []), (.iadd, 5, []), (.iconst (200), 6, []), (.if_icmp .eq 0, 7, [3, 21]), (.aload 0, 8, []), (.getfield 18, 9, [11, 2]), (.iload 2, 10, []), (.laload, 11, []), (.aload 0, 12, []), (.getfield 18, 13, [11, 2]), (.iload 2, 14, []), (.iload 1, 15, []), (.iadd, 16, []), (.laload, 17, []), (.lcmp, 19, [0, 21]), (.ifCond .eq 0, 19, [0, 21]), (.iinc 2 (1), 20, []), (.goto 0, 21, [2]), (.iload 2, 22, []), (.ireturn, 23, [0])]
def k_T_chain : mCode := [(.aload 0, 1, []), (.getfield 6, 2, [11, 2]), (.iload 1, 3, []), (.invokestatic 228, 4, [2, 0, 1, 2, 1]), (.ifCond .eq 0, 5, [1, 9]), (.aload 0, 6, []), (.iconst (1), 7, []), (.invokestatic 68, 8, [2, 0, 1, 2, 12]), (.ireturn, 9, [0]), (.aload 0, 10, []), (.aload 0, 11, []), (.getfield 6, 12, [11, 2]), (.iload 1, 13, []), (.invokestatic 248, 14, [2, 0, 1, 5, 1]), (.invokestatic 67, 15, [2, 0, 1, 2, 12]), (.ireturn, 16, [0])]
def k_T_chainAt : mCode := [(.aload 0, 1, []), (.getfield 6, 2, [11, 2]), (.iload 1, 3, []), (.invokestatic 228, 4, [2, 0, 1, 2, 1]), (.ifCond .eq 0, 5, [0, 7]), (.iload 2, 6, []), (.ifCond .eq 0, 7, [3, 11]), (.aload 0, 8, []), (.iconst (1), 9, []), (.invokestatic 68, 10, [2, 0, 1, 2, 12]), (.ireturn, 11, [0]), (.iload 2, 12, []), (.aload 0, 13, []), (.getfield 6, 14, [11, 2]), (.iload 1, 15, []), (.invokestatic 248, 16, [2, 0, 1, 5, 1]), (.if_icmp .eq 0, 17, [2, 21]), (.aload 0, 18, []), (.iconst (6), 19, []), (.invokestatic 68, 20, [2, 0, 1, 2, 12]), (.ireturn, 21, [0]), (.aload 0, 22, []), (.aload 0, 23, []), (.getfield 6, 24, [11, 2]), (.iload 1, 25, []), (.iload 2, 26, []), (.invokestatic 249, 27, [3, 0, 1, 5, 1]), (.invokestatic 67, 28, [2, 0, 1, 2, 12]), (.ireturn, 29, [0])]
def k_T_rings : mCode := [(.iconst (0), 1, []), (.istore 1, 2, []), (.iconst (0), 3, []), (.istore 2, 4, []), (.iload 2, 5, []), (.aload 0, 6, []), (.getfield 6, 7, [11, 2]), (.getfield 0, 8, [0, 0]), (.if_icmp .eq 0, 9, [3, 17]), (.aload 0, 10, []), (.getfield 6, 11, [11, 2]), (.iload 2, 12, []), (.invokestatic 251, 13, [2, 0, 1, 4, 1]), (.ifCond .eq 0, 14, [0, 15]), (.iinc 1 (1), 15, []), (.iinc 2 (1), 16, []), (.goto 0, 17, [4]), (.aload 0, 18, []), (.iload 1, 19, []), (.invokestatic 67, 20, [2, 0, 1, 2, 12]), (.ireturn, 21, [0])]
def k_T_inRings : mCode := [(.iconst (0), 1, []), (.istore 1, 2, []), (.iconst (0), 3, []), (.istore 2, 4, []), (.iload 2, 5, []), (.aload 0, 6, []), (.getfield 6, 7, [11, 2]), (.getfield 0, 8, [0, 0]), (.if_icmp .eq 0, 9, [3, 22]), (.aload 0, 10, []), (.getfield 6, 11, [11, 2]), (.iload 2, 12, []), (.invokestatic 250, 13, [2, 0, 1, 4, 1]), (.ifCond .eq 0, 14, [0, 20]), (.iload 1, 15, []), (.iconst (1), 16, []), (.iload 2, 17, []), (.ishl, 18, []), (.ior, 19, []), (.istore 1, 20, []), (.iinc 2 (1), 21, []), (.goto 0, 22, [4]), (.aload 0, 23, []), (.iload 1, 24, []), (.invokestatic 67, 25, [2, 0, 1, 2, 12]), (.ireturn, 26, [0])]
def k_T_needs : mCode := [(.aload 0, 1, []), (.getfield 6, 2, [11, 2]), (.iload 1, 3, []), (.invokestatic 228, 4, [2, 0, 1, 2, 1]), (.ifCond .eq 0, 5, [1, 9]), (.aload 0, 6, []), (.iconst (1), 7, []), (.invokestatic 68, 8, [2, 0, 1, 2, 12]), (.ireturn, 9, [0]), (.aload 0, 10, []), (.getfield 6, 11, [11, 2]), (.iload 1, 12, []), (.invokestatic 252, 13, [2, 0, 1, 9, 1]), (.istore 2, 14, []), (.iload 2, 15, []), (.iconst (-1), 16, []), (.if_icmp .eq 0, 17, [1, 21]), (.aload 0, 18, []), (.iconst (6), 19, []), (.invokestatic 68, 20, [2, 0, 1, 2, 12]), (.goto 0, 21, [24]), (.aload 0, 22, []), (.iload 2, 23, []), (.invokestatic 67, 24, [2, 0, 1, 2, 12]), (.ireturn, 25, [0])]
def k_T_most : mCode := [(.iload 1, 1, []), (.iconst (0), 2, []), (.iconst (20), 3, []), (.invokestatic 74, 4, [3, 0, 1, 3, 0]), (.ifCond .eq 0, 5, [1, 9]), (.aload 0, 6, []), (.iconst (1), 7, []), (.invokestatic 68, 8, [2, 0, 1, 2, 12]), (.ireturn, 9, [0]), (.aload 0, 10, []), (.aload 0, 11, []), (.getfield 6, 12, [11, 2]), (.iload 1, 13, []), (.invokestatic 254, 14, [2, 0, 1, 4, 1]), (.invokestatic 0, 15, [1, 0, 1, 1, 0]), (.invokestatic 67, 16, [2, 0, 1, 2, 12]), (.ireturn, 17, [0])]
def k_T_mostSet : mCode := [(.iload 1, 1, []), (.iconst (0), 2, []), (.iconst (20), 3, []), (.invokestatic 74, 4, [3, 0, 1, 3, 0]), (.ifCond .eq 0, 5, [1, 9]), (.aload 0, 6, []), (.iconst (1), 7, []), (.invokestatic 68, 8, [2, 0, 1, 2, 12]), (.ireturn, 9, [0]), (.aload 0, 10, []), (.aload 0, 11, []), (.getfield 6, 12, [11, 2]), (.iload 1, 13, []), (.invokestatic 254, 14, [2, 0, 1, 4, 1]), (.invokestatic 67, 15, [2, 0, 1, 2, 12]), (.ireturn, 16, [0])]
def k_T_misses : mCode := [(.aload 0, 1, []), (.getfield 6, 2, [11, 2]), (.iload 1, 3, []), (.invokestatic 228, 4, [2, 0, 1, 2, 1]), (.ifCond .eq 0, 5, [1, 9]), (.aload 0, 6, []), (.iconst (1), 7, []), (.invokestatic 68, 8, [2, 0, 1, 2, 12]), (.ireturn, 9, [0]), (.aload 0, 10, []), (.iconst (1), 11, []), (.invokestatic 33, 12, [2, 0, 0, 3, 12]), (.aload 0, 13, []), (.getfield 7, 14, [11, 2]), (.invokestatic 236, 15, [1, 0, 1, 3, 1]), (.istore 2, 16, []), (.aload 0, 17, []), (.getfield 7, 18, [11, 2]), (.aload 0, 19, []), (.getfield 6, 20, [11, 2]), (.invokestatic 227, 21, [2, 0, 0, 2, 1]), (.aload 0, 22, []), (.getfield 7, 23, [11, 2]), (.iload 1, 24, []), (.invokestatic 247, 25, [2, 0, 1, 4, 1]), (.pop, 26, []), (.aload 0, 27, []), (.iload 2, 28, []), (.aload 0, 29, []), (.getfield 7, 30, [11, 2]), (.invokestatic 236, 31, [1, 0, 1, 3, 1]), (.iconst (-1), 32, []), (.ixor, 33, []), (.iand, 34, []), (.invokestatic 67, 35, [2, 0, 1, 2, 12]), (.ireturn, 36, [0])]
def k_T_fits : mCode := [(.aload 0, 1, []), (.iload 1, 2, []), (.iload 2, 3, []), (.invokestatic 48, 4, [3, 0, 1, 8, 12]), (.istore 3, 5, []), (.iload 3, 6, []), (.ifCond .eq 0, 7, [0, 11]), (.aload 0, 8, []), (.iload 3, 9, []), (.invokestatic 68, 10, [2, 0, 1, 2, 12]), (.ireturn, 11, [0]), (.aload 0, 12, []), (.iload 1, 13, []), (.iload 2, 14, []), (.invokestatic 49, 15, [3, 0, 0, 4, 12]), (.aload 0, 16, []), (.aload 0, 17, []), (.getfield 14, 18, [11, 2]), (.invokestatic 351, 19, [1, 0, 1, 1, 11]), (.invokestatic 67, 20, [2, 0, 1, 2, 12]), (.ireturn, 21, [0])]
def k_T_firstOf : mCode := [(.aload 0, 1, []), (.getfield 6, 2, [11, 2]), (.iload 3, 3, []), (.invokestatic 228, 4, [2, 0, 1, 2, 1]), (.ifCond .eq 0, 5, [0, 10]), (.aload 0, 6, []), (.iload 1, 7, []), (.iload 2, 8, []), (.invokestatic 48, 9, [3, 0, 1, 8, 12]), (.goto 0, 10, [11]), (.iconst (1), 11, []), (.istore 4, 12, []), (.iload 4, 13, []), (.ifCond .eq 0, 14, [0, 18]), (.aload 0, 15, []), (.iload 4, 16, []), (.invokestatic 68, 17, [2, 0, 1, 2, 12]), (.ireturn, 18, [0]), (.aload 0, 19, []), (.iload 1, 20, []), (.iload 2, 21, []), (.invokestatic 49, 22, [3, 0, 0, 4, 12]), (.aload 0, 23, []), (.getfield 14, 24, [11, 2]), (.invokestatic 351, 25, [1, 0, 1, 1, 11]), (.ifCond .eq 0, 26, [1, 30]), (.aload 0, 27, []), (.iconst (6), 28, []), (.invokestatic 68, 29, [2, 0, 1, 2, 12]), (.goto 0, 30, [36]), (.aload 0, 31, []), (.aload 0, 32, []), (.getfield 14, 33, [11, 2]), (.iload 3, 34, []), (.invokestatic 353, 35, [2, 0, 1, 5, 11]), (.invokestatic 67, 36, [2, 0, 1, 2, 12]), (.ireturn, 37, [0])]
def k_T_oddsThat : mCode := [(.aload 0, 1, []), (.iload 3, 2, []), (.iload 4, 3, []), (.invokestatic 73, 4, [3, 0, 1, 3, 12]), (.ifCond .eq 0, 5, [0, 10]), (.aload 0, 6, []), (.iload 1, 7, []), (.iload 2, 8, []), (.invokestatic 48, 9, [3, 0, 1, 8, 12]), (.goto 0, 10, [11]), (.iconst (1), 11, []), (.istore 5, 12, []), (.iload 5, 13, []), (.ifCond .eq 0, 14, [0, 18]), (.aload 0, 15, []), (.iload 5, 16, []), (.invokestatic 70, 17, [2, 0, 1, 2, 12]), (.ireturn, 18, [3]), (.aload 0, 19, []), (.iload 1, 20, []), (.iload 2, 21, []), (.invokestatic 49, 22, [3, 0, 0, 4, 12]), (.aload 0, 23, []), (.getfield 14, 24, [11, 2]), (.invokestatic 351, 25, [1, 0, 1, 1, 11]), (.ifCond .eq 0, 26, [1, 30]), (.aload 0, 27, []), (.iconst (6), 28, []), (.invokestatic 70, 29, [2, 0, 1, 2, 12]), (.ireturn, 30, [3]), (.aload 0, 31, []), (.aload 0, 32, []), (.getfield 14, 33, [11, 2]), (.iload 3, 34, []), (.iload 4, 35, []), (.invokestatic 352, 36, [3, 0, 1, 5, 11]), (.i2l, 37, []), (.aload 0, 38, []), (.getfield 14, 39, [11, 2]), (.invokestatic 351, 40, [1, 0, 1, 1, 11]), (.i2l, 41, []), (.invokestatic 71, 42, [3, 0, 1, 7, 12]), (.ireturn, 43, [3])]
def k_T_ask : mCode := [(.aload 0, 1, []), (.iload 1, 2, []), (.iload 2, 3, []), (.invokestatic 48, 4, [3, 0, 1, 8, 12]), (.istore 3, 5, []), (.iload 3, 6, []), (.ifCond .eq 0, 7, [0, 11]), (.aload 0, 8, []), (.iload 3, 9, []), (.invokestatic 68, 10, [2, 0, 1, 2, 12]), (.ireturn, 11, [0]), (.aload 0, 12, []), (.iload 1, 13, []), (.iload 2, 14, []), (.invokestatic 49, 15, [3, 0, 0, 4, 12]), (.aload 0, 16, []), (.getfield 14, 17, [11, 2]), (.invokestatic 351, 18, [1, 0, 1, 1, 11]), (.iconst (2), 19, []), (.if_icmp .eq 0, 20, [3, 24]), (.aload 0, 21, []), (.iconst (6), 22, []), (.invokestatic 68, 23, [2, 0, 1, 2, 12]), (.goto 0, 24, [29]), (.aload 0, 25, []), (.aload 0, 26, []), (.getfield 14, 27, [11, 2]), (.invokestatic 355, 28, [1, 0, 1, 5, 11]), (.invokestatic 67, 29, [2, 0, 1, 2, 12]), (.ireturn, 30, [0])]
def k_T_waysStatus : mCode := [(.aload 0, 1, []), (.iload 1, 2, []), (.iload 2, 3, []), (.iconst (10), 4, []), (.iconst (2), 5, []), (.invokestatic 50, 6, [5, 0, 1, 5, 12]), (.istore 3, 7, []), (.iload 3, 8, []), (.ifCond .eq 0, 9, [0, 11]), (.iload 3, 10, []), (.ireturn, 11, [0]), (.iconst (1), 12, []), (.aload 0, 13, []), (.getfield 6, 14, [11, 2]), (.getfield 0, 15, [0, 0]), (.ishl, 16, []), (.istore 4, 17, []), (.iconst (0), 18, []), (.istore 5, 19, []), (.iload 5, 20, []), (.iconst (2), 21, []), (.iload 2, 22, []), (.imul, 23, []), (.if_icmp .eq 0, 24, [3, 43]), (.aload 0, 25, []), (.getfield 4, 26, [11, 2]), (.iload 1, 27, []), (.iload 5, 28, []), (.invokestatic 340, 29, [3, 0, 2, 3, 10]), (.lstore 6, 30, []), (.lload 6, 31, []), (.sipush (0), 32, []), (.lcmp, 34, [2, 39]), (.ifCond .eq 0, 34, [2, 39]), (.lload 6, 35, []), (.iload 4, 36, []), (.i2l, 37, []), (.lcmp, 39, [2, 41]), (.ifCond .eq 0, 39, [2, 41]), (.iconst (5), 40, []), (.ireturn, 41, [0]), (.iinc 5 (1), 42, []), (.goto 0, 43, [19]), (.iconst (0), 44, []), (.ireturn, 45, [0])]
def k_T_findWays : mCode := [(.aload 0, 1, []), (.getfield 14, 2, [11, 2]), (.aload 0, 3, []), (.getfield 6, 4, [11, 2]), (.getfield 0, 5, [0, 0]), (.invokestatic 345, 6, [2, 0, 0, 3, 11]), (.iconst (0), 7, []), (.istore 3, 8, []), (.iload 3, 9, []), (.iload 2, 10, []), (.if_icmp .eq 0, 11, [3, 34]), (.aload 0, 12, []), (.getfield 14, 13, [11, 2]), (.aload 0, 14, []), (.getfield 4, 15, [11, 2]), (.iload 1, 16, []), (.iconst (2), 17, []), (.iload 3, 18, []), (.imul, 19, []), (.invokestatic 340, 20, [3, 0, 2, 3, 10]), (.l2i, 21, []), (.aload 0, 22, []), (.getfield 4, 23, [11, 2]), (.iload 1, 24, []), (.iconst (2), 25, []), (.iload 3, 26, []), (.imul, 27, []), (.iconst (1), 28, []), (.iadd, 29, []), (.invokestatic 340, 30, [3, 0, 2, 3, 10]), (.l2i, 31, []), (.invokestatic 346, 32, [3, 0, 0, 4, 11]), (.iinc 3 (1), 33, []), (.goto 0, 34, [8]), (.aload 0, 35, []), (.getfield 14, 36, [11, 2]), (.invokestatic 347, 37, [1, 0, 0, 2, 11]), (.return_, 38, [])]
def k_T_rowsStatus : mCode := [(.aload 0, 1, []), (.getfield 4, 2, [11, 2]), (.iload 1, 3, []), (.invokestatic 333, 4, [2, 0, 1, 2, 10]), (.ifCond .eq 0, 5, [0, 10]), (.iload 2, 6, []), (.iconst (0), 7, []), (.iload 3, 8, []), (.invokestatic 74, 9, [3, 0, 1, 3, 0]), (.ifCond .eq 0, 10, [1, 12]), (.iconst (1), 11, []), (.ireturn, 12, [0]), (.aload 0, 13, []), (.getfield 4, 14, [11, 2]), (.iload 1, 15, []), (.invokestatic 335, 16, [2, 0, 1, 2, 10]), (.ifCond .eq 0, 17, [0, 19]), (.iconst (2), 18, []), (.ireturn, 19, [0]), (.iload 2, 20, []), (.iload 4, 21, []), (.imul, 22, []), (.aload 0, 23, []), (.getfield 4, 24, [11, 2]), (.iload 1, 25, []), (.invokestatic 336, 26, [2, 0, 1, 2, 10]), (.if_icmp .eq 0, 27, [5, 29]), (.iconst (3), 28, []), (.goto 0, 29, [30]), (.iconst (0), 30, []), (.ireturn, 31, [0])]
def k_T_laws : mCode := [(.aload 0, 1, []), (.iload 1, 2, []), (.iload 2, 3, []), (.invokestatic 55, 4, [3, 0, 1, 11, 12]), (.istore 3, 5, []), (.iload 3, 6, []), (.ifCond .eq 0, 7, [0, 11]), (.aload 0, 8, []), (.iload 3, 9, []), (.invokestatic 68, 10, [2, 0, 1, 2, 12]), (.ireturn, 11, [0]), (.iconst (0), 12, []), (.istore 4, 13, []), (.iconst (1), 14, []), (.istore 5, 15, []), (.iload 5, 16, []), (.ldc 3, 17, []), (.iconst (5), 18, []), (.iaload, 19, []), (.if_icmp .eq 0, 20, [4, 39]), (.iconst (1), 21, []), (.istore 6, 22, []), (.iload 6, 23, []), (.ldc 3, 24, []), (.iconst (6), 25, []), (.iaload, 26, []), (.if_icmp .eq 0, 27, [4, 37]), (.aload 0, 28, []), (.iload 1, 29, []), (.iload 2, 30, []), (.iload 5, 31, []), (.iload 6, 32, []), (.invokestatic 56, 33, [5, 0, 1, 8, 12]), (.ifCond .eq 0, 34, [0, 35]), (.iinc 4 (1), 35, []), (.iinc 6 (1), 36, []), (.goto 0, 37, [22]), (.iinc 5 (1), 38, []), (.goto 0, 39, [15]), (.aload 0, 40, []), (.iload 4, 41, []), (.invokestatic 67, 42, [2, 0, 1, 2, 12]), (.ireturn, 43, [0])]
def k_T_lawOf : mCode := [(.iload 3, 1, []), (.iconst (0), 2, []), (.iconst (1), 3, []), (.invokestatic 74, 4, [3, 0, 1, 3, 0]), (.ifCond .eq 0, 5, [0, 10]), (.aload 0, 6, []), (.iload 1, 7, []), (.iload 2, 8, []), (.invokestatic 55, 9, [3, 0, 1, 11, 12]), (.goto 0, 10, [11]), (.iconst (1), 11, []), (.istore 4, 12, []), (.iload 4, 13, []), (.ifCond .eq 0, 14, [0, 18]), (.aload 0, 15, []), (.iload 4, 16, []), (.invokestatic 68, 17, [2, 0, 1, 2, 12]), (.ireturn, 18, [0]), (.iconst (1), 19, []), (.istore 5, 20, []), (.iload 5, 21, []), (.ldc 3, 22, []), (.iconst (5), 23, []), (.iaload, 24, []), (.if_icmp .eq 0, 25, [4, 51]), (.iconst (1), 26, []), (.istore 6, 27, []), (.iload 6, 28, []), (.ldc 3, 29, []), (.iconst (6), 30, []), (.iaload, 31, []), (.if_icmp .eq 0, 32, [4, 49]), (.aload 0, 33, []), (.iload 1, 34, []), (.iload 2, 35, []), (.iload 5, 36, []), (.iload 6, 37, []), (.invokestatic 56, 38, [5, 0, 1, 8, 12]), (.ifCond .eq 0, 39, [0, 47]), (.aload 0, 40, []), (.iload 3, 41, []), (.ifCond .eq 0, 42, [1, 44]), (.iload 5, 43, []), (.goto 0, 44, [45]), (.iload 6, 45, []), (.invokestatic 67, 46, [2, 0, 1, 2, 12]), (.ireturn, 47, [0]), (.iinc 6 (1), 48, []), (.goto 0, 49, [27]), (.iinc 5 (1), 50, []), (.goto 0, 51, [20]), (.aload 0, 52, []), (.iconst (6), 53, []), (.invokestatic 68, 54, [2, 0, 1, 2, 12]), (.ireturn, 55, [0])]
def k_T_error : mCode := [(.iload 1, 1, []), (.iconst (0), 2, []), (.iconst (12), 3, []), (.invokestatic 74, 4, [3, 0, 1, 3, 0]), (.ifCond .eq 0, 5, [0, 15]), (.iload 2, 6, []), (.iconst (0), 7, []), (.iconst (13), 8, []), (.invokestatic 74, 9, [3, 0, 1, 3, 0]), (.ifCond .eq 0, 10, [0, 15]), (.iload 3, 11, []), (.iconst (0), 12, []), (.iconst (1), 13, []), (.invokestatic 74, 14, [3, 0, 1, 3, 0]), (.ifCond .eq 0, 15, [1, 19]), (.aload 0, 16, []), (.iconst (1), 17, []), (.invokestatic 70, 18, [2, 0, 1, 2, 12]), (.ireturn, 19, [3]), (.aload 0, 20, []), (.iload 1, 21, []), (.invokestatic 57, 22, [2, 0, 0, 2, 12]), (.aload 0, 23, []), (.iload 3, 24, []), (.ifCond .eq 0, 25, [1, 30]), (.aload 0, 26, []), (.getfield 16, 27, [11, 2]), (.iload 2, 28, []), (.invokestatic 267, 29, [2, 0, 2, 5, 3]), (.goto 0, 30, [34]), (.aload 0, 31, []), (.getfield 17, 32, [11, 2]), (.iload 2, 33, []), (.invokestatic 268, 34, [2, 0, 2, 2, 3]), (.aload 0, 35, []), (.getfield 16, 36, [11, 2]), (.invokestatic 266, 37, [1, 0, 2, 1, 3]), (.invokestatic 71, 38, [3, 0, 1, 7, 12]), (.ireturn, 39, [3])]
def k_T_cut : mCode := [(.iload 1, 1, []), (.iconst (0), 2, []), (.iconst (12), 3, []), (.invokestatic 74, 4, [3, 0, 1, 3, 0]), (.ifCond .eq 0, 5, [1, 9]), (.aload 0, 6, []), (.iconst (1), 7, []), (.invokestatic 68, 8, [2, 0, 1, 2, 12]), (.ireturn, 9, [0]), (.aload 0, 10, []), (.iload 1, 11, []), (.invokestatic 57, 12, [2, 0, 0, 2, 12]), (.iconst (0), 13, []), (.istore 2, 14, []), (.aload 0, 15, []), (.getfield 16, 16, [11, 2]), (.iconst (0), 17, []), (.invokestatic 267, 18, [2, 0, 2, 5, 3]), (.aload 0, 19, []), (.getfield 17, 20, [11, 2]), (.iconst (0), 21, []), (.invokestatic 268, 22, [2, 0, 2, 2, 3]), (.ladd, 23, []), (.lstore 3, 24, []), (.iconst (1), 25, []), (.istore 5, 26, []), (.iload 5, 27, []), (.iconst (13), 28, []), (.if_icmp .eq 0, 29, [4, 49]), (.aload 0, 30, []), (.getfield 16, 31, [11, 2]), (.iload 5, 32, []), (.invokestatic 267, 33, [2, 0, 2, 5, 3]), (.aload 0, 34, []), (.getfield 17, 35, [11, 2]), (.iload 5, 36, []), (.invokestatic 268, 37, [2, 0, 2, 2, 3]), (.ladd, 38, []), (.lstore 6, 39, []), (.lload 6, 40, []), (.lload 3, 41, []), (.lcmp, 43, [3, 47]), (.ifCond .eq 0, 43, [3, 47]), (.lload 6, 44, []), (.lstore 3, 45, []), (.iload 5, 46, []), (.istore 2, 47, []), (.iinc 5 (1), 48, []), (.goto 0, 49, [26]), (.aload 0, 50, []), (.iload 2, 51, []), (.invokestatic 67, 52, [2, 0, 1, 2, 12]), (.ireturn, 53, [0])]
def k_T_lawStatus : mCode := [(.aload 0, 1, []), (.iload 1, 2, []), (.iload 2, 3, []), (.iconst (15), 4, []), (.iconst (3), 5, []), (.invokestatic 50, 6, [5, 0, 1, 5, 12]), (.istore 3, 7, []), (.iload 3, 8, []), (.ifCond .eq 0, 9, [0, 11]), (.iload 3, 10, []), (.ireturn, 11, [0]), (.iconst (0), 12, []), (.istore 4, 13, []), (.iload 4, 14, []), (.iload 2, 15, []), (.if_icmp .eq 0, 16, [3, 72]), (.aload 0, 17, []), (.getfield 4, 18, [11, 2]), (.iload 1, 19, []), (.iconst (3), 20, []), (.iload 4, 21, []), (.imul, 22, []), (.invokestatic 340, 23, [3, 0, 2, 3, 10]), (.lstore 5, 24, []), (.aload 0, 25, []), (.getfield 4, 26, [11, 2]), (.iload 1, 27, []), (.iconst (3), 28, []), (.iload 4, 29, []), (.imul, 30, []), (.iconst (1), 31, []), (.iadd, 32, []), (.invokestatic 340, 33, [3, 0, 2, 3, 10]), (.lstore 7, 34, []), (.aload 0, 35, []), (.getfield 4, 36, [11, 2]), (.iload 1, 37, []), (.iconst (3), 38, []), (.iload 4, 39, []), (.imul, 40, []), (.iconst (2), 41, []), (.iadd, 42, []), (.invokestatic 340, 43, [3, 0, 2, 3, 10]), (.lstore 9, 44, []), (.lload 5, 45, []), (.sipush (0), 46, []), (.lcmp, 48, [2, 68]), (.ifCond .eq 0, 48, [2, 68]), (.lload 5, 49, []), (.sipush (9), 50, []), (.lcmp, 52, [4, 68]), (.ifCond .eq 0, 52, [4, 68]), (.lload 7, 53, []), (.sipush (0), 54, []), (.lcmp, 56, [2, 68]), (.ifCond .eq 0, 56, [2, 68]), (.lload 7, 57, []), (.sipush (59), 58, []), (.lcmp, 60, [4, 68]), (.ifCond .eq 0, 60, [4, 68]), (.lload 9, 61, []), (.sipush (0), 62, []), (.lcmp, 64, [2, 68]), (.ifCond .eq 0, 64, [2, 68]), (.lload 9, 65, []), (.sipush (200), 66, []), (.lcmp, 68, [5, 70]), (.ifCond .eq 0, 68, [5, 70]), (.iconst (5), 69, []), (.ireturn, 70, [0]), (.iinc 4 (1), 71, []), (.goto 0, 72, [13]), (.iconst (0), 73, []), (.ireturn, 74, [0])]
def k_T_isLaw : mCode := [(.iconst (0), 1, []), (.istore 5, 2, []), (.iload 5, 3, []), (.iload 2, 4, []), (.if_icmp .eq 0, 5, [3, 46]), (.aload 0, 6, []), (.getfield 4, 7, [11, 2]), (.iload 1, 8, []), (.iconst (3), 9, []), (.iload 5, 10, []), (.imul, 11, []), (.invokestatic 340, 12, [3, 0, 2, 3, 10]), (.l2i, 13, []), (.istore 6, 14, []), (.aload 0, 15, []), (.getfield 4, 16, [11, 2]), (.iload 1, 17, []), (.iconst (3), 18, []), (.iload 5, 19, []), (.imul, 20, []), (.iconst (1), 21, []), (.iadd, 22, []), (.invokestatic 340, 23, [3, 0, 2, 3, 10]), (.l2i, 24, []), (.istore 7, 25, []), (.iload 3, 26, []), (.iload 6, 27, []), (.iload 7, 28, []), (.iload 4, 29, []), (.invokestatic 75, 30, [4, 0, 1, 5, 0]), (.i2l, 31, []), (.aload 0, 32, []), (.getfield 4, 33, [11, 2]), (.iload 1, 34, []), (.iconst (3), 35, []), (.iload 5, 36, []), (.imul, 37, []), (.iconst (2), 38, []), (.iadd, 39, []), (.invokestatic 340, 40, [3, 0, 2, 3, 10]), (.lcmp, 42, [0, 44]), (.ifCond .eq 0, 42, [0, 44]), (.iconst (0), 43, []), (.ireturn, 44, [3]), (.iinc 5 (1), 45, []), (.goto 0, 46, [2]), (.iconst (1), 47, []), (.ireturn, 48, [3])]
def k_T_tasteBoth : mCode := [(.aload 0, 1, []), (.getfield 16, 2, [11, 2]), (.iload 1, 3, []), (.aload 0, 4, []), (.getfield 6, 5, [11, 2]), (.getfield 2, 6, [0, 2]), (.iconst (1), 7, []), (.iaload, 8, []), (.invokestatic 265, 9, [3, 0, 0, 5, 3]), (.aload 0, 10, []), (.getfield 17, 11, [11, 2]), (.iload 1, 12, []), (.aload 0, 13, []), (.getfield 6, 14, [11, 2]), (.getfield 2, 15, [0, 2]), (.iconst (2), 16, []), (.iaload, 17, []), (.invokestatic 265, 18, [3, 0, 0, 5, 3]), (.return_, 19, [])]
def k_T_game : mCode := [(.iload 1, 1, []), (.iconst (0), 2, []), (.iconst (4), 3, []), (.invokestatic 74, 4, [3, 0, 1, 3, 0]), (.ifCond .eq 0, 5, [1, 9]), (.aload 0, 6, []), (.iconst (1), 7, []), (.invokestatic 68, 8, [2, 0, 1, 2, 12]), (.ireturn, 9, [0]), (.aload 0, 10, []), (.getfield 15, 11, [11, 2]), (.aload 0, 12, []), (.getfield 6, 13, [11, 2]), (.iload 1, 14, []), (.invokestatic 259, 15, [3, 0, 0, 6, 2]), (.aload 0, 16, []), (.aload 0, 17, []), (.getfield 15, 18, [11, 2]), (.invokestatic 257, 19, [1, 0, 1, 1, 2]), (.invokestatic 67, 20, [2, 0, 1, 2, 12]), (.ireturn, 21, [0])]
def k_T_moveOf : mCode := [(.iload 1, 1, []), (.iconst (1), 2, []), (.iconst (4), 3, []), (.invokestatic 74, 4, [3, 0, 1, 3, 0]), (.ifCond .eq 0, 5, [1, 9]), (.aload 0, 6, []), (.iconst (1), 7, []), (.invokestatic 68, 8, [2, 0, 1, 2, 12]), (.ireturn, 9, [0]), (.aload 0, 10, []), (.getfield 15, 11, [11, 2]), (.aload 0, 12, []), (.getfield 6, 13, [11, 2]), (.iload 1, 14, []), (.invokestatic 259, 15, [3, 0, 0, 6, 2]), (.aload 0, 16, []), (.getfield 15, 17, [11, 2]), (.invokestatic 258, 18, [1, 0, 1, 1, 2]), (.iconst (-1), 19, []), (.if_icmp .eq 0, 20, [1, 24]), (.aload 0, 21, []), (.iconst (6), 22, []), (.invokestatic 68, 23, [2, 0, 1, 2, 12]), (.goto 0, 24, [29]), (.aload 0, 25, []), (.aload 0, 26, []), (.getfield 15, 27, [11, 2]), (.invokestatic 258, 28, [1, 0, 1, 1, 2]), (.invokestatic 67, 29, [2, 0, 1, 2, 12]), (.ireturn, 30, [0])]
def k_T_share : mCode := [(.aload 0, 1, []), (.getfield 6, 2, [11, 2]), (.iload 1, 3, []), (.invokestatic 228, 4, [2, 0, 1, 2, 1]), (.ifCond .eq 0, 5, [1, 9]), (.aload 0, 6, []), (.iconst (1), 7, []), (.invokestatic 70, 8, [2, 0, 1, 2, 12]), (.ireturn, 9, [3]), (.aload 0, 10, []), (.getfield 6, 11, [11, 2]), (.invokestatic 239, 12, [1, 0, 1, 3, 1]), (.istore 2, 13, []), (.iload 2, 14, []), (.ifCond .eq 0, 15, [1, 19]), (.aload 0, 16, []), (.iconst (6), 17, []), (.invokestatic 70, 18, [2, 0, 1, 2, 12]), (.goto 0, 19, [29]), (.aload 0, 20, []), (.aload 0, 21, []), (.getfield 6, 22, [11, 2]), (.getfield 5, 23, [0, 2]), (.iload 1, 24, []), (.iaload, 25, []), (.i2l, 26, []), (.iload 2, 27, []), (.i2l, 28, []), (.invokestatic 71, 29, [3, 0, 1, 7, 12]), (.ireturn, 30, [3])]
def k_T_copyWarmth : mCode := [(.aload 0, 1, []), (.getfield 4, 2, [11, 2]), (.iload 1, 3, []), (.invokestatic 333, 4, [2, 0, 1, 2, 10]), (.ifCond .eq 0, 5, [1, 9]), (.aload 0, 6, []), (.iconst (1), 7, []), (.invokestatic 68, 8, [2, 0, 1, 2, 12]), (.ireturn, 9, [0]), (.aload 0, 10, []), (.getfield 4, 11, [11, 2]), (.iload 1, 12, []), (.invokestatic 335, 13, [2, 0, 1, 2, 10]), (.ifCond .eq 0, 14, [0, 18]), (.aload 0, 15, []), (.iconst (2), 16, []), (.invokestatic 68, 17, [2, 0, 1, 2, 12]), (.ireturn, 18, [0]), (.aload 0, 19, []), (.getfield 4, 20, [11, 2]), (.iload 1, 21, []), (.iconst (0), 22, []), (.aload 0, 23, []), (.getfield 6, 24, [11, 2]), (.getfield 0, 25, [0, 0]), (.invokestatic 338, 26, [4, 0, 1, 4, 10]), (.ifCond .eq 0, 27, [1, 31]), (.aload 0, 28, []), (.iconst (3), 29, []), (.invokestatic 68, 30, [2, 0, 1, 2, 12]), (.ireturn, 31, [0]), (.iconst (0), 32, []), (.istore 2, 33, []), (.iload 2, 34, []), (.aload 0, 35, []), (.getfield 6, 36, [11, 2]), (.getfield 0, 37, [0, 0]), (.if_icmp .eq 0, 38, [3, 51]), (.aload 0, 39, []), (.getfield 4, 40, [11, 2]), (.iload 1, 41, []), (.iload 2, 42, []), (.aload 0, 43, []), (.getfield 6, 44, [11, 2]), (.getfield 5, 45, [0, 2]), (.iload 2, 46, []), (.iaload, 47, []), (.i2l, 48, []), (.invokestatic 341, 49, [4, 0, 0, 5, 10]), (.iinc 2 (1), 50, []), (.goto 0, 51, [33]), (.aload 0, 52, []), (.aload 0, 53, []), (.getfield 6, 54, [11, 2]), (.getfield 0, 55, [0, 0]), (.invokestatic 67, 56, [2, 0, 1, 2, 12]), (.ireturn, 57, [0])]
def k_T_live : mCode := [(.iload 1, 1, []), (.iconst (0), 2, []), (.iconst (9999), 3, []), (.invokestatic 74, 4, [3, 0, 1, 3, 0]), (.ifCond .eq 0, 5, [1, 9]), (.aload 0, 6, []), (.iconst (1), 7, []), (.invokestatic 68, 8, [2, 0, 1, 2, 12]), (.ireturn, 9, [0]), (.aload 0, 10, []), (.getfield 8, 11, [11, 2]), (.getfield 8, 12, [7, 0]), (.ifCond .eq 0, 13, [1, 17]), (.aload 0, 14, []), (.iconst (6), 15, []), (.invokestatic 68, 16, [2, 0, 1, 2, 12]), (.ireturn, 17, [0]), (.aload 0, 18, []), (.getfield 12, 19, [11, 2]), (.aload 0, 20, []), (.getfield 6, 21, [11, 2]), (.aload 0, 22, []), (.getfield 8, 23, [11, 2]), (.iload 1, 24, []), (.invokestatic 270, 25, [4, 0, 0, 6, 4]), (.aload 0, 26, []), (.iconst (1), 27, []), (.putfield 3, 28, [11, 3]), (.aload 0, 29, []), (.aload 0, 30, []), (.getfield 12, 31, [11, 2]), (.getfield 2, 32, [3, 0]), (.invokestatic 67, 33, [2, 0, 1, 2, 12]), (.ireturn, 34, [0])]
def k_T_lived : mCode := [(.iload 1, 1, []), (.iconst (0), 2, []), (.iconst (4), 3, []), (.invokestatic 74, 4, [3, 0, 1, 3, 0]), (.ifCond .eq 0, 5, [1, 9]), (.aload 0, 6, []), (.iconst (1), 7, []), (.invokestatic 68, 8, [2, 0, 1, 2, 12]), (.ireturn, 9, [0]), (.aload 0, 10, []), (.getfield 3, 11, [11, 0]), (.ifCond .eq 0, 12, [1, 16]), (.aload 0, 13, []), (.iconst (6), 14, []), (.invokestatic 68, 15, [2, 0, 1, 2, 12]), (.ireturn, 16, [0]), (.iload 1, 17, []), (.tableswitch 0 (0) 0 #[], 18, [42, 18, 24, 30, 36]), (.aload 0, 19, []), (.aload 0, 20, []), (.getfield 12, 21, [11, 2]), (.getfield 3, 22, [3, 0]), (.invokestatic 67, 23, [2, 0, 1, 2, 12]), (.ireturn, 24, [0]), (.aload 0, 25, []), (.aload 0, 26, []), (.getfield 12, 27, [11, 2]), (.getfield 4, 28, [3, 0]), (.invokestatic 67, 29, [2, 0, 1, 2, 12]), (.ireturn, 30, [0]), (.aload 0, 31, []), (.aload 0, 32, []), (.getfield 12, 33, [11, 2]), (.getfield 5, 34, [3, 0]), (.invokestatic 67, 35, [2, 0, 1, 2, 12]), (.ireturn, 36, [0]), (.aload 0, 37, []), (.aload 0, 38, []), (.getfield 12, 39, [11, 2]), (.getfield 6, 40, [3, 0]), (.invokestatic 67, 41, [2, 0, 1, 2, 12]), (.ireturn, 42, [0]), (.aload 0, 43, []), (.aload 0, 44, []), (.getfield 12, 45, [11, 2]), (.getfield 7, 46, [3, 0]), (.ifCond .eq 0, 47, [0, 49]), (.iconst (1), 48, []), (.goto 0, 49, [50]), (.iconst (0), 50, []), (.invokestatic 67, 51, [2, 0, 1, 2, 12]), (.ireturn, 52, [0])]
def k_T_mean : mCode := [(.iload 1, 1, []), (.iconst (0), 2, []), (.iconst (9999), 3, []), (.invokestatic 74, 4, [3, 0, 1, 3, 0]), (.ifCond .eq 0, 5, [0, 17]), (.iload 2, 6, []), (.iconst (1), 7, []), (.iconst (20), 8, []), (.invokestatic 74, 9, [3, 0, 1, 3, 0]), (.ifCond .eq 0, 10, [0, 17]), (.iload 1, 11, []), (.iload 2, 12, []), (.iadd, 13, []), (.iconst (1), 14, []), (.isub, 15, []), (.iconst (9999), 16, []), (.if_icmp .eq 0, 17, [5, 21]), (.aload 0, 18, []), (.iconst (1), 19, []), (.invokestatic 70, 20, [2, 0, 1, 2, 12]), (.ireturn, 21, [3]), (.aload 0, 22, []), (.getfield 8, 23, [11, 2]), (.getfield 8, 24, [7, 0]), (.ifCond .eq 0, 25, [1, 29]), (.aload 0, 26, []), (.iconst (6), 27, []), (.invokestatic 70, 28, [2, 0, 1, 2, 12]), (.ireturn, 29, [3]), (.iconst (0), 30, []), (.istore 3, 31, []), (.iconst (0), 32, []), (.istore 4, 33, []), (.iload 4, 34, []), (.iload 2, 35, []), (.if_icmp .eq 0, 36, [3, 59]), (.aload 0, 37, []), (.getfield 7, 38, [11, 2]), (.aload 0, 39, []), (.getfield 6, 40, [11, 2]), (.invokestatic 227, 41, [2, 0, 0, 2, 1]), (.aload 0, 42, []), (.getfield 13, 43, [11, 2]), (.aload 0, 44, []), (.getfield 7, 45, [11, 2]), (.aload 0, 46, []), (.getfield 8, 47, [11, 2]), (.iload 1, 48, []), (.iload 4, 49, []), (.iadd, 50, []), (.invokestatic 270, 51, [4, 0, 0, 6, 4]), (.iload 3, 52, []), (.aload 0, 53, []), (.getfield 7, 54, [11, 2]), (.invokestatic 239, 55, [1, 0, 1, 3, 1]), (.iadd, 56, []), (.istore 3, 57, []), (.iinc 4 (1), 58, []), (.goto 0, 59, [33]), (.aload 0, 60, []), (.iload 3, 61, []), (.i2l, 62, []), (.iload 2, 63, []), (.i2l, 64, []), (.invokestatic 71, 65, [3, 0, 1, 7, 12]), (.ireturn, 66, [3])]
def k_T_mark : mCode := [(.aload 0, 1, []), (.getfield 11, 2, [11, 2]), (.invokestatic 289, 3, [1, 0, 1, 1, 6]), (.ifCond .eq 0, 4, [0, 8]), (.aload 0, 5, []), (.iconst (4), 6, []), (.invokestatic 68, 7, [2, 0, 1, 2, 12]), (.ireturn, 8, [0]), (.aload 0, 9, []), (.aload 0, 10, []), (.getfield 11, 11, [11, 2]), (.aload 0, 12, []), (.getfield 6, 13, [11, 2]), (.aload 0, 14, []), (.getfield 8, 15, [11, 2]), (.invokestatic 291, 16, [3, 0, 1, 3, 6]), (.invokestatic 67, 17, [2, 0, 1, 2, 12]), (.ireturn, 18, [0])]
def k_T_undo : mCode := [(.aload 0, 1, []), (.getfield 11, 2, [11, 2]), (.invokestatic 290, 3, [1, 0, 1, 1, 6]), (.ifCond .eq 0, 4, [0, 8]), (.aload 0, 5, []), (.iconst (6), 6, []), (.invokestatic 68, 7, [2, 0, 1, 2, 12]), (.ireturn, 8, [0]), (.aload 0, 9, []), (.aload 0, 10, []), (.getfield 11, 11, [11, 2]), (.aload 0, 12, []), (.getfield 6, 13, [11, 2]), (.aload 0, 14, []), (.getfield 8, 15, [11, 2]), (.invokestatic 292, 16, [3, 0, 1, 3, 6]), (.invokestatic 67, 17, [2, 0, 1, 2, 12]), (.ireturn, 18, [0])]
def k_T_answer : mCode := [(.aload 0, 1, []), (.iconst (0), 2, []), (.putfield 0, 3, [11, 0]), (.iload 1, 4, []), (.ireturn, 5, [0])]
def k_T_refuse : mCode := [(.aload 0, 1, []), (.iload 1, 2, []), (.putfield 0, 3, [11, 0]), (.iconst (-1), 4, []), (.ireturn, 5, [0])]
def k_T_grant : mCode := [(.aload 0, 1, []), (.iconst (0), 2, []), (.putfield 0, 3, [11, 0]), (.iconst (1), 4, []), (.ireturn, 5, [3])]
def k_T_deny : mCode := [(.aload 0, 1, []), (.iload 1, 2, []), (.putfield 0, 3, [11, 0]), (.iconst (0), 4, []), (.ireturn, 5, [3])]
def k_T_tell : mCode := [(.sipush (1), 1, []), (.lload 1, 2, []), (.lload 3, 3, []), (.invokestatic 72, 4, [2, 0, 2, 11, 0]), (.dmul, 5, []), (.lstore 5, 6, []), (.aload 0, 7, []), (.lload 1, 8, []), (.lload 5, 9, []), (.ldiv, 10, []), (.putfield 1, 11, [11, 1]), (.aload 0, 12, []), (.lload 3, 13, []), (.lload 5, 14, []), (.ldiv, 15, []), (.putfield 2, 16, [11, 1]), (.aload 0, 17, []), (.invokestatic 69, 18, [1, 0, 1, 1, 12]), (.ireturn, 19, [3])]
def k_T_commonDivisor : mCode := [(.lload 2, 1, []), (.lstore 4, 2, []), (.lload 0, 3, []), (.lstore 6, 4, []), (.iconst (0), 5, []), (.istore 8, 6, []), (.iload 8, 7, []), (.iconst (200), 8, []), (.if_icmp .eq 0, 9, [3, 23]), (.lload 6, 10, []), (.sipush (0), 11, []), (.lcmp, 13, [0, 23]), (.ifCond .eq 0, 13, [0, 23]), (.lload 4, 14, []), (.lload 6, 15, []), (.lrem, 16, []), (.lstore 9, 17, []), (.lload 6, 18, []), (.lstore 4, 19, []), (.lload 9, 20, []), (.lstore 6, 21, []), (.iinc 8 (1), 22, []), (.goto 0, 23, [6]), (.lload 4, 24, []), (.lreturn, 25, [])]
def k_T_isCouple : mCode := [(.aload 0, 1, []), (.getfield 6, 2, [11, 2]), (.iload 1, 3, []), (.invokestatic 228, 4, [2, 0, 1, 2, 1]), (.ifCond .eq 0, 5, [0, 15]), (.aload 0, 6, []), (.getfield 6, 7, [11, 2]), (.iload 2, 8, []), (.invokestatic 228, 9, [2, 0, 1, 2, 1]), (.ifCond .eq 0, 10, [0, 15]), (.iload 1, 11, []), (.iload 2, 12, []), (.if_icmp .eq 0, 13, [0, 15]), (.iconst (1), 14, []), (.goto 0, 15, [16]), (.iconst (0), 16, []), (.ireturn, 17, [3])]
def k_T_within : mCode := [(.iload 0, 1, []), (.iload 1, 2, []), (.if_icmp .eq 0, 3, [2, 8]), (.iload 0, 4, []), (.iload 2, 5, []), (.if_icmp .eq 0, 6, [4, 8]), (.iconst (1), 7, []), (.goto 0, 8, [9]), (.iconst (0), 9, []), (.ireturn, 10, [3])]
def k_T_warmBy : mCode := [(.iload 0, 1, []), (.iload 1, 2, []), (.imul, 3, []), (.iload 3, 4, []), (.ifCond .eq 0, 5, [5, 9]), (.iload 2, 6, []), (.iload 3, 7, []), (.idiv, 8, []), (.goto 0, 9, [10]), (.iload 2, 10, []), (.isub, 11, []), (.istore 4, 12, []), (.iload 4, 13, []), (.ifCond .eq 0, 14, [5, 16]), (.iload 4, 15, []), (.goto 0, 16, [17]), (.iconst (0), 17, []), (.ireturn, 18, [0])]
def k_M_init : mCode := [(.aload 0, 1, []), (.invokespecial 0, 2, []), (.aload 0, 3, []), (.iconst (2346), 4, []), (.newarray .int, 5, [0]), (.putfield 0, 6, [12, 2]), (.aload 0, 7, []), (.iconst (42), 8, []), (.newarray .long, 9, [1]), (.putfield 1, 10, [12, 2]), (.aload 0, 11, []), (.sipush (1), 12, []), (.putfield 4, 13, [12, 1]), (.aload 0, 14, []), (.iconst (4), 15, []), (.newarray .int, 16, [0]), (.putfield 5, 17, [12, 2]), (.aload 0, 18, []), (.iconst (4), 19, []), (.newarray .int, 20, [0]), (.dup, 21, []), (.iconst (0), 22, []), (.iconst (-1), 23, []), (.iastore, 24, []), (.dup, 25, []), (.iconst (1), 26, []), (.iconst (-1), 27, []), (.iastore, 28, []), (.dup, 29, []), (.iconst (2), 30, []), (.iconst (-1), 31, []), (.iastore, 32, []), (.dup, 33, []), (.iconst (3), 34, []), (.iconst (-1), 35, []), (.iastore, 36, []), (.putfield 6, 37, [12, 2]), (.aload 0, 38, []), (.iconst (240), 39, []), (.newarray .long, 40, [1]), (.putfield 7, 41, [12, 2]), (.aload 0, 42, []), (.iconst (900), 43, []), (.newarray .byte, 44, [2]), (.putfield 8, 45, [12, 2]), (.aload 0, 46, []), (.iconst (900), 47, []), (.newarray .byte, 48, [2]), (.putfield 9, 49, [12, 2]), (.aload 0, 50, []), (.iconst (-1), 51, []), (.putfield 16, 52, [12, 0]), (.aload 0, 53, []), (.iconst (-1), 54, []), (.putfield 17, 55, [12, 0]), (.aload 0, 56, []), (.iconst (3), 57, []), (.newarray .int, 58, [0]), (.putfield 21, 59, [12, 2]), (.aload 0, 60, []), (.iconst (7), 61, []), (.newarray .int, 62, [0]), (.putfield 24, 63, [12, 2]), (.aload 0, 64, []), (.iconst (1407), 65, []), (.newarray .int, 66, [0]), (.putfield 25, 67, [12, 2]), (.aload 0, 68, []), (.iconst (7), 69, []), (.newarray .int, 70, [0]), (.putfield 28, 71, [12, 2]), (.aload 0, 72, []), (.iconst (7), 73, []), (.newarray .int, 74, [0]), (.putfield 30, 75, [12, 2]), (.aload 0, 76, []), (.iconst (7), 77, []), (.newarray .int, 78, [0]), (.putfield 31, 79, [12, 2]), (.aload 0, 80, []), (.iconst (7), 81, []), (.newarray .int, 82, [0]), (.putfield 32, 83, [12, 2]), (.aload 0, 84, []), (.iconst (49), 85, []), (.newarray .int, 86, [0]), (.putfield 33, 87, [12, 2]), (.aload 0, 88, []), (.iconst (13), 89, []), (.newarray .long, 90, [1]), (.putfield 35, 91, [12, 2]), (.aload 0, 92, []), (.iconst (5), 93, []), (.newarray .int, 94, [0]), (.putfield 36, 95, [12, 2]), (.aload 0, 96, []), (.iconst (5), 97, []), (.newarray .int, 98, [0]), (.putfield 37, 99, [12, 2]), (.aload 0, 100, []), (.iconst (5), 101, []), (.newarray .int, 102, [0]), (.putfield 38, 103, [12, 2]), (.aload 0, 104, []), (.iconst (80), 105, []), (.newarray .int, 106, [0]), (.putfield 41, 107, [12, 2]), (.aload 0, 108, []), (.iconst (5), 109, []), (.newarray .int, 110, [0]), (.putfield 42, 111, [12, 2]), (.aload 0, 112, []), (.iconst (5), 113, []), (.newarray .int, 114, [0]), (.putfield 43, 115, [12, 2]), (.aload 0, 116, []), (.iconst (0), 117, []), (.invokestatic 77, 118, [2, 0, 0, 3, 13]), (.return_, 119, [])]
def k_M_plain : mCode := [(.iconst (0), 1, []), (.istore 2, 2, []), (.iload 2, 3, []), (.iconst (414), 4, []), (.if_icmp .eq 0, 5, [3, 14]), (.aload 0, 6, []), (.getfield 0, 7, [12, 2]), (.iload 1, 8, []), (.iload 2, 9, []), (.iadd, 10, []), (.iconst (0), 11, []), (.iastore, 12, []), (.iinc 2 (1), 13, []), (.goto 0, 14, [2]), (.aload 0, 15, []), (.getfield 0, 16, [12, 2]), (.iload 1, 17, []), (.iconst (1), 18, []), (.iadd, 19, []), (.iconst (12), 20, []), (.iastore, 21, []), (.aload 0, 22, []), (.getfield 0, 23, [12, 2]), (.iload 1, 24, []), (.iconst (2), 25, []), (.iadd, 26, []), (.iconst (4), 27, []), (.iastore, 28, []), (.aload 0, 29, []), (.getfield 0, 30, [12, 2]), (.iload 1, 31, []), (.iconst (3), 32, []), (.iadd, 33, []), (.iconst (20), 34, []), (.iastore, 35, []), (.aload 0, 36, []), (.getfield 0, 37, [12, 2]), (.iload 1, 38, []), (.iconst (4), 39, []), (.iadd, 40, []), (.iconst (5), 41, []), (.iastore, 42, []), (.aload 0, 43, []), (.getfield 0, 44, [12, 2]), (.iload 1, 45, []), (.iconst (5), 46, []), (.iadd, 47, []), (.iconst (10), 48, []), (.iastore, 49, []), (.aload 0, 50, []), (.getfield 0, 51, [12, 2]), (.iload 1, 52, []), (.iconst (6), 53, []), (.iadd, 54, []), (.iconst (1), 55, []), (.iastore, 56, []), (.aload 0, 57, []), (.getfield 0, 58, [12, 2]), (.iload 1, 59, []), (.iconst (8), 60, []), (.iadd, 61, []), (.iconst (-1), 62, []), (.iastore, 63, []), (.return_, 64, [])]
def k_M_status : mCode := [(.aload 0, 1, []), (.getfield 2, 2, [12, 0]), (.ireturn, 3, [0])]
def k_M_top : mCode := [(.aload 0, 1, []), (.getfield 3, 2, [12, 1]), (.lreturn, 3, [])]
def k_M_bottom : mCode := [(.aload 0, 1, []), (.getfield 4, 2, [12, 1]), (.lreturn, 3, [])]
def k_M_is : mCode := [(.aload 0, 1, []), (.iload 1, 2, []), (.putfield 2, 3, [12, 0]), (.iload 1, 4, []), (.ifCond .eq 0, 5, [1, 7]), (.iconst (1), 6, []), (.goto 0, 7, [8]), (.iconst (0), 8, []), (.ireturn, 9, [3])]
def k_M_refuse : mCode := [(.aload 0, 1, []), (.iload 1, 2, []), (.putfield 2, 3, [12, 0]), (.iconst (-1), 4, []), (.ireturn, 5, [0])]
def k_M_gives : mCode := [(.aload 0, 1, []), (.iconst (0), 2, []), (.putfield 2, 3, [12, 0]), (.iload 1, 4, []), (.ireturn, 5, [0])]
def k_M_tellsBy : mCode := [(.lload 1, 1, []), (.lstore 5, 2, []), (.lload 3, 3, []), (.lstore 7, 4, []), (.lload 7, 5, []), (.sipush (0), 6, []), (.lcmp, 8, [0, 17]), (.ifCond .eq 0, 8, [0, 17]), (.lload 5, 9, []), (.lload 7, 10, []), (.lrem, 11, []), (.lstore 9, 12, []), (.lload 7, 13, []), (.lstore 5, 14, []), (.lload 9, 15, []), (.lstore 7, 16, []), (.goto 0, 17, [4]), (.aload 0, 18, []), (.lload 1, 19, []), (.lload 5, 20, []), (.ldiv, 21, []), (.putfield 3, 22, [12, 1]), (.aload 0, 23, []), (.lload 3, 24, []), (.lload 5, 25, []), (.ldiv, 26, []), (.putfield 4, 27, [12, 1]), (.aload 0, 28, []), (.iconst (0), 29, []), (.invokestatic 81, 30, [2, 0, 1, 2, 13]), (.ireturn, 31, [3])]
def k_M_isTray : mCode := [(.iload 0, 1, []), (.ifCond .eq 0, 2, [2, 7]), (.iload 0, 3, []), (.iconst (4), 4, []), (.if_icmp .eq 0, 5, [3, 7]), (.iconst (1), 6, []), (.goto 0, 7, [8]), (.iconst (0), 8, []), (.ireturn, 9, [3])]
def k_M_shrunk : mCode := [(.iload 2, 1, []), (.ifCond .eq 0, 2, [1, 7]), (.lload 0, 3, []), (.l2i, 4, []), (.i2b, 5, []), (.i2l, 6, []), (.goto 0, 7, [23]), (.iload 2, 8, []), (.iconst (1), 9, []), (.if_icmp .eq 0, 10, [1, 15]), (.lload 0, 11, []), (.l2i, 12, []), (.i2s, 13, []), (.i2l, 14, []), (.goto 0, 15, [23]), (.iload 2, 16, []), (.iconst (2), 17, []), (.if_icmp .eq 0, 18, [1, 22]), (.lload 0, 19, []), (.l2i, 20, []), (.i2l, 21, []), (.goto 0, 22, [23]), (.lload 0, 23, []), (.lreturn, 24, [])]
def k_M_tray : mCode := [(.iload 1, 1, []), (.invokestatic 85, 2, [1, 0, 1, 1, 0]), (.ifCond .eq 0, 3, [0, 13]), (.iload 2, 4, []), (.ifCond .eq 0, 5, [2, 13]), (.iload 2, 6, []), (.iconst (3), 7, []), (.if_icmp .eq 0, 8, [4, 13]), (.iload 3, 9, []), (.ifCond .eq 0, 10, [2, 13]), (.iload 3, 11, []), (.iconst (60), 12, []), (.if_icmp .eq 0, 13, [5, 17]), (.aload 0, 14, []), (.iconst (1), 15, []), (.invokestatic 81, 16, [2, 0, 1, 2, 13]), (.ireturn, 17, [3]), (.aload 0, 18, []), (.getfield 5, 19, [12, 2]), (.iload 1, 20, []), (.iload 2, 21, []), (.iastore, 22, []), (.aload 0, 23, []), (.getfield 6, 24, [12, 2]), (.iload 1, 25, []), (.iload 3, 26, []), (.iastore, 27, []), (.iconst (0), 28, []), (.istore 4, 29, []), (.iload 4, 30, []), (.iload 3, 31, []), (.if_icmp .eq 0, 32, [3, 43]), (.aload 0, 33, []), (.getfield 7, 34, [12, 2]), (.iconst (60), 35, []), (.iload 1, 36, []), (.imul, 37, []), (.iload 4, 38, []), (.iadd, 39, []), (.sipush (0), 40, []), (.lastore, 41, []), (.iinc 4 (1), 42, []), (.goto 0, 43, [29]), (.aload 0, 44, []), (.iconst (0), 45, []), (.invokestatic 81, 46, [2, 0, 1, 2, 13]), (.ireturn, 47, [3])]
def k_M_wrongPlace : mCode := [(.iload 1, 1, []), (.invokestatic 85, 2, [1, 0, 1, 1, 0]), (.ifCond .eq 0, 3, [1, 5]), (.iconst (1), 4, []), (.goto 0, 5, [24]), (.aload 0, 6, []), (.getfield 6, 7, [12, 2]), (.iload 1, 8, []), (.iaload, 9, []), (.iconst (-1), 10, []), (.if_icmp .eq 0, 11, [1, 13]), (.iconst (2), 12, []), (.goto 0, 13, [24]), (.iload 2, 14, []), (.ifCond .eq 0, 15, [2, 21]), (.iload 2, 16, []), (.aload 0, 17, []), (.getfield 6, 18, [12, 2]), (.iload 1, 19, []), (.iaload, 20, []), (.if_icmp .eq 0, 21, [2, 23]), (.iconst (3), 22, []), (.goto 0, 23, [24]), (.iconst (0), 24, []), (.ireturn, 25, [0])]
def k_M_write : mCode := [(.aload 0, 1, []), (.iload 1, 2, []), (.iload 2, 3, []), (.invokestatic 88, 4, [3, 0, 1, 3, 13]), (.istore 5, 5, []), (.iload 5, 6, []), (.ifCond .eq 0, 7, [1, 21]), (.aload 0, 8, []), (.getfield 7, 9, [12, 2]), (.iconst (60), 10, []), (.iload 1, 11, []), (.imul, 12, []), (.iload 2, 13, []), (.iadd, 14, []), (.lload 3, 15, []), (.aload 0, 16, []), (.getfield 5, 17, [12, 2]), (.iload 1, 18, []), (.iaload, 19, []), (.invokestatic 86, 20, [2, 0, 2, 3, 0]), (.lastore, 21, []), (.aload 0, 22, []), (.iload 5, 23, []), (.invokestatic 81, 24, [2, 0, 1, 2, 13]), (.ireturn, 25, [3])]
def k_M_read : mCode := [(.aload 0, 1, []), (.aload 0, 2, []), (.iload 1, 3, []), (.iload 2, 4, []), (.invokestatic 88, 5, [3, 0, 1, 3, 13]), (.putfield 2, 6, [12, 0]), (.aload 0, 7, []), (.getfield 2, 8, [12, 0]), (.ifCond .eq 0, 9, [5, 11]), (.sipush (-1), 10, []), (.goto 0, 11, [19]), (.aload 0, 12, []), (.getfield 7, 13, [12, 2]), (.iconst (60), 14, []), (.iload 1, 15, []), (.imul, 16, []), (.iload 2, 17, []), (.iadd, 18, []), (.laload, 19, []), (.lreturn, 20, [])]
def k_M_pour : mCode := [(.iload 1, 1, []), (.invokestatic 85, 2, [1, 0, 1, 1, 0]), (.ifCond .eq 0, 3, [0, 12]), (.iload 3, 4, []), (.invokestatic 85, 5, [1, 0, 1, 1, 0]), (.ifCond .eq 0, 6, [0, 12]), (.iload 2, 7, []), (.ifCond .eq 0, 8, [2, 12]), (.iload 4, 9, []), (.ifCond .eq 0, 10, [2, 12]), (.iload 5, 11, []), (.ifCond .eq 0, 12, [3, 16]), (.aload 0, 13, []), (.iconst (1), 14, []), (.invokestatic 81, 15, [2, 0, 1, 2, 13]), (.ireturn, 16, [3]), (.aload 0, 17, []), (.getfield 6, 18, [12, 2]), (.iload 1, 19, []), (.iaload, 20, []), (.iconst (-1), 21, []), (.if_icmp .eq 0, 22, [0, 28]), (.aload 0, 23, []), (.getfield 6, 24, [12, 2]), (.iload 3, 25, []), (.iaload, 26, []), (.iconst (-1), 27, []), (.if_icmp .eq 0, 28, [1, 32]), (.aload 0, 29, []), (.iconst (2), 30, []), (.invokestatic 81, 31, [2, 0, 1, 2, 13]), (.ireturn, 32, [3]), (.aload 0, 33, []), (.getfield 5, 34, [12, 2]), (.iload 1, 35, []), (.iaload, 36, []), (.aload 0, 37, []), (.getfield 5, 38, [12, 2]), (.iload 3, 39, []), (.iaload, 40, []), (.if_icmp .eq 0, 41, [0, 45]), (.aload 0, 42, []), (.iconst (8), 43, []), (.invokestatic 81, 44, [2, 0, 1, 2, 13]), (.ireturn, 45, [3]), (.iload 5, 46, []), (.aload 0, 47, []), (.getfield 6, 48, [12, 2]), (.iload 1, 49, []), (.iaload, 50, []), (.iload 2, 51, []), (.isub, 52, []), (.if_icmp .eq 0, 53, [4, 61]), (.iload 5, 54, []), (.aload 0, 55, []), (.getfield 6, 56, [12, 2]), (.iload 3, 57, []), (.iaload, 58, []), (.iload 4, 59, []), (.isub, 60, []), (.if_icmp .eq 0, 61, [5, 65]), (.aload 0, 62, []), (.iconst (3), 63, []), (.invokestatic 81, 64, [2, 0, 1, 2, 13]), (.ireturn, 65, [3]), (.iconst (0), 66, []), (.istore 6, 67, []), (.iload 6, 68, []), (.iload 5, 69, []), (.if_icmp .eq 0, 70, [3, 103]), (.iload 2, 71, []), (.iload 4, 72, []), (.if_icmp .eq 0, 73, [3, 79]), (.iload 5, 74, []), (.iconst (1), 75, []), (.isub, 76, []), (.iload 6, 77, []), (.isub, 78, []), (.goto 0, 79, [80]), (.iload 6, 80, []), (.istore 7, 81, []), (.aload 0, 82, []), (.getfield 7, 83, [12, 2]), (.iconst (60), 84, []), (.iload 3, 85, []), (.imul, 86, []), (.iload 4, 87, []), (.iadd, 88, []), (.iload 7, 89, []), (.iadd, 90, []), (.aload 0, 91, []), (.getfield 7, 92, [12, 2]), (.iconst (60), 93, []), (.iload 1, 94, []), (.imul, 95, []), (.iload 2, 96, []), (.iadd, 97, []), (.iload 7, 98, []), (.iadd, 99, []), (.laload, 100, []), (.lastore, 101, []), (.iinc 6 (1), 102, []), (.goto 0, 103, [67]), (.aload 0, 104, []), (.iconst (0), 105, []), (.invokestatic 81, 106, [2, 0, 1, 2, 13]), (.ireturn, 107, [3])]
def k_M_isFrom : mCode := [(.lload 0, 1, []), (.lload 2, 2, []), (.lcmp, 4, [2, 10]), (.ifCond .eq 0, 4, [2, 10]), (.lload 0, 5, []), (.lload 4, 6, []), (.lcmp, 8, [4, 10]), (.ifCond .eq 0, 8, [4, 10]), (.iconst (1), 9, []), (.goto 0, 10, [11]), (.iconst (0), 11, []), (.ireturn, 12, [3])]
def k_M_feed : mCode := [(.aload 0, 1, []), (.getfield 10, 2, [12, 0]), (.iconst (20), 3, []), (.iadd, 4, []), (.iconst (900), 5, []), (.if_icmp .eq 0, 6, [5, 8]), (.iconst (-1), 7, []), (.ireturn, 8, [0]), (.aload 0, 9, []), (.iload 1, 10, []), (.invokestatic 94, 11, [2, 0, 0, 3, 13]), (.aload 0, 12, []), (.iload 2, 13, []), (.invokestatic 94, 14, [2, 0, 0, 3, 13]), (.aload 0, 15, []), (.iload 3, 16, []), (.invokestatic 94, 17, [2, 0, 0, 3, 13]), (.aload 0, 18, []), (.iload 4, 19, []), (.invokestatic 94, 20, [2, 0, 0, 3, 13]), (.aload 0, 21, []), (.iload 5, 22, []), (.invokestatic 94, 23, [2, 0, 0, 3, 13]), (.aload 0, 24, []), (.getfield 10, 25, [12, 0]), (.ireturn, 26, [0])]
def k_M_four : mCode := [(.iconst (24), 1, []), (.istore 2, 2, []), (.iload 2, 3, []), (.ifCond .eq 0, 4, [2, 21]), (.aload 0, 5, []), (.getfield 8, 6, [12, 2]), (.aload 0, 7, []), (.getfield 10, 8, [12, 0]), (.iload 1, 9, []), (.iload 2, 10, []), (.ishr, 11, []), (.i2b, 12, []), (.bastore, 13, []), (.aload 0, 14, []), (.dup, 15, []), (.getfield 10, 16, [12, 0]), (.iconst (1), 17, []), (.iadd, 18, []), (.putfield 10, 19, [12, 0]), (.iinc 2 (-8), 20, []), (.goto 0, 21, [2]), (.return_, 22, [])]
def k_M_byteAt : mCode := [(.iload 1, 1, []), (.aload 0, 2, []), (.getfield 11, 3, [12, 0]), (.if_icmp .eq 0, 4, [3, 11]), (.aload 0, 5, []), (.getfield 9, 6, [12, 2]), (.iload 1, 7, []), (.baload, 8, []), (.iconst (255), 9, []), (.iand, 10, []), (.goto 0, 11, [12]), (.iconst (-1), 12, []), (.ireturn, 13, [0])]
def k_M_isSmall : mCode := [(.iload 0, 1, []), (.iconst (97), 2, []), (.if_icmp .eq 0, 3, [2, 8]), (.iload 0, 4, []), (.iconst (122), 5, []), (.if_icmp .eq 0, 6, [4, 8]), (.iconst (1), 7, []), (.goto 0, 8, [9]), (.iconst (0), 9, []), (.ireturn, 10, [3])]
def k_M_isDigit : mCode := [(.iload 0, 1, []), (.iconst (48), 2, []), (.if_icmp .eq 0, 3, [2, 8]), (.iload 0, 4, []), (.iconst (57), 5, []), (.if_icmp .eq 0, 6, [4, 8]), (.iconst (1), 7, []), (.goto 0, 8, [9]), (.iconst (0), 9, []), (.ireturn, 10, [3])]
def k_M_ahead : mCode := [(.aload 0, 1, []), (.aload 0, 2, []), (.getfield 14, 3, [12, 0]), (.invokestatic 95, 4, [2, 0, 1, 2, 13]), (.iconst (32), 5, []), (.if_icmp .eq 0, 6, [0, 12]), (.aload 0, 7, []), (.aload 0, 8, []), (.getfield 14, 9, [12, 0]), (.invokestatic 95, 10, [2, 0, 1, 2, 13]), (.iconst (10), 11, []), (.if_icmp .eq 0, 12, [1, 19]), (.aload 0, 13, []), (.dup, 14, []), (.getfield 14, 15, [12, 0]), (.iconst (1), 16, []), (.iadd, 17, []), (.putfield 14, 18, [12, 0]), (.goto 0, 19, [0]), (.aload 0, 20, []), (.aload 0, 21, []), (.getfield 14, 22, [12, 0]), (.putfield 13, 23, [12, 0]), (.aload 0, 24, []), (.aload 0, 25, []), (.getfield 14, 26, [12, 0]), (.invokestatic 95, 27, [2, 0, 1, 2, 13]), (.istore 1, 28, []), (.aload 0, 29, []), (.iload 1, 30, []), (.putfield 15, 31, [12, 0]), (.iload 1, 32, []), (.iconst (-1), 33, []), (.if_icmp .eq 0, 34, [1, 38]), (.aload 0, 35, []), (.iconst (0), 36, []), (.putfield 12, 37, [12, 0]), (.goto 0, 38, [128]), (.iload 1, 39, []), (.invokestatic 96, 40, [1, 0, 1, 1, 0]), (.ifCond .eq 0, 41, [0, 58]), (.aload 0, 42, []), (.aload 0, 43, []), (.getfield 14, 44, [12, 0]), (.invokestatic 95, 45, [2, 0, 1, 2, 13]), (.invokestatic 96, 46, [1, 0, 1, 1, 0]), (.ifCond .eq 0, 47, [0, 54]), (.aload 0, 48, []), (.dup, 49, []), (.getfield 14, 50, [12, 0]), (.iconst (1), 51, []), (.iadd, 52, []), (.putfield 14, 53, [12, 0]), (.goto 0, 54, [41]), (.aload 0, 55, []), (.iconst (2), 56, []), (.putfield 12, 57, [12, 0]), (.goto 0, 58, [128]), (.iload 1, 59, []), (.invokestatic 97, 60, [1, 0, 1, 1, 0]), (.ifCond .eq 0, 61, [0, 105]), (.aload 0, 62, []), (.iconst (0), 63, []), (.putfield 15, 64, [12, 0]), (.aload 0, 65, []), (.aload 0, 66, []), (.getfield 14, 67, [12, 0]), (.invokestatic 95, 68, [2, 0, 1, 2, 13]), (.invokestatic 97, 69, [1, 0, 1, 1, 0]), (.ifCond .eq 0, 70, [0, 92]), (.aload 0, 71, []), (.iconst (100000), 72, []), (.iconst (10), 73, []), (.aload 0, 74, []), (.getfield 15, 75, [12, 0]), (.imul, 76, []), (.aload 0, 77, []), (.aload 0, 78, []), (.getfield 14, 79, [12, 0]), (.invokestatic 95, 80, [2, 0, 1, 2, 13]), (.iadd, 81, []), (.iconst (48), 82, []), (.isub, 83, []), (.dsub, 84, []), (.putfield 15, 85, [12, 0]), (.aload 0, 86, []), (.dup, 87, []), (.getfield 14, 88, [12, 0]), (.iconst (1), 89, []), (.iadd, 90, []), (.putfield 14, 91, [12, 0]), (.goto 0, 92, [64]), (.aload 0, 93, []), (.aload 0, 94, []), (.getfield 14, 95, [12, 0]), (.aload 0, 96, []), (.getfield 13, 97, [12, 0]), (.isub, 98, []), (.iconst (4), 99, []), (.if_icmp .eq 0, 100, [5, 102]), (.iconst (1), 101, []), (.goto 0, 102, [103]), (.iconst (3), 103, []), (.putfield 12, 104, [12, 0]), (.goto 0, 105, [128]), (.aload 0, 106, []), (.dup, 107, []), (.getfield 14, 108, [12, 0]), (.iconst (1), 109, []), (.iadd, 110, []), (.putfield 14, 111, [12, 0]), (.aload 0, 112, []), (.iload 1, 113, []), (.iconst (59), 114, []), (.if_icmp .eq 0, 115, [0, 124]), (.iload 1, 116, []), (.iconst (60), 117, []), (.if_icmp .eq 0, 118, [0, 124]), (.iload 1, 119, []), (.iconst (62), 120, []), (.if_icmp .eq 0, 121, [0, 124]), (.iload 1, 122, []), (.iconst (61), 123, []), (.if_icmp .eq 0, 124, [1, 126]), (.iconst (4), 125, []), (.goto 0, 126, [127]), (.iconst (1), 127, []), (.putfield 12, 128, [12, 0]), (.return_, 129, [])]
def k_M_isSign : mCode := [(.aload 0, 1, []), (.getfield 12, 2, [12, 0]), (.iconst (4), 3, []), (.if_icmp .eq 0, 4, [1, 10]), (.aload 0, 5, []), (.getfield 15, 6, [12, 0]), (.iload 1, 7, []), (.if_icmp .eq 0, 8, [1, 10]), (.iconst (1), 9, []), (.goto 0, 10, [11]), (.iconst (0), 11, []), (.ireturn, 12, [3])]
def k_M_inWords : mCode := [(.aload 0, 1, []), (.getfield 12, 2, [12, 0]), (.iconst (2), 3, []), (.if_icmp .eq 0, 4, [0, 6]), (.iconst (-1), 5, []), (.ireturn, 6, [0]), (.iconst (0), 7, []), (.istore 2, 8, []), (.iconst (1), 9, []), (.istore 3, 10, []), (.iload 3, 11, []), (.aload 1, 12, []), (.arraylength, 13, [1]), (.if_icmp .eq 0, 14, [3, 71]), (.iload 3, 15, []), (.istore 4, 16, []), (.aload 1, 17, []), (.iload 4, 18, []), (.caload, 19, []), (.iconst (32), 20, []), (.if_icmp .eq 0, 21, [0, 23]), (.iinc 4 (1), 22, []), (.goto 0, 23, [16]), (.iload 4, 24, []), (.iload 3, 25, []), (.isub, 26, []), (.aload 0, 27, []), (.getfield 14, 28, [12, 0]), (.aload 0, 29, []), (.getfield 13, 30, [12, 0]), (.isub, 31, []), (.if_icmp .eq 0, 32, [1, 34]), (.iconst (1), 33, []), (.goto 0, 34, [35]), (.iconst (0), 35, []), (.istore 5, 36, []), (.iload 3, 37, []), (.istore 6, 38, []), (.iload 6, 39, []), (.iload 4, 40, []), (.if_icmp .eq 0, 41, [3, 61]), (.iload 5, 42, []), (.ifCond .eq 0, 43, [0, 61]), (.aload 1, 44, []), (.iload 6, 45, []), (.caload, 46, []), (.aload 0, 47, []), (.aload 0, 48, []), (.getfield 13, 49, [12, 0]), (.iload 6, 50, []), (.iadd, 51, []), (.iload 3, 52, []), (.isub, 53, []), (.invokestatic 95, 54, [2, 0, 1, 2, 13]), (.if_icmp .eq 0, 55, [1, 57]), (.iconst (1), 56, []), (.goto 0, 57, [58]), (.iconst (0), 58, []), (.istore 5, 59, []), (.iinc 6 (1), 60, []), (.goto 0, 61, [38]), (.iload 5, 62, []), (.ifCond .eq 0, 63, [0, 65]), (.iload 2, 64, []), (.ireturn, 65, [0]), (.iinc 2 (1), 66, []), (.iload 4, 67, []), (.iconst (1), 68, []), (.iadd, 69, []), (.istore 3, 70, []), (.goto 0, 71, [10]), (.iconst (-1), 72, []), (.ireturn, 73, [0])]
def k_M_fails : mCode := [(.aload 0, 1, []), (.getfield 18, 2, [12, 0]), (.ifCond .eq 0, 3, [1, 16]), (.aload 0, 4, []), (.aload 0, 5, []), (.getfield 12, 6, [12, 0]), (.iconst (1), 7, []), (.if_icmp .eq 0, 8, [1, 10]), (.iconst (1), 9, []), (.goto 0, 10, [11]), (.iload 1, 11, []), (.putfield 18, 12, [12, 0]), (.aload 0, 13, []), (.aload 0, 14, []), (.getfield 13, 15, [12, 0]), (.putfield 17, 16, [12, 0]), (.iconst (0), 17, []), (.ireturn, 18, [3])]
def k_M_begins : mCode := [(.iload 1, 1, []), (.ifCond .eq 0, 2, [2, 9]), (.iload 1, 3, []), (.aload 0, 4, []), (.getfield 10, 5, [12, 0]), (.if_icmp .eq 0, 6, [4, 9]), (.iload 1, 7, []), (.iload 2, 8, []), (.if_icmp .eq 0, 9, [5, 11]), (.iconst (0), 10, []), (.ireturn, 11, [3]), (.aload 0, 12, []), (.iload 1, 13, []), (.putfield 11, 14, [12, 0]), (.iconst (0), 15, []), (.istore 3, 16, []), (.iload 3, 17, []), (.iload 1, 18, []), (.if_icmp .eq 0, 19, [3, 29]), (.aload 0, 20, []), (.getfield 9, 21, [12, 2]), (.iload 3, 22, []), (.aload 0, 23, []), (.getfield 8, 24, [12, 2]), (.iload 3, 25, []), (.baload, 26, []), (.bastore, 27, []), (.iinc 3 (1), 28, []), (.goto 0, 29, [16]), (.aload 0, 30, []), (.iconst (0), 31, []), (.putfield 10, 32, [12, 0]), (.aload 0, 33, []), (.iconst (0), 34, []), (.putfield 18, 35, [12, 0]), (.aload 0, 36, []), (.iconst (-1), 37, []), (.putfield 17, 38, [12, 0]), (.aload 0, 39, []), (.iconst (0), 40, []), (.putfield 14, 41, [12, 0]), (.aload 0, 42, []), (.iconst (0), 43, []), (.putfield 19, 44, [12, 0]), (.aload 0, 45, []), (.invokestatic 98, 46, [1, 0, 0, 2, 13]), (.iconst (1), 47, []), (.ireturn, 48, [3])]
def k_M_wantSign : mCode := [(.aload 0, 1, []), (.iload 1, 2, []), (.invokestatic 99, 3, [2, 0, 1, 2, 13]), (.ifCond .eq 0, 4, [1, 8]), (.aload 0, 5, []), (.iconst (2), 6, []), (.invokestatic 101, 7, [2, 0, 1, 2, 13]), (.ireturn, 8, [3]), (.aload 0, 9, []), (.invokestatic 98, 10, [1, 0, 0, 2, 13]), (.iconst (1), 11, []), (.ireturn, 12, [3])]
def k_M_wantWord : mCode := [(.aload 0, 1, []), (.aload 1, 2, []), (.invokestatic 100, 3, [2, 0, 1, 7, 13]), (.iload 2, 4, []), (.if_icmp .eq 0, 5, [0, 9]), (.aload 0, 6, []), (.iconst (2), 7, []), (.invokestatic 101, 8, [2, 0, 1, 2, 13]), (.ireturn, 9, [3]), (.aload 0, 10, []), (.invokestatic 98, 11, [1, 0, 0, 2, 13]), (.iconst (1), 12, []), (.ireturn, 13, [3])]
def k_M_number : mCode := [(.aload 0, 1, []), (.getfield 12, 2, [12, 0]), (.iconst (3), 3, []), (.if_icmp .eq 0, 4, [0, 8]), (.aload 0, 5, []), (.iconst (2), 6, []), (.invokestatic 101, 7, [2, 0, 1, 2, 13]), (.ireturn, 8, [3]), (.aload 0, 9, []), (.getfield 15, 10, [12, 0]), (.iload 2, 11, []), (.if_icmp .eq 0, 12, [2, 16]), (.aload 0, 13, []), (.getfield 15, 14, [12, 0]), (.iload 3, 15, []), (.if_icmp .eq 0, 16, [5, 20]), (.aload 0, 17, []), (.iconst (4), 18, []), (.invokestatic 101, 19, [2, 0, 1, 2, 13]), (.ireturn, 20, [3]), (.aload 0, 21, []), (.getfield 0, 22, [12, 2]), (.iload 1, 23, []), (.aload 0, 24, []), (.getfield 15, 25, [12, 0]), (.iastore, 26, []), (.aload 0, 27, []), (.invokestatic 98, 28, [1, 0, 0, 2, 13]), (.iconst (1), 29, []), (.ireturn, 30, [3])]
def k_M_isName : mCode := [(.aload 0, 1, []), (.getfield 12, 2, [12, 0]), (.iconst (2), 3, []), (.if_icmp .eq 0, 4, [1, 18]), (.aload 0, 5, []), (.getfield 14, 6, [12, 0]), (.aload 0, 7, []), (.getfield 13, 8, [12, 0]), (.isub, 9, []), (.iconst (8), 10, []), (.if_icmp .eq 0, 11, [4, 18]), (.aload 0, 12, []), (.aload 1, 13, []), (.invokestatic 100, 14, [2, 0, 1, 7, 13]), (.iconst (-1), 15, []), (.if_icmp .eq 0, 16, [1, 18]), (.iconst (1), 17, []), (.goto 0, 18, [19]), (.iconst (0), 19, []), (.ireturn, 20, [3])]
def k_M_nameHere : mCode := [(.sipush (0), 1, []), (.lstore 1, 2, []), (.aload 0, 3, []), (.getfield 13, 4, [12, 0]), (.istore 3, 5, []), (.iload 3, 6, []), (.aload 0, 7, []), (.getfield 14, 8, [12, 0]), (.if_icmp .eq 0, 9, [3, 20]), (.lload 1, 10, []), (.iconst (8), 11, []), (.lshl, 12, []), (.aload 0, 13, []), (.iload 3, 14, []), (.invokestatic 95, 15, [2, 0, 1, 2, 13]), (.i2l, 16, []), (.lor, 17, []), (.lstore 1, 18, []), (.iinc 3 (1), 19, []), (.goto 0, 20, [5]), (.lload 1, 21, []), (.lreturn, 22, [])]
def k_M_findHere : mCode := [(.iconst (0), 1, []), (.istore 3, 2, []), (.iload 3, 3, []), (.iload 2, 4, []), (.if_icmp .eq 0, 5, [3, 19]), (.aload 0, 6, []), (.getfield 1, 7, [12, 2]), (.iload 1, 8, []), (.iload 3, 9, []), (.iadd, 10, []), (.laload, 11, []), (.aload 0, 12, []), (.invokestatic 107, 13, [1, 0, 2, 4, 13]), (.lcmp, 15, [1, 17]), (.ifCond .eq 0, 15, [1, 17]), (.iload 3, 16, []), (.ireturn, 17, [0]), (.iinc 3 (1), 18, []), (.goto 0, 19, [2]), (.iconst (-1), 20, []), (.ireturn, 21, [0])]
def k_M_fault : mCode := [(.iload 1, 1, []), (.ifCond .eq 0, 2, [1, 5]), (.aload 0, 3, []), (.getfield 16, 4, [12, 0]), (.goto 0, 5, [12]), (.iload 1, 6, []), (.iconst (1), 7, []), (.if_icmp .eq 0, 8, [1, 11]), (.aload 0, 9, []), (.getfield 17, 10, [12, 0]), (.goto 0, 11, [12]), (.iconst (-1), 12, []), (.ireturn, 13, [0])]
def k_M_taken : mCode := [(.aload 0, 1, []), (.aload 0, 2, []), (.getfield 18, 3, [12, 0]), (.putfield 16, 4, [12, 0]), (.aload 0, 5, []), (.getfield 18, 6, [12, 0]), (.ifCond .eq 0, 7, [5, 11]), (.aload 0, 8, []), (.iconst (9), 9, []), (.invokestatic 82, 10, [2, 0, 1, 2, 13]), (.goto 0, 11, [14]), (.aload 0, 12, []), (.iload 1, 13, []), (.invokestatic 83, 14, [2, 0, 1, 2, 13]), (.ireturn, 15, [0])]
def k_M_personRow : mCode := [(.iconst (10), 1, []), (.iconst (5), 2, []), (.iload 0, 3, []), (.imul, 4, []), (.iadd, 5, []), (.ireturn, 6, [0])]
def k_M_isIn : mCode := [(.iload 1, 1, []), (.iload 2, 2, []), (.ishr, 3, []), (.iconst (1), 4, []), (.iand, 5, []), (.iconst (1), 6, []), (.if_icmp .eq 0, 7, [1, 9]), (.iconst (1), 8, []), (.goto 0, 9, [10]), (.iconst (0), 10, []), (.ireturn, 11, [3])]
def k_M_isThere : mCode := [(.aload 0, 1, []), (.ldc 6, 2, []), (.invokestatic 100, 3, [2, 0, 1, 7, 13]), (.iload 1, 4, []), (.if_icmp .eq 0, 5, [0, 7]), (.iconst (0), 6, []), (.ireturn, 7, [3]), (.aload 0, 8, []), (.invokestatic 98, 9, [1, 0, 0, 2, 13]), (.iconst (1), 10, []), (.ireturn, 11, [3])]
def k_M_perhaps : mCode := [(.aload 0, 1, []), (.iload 1, 2, []), (.invokestatic 113, 3, [2, 0, 1, 2, 13]), (.ifCond .eq 0, 4, [0, 10]), (.aload 0, 5, []), (.iload 2, 6, []), (.iload 3, 7, []), (.iload 4, 8, []), (.invokestatic 105, 9, [4, 0, 1, 4, 13]), (.ireturn, 10, [3]), (.aload 0, 11, []), (.getfield 0, 12, [12, 2]), (.iload 2, 13, []), (.iload 5, 14, []), (.iastore, 15, []), (.iconst (1), 16, []), (.ireturn, 17, [3])]
def k_M_leastOf : mCode := [(.iload 0, 1, []), (.iconst (3), 2, []), (.if_icmp .eq 0, 3, [0, 6]), (.iload 0, 4, []), (.iconst (5), 5, []), (.if_icmp .eq 0, 6, [2, 8]), (.iconst (1), 7, []), (.goto 0, 8, [9]), (.iconst (0), 9, []), (.ireturn, 10, [0])]
def k_M_mostOf : mCode := [(.iload 0, 1, []), (.tableswitch 0 (1) 0 #[], 2, [10, 2, 2, 4, 6, 8]), (.iconst (16), 3, []), (.ireturn, 4, [0]), (.iconst (99), 5, []), (.ireturn, 6, [0]), (.iconst (30), 7, []), (.ireturn, 8, [0]), (.iconst (20), 9, []), (.ireturn, 10, [0]), (.iconst (9), 11, []), (.ireturn, 12, [0])]
def k_M_aPerson : mCode := [(.aload 0, 1, []), (.getfield 0, 2, [12, 2]), (.iconst (1656), 3, []), (.iaload, 4, []), (.istore 1, 5, []), (.iconst (1656), 6, []), (.iload 1, 7, []), (.invokestatic 111, 8, [1, 0, 1, 1, 0]), (.iadd, 9, []), (.istore 2, 10, []), (.iload 1, 11, []), (.iconst (7), 12, []), (.if_icmp .eq 0, 13, [1, 17]), (.aload 0, 14, []), (.iconst (6), 15, []), (.invokestatic 101, 16, [2, 0, 1, 2, 13]), (.ireturn, 17, [3]), (.aload 0, 18, []), (.invokestatic 98, 19, [1, 0, 0, 2, 13]), (.aload 0, 20, []), (.ldc 6, 21, []), (.invokestatic 106, 22, [2, 0, 1, 2, 13]), (.ifCond .eq 0, 23, [1, 27]), (.aload 0, 24, []), (.iconst (2), 25, []), (.invokestatic 101, 26, [2, 0, 1, 2, 13]), (.ireturn, 27, [3]), (.aload 0, 28, []), (.iconst (28), 29, []), (.iload 1, 30, []), (.invokestatic 108, 31, [3, 0, 1, 4, 13]), (.iconst (-1), 32, []), (.if_icmp .eq 0, 33, [0, 37]), (.aload 0, 34, []), (.iconst (3), 35, []), (.invokestatic 101, 36, [2, 0, 1, 2, 13]), (.ireturn, 37, [3]), (.aload 0, 38, []), (.getfield 1, 39, [12, 2]), (.iconst (28), 40, []), (.iload 1, 41, []), (.iadd, 42, []), (.aload 0, 43, []), (.invokestatic 107, 44, [1, 0, 2, 4, 13]), (.lastore, 45, []), (.aload 0, 46, []), (.invokestatic 98, 47, [1, 0, 0, 2, 13]), (.aload 0, 48, []), (.ldc 6, 49, []), (.iconst (8), 50, []), (.invokestatic 104, 51, [3, 0, 1, 3, 13]), (.ifCond .eq 0, 52, [0, 68]), (.aload 0, 53, []), (.iload 2, 54, []), (.iconst (0), 55, []), (.iconst (59), 56, []), (.invokestatic 105, 57, [4, 0, 1, 4, 13]), (.ifCond .eq 0, 58, [0, 68]), (.aload 0, 59, []), (.iconst (9), 60, []), (.iload 2, 61, []), (.iconst (1), 62, []), (.iadd, 63, []), (.iconst (0), 64, []), (.iconst (9), 65, []), (.iconst (1), 66, []), (.invokestatic 114, 67, [6, 0, 1, 6, 13]), (.ifCond .eq 0, 68, [1, 70]), (.iconst (0), 69, []), (.ireturn, 70, [3]), (.aload 0, 71, []), (.iconst (10), 72, []), (.iload 2, 73, []), (.iconst (2), 74, []), (.iadd, 75, []), (.iconst (0), 76, []), (.iconst (99), 77, []), (.iconst (0), 78, []), (.invokestatic 114, 79, [6, 0, 1, 6, 13]), (.ifCond .eq 0, 80, [0, 90]), (.aload 0, 81, []), (.iconst (11), 82, []), (.iload 2, 83, []), (.iconst (3), 84, []), (.iadd, 85, []), (.iconst (0), 86, []), (.iconst (9), 87, []), (.iconst (2), 88, []), (.invokestatic 114, 89, [6, 0, 1, 6, 13]), (.ifCond .eq 0, 90, [1, 92]), (.iconst (0), 91, []), (.ireturn, 92, [3]), (.aload 0, 93, []), (.getfield 0, 94, [12, 2]), (.iload 2, 95, []), (.iconst (4), 96, []), (.iadd, 97, []), (.iconst (-1), 98, []), (.iastore, 99, []), (.aload 0, 100, []), (.getfield 0, 101, [12, 2]), (.iconst (1656), 102, []), (.dup2, 103, []), (.iaload, 104, []), (.iconst (1), 105, []), (.iadd, 106, []), (.iastore, 107, []), (.iconst (1), 108, []), (.ireturn, 109, [3])]
def k_M_aToast : mCode := [(.iconst (2062), 1, []), (.istore 1, 2, []), (.aload 0, 3, []), (.invokestatic 98, 4, [1, 0, 0, 2, 13]), (.aload 0, 5, []), (.ldc 6, 6, []), (.invokestatic 106, 7, [2, 0, 1, 2, 13]), (.ifCond .eq 0, 8, [1, 12]), (.aload 0, 9, []), (.iconst (2), 10, []), (.invokestatic 101, 11, [2, 0, 1, 2, 13]), (.ireturn, 12, [3]), (.aload 0, 13, []), (.iconst (28), 14, []), (.aload 0, 15, []), (.getfield 0, 16, [12, 2]), (.iconst (1656), 17, []), (.iaload, 18, []), (.invokestatic 108, 19, [3, 0, 1, 4, 13]), (.istore 2, 20, []), (.iload 2, 21, []), (.iconst (-1), 22, []), (.if_icmp .eq 0, 23, [1, 27]), (.aload 0, 24, []), (.iconst (3), 25, []), (.invokestatic 101, 26, [2, 0, 1, 2, 13]), (.ireturn, 27, [3]), (.aload 0, 28, []), (.getfield 0, 29, [12, 2]), (.iconst (1656), 30, []), (.iload 2, 31, []), (.invokestatic 111, 32, [1, 0, 1, 1, 0]), (.iadd, 33, []), (.iconst (4), 34, []), (.iadd, 35, []), (.iaload, 36, []), (.iconst (-1), 37, []), (.if_icmp .eq 0, 38, [0, 42]), (.aload 0, 39, []), (.iconst (5), 40, []), (.invokestatic 101, 41, [2, 0, 1, 2, 13]), (.ireturn, 42, [3]), (.aload 0, 43, []), (.invokestatic 98, 44, [1, 0, 0, 2, 13]), (.aload 0, 45, []), (.ldc 6, 46, []), (.iconst (12), 47, []), (.invokestatic 104, 48, [3, 0, 1, 3, 13]), (.ifCond .eq 0, 49, [1, 51]), (.iconst (0), 50, []), (.ireturn, 51, [3]), (.aload 0, 52, []), (.ldc 6, 53, []), (.invokestatic 106, 54, [2, 0, 1, 2, 13]), (.ifCond .eq 0, 55, [1, 59]), (.aload 0, 56, []), (.iconst (2), 57, []), (.invokestatic 101, 58, [2, 0, 1, 2, 13]), (.ireturn, 59, [3]), (.aload 0, 60, []), (.getfield 0, 61, [12, 2]), (.iload 1, 62, []), (.aload 0, 63, []), (.iconst (28), 64, []), (.aload 0, 65, []), (.getfield 0, 66, [12, 2]), (.iconst (1656), 67, []), (.iaload, 68, []), (.invokestatic 108, 69, [3, 0, 1, 4, 13]), (.iastore, 70, []), (.aload 0, 71, []), (.getfield 0, 72, [12, 2]), (.iload 1, 73, []), (.iaload, 74, []), (.iconst (-1), 75, []), (.if_icmp .eq 0, 76, [1, 80]), (.aload 0, 77, []), (.iconst (3), 78, []), (.invokestatic 101, 79, [2, 0, 1, 2, 13]), (.ireturn, 80, [3]), (.aload 0, 81, []), (.getfield 0, 82, [12, 2]), (.iload 1, 83, []), (.iaload, 84, []), (.iload 2, 85, []), (.if_icmp .eq 0, 86, [1, 90]), (.aload 0, 87, []), (.iconst (5), 88, []), (.invokestatic 101, 89, [2, 0, 1, 2, 13]), (.ireturn, 90, [3]), (.aload 0, 91, []), (.getfield 0, 92, [12, 2]), (.iconst (1656), 93, []), (.iload 2, 94, []), (.invokestatic 111, 95, [1, 0, 1, 1, 0]), (.iadd, 96, []), (.iconst (4), 97, []), (.iadd, 98, []), (.aload 0, 99, []), (.getfield 0, 100, [12, 2]), (.iload 1, 101, []), (.iaload, 102, []), (.iastore, 103, []), (.aload 0, 104, []), (.invokestatic 98, 105, [1, 0, 0, 2, 13]), (.iconst (1), 106, []), (.ireturn, 107, [3])]
def k_M_mapPart : mCode := [(.aload 0, 1, []), (.ldc 6, 2, []), (.invokestatic 100, 3, [2, 0, 1, 7, 13]), (.istore 1, 4, []), (.iload 1, 5, []), (.ifCond .eq 0, 6, [2, 9]), (.iload 1, 7, []), (.iconst (7), 8, []), (.if_icmp .eq 0, 9, [5, 13]), (.aload 0, 10, []), (.iconst (2), 11, []), (.invokestatic 101, 12, [2, 0, 1, 2, 13]), (.ireturn, 13, [3]), (.iload 1, 14, []), (.iconst (5), 15, []), (.if_icmp .eq 0, 16, [4, 26]), (.aload 0, 17, []), (.aload 0, 18, []), (.getfield 20, 19, [12, 0]), (.iload 1, 20, []), (.invokestatic 112, 21, [3, 0, 1, 3, 13]), (.ifCond .eq 0, 22, [0, 26]), (.aload 0, 23, []), (.iconst (5), 24, []), (.invokestatic 101, 25, [2, 0, 1, 2, 13]), (.ireturn, 26, [3]), (.iload 1, 27, []), (.iconst (6), 28, []), (.if_icmp .eq 0, 29, [1, 40]), (.aload 0, 30, []), (.invokestatic 117, 31, [1, 0, 1, 3, 13]), (.ifCond .eq 0, 32, [0, 38]), (.aload 0, 33, []), (.iconst (59), 34, []), (.invokestatic 103, 35, [2, 0, 1, 2, 13]), (.ifCond .eq 0, 36, [0, 38]), (.iconst (1), 37, []), (.goto 0, 38, [39]), (.iconst (0), 39, []), (.ireturn, 40, [3]), (.iload 1, 41, []), (.iconst (6), 42, []), (.if_icmp .eq 0, 43, [5, 54]), (.aload 0, 44, []), (.invokestatic 118, 45, [1, 0, 1, 3, 13]), (.ifCond .eq 0, 46, [0, 52]), (.aload 0, 47, []), (.iconst (59), 48, []), (.invokestatic 103, 49, [2, 0, 1, 2, 13]), (.ifCond .eq 0, 50, [0, 52]), (.iconst (1), 51, []), (.goto 0, 52, [53]), (.iconst (0), 53, []), (.ireturn, 54, [3]), (.aload 0, 55, []), (.dup, 56, []), (.getfield 20, 57, [12, 0]), (.iconst (1), 58, []), (.iload 1, 59, []), (.ishl, 60, []), (.ior, 61, []), (.putfield 20, 62, [12, 0]), (.aload 0, 63, []), (.invokestatic 98, 64, [1, 0, 0, 2, 13]), (.aload 0, 65, []), (.iconst (1656), 66, []), (.iload 1, 67, []), (.iadd, 68, []), (.iconst (1), 69, []), (.iadd, 70, []), (.iload 1, 71, []), (.iconst (1), 72, []), (.iadd, 73, []), (.invokestatic 115, 74, [1, 0, 1, 1, 0]), (.iload 1, 75, []), (.iconst (1), 76, []), (.iadd, 77, []), (.invokestatic 116, 78, [1, 0, 1, 1, 0]), (.invokestatic 105, 79, [4, 0, 1, 4, 13]), (.ifCond .eq 0, 80, [0, 86]), (.aload 0, 81, []), (.iconst (59), 82, []), (.invokestatic 103, 83, [2, 0, 1, 2, 13]), (.ifCond .eq 0, 84, [0, 86]), (.iconst (1), 85, []), (.goto 0, 86, [87]), (.iconst (0), 87, []), (.ireturn, 88, [3])]
def k_M_map : mCode := [(.aload 0, 1, []), (.iload 1, 2, []), (.iconst (900), 3, []), (.invokestatic 102, 4, [3, 0, 1, 4, 13]), (.ifCond .eq 0, 5, [1, 9]), (.aload 0, 6, []), (.iconst (1), 7, []), (.invokestatic 82, 8, [2, 0, 1, 2, 13]), (.ireturn, 9, [0]), (.aload 0, 10, []), (.iconst (1656), 11, []), (.invokestatic 77, 12, [2, 0, 0, 3, 13]), (.aload 0, 13, []), (.iconst (0), 14, []), (.putfield 20, 15, [12, 0]), (.iconst (1), 16, []), (.istore 2, 17, []), (.iload 2, 18, []), (.ifCond .eq 0, 19, [0, 26]), (.aload 0, 20, []), (.getfield 12, 21, [12, 0]), (.ifCond .eq 0, 22, [0, 26]), (.aload 0, 23, []), (.invokestatic 119, 24, [1, 0, 1, 2, 13]), (.istore 2, 25, []), (.goto 0, 26, [17]), (.aload 0, 27, []), (.getfield 18, 28, [12, 0]), (.ifCond .eq 0, 29, [1, 63]), (.iconst (0), 30, []), (.istore 3, 31, []), (.iload 3, 32, []), (.iconst (414), 33, []), (.if_icmp .eq 0, 34, [3, 46]), (.aload 0, 35, []), (.getfield 0, 36, [12, 2]), (.iload 3, 37, []), (.aload 0, 38, []), (.getfield 0, 39, [12, 2]), (.iconst (1656), 40, []), (.iload 3, 41, []), (.iadd, 42, []), (.iaload, 43, []), (.iastore, 44, []), (.iinc 3 (1), 45, []), (.goto 0, 46, [31]), (.iconst (0), 47, []), (.istore 3, 48, []), (.iload 3, 49, []), (.iconst (7), 50, []), (.if_icmp .eq 0, 51, [3, 63]), (.aload 0, 52, []), (.getfield 1, 53, [12, 2]), (.iload 3, 54, []), (.aload 0, 55, []), (.getfield 1, 56, [12, 2]), (.iconst (28), 57, []), (.iload 3, 58, []), (.iadd, 59, []), (.laload, 60, []), (.lastore, 61, []), (.iinc 3 (1), 62, []), (.goto 0, 63, [48]), (.aload 0, 64, []), (.aload 0, 65, []), (.getfield 0, 66, [12, 2]), (.iconst (0), 67, []), (.iaload, 68, []), (.invokestatic 110, 69, [2, 0, 1, 2, 13]), (.ireturn, 70, [0])]
def k_M_personTo : mCode := [(.aload 0, 1, []), (.ldc 6, 2, []), (.invokestatic 106, 3, [2, 0, 1, 2, 13]), (.ifCond .eq 0, 4, [1, 8]), (.aload 0, 5, []), (.iconst (2), 6, []), (.invokestatic 101, 7, [2, 0, 1, 2, 13]), (.ireturn, 8, [3]), (.aload 0, 9, []), (.getfield 0, 10, [12, 2]), (.iload 1, 11, []), (.aload 0, 12, []), (.iconst (0), 13, []), (.aload 0, 14, []), (.getfield 0, 15, [12, 2]), (.iconst (0), 16, []), (.iaload, 17, []), (.invokestatic 108, 18, [3, 0, 1, 4, 13]), (.iastore, 19, []), (.aload 0, 20, []), (.getfield 0, 21, [12, 2]), (.iload 1, 22, []), (.iaload, 23, []), (.iconst (-1), 24, []), (.if_icmp .eq 0, 25, [1, 29]), (.aload 0, 26, []), (.iconst (3), 27, []), (.invokestatic 101, 28, [2, 0, 1, 2, 13]), (.ireturn, 29, [3]), (.aload 0, 30, []), (.invokestatic 98, 31, [1, 0, 0, 2, 13]), (.iconst (1), 32, []), (.ireturn, 33, [3])]
def k_M_test : mCode := [(.aload 0, 1, []), (.ldc 6, 2, []), (.invokestatic 100, 3, [2, 0, 1, 7, 13]), (.istore 2, 4, []), (.iload 2, 5, []), (.iconst (22), 6, []), (.if_icmp .eq 0, 7, [0, 17]), (.iload 2, 8, []), (.iconst (10), 9, []), (.if_icmp .eq 0, 10, [0, 17]), (.iload 2, 11, []), (.iconst (11), 12, []), (.if_icmp .eq 0, 13, [0, 17]), (.aload 0, 14, []), (.iconst (2), 15, []), (.invokestatic 101, 16, [2, 0, 1, 2, 13]), (.ireturn, 17, [3]), (.aload 0, 18, []), (.getfield 0, 19, [12, 2]), (.iload 1, 20, []), (.iconst (1800), 21, []), (.iload 2, 22, []), (.iadd, 23, []), (.iastore, 24, []), (.aload 0, 25, []), (.invokestatic 98, 26, [1, 0, 0, 2, 13]), (.aload 0, 27, []), (.iload 1, 28, []), (.iconst (1), 29, []), (.iadd, 30, []), (.invokestatic 121, 31, [2, 0, 1, 2, 13]), (.ifCond .eq 0, 32, [1, 34]), (.iconst (0), 33, []), (.ireturn, 34, [3]), (.iload 2, 35, []), (.iconst (22), 36, []), (.if_icmp .eq 0, 37, [1, 39]), (.iconst (1), 38, []), (.ireturn, 39, [3]), (.aload 0, 40, []), (.iconst (60), 41, []), (.invokestatic 99, 42, [2, 0, 1, 2, 13]), (.ifCond .eq 0, 43, [1, 55]), (.aload 0, 44, []), (.iconst (62), 45, []), (.invokestatic 99, 46, [2, 0, 1, 2, 13]), (.ifCond .eq 0, 47, [1, 55]), (.aload 0, 48, []), (.iconst (61), 49, []), (.invokestatic 99, 50, [2, 0, 1, 2, 13]), (.ifCond .eq 0, 51, [1, 55]), (.aload 0, 52, []), (.iconst (2), 53, []), (.invokestatic 101, 54, [2, 0, 1, 2, 13]), (.ireturn, 55, [3]), (.aload 0, 56, []), (.getfield 0, 57, [12, 2]), (.iload 1, 58, []), (.iconst (5), 59, []), (.iadd, 60, []), (.aload 0, 61, []), (.getfield 15, 62, [12, 0]), (.iastore, 63, []), (.aload 0, 64, []), (.invokestatic 98, 65, [1, 0, 0, 2, 13]), (.aload 0, 66, []), (.iload 1, 67, []), (.iconst (2), 68, []), (.iadd, 69, []), (.iconst (0), 70, []), (.iload 2, 71, []), (.iconst (10), 72, []), (.if_icmp .eq 0, 73, [1, 75]), (.iconst (99), 74, []), (.goto 0, 75, [76]), (.iconst (9), 76, []), (.invokestatic 105, 77, [4, 0, 1, 4, 13]), (.ireturn, 78, [3])]
def k_M_timeOrder : mCode := [(.iload 1, 1, []), (.tableswitch 0 (13) 0 #[], 2, [46, 2, 8, 46, 16, 46, 42, 34]), (.aload 0, 3, []), (.iload 2, 4, []), (.iconst (1), 5, []), (.iadd, 6, []), (.invokestatic 121, 7, [2, 0, 1, 2, 13]), (.ireturn, 8, [3]), (.aload 0, 9, []), (.iload 2, 10, []), (.iconst (1), 11, []), (.iadd, 12, []), (.iconst (1), 13, []), (.iconst (20), 14, []), (.invokestatic 105, 15, [4, 0, 1, 4, 13]), (.ireturn, 16, [3]), (.aload 0, 17, []), (.iload 2, 18, []), (.iconst (1), 19, []), (.iadd, 20, []), (.invokestatic 121, 21, [2, 0, 1, 2, 13]), (.ifCond .eq 0, 22, [0, 32]), (.aload 0, 23, []), (.iload 2, 24, []), (.iconst (2), 25, []), (.iadd, 26, []), (.iconst (0), 27, []), (.iconst (9), 28, []), (.invokestatic 105, 29, [4, 0, 1, 4, 13]), (.ifCond .eq 0, 30, [0, 32]), (.iconst (1), 31, []), (.goto 0, 32, [33]), (.iconst (0), 33, []), (.ireturn, 34, [3]), (.aload 0, 35, []), (.iload 2, 36, []), (.iconst (1), 37, []), (.iadd, 38, []), (.iconst (1), 39, []), (.iconst (99), 40, []), (.invokestatic 105, 41, [4, 0, 1, 4, 13]), (.ireturn, 42, [3]), (.aload 0, 43, []), (.iload 2, 44, []), (.invokestatic 122, 45, [2, 0, 1, 3, 13]), (.ireturn, 46, [3]), (.iconst (1), 47, []), (.ireturn, 48, [3])]
def k_M_timeStep : mCode := [(.aload 0, 1, []), (.ldc 6, 2, []), (.invokestatic 100, 3, [2, 0, 1, 7, 13]), (.istore 1, 4, []), (.aload 0, 5, []), (.getfield 0, 6, [12, 2]), (.iconst (1664), 7, []), (.iaload, 8, []), (.istore 2, 9, []), (.iconst (1702), 10, []), (.iconst (6), 11, []), (.iload 2, 12, []), (.imul, 13, []), (.iadd, 14, []), (.istore 3, 15, []), (.iload 1, 16, []), (.iconst (18), 17, []), (.if_icmp .eq 0, 18, [0, 21]), (.iload 1, 19, []), (.iconst (19), 20, []), (.if_icmp .eq 0, 21, [1, 23]), (.iconst (1), 22, []), (.goto 0, 23, [24]), (.iconst (0), 24, []), (.istore 4, 25, []), (.iload 1, 26, []), (.iconst (13), 27, []), (.if_icmp .eq 0, 28, [2, 37]), (.iload 1, 29, []), (.iconst (21), 30, []), (.if_icmp .eq 0, 31, [4, 37]), (.iload 1, 32, []), (.iconst (20), 33, []), (.if_icmp .eq 0, 34, [1, 41]), (.aload 0, 35, []), (.getfield 22, 36, [12, 0]), (.ifCond .eq 0, 37, [1, 41]), (.aload 0, 38, []), (.iconst (2), 39, []), (.invokestatic 101, 40, [2, 0, 1, 2, 13]), (.ireturn, 41, [3]), (.iload 1, 42, []), (.iconst (20), 43, []), (.if_icmp .eq 0, 44, [0, 52]), (.aload 0, 45, []), (.getfield 23, 46, [12, 0]), (.iconst (30), 47, []), (.if_icmp .eq 0, 48, [1, 52]), (.aload 0, 49, []), (.iconst (6), 50, []), (.invokestatic 101, 51, [2, 0, 1, 2, 13]), (.ireturn, 52, [3]), (.iload 4, 53, []), (.ifCond .eq 0, 54, [0, 62]), (.aload 0, 55, []), (.getfield 22, 56, [12, 0]), (.iconst (3), 57, []), (.if_icmp .eq 0, 58, [1, 62]), (.aload 0, 59, []), (.iconst (7), 60, []), (.invokestatic 101, 61, [2, 0, 1, 2, 13]), (.ireturn, 62, [3]), (.aload 0, 63, []), (.dup, 64, []), (.getfield 23, 65, [12, 0]), (.iload 1, 66, []), (.iconst (20), 67, []), (.if_icmp .eq 0, 68, [1, 70]), (.iconst (0), 69, []), (.goto 0, 70, [71]), (.iconst (1), 71, []), (.iadd, 72, []), (.putfield 23, 73, [12, 0]), (.aload 0, 74, []), (.getfield 0, 75, [12, 2]), (.iload 3, 76, []), (.iload 1, 77, []), (.iastore, 78, []), (.iconst (1), 79, []), (.istore 5, 80, []), (.iload 5, 81, []), (.iconst (6), 82, []), (.if_icmp .eq 0, 83, [3, 92]), (.aload 0, 84, []), (.getfield 0, 85, [12, 2]), (.iload 3, 86, []), (.iload 5, 87, []), (.iadd, 88, []), (.iconst (0), 89, []), (.iastore, 90, []), (.iinc 5 (1), 91, []), (.goto 0, 92, [80]), (.aload 0, 93, []), (.getfield 0, 94, [12, 2]), (.iconst (1664), 95, []), (.dup2, 96, []), (.iaload, 97, []), (.iconst (1), 98, []), (.iadd, 99, []), (.iastore, 100, []), (.aload 0, 101, []), (.invokestatic 98, 102, [1, 0, 0, 2, 13]), (.aload 0, 103, []), (.iload 1, 104, []), (.iload 3, 105, []), (.invokestatic 123, 106, [3, 0, 1, 3, 13]), (.ifCond .eq 0, 107, [1, 109]), (.iconst (0), 108, []), (.ireturn, 109, [3]), (.iload 4, 110, []), (.ifCond .eq 0, 111, [0, 123]), (.aload 0, 112, []), (.getfield 21, 113, [12, 2]), (.aload 0, 114, []), (.getfield 22, 115, [12, 0]), (.iload 2, 116, []), (.iastore, 117, []), (.aload 0, 118, []), (.dup, 119, []), (.getfield 22, 120, [12, 0]), (.iconst (1), 121, []), (.iadd, 122, []), (.putfield 22, 123, [12, 0]), (.iload 1, 124, []), (.iconst (20), 125, []), (.if_icmp .eq 0, 126, [1, 158]), (.aload 0, 127, []), (.dup, 128, []), (.getfield 22, 129, [12, 0]), (.iconst (1), 130, []), (.isub, 131, []), (.putfield 22, 132, [12, 0]), (.aload 0, 133, []), (.getfield 0, 134, [12, 2]), (.iload 3, 135, []), (.iconst (4), 136, []), (.iadd, 137, []), (.aload 0, 138, []), (.getfield 21, 139, [12, 2]), (.aload 0, 140, []), (.getfield 22, 141, [12, 0]), (.iaload, 142, []), (.iastore, 143, []), (.aload 0, 144, []), (.getfield 0, 145, [12, 2]), (.iconst (1702), 146, []), (.iconst (6), 147, []), (.aload 0, 148, []), (.getfield 21, 149, [12, 2]), (.aload 0, 150, []), (.getfield 22, 151, [12, 0]), (.iaload, 152, []), (.imul, 153, []), (.iadd, 154, []), (.iconst (4), 155, []), (.iadd, 156, []), (.iload 2, 157, []), (.iastore, 158, []), (.aload 0, 159, []), (.iconst (59), 160, []), (.invokestatic 103, 161, [2, 0, 1, 2, 13]), (.ireturn, 162, [3])]
def k_M_times : mCode := [(.aload 0, 1, []), (.iload 1, 2, []), (.iconst (300), 3, []), (.invokestatic 102, 4, [3, 0, 1, 4, 13]), (.ifCond .eq 0, 5, [1, 9]), (.aload 0, 6, []), (.iconst (1), 7, []), (.invokestatic 82, 8, [2, 0, 1, 2, 13]), (.ireturn, 9, [0]), (.aload 0, 10, []), (.getfield 0, 11, [12, 2]), (.iconst (1664), 12, []), (.iconst (0), 13, []), (.iastore, 14, []), (.aload 0, 15, []), (.iconst (0), 16, []), (.putfield 22, 17, [12, 0]), (.aload 0, 18, []), (.iconst (0), 19, []), (.putfield 23, 20, [12, 0]), (.iconst (1), 21, []), (.istore 2, 22, []), (.iload 2, 23, []), (.ifCond .eq 0, 24, [0, 31]), (.aload 0, 25, []), (.getfield 12, 26, [12, 0]), (.ifCond .eq 0, 27, [0, 31]), (.aload 0, 28, []), (.invokestatic 124, 29, [1, 0, 1, 6, 13]), (.istore 2, 30, []), (.goto 0, 31, [22]), (.aload 0, 32, []), (.getfield 18, 33, [12, 0]), (.ifCond .eq 0, 34, [1, 41]), (.aload 0, 35, []), (.getfield 22, 36, [12, 0]), (.ifCond .eq 0, 37, [5, 41]), (.aload 0, 38, []), (.iconst (2), 39, []), (.invokestatic 101, 40, [2, 0, 1, 2, 13]), (.pop, 41, []), (.aload 0, 42, []), (.getfield 18, 43, [12, 0]), (.ifCond .eq 0, 44, [1, 69]), (.aload 0, 45, []), (.getfield 0, 46, [12, 2]), (.iconst (8), 47, []), (.aload 0, 48, []), (.getfield 0, 49, [12, 2]), (.iconst (1664), 50, []), (.iaload, 51, []), (.iastore, 52, []), (.iconst (46), 53, []), (.istore 3, 54, []), (.iload 3, 55, []), (.iconst (406), 56, []), (.if_icmp .eq 0, 57, [3, 69]), (.aload 0, 58, []), (.getfield 0, 59, [12, 2]), (.iload 3, 60, []), (.aload 0, 61, []), (.getfield 0, 62, [12, 2]), (.iconst (1656), 63, []), (.iload 3, 64, []), (.iadd, 65, []), (.iaload, 66, []), (.iastore, 67, []), (.iinc 3 (1), 68, []), (.goto 0, 69, [54]), (.aload 0, 70, []), (.aload 0, 71, []), (.getfield 23, 72, [12, 0]), (.invokestatic 110, 73, [2, 0, 1, 2, 13]), (.ireturn, 74, [0])]
def k_M_isPerson : mCode := [(.iload 1, 1, []), (.ifCond .eq 0, 2, [2, 10]), (.iload 1, 3, []), (.aload 0, 4, []), (.getfield 0, 5, [12, 2]), (.iconst (0), 6, []), (.iaload, 7, []), (.if_icmp .eq 0, 8, [3, 10]), (.iconst (1), 9, []), (.goto 0, 10, [11]), (.iconst (0), 11, []), (.ireturn, 12, [3])]
def k_M_areTwo : mCode := [(.aload 0, 1, []), (.iload 1, 2, []), (.invokestatic 126, 3, [2, 0, 1, 2, 13]), (.ifCond .eq 0, 4, [0, 13]), (.aload 0, 5, []), (.iload 2, 6, []), (.invokestatic 126, 7, [2, 0, 1, 2, 13]), (.ifCond .eq 0, 8, [0, 13]), (.iload 1, 9, []), (.iload 2, 10, []), (.if_icmp .eq 0, 11, [0, 13]), (.iconst (1), 12, []), (.goto 0, 13, [14]), (.iconst (0), 14, []), (.ireturn, 15, [3])]
def k_M_bits : mCode := [(.iconst (0), 1, []), (.istore 1, 2, []), (.iload 0, 3, []), (.istore 2, 4, []), (.iload 2, 5, []), (.ifCond .eq 0, 6, [0, 14]), (.iinc 1 (1), 7, []), (.iload 2, 8, []), (.iload 2, 9, []), (.iconst (1), 10, []), (.isub, 11, []), (.iand, 12, []), (.istore 2, 13, []), (.goto 0, 14, [4]), (.iload 1, 15, []), (.ireturn, 16, [0])]
def k_M_personOf : mCode := [(.aload 0, 1, []), (.getfield 0, 2, [12, 2]), (.iload 1, 3, []), (.invokestatic 111, 4, [1, 0, 1, 1, 0]), (.iload 2, 5, []), (.iadd, 6, []), (.iaload, 7, []), (.ireturn, 8, [0])]
def k_M_whomOf : mCode := [(.aload 0, 1, []), (.iload 1, 2, []), (.iconst (4), 3, []), (.invokestatic 129, 4, [3, 0, 1, 3, 13]), (.ireturn, 5, [0])]
def k_M_farBetween : mCode := [(.aload 0, 1, []), (.iload 1, 2, []), (.iconst (0), 3, []), (.invokestatic 129, 4, [3, 0, 1, 3, 13]), (.aload 0, 5, []), (.iload 2, 6, []), (.iconst (0), 7, []), (.invokestatic 129, 8, [3, 0, 1, 3, 13]), (.isub, 9, []), (.aload 0, 10, []), (.iload 2, 11, []), (.iconst (0), 12, []), (.invokestatic 129, 13, [3, 0, 1, 3, 13]), (.aload 0, 14, []), (.iload 1, 15, []), (.iconst (0), 16, []), (.invokestatic 129, 17, [3, 0, 1, 3, 13]), (.isub, 18, []), (.dadd, 19, []), (.ireturn, 20, [0])]
def k_M_warmBy : mCode := [(.iconst (0), 1, []), (.iload 0, 2, []), (.iload 1, 3, []), (.imul, 4, []), (.iload 2, 5, []), (.iload 3, 6, []), (.idiv, 7, []), (.isub, 8, []), (.dadd, 9, []), (.ireturn, 10, [0])]
def k_M_warmOf : mCode := [(.aload 0, 1, []), (.getfield 0, 2, [12, 2]), (.iconst (5), 3, []), (.iaload, 4, []), (.aload 0, 5, []), (.iload 1, 6, []), (.iconst (1), 7, []), (.invokestatic 129, 8, [3, 0, 1, 3, 13]), (.aload 0, 9, []), (.iload 1, 10, []), (.aload 0, 11, []), (.iload 1, 12, []), (.invokestatic 130, 13, [2, 0, 1, 2, 13]), (.invokestatic 131, 14, [3, 0, 1, 3, 13]), (.aload 0, 15, []), (.getfield 0, 16, [12, 2]), (.iconst (6), 17, []), (.iaload, 18, []), (.invokestatic 132, 19, [4, 0, 1, 4, 0]), (.ireturn, 20, [0])]
def k_M_isLit : mCode := [(.aload 0, 1, []), (.iload 1, 2, []), (.iconst (2), 3, []), (.invokestatic 129, 4, [3, 0, 1, 3, 13]), (.aload 0, 5, []), (.getfield 0, 6, [12, 2]), (.iconst (3), 7, []), (.iaload, 8, []), (.if_icmp .eq 0, 9, [2, 11]), (.iconst (1), 10, []), (.goto 0, 11, [12]), (.iconst (0), 12, []), (.ireturn, 13, [3])]
def k_M_areLit : mCode := [(.iconst (0), 1, []), (.istore 1, 2, []), (.iconst (0), 3, []), (.istore 2, 4, []), (.iload 2, 5, []), (.aload 0, 6, []), (.getfield 0, 7, [12, 2]), (.iconst (0), 8, []), (.iaload, 9, []), (.if_icmp .eq 0, 10, [3, 24]), (.iload 1, 11, []), (.aload 0, 12, []), (.iload 2, 13, []), (.invokestatic 134, 14, [2, 0, 1, 2, 13]), (.ifCond .eq 0, 15, [0, 19]), (.iconst (1), 16, []), (.iload 2, 17, []), (.ishl, 18, []), (.goto 0, 19, [20]), (.iconst (0), 20, []), (.ior, 21, []), (.istore 1, 22, []), (.iinc 2 (1), 23, []), (.goto 0, 24, [4]), (.iload 1, 25, []), (.ireturn, 26, [0])]
def k_M_haveWhom : mCode := [(.iconst (0), 1, []), (.istore 1, 2, []), (.iconst (0), 3, []), (.istore 2, 4, []), (.iload 2, 5, []), (.aload 0, 6, []), (.getfield 0, 7, [12, 2]), (.iconst (0), 8, []), (.iaload, 9, []), (.if_icmp .eq 0, 10, [3, 25]), (.iload 1, 11, []), (.aload 0, 12, []), (.iload 2, 13, []), (.invokestatic 130, 14, [2, 0, 1, 2, 13]), (.iconst (-1), 15, []), (.if_icmp .eq 0, 16, [0, 20]), (.iconst (1), 17, []), (.iload 2, 18, []), (.ishl, 19, []), (.goto 0, 20, [21]), (.iconst (0), 21, []), (.ior, 22, []), (.istore 1, 23, []), (.iinc 2 (1), 24, []), (.goto 0, 25, [4]), (.iload 1, 26, []), (.ireturn, 27, [0])]
def k_M_warmersOf : mCode := [(.iconst (0), 1, []), (.istore 2, 2, []), (.iconst (0), 3, []), (.istore 3, 4, []), (.iload 3, 5, []), (.aload 0, 6, []), (.getfield 0, 7, [12, 2]), (.iconst (0), 8, []), (.iaload, 9, []), (.if_icmp .eq 0, 10, [3, 25]), (.iload 2, 11, []), (.aload 0, 12, []), (.iload 3, 13, []), (.invokestatic 130, 14, [2, 0, 1, 2, 13]), (.iload 1, 15, []), (.if_icmp .eq 0, 16, [1, 20]), (.iconst (1), 17, []), (.iload 3, 18, []), (.ishl, 19, []), (.goto 0, 20, [21]), (.iconst (0), 21, []), (.ior, 22, []), (.istore 2, 23, []), (.iinc 3 (1), 24, []), (.goto 0, 25, [4]), (.iload 2, 26, []), (.ireturn, 27, [0])]
def k_M_together : mCode := [(.iconst (0), 1, []), (.istore 2, 2, []), (.iconst (0), 3, []), (.istore 3, 4, []), (.iload 3, 5, []), (.aload 0, 6, []), (.getfield 0, 7, [12, 2]), (.iconst (0), 8, []), (.iaload, 9, []), (.if_icmp .eq 0, 10, [3, 19]), (.iload 2, 11, []), (.aload 0, 12, []), (.iload 3, 13, []), (.iload 1, 14, []), (.invokestatic 129, 15, [3, 0, 1, 3, 13]), (.iadd, 16, []), (.istore 2, 17, []), (.iinc 3 (1), 18, []), (.goto 0, 19, [4]), (.iload 2, 20, []), (.ireturn, 21, [0])]
def k_M_told : mCode := [(.iload 1, 1, []), (.ifCond .eq 0, 2, [2, 5]), (.iload 1, 3, []), (.iconst (11), 4, []), (.if_icmp .eq 0, 5, [5, 9]), (.aload 0, 6, []), (.iconst (1), 7, []), (.invokestatic 82, 8, [2, 0, 1, 2, 13]), (.ireturn, 9, [0]), (.iload 1, 10, []), (.iconst (8), 11, []), (.if_icmp .eq 0, 12, [3, 19]), (.aload 0, 13, []), (.aload 0, 14, []), (.getfield 0, 15, [12, 2]), (.iload 1, 16, []), (.iaload, 17, []), (.invokestatic 83, 18, [2, 0, 1, 2, 13]), (.ireturn, 19, [0]), (.iload 1, 20, []), (.tableswitch 0 (8) 0 #[], 21, [37, 21, 26, 31]), (.aload 0, 22, []), (.aload 0, 23, []), (.invokestatic 135, 24, [1, 0, 1, 3, 13]), (.invokestatic 83, 25, [2, 0, 1, 2, 13]), (.ireturn, 26, [0]), (.aload 0, 27, []), (.aload 0, 28, []), (.invokestatic 136, 29, [1, 0, 1, 3, 13]), (.invokestatic 83, 30, [2, 0, 1, 2, 13]), (.ireturn, 31, [0]), (.aload 0, 32, []), (.aload 0, 33, []), (.iconst (2), 34, []), (.invokestatic 138, 35, [2, 0, 1, 4, 13]), (.invokestatic 83, 36, [2, 0, 1, 2, 13]), (.ireturn, 37, [0]), (.aload 0, 38, []), (.aload 0, 39, []), (.iconst (3), 40, []), (.invokestatic 138, 41, [2, 0, 1, 4, 13]), (.invokestatic 83, 42, [2, 0, 1, 2, 13]), (.ireturn, 43, [0])]
def k_M_person : mCode := [(.aload 0, 1, []), (.iload 1, 2, []), (.invokestatic 126, 3, [2, 0, 1, 2, 13]), (.ifCond .eq 0, 4, [0, 9]), (.iload 2, 5, []), (.ifCond .eq 0, 6, [2, 9]), (.iload 2, 7, []), (.iconst (6), 8, []), (.if_icmp .eq 0, 9, [5, 13]), (.aload 0, 10, []), (.iconst (1), 11, []), (.invokestatic 82, 12, [2, 0, 1, 2, 13]), (.ireturn, 13, [0]), (.iload 2, 14, []), (.iconst (4), 15, []), (.if_icmp .eq 0, 16, [3, 23]), (.aload 0, 17, []), (.aload 0, 18, []), (.iload 1, 19, []), (.iload 2, 20, []), (.invokestatic 129, 21, [3, 0, 1, 3, 13]), (.invokestatic 83, 22, [2, 0, 1, 2, 13]), (.ireturn, 23, [0]), (.iload 2, 24, []), (.iconst (6), 25, []), (.if_icmp .eq 0, 26, [1, 32]), (.aload 0, 27, []), (.aload 0, 28, []), (.iload 1, 29, []), (.invokestatic 137, 30, [2, 0, 1, 4, 13]), (.invokestatic 83, 31, [2, 0, 1, 2, 13]), (.ireturn, 32, [0]), (.aload 0, 33, []), (.iload 1, 34, []), (.invokestatic 130, 35, [2, 0, 1, 2, 13]), (.iconst (-1), 36, []), (.if_icmp .eq 0, 37, [1, 41]), (.aload 0, 38, []), (.iconst (6), 39, []), (.invokestatic 82, 40, [2, 0, 1, 2, 13]), (.ireturn, 41, [0]), (.aload 0, 42, []), (.iload 2, 43, []), (.iconst (4), 44, []), (.if_icmp .eq 0, 45, [1, 49]), (.aload 0, 46, []), (.iload 1, 47, []), (.invokestatic 130, 48, [2, 0, 1, 2, 13]), (.goto 0, 49, [52]), (.aload 0, 50, []), (.iload 1, 51, []), (.invokestatic 133, 52, [2, 0, 1, 2, 13]), (.invokestatic 83, 53, [2, 0, 1, 2, 13]), (.ireturn, 54, [0])]
def k_M_far : mCode := [(.aload 0, 1, []), (.iload 1, 2, []), (.invokestatic 126, 3, [2, 0, 1, 2, 13]), (.ifCond .eq 0, 4, [0, 8]), (.aload 0, 5, []), (.iload 2, 6, []), (.invokestatic 126, 7, [2, 0, 1, 2, 13]), (.ifCond .eq 0, 8, [1, 12]), (.aload 0, 9, []), (.iconst (1), 10, []), (.invokestatic 82, 11, [2, 0, 1, 2, 13]), (.ireturn, 12, [0]), (.aload 0, 13, []), (.aload 0, 14, []), (.iload 1, 15, []), (.iload 2, 16, []), (.invokestatic 131, 17, [3, 0, 1, 3, 13]), (.invokestatic 83, 18, [2, 0, 1, 2, 13]), (.ireturn, 19, [0])]
def k_M_warms : mCode := [(.aload 0, 1, []), (.getfield 0, 2, [12, 2]), (.iload 1, 3, []), (.invokestatic 111, 4, [1, 0, 1, 1, 0]), (.iconst (2), 5, []), (.iadd, 6, []), (.iconst (99), 7, []), (.aload 0, 8, []), (.iload 1, 9, []), (.iconst (2), 10, []), (.invokestatic 129, 11, [3, 0, 1, 3, 13]), (.iload 2, 12, []), (.iadd, 13, []), (.dsub, 14, []), (.iastore, 15, []), (.return_, 16, [])]
def k_M_drinks : mCode := [(.iload 1, 1, []), (.invokestatic 111, 2, [1, 0, 1, 1, 0]), (.istore 2, 3, []), (.aload 0, 4, []), (.iload 1, 5, []), (.invokestatic 130, 6, [2, 0, 1, 2, 13]), (.iconst (-1), 7, []), (.if_icmp .eq 0, 8, [0, 15]), (.aload 0, 9, []), (.getfield 0, 10, [12, 2]), (.iload 2, 11, []), (.iconst (3), 12, []), (.iadd, 13, []), (.iaload, 14, []), (.ifCond .eq 0, 15, [1, 17]), (.iconst (0), 16, []), (.ireturn, 17, [3]), (.aload 0, 18, []), (.getfield 0, 19, [12, 2]), (.iload 2, 20, []), (.iconst (3), 21, []), (.iadd, 22, []), (.dup2, 23, []), (.iaload, 24, []), (.iconst (1), 25, []), (.isub, 26, []), (.iastore, 27, []), (.aload 0, 28, []), (.aload 0, 29, []), (.iload 1, 30, []), (.invokestatic 130, 31, [2, 0, 1, 2, 13]), (.aload 0, 32, []), (.iload 1, 33, []), (.invokestatic 133, 34, [2, 0, 1, 2, 13]), (.invokestatic 142, 35, [3, 0, 0, 3, 13]), (.iconst (1), 36, []), (.ireturn, 37, [3])]
def k_M_drink : mCode := [(.aload 0, 1, []), (.iload 1, 2, []), (.invokestatic 126, 3, [2, 0, 1, 2, 13]), (.ifCond .eq 0, 4, [1, 8]), (.aload 0, 5, []), (.iconst (1), 6, []), (.invokestatic 82, 7, [2, 0, 1, 2, 13]), (.ireturn, 8, [0]), (.aload 0, 9, []), (.iload 1, 10, []), (.invokestatic 143, 11, [2, 0, 1, 3, 13]), (.ifCond .eq 0, 12, [0, 21]), (.aload 0, 13, []), (.aload 0, 14, []), (.aload 0, 15, []), (.iload 1, 16, []), (.invokestatic 130, 17, [2, 0, 1, 2, 13]), (.iconst (2), 18, []), (.invokestatic 129, 19, [3, 0, 1, 3, 13]), (.invokestatic 83, 20, [2, 0, 1, 2, 13]), (.goto 0, 21, [24]), (.aload 0, 22, []), (.iconst (7), 23, []), (.invokestatic 82, 24, [2, 0, 1, 2, 13]), (.ireturn, 25, [0])]
def k_M_cools : mCode := [(.aload 0, 1, []), (.getfield 0, 2, [12, 2]), (.iload 1, 3, []), (.invokestatic 111, 4, [1, 0, 1, 1, 0]), (.iconst (2), 5, []), (.iadd, 6, []), (.iconst (0), 7, []), (.aload 0, 8, []), (.iload 1, 9, []), (.iconst (2), 10, []), (.invokestatic 129, 11, [3, 0, 1, 3, 13]), (.aload 0, 12, []), (.getfield 0, 13, [12, 2]), (.iconst (4), 14, []), (.iaload, 15, []), (.isub, 16, []), (.dadd, 17, []), (.iastore, 18, []), (.return_, 19, [])]
def k_M_nightGoes : mCode := [(.iconst (0), 1, []), (.istore 1, 2, []), (.iload 1, 3, []), (.aload 0, 4, []), (.getfield 0, 5, [12, 2]), (.iconst (0), 6, []), (.iaload, 7, []), (.if_icmp .eq 0, 8, [3, 13]), (.aload 0, 9, []), (.iload 1, 10, []), (.invokestatic 145, 11, [2, 0, 0, 2, 13]), (.iinc 1 (1), 12, []), (.goto 0, 13, [2]), (.aload 0, 14, []), (.getfield 0, 15, [12, 2]), (.iconst (7), 16, []), (.dup2, 17, []), (.iaload, 18, []), (.iconst (1), 19, []), (.iadd, 20, []), (.iastore, 21, []), (.return_, 22, [])]
def k_M_nightsGo : mCode := [(.iconst (0), 1, []), (.istore 2, 2, []), (.iload 2, 3, []), (.iload 1, 4, []), (.if_icmp .eq 0, 5, [3, 9]), (.aload 0, 6, []), (.invokestatic 146, 7, [1, 0, 0, 2, 13]), (.iinc 2 (1), 8, []), (.goto 0, 9, [2]), (.return_, 10, [])]
def k_M_night : mCode := [(.iload 1, 1, []), (.i2l, 2, []), (.sipush (1), 3, []), (.sipush (99), 4, []), (.invokestatic 92, 5, [3, 0, 1, 6, 0]), (.ifCond .eq 0, 6, [1, 10]), (.aload 0, 7, []), (.iconst (1), 8, []), (.invokestatic 82, 9, [2, 0, 1, 2, 13]), (.ireturn, 10, [0]), (.aload 0, 11, []), (.getfield 0, 12, [12, 2]), (.iconst (7), 13, []), (.iaload, 14, []), (.iload 1, 15, []), (.iadd, 16, []), (.iconst (9999), 17, []), (.if_icmp .eq 0, 18, [5, 22]), (.aload 0, 19, []), (.iconst (4), 20, []), (.invokestatic 82, 21, [2, 0, 1, 2, 13]), (.ireturn, 22, [0]), (.aload 0, 23, []), (.iload 1, 24, []), (.invokestatic 147, 25, [2, 0, 0, 3, 13]), (.aload 0, 26, []), (.aload 0, 27, []), (.invokestatic 135, 28, [1, 0, 1, 3, 13]), (.invokestatic 83, 29, [2, 0, 1, 2, 13]), (.ireturn, 30, [0])]
def k_M_eveningGoes : mCode := [(.aload 0, 1, []), (.invokestatic 135, 2, [1, 0, 1, 3, 13]), (.aload 0, 3, []), (.invokestatic 136, 4, [1, 0, 1, 3, 13]), (.iand, 5, []), (.istore 2, 6, []), (.iload 1, 7, []), (.iconst (-1), 8, []), (.if_icmp .eq 0, 9, [0, 17]), (.iload 2, 10, []), (.iconst (1), 11, []), (.iload 1, 12, []), (.ishl, 13, []), (.iconst (-1), 14, []), (.ixor, 15, []), (.iand, 16, []), (.istore 2, 17, []), (.iconst (0), 18, []), (.istore 3, 19, []), (.iload 3, 20, []), (.iconst (7), 21, []), (.if_icmp .eq 0, 22, [3, 29]), (.aload 0, 23, []), (.getfield 24, 24, [12, 2]), (.iload 3, 25, []), (.iconst (0), 26, []), (.iastore, 27, []), (.iinc 3 (1), 28, []), (.goto 0, 29, [19]), (.iconst (0), 30, []), (.istore 3, 31, []), (.iload 3, 32, []), (.aload 0, 33, []), (.getfield 0, 34, [12, 2]), (.iconst (0), 35, []), (.iaload, 36, []), (.if_icmp .eq 0, 37, [3, 56]), (.aload 0, 38, []), (.iload 2, 39, []), (.iload 3, 40, []), (.invokestatic 112, 41, [3, 0, 1, 3, 13]), (.ifCond .eq 0, 42, [0, 54]), (.aload 0, 43, []), (.getfield 24, 44, [12, 2]), (.aload 0, 45, []), (.iload 3, 46, []), (.invokestatic 130, 47, [2, 0, 1, 2, 13]), (.dup2, 48, []), (.iaload, 49, []), (.aload 0, 50, []), (.iload 3, 51, []), (.invokestatic 133, 52, [2, 0, 1, 2, 13]), (.iadd, 53, []), (.iastore, 54, []), (.iinc 3 (1), 55, []), (.goto 0, 56, [31]), (.iconst (0), 57, []), (.istore 3, 58, []), (.iload 3, 59, []), (.aload 0, 60, []), (.getfield 0, 61, [12, 2]), (.iconst (0), 62, []), (.iaload, 63, []), (.if_icmp .eq 0, 64, [3, 73]), (.aload 0, 65, []), (.iload 3, 66, []), (.aload 0, 67, []), (.getfield 24, 68, [12, 2]), (.iload 3, 69, []), (.iaload, 70, []), (.invokestatic 142, 71, [3, 0, 0, 3, 13]), (.iinc 3 (1), 72, []), (.goto 0, 73, [58]), (.aload 0, 74, []), (.invokestatic 146, 75, [1, 0, 0, 2, 13]), (.iload 2, 76, []), (.ireturn, 77, [0])]
def k_M_evening : mCode := [(.aload 0, 1, []), (.getfield 0, 2, [12, 2]), (.iconst (7), 3, []), (.iaload, 4, []), (.iconst (9999), 5, []), (.if_icmp .eq 0, 6, [1, 10]), (.aload 0, 7, []), (.iconst (4), 8, []), (.invokestatic 82, 9, [2, 0, 1, 2, 13]), (.goto 0, 10, [15]), (.aload 0, 11, []), (.aload 0, 12, []), (.iconst (-1), 13, []), (.invokestatic 149, 14, [2, 0, 1, 4, 13]), (.invokestatic 83, 15, [2, 0, 1, 2, 13]), (.ireturn, 16, [0])]
def k_M_fills : mCode := [(.aload 0, 1, []), (.iload 1, 2, []), (.iconst (3), 3, []), (.invokestatic 129, 4, [3, 0, 1, 3, 13]), (.iload 2, 5, []), (.if_icmp .eq 0, 6, [0, 8]), (.iconst (1), 7, []), (.goto 0, 8, [9]), (.iconst (0), 9, []), (.istore 3, 10, []), (.aload 0, 11, []), (.getfield 0, 12, [12, 2]), (.iload 1, 13, []), (.invokestatic 111, 14, [1, 0, 1, 1, 0]), (.iconst (3), 15, []), (.iadd, 16, []), (.iload 2, 17, []), (.iastore, 18, []), (.iload 3, 19, []), (.ireturn, 20, [3])]
def k_M_fill : mCode := [(.aload 0, 1, []), (.iload 1, 2, []), (.invokestatic 126, 3, [2, 0, 1, 2, 13]), (.ifCond .eq 0, 4, [0, 10]), (.iload 2, 5, []), (.i2l, 6, []), (.sipush (0), 7, []), (.sipush (9), 8, []), (.invokestatic 92, 9, [3, 0, 1, 6, 0]), (.ifCond .eq 0, 10, [1, 14]), (.aload 0, 11, []), (.iconst (1), 12, []), (.invokestatic 82, 13, [2, 0, 1, 2, 13]), (.ireturn, 14, [0]), (.aload 0, 15, []), (.iload 1, 16, []), (.iconst (3), 17, []), (.invokestatic 129, 18, [3, 0, 1, 3, 13]), (.istore 3, 19, []), (.aload 0, 20, []), (.iload 1, 21, []), (.iload 2, 22, []), (.invokestatic 151, 23, [3, 0, 1, 4, 13]), (.pop, 24, []), (.aload 0, 25, []), (.iload 3, 26, []), (.invokestatic 83, 27, [2, 0, 1, 2, 13]), (.ireturn, 28, [0])]
def k_M_means : mCode := [(.aload 0, 1, []), (.iload 1, 2, []), (.invokestatic 126, 3, [2, 0, 1, 2, 13]), (.ifCond .eq 0, 4, [0, 10]), (.iload 2, 5, []), (.i2l, 6, []), (.sipush (0), 7, []), (.sipush (9), 8, []), (.invokestatic 92, 9, [3, 0, 1, 6, 0]), (.ifCond .eq 0, 10, [1, 14]), (.aload 0, 11, []), (.iconst (1), 12, []), (.invokestatic 82, 13, [2, 0, 1, 2, 13]), (.ireturn, 14, [0]), (.aload 0, 15, []), (.iload 1, 16, []), (.iconst (1), 17, []), (.invokestatic 129, 18, [3, 0, 1, 3, 13]), (.istore 3, 19, []), (.aload 0, 20, []), (.getfield 0, 21, [12, 2]), (.iload 1, 22, []), (.invokestatic 111, 23, [1, 0, 1, 1, 0]), (.iconst (1), 24, []), (.iadd, 25, []), (.iload 2, 26, []), (.iastore, 27, []), (.aload 0, 28, []), (.iload 3, 29, []), (.invokestatic 83, 30, [2, 0, 1, 2, 13]), (.ireturn, 31, [0])]
def k_M_move : mCode := [(.aload 0, 1, []), (.iload 1, 2, []), (.invokestatic 126, 3, [2, 0, 1, 2, 13]), (.ifCond .eq 0, 4, [0, 10]), (.iload 2, 5, []), (.i2l, 6, []), (.sipush (0), 7, []), (.sipush (59), 8, []), (.invokestatic 92, 9, [3, 0, 1, 6, 0]), (.ifCond .eq 0, 10, [1, 14]), (.aload 0, 11, []), (.iconst (1), 12, []), (.invokestatic 82, 13, [2, 0, 1, 2, 13]), (.ireturn, 14, [0]), (.aload 0, 15, []), (.iload 1, 16, []), (.iconst (0), 17, []), (.invokestatic 129, 18, [3, 0, 1, 3, 13]), (.istore 3, 19, []), (.aload 0, 20, []), (.getfield 0, 21, [12, 2]), (.iload 1, 22, []), (.invokestatic 111, 23, [1, 0, 1, 1, 0]), (.iload 2, 24, []), (.iastore, 25, []), (.aload 0, 26, []), (.iload 3, 27, []), (.invokestatic 83, 28, [2, 0, 1, 2, 13]), (.ireturn, 29, [0])]
def k_M_aim : mCode := [(.aload 0, 1, []), (.iload 1, 2, []), (.iload 2, 3, []), (.invokestatic 127, 4, [3, 0, 1, 3, 13]), (.ifCond .eq 0, 5, [1, 9]), (.aload 0, 6, []), (.iconst (1), 7, []), (.invokestatic 82, 8, [2, 0, 1, 2, 13]), (.ireturn, 9, [0]), (.aload 0, 10, []), (.iload 1, 11, []), (.invokestatic 130, 12, [2, 0, 1, 2, 13]), (.istore 3, 13, []), (.iload 3, 14, []), (.iload 2, 15, []), (.if_icmp .eq 0, 16, [1, 20]), (.aload 0, 17, []), (.iconst (7), 18, []), (.invokestatic 82, 19, [2, 0, 1, 2, 13]), (.ireturn, 20, [0]), (.aload 0, 21, []), (.getfield 0, 22, [12, 2]), (.iload 1, 23, []), (.invokestatic 111, 24, [1, 0, 1, 1, 0]), (.iconst (4), 25, []), (.iadd, 26, []), (.iload 2, 27, []), (.iastore, 28, []), (.aload 0, 29, []), (.iload 3, 30, []), (.iconst (-1), 31, []), (.if_icmp .eq 0, 32, [1, 37]), (.aload 0, 33, []), (.getfield 0, 34, [12, 2]), (.iconst (0), 35, []), (.iaload, 36, []), (.goto 0, 37, [38]), (.iload 3, 38, []), (.invokestatic 83, 39, [2, 0, 1, 2, 13]), (.ireturn, 40, [0])]
def k_M_come : mCode := [(.iload 1, 1, []), (.i2l, 2, []), (.sipush (0), 3, []), (.sipush (59), 4, []), (.invokestatic 92, 5, [3, 0, 1, 6, 0]), (.ifCond .eq 0, 6, [1, 10]), (.aload 0, 7, []), (.iconst (1), 8, []), (.invokestatic 82, 9, [2, 0, 1, 2, 13]), (.ireturn, 10, [0]), (.aload 0, 11, []), (.getfield 0, 12, [12, 2]), (.iconst (0), 13, []), (.iaload, 14, []), (.istore 2, 15, []), (.iload 2, 16, []), (.iconst (7), 17, []), (.if_icmp .eq 0, 18, [1, 22]), (.aload 0, 19, []), (.iconst (4), 20, []), (.invokestatic 82, 21, [2, 0, 1, 2, 13]), (.ireturn, 22, [0]), (.iload 2, 23, []), (.invokestatic 111, 24, [1, 0, 1, 1, 0]), (.istore 3, 25, []), (.aload 0, 26, []), (.getfield 0, 27, [12, 2]), (.iconst (0), 28, []), (.dup2, 29, []), (.iaload, 30, []), (.iconst (1), 31, []), (.iadd, 32, []), (.iastore, 33, []), (.aload 0, 34, []), (.getfield 0, 35, [12, 2]), (.iload 3, 36, []), (.iload 1, 37, []), (.iastore, 38, []), (.aload 0, 39, []), (.getfield 0, 40, [12, 2]), (.iload 3, 41, []), (.iconst (1), 42, []), (.iadd, 43, []), (.iconst (1), 44, []), (.iastore, 45, []), (.aload 0, 46, []), (.getfield 0, 47, [12, 2]), (.iload 3, 48, []), (.iconst (2), 49, []), (.iadd, 50, []), (.iconst (0), 51, []), (.iastore, 52, []), (.aload 0, 53, []), (.getfield 0, 54, [12, 2]), (.iload 3, 55, []), (.iconst (3), 56, []), (.iadd, 57, []), (.iconst (2), 58, []), (.iastore, 59, []), (.aload 0, 60, []), (.getfield 0, 61, [12, 2]), (.iload 3, 62, []), (.iconst (4), 63, []), (.iadd, 64, []), (.iconst (-1), 65, []), (.iastore, 66, []), (.aload 0, 67, []), (.getfield 1, 68, [12, 2]), (.iload 2, 69, []), (.sipush (0), 70, []), (.lastore, 71, []), (.aload 0, 72, []), (.iload 2, 73, []), (.invokestatic 83, 74, [2, 0, 1, 2, 13]), (.ireturn, 75, [0])]
def k_M_rule : mCode := [(.iload 1, 1, []), (.iconst (1), 2, []), (.if_icmp .eq 0, 3, [2, 16]), (.iload 1, 4, []), (.iconst (6), 5, []), (.if_icmp .eq 0, 6, [4, 16]), (.iload 2, 7, []), (.i2l, 8, []), (.iload 1, 9, []), (.invokestatic 115, 10, [1, 0, 1, 1, 0]), (.i2l, 11, []), (.iload 1, 12, []), (.invokestatic 116, 13, [1, 0, 1, 1, 0]), (.i2l, 14, []), (.invokestatic 92, 15, [3, 0, 1, 6, 0]), (.ifCond .eq 0, 16, [1, 20]), (.aload 0, 17, []), (.iconst (1), 18, []), (.invokestatic 81, 19, [2, 0, 1, 2, 13]), (.ireturn, 20, [3]), (.aload 0, 21, []), (.getfield 0, 22, [12, 2]), (.iload 1, 23, []), (.iload 2, 24, []), (.iastore, 25, []), (.aload 0, 26, []), (.iconst (0), 27, []), (.invokestatic 81, 28, [2, 0, 1, 2, 13]), (.ireturn, 29, [3])]
def k_M_levelAt : mCode := [(.iconst (2116), 1, []), (.iconst (46), 2, []), (.iload 0, 3, []), (.imul, 4, []), (.iadd, 5, []), (.ireturn, 6, [0])]
def k_M_keeps : mCode := [(.iconst (0), 1, []), (.istore 2, 2, []), (.iload 2, 3, []), (.iconst (46), 4, []), (.if_icmp .eq 0, 5, [3, 17]), (.aload 0, 6, []), (.getfield 0, 7, [12, 2]), (.iload 1, 8, []), (.iload 2, 9, []), (.iadd, 10, []), (.aload 0, 11, []), (.getfield 0, 12, [12, 2]), (.iload 2, 13, []), (.iaload, 14, []), (.iastore, 15, []), (.iinc 2 (1), 16, []), (.goto 0, 17, [2]), (.return_, 18, [])]
def k_M_restores : mCode := [(.iconst (0), 1, []), (.istore 2, 2, []), (.iload 2, 3, []), (.iconst (46), 4, []), (.if_icmp .eq 0, 5, [3, 17]), (.aload 0, 6, []), (.getfield 0, 7, [12, 2]), (.iload 2, 8, []), (.aload 0, 9, []), (.getfield 0, 10, [12, 2]), (.iload 1, 11, []), (.iload 2, 12, []), (.iadd, 13, []), (.iaload, 14, []), (.iastore, 15, []), (.iinc 2 (1), 16, []), (.goto 0, 17, [2]), (.return_, 18, [])]
def k_M_cooled : mCode := [(.iconst (0), 1, []), (.aload 0, 2, []), (.iload 1, 3, []), (.iconst (2), 4, []), (.invokestatic 129, 5, [3, 0, 1, 3, 13]), (.iload 2, 6, []), (.aload 0, 7, []), (.getfield 0, 8, [12, 2]), (.iconst (4), 9, []), (.iaload, 10, []), (.imul, 11, []), (.isub, 12, []), (.dadd, 13, []), (.ireturn, 14, [0])]
def k_M_warmIn : mCode := [(.aload 0, 1, []), (.iload 1, 2, []), (.invokestatic 126, 3, [2, 0, 1, 2, 13]), (.ifCond .eq 0, 4, [0, 10]), (.iload 2, 5, []), (.i2l, 6, []), (.sipush (0), 7, []), (.sipush (60), 8, []), (.invokestatic 92, 9, [3, 0, 1, 6, 0]), (.ifCond .eq 0, 10, [1, 14]), (.aload 0, 11, []), (.iconst (1), 12, []), (.invokestatic 82, 13, [2, 0, 1, 2, 13]), (.ireturn, 14, [0]), (.aload 0, 15, []), (.aload 0, 16, []), (.iload 1, 17, []), (.iload 2, 18, []), (.invokestatic 161, 19, [3, 0, 1, 3, 13]), (.invokestatic 83, 20, [2, 0, 1, 2, 13]), (.ireturn, 21, [0])]
def k_M_darkIn : mCode := [(.aload 0, 1, []), (.iload 1, 2, []), (.invokestatic 126, 3, [2, 0, 1, 2, 13]), (.ifCond .eq 0, 4, [1, 8]), (.aload 0, 5, []), (.iconst (1), 6, []), (.invokestatic 82, 7, [2, 0, 1, 2, 13]), (.ireturn, 8, [0]), (.iconst (0), 9, []), (.istore 2, 10, []), (.iload 2, 11, []), (.iconst (99), 12, []), (.if_icmp .eq 0, 13, [4, 28]), (.aload 0, 14, []), (.iload 1, 15, []), (.iload 2, 16, []), (.invokestatic 161, 17, [3, 0, 1, 3, 13]), (.aload 0, 18, []), (.getfield 0, 19, [12, 2]), (.iconst (3), 20, []), (.iaload, 21, []), (.if_icmp .eq 0, 22, [3, 26]), (.aload 0, 23, []), (.iload 2, 24, []), (.invokestatic 83, 25, [2, 0, 1, 2, 13]), (.ireturn, 26, [0]), (.iinc 2 (1), 27, []), (.goto 0, 28, [10]), (.aload 0, 29, []), (.iconst (6), 30, []), (.invokestatic 82, 31, [2, 0, 1, 2, 13]), (.ireturn, 32, [0])]
def k_M_eveningsGo : mCode := [(.iconst (0), 1, []), (.istore 2, 2, []), (.iload 2, 3, []), (.iload 1, 4, []), (.if_icmp .eq 0, 5, [3, 11]), (.aload 0, 6, []), (.iconst (-1), 7, []), (.invokestatic 149, 8, [2, 0, 1, 4, 13]), (.pop, 9, []), (.iinc 2 (1), 10, []), (.goto 0, 11, [2]), (.return_, 12, [])]
def k_M_eveningIn : mCode := [(.aload 0, 1, []), (.iload 1, 2, []), (.invokestatic 126, 3, [2, 0, 1, 2, 13]), (.ifCond .eq 0, 4, [0, 10]), (.iload 2, 5, []), (.i2l, 6, []), (.sipush (0), 7, []), (.sipush (60), 8, []), (.invokestatic 92, 9, [3, 0, 1, 6, 0]), (.ifCond .eq 0, 10, [1, 14]), (.aload 0, 11, []), (.iconst (1), 12, []), (.invokestatic 82, 13, [2, 0, 1, 2, 13]), (.ireturn, 14, [0]), (.aload 0, 15, []), (.iconst (2070), 16, []), (.invokestatic 159, 17, [2, 0, 0, 3, 13]), (.aload 0, 18, []), (.iload 2, 19, []), (.invokestatic 164, 20, [2, 0, 0, 3, 13]), (.aload 0, 21, []), (.iload 1, 22, []), (.iconst (2), 23, []), (.invokestatic 129, 24, [3, 0, 1, 3, 13]), (.istore 3, 25, []), (.aload 0, 26, []), (.iconst (2070), 27, []), (.invokestatic 160, 28, [2, 0, 0, 3, 13]), (.aload 0, 29, []), (.iload 3, 30, []), (.invokestatic 83, 31, [2, 0, 1, 2, 13]), (.ireturn, 32, [0])]
def k_M_litIn : mCode := [(.iload 1, 1, []), (.i2l, 2, []), (.sipush (0), 3, []), (.sipush (60), 4, []), (.invokestatic 92, 5, [3, 0, 1, 6, 0]), (.ifCond .eq 0, 6, [1, 10]), (.aload 0, 7, []), (.iconst (1), 8, []), (.invokestatic 82, 9, [2, 0, 1, 2, 13]), (.ireturn, 10, [0]), (.aload 0, 11, []), (.iconst (2070), 12, []), (.invokestatic 159, 13, [2, 0, 0, 3, 13]), (.aload 0, 14, []), (.iload 1, 15, []), (.invokestatic 164, 16, [2, 0, 0, 3, 13]), (.aload 0, 17, []), (.invokestatic 135, 18, [1, 0, 1, 3, 13]), (.istore 2, 19, []), (.aload 0, 20, []), (.iconst (2070), 21, []), (.invokestatic 160, 22, [2, 0, 0, 3, 13]), (.aload 0, 23, []), (.iload 2, 24, []), (.invokestatic 83, 25, [2, 0, 1, 2, 13]), (.ireturn, 26, [0])]
def k_M_isAlike : mCode := [(.iconst (0), 1, []), (.istore 3, 2, []), (.iload 3, 3, []), (.aload 0, 4, []), (.getfield 0, 5, [12, 2]), (.iconst (0), 6, []), (.iaload, 7, []), (.if_icmp .eq 0, 8, [3, 29]), (.aload 0, 9, []), (.getfield 25, 10, [12, 2]), (.iconst (7), 11, []), (.iload 1, 12, []), (.imul, 13, []), (.iload 3, 14, []), (.iadd, 15, []), (.iaload, 16, []), (.aload 0, 17, []), (.getfield 25, 18, [12, 2]), (.iconst (7), 19, []), (.iload 2, 20, []), (.imul, 21, []), (.iload 3, 22, []), (.iadd, 23, []), (.iaload, 24, []), (.if_icmp .eq 0, 25, [0, 27]), (.iconst (0), 26, []), (.ireturn, 27, [3]), (.iinc 3 (1), 28, []), (.goto 0, 29, [2]), (.iconst (1), 30, []), (.ireturn, 31, [3])]
def k_M_laysSettled : mCode := [(.aload 0, 1, []), (.iconst (2070), 2, []), (.invokestatic 159, 3, [2, 0, 0, 3, 13]), (.iconst (0), 4, []), (.istore 1, 5, []), (.iload 1, 6, []), (.iconst (200), 7, []), (.if_icmp .eq 0, 8, [4, 36]), (.iconst (0), 9, []), (.istore 2, 10, []), (.iload 2, 11, []), (.aload 0, 12, []), (.getfield 0, 13, [12, 2]), (.iconst (0), 14, []), (.iaload, 15, []), (.if_icmp .eq 0, 16, [3, 30]), (.aload 0, 17, []), (.getfield 25, 18, [12, 2]), (.iconst (7), 19, []), (.iload 1, 20, []), (.imul, 21, []), (.iload 2, 22, []), (.iadd, 23, []), (.aload 0, 24, []), (.iload 2, 25, []), (.iconst (2), 26, []), (.invokestatic 129, 27, [3, 0, 1, 3, 13]), (.iastore, 28, []), (.iinc 2 (1), 29, []), (.goto 0, 30, [10]), (.aload 0, 31, []), (.iconst (-1), 32, []), (.invokestatic 149, 33, [2, 0, 1, 4, 13]), (.pop, 34, []), (.iinc 1 (1), 35, []), (.goto 0, 36, [5]), (.aload 0, 37, []), (.iconst (2070), 38, []), (.invokestatic 160, 39, [2, 0, 0, 3, 13]), (.iconst (0), 40, []), (.istore 1, 41, []), (.iload 1, 42, []), (.iconst (200), 43, []), (.if_icmp .eq 0, 44, [3, 71]), (.iconst (1), 45, []), (.istore 2, 46, []), (.iload 1, 47, []), (.iload 2, 48, []), (.iadd, 49, []), (.iconst (200), 50, []), (.if_icmp .eq 0, 51, [4, 69]), (.aload 0, 52, []), (.iload 1, 53, []), (.iload 1, 54, []), (.iload 2, 55, []), (.iadd, 56, []), (.invokestatic 167, 57, [3, 0, 1, 4, 13]), (.ifCond .eq 0, 58, [1, 59]), (.goto 0, 59, [67]), (.aload 0, 60, []), (.iload 1, 61, []), (.putfield 26, 62, [12, 0]), (.aload 0, 63, []), (.iload 2, 64, []), (.putfield 27, 65, [12, 0]), (.iconst (1), 66, []), (.ireturn, 67, [3]), (.iinc 2 (1), 68, []), (.goto 0, 69, [46]), (.iinc 1 (1), 70, []), (.goto 0, 71, [41]), (.iconst (0), 72, []), (.ireturn, 73, [3])]
def k_M_settles : mCode := [(.aload 0, 1, []), (.invokestatic 168, 2, [1, 0, 1, 3, 13]), (.ifCond .eq 0, 3, [0, 8]), (.aload 0, 4, []), (.aload 0, 5, []), (.getfield 26, 6, [12, 0]), (.invokestatic 83, 7, [2, 0, 1, 2, 13]), (.goto 0, 8, [11]), (.aload 0, 9, []), (.iconst (6), 10, []), (.invokestatic 82, 11, [2, 0, 1, 2, 13]), (.ireturn, 12, [0])]
def k_M_period : mCode := [(.aload 0, 1, []), (.invokestatic 168, 2, [1, 0, 1, 3, 13]), (.ifCond .eq 0, 3, [0, 8]), (.aload 0, 4, []), (.aload 0, 5, []), (.getfield 27, 6, [12, 0]), (.invokestatic 83, 7, [2, 0, 1, 2, 13]), (.goto 0, 8, [11]), (.aload 0, 9, []), (.iconst (6), 10, []), (.invokestatic 82, 11, [2, 0, 1, 2, 13]), (.ireturn, 12, [0])]
def k_M_laysChain : mCode := [(.iconst (0), 1, []), (.istore 2, 2, []), (.aload 0, 3, []), (.iconst (0), 4, []), (.putfield 29, 5, [12, 0]), (.iload 1, 6, []), (.istore 3, 7, []), (.iload 3, 8, []), (.iconst (-1), 9, []), (.if_icmp .eq 0, 10, [0, 38]), (.aload 0, 11, []), (.iload 2, 12, []), (.iload 3, 13, []), (.invokestatic 112, 14, [3, 0, 1, 3, 13]), (.ifCond .eq 0, 15, [1, 38]), (.iload 2, 16, []), (.iconst (1), 17, []), (.iload 3, 18, []), (.ishl, 19, []), (.ior, 20, []), (.istore 2, 21, []), (.aload 0, 22, []), (.getfield 28, 23, [12, 2]), (.aload 0, 24, []), (.getfield 29, 25, [12, 0]), (.iload 3, 26, []), (.iastore, 27, []), (.aload 0, 28, []), (.dup, 29, []), (.getfield 29, 30, [12, 0]), (.iconst (1), 31, []), (.iadd, 32, []), (.putfield 29, 33, [12, 0]), (.aload 0, 34, []), (.iload 3, 35, []), (.invokestatic 130, 36, [2, 0, 1, 2, 13]), (.istore 3, 37, []), (.goto 0, 38, [7]), (.return_, 39, [])]
def k_M_chain : mCode := [(.aload 0, 1, []), (.iload 1, 2, []), (.invokestatic 126, 3, [2, 0, 1, 2, 13]), (.ifCond .eq 0, 4, [1, 8]), (.aload 0, 5, []), (.iconst (1), 6, []), (.invokestatic 82, 7, [2, 0, 1, 2, 13]), (.ireturn, 8, [0]), (.aload 0, 9, []), (.iload 1, 10, []), (.invokestatic 171, 11, [2, 0, 0, 4, 13]), (.aload 0, 12, []), (.aload 0, 13, []), (.getfield 29, 14, [12, 0]), (.invokestatic 83, 15, [2, 0, 1, 2, 13]), (.ireturn, 16, [0])]
def k_M_chainAt : mCode := [(.aload 0, 1, []), (.iload 1, 2, []), (.invokestatic 126, 3, [2, 0, 1, 2, 13]), (.ifCond .eq 0, 4, [0, 6]), (.iload 2, 5, []), (.ifCond .eq 0, 6, [3, 10]), (.aload 0, 7, []), (.iconst (1), 8, []), (.invokestatic 82, 9, [2, 0, 1, 2, 13]), (.ireturn, 10, [0]), (.aload 0, 11, []), (.iload 1, 12, []), (.invokestatic 171, 13, [2, 0, 0, 4, 13]), (.iload 2, 14, []), (.aload 0, 15, []), (.getfield 29, 16, [12, 0]), (.if_icmp .eq 0, 17, [2, 21]), (.aload 0, 18, []), (.iconst (6), 19, []), (.invokestatic 82, 20, [2, 0, 1, 2, 13]), (.goto 0, 21, [27]), (.aload 0, 22, []), (.aload 0, 23, []), (.getfield 28, 24, [12, 2]), (.iload 2, 25, []), (.iaload, 26, []), (.invokestatic 83, 27, [2, 0, 1, 2, 13]), (.ireturn, 28, [0])]
def k_M_ringOf : mCode := [(.aload 0, 1, []), (.iload 1, 2, []), (.invokestatic 171, 3, [2, 0, 0, 4, 13]), (.aload 0, 4, []), (.aload 0, 5, []), (.getfield 28, 6, [12, 2]), (.aload 0, 7, []), (.getfield 29, 8, [12, 0]), (.iconst (1), 9, []), (.isub, 10, []), (.iaload, 11, []), (.invokestatic 130, 12, [2, 0, 1, 2, 13]), (.iload 1, 13, []), (.if_icmp .eq 0, 14, [0, 16]), (.iconst (0), 15, []), (.ireturn, 16, [0]), (.iconst (0), 17, []), (.istore 2, 18, []), (.iconst (0), 19, []), (.istore 3, 20, []), (.iload 3, 21, []), (.aload 0, 22, []), (.getfield 29, 23, [12, 0]), (.if_icmp .eq 0, 24, [3, 35]), (.iload 2, 25, []), (.iconst (1), 26, []), (.aload 0, 27, []), (.getfield 28, 28, [12, 2]), (.iload 3, 29, []), (.iaload, 30, []), (.ishl, 31, []), (.ior, 32, []), (.istore 2, 33, []), (.iinc 3 (1), 34, []), (.goto 0, 35, [20]), (.iload 2, 36, []), (.ireturn, 37, [0])]
def k_M_rings : mCode := [(.iconst (0), 1, []), (.istore 1, 2, []), (.iconst (0), 3, []), (.istore 2, 4, []), (.iload 2, 5, []), (.aload 0, 6, []), (.getfield 0, 7, [12, 2]), (.iconst (0), 8, []), (.iaload, 9, []), (.if_icmp .eq 0, 10, [3, 38]), (.aload 0, 11, []), (.iload 2, 12, []), (.invokestatic 174, 13, [2, 0, 1, 4, 13]), (.istore 3, 14, []), (.iload 3, 15, []), (.ifCond .eq 0, 16, [0, 26]), (.iload 3, 17, []), (.iconst (1), 18, []), (.iload 2, 19, []), (.ishl, 20, []), (.iconst (1), 21, []), (.isub, 22, []), (.iand, 23, []), (.ifCond .eq 0, 24, [1, 26]), (.iconst (1), 25, []), (.goto 0, 26, [27]), (.iconst (0), 27, []), (.istore 4, 28, []), (.iload 1, 29, []), (.iload 4, 30, []), (.ifCond .eq 0, 31, [0, 33]), (.iconst (1), 32, []), (.goto 0, 33, [34]), (.iconst (0), 34, []), (.iadd, 35, []), (.istore 1, 36, []), (.iinc 2 (1), 37, []), (.goto 0, 38, [4]), (.aload 0, 39, []), (.iload 1, 40, []), (.invokestatic 83, 41, [2, 0, 1, 2, 13]), (.ireturn, 42, [0])]
def k_M_inRings : mCode := [(.iconst (0), 1, []), (.istore 1, 2, []), (.iconst (0), 3, []), (.istore 2, 4, []), (.iload 2, 5, []), (.aload 0, 6, []), (.getfield 0, 7, [12, 2]), (.iconst (0), 8, []), (.iaload, 9, []), (.if_icmp .eq 0, 10, [3, 18]), (.iload 1, 11, []), (.aload 0, 12, []), (.iload 2, 13, []), (.invokestatic 174, 14, [2, 0, 1, 4, 13]), (.ior, 15, []), (.istore 1, 16, []), (.iinc 2 (1), 17, []), (.goto 0, 18, [4]), (.aload 0, 19, []), (.iload 1, 20, []), (.invokestatic 83, 21, [2, 0, 1, 2, 13]), (.ireturn, 22, [0])]
def k_M_needsOf : mCode := [(.aload 0, 1, []), (.iload 1, 2, []), (.iconst (2), 3, []), (.invokestatic 129, 4, [3, 0, 1, 3, 13]), (.istore 2, 5, []), (.iconst (0), 6, []), (.istore 3, 7, []), (.iconst (180), 8, []), (.istore 4, 9, []), (.iload 4, 10, []), (.ifCond .eq 0, 11, [5, 55]), (.iconst (0), 12, []), (.istore 5, 13, []), (.iload 5, 14, []), (.aload 0, 15, []), (.getfield 0, 16, [12, 2]), (.iconst (0), 17, []), (.iaload, 18, []), (.if_icmp .eq 0, 19, [3, 53]), (.aload 0, 20, []), (.iload 5, 21, []), (.invokestatic 130, 22, [2, 0, 1, 2, 13]), (.iload 1, 23, []), (.if_icmp .eq 0, 24, [1, 51]), (.aload 0, 25, []), (.iload 5, 26, []), (.invokestatic 133, 27, [2, 0, 1, 2, 13]), (.iload 4, 28, []), (.if_icmp .eq 0, 29, [0, 30]), (.goto 0, 30, [51]), (.iconst (0), 31, []), (.istore 6, 32, []), (.iload 6, 33, []), (.aload 0, 34, []), (.iload 5, 35, []), (.iconst (3), 36, []), (.invokestatic 129, 37, [3, 0, 1, 3, 13]), (.if_icmp .eq 0, 38, [3, 51]), (.iload 2, 39, []), (.aload 0, 40, []), (.getfield 0, 41, [12, 2]), (.iconst (3), 42, []), (.iaload, 43, []), (.if_icmp .eq 0, 44, [3, 51]), (.iload 2, 45, []), (.iload 4, 46, []), (.iadd, 47, []), (.istore 2, 48, []), (.iinc 3 (1), 49, []), (.iinc 6 (1), 50, []), (.goto 0, 51, [32]), (.iinc 5 (1), 52, []), (.goto 0, 53, [13]), (.iinc 4 (-1), 54, []), (.goto 0, 55, [9]), (.iload 2, 56, []), (.aload 0, 57, []), (.getfield 0, 58, [12, 2]), (.iconst (3), 59, []), (.iaload, 60, []), (.if_icmp .eq 0, 61, [3, 63]), (.iconst (1000000), 62, []), (.goto 0, 63, [64]), (.iload 3, 64, []), (.ireturn, 65, [0])]
def k_M_needs : mCode := [(.aload 0, 1, []), (.iload 1, 2, []), (.invokestatic 126, 3, [2, 0, 1, 2, 13]), (.ifCond .eq 0, 4, [1, 8]), (.aload 0, 5, []), (.iconst (1), 6, []), (.invokestatic 82, 7, [2, 0, 1, 2, 13]), (.ireturn, 8, [0]), (.aload 0, 9, []), (.iload 1, 10, []), (.invokestatic 177, 11, [2, 0, 1, 7, 13]), (.istore 2, 12, []), (.iload 2, 13, []), (.iconst (1000000), 14, []), (.if_icmp .eq 0, 15, [2, 19]), (.aload 0, 16, []), (.iconst (6), 17, []), (.invokestatic 82, 18, [2, 0, 1, 2, 13]), (.goto 0, 19, [22]), (.aload 0, 20, []), (.iload 2, 21, []), (.invokestatic 83, 22, [2, 0, 1, 2, 13]), (.ireturn, 23, [0])]
def k_M_mostOfAll : mCode := [(.iconst (0), 1, []), (.istore 2, 2, []), (.iload 2, 3, []), (.aload 0, 4, []), (.getfield 0, 5, [12, 2]), (.iconst (0), 6, []), (.iaload, 7, []), (.if_icmp .eq 0, 8, [3, 17]), (.aload 0, 9, []), (.getfield 30, 10, [12, 2]), (.iload 2, 11, []), (.aload 0, 12, []), (.iload 2, 13, []), (.invokestatic 177, 14, [2, 0, 1, 7, 13]), (.iastore, 15, []), (.iinc 2 (1), 16, []), (.goto 0, 17, [2]), (.iconst (0), 18, []), (.istore 2, 19, []), (.iconst (1), 20, []), (.istore 3, 21, []), (.iload 3, 22, []), (.iconst (1), 23, []), (.aload 0, 24, []), (.getfield 0, 25, [12, 2]), (.iconst (0), 26, []), (.iaload, 27, []), (.ishl, 28, []), (.if_icmp .eq 0, 29, [3, 67]), (.iconst (0), 30, []), (.istore 4, 31, []), (.iconst (0), 32, []), (.istore 5, 33, []), (.iload 5, 34, []), (.aload 0, 35, []), (.getfield 0, 36, [12, 2]), (.iconst (0), 37, []), (.iaload, 38, []), (.if_icmp .eq 0, 39, [3, 55]), (.iload 4, 40, []), (.aload 0, 41, []), (.iload 3, 42, []), (.iload 5, 43, []), (.invokestatic 112, 44, [3, 0, 1, 3, 13]), (.ifCond .eq 0, 45, [0, 50]), (.aload 0, 46, []), (.getfield 30, 47, [12, 2]), (.iload 5, 48, []), (.iaload, 49, []), (.goto 0, 50, [51]), (.iconst (0), 51, []), (.iadd, 52, []), (.istore 4, 53, []), (.iinc 5 (1), 54, []), (.goto 0, 55, [33]), (.iload 4, 56, []), (.iload 1, 57, []), (.if_icmp .eq 0, 58, [4, 65]), (.iload 3, 59, []), (.invokestatic 128, 60, [1, 0, 1, 3, 0]), (.iload 2, 61, []), (.invokestatic 128, 62, [1, 0, 1, 3, 0]), (.if_icmp .eq 0, 63, [5, 65]), (.iload 3, 64, []), (.istore 2, 65, []), (.iinc 3 (1), 66, []), (.goto 0, 67, [21]), (.iload 2, 68, []), (.ireturn, 69, [0])]
def k_M_most : mCode := [(.iload 1, 1, []), (.i2l, 2, []), (.sipush (0), 3, []), (.sipush (20), 4, []), (.invokestatic 92, 5, [3, 0, 1, 6, 0]), (.ifCond .eq 0, 6, [1, 10]), (.aload 0, 7, []), (.iconst (1), 8, []), (.invokestatic 82, 9, [2, 0, 1, 2, 13]), (.ireturn, 10, [0]), (.aload 0, 11, []), (.aload 0, 12, []), (.iload 1, 13, []), (.invokestatic 179, 14, [2, 0, 1, 6, 13]), (.invokestatic 128, 15, [1, 0, 1, 3, 0]), (.invokestatic 83, 16, [2, 0, 1, 2, 13]), (.ireturn, 17, [0])]
def k_M_mostSet : mCode := [(.iload 1, 1, []), (.i2l, 2, []), (.sipush (0), 3, []), (.sipush (20), 4, []), (.invokestatic 92, 5, [3, 0, 1, 6, 0]), (.ifCond .eq 0, 6, [1, 10]), (.aload 0, 7, []), (.iconst (1), 8, []), (.invokestatic 82, 9, [2, 0, 1, 2, 13]), (.ireturn, 10, [0]), (.aload 0, 11, []), (.aload 0, 12, []), (.iload 1, 13, []), (.invokestatic 179, 14, [2, 0, 1, 6, 13]), (.invokestatic 83, 15, [2, 0, 1, 2, 13]), (.ireturn, 16, [0])]
def k_M_litBehind : mCode := [(.aload 0, 1, []), (.iconst (2070), 2, []), (.invokestatic 159, 3, [2, 0, 0, 3, 13]), (.aload 0, 4, []), (.iload 1, 5, []), (.invokestatic 149, 6, [2, 0, 1, 4, 13]), (.pop, 7, []), (.aload 0, 8, []), (.invokestatic 135, 9, [1, 0, 1, 3, 13]), (.istore 2, 10, []), (.aload 0, 11, []), (.iconst (2070), 12, []), (.invokestatic 160, 13, [2, 0, 0, 3, 13]), (.iload 2, 14, []), (.ireturn, 15, [0])]
def k_M_misses : mCode := [(.aload 0, 1, []), (.iload 1, 2, []), (.invokestatic 126, 3, [2, 0, 1, 2, 13]), (.ifCond .eq 0, 4, [1, 8]), (.aload 0, 5, []), (.iconst (1), 6, []), (.invokestatic 82, 7, [2, 0, 1, 2, 13]), (.ireturn, 8, [0]), (.aload 0, 9, []), (.aload 0, 10, []), (.iconst (-1), 11, []), (.invokestatic 182, 12, [2, 0, 1, 3, 13]), (.aload 0, 13, []), (.iload 1, 14, []), (.invokestatic 182, 15, [2, 0, 1, 3, 13]), (.iconst (-1), 16, []), (.ixor, 17, []), (.iand, 18, []), (.invokestatic 83, 19, [2, 0, 1, 2, 13]), (.ireturn, 20, [0])]
def k_M_wrongSeen : mCode := [(.iload 1, 1, []), (.invokestatic 85, 2, [1, 0, 1, 1, 0]), (.ifCond .eq 0, 3, [0, 9]), (.iload 2, 4, []), (.i2l, 5, []), (.sipush (0), 6, []), (.sipush (10), 7, []), (.invokestatic 92, 8, [3, 0, 1, 6, 0]), (.ifCond .eq 0, 9, [1, 11]), (.iconst (1), 10, []), (.ireturn, 11, [0]), (.aload 0, 12, []), (.getfield 6, 13, [12, 2]), (.iload 1, 14, []), (.iaload, 15, []), (.iconst (-1), 16, []), (.if_icmp .eq 0, 17, [1, 19]), (.iconst (2), 18, []), (.ireturn, 19, [0]), (.aload 0, 20, []), (.getfield 6, 21, [12, 2]), (.iload 1, 22, []), (.iaload, 23, []), (.iconst (2), 24, []), (.iload 2, 25, []), (.imul, 26, []), (.if_icmp .eq 0, 27, [3, 29]), (.iconst (3), 28, []), (.ireturn, 29, [0]), (.iconst (0), 30, []), (.istore 3, 31, []), (.iload 3, 32, []), (.iconst (2), 33, []), (.iload 2, 34, []), (.imul, 35, []), (.if_icmp .eq 0, 36, [3, 59]), (.aload 0, 37, []), (.getfield 7, 38, [12, 2]), (.iconst (60), 39, []), (.iload 1, 40, []), (.imul, 41, []), (.iload 3, 42, []), (.iadd, 43, []), (.laload, 44, []), (.sipush (0), 45, []), (.sipush (1), 46, []), (.aload 0, 47, []), (.getfield 0, 48, [12, 2]), (.iconst (0), 49, []), (.iaload, 50, []), (.lshl, 51, []), (.sipush (1), 52, []), (.lsub, 53, []), (.invokestatic 92, 54, [3, 0, 1, 6, 0]), (.ifCond .eq 0, 55, [1, 57]), (.iconst (5), 56, []), (.ireturn, 57, [0]), (.iinc 3 (1), 58, []), (.goto 0, 59, [31]), (.iconst (0), 60, []), (.ireturn, 61, [0])]
def k_M_isWay : mCode := [(.iconst (0), 1, []), (.istore 3, 2, []), (.iload 3, 3, []), (.iload 2, 4, []), (.if_icmp .eq 0, 5, [3, 65]), (.aload 0, 6, []), (.getfield 7, 7, [12, 2]), (.iconst (60), 8, []), (.iload 1, 9, []), (.imul, 10, []), (.iconst (2), 11, []), (.iload 3, 12, []), (.imul, 13, []), (.iadd, 14, []), (.laload, 15, []), (.l2i, 16, []), (.istore 4, 17, []), (.iconst (0), 18, []), (.istore 5, 19, []), (.iconst (0), 20, []), (.istore 6, 21, []), (.iload 6, 22, []), (.aload 0, 23, []), (.getfield 0, 24, [12, 2]), (.iconst (0), 25, []), (.iaload, 26, []), (.if_icmp .eq 0, 27, [3, 45]), (.iload 5, 28, []), (.aload 0, 29, []), (.iload 4, 30, []), (.iload 6, 31, []), (.invokestatic 112, 32, [3, 0, 1, 3, 13]), (.ifCond .eq 0, 33, [0, 40]), (.iconst (1), 34, []), (.aload 0, 35, []), (.getfield 31, 36, [12, 2]), (.iload 6, 37, []), (.iaload, 38, []), (.ishl, 39, []), (.goto 0, 40, [41]), (.iconst (0), 41, []), (.ior, 42, []), (.istore 5, 43, []), (.iinc 6 (1), 44, []), (.goto 0, 45, [21]), (.iload 5, 46, []), (.i2l, 47, []), (.aload 0, 48, []), (.getfield 7, 49, [12, 2]), (.iconst (60), 50, []), (.iload 1, 51, []), (.imul, 52, []), (.iconst (2), 53, []), (.iload 3, 54, []), (.imul, 55, []), (.iadd, 56, []), (.iconst (1), 57, []), (.iadd, 58, []), (.laload, 59, []), (.lcmp, 61, [0, 63]), (.ifCond .eq 0, 61, [0, 63]), (.iconst (0), 62, []), (.ireturn, 63, [3]), (.iinc 3 (1), 64, []), (.goto 0, 65, [2]), (.iconst (1), 66, []), (.ireturn, 67, [3])]
def k_M_counts : mCode := [(.iconst (0), 1, []), (.istore 1, 2, []), (.iload 1, 3, []), (.aload 0, 4, []), (.getfield 0, 5, [12, 2]), (.iconst (0), 6, []), (.iaload, 7, []), (.if_icmp .eq 0, 8, [3, 36]), (.aload 0, 9, []), (.getfield 34, 10, [12, 0]), (.ifCond .eq 0, 11, [1, 19]), (.aload 0, 12, []), (.getfield 32, 13, [12, 2]), (.iload 1, 14, []), (.aload 0, 15, []), (.getfield 31, 16, [12, 2]), (.iload 1, 17, []), (.iaload, 18, []), (.iastore, 19, []), (.aload 0, 20, []), (.getfield 33, 21, [12, 2]), (.iconst (7), 22, []), (.iload 1, 23, []), (.imul, 24, []), (.aload 0, 25, []), (.getfield 31, 26, [12, 2]), (.iload 1, 27, []), (.iaload, 28, []), (.iadd, 29, []), (.dup2, 30, []), (.iaload, 31, []), (.iconst (1), 32, []), (.iadd, 33, []), (.iastore, 34, []), (.iinc 1 (1), 35, []), (.goto 0, 36, [2]), (.aload 0, 37, []), (.dup, 38, []), (.getfield 34, 39, [12, 0]), (.iconst (1), 40, []), (.iadd, 41, []), (.putfield 34, 42, [12, 0]), (.return_, 43, [])]
def k_M_mayHave : mCode := [(.iload 1, 1, []), (.iload 2, 2, []), (.if_icmp .eq 0, 3, [0, 5]), (.iconst (1), 4, []), (.goto 0, 5, [6]), (.iconst (0), 6, []), (.istore 3, 7, []), (.iconst (0), 8, []), (.istore 4, 9, []), (.iload 4, 10, []), (.iload 1, 11, []), (.if_icmp .eq 0, 12, [3, 26]), (.iload 3, 13, []), (.ifCond .eq 0, 14, [0, 22]), (.aload 0, 15, []), (.getfield 31, 16, [12, 2]), (.iload 4, 17, []), (.iaload, 18, []), (.iload 2, 19, []), (.if_icmp .eq 0, 20, [0, 22]), (.iconst (1), 21, []), (.goto 0, 22, [23]), (.iconst (0), 23, []), (.istore 3, 24, []), (.iinc 4 (1), 25, []), (.goto 0, 26, [9]), (.iload 3, 27, []), (.ireturn, 28, [3])]
def k_M_laysWays : mCode := [(.aload 0, 1, []), (.getfield 0, 2, [12, 2]), (.iconst (0), 3, []), (.iaload, 4, []), (.istore 3, 5, []), (.aload 0, 6, []), (.iconst (0), 7, []), (.putfield 34, 8, [12, 0]), (.iconst (0), 9, []), (.istore 4, 10, []), (.iload 4, 11, []), (.iconst (49), 12, []), (.if_icmp .eq 0, 13, [3, 20]), (.aload 0, 14, []), (.getfield 33, 15, [12, 2]), (.iload 4, 16, []), (.iconst (0), 17, []), (.iastore, 18, []), (.iinc 4 (1), 19, []), (.goto 0, 20, [10]), (.iload 3, 21, []), (.ifCond .eq 0, 22, [1, 33]), (.aload 0, 23, []), (.aload 0, 24, []), (.iload 1, 25, []), (.iload 2, 26, []), (.invokestatic 185, 27, [3, 0, 1, 7, 13]), (.ifCond .eq 0, 28, [0, 30]), (.iconst (1), 29, []), (.goto 0, 30, [31]), (.iconst (0), 31, []), (.putfield 34, 32, [12, 0]), (.return_, 33, []), (.iconst (0), 34, []), (.istore 4, 35, []), (.aload 0, 36, []), (.getfield 31, 37, [12, 2]), (.iconst (0), 38, []), (.iconst (-1), 39, []), (.iastore, 40, []), (.iload 4, 41, []), (.ifCond .eq 0, 42, [2, 87]), (.aload 0, 43, []), (.getfield 31, 44, [12, 2]), (.iload 4, 45, []), (.dup2, 46, []), (.iaload, 47, []), (.iconst (1), 48, []), (.iadd, 49, []), (.iastore, 50, []), (.aload 0, 51, []), (.getfield 31, 52, [12, 2]), (.iload 4, 53, []), (.iaload, 54, []), (.iload 3, 55, []), (.if_icmp .eq 0, 56, [1, 58]), (.iinc 4 (-1), 57, []), (.goto 0, 58, [40]), (.aload 0, 59, []), (.iload 4, 60, []), (.aload 0, 61, []), (.getfield 31, 62, [12, 2]), (.iload 4, 63, []), (.iaload, 64, []), (.invokestatic 187, 65, [3, 0, 1, 5, 13]), (.ifCond .eq 0, 66, [1, 67]), (.goto 0, 67, [40]), (.iload 4, 68, []), (.iconst (1), 69, []), (.iadd, 70, []), (.iload 3, 71, []), (.if_icmp .eq 0, 72, [1, 80]), (.aload 0, 73, []), (.iload 1, 74, []), (.iload 2, 75, []), (.invokestatic 185, 76, [3, 0, 1, 7, 13]), (.ifCond .eq 0, 77, [0, 40]), (.aload 0, 78, []), (.invokestatic 186, 79, [1, 0, 0, 2, 13]), (.goto 0, 80, [40]), (.iinc 4 (1), 81, []), (.aload 0, 82, []), (.getfield 31, 83, [12, 2]), (.iload 4, 84, []), (.iconst (-1), 85, []), (.iastore, 86, []), (.goto 0, 87, [40]), (.return_, 88, [])]
def k_M_fits : mCode := [(.aload 0, 1, []), (.iload 1, 2, []), (.iload 2, 3, []), (.invokestatic 184, 4, [3, 0, 1, 4, 13]), (.istore 3, 5, []), (.iload 3, 6, []), (.ifCond .eq 0, 7, [5, 11]), (.aload 0, 8, []), (.iload 3, 9, []), (.invokestatic 82, 10, [2, 0, 1, 2, 13]), (.ireturn, 11, [0]), (.aload 0, 12, []), (.iload 1, 13, []), (.iload 2, 14, []), (.invokestatic 188, 15, [3, 0, 0, 5, 13]), (.aload 0, 16, []), (.aload 0, 17, []), (.getfield 34, 18, [12, 0]), (.invokestatic 83, 19, [2, 0, 1, 2, 13]), (.ireturn, 20, [0])]
def k_M_firstOf : mCode := [(.aload 0, 1, []), (.iload 3, 2, []), (.invokestatic 126, 3, [2, 0, 1, 2, 13]), (.ifCond .eq 0, 4, [0, 9]), (.aload 0, 5, []), (.iload 1, 6, []), (.iload 2, 7, []), (.invokestatic 184, 8, [3, 0, 1, 4, 13]), (.goto 0, 9, [10]), (.iconst (1), 10, []), (.istore 4, 11, []), (.iload 4, 12, []), (.ifCond .eq 0, 13, [5, 17]), (.aload 0, 14, []), (.iload 4, 15, []), (.invokestatic 82, 16, [2, 0, 1, 2, 13]), (.ireturn, 17, [0]), (.aload 0, 18, []), (.iload 1, 19, []), (.iload 2, 20, []), (.invokestatic 188, 21, [3, 0, 0, 5, 13]), (.aload 0, 22, []), (.getfield 34, 23, [12, 0]), (.ifCond .eq 0, 24, [1, 28]), (.aload 0, 25, []), (.iconst (6), 26, []), (.invokestatic 82, 27, [2, 0, 1, 2, 13]), (.goto 0, 28, [34]), (.aload 0, 29, []), (.aload 0, 30, []), (.getfield 32, 31, [12, 2]), (.iload 3, 32, []), (.iaload, 33, []), (.invokestatic 83, 34, [2, 0, 1, 2, 13]), (.ireturn, 35, [0])]
def k_M_oddsThat : mCode := [(.aload 0, 1, []), (.iload 3, 2, []), (.iload 4, 3, []), (.invokestatic 127, 4, [3, 0, 1, 3, 13]), (.ifCond .eq 0, 5, [0, 10]), (.aload 0, 6, []), (.iload 1, 7, []), (.iload 2, 8, []), (.invokestatic 184, 9, [3, 0, 1, 4, 13]), (.goto 0, 10, [11]), (.iconst (1), 11, []), (.istore 5, 12, []), (.iload 5, 13, []), (.ifCond .eq 0, 14, [5, 18]), (.aload 0, 15, []), (.iload 5, 16, []), (.invokestatic 81, 17, [2, 0, 1, 2, 13]), (.ireturn, 18, [3]), (.aload 0, 19, []), (.iload 1, 20, []), (.iload 2, 21, []), (.invokestatic 188, 22, [3, 0, 0, 5, 13]), (.aload 0, 23, []), (.getfield 34, 24, [12, 0]), (.ifCond .eq 0, 25, [1, 29]), (.aload 0, 26, []), (.iconst (6), 27, []), (.invokestatic 81, 28, [2, 0, 1, 2, 13]), (.goto 0, 29, [43]), (.aload 0, 30, []), (.aload 0, 31, []), (.getfield 33, 32, [12, 2]), (.iconst (7), 33, []), (.iload 3, 34, []), (.imul, 35, []), (.iload 4, 36, []), (.iadd, 37, []), (.iaload, 38, []), (.i2l, 39, []), (.aload 0, 40, []), (.getfield 34, 41, [12, 0]), (.i2l, 42, []), (.invokestatic 84, 43, [3, 0, 1, 11, 13]), (.ireturn, 44, [3])]
def k_M_mostAlike : mCode := [(.iconst (0), 1, []), (.istore 2, 2, []), (.iconst (0), 3, []), (.istore 3, 4, []), (.iload 3, 5, []), (.aload 0, 6, []), (.getfield 0, 7, [12, 2]), (.iconst (0), 8, []), (.iaload, 9, []), (.if_icmp .eq 0, 10, [3, 23]), (.iload 2, 11, []), (.aload 0, 12, []), (.getfield 33, 13, [12, 2]), (.iconst (7), 14, []), (.iload 1, 15, []), (.imul, 16, []), (.iload 3, 17, []), (.iadd, 18, []), (.iaload, 19, []), (.dadd, 20, []), (.istore 2, 21, []), (.iinc 3 (1), 22, []), (.goto 0, 23, [4]), (.iload 2, 24, []), (.ireturn, 25, [0])]
def k_M_ask : mCode := [(.aload 0, 1, []), (.iload 1, 2, []), (.iload 2, 3, []), (.invokestatic 184, 4, [3, 0, 1, 4, 13]), (.istore 3, 5, []), (.iload 3, 6, []), (.ifCond .eq 0, 7, [5, 11]), (.aload 0, 8, []), (.iload 3, 9, []), (.invokestatic 82, 10, [2, 0, 1, 2, 13]), (.ireturn, 11, [0]), (.aload 0, 12, []), (.iload 1, 13, []), (.iload 2, 14, []), (.invokestatic 188, 15, [3, 0, 0, 5, 13]), (.aload 0, 16, []), (.getfield 34, 17, [12, 0]), (.iconst (2), 18, []), (.if_icmp .eq 0, 19, [3, 23]), (.aload 0, 20, []), (.iconst (6), 21, []), (.invokestatic 82, 22, [2, 0, 1, 2, 13]), (.ireturn, 23, [0]), (.iconst (0), 24, []), (.istore 4, 25, []), (.iconst (1), 26, []), (.istore 5, 27, []), (.iload 5, 28, []), (.aload 0, 29, []), (.getfield 0, 30, [12, 2]), (.iconst (0), 31, []), (.iaload, 32, []), (.if_icmp .eq 0, 33, [3, 44]), (.aload 0, 34, []), (.iload 5, 35, []), (.invokestatic 192, 36, [2, 0, 1, 4, 13]), (.aload 0, 37, []), (.iload 4, 38, []), (.invokestatic 192, 39, [2, 0, 1, 4, 13]), (.if_icmp .eq 0, 40, [3, 42]), (.iload 5, 41, []), (.istore 4, 42, []), (.iinc 5 (1), 43, []), (.goto 0, 44, [27]), (.aload 0, 45, []), (.iload 4, 46, []), (.invokestatic 83, 47, [2, 0, 1, 2, 13]), (.ireturn, 48, [0])]
def k_M_wrongLaw : mCode := [(.iload 1, 1, []), (.invokestatic 85, 2, [1, 0, 1, 1, 0]), (.ifCond .eq 0, 3, [0, 9]), (.iload 2, 4, []), (.i2l, 5, []), (.sipush (0), 6, []), (.sipush (15), 7, []), (.invokestatic 92, 8, [3, 0, 1, 6, 0]), (.ifCond .eq 0, 9, [1, 11]), (.iconst (1), 10, []), (.ireturn, 11, [0]), (.aload 0, 12, []), (.getfield 6, 13, [12, 2]), (.iload 1, 14, []), (.iaload, 15, []), (.iconst (-1), 16, []), (.if_icmp .eq 0, 17, [1, 19]), (.iconst (2), 18, []), (.ireturn, 19, [0]), (.aload 0, 20, []), (.getfield 6, 21, [12, 2]), (.iload 1, 22, []), (.iaload, 23, []), (.iconst (3), 24, []), (.iload 2, 25, []), (.imul, 26, []), (.if_icmp .eq 0, 27, [3, 29]), (.iconst (3), 28, []), (.ireturn, 29, [0]), (.iconst (0), 30, []), (.istore 3, 31, []), (.iload 3, 32, []), (.iload 2, 33, []), (.if_icmp .eq 0, 34, [3, 74]), (.iconst (60), 35, []), (.iload 1, 36, []), (.imul, 37, []), (.iconst (3), 38, []), (.iload 3, 39, []), (.imul, 40, []), (.iadd, 41, []), (.istore 4, 42, []), (.aload 0, 43, []), (.getfield 7, 44, [12, 2]), (.iload 4, 45, []), (.laload, 46, []), (.sipush (0), 47, []), (.sipush (9), 48, []), (.invokestatic 92, 49, [3, 0, 1, 6, 0]), (.ifCond .eq 0, 50, [0, 70]), (.aload 0, 51, []), (.getfield 7, 52, [12, 2]), (.iload 4, 53, []), (.iconst (1), 54, []), (.iadd, 55, []), (.laload, 56, []), (.sipush (0), 57, []), (.sipush (59), 58, []), (.invokestatic 92, 59, [3, 0, 1, 6, 0]), (.ifCond .eq 0, 60, [0, 70]), (.aload 0, 61, []), (.getfield 7, 62, [12, 2]), (.iload 4, 63, []), (.iconst (2), 64, []), (.iadd, 65, []), (.laload, 66, []), (.sipush (0), 67, []), (.sipush (200), 68, []), (.invokestatic 92, 69, [3, 0, 1, 6, 0]), (.ifCond .eq 0, 70, [1, 72]), (.iconst (5), 71, []), (.ireturn, 72, [0]), (.iinc 3 (1), 73, []), (.goto 0, 74, [31]), (.iconst (0), 75, []), (.ireturn, 76, [0])]
def k_M_isLaw : mCode := [(.iconst (0), 1, []), (.istore 4, 2, []), (.iload 4, 3, []), (.iload 3, 4, []), (.if_icmp .eq 0, 5, [3, 45]), (.iconst (60), 6, []), (.iload 2, 7, []), (.imul, 8, []), (.iconst (3), 9, []), (.iload 4, 10, []), (.imul, 11, []), (.iadd, 12, []), (.istore 5, 13, []), (.iload 1, 14, []), (.iconst (10), 15, []), (.idiv, 16, []), (.aload 0, 17, []), (.getfield 7, 18, [12, 2]), (.iload 5, 19, []), (.laload, 20, []), (.l2i, 21, []), (.aload 0, 22, []), (.getfield 7, 23, [12, 2]), (.iload 5, 24, []), (.iconst (1), 25, []), (.iadd, 26, []), (.laload, 27, []), (.l2i, 28, []), (.iload 1, 29, []), (.iconst (10), 30, []), (.irem, 31, []), (.invokestatic 132, 32, [4, 0, 1, 4, 0]), (.i2l, 33, []), (.aload 0, 34, []), (.getfield 7, 35, [12, 2]), (.iload 5, 36, []), (.iconst (2), 37, []), (.iadd, 38, []), (.laload, 39, []), (.lcmp, 41, [0, 43]), (.ifCond .eq 0, 41, [0, 43]), (.iconst (0), 42, []), (.ireturn, 43, [3]), (.iinc 4 (1), 44, []), (.goto 0, 45, [2]), (.iload 1, 46, []), (.iconst (10), 47, []), (.irem, 48, []), (.ifCond .eq 0, 49, [5, 51]), (.iconst (1), 50, []), (.goto 0, 51, [52]), (.iconst (0), 52, []), (.ireturn, 53, [3])]
def k_M_laws : mCode := [(.aload 0, 1, []), (.iload 1, 2, []), (.iload 2, 3, []), (.invokestatic 194, 4, [3, 0, 1, 5, 13]), (.istore 3, 5, []), (.iload 3, 6, []), (.ifCond .eq 0, 7, [5, 11]), (.aload 0, 8, []), (.iload 3, 9, []), (.invokestatic 82, 10, [2, 0, 1, 2, 13]), (.ireturn, 11, [0]), (.iconst (0), 12, []), (.istore 4, 13, []), (.iconst (11), 14, []), (.istore 5, 15, []), (.iload 5, 16, []), (.iconst (210), 17, []), (.if_icmp .eq 0, 18, [3, 36]), (.iload 4, 19, []), (.iload 5, 20, []), (.iconst (10), 21, []), (.irem, 22, []), (.ifCond .eq 0, 23, [5, 31]), (.aload 0, 24, []), (.iload 5, 25, []), (.iload 1, 26, []), (.iload 2, 27, []), (.invokestatic 195, 28, [4, 0, 1, 6, 13]), (.ifCond .eq 0, 29, [0, 31]), (.iconst (1), 30, []), (.goto 0, 31, [32]), (.iconst (0), 32, []), (.iadd, 33, []), (.istore 4, 34, []), (.iinc 5 (1), 35, []), (.goto 0, 36, [15]), (.aload 0, 37, []), (.iload 4, 38, []), (.invokestatic 83, 39, [2, 0, 1, 2, 13]), (.ireturn, 40, [0])]
def k_M_lawOf : mCode := [(.iload 3, 1, []), (.ifCond .eq 0, 2, [2, 5]), (.iload 3, 3, []), (.iconst (1), 4, []), (.if_icmp .eq 0, 5, [5, 7]), (.iconst (1), 6, []), (.goto 0, 7, [11]), (.aload 0, 8, []), (.iload 1, 9, []), (.iload 2, 10, []), (.invokestatic 194, 11, [3, 0, 1, 5, 13]), (.istore 4, 12, []), (.iload 4, 13, []), (.ifCond .eq 0, 14, [5, 18]), (.aload 0, 15, []), (.iload 4, 16, []), (.invokestatic 82, 17, [2, 0, 1, 2, 13]), (.ireturn, 18, [0]), (.iconst (11), 19, []), (.istore 5, 20, []), (.iload 5, 21, []), (.iconst (210), 22, []), (.if_icmp .eq 0, 23, [3, 47]), (.iload 5, 24, []), (.iconst (10), 25, []), (.irem, 26, []), (.ifCond .eq 0, 27, [5, 45]), (.aload 0, 28, []), (.iload 5, 29, []), (.iload 1, 30, []), (.iload 2, 31, []), (.invokestatic 195, 32, [4, 0, 1, 6, 13]), (.ifCond .eq 0, 33, [0, 45]), (.aload 0, 34, []), (.iload 3, 35, []), (.ifCond .eq 0, 36, [1, 40]), (.iload 5, 37, []), (.iconst (10), 38, []), (.idiv, 39, []), (.goto 0, 40, [43]), (.iload 5, 41, []), (.iconst (10), 42, []), (.irem, 43, []), (.invokestatic 83, 44, [2, 0, 1, 2, 13]), (.ireturn, 45, [0]), (.iinc 5 (1), 46, []), (.goto 0, 47, [20]), (.aload 0, 48, []), (.iconst (6), 49, []), (.invokestatic 82, 50, [2, 0, 1, 2, 13]), (.ireturn, 51, [0])]
def k_M_atLeast : mCode := [(.iconst (0), 1, []), (.istore 4, 2, []), (.iload 4, 3, []), (.iconst (13), 4, []), (.if_icmp .eq 0, 5, [3, 16]), (.aload 0, 6, []), (.getfield 35, 7, [12, 2]), (.iload 4, 8, []), (.iload 4, 9, []), (.ifCond .eq 0, 10, [1, 12]), (.sipush (1), 11, []), (.goto 0, 12, [13]), (.sipush (0), 13, []), (.lastore, 14, []), (.iinc 4 (1), 15, []), (.goto 0, 16, [2]), (.iconst (0), 17, []), (.istore 4, 18, []), (.iload 4, 19, []), (.iload 1, 20, []), (.if_icmp .eq 0, 21, [3, 56]), (.iconst (12), 22, []), (.istore 5, 23, []), (.iload 5, 24, []), (.ifCond .eq 0, 25, [2, 54]), (.aload 0, 26, []), (.getfield 35, 27, [12, 2]), (.iload 5, 28, []), (.aload 0, 29, []), (.getfield 35, 30, [12, 2]), (.iload 5, 31, []), (.laload, 32, []), (.iconst (16), 33, []), (.iload 3, 34, []), (.isub, 35, []), (.i2l, 36, []), (.lmul, 37, []), (.iload 5, 38, []), (.ifCond .eq 0, 39, [1, 41]), (.sipush (0), 40, []), (.goto 0, 41, [50]), (.aload 0, 42, []), (.getfield 35, 43, [12, 2]), (.iload 5, 44, []), (.iconst (1), 45, []), (.isub, 46, []), (.laload, 47, []), (.iload 3, 48, []), (.i2l, 49, []), (.lmul, 50, []), (.ladd, 51, []), (.lastore, 52, []), (.iinc 5 (-1), 53, []), (.goto 0, 54, [23]), (.iinc 4 (1), 55, []), (.goto 0, 56, [18]), (.sipush (0), 57, []), (.lstore 4, 58, []), (.iload 2, 59, []), (.istore 6, 60, []), (.iload 6, 61, []), (.iconst (13), 62, []), (.if_icmp .eq 0, 63, [3, 72]), (.lload 4, 64, []), (.aload 0, 65, []), (.getfield 35, 66, [12, 2]), (.iload 6, 67, []), (.laload, 68, []), (.ladd, 69, []), (.lstore 4, 70, []), (.iinc 6 (1), 71, []), (.goto 0, 72, [60]), (.lload 4, 73, []), (.lreturn, 74, [])]
def k_M_waysOf : mCode := [(.sipush (1), 1, []), (.lstore 1, 2, []), (.iconst (0), 3, []), (.istore 3, 4, []), (.iload 3, 5, []), (.iload 0, 6, []), (.if_icmp .eq 0, 7, [3, 13]), (.lload 1, 8, []), (.sipush (16), 9, []), (.lmul, 10, []), (.lstore 1, 11, []), (.iinc 3 (1), 12, []), (.goto 0, 13, [4]), (.lload 1, 14, []), (.lreturn, 15, [])]
def k_M_errorOf : mCode := [(.iload 3, 1, []), (.ifCond .eq 0, 2, [1, 14]), (.iload 1, 3, []), (.invokestatic 199, 4, [1, 0, 2, 4, 0]), (.aload 0, 5, []), (.iload 1, 6, []), (.iload 2, 7, []), (.aload 0, 8, []), (.getfield 0, 9, [12, 2]), (.iconst (1), 10, []), (.iaload, 11, []), (.invokestatic 198, 12, [4, 0, 2, 7, 13]), (.lsub, 13, []), (.goto 0, 14, [22]), (.aload 0, 15, []), (.iload 1, 16, []), (.iload 2, 17, []), (.aload 0, 18, []), (.getfield 0, 19, [12, 2]), (.iconst (2), 20, []), (.iaload, 21, []), (.invokestatic 198, 22, [4, 0, 2, 7, 13]), (.lreturn, 23, [])]
def k_M_error : mCode := [(.iload 1, 1, []), (.i2l, 2, []), (.sipush (0), 3, []), (.sipush (12), 4, []), (.invokestatic 92, 5, [3, 0, 1, 6, 0]), (.ifCond .eq 0, 6, [0, 17]), (.iload 2, 7, []), (.i2l, 8, []), (.sipush (0), 9, []), (.sipush (13), 10, []), (.invokestatic 92, 11, [3, 0, 1, 6, 0]), (.ifCond .eq 0, 12, [0, 17]), (.iload 3, 13, []), (.ifCond .eq 0, 14, [2, 17]), (.iload 3, 15, []), (.iconst (1), 16, []), (.if_icmp .eq 0, 17, [5, 21]), (.aload 0, 18, []), (.iconst (1), 19, []), (.invokestatic 81, 20, [2, 0, 1, 2, 13]), (.ireturn, 21, [3]), (.aload 0, 22, []), (.aload 0, 23, []), (.iload 1, 24, []), (.iload 2, 25, []), (.iload 3, 26, []), (.invokestatic 200, 27, [4, 0, 2, 4, 13]), (.iload 1, 28, []), (.invokestatic 199, 29, [1, 0, 2, 4, 0]), (.invokestatic 84, 30, [3, 0, 1, 11, 13]), (.ireturn, 31, [3])]
def k_M_cut : mCode := [(.iload 1, 1, []), (.i2l, 2, []), (.sipush (0), 3, []), (.sipush (12), 4, []), (.invokestatic 92, 5, [3, 0, 1, 6, 0]), (.ifCond .eq 0, 6, [1, 10]), (.aload 0, 7, []), (.iconst (1), 8, []), (.invokestatic 82, 9, [2, 0, 1, 2, 13]), (.ireturn, 10, [0]), (.iconst (0), 11, []), (.istore 2, 12, []), (.aload 0, 13, []), (.iload 1, 14, []), (.iconst (0), 15, []), (.iconst (0), 16, []), (.invokestatic 200, 17, [4, 0, 2, 4, 13]), (.aload 0, 18, []), (.iload 1, 19, []), (.iconst (0), 20, []), (.iconst (1), 21, []), (.invokestatic 200, 22, [4, 0, 2, 4, 13]), (.ladd, 23, []), (.lstore 3, 24, []), (.iconst (1), 25, []), (.istore 5, 26, []), (.iload 5, 27, []), (.iconst (13), 28, []), (.if_icmp .eq 0, 29, [4, 52]), (.aload 0, 30, []), (.iload 1, 31, []), (.iload 5, 32, []), (.iconst (0), 33, []), (.invokestatic 200, 34, [4, 0, 2, 4, 13]), (.aload 0, 35, []), (.iload 1, 36, []), (.iload 5, 37, []), (.iconst (1), 38, []), (.invokestatic 200, 39, [4, 0, 2, 4, 13]), (.ladd, 40, []), (.lstore 6, 41, []), (.lload 6, 42, []), (.lload 3, 43, []), (.lcmp, 45, [2, 46]), (.ifCond .eq 0, 45, [2, 46]), (.goto 0, 46, [50]), (.lload 6, 47, []), (.lstore 3, 48, []), (.iload 5, 49, []), (.istore 2, 50, []), (.iinc 5 (1), 51, []), (.goto 0, 52, [26]), (.aload 0, 53, []), (.iload 2, 54, []), (.invokestatic 83, 55, [2, 0, 1, 2, 13]), (.ireturn, 56, [0])]
def k_M_settlesAt : mCode := [(.aload 0, 1, []), (.getfield 38, 2, [12, 2]), (.iload 1, 3, []), (.iaload, 4, []), (.iconst (-1), 5, []), (.if_icmp .eq 0, 6, [1, 8]), (.iconst (1), 7, []), (.goto 0, 8, [9]), (.iconst (0), 9, []), (.istore 3, 10, []), (.iload 3, 11, []), (.ifCond .eq 0, 12, [1, 30]), (.iload 1, 13, []), (.iconst (2), 14, []), (.irem, 15, []), (.ifCond .eq 0, 16, [1, 23]), (.iload 2, 17, []), (.aload 0, 18, []), (.getfield 37, 19, [12, 2]), (.iload 1, 20, []), (.iaload, 21, []), (.if_icmp .eq 0, 22, [4, 30]), (.goto 0, 23, [29]), (.iload 2, 24, []), (.aload 0, 25, []), (.getfield 37, 26, [12, 2]), (.iload 1, 27, []), (.iaload, 28, []), (.if_icmp .eq 0, 29, [2, 30]), (.return_, 30, []), (.aload 0, 31, []), (.getfield 37, 32, [12, 2]), (.iload 1, 33, []), (.iload 2, 34, []), (.iastore, 35, []), (.aload 0, 36, []), (.getfield 38, 37, [12, 2]), (.iload 1, 38, []), (.aload 0, 39, []), (.getfield 36, 40, [12, 2]), (.iload 1, 41, []), (.iaload, 42, []), (.iastore, 43, []), (.return_, 44, [])]
def k_M_beginsAt : mCode := [(.aload 0, 1, []), (.iload 1, 2, []), (.invokestatic 158, 3, [1, 0, 1, 1, 0]), (.invokestatic 159, 4, [2, 0, 0, 3, 13]), (.aload 0, 5, []), (.getfield 36, 6, [12, 2]), (.iload 1, 7, []), (.iconst (-1), 8, []), (.iastore, 9, []), (.aload 0, 10, []), (.getfield 38, 11, [12, 2]), (.iload 1, 12, []), (.iconst (-1), 13, []), (.iastore, 14, []), (.return_, 15, [])]
def k_M_playing : mCode := [(.iload 1, 1, []), (.ifCond .eq 0, 2, [1, 6]), (.aload 0, 3, []), (.invokestatic 135, 4, [1, 0, 1, 3, 13]), (.invokestatic 128, 5, [1, 0, 1, 3, 0]), (.ireturn, 6, [0]), (.iconst (0), 7, []), (.istore 2, 8, []), (.aload 0, 9, []), (.iconst (0), 10, []), (.invokestatic 204, 11, [2, 0, 0, 2, 13]), (.aload 0, 12, []), (.iload 2, 13, []), (.invokestatic 158, 14, [1, 0, 1, 1, 0]), (.invokestatic 160, 15, [2, 0, 0, 3, 13]), (.aload 0, 16, []), (.getfield 36, 17, [12, 2]), (.iload 2, 18, []), (.dup2, 19, []), (.iaload, 20, []), (.iconst (1), 21, []), (.iadd, 22, []), (.iastore, 23, []), (.aload 0, 24, []), (.getfield 36, 25, [12, 2]), (.iload 2, 26, []), (.iaload, 27, []), (.istore 3, 28, []), (.iload 3, 29, []), (.aload 0, 30, []), (.getfield 0, 31, [12, 2]), (.iconst (0), 32, []), (.iaload, 33, []), (.if_icmp .eq 0, 34, [5, 48]), (.iload 2, 35, []), (.ifCond .eq 0, 36, [1, 37]), (.goto 0, 37, [96]), (.iinc 2 (-1), 38, []), (.aload 0, 39, []), (.iload 2, 40, []), (.aload 0, 41, []), (.getfield 37, 42, [12, 2]), (.iload 2, 43, []), (.iconst (1), 44, []), (.iadd, 45, []), (.iaload, 46, []), (.invokestatic 203, 47, [3, 0, 0, 4, 13]), (.goto 0, 48, [11]), (.iload 3, 49, []), (.aload 0, 50, []), (.getfield 0, 51, [12, 2]), (.iconst (0), 52, []), (.iaload, 53, []), (.if_icmp .eq 0, 54, [3, 56]), (.iconst (1), 55, []), (.goto 0, 56, [57]), (.iconst (0), 57, []), (.istore 4, 58, []), (.iload 4, 59, []), (.ifCond .eq 0, 60, [0, 69]), (.iload 2, 61, []), (.iconst (2), 62, []), (.irem, 63, []), (.ifCond .eq 0, 64, [1, 69]), (.aload 0, 65, []), (.iload 3, 66, []), (.invokestatic 143, 67, [2, 0, 1, 3, 13]), (.ifCond .eq 0, 68, [1, 69]), (.goto 0, 69, [11]), (.iload 4, 70, []), (.ifCond .eq 0, 71, [0, 79]), (.iload 2, 72, []), (.iconst (2), 73, []), (.irem, 74, []), (.iconst (1), 75, []), (.if_icmp .eq 0, 76, [1, 79]), (.aload 0, 77, []), (.iload 3, 78, []), (.invokestatic 145, 79, [2, 0, 0, 2, 13]), (.iload 2, 80, []), (.iconst (1), 81, []), (.iadd, 82, []), (.iload 1, 83, []), (.if_icmp .eq 0, 84, [1, 91]), (.aload 0, 85, []), (.iload 2, 86, []), (.aload 0, 87, []), (.invokestatic 135, 88, [1, 0, 1, 3, 13]), (.invokestatic 128, 89, [1, 0, 1, 3, 0]), (.invokestatic 203, 90, [3, 0, 0, 4, 13]), (.goto 0, 91, [95]), (.iinc 2 (1), 92, []), (.aload 0, 93, []), (.iload 2, 94, []), (.invokestatic 204, 95, [2, 0, 0, 2, 13]), (.goto 0, 96, [11]), (.aload 0, 97, []), (.iconst (0), 98, []), (.invokestatic 158, 99, [1, 0, 1, 1, 0]), (.invokestatic 160, 100, [2, 0, 0, 3, 13]), (.aload 0, 101, []), (.getfield 37, 102, [12, 2]), (.iconst (0), 103, []), (.iaload, 104, []), (.ireturn, 105, [0])]
def k_M_game : mCode := [(.iload 1, 1, []), (.i2l, 2, []), (.sipush (0), 3, []), (.sipush (4), 4, []), (.invokestatic 92, 5, [3, 0, 1, 6, 0]), (.ifCond .eq 0, 6, [1, 10]), (.aload 0, 7, []), (.iconst (1), 8, []), (.invokestatic 82, 9, [2, 0, 1, 2, 13]), (.ireturn, 10, [0]), (.aload 0, 11, []), (.aload 0, 12, []), (.iload 1, 13, []), (.invokestatic 205, 14, [2, 0, 1, 5, 13]), (.invokestatic 83, 15, [2, 0, 1, 2, 13]), (.ireturn, 16, [0])]
def k_M_moveOf : mCode := [(.iload 1, 1, []), (.i2l, 2, []), (.sipush (1), 3, []), (.sipush (4), 4, []), (.invokestatic 92, 5, [3, 0, 1, 6, 0]), (.ifCond .eq 0, 6, [1, 10]), (.aload 0, 7, []), (.iconst (1), 8, []), (.invokestatic 82, 9, [2, 0, 1, 2, 13]), (.ireturn, 10, [0]), (.aload 0, 11, []), (.iload 1, 12, []), (.invokestatic 205, 13, [2, 0, 1, 5, 13]), (.pop, 14, []), (.aload 0, 15, []), (.getfield 38, 16, [12, 2]), (.iconst (0), 17, []), (.iaload, 18, []), (.aload 0, 19, []), (.getfield 0, 20, [12, 2]), (.iconst (0), 21, []), (.iaload, 22, []), (.if_icmp .eq 0, 23, [1, 27]), (.aload 0, 24, []), (.iconst (6), 25, []), (.invokestatic 82, 26, [2, 0, 1, 2, 13]), (.goto 0, 27, [33]), (.aload 0, 28, []), (.aload 0, 29, []), (.getfield 38, 30, [12, 2]), (.iconst (0), 31, []), (.iaload, 32, []), (.invokestatic 83, 33, [2, 0, 1, 2, 13]), (.ireturn, 34, [0])]
def k_M_share : mCode := [(.aload 0, 1, []), (.iload 1, 2, []), (.invokestatic 126, 3, [2, 0, 1, 2, 13]), (.ifCond .eq 0, 4, [1, 8]), (.aload 0, 5, []), (.iconst (1), 6, []), (.invokestatic 81, 7, [2, 0, 1, 2, 13]), (.ireturn, 8, [3]), (.aload 0, 9, []), (.iconst (2), 10, []), (.invokestatic 138, 11, [2, 0, 1, 4, 13]), (.ifCond .eq 0, 12, [1, 16]), (.aload 0, 13, []), (.iconst (6), 14, []), (.invokestatic 81, 15, [2, 0, 1, 2, 13]), (.goto 0, 16, [27]), (.aload 0, 17, []), (.aload 0, 18, []), (.iload 1, 19, []), (.iconst (2), 20, []), (.invokestatic 129, 21, [3, 0, 1, 3, 13]), (.i2l, 22, []), (.aload 0, 23, []), (.iconst (2), 24, []), (.invokestatic 138, 25, [2, 0, 1, 4, 13]), (.i2l, 26, []), (.invokestatic 84, 27, [3, 0, 1, 11, 13]), (.ireturn, 28, [3])]
def k_M_copyWarmth : mCode := [(.iload 1, 1, []), (.invokestatic 85, 2, [1, 0, 1, 1, 0]), (.ifCond .eq 0, 3, [1, 7]), (.aload 0, 4, []), (.iconst (1), 5, []), (.invokestatic 82, 6, [2, 0, 1, 2, 13]), (.ireturn, 7, [0]), (.aload 0, 8, []), (.getfield 6, 9, [12, 2]), (.iload 1, 10, []), (.iaload, 11, []), (.iconst (-1), 12, []), (.if_icmp .eq 0, 13, [1, 17]), (.aload 0, 14, []), (.iconst (2), 15, []), (.invokestatic 82, 16, [2, 0, 1, 2, 13]), (.ireturn, 17, [0]), (.aload 0, 18, []), (.getfield 6, 19, [12, 2]), (.iload 1, 20, []), (.iaload, 21, []), (.aload 0, 22, []), (.getfield 0, 23, [12, 2]), (.iconst (0), 24, []), (.iaload, 25, []), (.if_icmp .eq 0, 26, [3, 30]), (.aload 0, 27, []), (.iconst (3), 28, []), (.invokestatic 82, 29, [2, 0, 1, 2, 13]), (.ireturn, 30, [0]), (.iconst (0), 31, []), (.istore 2, 32, []), (.iload 2, 33, []), (.aload 0, 34, []), (.getfield 0, 35, [12, 2]), (.iconst (0), 36, []), (.iaload, 37, []), (.if_icmp .eq 0, 38, [3, 58]), (.aload 0, 39, []), (.getfield 7, 40, [12, 2]), (.iconst (60), 41, []), (.iload 1, 42, []), (.imul, 43, []), (.iload 2, 44, []), (.iadd, 45, []), (.aload 0, 46, []), (.iload 2, 47, []), (.iconst (2), 48, []), (.invokestatic 129, 49, [3, 0, 1, 3, 13]), (.i2l, 50, []), (.aload 0, 51, []), (.getfield 5, 52, [12, 2]), (.iload 1, 53, []), (.iaload, 54, []), (.invokestatic 86, 55, [2, 0, 2, 3, 0]), (.lastore, 56, []), (.iinc 2 (1), 57, []), (.goto 0, 58, [32]), (.aload 0, 59, []), (.aload 0, 60, []), (.getfield 0, 61, [12, 2]), (.iconst (0), 62, []), (.iaload, 63, []), (.invokestatic 83, 64, [2, 0, 1, 2, 13]), (.ireturn, 65, [0])]
def k_M_draw : mCode := [(.aload 0, 1, []), (.aload 0, 2, []), (.getfield 39, 3, [12, 0]), (.iconst (3261), 4, []), (.imul, 5, []), (.iconst (11491), 6, []), (.iadd, 7, []), (.iconst (65536), 8, []), (.irem, 9, []), (.putfield 39, 10, [12, 0]), (.aload 0, 11, []), (.getfield 39, 12, [12, 0]), (.iconst (8), 13, []), (.idiv, 14, []), (.iload 1, 15, []), (.irem, 16, []), (.ireturn, 17, [0])]
def k_M_nightsBy : mCode := [(.aload 0, 1, []), (.getfield 0, 2, [12, 2]), (.iconst (7), 3, []), (.iaload, 4, []), (.iload 1, 5, []), (.iadd, 6, []), (.iconst (9999), 7, []), (.if_icmp .eq 0, 8, [5, 10]), (.iconst (0), 9, []), (.ireturn, 10, [3]), (.aload 0, 11, []), (.iload 1, 12, []), (.invokestatic 147, 13, [2, 0, 0, 3, 13]), (.aload 0, 14, []), (.getfield 42, 15, [12, 2]), (.iconst (1), 16, []), (.dup2, 17, []), (.iaload, 18, []), (.iload 1, 19, []), (.iadd, 20, []), (.iastore, 21, []), (.iconst (1), 22, []), (.ireturn, 23, [3])]
def k_M_drinksBy : mCode := [(.aload 0, 1, []), (.iload 1, 2, []), (.invokestatic 143, 3, [2, 0, 1, 3, 13]), (.ifCond .eq 0, 4, [1, 6]), (.iconst (0), 5, []), (.ireturn, 6, [3]), (.aload 0, 7, []), (.getfield 42, 8, [12, 2]), (.iconst (2), 9, []), (.dup2, 10, []), (.iaload, 11, []), (.iconst (1), 12, []), (.iadd, 13, []), (.iastore, 14, []), (.iconst (1), 15, []), (.ireturn, 16, [3])]
def k_M_eveningsBy : mCode := [(.aload 0, 1, []), (.getfield 0, 2, [12, 2]), (.iconst (7), 3, []), (.iaload, 4, []), (.iconst (9999), 5, []), (.if_icmp .eq 0, 6, [1, 8]), (.iconst (0), 7, []), (.ireturn, 8, [3]), (.aload 0, 9, []), (.iconst (-1), 10, []), (.invokestatic 149, 11, [2, 0, 1, 4, 13]), (.pop, 12, []), (.aload 0, 13, []), (.getfield 42, 14, [12, 2]), (.iconst (1), 15, []), (.dup2, 16, []), (.iaload, 17, []), (.iconst (1), 18, []), (.iadd, 19, []), (.iastore, 20, []), (.aload 0, 21, []), (.getfield 42, 22, [12, 2]), (.iconst (3), 23, []), (.dup2, 24, []), (.iaload, 25, []), (.iconst (1), 26, []), (.iadd, 27, []), (.iastore, 28, []), (.iconst (1), 29, []), (.ireturn, 30, [3])]
def k_M_doesAny : mCode := [(.aload 0, 1, []), (.getfield 0, 2, [12, 2]), (.iconst (0), 3, []), (.iaload, 4, []), (.ifCond .eq 0, 5, [1, 7]), (.iconst (0), 6, []), (.ireturn, 7, [3]), (.aload 0, 8, []), (.aload 0, 9, []), (.getfield 0, 10, [12, 2]), (.iconst (0), 11, []), (.iaload, 12, []), (.invokestatic 210, 13, [2, 0, 1, 2, 13]), (.istore 1, 14, []), (.aload 0, 15, []), (.iconst (16), 16, []), (.invokestatic 210, 17, [2, 0, 1, 2, 13]), (.aload 0, 18, []), (.getfield 0, 19, [12, 2]), (.iconst (1), 20, []), (.iaload, 21, []), (.if_icmp .eq 0, 22, [3, 26]), (.aload 0, 23, []), (.iload 1, 24, []), (.invokestatic 212, 25, [2, 0, 1, 2, 13]), (.goto 0, 26, [29]), (.aload 0, 27, []), (.iconst (1), 28, []), (.invokestatic 211, 29, [2, 0, 1, 2, 13]), (.ireturn, 30, [3])]
def k_M_does : mCode := [(.aload 0, 1, []), (.getfield 0, 2, [12, 2]), (.iload 1, 3, []), (.iconst (1), 4, []), (.iadd, 5, []), (.iaload, 6, []), (.istore 2, 7, []), (.aload 0, 8, []), (.getfield 0, 9, [12, 2]), (.iload 1, 10, []), (.iaload, 11, []), (.tableswitch 0 (13) 0 #[], 12, [36, 12, 16, 20, 23, 33]), (.aload 0, 13, []), (.iload 2, 14, []), (.invokestatic 212, 15, [2, 0, 1, 2, 13]), (.ireturn, 16, [3]), (.aload 0, 17, []), (.iload 2, 18, []), (.invokestatic 211, 19, [2, 0, 1, 2, 13]), (.ireturn, 20, [3]), (.aload 0, 21, []), (.invokestatic 213, 22, [1, 0, 1, 1, 13]), (.ireturn, 23, [3]), (.aload 0, 24, []), (.iload 2, 25, []), (.aload 0, 26, []), (.getfield 0, 27, [12, 2]), (.iload 1, 28, []), (.iconst (2), 29, []), (.iadd, 30, []), (.iaload, 31, []), (.invokestatic 151, 32, [3, 0, 1, 4, 13]), (.ireturn, 33, [3]), (.aload 0, 34, []), (.invokestatic 214, 35, [1, 0, 1, 2, 13]), (.ireturn, 36, [3]), (.iconst (1), 37, []), (.ireturn, 38, [3])]
def k_M_holds : mCode := [(.aload 0, 1, []), (.getfield 0, 2, [12, 2]), (.iload 1, 3, []), (.iaload, 4, []), (.iconst (1800), 5, []), (.isub, 6, []), (.istore 2, 7, []), (.aload 0, 8, []), (.getfield 0, 9, [12, 2]), (.iload 1, 10, []), (.iconst (1), 11, []), (.iadd, 12, []), (.iaload, 13, []), (.istore 3, 14, []), (.iload 2, 15, []), (.iconst (22), 16, []), (.if_icmp .eq 0, 17, [1, 21]), (.aload 0, 18, []), (.iload 3, 19, []), (.invokestatic 134, 20, [2, 0, 1, 2, 13]), (.ireturn, 21, [3]), (.aload 0, 22, []), (.iload 3, 23, []), (.iload 2, 24, []), (.iconst (10), 25, []), (.if_icmp .eq 0, 26, [1, 28]), (.iconst (2), 27, []), (.goto 0, 28, [29]), (.iconst (3), 29, []), (.invokestatic 129, 30, [3, 0, 1, 3, 13]), (.istore 4, 31, []), (.aload 0, 32, []), (.getfield 0, 33, [12, 2]), (.iload 1, 34, []), (.iconst (5), 35, []), (.iadd, 36, []), (.iaload, 37, []), (.iconst (60), 38, []), (.if_icmp .eq 0, 39, [1, 51]), (.iload 4, 40, []), (.aload 0, 41, []), (.getfield 0, 42, [12, 2]), (.iload 1, 43, []), (.iconst (2), 44, []), (.iadd, 45, []), (.iaload, 46, []), (.if_icmp .eq 0, 47, [3, 49]), (.iconst (1), 48, []), (.goto 0, 49, [82]), (.iconst (0), 50, []), (.goto 0, 51, [82]), (.aload 0, 52, []), (.getfield 0, 53, [12, 2]), (.iload 1, 54, []), (.iconst (5), 55, []), (.iadd, 56, []), (.iaload, 57, []), (.iconst (62), 58, []), (.if_icmp .eq 0, 59, [1, 71]), (.iload 4, 60, []), (.aload 0, 61, []), (.getfield 0, 62, [12, 2]), (.iload 1, 63, []), (.iconst (2), 64, []), (.iadd, 65, []), (.iaload, 66, []), (.if_icmp .eq 0, 67, [5, 69]), (.iconst (1), 68, []), (.goto 0, 69, [82]), (.iconst (0), 70, []), (.goto 0, 71, [82]), (.iload 4, 72, []), (.aload 0, 73, []), (.getfield 0, 74, [12, 2]), (.iload 1, 75, []), (.iconst (2), 76, []), (.iadd, 77, []), (.iaload, 78, []), (.if_icmp .eq 0, 79, [1, 81]), (.iconst (1), 80, []), (.goto 0, 81, [82]), (.iconst (0), 82, []), (.ireturn, 83, [3])]
def k_M_behindEnds : mCode := [(.iload 1, 1, []), (.istore 2, 2, []), (.iload 2, 3, []), (.aload 0, 4, []), (.getfield 0, 5, [12, 2]), (.iconst (8), 6, []), (.iaload, 7, []), (.if_icmp .eq 0, 8, [3, 71]), (.aload 0, 9, []), (.getfield 0, 10, [12, 2]), (.iconst (46), 11, []), (.iconst (6), 12, []), (.iload 2, 13, []), (.imul, 14, []), (.iadd, 15, []), (.iaload, 16, []), (.iconst (20), 17, []), (.if_icmp .eq 0, 18, [1, 71]), (.aload 0, 19, []), (.getfield 0, 20, [12, 2]), (.iconst (46), 21, []), (.iconst (6), 22, []), (.iload 2, 23, []), (.imul, 24, []), (.iadd, 25, []), (.iconst (4), 26, []), (.iadd, 27, []), (.iaload, 28, []), (.istore 3, 29, []), (.aload 0, 30, []), (.getfield 0, 31, [12, 2]), (.iconst (46), 32, []), (.iconst (6), 33, []), (.iload 3, 34, []), (.imul, 35, []), (.iadd, 36, []), (.iaload, 37, []), (.iconst (19), 38, []), (.if_icmp .eq 0, 39, [1, 46]), (.aload 0, 40, []), (.getfield 41, 41, [12, 2]), (.iload 3, 42, []), (.iaload, 43, []), (.ifCond .eq 0, 44, [5, 46]), (.iconst (1), 45, []), (.goto 0, 46, [47]), (.iconst (0), 47, []), (.istore 4, 48, []), (.aload 0, 49, []), (.getfield 41, 50, [12, 2]), (.iload 3, 51, []), (.dup2, 52, []), (.iaload, 53, []), (.iload 4, 54, []), (.ifCond .eq 0, 55, [0, 57]), (.iconst (1), 56, []), (.goto 0, 57, [58]), (.iconst (0), 58, []), (.isub, 59, []), (.iastore, 60, []), (.iload 4, 61, []), (.ifCond .eq 0, 62, [0, 66]), (.iload 3, 63, []), (.iconst (1), 64, []), (.iadd, 65, []), (.goto 0, 66, [69]), (.iload 2, 67, []), (.iconst (1), 68, []), (.iadd, 69, []), (.istore 2, 70, []), (.goto 0, 71, [2]), (.iload 2, 72, []), (.ireturn, 73, [0])]
def k_M_lives : mCode := [(.aload 0, 1, []), (.iload 1, 2, []), (.putfield 39, 3, [12, 0]), (.aload 0, 4, []), (.iconst (0), 5, []), (.putfield 40, 6, [12, 0]), (.iconst (0), 7, []), (.istore 2, 8, []), (.iload 2, 9, []), (.iconst (5), 10, []), (.if_icmp .eq 0, 11, [3, 18]), (.aload 0, 12, []), (.getfield 42, 13, [12, 2]), (.iload 2, 14, []), (.iconst (0), 15, []), (.iastore, 16, []), (.iinc 2 (1), 17, []), (.goto 0, 18, [8]), (.iconst (0), 19, []), (.istore 2, 20, []), (.iload 2, 21, []), (.aload 0, 22, []), (.getfield 0, 23, [12, 2]), (.iconst (8), 24, []), (.iaload, 25, []), (.if_icmp .eq 0, 26, [3, 113]), (.aload 0, 27, []), (.getfield 40, 28, [12, 0]), (.iconst (300), 29, []), (.if_icmp .eq 0, 30, [1, 36]), (.aload 0, 31, []), (.getfield 42, 32, [12, 2]), (.iconst (4), 33, []), (.iconst (1), 34, []), (.iastore, 35, []), (.return_, 36, []), (.iconst (46), 37, []), (.iconst (6), 38, []), (.iload 2, 39, []), (.imul, 40, []), (.iadd, 41, []), (.istore 3, 42, []), (.aload 0, 43, []), (.dup, 44, []), (.getfield 40, 45, [12, 0]), (.iconst (1), 46, []), (.iadd, 47, []), (.putfield 40, 48, [12, 0]), (.aload 0, 49, []), (.getfield 0, 50, [12, 2]), (.iload 3, 51, []), (.iaload, 52, []), (.iconst (21), 53, []), (.if_icmp .eq 0, 54, [1, 55]), (.return_, 55, []), (.aload 0, 56, []), (.getfield 42, 57, [12, 2]), (.iconst (0), 58, []), (.dup2, 59, []), (.iaload, 60, []), (.aload 0, 61, []), (.iload 3, 62, []), (.invokestatic 215, 63, [2, 0, 1, 3, 13]), (.ifCond .eq 0, 64, [0, 66]), (.iconst (0), 65, []), (.goto 0, 66, [67]), (.iconst (1), 67, []), (.iadd, 68, []), (.iastore, 69, []), (.aload 0, 70, []), (.getfield 0, 71, [12, 2]), (.iload 3, 72, []), (.iaload, 73, []), (.iconst (19), 74, []), (.if_icmp .eq 0, 75, [1, 87]), (.aload 0, 76, []), (.getfield 41, 77, [12, 2]), (.iload 2, 78, []), (.aload 0, 79, []), (.getfield 0, 80, [12, 2]), (.iload 3, 81, []), (.iconst (1), 82, []), (.iadd, 83, []), (.iaload, 84, []), (.iconst (1), 85, []), (.isub, 86, []), (.iastore, 87, []), (.aload 0, 88, []), (.aload 0, 89, []), (.getfield 0, 90, [12, 2]), (.iload 3, 91, []), (.iaload, 92, []), (.iconst (1800), 93, []), (.if_icmp .eq 0, 94, [2, 107]), (.aload 0, 95, []), (.iload 3, 96, []), (.invokestatic 216, 97, [2, 0, 1, 5, 13]), (.ifCond .eq 0, 98, [1, 107]), (.aload 0, 99, []), (.getfield 0, 100, [12, 2]), (.iload 3, 101, []), (.iconst (4), 102, []), (.iadd, 103, []), (.iaload, 104, []), (.iconst (1), 105, []), (.iadd, 106, []), (.goto 0, 107, [110]), (.iload 2, 108, []), (.iconst (1), 109, []), (.iadd, 110, []), (.invokestatic 217, 111, [2, 0, 1, 5, 13]), (.istore 2, 112, []), (.goto 0, 113, [20]), (.return_, 114, [])]
def k_M_live : mCode := [(.iload 1, 1, []), (.i2l, 2, []), (.sipush (0), 3, []), (.sipush (9999), 4, []), (.invokestatic 92, 5, [3, 0, 1, 6, 0]), (.ifCond .eq 0, 6, [1, 10]), (.aload 0, 7, []), (.iconst (1), 8, []), (.invokestatic 82, 9, [2, 0, 1, 2, 13]), (.ireturn, 10, [0]), (.aload 0, 11, []), (.getfield 0, 12, [12, 2]), (.iconst (8), 13, []), (.iaload, 14, []), (.iconst (-1), 15, []), (.if_icmp .eq 0, 16, [1, 20]), (.aload 0, 17, []), (.iconst (6), 18, []), (.invokestatic 82, 19, [2, 0, 1, 2, 13]), (.ireturn, 20, [0]), (.aload 0, 21, []), (.iload 1, 22, []), (.invokestatic 218, 23, [2, 0, 0, 4, 13]), (.iconst (0), 24, []), (.istore 2, 25, []), (.iload 2, 26, []), (.iconst (5), 27, []), (.if_icmp .eq 0, 28, [3, 38]), (.aload 0, 29, []), (.getfield 43, 30, [12, 2]), (.iload 2, 31, []), (.aload 0, 32, []), (.getfield 42, 33, [12, 2]), (.iload 2, 34, []), (.iaload, 35, []), (.iastore, 36, []), (.iinc 2 (1), 37, []), (.goto 0, 38, [25]), (.aload 0, 39, []), (.iconst (1), 40, []), (.putfield 44, 41, [12, 3]), (.aload 0, 42, []), (.aload 0, 43, []), (.getfield 40, 44, [12, 0]), (.invokestatic 83, 45, [2, 0, 1, 2, 13]), (.ireturn, 46, [0])]
def k_M_lived : mCode := [(.iload 1, 1, []), (.ifCond .eq 0, 2, [2, 5]), (.iload 1, 3, []), (.iconst (4), 4, []), (.if_icmp .eq 0, 5, [5, 9]), (.aload 0, 6, []), (.iconst (1), 7, []), (.invokestatic 82, 8, [2, 0, 1, 2, 13]), (.ireturn, 9, [0]), (.aload 0, 10, []), (.getfield 44, 11, [12, 0]), (.ifCond .eq 0, 12, [0, 19]), (.aload 0, 13, []), (.aload 0, 14, []), (.getfield 43, 15, [12, 2]), (.iload 1, 16, []), (.iaload, 17, []), (.invokestatic 83, 18, [2, 0, 1, 2, 13]), (.goto 0, 19, [22]), (.aload 0, 20, []), (.iconst (6), 21, []), (.invokestatic 82, 22, [2, 0, 1, 2, 13]), (.ireturn, 23, [0])]
def k_M_mean : mCode := [(.iload 1, 1, []), (.i2l, 2, []), (.sipush (0), 3, []), (.sipush (9999), 4, []), (.invokestatic 92, 5, [3, 0, 1, 6, 0]), (.ifCond .eq 0, 6, [0, 19]), (.iload 2, 7, []), (.i2l, 8, []), (.sipush (1), 9, []), (.sipush (20), 10, []), (.invokestatic 92, 11, [3, 0, 1, 6, 0]), (.ifCond .eq 0, 12, [0, 19]), (.iload 1, 13, []), (.iload 2, 14, []), (.iadd, 15, []), (.iconst (1), 16, []), (.isub, 17, []), (.iconst (9999), 18, []), (.if_icmp .eq 0, 19, [5, 23]), (.aload 0, 20, []), (.iconst (1), 21, []), (.invokestatic 81, 22, [2, 0, 1, 2, 13]), (.ireturn, 23, [3]), (.aload 0, 24, []), (.getfield 0, 25, [12, 2]), (.iconst (8), 26, []), (.iaload, 27, []), (.iconst (-1), 28, []), (.if_icmp .eq 0, 29, [1, 33]), (.aload 0, 30, []), (.iconst (6), 31, []), (.invokestatic 81, 32, [2, 0, 1, 2, 13]), (.ireturn, 33, [3]), (.aload 0, 34, []), (.iconst (2070), 35, []), (.invokestatic 159, 36, [2, 0, 0, 3, 13]), (.sipush (0), 37, []), (.lstore 3, 38, []), (.iconst (0), 39, []), (.istore 5, 40, []), (.iload 5, 41, []), (.iload 2, 42, []), (.if_icmp .eq 0, 43, [3, 60]), (.aload 0, 44, []), (.iload 1, 45, []), (.iload 5, 46, []), (.iadd, 47, []), (.invokestatic 218, 48, [2, 0, 0, 4, 13]), (.lload 3, 49, []), (.aload 0, 50, []), (.iconst (2), 51, []), (.invokestatic 138, 52, [2, 0, 1, 4, 13]), (.i2l, 53, []), (.ladd, 54, []), (.lstore 3, 55, []), (.aload 0, 56, []), (.iconst (2070), 57, []), (.invokestatic 160, 58, [2, 0, 0, 3, 13]), (.iinc 5 (1), 59, []), (.goto 0, 60, [40]), (.aload 0, 61, []), (.lload 3, 62, []), (.iload 2, 63, []), (.i2l, 64, []), (.invokestatic 84, 65, [3, 0, 1, 11, 13]), (.ireturn, 66, [3])]
def k_M_copies : mCode := [(.iconst (0), 1, []), (.istore 3, 2, []), (.iload 3, 3, []), (.iconst (414), 4, []), (.if_icmp .eq 0, 5, [3, 23]), (.aload 0, 6, []), (.getfield 0, 7, [12, 2]), (.iconst (414), 8, []), (.iload 2, 9, []), (.imul, 10, []), (.iload 3, 11, []), (.iadd, 12, []), (.aload 0, 13, []), (.getfield 0, 14, [12, 2]), (.iconst (414), 15, []), (.iload 1, 16, []), (.imul, 17, []), (.iload 3, 18, []), (.iadd, 19, []), (.iaload, 20, []), (.iastore, 21, []), (.iinc 3 (1), 22, []), (.goto 0, 23, [2]), (.iconst (0), 24, []), (.istore 3, 25, []), (.iload 3, 26, []), (.iconst (7), 27, []), (.if_icmp .eq 0, 28, [3, 46]), (.aload 0, 29, []), (.getfield 1, 30, [12, 2]), (.iconst (7), 31, []), (.iload 2, 32, []), (.imul, 33, []), (.iload 3, 34, []), (.iadd, 35, []), (.aload 0, 36, []), (.getfield 1, 37, [12, 2]), (.iconst (7), 38, []), (.iload 1, 39, []), (.imul, 40, []), (.iload 3, 41, []), (.iadd, 42, []), (.laload, 43, []), (.lastore, 44, []), (.iinc 3 (1), 45, []), (.goto 0, 46, [25]), (.return_, 47, [])]
def k_M_mark : mCode := [(.aload 0, 1, []), (.getfield 45, 2, [12, 0]), (.iconst (3), 3, []), (.if_icmp .eq 0, 4, [1, 8]), (.aload 0, 5, []), (.iconst (4), 6, []), (.invokestatic 82, 7, [2, 0, 1, 2, 13]), (.ireturn, 8, [0]), (.aload 0, 9, []), (.dup, 10, []), (.getfield 45, 11, [12, 0]), (.iconst (1), 12, []), (.iadd, 13, []), (.putfield 45, 14, [12, 0]), (.aload 0, 15, []), (.iconst (0), 16, []), (.aload 0, 17, []), (.getfield 45, 18, [12, 0]), (.invokestatic 222, 19, [3, 0, 0, 4, 13]), (.aload 0, 20, []), (.aload 0, 21, []), (.getfield 45, 22, [12, 0]), (.invokestatic 83, 23, [2, 0, 1, 2, 13]), (.ireturn, 24, [0])]
def k_M_undo : mCode := [(.aload 0, 1, []), (.getfield 45, 2, [12, 0]), (.ifCond .eq 0, 3, [1, 7]), (.aload 0, 4, []), (.iconst (6), 5, []), (.invokestatic 82, 6, [2, 0, 1, 2, 13]), (.ireturn, 7, [0]), (.aload 0, 8, []), (.aload 0, 9, []), (.getfield 45, 10, [12, 0]), (.iconst (0), 11, []), (.invokestatic 222, 12, [3, 0, 0, 4, 13]), (.aload 0, 13, []), (.dup, 14, []), (.getfield 45, 15, [12, 0]), (.iconst (1), 16, []), (.isub, 17, []), (.putfield 45, 18, [12, 0]), (.aload 0, 19, []), (.aload 0, 20, []), (.getfield 45, 21, [12, 0]), (.invokestatic 83, 22, [2, 0, 1, 2, 13]), (.ireturn, 23, [0])]
def k_Co_init : mCode := [(.aload 0, 1, []), (.invokespecial 0, 2, []), (.aload 0, 3, []), (.iconst (0), 4, []), (.putfield 0, 5, [0, 0]), (.aload 0, 6, []), (.iconst (0), 7, []), (.putfield 1, 8, [0, 0]), (.aload 0, 9, []), (.iconst (7), 10, []), (.newarray .int, 11, [0]), (.putfield 2, 12, [0, 2]), (.aload 0, 13, []), (.iconst (7), 14, []), (.newarray .int, 15, [0]), (.putfield 3, 16, [0, 2]), (.aload 0, 17, []), (.iconst (7), 18, []), (.newarray .int, 19, [0]), (.putfield 4, 20, [0, 2]), (.aload 0, 21, []), (.iconst (7), 22, []), (.newarray .int, 23, [0]), (.putfield 5, 24, [0, 2]), (.aload 0, 25, []), (.iconst (7), 26, []), (.newarray .int, 27, [0]), (.putfield 6, 28, [0, 2]), (.aload 0, 29, []), (.iconst (7), 30, []), (.newarray .int, 31, [0]), (.putfield 7, 32, [0, 2]), (.aload 0, 33, []), (.iconst (7), 34, []), (.newarray .long, 35, [1]), (.putfield 8, 36, [0, 2]), (.aload 0, 37, []), (.iconst (7), 38, []), (.newarray .int, 39, [0]), (.putfield 9, 40, [0, 2]), (.ldc 4, 41, []), (.iconst (0), 42, []), (.aload 0, 43, []), (.getfield 2, 44, [0, 2]), (.iconst (0), 45, []), (.iconst (7), 46, []), (.swap, 47, [0]), (.return_, 48, [])]
def k_Co_clear : mCode := [(.aload 0, 1, []), (.iconst (0), 2, []), (.putfield 0, 3, [0, 0]), (.aload 0, 4, []), (.iconst (0), 5, []), (.putfield 1, 6, [0, 0]), (.ldc 4, 7, []), (.iconst (0), 8, []), (.aload 0, 9, []), (.getfield 2, 10, [0, 2]), (.iconst (0), 11, []), (.iconst (7), 12, []), (.swap, 13, [0]), (.return_, 14, [])]
def k_Co_takeFrom : mCode := [(.aload 0, 1, []), (.aload 1, 2, []), (.getfield 0, 3, [0, 0]), (.putfield 0, 4, [0, 0]), (.aload 0, 5, []), (.aload 1, 6, []), (.getfield 1, 7, [0, 0]), (.putfield 1, 8, [0, 0]), (.aload 1, 9, []), (.getfield 2, 10, [0, 2]), (.iconst (0), 11, []), (.aload 0, 12, []), (.getfield 2, 13, [0, 2]), (.iconst (0), 14, []), (.iconst (7), 15, []), (.swap, 16, [0]), (.aload 1, 17, []), (.getfield 3, 18, [0, 2]), (.iconst (0), 19, []), (.aload 0, 20, []), (.getfield 3, 21, [0, 2]), (.iconst (0), 22, []), (.aload 0, 23, []), (.getfield 0, 24, [0, 0]), (.swap, 25, [0]), (.aload 1, 26, []), (.getfield 4, 27, [0, 2]), (.iconst (0), 28, []), (.aload 0, 29, []), (.getfield 4, 30, [0, 2]), (.iconst (0), 31, []), (.aload 0, 32, []), (.getfield 0, 33, [0, 0]), (.swap, 34, [0]), (.aload 1, 35, []), (.getfield 5, 36, [0, 2]), (.iconst (0), 37, []), (.aload 0, 38, []), (.getfield 5, 39, [0, 2]), (.iconst (0), 40, []), (.aload 0, 41, []), (.getfield 0, 42, [0, 0]), (.swap, 43, [0]), (.aload 1, 44, []), (.getfield 6, 45, [0, 2]), (.iconst (0), 46, []), (.aload 0, 47, []), (.getfield 6, 48, [0, 2]), (.iconst (0), 49, []), (.aload 0, 50, []), (.getfield 0, 51, [0, 0]), (.swap, 52, [0]), (.aload 1, 53, []), (.getfield 7, 54, [0, 2]), (.iconst (0), 55, []), (.aload 0, 56, []), (.getfield 7, 57, [0, 2]), (.iconst (0), 58, []), (.aload 0, 59, []), (.getfield 0, 60, [0, 0]), (.swap, 61, [0]), (.aload 1, 62, []), (.getfield 8, 63, [0, 2]), (.iconst (0), 64, []), (.aload 0, 65, []), (.getfield 8, 66, [0, 2]), (.iconst (0), 67, []), (.aload 0, 68, []), (.getfield 0, 69, [0, 0]), (.swap, 70, [1]), (.return_, 71, [])]
def k_Co_has : mCode := [(.iload 1, 1, []), (.ifCond .eq 0, 2, [2, 8]), (.iload 1, 3, []), (.aload 0, 4, []), (.getfield 0, 5, [0, 0]), (.if_icmp .eq 0, 6, [3, 8]), (.iconst (1), 7, []), (.goto 0, 8, [9]), (.iconst (0), 9, []), (.ireturn, 10, [3])]
def k_Co_isFull : mCode := [(.aload 0, 1, []), (.getfield 0, 2, [0, 0]), (.iconst (7), 3, []), (.if_icmp .eq 0, 4, [2, 6]), (.iconst (1), 5, []), (.goto 0, 6, [7]), (.iconst (0), 7, []), (.ireturn, 8, [3])]
def k_Co_add : mCode := [(.aload 0, 1, []), (.getfield 0, 2, [0, 0]), (.iconst (6), 3, []), (.dsub, 4, []), (.istore 4, 5, []), (.aload 0, 6, []), (.getfield 3, 7, [0, 2]), (.iload 4, 8, []), (.iload 1, 9, []), (.iastore, 10, []), (.aload 0, 11, []), (.getfield 4, 12, [0, 2]), (.iload 4, 13, []), (.iconst (1), 14, []), (.iastore, 15, []), (.aload 0, 16, []), (.getfield 5, 17, [0, 2]), (.iload 4, 18, []), (.iconst (0), 19, []), (.iastore, 20, []), (.aload 0, 21, []), (.getfield 6, 22, [0, 2]), (.iload 4, 23, []), (.iconst (2), 24, []), (.iastore, 25, []), (.aload 0, 26, []), (.getfield 7, 27, [0, 2]), (.iload 4, 28, []), (.iconst (-1), 29, []), (.iastore, 30, []), (.aload 0, 31, []), (.getfield 8, 32, [0, 2]), (.iload 4, 33, []), (.lload 2, 34, []), (.lastore, 35, []), (.aload 0, 36, []), (.iload 4, 37, []), (.iconst (1), 38, []), (.iadd, 39, []), (.putfield 0, 40, [0, 0]), (.iload 4, 41, []), (.ireturn, 42, [0])]
def k_Co_named : mCode := [(.iconst (0), 1, []), (.istore 3, 2, []), (.iload 3, 3, []), (.aload 0, 4, []), (.getfield 0, 5, [0, 0]), (.if_icmp .eq 0, 6, [3, 17]), (.aload 0, 7, []), (.getfield 8, 8, [0, 2]), (.iload 3, 9, []), (.laload, 10, []), (.lload 1, 11, []), (.lcmp, 13, [1, 15]), (.ifCond .eq 0, 13, [1, 15]), (.iload 3, 14, []), (.ireturn, 15, [0]), (.iinc 3 (1), 16, []), (.goto 0, 17, [2]), (.iconst (-1), 18, []), (.ireturn, 19, [0])]
def k_Co_hasWhom : mCode := [(.aload 0, 1, []), (.getfield 7, 2, [0, 2]), (.iload 1, 3, []), (.iaload, 4, []), (.iconst (-1), 5, []), (.if_icmp .eq 0, 6, [0, 8]), (.iconst (1), 7, []), (.goto 0, 8, [9]), (.iconst (0), 9, []), (.ireturn, 10, [3])]
def k_Co_apart : mCode := [(.aload 0, 1, []), (.getfield 3, 2, [0, 2]), (.iload 1, 3, []), (.iaload, 4, []), (.aload 0, 5, []), (.getfield 3, 6, [0, 2]), (.iload 2, 7, []), (.iaload, 8, []), (.isub, 9, []), (.dneg, 10, []), (.ireturn, 11, [0])]
def k_Co_warmOf : mCode := [(.aload 0, 1, []), (.getfield 7, 2, [0, 2]), (.iload 1, 3, []), (.iaload, 4, []), (.istore 2, 5, []), (.aload 0, 6, []), (.iload 2, 7, []), (.invokestatic 228, 8, [2, 0, 1, 2, 1]), (.ifCond .eq 0, 9, [1, 11]), (.iconst (0), 10, []), (.ireturn, 11, [0]), (.aload 0, 12, []), (.getfield 2, 13, [0, 2]), (.iconst (5), 14, []), (.iaload, 15, []), (.aload 0, 16, []), (.getfield 4, 17, [0, 2]), (.iload 1, 18, []), (.iaload, 19, []), (.aload 0, 20, []), (.iload 1, 21, []), (.iload 2, 22, []), (.invokestatic 233, 23, [3, 0, 1, 3, 1]), (.aload 0, 24, []), (.getfield 2, 25, [0, 2]), (.iconst (6), 26, []), (.iaload, 27, []), (.invokestatic 75, 28, [4, 0, 1, 5, 0]), (.ireturn, 29, [0])]
def k_Co_isLit : mCode := [(.aload 0, 1, []), (.getfield 5, 2, [0, 2]), (.iload 1, 3, []), (.iaload, 4, []), (.aload 0, 5, []), (.getfield 2, 6, [0, 2]), (.iconst (3), 7, []), (.iaload, 8, []), (.if_icmp .eq 0, 9, [2, 11]), (.iconst (1), 10, []), (.goto 0, 11, [12]), (.iconst (0), 12, []), (.ireturn, 13, [3])]
def k_Co_litSet : mCode := [(.iconst (0), 1, []), (.istore 1, 2, []), (.iconst (0), 3, []), (.istore 2, 4, []), (.iload 2, 5, []), (.aload 0, 6, []), (.getfield 0, 7, [0, 0]), (.if_icmp .eq 0, 8, [3, 20]), (.aload 0, 9, []), (.iload 2, 10, []), (.invokestatic 235, 11, [2, 0, 1, 2, 1]), (.ifCond .eq 0, 12, [0, 18]), (.iload 1, 13, []), (.iconst (1), 14, []), (.iload 2, 15, []), (.ishl, 16, []), (.ior, 17, []), (.istore 1, 18, []), (.iinc 2 (1), 19, []), (.goto 0, 20, [4]), (.iload 1, 21, []), (.ireturn, 22, [0])]
def k_Co_toastingSet : mCode := [(.iconst (0), 1, []), (.istore 1, 2, []), (.iconst (0), 3, []), (.istore 2, 4, []), (.iload 2, 5, []), (.aload 0, 6, []), (.getfield 0, 7, [0, 0]), (.if_icmp .eq 0, 8, [3, 20]), (.aload 0, 9, []), (.iload 2, 10, []), (.invokestatic 232, 11, [2, 0, 1, 2, 1]), (.ifCond .eq 0, 12, [0, 18]), (.iload 1, 13, []), (.iconst (1), 14, []), (.iload 2, 15, []), (.ishl, 16, []), (.ior, 17, []), (.istore 1, 18, []), (.iinc 2 (1), 19, []), (.goto 0, 20, [4]), (.iload 1, 21, []), (.ireturn, 22, [0])]
def k_Co_warmersOf : mCode := [(.iconst (0), 1, []), (.istore 2, 2, []), (.iconst (0), 3, []), (.istore 3, 4, []), (.iload 3, 5, []), (.aload 0, 6, []), (.getfield 0, 7, [0, 0]), (.if_icmp .eq 0, 8, [3, 22]), (.aload 0, 9, []), (.getfield 7, 10, [0, 2]), (.iload 3, 11, []), (.iaload, 12, []), (.iload 1, 13, []), (.if_icmp .eq 0, 14, [1, 20]), (.iload 2, 15, []), (.iconst (1), 16, []), (.iload 3, 17, []), (.ishl, 18, []), (.ior, 19, []), (.istore 2, 20, []), (.iinc 3 (1), 21, []), (.goto 0, 22, [4]), (.iload 2, 23, []), (.ireturn, 24, [0])]
def k_Co_allWarmth : mCode := [(.iconst (0), 1, []), (.istore 1, 2, []), (.iconst (0), 3, []), (.istore 2, 4, []), (.iload 2, 5, []), (.aload 0, 6, []), (.getfield 0, 7, [0, 0]), (.if_icmp .eq 0, 8, [3, 17]), (.iload 1, 9, []), (.aload 0, 10, []), (.getfield 5, 11, [0, 2]), (.iload 2, 12, []), (.iaload, 13, []), (.iadd, 14, []), (.istore 1, 15, []), (.iinc 2 (1), 16, []), (.goto 0, 17, [4]), (.iload 1, 18, []), (.ireturn, 19, [0])]
def k_Co_allGlasses : mCode := [(.iconst (0), 1, []), (.istore 1, 2, []), (.iconst (0), 3, []), (.istore 2, 4, []), (.iload 2, 5, []), (.aload 0, 6, []), (.getfield 0, 7, [0, 0]), (.if_icmp .eq 0, 8, [3, 17]), (.iload 1, 9, []), (.aload 0, 10, []), (.getfield 6, 11, [0, 2]), (.iload 2, 12, []), (.iaload, 13, []), (.iadd, 14, []), (.istore 1, 15, []), (.iinc 2 (1), 16, []), (.goto 0, 17, [4]), (.iload 1, 18, []), (.ireturn, 19, [0])]
def k_Co_warmthAsOne : mCode := [(.sipush (0), 1, []), (.lstore 1, 2, []), (.iconst (0), 3, []), (.istore 3, 4, []), (.iload 3, 5, []), (.aload 0, 6, []), (.getfield 0, 7, [0, 0]), (.if_icmp .eq 0, 8, [3, 20]), (.lload 1, 9, []), (.iconst (7), 10, []), (.lshl, 11, []), (.aload 0, 12, []), (.getfield 5, 13, [0, 2]), (.iload 3, 14, []), (.iaload, 15, []), (.i2l, 16, []), (.lor, 17, []), (.lstore 1, 18, []), (.iinc 3 (1), 19, []), (.goto 0, 20, [4]), (.lload 1, 21, []), (.lreturn, 22, [])]
def k_Co_canDrink : mCode := [(.aload 0, 1, []), (.aload 0, 2, []), (.getfield 7, 3, [0, 2]), (.iload 1, 4, []), (.iaload, 5, []), (.invokestatic 228, 6, [2, 0, 1, 2, 1]), (.ifCond .eq 0, 7, [0, 14]), (.aload 0, 8, []), (.getfield 6, 9, [0, 2]), (.iload 1, 10, []), (.iaload, 11, []), (.ifCond .eq 0, 12, [5, 14]), (.iconst (1), 13, []), (.goto 0, 14, [15]), (.iconst (0), 15, []), (.ireturn, 16, [3])]
def k_Co_letDrink : mCode := [(.aload 0, 1, []), (.getfield 7, 2, [0, 2]), (.iload 1, 3, []), (.iaload, 4, []), (.istore 2, 5, []), (.aload 0, 6, []), (.getfield 2, 7, [0, 2]), (.iconst (5), 8, []), (.iaload, 9, []), (.aload 0, 10, []), (.getfield 4, 11, [0, 2]), (.iload 1, 12, []), (.iaload, 13, []), (.aload 0, 14, []), (.iload 1, 15, []), (.iload 2, 16, []), (.invokestatic 233, 17, [3, 0, 1, 3, 1]), (.aload 0, 18, []), (.getfield 2, 19, [0, 2]), (.iconst (6), 20, []), (.iaload, 21, []), (.invokestatic 75, 22, [4, 0, 1, 5, 0]), (.istore 3, 23, []), (.aload 0, 24, []), (.getfield 6, 25, [0, 2]), (.iload 1, 26, []), (.dup2, 27, []), (.iaload, 28, []), (.iconst (1), 29, []), (.isub, 30, []), (.iastore, 31, []), (.aload 0, 32, []), (.getfield 5, 33, [0, 2]), (.iload 2, 34, []), (.iconst (99), 35, []), (.aload 0, 36, []), (.getfield 5, 37, [0, 2]), (.iload 2, 38, []), (.iaload, 39, []), (.iload 3, 40, []), (.iadd, 41, []), (.dsub, 42, []), (.iastore, 43, []), (.aload 0, 44, []), (.getfield 5, 45, [0, 2]), (.iload 2, 46, []), (.iaload, 47, []), (.ireturn, 48, [0])]
def k_Co_hasNights : mCode := [(.aload 0, 1, []), (.getfield 1, 2, [0, 0]), (.iload 1, 3, []), (.iadd, 4, []), (.iconst (9999), 5, []), (.if_icmp .eq 0, 6, [4, 8]), (.iconst (1), 7, []), (.goto 0, 8, [9]), (.iconst (0), 9, []), (.ireturn, 10, [3])]
def k_Co_warmthIn : mCode := [(.iconst (0), 1, []), (.aload 0, 2, []), (.getfield 5, 3, [0, 2]), (.iload 1, 4, []), (.iaload, 5, []), (.iload 2, 6, []), (.aload 0, 7, []), (.getfield 2, 8, [0, 2]), (.iconst (4), 9, []), (.iaload, 10, []), (.imul, 11, []), (.isub, 12, []), (.dadd, 13, []), (.ireturn, 14, [0])]
def k_Co_passNights : mCode := [(.aload 0, 1, []), (.dup, 2, []), (.getfield 1, 3, [0, 0]), (.iload 1, 4, []), (.iadd, 5, []), (.putfield 1, 6, [0, 0]), (.iconst (0), 7, []), (.istore 2, 8, []), (.iload 2, 9, []), (.aload 0, 10, []), (.getfield 0, 11, [0, 0]), (.if_icmp .eq 0, 12, [3, 22]), (.aload 0, 13, []), (.getfield 5, 14, [0, 2]), (.iload 2, 15, []), (.aload 0, 16, []), (.iload 2, 17, []), (.iload 1, 18, []), (.invokestatic 245, 19, [3, 0, 1, 3, 1]), (.iastore, 20, []), (.iinc 2 (1), 21, []), (.goto 0, 22, [8]), (.return_, 23, [])]
def k_Co_passEvening : mCode := [(.iconst (0), 1, []), (.istore 2, 2, []), (.iload 2, 3, []), (.aload 0, 4, []), (.getfield 0, 5, [0, 0]), (.if_icmp .eq 0, 6, [3, 13]), (.aload 0, 7, []), (.getfield 9, 8, [0, 2]), (.iload 2, 9, []), (.iconst (0), 10, []), (.iastore, 11, []), (.iinc 2 (1), 12, []), (.goto 0, 13, [2]), (.iconst (0), 14, []), (.istore 2, 15, []), (.iconst (0), 16, []), (.istore 3, 17, []), (.iload 3, 18, []), (.aload 0, 19, []), (.getfield 0, 20, [0, 0]), (.if_icmp .eq 0, 21, [3, 56]), (.iload 3, 22, []), (.iload 1, 23, []), (.if_icmp .eq 0, 24, [0, 54]), (.aload 0, 25, []), (.iload 3, 26, []), (.invokestatic 235, 27, [2, 0, 1, 2, 1]), (.ifCond .eq 0, 28, [0, 54]), (.aload 0, 29, []), (.aload 0, 30, []), (.getfield 7, 31, [0, 2]), (.iload 3, 32, []), (.iaload, 33, []), (.invokestatic 228, 34, [2, 0, 1, 2, 1]), (.ifCond .eq 0, 35, [0, 54]), (.aload 0, 36, []), (.getfield 9, 37, [0, 2]), (.aload 0, 38, []), (.getfield 7, 39, [0, 2]), (.iload 3, 40, []), (.iaload, 41, []), (.dup2, 42, []), (.iaload, 43, []), (.aload 0, 44, []), (.iload 3, 45, []), (.invokestatic 234, 46, [2, 0, 1, 3, 1]), (.iadd, 47, []), (.iastore, 48, []), (.iload 2, 49, []), (.iconst (1), 50, []), (.iload 3, 51, []), (.ishl, 52, []), (.ior, 53, []), (.istore 2, 54, []), (.iinc 3 (1), 55, []), (.goto 0, 56, [17]), (.iconst (0), 57, []), (.istore 3, 58, []), (.iload 3, 59, []), (.aload 0, 60, []), (.getfield 0, 61, [0, 0]), (.if_icmp .eq 0, 62, [3, 79]), (.aload 0, 63, []), (.getfield 5, 64, [0, 2]), (.iload 3, 65, []), (.iconst (99), 66, []), (.aload 0, 67, []), (.getfield 5, 68, [0, 2]), (.iload 3, 69, []), (.iaload, 70, []), (.aload 0, 71, []), (.getfield 9, 72, [0, 2]), (.iload 3, 73, []), (.iaload, 74, []), (.iadd, 75, []), (.dsub, 76, []), (.iastore, 77, []), (.iinc 3 (1), 78, []), (.goto 0, 79, [58]), (.aload 0, 80, []), (.iconst (1), 81, []), (.invokestatic 246, 82, [2, 0, 0, 3, 1]), (.iload 2, 83, []), (.ireturn, 84, [0])]
def k_Co_chainLength : mCode := [(.iconst (0), 1, []), (.istore 2, 2, []), (.iload 1, 3, []), (.istore 3, 4, []), (.iconst (0), 5, []), (.istore 4, 6, []), (.iload 4, 7, []), (.aload 0, 8, []), (.getfield 0, 9, [0, 0]), (.if_icmp .eq 0, 10, [3, 33]), (.aload 0, 11, []), (.iload 3, 12, []), (.invokestatic 228, 13, [2, 0, 1, 2, 1]), (.ifCond .eq 0, 14, [0, 33]), (.iload 2, 15, []), (.iconst (1), 16, []), (.iload 3, 17, []), (.ishl, 18, []), (.iand, 19, []), (.ifCond .eq 0, 20, [1, 33]), (.iload 2, 21, []), (.iconst (1), 22, []), (.iload 3, 23, []), (.ishl, 24, []), (.ior, 25, []), (.istore 2, 26, []), (.aload 0, 27, []), (.getfield 7, 28, [0, 2]), (.iload 3, 29, []), (.iaload, 30, []), (.istore 3, 31, []), (.iinc 4 (1), 32, []), (.goto 0, 33, [6]), (.iload 2, 34, []), (.invokestatic 0, 35, [1, 0, 1, 1, 0]), (.ireturn, 36, [0])]
def k_Co_alongChain : mCode := [(.iload 1, 1, []), (.istore 3, 2, []), (.iconst (0), 3, []), (.istore 4, 4, []), (.iload 4, 5, []), (.iload 2, 6, []), (.if_icmp .eq 0, 7, [3, 25]), (.iload 4, 8, []), (.aload 0, 9, []), (.getfield 0, 10, [0, 0]), (.if_icmp .eq 0, 11, [3, 25]), (.aload 0, 12, []), (.aload 0, 13, []), (.getfield 7, 14, [0, 2]), (.iload 3, 15, []), (.iaload, 16, []), (.invokestatic 228, 17, [2, 0, 1, 2, 1]), (.ifCond .eq 0, 18, [0, 25]), (.aload 0, 19, []), (.getfield 7, 20, [0, 2]), (.iload 3, 21, []), (.iaload, 22, []), (.istore 3, 23, []), (.iinc 4 (1), 24, []), (.goto 0, 25, [4]), (.iload 3, 26, []), (.ireturn, 27, [0])]
def k_Co_isInRing : mCode := [(.aload 0, 1, []), (.getfield 7, 2, [0, 2]), (.iload 1, 3, []), (.iaload, 4, []), (.istore 2, 5, []), (.iconst (0), 6, []), (.istore 3, 7, []), (.iload 3, 8, []), (.aload 0, 9, []), (.getfield 0, 10, [0, 0]), (.if_icmp .eq 0, 11, [3, 25]), (.aload 0, 12, []), (.iload 2, 13, []), (.invokestatic 228, 14, [2, 0, 1, 2, 1]), (.ifCond .eq 0, 15, [0, 25]), (.iload 2, 16, []), (.iload 1, 17, []), (.if_icmp .eq 0, 18, [0, 25]), (.aload 0, 19, []), (.getfield 7, 20, [0, 2]), (.iload 2, 21, []), (.iaload, 22, []), (.istore 2, 23, []), (.iinc 3 (1), 24, []), (.goto 0, 25, [7]), (.iload 2, 26, []), (.iload 1, 27, []), (.if_icmp .eq 0, 28, [1, 30]), (.iconst (1), 29, []), (.goto 0, 30, [31]), (.iconst (0), 31, []), (.ireturn, 32, [3])]
def k_Co_leadsRing : mCode := [(.aload 0, 1, []), (.getfield 7, 2, [0, 2]), (.iload 1, 3, []), (.iaload, 4, []), (.istore 2, 5, []), (.iconst (0), 6, []), (.istore 3, 7, []), (.iload 3, 8, []), (.aload 0, 9, []), (.getfield 0, 10, [0, 0]), (.if_icmp .eq 0, 11, [3, 25]), (.aload 0, 12, []), (.iload 2, 13, []), (.invokestatic 228, 14, [2, 0, 1, 2, 1]), (.ifCond .eq 0, 15, [0, 25]), (.iload 2, 16, []), (.iload 1, 17, []), (.if_icmp .eq 0, 18, [5, 25]), (.aload 0, 19, []), (.getfield 7, 20, [0, 2]), (.iload 2, 21, []), (.iaload, 22, []), (.istore 2, 23, []), (.iinc 3 (1), 24, []), (.goto 0, 25, [7]), (.iload 2, 26, []), (.iload 1, 27, []), (.if_icmp .eq 0, 28, [1, 34]), (.aload 0, 29, []), (.iload 1, 30, []), (.invokestatic 250, 31, [2, 0, 1, 4, 1]), (.ifCond .eq 0, 32, [0, 34]), (.iconst (1), 33, []), (.goto 0, 34, [35]), (.iconst (0), 35, []), (.ireturn, 36, [3])]
def k_Co_drinksTo : mCode := [(.aload 0, 1, []), (.getfield 2, 2, [0, 2]), (.iconst (3), 3, []), (.iaload, 4, []), (.aload 0, 5, []), (.getfield 5, 6, [0, 2]), (.iload 1, 7, []), (.iaload, 8, []), (.isub, 9, []), (.istore 2, 10, []), (.aload 0, 11, []), (.iload 1, 12, []), (.invokestatic 238, 13, [2, 0, 1, 4, 1]), (.istore 3, 14, []), (.iconst (0), 15, []), (.istore 4, 16, []), (.iconst (0), 17, []), (.istore 5, 18, []), (.iload 5, 19, []), (.iconst (7), 20, []), (.if_icmp .eq 0, 21, [3, 71]), (.iload 2, 22, []), (.ifCond .eq 0, 23, [5, 71]), (.aload 0, 24, []), (.iload 3, 25, []), (.invokestatic 253, 26, [2, 0, 1, 5, 1]), (.istore 6, 27, []), (.iload 6, 28, []), (.iconst (-1), 29, []), (.if_icmp .eq 0, 30, [1, 32]), (.iconst (-1), 31, []), (.ireturn, 32, [0]), (.iload 3, 33, []), (.iconst (1), 34, []), (.iload 6, 35, []), (.ishl, 36, []), (.iconst (-1), 37, []), (.ixor, 38, []), (.iand, 39, []), (.istore 3, 40, []), (.iconst (1), 41, []), (.aload 0, 42, []), (.iload 6, 43, []), (.invokestatic 234, 44, [2, 0, 1, 3, 1]), (.dadd, 45, []), (.istore 7, 46, []), (.aload 0, 47, []), (.getfield 6, 48, [0, 2]), (.iload 6, 49, []), (.iaload, 50, []), (.iload 2, 51, []), (.iload 7, 52, []), (.iadd, 53, []), (.iconst (1), 54, []), (.isub, 55, []), (.iload 7, 56, []), (.idiv, 57, []), (.dsub, 58, []), (.istore 8, 59, []), (.iload 4, 60, []), (.iload 8, 61, []), (.iadd, 62, []), (.istore 4, 63, []), (.iload 2, 64, []), (.iload 8, 65, []), (.iload 7, 66, []), (.imul, 67, []), (.isub, 68, []), (.istore 2, 69, []), (.iinc 5 (1), 70, []), (.goto 0, 71, [18]), (.iload 2, 72, []), (.ifCond .eq 0, 73, [5, 75]), (.iconst (-1), 74, []), (.goto 0, 75, [76]), (.iload 4, 76, []), (.ireturn, 77, [0])]
def k_Co_warmestOf : mCode := [(.iconst (-1), 1, []), (.istore 2, 2, []), (.iconst (0), 3, []), (.istore 3, 4, []), (.iconst (0), 5, []), (.istore 4, 6, []), (.iload 4, 7, []), (.aload 0, 8, []), (.getfield 0, 9, [0, 0]), (.if_icmp .eq 0, 10, [3, 29]), (.iload 1, 11, []), (.iconst (1), 12, []), (.iload 4, 13, []), (.ishl, 14, []), (.iand, 15, []), (.ifCond .eq 0, 16, [0, 27]), (.aload 0, 17, []), (.iload 4, 18, []), (.invokestatic 234, 19, [2, 0, 1, 3, 1]), (.iload 3, 20, []), (.if_icmp .eq 0, 21, [5, 27]), (.iload 4, 22, []), (.istore 2, 23, []), (.aload 0, 24, []), (.iload 4, 25, []), (.invokestatic 234, 26, [2, 0, 1, 3, 1]), (.istore 3, 27, []), (.iinc 4 (1), 28, []), (.goto 0, 29, [6]), (.iload 2, 30, []), (.ireturn, 31, [0])]
def k_Co_mostLit : mCode := [(.iconst (0), 1, []), (.istore 2, 2, []), (.iload 2, 3, []), (.aload 0, 4, []), (.getfield 0, 5, [0, 0]), (.if_icmp .eq 0, 6, [3, 15]), (.aload 0, 7, []), (.getfield 9, 8, [0, 2]), (.iload 2, 9, []), (.aload 0, 10, []), (.iload 2, 11, []), (.invokestatic 252, 12, [2, 0, 1, 9, 1]), (.iastore, 13, []), (.iinc 2 (1), 14, []), (.goto 0, 15, [2]), (.iconst (0), 16, []), (.istore 2, 17, []), (.iconst (1), 18, []), (.istore 3, 19, []), (.iload 3, 20, []), (.iconst (1), 21, []), (.aload 0, 22, []), (.getfield 0, 23, [0, 0]), (.ishl, 24, []), (.if_icmp .eq 0, 25, [3, 39]), (.iload 3, 26, []), (.invokestatic 0, 27, [1, 0, 1, 1, 0]), (.iload 2, 28, []), (.invokestatic 0, 29, [1, 0, 1, 1, 0]), (.if_icmp .eq 0, 30, [5, 37]), (.aload 0, 31, []), (.iload 3, 32, []), (.iload 1, 33, []), (.invokestatic 255, 34, [3, 0, 1, 5, 1]), (.ifCond .eq 0, 35, [0, 37]), (.iload 3, 36, []), (.istore 2, 37, []), (.iinc 3 (1), 38, []), (.goto 0, 39, [19]), (.iload 2, 40, []), (.ireturn, 41, [0])]
def k_Co_canAllBeLit : mCode := [(.iconst (0), 1, []), (.istore 3, 2, []), (.iconst (0), 3, []), (.istore 4, 4, []), (.iload 4, 5, []), (.aload 0, 6, []), (.getfield 0, 7, [0, 0]), (.if_icmp .eq 0, 8, [3, 31]), (.iload 1, 9, []), (.iconst (1), 10, []), (.iload 4, 11, []), (.ishl, 12, []), (.iand, 13, []), (.ifCond .eq 0, 14, [0, 29]), (.aload 0, 15, []), (.getfield 9, 16, [0, 2]), (.iload 4, 17, []), (.iaload, 18, []), (.iconst (-1), 19, []), (.if_icmp .eq 0, 20, [1, 22]), (.iconst (0), 21, []), (.ireturn, 22, [3]), (.iload 3, 23, []), (.aload 0, 24, []), (.getfield 9, 25, [0, 2]), (.iload 4, 26, []), (.iaload, 27, []), (.iadd, 28, []), (.istore 3, 29, []), (.iinc 4 (1), 30, []), (.goto 0, 31, [4]), (.iload 3, 32, []), (.iload 2, 33, []), (.if_icmp .eq 0, 34, [4, 36]), (.iconst (1), 35, []), (.goto 0, 36, [37]), (.iconst (0), 37, []), (.ireturn, 38, [3])]
def k_Ga_init : mCode := [(.aload 0, 1, []), (.invokespecial 0, 2, []), (.aload 0, 3, []), (.new 0, 4, [10]), (.dup, 5, []), (.invokestatic 225, 6, [1, 0, 0, 1, 1]), (.putfield 0, 7, [1, 2]), (.aload 0, 8, []), (.iconst (0), 9, []), (.putfield 1, 10, [1, 0]), (.aload 0, 11, []), (.iconst (0), 12, []), (.putfield 2, 13, [1, 0]), (.aload 0, 14, []), (.iconst (-1), 15, []), (.putfield 3, 16, [1, 0]), (.return_, 17, [])]
def k_Ga_worth : mCode := [(.aload 0, 1, []), (.getfield 2, 2, [1, 0]), (.ireturn, 3, [0])]
def k_Ga_firstMove : mCode := [(.aload 0, 1, []), (.getfield 3, 2, [1, 0]), (.ireturn, 3, [0])]
def k_Ga_playOut : mCode := [(.aload 0, 1, []), (.getfield 0, 2, [1, 2]), (.aload 1, 3, []), (.invokestatic 227, 4, [2, 0, 0, 2, 1]), (.aload 0, 5, []), (.iload 2, 6, []), (.iconst (4), 7, []), (.dsub, 8, []), (.putfield 1, 9, [1, 0]), (.aload 0, 10, []), (.iconst (-1), 11, []), (.putfield 3, 12, [1, 0]), (.aload 0, 13, []), (.getfield 1, 14, [1, 0]), (.iconst (1), 15, []), (.if_icmp .eq 0, 16, [3, 21]), (.aload 0, 17, []), (.aload 0, 18, []), (.invokestatic 260, 19, [1, 0, 1, 1, 2]), (.putfield 2, 20, [1, 0]), (.return_, 21, []), (.aload 0, 22, []), (.iconst (-1), 23, []), (.putfield 2, 24, [1, 0]), (.aload 0, 25, []), (.getfield 0, 26, [1, 2]), (.getfield 0, 27, [0, 0]), (.iconst (1), 28, []), (.iadd, 29, []), (.istore 3, 30, []), (.iconst (0), 31, []), (.istore 4, 32, []), (.iload 4, 33, []), (.aload 0, 34, []), (.getfield 0, 35, [1, 2]), (.getfield 0, 36, [0, 0]), (.if_icmp .eq 0, 37, [3, 62]), (.aload 0, 38, []), (.getfield 0, 39, [1, 2]), (.iload 4, 40, []), (.invokestatic 242, 41, [2, 0, 1, 2, 1]), (.ifCond .eq 0, 42, [0, 60]), (.aload 0, 43, []), (.iload 4, 44, []), (.iconst (0), 45, []), (.aload 0, 46, []), (.getfield 2, 47, [1, 0]), (.iload 3, 48, []), (.invokestatic 262, 49, [5, 0, 1, 8, 2]), (.istore 5, 50, []), (.iload 5, 51, []), (.aload 0, 52, []), (.getfield 2, 53, [1, 0]), (.if_icmp .eq 0, 54, [5, 60]), (.aload 0, 55, []), (.iload 5, 56, []), (.putfield 2, 57, [1, 0]), (.aload 0, 58, []), (.iload 4, 59, []), (.putfield 3, 60, [1, 0]), (.iinc 4 (1), 61, []), (.goto 0, 62, [32]), (.aload 0, 63, []), (.iconst (1), 64, []), (.aload 0, 65, []), (.getfield 2, 66, [1, 0]), (.iload 3, 67, []), (.invokestatic 263, 68, [4, 0, 1, 8, 2]), (.istore 4, 69, []), (.iload 4, 70, []), (.aload 0, 71, []), (.getfield 2, 72, [1, 0]), (.if_icmp .eq 0, 73, [5, 79]), (.aload 0, 74, []), (.iload 4, 75, []), (.putfield 2, 76, [1, 0]), (.aload 0, 77, []), (.iconst (-1), 78, []), (.putfield 3, 79, [1, 0]), (.return_, 80, [])]
def k_Ga_litCount : mCode := [(.aload 0, 1, []), (.getfield 0, 2, [1, 2]), (.invokestatic 236, 3, [1, 0, 1, 3, 1]), (.invokestatic 0, 4, [1, 0, 1, 1, 0]), (.ireturn, 5, [0])]
def k_Ga_butler : mCode := [(.iload 1, 1, []), (.aload 0, 2, []), (.getfield 1, 3, [1, 0]), (.if_icmp .eq 0, 4, [2, 7]), (.aload 0, 5, []), (.invokestatic 260, 6, [1, 0, 1, 1, 2]), (.ireturn, 7, [0]), (.aload 0, 8, []), (.iload 1, 9, []), (.iconst (1), 10, []), (.iadd, 11, []), (.iload 2, 12, []), (.iload 3, 13, []), (.invokestatic 263, 14, [4, 0, 1, 8, 2]), (.istore 4, 15, []), (.iconst (0), 16, []), (.istore 5, 17, []), (.iload 5, 18, []), (.aload 0, 19, []), (.getfield 0, 20, [1, 2]), (.getfield 0, 21, [0, 0]), (.if_icmp .eq 0, 22, [3, 43]), (.iload 4, 23, []), (.iload 3, 24, []), (.if_icmp .eq 0, 25, [3, 43]), (.aload 0, 26, []), (.getfield 0, 27, [1, 2]), (.iload 5, 28, []), (.invokestatic 242, 29, [2, 0, 1, 2, 1]), (.ifCond .eq 0, 30, [0, 41]), (.iload 4, 31, []), (.aload 0, 32, []), (.iload 5, 33, []), (.iload 1, 34, []), (.iload 2, 35, []), (.iload 4, 36, []), (.dadd, 37, []), (.iload 3, 38, []), (.invokestatic 262, 39, [5, 0, 1, 8, 2]), (.dadd, 40, []), (.istore 4, 41, []), (.iinc 5 (1), 42, []), (.goto 0, 43, [17]), (.iload 4, 44, []), (.ireturn, 45, [0])]
def k_Ga_behindDrink : mCode := [(.aload 0, 1, []), (.getfield 0, 2, [1, 2]), (.getfield 7, 3, [0, 2]), (.iload 1, 4, []), (.iaload, 5, []), (.istore 5, 6, []), (.aload 0, 7, []), (.getfield 0, 8, [1, 2]), (.getfield 5, 9, [0, 2]), (.iload 5, 10, []), (.iaload, 11, []), (.istore 6, 12, []), (.aload 0, 13, []), (.getfield 0, 14, [1, 2]), (.iload 1, 15, []), (.invokestatic 243, 16, [2, 0, 1, 4, 1]), (.pop, 17, []), (.aload 0, 18, []), (.iload 2, 19, []), (.iconst (1), 20, []), (.iadd, 21, []), (.iload 3, 22, []), (.iload 4, 23, []), (.invokestatic 263, 24, [4, 0, 1, 8, 2]), (.istore 7, 25, []), (.aload 0, 26, []), (.getfield 0, 27, [1, 2]), (.getfield 6, 28, [0, 2]), (.iload 1, 29, []), (.dup2, 30, []), (.iaload, 31, []), (.iconst (1), 32, []), (.iadd, 33, []), (.iastore, 34, []), (.aload 0, 35, []), (.getfield 0, 36, [1, 2]), (.getfield 5, 37, [0, 2]), (.iload 5, 38, []), (.iload 6, 39, []), (.iastore, 40, []), (.iload 7, 41, []), (.ireturn, 42, [0])]
def k_Ga_draught : mCode := [(.iload 1, 1, []), (.aload 0, 2, []), (.getfield 1, 3, [1, 0]), (.if_icmp .eq 0, 4, [2, 7]), (.aload 0, 5, []), (.invokestatic 260, 6, [1, 0, 1, 1, 2]), (.ireturn, 7, [0]), (.aload 0, 8, []), (.iload 1, 9, []), (.iconst (1), 10, []), (.iadd, 11, []), (.iload 2, 12, []), (.iload 3, 13, []), (.invokestatic 261, 14, [4, 1, 1, 6, 2]), (.istore 4, 15, []), (.iconst (0), 16, []), (.istore 5, 17, []), (.iload 5, 18, []), (.aload 0, 19, []), (.getfield 0, 20, [1, 2]), (.getfield 0, 21, [0, 0]), (.if_icmp .eq 0, 22, [3, 66]), (.iload 4, 23, []), (.iload 2, 24, []), (.if_icmp .eq 0, 25, [5, 66]), (.aload 0, 26, []), (.getfield 0, 27, [1, 2]), (.getfield 5, 28, [0, 2]), (.iload 5, 29, []), (.iaload, 30, []), (.istore 6, 31, []), (.aload 0, 32, []), (.getfield 0, 33, [1, 2]), (.iload 5, 34, []), (.iconst (1), 35, []), (.invokestatic 245, 36, [3, 0, 1, 3, 1]), (.istore 7, 37, []), (.iload 7, 38, []), (.iload 6, 39, []), (.if_icmp .eq 0, 40, [3, 64]), (.aload 0, 41, []), (.getfield 0, 42, [1, 2]), (.getfield 5, 43, [0, 2]), (.iload 5, 44, []), (.iload 7, 45, []), (.iastore, 46, []), (.iload 4, 47, []), (.aload 0, 48, []), (.iload 1, 49, []), (.iconst (1), 50, []), (.iadd, 51, []), (.iload 2, 52, []), (.iload 3, 53, []), (.iload 4, 54, []), (.dsub, 55, []), (.invokestatic 261, 56, [4, 1, 1, 6, 2]), (.dsub, 57, []), (.istore 4, 58, []), (.aload 0, 59, []), (.getfield 0, 60, [1, 2]), (.getfield 5, 61, [0, 2]), (.iload 5, 62, []), (.iload 6, 63, []), (.iastore, 64, []), (.iinc 5 (1), 65, []), (.goto 0, 66, [17]), (.iload 4, 67, []), (.ireturn, 68, [0])]
def k_Gl_init : mCode := [(.aload 0, 1, []), (.invokespecial 0, 2, []), (.aload 0, 3, []), (.iconst (13), 4, []), (.newarray .long, 5, [1]), (.putfield 0, 6, [2, 2]), (.aload 0, 7, []), (.iconst (0), 8, []), (.putfield 1, 9, [2, 0]), (.return_, 10, [])]
def k_Gl_taste : mCode := [(.aload 0, 1, []), (.iload 1, 2, []), (.iconst (12), 3, []), (.dsub, 4, []), (.putfield 1, 5, [2, 0]), (.iconst (0), 6, []), (.istore 3, 7, []), (.iload 3, 8, []), (.iconst (12), 9, []), (.if_icmp .eq 0, 10, [4, 17]), (.aload 0, 11, []), (.getfield 0, 12, [2, 2]), (.iload 3, 13, []), (.sipush (0), 14, []), (.lastore, 15, []), (.iinc 3 (1), 16, []), (.goto 0, 17, [7]), (.aload 0, 18, []), (.getfield 0, 19, [2, 2]), (.iconst (0), 20, []), (.sipush (1), 21, []), (.lastore, 22, []), (.iconst (1), 23, []), (.istore 3, 24, []), (.iload 3, 25, []), (.aload 0, 26, []), (.getfield 1, 27, [2, 0]), (.if_icmp .eq 0, 28, [4, 70]), (.iload 3, 29, []), (.istore 4, 30, []), (.iload 4, 31, []), (.ifCond .eq 0, 32, [5, 57]), (.aload 0, 33, []), (.getfield 0, 34, [2, 2]), (.iload 4, 35, []), (.aload 0, 36, []), (.getfield 0, 37, [2, 2]), (.iload 4, 38, []), (.laload, 39, []), (.iconst (16), 40, []), (.iload 2, 41, []), (.isub, 42, []), (.i2l, 43, []), (.lmul, 44, []), (.aload 0, 45, []), (.getfield 0, 46, [2, 2]), (.iload 4, 47, []), (.iconst (1), 48, []), (.isub, 49, []), (.laload, 50, []), (.iload 2, 51, []), (.i2l, 52, []), (.lmul, 53, []), (.ladd, 54, []), (.lastore, 55, []), (.iinc 4 (-1), 56, []), (.goto 0, 57, [30]), (.aload 0, 58, []), (.getfield 0, 59, [2, 2]), (.iconst (0), 60, []), (.dup2, 61, []), (.laload, 62, []), (.iconst (16), 63, []), (.iload 2, 64, []), (.isub, 65, []), (.i2l, 66, []), (.lmul, 67, []), (.lastore, 68, []), (.iinc 3 (1), 69, []), (.goto 0, 70, [24]), (.return_, 71, [])]
def k_Gl_all : mCode := [(.sipush (1), 1, []), (.iconst (4), 2, []), (.aload 0, 3, []), (.getfield 1, 4, [2, 0]), (.imul, 5, []), (.lshl, 6, []), (.lreturn, 7, [])]
def k_Gl_below : mCode := [(.sipush (0), 1, []), (.lstore 2, 2, []), (.iconst (0), 3, []), (.istore 4, 4, []), (.iload 4, 5, []), (.iload 1, 6, []), (.if_icmp .eq 0, 7, [3, 20]), (.iload 4, 8, []), (.aload 0, 9, []), (.getfield 1, 10, [2, 0]), (.if_icmp .eq 0, 11, [4, 20]), (.lload 2, 12, []), (.aload 0, 13, []), (.getfield 0, 14, [2, 2]), (.iload 4, 15, []), (.laload, 16, []), (.ladd, 17, []), (.lstore 2, 18, []), (.iinc 4 (1), 19, []), (.goto 0, 20, [4]), (.lload 2, 21, []), (.lreturn, 22, [])]
def k_Gl_from : mCode := [(.aload 0, 1, []), (.invokestatic 266, 2, [1, 0, 2, 1, 3]), (.aload 0, 3, []), (.iload 1, 4, []), (.invokestatic 267, 5, [2, 0, 2, 5, 3]), (.lsub, 6, []), (.lreturn, 7, [])]
def k_Li_init : mCode := [(.aload 0, 1, []), (.invokespecial 0, 2, []), (.aload 0, 3, []), (.iconst (60), 4, []), (.newarray .int, 5, [0]), (.putfield 0, 6, [3, 2]), (.aload 0, 7, []), (.iconst (0), 8, []), (.putfield 1, 9, [3, 0]), (.aload 0, 10, []), (.iconst (0), 11, []), (.putfield 2, 12, [3, 0]), (.aload 0, 13, []), (.iconst (0), 14, []), (.putfield 3, 15, [3, 0]), (.aload 0, 16, []), (.iconst (0), 17, []), (.putfield 4, 18, [3, 0]), (.aload 0, 19, []), (.iconst (0), 20, []), (.putfield 5, 21, [3, 0]), (.aload 0, 22, []), (.iconst (0), 23, []), (.putfield 6, 24, [3, 0]), (.aload 0, 25, []), (.iconst (0), 26, []), (.putfield 7, 27, [3, 3]), (.return_, 28, [])]
def k_Li_runThrough : mCode := [(.aload 0, 1, []), (.iload 3, 2, []), (.putfield 1, 3, [3, 0]), (.aload 0, 4, []), (.iconst (0), 5, []), (.putfield 2, 6, [3, 0]), (.aload 0, 7, []), (.iconst (0), 8, []), (.putfield 3, 9, [3, 0]), (.aload 0, 10, []), (.iconst (0), 11, []), (.putfield 4, 12, [3, 0]), (.aload 0, 13, []), (.iconst (0), 14, []), (.putfield 5, 15, [3, 0]), (.aload 0, 16, []), (.iconst (0), 17, []), (.putfield 6, 18, [3, 0]), (.aload 0, 19, []), (.iconst (0), 20, []), (.putfield 7, 21, [3, 3]), (.iconst (0), 22, []), (.istore 4, 23, []), (.iconst (0), 24, []), (.istore 5, 25, []), (.iload 5, 26, []), (.iconst (1000000), 27, []), (.if_icmp .eq 0, 28, [3, 66]), (.iload 4, 29, []), (.aload 2, 30, []), (.getfield 6, 31, [7, 0]), (.if_icmp .eq 0, 32, [3, 66]), (.aload 2, 33, []), (.getfield 0, 34, [7, 2]), (.iload 4, 35, []), (.iaload, 36, []), (.iconst (22), 37, []), (.if_icmp .eq 0, 38, [1, 44]), (.aload 0, 39, []), (.aload 2, 40, []), (.iload 4, 41, []), (.invokestatic 271, 42, [3, 0, 1, 4, 4]), (.istore 4, 43, []), (.goto 0, 44, [64]), (.aload 0, 45, []), (.getfield 2, 46, [3, 0]), (.iconst (300), 47, []), (.if_icmp .eq 0, 48, [2, 52]), (.aload 0, 49, []), (.iconst (1), 50, []), (.putfield 7, 51, [3, 3]), (.return_, 52, []), (.aload 0, 53, []), (.dup, 54, []), (.getfield 2, 55, [3, 0]), (.iconst (1), 56, []), (.iadd, 57, []), (.putfield 2, 58, [3, 0]), (.aload 0, 59, []), (.aload 1, 60, []), (.aload 2, 61, []), (.iload 4, 62, []), (.invokestatic 272, 63, [4, 0, 1, 5, 4]), (.istore 4, 64, []), (.iinc 5 (1), 65, []), (.goto 0, 66, [25]), (.return_, 67, [])]
def k_Li_behindEnd : mCode := [(.aload 1, 1, []), (.getfield 5, 2, [7, 2]), (.iload 2, 3, []), (.iaload, 4, []), (.istore 3, 5, []), (.aload 1, 6, []), (.getfield 0, 7, [7, 2]), (.iload 3, 8, []), (.iaload, 9, []), (.iconst (21), 10, []), (.if_icmp .eq 0, 11, [1, 29]), (.aload 0, 12, []), (.getfield 0, 13, [3, 2]), (.iload 3, 14, []), (.iaload, 15, []), (.iconst (1), 16, []), (.if_icmp .eq 0, 17, [5, 29]), (.aload 0, 18, []), (.getfield 0, 19, [3, 2]), (.iload 3, 20, []), (.dup2, 21, []), (.iaload, 22, []), (.iconst (1), 23, []), (.isub, 24, []), (.iastore, 25, []), (.iload 3, 26, []), (.iconst (1), 27, []), (.iadd, 28, []), (.ireturn, 29, [0]), (.iload 2, 30, []), (.iconst (1), 31, []), (.iadd, 32, []), (.ireturn, 33, [0])]
def k_Li_behindStep : mCode := [(.aload 2, 1, []), (.getfield 1, 2, [7, 2]), (.iload 3, 3, []), (.iaload, 4, []), (.istore 4, 5, []), (.aload 2, 6, []), (.getfield 0, 7, [7, 2]), (.iload 3, 8, []), (.iaload, 9, []), (.tableswitch 0 (14) 0 #[], 10, [66, 10, 15, 23, 27, 36, 40, 66, 57]), (.aload 0, 11, []), (.aload 1, 12, []), (.iload 4, 13, []), (.invokestatic 273, 14, [3, 0, 0, 3, 4]), (.goto 0, 15, [69]), (.aload 0, 16, []), (.aload 1, 17, []), (.aload 2, 18, []), (.getfield 4, 19, [7, 2]), (.iload 3, 20, []), (.iaload, 21, []), (.invokestatic 274, 22, [3, 0, 0, 3, 4]), (.goto 0, 23, [69]), (.aload 0, 24, []), (.aload 1, 25, []), (.invokestatic 275, 26, [2, 0, 0, 2, 4]), (.goto 0, 27, [69]), (.aload 0, 28, []), (.aload 1, 29, []), (.iload 4, 30, []), (.aload 2, 31, []), (.getfield 4, 32, [7, 2]), (.iload 3, 33, []), (.iaload, 34, []), (.invokestatic 276, 35, [4, 0, 0, 4, 4]), (.goto 0, 36, [69]), (.aload 0, 37, []), (.aload 1, 38, []), (.invokestatic 277, 39, [2, 0, 0, 3, 4]), (.goto 0, 40, [69]), (.aload 0, 41, []), (.aload 1, 42, []), (.aload 2, 43, []), (.iload 3, 44, []), (.invokestatic 279, 45, [4, 0, 1, 6, 4]), (.ifCond .eq 0, 46, [0, 50]), (.iload 3, 47, []), (.iconst (1), 48, []), (.iadd, 49, []), (.goto 0, 50, [56]), (.aload 2, 51, []), (.getfield 5, 52, [7, 2]), (.iload 3, 53, []), (.iaload, 54, []), (.iconst (1), 55, []), (.iadd, 56, []), (.ireturn, 57, [0]), (.aload 0, 58, []), (.getfield 0, 59, [3, 2]), (.iload 3, 60, []), (.aload 2, 61, []), (.getfield 4, 62, [7, 2]), (.iload 3, 63, []), (.iaload, 64, []), (.iastore, 65, []), (.goto 0, 66, [69]), (.aload 2, 67, []), (.getfield 6, 68, [7, 0]), (.ireturn, 69, [0]), (.iload 3, 70, []), (.iconst (1), 71, []), (.iadd, 72, []), (.ireturn, 73, [0])]
def k_Li_liveDrink : mCode := [(.aload 1, 1, []), (.iload 2, 2, []), (.invokestatic 228, 3, [2, 0, 1, 2, 1]), (.ifCond .eq 0, 4, [0, 8]), (.aload 1, 5, []), (.iload 2, 6, []), (.invokestatic 242, 7, [2, 0, 1, 2, 1]), (.ifCond .eq 0, 8, [1, 15]), (.aload 0, 9, []), (.dup, 10, []), (.getfield 3, 11, [3, 0]), (.iconst (1), 12, []), (.iadd, 13, []), (.putfield 3, 14, [3, 0]), (.return_, 15, []), (.aload 1, 16, []), (.iload 2, 17, []), (.invokestatic 243, 18, [2, 0, 1, 4, 1]), (.pop, 19, []), (.aload 0, 20, []), (.dup, 21, []), (.getfield 5, 22, [3, 0]), (.iconst (1), 23, []), (.iadd, 24, []), (.putfield 5, 25, [3, 0]), (.return_, 26, [])]
def k_Li_liveNights : mCode := [(.aload 1, 1, []), (.iload 2, 2, []), (.invokestatic 244, 3, [2, 0, 1, 2, 1]), (.ifCond .eq 0, 4, [1, 11]), (.aload 0, 5, []), (.dup, 6, []), (.getfield 3, 7, [3, 0]), (.iconst (1), 8, []), (.iadd, 9, []), (.putfield 3, 10, [3, 0]), (.return_, 11, []), (.aload 1, 12, []), (.iload 2, 13, []), (.invokestatic 246, 14, [2, 0, 0, 3, 1]), (.aload 0, 15, []), (.dup, 16, []), (.getfield 4, 17, [3, 0]), (.iload 2, 18, []), (.iadd, 19, []), (.putfield 4, 20, [3, 0]), (.return_, 21, [])]
def k_Li_liveEvening : mCode := [(.aload 1, 1, []), (.iconst (1), 2, []), (.invokestatic 244, 3, [2, 0, 1, 2, 1]), (.ifCond .eq 0, 4, [1, 11]), (.aload 0, 5, []), (.dup, 6, []), (.getfield 3, 7, [3, 0]), (.iconst (1), 8, []), (.iadd, 9, []), (.putfield 3, 10, [3, 0]), (.return_, 11, []), (.aload 1, 12, []), (.iconst (-1), 13, []), (.invokestatic 247, 14, [2, 0, 1, 4, 1]), (.pop, 15, []), (.aload 0, 16, []), (.dup, 17, []), (.getfield 4, 18, [3, 0]), (.iconst (1), 19, []), (.iadd, 20, []), (.putfield 4, 21, [3, 0]), (.aload 0, 22, []), (.dup, 23, []), (.getfield 6, 24, [3, 0]), (.iconst (1), 25, []), (.iadd, 26, []), (.putfield 6, 27, [3, 0]), (.return_, 28, [])]
def k_Li_liveFill : mCode := [(.aload 1, 1, []), (.iload 2, 2, []), (.invokestatic 228, 3, [2, 0, 1, 2, 1]), (.ifCond .eq 0, 4, [0, 10]), (.aload 1, 5, []), (.getfield 6, 6, [0, 2]), (.iload 2, 7, []), (.iaload, 8, []), (.iload 3, 9, []), (.if_icmp .eq 0, 10, [1, 17]), (.aload 0, 11, []), (.dup, 12, []), (.getfield 3, 13, [3, 0]), (.iconst (1), 14, []), (.iadd, 15, []), (.putfield 3, 16, [3, 0]), (.return_, 17, []), (.aload 1, 18, []), (.getfield 6, 19, [0, 2]), (.iload 2, 20, []), (.iload 3, 21, []), (.iastore, 22, []), (.return_, 23, [])]
def k_Li_liveAny : mCode := [(.aload 1, 1, []), (.getfield 0, 2, [0, 0]), (.iconst (1), 3, []), (.if_icmp .eq 0, 4, [3, 11]), (.aload 0, 5, []), (.dup, 6, []), (.getfield 3, 7, [3, 0]), (.iconst (1), 8, []), (.iadd, 9, []), (.putfield 3, 10, [3, 0]), (.return_, 11, []), (.aload 0, 12, []), (.aload 1, 13, []), (.getfield 0, 14, [0, 0]), (.invokestatic 278, 15, [2, 0, 1, 2, 4]), (.istore 2, 16, []), (.aload 0, 17, []), (.iconst (16), 18, []), (.invokestatic 278, 19, [2, 0, 1, 2, 4]), (.aload 1, 20, []), (.getfield 2, 21, [0, 2]), (.iconst (1), 22, []), (.iaload, 23, []), (.if_icmp .eq 0, 24, [3, 29]), (.aload 0, 25, []), (.aload 1, 26, []), (.iload 2, 27, []), (.invokestatic 273, 28, [3, 0, 0, 3, 4]), (.goto 0, 29, [33]), (.aload 0, 30, []), (.aload 1, 31, []), (.iconst (1), 32, []), (.invokestatic 274, 33, [3, 0, 0, 3, 4]), (.return_, 34, [])]
def k_Li_drawBy : mCode := [(.aload 0, 1, []), (.aload 0, 2, []), (.getfield 1, 3, [3, 0]), (.iconst (3261), 4, []), (.imul, 5, []), (.iconst (11491), 6, []), (.iadd, 7, []), (.iconst (65536), 8, []), (.irem, 9, []), (.putfield 1, 10, [3, 0]), (.aload 0, 11, []), (.getfield 1, 12, [3, 0]), (.iconst (8), 13, []), (.idiv, 14, []), (.iconst (1), 15, []), (.iload 1, 16, []), (.dadd, 17, []), (.irem, 18, []), (.ireturn, 19, [0])]
def k_Li_holds : mCode := [(.aload 2, 1, []), (.getfield 1, 2, [7, 2]), (.iload 3, 3, []), (.iaload, 4, []), (.istore 4, 5, []), (.aload 1, 6, []), (.iload 4, 7, []), (.invokestatic 228, 8, [2, 0, 1, 2, 1]), (.ifCond .eq 0, 9, [1, 11]), (.iconst (0), 10, []), (.ireturn, 11, [3]), (.aload 2, 12, []), (.getfield 2, 13, [7, 2]), (.iload 3, 14, []), (.iaload, 15, []), (.iconst (20), 16, []), (.if_icmp .eq 0, 17, [1, 21]), (.aload 1, 18, []), (.iload 4, 19, []), (.invokestatic 235, 20, [2, 0, 1, 2, 1]), (.ireturn, 21, [3]), (.aload 2, 22, []), (.getfield 2, 23, [7, 2]), (.iload 3, 24, []), (.iaload, 25, []), (.iconst (10), 26, []), (.if_icmp .eq 0, 27, [1, 32]), (.aload 1, 28, []), (.getfield 5, 29, [0, 2]), (.iload 4, 30, []), (.iaload, 31, []), (.goto 0, 32, [36]), (.aload 1, 33, []), (.getfield 6, 34, [0, 2]), (.iload 4, 35, []), (.iaload, 36, []), (.istore 5, 37, []), (.aload 2, 38, []), (.getfield 3, 39, [7, 2]), (.iload 3, 40, []), (.iaload, 41, []), (.lookupswitch 0 #[], 42, [62, 60, 42, 62, 52]), (.iload 5, 43, []), (.aload 2, 44, []), (.getfield 4, 45, [7, 2]), (.iload 3, 46, []), (.iaload, 47, []), (.if_icmp .eq 0, 48, [3, 50]), (.iconst (1), 49, []), (.goto 0, 50, [51]), (.iconst (0), 51, []), (.ireturn, 52, [3]), (.iload 5, 53, []), (.aload 2, 54, []), (.getfield 4, 55, [7, 2]), (.iload 3, 56, []), (.iaload, 57, []), (.if_icmp .eq 0, 58, [5, 60]), (.iconst (1), 59, []), (.goto 0, 60, [61]), (.iconst (0), 61, []), (.ireturn, 62, [3]), (.iload 5, 63, []), (.aload 2, 64, []), (.getfield 4, 65, [7, 2]), (.iload 3, 66, []), (.iaload, 67, []), (.if_icmp .eq 0, 68, [1, 70]), (.iconst (1), 69, []), (.goto 0, 70, [71]), (.iconst (0), 71, []), (.ireturn, 72, [3])]
def k_MR_init : mCode := [(.aload 0, 1, []), (.invokespecial 0, 2, []), (.aload 0, 3, []), (.new 0, 4, [10]), (.dup, 5, []), (.invokestatic 225, 6, [1, 0, 0, 1, 1]), (.putfield 1, 7, [4, 2]), (.aload 0, 8, []), (.iconst (0), 9, []), (.putfield 2, 10, [4, 0]), (.aload 0, 11, []), (.aload 1, 12, []), (.putfield 0, 13, [4, 2]), (.return_, 14, [])]
def k_MR_draft : mCode := [(.aload 0, 1, []), (.getfield 1, 2, [4, 2]), (.areturn, 3, [])]
def k_MR_readMap : mCode := [(.aload 0, 1, []), (.getfield 1, 2, [4, 2]), (.invokestatic 226, 3, [1, 0, 0, 1, 1]), (.aload 0, 4, []), (.iconst (0), 5, []), (.putfield 2, 6, [4, 0]), (.aload 0, 7, []), (.getfield 0, 8, [4, 2]), (.iload 1, 9, []), (.invokestatic 300, 10, [2, 0, 0, 2, 7]), (.iconst (0), 11, []), (.istore 2, 12, []), (.iload 2, 13, []), (.iconst (900), 14, []), (.if_icmp .eq 0, 15, [4, 26]), (.aload 0, 16, []), (.getfield 0, 17, [4, 2]), (.invokestatic 301, 18, [1, 0, 1, 1, 7]), (.ifCond .eq 0, 19, [1, 26]), (.aload 0, 20, []), (.invokestatic 283, 21, [1, 0, 1, 2, 5]), (.ifCond .eq 0, 22, [1, 24]), (.iconst (0), 23, []), (.ireturn, 24, [3]), (.iinc 2 (1), 25, []), (.goto 0, 26, [12]), (.iconst (1), 27, []), (.ireturn, 28, [3])]
def k_MR_readPart : mCode := [(.aload 0, 1, []), (.getfield 0, 2, [4, 2]), (.getfield 9, 3, [6, 0]), (.istore 1, 4, []), (.iload 1, 5, []), (.iconst (1), 6, []), (.if_icmp .eq 0, 7, [2, 14]), (.iload 1, 8, []), (.iconst (6), 9, []), (.if_icmp .eq 0, 10, [4, 14]), (.aload 0, 11, []), (.iload 1, 12, []), (.invokestatic 284, 13, [2, 0, 1, 2, 5]), (.ireturn, 14, [3]), (.iload 1, 15, []), (.iconst (7), 16, []), (.if_icmp .eq 0, 17, [1, 20]), (.aload 0, 18, []), (.invokestatic 285, 19, [1, 0, 1, 4, 5]), (.ireturn, 20, [3]), (.iload 1, 21, []), (.iconst (12), 22, []), (.if_icmp .eq 0, 23, [1, 26]), (.aload 0, 24, []), (.invokestatic 287, 25, [1, 0, 1, 3, 5]), (.goto 0, 26, [30]), (.aload 0, 27, []), (.getfield 0, 28, [4, 2]), (.iconst (2), 29, []), (.invokestatic 305, 30, [2, 0, 1, 2, 7]), (.ireturn, 31, [3])]
def k_MR_readRule : mCode := [(.aload 0, 1, []), (.getfield 2, 2, [4, 0]), (.iconst (1), 3, []), (.iload 1, 4, []), (.ishl, 5, []), (.iand, 6, []), (.ifCond .eq 0, 7, [0, 12]), (.aload 0, 8, []), (.getfield 0, 9, [4, 2]), (.iconst (5), 10, []), (.invokestatic 305, 11, [2, 0, 1, 2, 7]), (.ireturn, 12, [3]), (.aload 0, 13, []), (.dup, 14, []), (.getfield 2, 15, [4, 0]), (.iconst (1), 16, []), (.iload 1, 17, []), (.ishl, 18, []), (.ior, 19, []), (.putfield 2, 20, [4, 0]), (.aload 0, 21, []), (.getfield 0, 22, [4, 2]), (.invokestatic 310, 23, [1, 0, 0, 1, 7]), (.aload 0, 24, []), (.getfield 0, 25, [4, 2]), (.ldc 2, 26, []), (.iload 1, 27, []), (.iaload, 28, []), (.ldc 3, 29, []), (.iload 1, 30, []), (.iaload, 31, []), (.invokestatic 308, 32, [3, 0, 1, 3, 7]), (.ifCond .eq 0, 33, [1, 35]), (.iconst (0), 34, []), (.ireturn, 35, [3]), (.aload 0, 36, []), (.getfield 1, 37, [4, 2]), (.getfield 2, 38, [0, 2]), (.iload 1, 39, []), (.aload 0, 40, []), (.getfield 0, 41, [4, 2]), (.invokestatic 304, 42, [1, 0, 1, 1, 7]), (.iastore, 43, []), (.aload 0, 44, []), (.getfield 0, 45, [4, 2]), (.invokestatic 310, 46, [1, 0, 0, 1, 7]), (.aload 0, 47, []), (.getfield 0, 48, [4, 2]), (.invokestatic 307, 49, [1, 0, 1, 1, 7]), (.ireturn, 50, [3])]
def k_MR_readPerson : mCode := [(.aload 0, 1, []), (.getfield 1, 2, [4, 2]), (.invokestatic 229, 3, [1, 0, 1, 1, 1]), (.ifCond .eq 0, 4, [0, 9]), (.aload 0, 5, []), (.getfield 0, 6, [4, 2]), (.iconst (6), 7, []), (.invokestatic 305, 8, [2, 0, 1, 2, 7]), (.ireturn, 9, [3]), (.aload 0, 10, []), (.getfield 0, 11, [4, 2]), (.invokestatic 310, 12, [1, 0, 0, 1, 7]), (.aload 0, 13, []), (.getfield 0, 14, [4, 2]), (.getfield 9, 15, [6, 0]), (.ifCond .eq 0, 16, [0, 21]), (.aload 0, 17, []), (.getfield 0, 18, [4, 2]), (.iconst (2), 19, []), (.invokestatic 305, 20, [2, 0, 1, 2, 7]), (.ireturn, 21, [3]), (.aload 0, 22, []), (.getfield 0, 23, [4, 2]), (.getfield 10, 24, [6, 1]), (.lstore 1, 25, []), (.aload 0, 26, []), (.getfield 1, 27, [4, 2]), (.lload 1, 28, []), (.invokestatic 231, 29, [2, 0, 1, 4, 1]), (.iconst (-1), 30, []), (.if_icmp .eq 0, 31, [0, 36]), (.aload 0, 32, []), (.getfield 0, 33, [4, 2]), (.iconst (3), 34, []), (.invokestatic 305, 35, [2, 0, 1, 2, 7]), (.ireturn, 36, [3]), (.aload 0, 37, []), (.getfield 0, 38, [4, 2]), (.invokestatic 310, 39, [1, 0, 0, 1, 7]), (.aload 0, 40, []), (.getfield 0, 41, [4, 2]), (.iconst (8), 42, []), (.invokestatic 306, 43, [2, 0, 1, 2, 7]), (.ifCond .eq 0, 44, [0, 50]), (.aload 0, 45, []), (.getfield 0, 46, [4, 2]), (.iconst (0), 47, []), (.iconst (59), 48, []), (.invokestatic 308, 49, [3, 0, 1, 3, 7]), (.ifCond .eq 0, 50, [1, 52]), (.iconst (0), 51, []), (.ireturn, 52, [3]), (.aload 0, 53, []), (.getfield 1, 54, [4, 2]), (.aload 0, 55, []), (.getfield 0, 56, [4, 2]), (.invokestatic 304, 57, [1, 0, 1, 1, 7]), (.lload 1, 58, []), (.invokestatic 230, 59, [3, 0, 1, 5, 1]), (.istore 3, 60, []), (.aload 0, 61, []), (.getfield 0, 62, [4, 2]), (.invokestatic 310, 63, [1, 0, 0, 1, 7]), (.aload 0, 64, []), (.iconst (9), 65, []), (.aload 0, 66, []), (.getfield 1, 67, [4, 2]), (.getfield 4, 68, [0, 2]), (.iload 3, 69, []), (.iconst (9), 70, []), (.invokestatic 286, 71, [5, 0, 1, 5, 5]), (.ifCond .eq 0, 72, [0, 96]), (.aload 0, 73, []), (.iconst (10), 74, []), (.aload 0, 75, []), (.getfield 1, 76, [4, 2]), (.getfield 5, 77, [0, 2]), (.iload 3, 78, []), (.iconst (99), 79, []), (.invokestatic 286, 80, [5, 0, 1, 5, 5]), (.ifCond .eq 0, 81, [0, 96]), (.aload 0, 82, []), (.iconst (11), 83, []), (.aload 0, 84, []), (.getfield 1, 85, [4, 2]), (.getfield 6, 86, [0, 2]), (.iload 3, 87, []), (.iconst (9), 88, []), (.invokestatic 286, 89, [5, 0, 1, 5, 5]), (.ifCond .eq 0, 90, [0, 96]), (.aload 0, 91, []), (.getfield 0, 92, [4, 2]), (.invokestatic 307, 93, [1, 0, 1, 1, 7]), (.ifCond .eq 0, 94, [0, 96]), (.iconst (1), 95, []), (.goto 0, 96, [97]), (.iconst (0), 97, []), (.ireturn, 98, [3])]
def k_MR_readPerhaps : mCode := [(.aload 0, 1, []), (.getfield 0, 2, [4, 2]), (.getfield 9, 3, [6, 0]), (.iload 1, 4, []), (.if_icmp .eq 0, 5, [0, 7]), (.iconst (1), 6, []), (.ireturn, 7, [3]), (.aload 0, 8, []), (.getfield 0, 9, [4, 2]), (.invokestatic 310, 10, [1, 0, 0, 1, 7]), (.aload 0, 11, []), (.getfield 0, 12, [4, 2]), (.iconst (0), 13, []), (.iload 4, 14, []), (.invokestatic 308, 15, [3, 0, 1, 3, 7]), (.ifCond .eq 0, 16, [1, 18]), (.iconst (0), 17, []), (.ireturn, 18, [3]), (.aload 2, 19, []), (.iload 3, 20, []), (.aload 0, 21, []), (.getfield 0, 22, [4, 2]), (.invokestatic 304, 23, [1, 0, 1, 1, 7]), (.iastore, 24, []), (.aload 0, 25, []), (.getfield 0, 26, [4, 2]), (.invokestatic 310, 27, [1, 0, 0, 1, 7]), (.iconst (1), 28, []), (.ireturn, 29, [3])]
def k_MR_readToast : mCode := [(.aload 0, 1, []), (.getfield 0, 2, [4, 2]), (.invokestatic 310, 3, [1, 0, 0, 1, 7]), (.aload 0, 4, []), (.getfield 0, 5, [4, 2]), (.aload 0, 6, []), (.getfield 1, 7, [4, 2]), (.invokestatic 309, 8, [2, 0, 1, 3, 7]), (.istore 1, 9, []), (.iload 1, 10, []), (.iconst (-1), 11, []), (.if_icmp .eq 0, 12, [1, 14]), (.iconst (0), 13, []), (.ireturn, 14, [3]), (.aload 0, 15, []), (.getfield 1, 16, [4, 2]), (.iload 1, 17, []), (.invokestatic 232, 18, [2, 0, 1, 2, 1]), (.ifCond .eq 0, 19, [0, 24]), (.aload 0, 20, []), (.getfield 0, 21, [4, 2]), (.iconst (5), 22, []), (.invokestatic 305, 23, [2, 0, 1, 2, 7]), (.ireturn, 24, [3]), (.aload 0, 25, []), (.getfield 0, 26, [4, 2]), (.invokestatic 310, 27, [1, 0, 0, 1, 7]), (.aload 0, 28, []), (.getfield 0, 29, [4, 2]), (.iconst (13), 30, []), (.invokestatic 306, 31, [2, 0, 1, 2, 7]), (.ifCond .eq 0, 32, [1, 34]), (.iconst (0), 33, []), (.ireturn, 34, [3]), (.aload 0, 35, []), (.getfield 0, 36, [4, 2]), (.aload 0, 37, []), (.getfield 1, 38, [4, 2]), (.invokestatic 309, 39, [2, 0, 1, 3, 7]), (.istore 2, 40, []), (.iload 2, 41, []), (.iconst (-1), 42, []), (.if_icmp .eq 0, 43, [1, 45]), (.iconst (0), 44, []), (.ireturn, 45, [3]), (.iload 2, 46, []), (.iload 1, 47, []), (.if_icmp .eq 0, 48, [1, 53]), (.aload 0, 49, []), (.getfield 0, 50, [4, 2]), (.iconst (5), 51, []), (.invokestatic 305, 52, [2, 0, 1, 2, 7]), (.ireturn, 53, [3]), (.aload 0, 54, []), (.getfield 1, 55, [4, 2]), (.getfield 7, 56, [0, 2]), (.iload 1, 57, []), (.iload 2, 58, []), (.iastore, 59, []), (.aload 0, 60, []), (.getfield 0, 61, [4, 2]), (.invokestatic 310, 62, [1, 0, 0, 1, 7]), (.aload 0, 63, []), (.getfield 0, 64, [4, 2]), (.invokestatic 307, 65, [1, 0, 1, 1, 7]), (.ireturn, 66, [3])]
def k_Mk_init : mCode := [(.aload 0, 1, []), (.invokespecial 0, 2, []), (.aload 0, 3, []), (.iconst (3), 4, []), (.anewarray 0, 5, []), (.putfield 0, 6, [5, 2]), (.aload 0, 7, []), (.iconst (3), 8, []), (.anewarray 7, 9, []), (.putfield 1, 10, [5, 2]), (.aload 0, 11, []), (.iconst (0), 12, []), (.putfield 2, 13, [5, 0]), (.iconst (0), 14, []), (.istore 1, 15, []), (.iload 1, 16, []), (.iconst (3), 17, []), (.if_icmp .eq 0, 18, [3, 34]), (.aload 0, 19, []), (.getfield 0, 20, [5, 2]), (.iload 1, 21, []), (.new 0, 22, [10]), (.dup, 23, []), (.invokestatic 225, 24, [1, 0, 0, 1, 1]), (.aastore, 25, [10]), (.aload 0, 26, []), (.getfield 1, 27, [5, 2]), (.iload 1, 28, []), (.new 7, 29, [9]), (.dup, 30, []), (.invokestatic 319, 31, [1, 0, 0, 1, 8]), (.aastore, 32, [17]), (.iinc 1 (1), 33, []), (.goto 0, 34, [15]), (.return_, 35, [])]
def k_Mk_isFull : mCode := [(.aload 0, 1, []), (.getfield 2, 2, [5, 0]), (.iconst (3), 3, []), (.if_icmp .eq 0, 4, [2, 6]), (.iconst (1), 5, []), (.goto 0, 6, [7]), (.iconst (0), 7, []), (.ireturn, 8, [3])]
def k_Mk_isEmpty : mCode := [(.aload 0, 1, []), (.getfield 2, 2, [5, 0]), (.iconst (1), 3, []), (.if_icmp .eq 0, 4, [3, 6]), (.iconst (1), 5, []), (.goto 0, 6, [7]), (.iconst (0), 7, []), (.ireturn, 8, [3])]
def k_Mk_keep : mCode := [(.aload 0, 1, []), (.getfield 0, 2, [5, 2]), (.aload 0, 3, []), (.getfield 2, 4, [5, 0]), (.aaload, 5, [10]), (.aload 1, 6, []), (.invokestatic 227, 7, [2, 0, 0, 2, 1]), (.aload 0, 8, []), (.getfield 1, 9, [5, 2]), (.aload 0, 10, []), (.getfield 2, 11, [5, 0]), (.aaload, 12, [17]), (.aload 2, 13, []), (.invokestatic 322, 14, [2, 0, 0, 2, 8]), (.aload 0, 15, []), (.dup, 16, []), (.getfield 2, 17, [5, 0]), (.iconst (1), 18, []), (.iadd, 19, []), (.putfield 2, 20, [5, 0]), (.aload 0, 21, []), (.getfield 2, 22, [5, 0]), (.ireturn, 23, [0])]
def k_Mk_giveBack : mCode := [(.aload 0, 1, []), (.dup, 2, []), (.getfield 2, 3, [5, 0]), (.iconst (1), 4, []), (.isub, 5, []), (.putfield 2, 6, [5, 0]), (.aload 1, 7, []), (.aload 0, 8, []), (.getfield 0, 9, [5, 2]), (.aload 0, 10, []), (.getfield 2, 11, [5, 0]), (.aaload, 12, [10]), (.invokestatic 227, 13, [2, 0, 0, 2, 1]), (.aload 2, 14, []), (.aload 0, 15, []), (.getfield 1, 16, [5, 2]), (.aload 0, 17, []), (.getfield 2, 18, [5, 0]), (.aaload, 19, [17]), (.invokestatic 322, 20, [2, 0, 0, 2, 8]), (.aload 0, 21, []), (.getfield 2, 22, [5, 0]), (.ireturn, 23, [0])]
def k_Tp_init : mCode := [(.aload 0, 1, []), (.invokespecial 0, 2, []), (.aload 0, 3, []), (.iconst (900), 4, []), (.newarray .byte, 5, [2]), (.putfield 0, 6, [6, 2]), (.aload 0, 7, []), (.iconst (24), 8, []), (.newarray .long, 9, [1]), (.putfield 1, 10, [6, 2]), (.aload 0, 11, []), (.iconst (0), 12, []), (.putfield 2, 13, [6, 0]), (.aload 0, 14, []), (.iconst (0), 15, []), (.putfield 3, 16, [6, 0]), (.aload 0, 17, []), (.iconst (0), 18, []), (.putfield 4, 19, [6, 0]), (.aload 0, 20, []), (.iconst (0), 21, []), (.putfield 5, 22, [6, 0]), (.aload 0, 23, []), (.iconst (0), 24, []), (.putfield 6, 25, [6, 0]), (.aload 0, 26, []), (.iconst (0), 27, []), (.putfield 7, 28, [6, 0]), (.aload 0, 29, []), (.iconst (0), 30, []), (.putfield 8, 31, [6, 0]), (.aload 0, 32, []), (.iconst (-1), 33, []), (.putfield 9, 34, [6, 0]), (.aload 0, 35, []), (.sipush (0), 36, []), (.putfield 10, 37, [6, 1]), (.aload 0, 38, []), (.iconst (-1), 39, []), (.putfield 11, 40, [6, 0]), (.aload 0, 41, []), (.iconst (-1), 42, []), (.putfield 12, 43, [6, 0]), (.iconst (1), 44, []), (.istore 1, 45, []), (.sipush (0), 46, []), (.lstore 2, 47, []), (.iconst (0), 48, []), (.istore 4, 49, []), (.iload 4, 50, []), (.ldc 5, 51, []), (.arraylength, 52, [1]), (.if_icmp .eq 0, 53, [3, 78]), (.iload 1, 54, []), (.iconst (24), 55, []), (.if_icmp .eq 0, 56, [3, 78]), (.ldc 5, 57, []), (.iload 4, 58, []), (.caload, 59, []), (.istore 5, 60, []), (.iload 5, 61, []), (.iconst (32), 62, []), (.if_icmp .eq 0, 63, [1, 72]), (.aload 0, 64, []), (.getfield 1, 65, [6, 2]), (.iload 1, 66, []), (.lload 2, 67, []), (.lastore, 68, []), (.iinc 1 (1), 69, []), (.sipush (0), 70, []), (.lstore 2, 71, []), (.goto 0, 72, [76]), (.lload 2, 73, []), (.iload 5, 74, []), (.invokestatic 314, 75, [2, 0, 2, 3, 0]), (.lstore 2, 76, []), (.iinc 4 (1), 77, []), (.goto 0, 78, [49]), (.return_, 79, [])]
def k_Tp_length : mCode := [(.aload 0, 1, []), (.getfield 2, 2, [6, 0]), (.ireturn, 3, [0])]
def k_Tp_faultKind : mCode := [(.aload 0, 1, []), (.getfield 11, 2, [6, 0]), (.ireturn, 3, [0])]
def k_Tp_faultPlace : mCode := [(.aload 0, 1, []), (.getfield 12, 2, [6, 0]), (.ireturn, 3, [0])]
def k_Tp_hasRoom : mCode := [(.aload 0, 1, []), (.getfield 2, 2, [6, 0]), (.iload 1, 3, []), (.iadd, 4, []), (.iconst (900), 5, []), (.if_icmp .eq 0, 6, [4, 8]), (.iconst (1), 7, []), (.goto 0, 8, [9]), (.iconst (0), 9, []), (.ireturn, 10, [3])]
def k_Tp_append : mCode := [(.iconst (24), 1, []), (.istore 2, 2, []), (.iload 2, 3, []), (.ifCond .eq 0, 4, [2, 25]), (.aload 0, 5, []), (.getfield 2, 6, [6, 0]), (.iconst (900), 7, []), (.if_icmp .eq 0, 8, [3, 25]), (.aload 0, 9, []), (.getfield 0, 10, [6, 2]), (.aload 0, 11, []), (.getfield 2, 12, [6, 0]), (.iload 1, 13, []), (.iload 2, 14, []), (.ishr, 15, []), (.i2b, 16, []), (.bastore, 17, []), (.aload 0, 18, []), (.dup, 19, []), (.getfield 2, 20, [6, 0]), (.iconst (1), 21, []), (.iadd, 22, []), (.putfield 2, 23, [6, 0]), (.iinc 2 (-8), 24, []), (.goto 0, 25, [2]), (.return_, 26, [])]
def k_Tp_empty : mCode := [(.aload 0, 1, []), (.iconst (0), 2, []), (.putfield 2, 3, [6, 0]), (.return_, 4, [])]
def k_Tp_begin : mCode := [(.aload 0, 1, []), (.iload 1, 2, []), (.aload 0, 3, []), (.getfield 2, 4, [6, 0]), (.dsub, 5, []), (.putfield 3, 6, [6, 0]), (.aload 0, 7, []), (.iconst (0), 8, []), (.putfield 4, 9, [6, 0]), (.aload 0, 10, []), (.iconst (0), 11, []), (.putfield 11, 12, [6, 0]), (.aload 0, 13, []), (.iconst (-1), 14, []), (.putfield 12, 15, [6, 0]), (.aload 0, 16, []), (.invokestatic 310, 17, [1, 0, 0, 1, 7]), (.return_, 18, [])]
def k_Tp_isAtEnd : mCode := [(.aload 0, 1, []), (.getfield 5, 2, [6, 0]), (.ifCond .eq 0, 3, [1, 5]), (.iconst (1), 4, []), (.goto 0, 5, [6]), (.iconst (0), 6, []), (.ireturn, 7, [3])]
def k_Tp_isAtCompares : mCode := [(.aload 0, 1, []), (.getfield 8, 2, [6, 0]), (.iconst (60), 3, []), (.if_icmp .eq 0, 4, [0, 12]), (.aload 0, 5, []), (.getfield 8, 6, [6, 0]), (.iconst (62), 7, []), (.if_icmp .eq 0, 8, [0, 12]), (.aload 0, 9, []), (.getfield 8, 10, [6, 0]), (.iconst (61), 11, []), (.if_icmp .eq 0, 12, [1, 14]), (.iconst (1), 13, []), (.goto 0, 14, [15]), (.iconst (0), 15, []), (.ireturn, 16, [3])]
def k_Tp_sign : mCode := [(.aload 0, 1, []), (.getfield 8, 2, [6, 0]), (.ireturn, 3, [0])]
def k_Tp_number : mCode := [(.aload 0, 1, []), (.getfield 7, 2, [6, 0]), (.ireturn, 3, [0])]
def k_Tp_object : mCode := [(.aload 0, 1, []), (.aload 0, 2, []), (.getfield 5, 3, [6, 0]), (.iconst (4), 4, []), (.if_icmp .eq 0, 5, [1, 7]), (.iconst (1), 6, []), (.goto 0, 7, [8]), (.iload 1, 8, []), (.putfield 11, 9, [6, 0]), (.aload 0, 10, []), (.aload 0, 11, []), (.getfield 6, 12, [6, 0]), (.putfield 12, 13, [6, 0]), (.iconst (0), 14, []), (.ireturn, 15, [3])]
def k_Tp_passWord : mCode := [(.aload 0, 1, []), (.getfield 9, 2, [6, 0]), (.iload 1, 3, []), (.if_icmp .eq 0, 4, [0, 8]), (.aload 0, 5, []), (.iconst (2), 6, []), (.invokestatic 305, 7, [2, 0, 1, 2, 7]), (.ireturn, 8, [3]), (.aload 0, 9, []), (.invokestatic 310, 10, [1, 0, 0, 1, 7]), (.iconst (1), 11, []), (.ireturn, 12, [3])]
def k_Tp_passSemicolon : mCode := [(.aload 0, 1, []), (.getfield 8, 2, [6, 0]), (.iconst (59), 3, []), (.if_icmp .eq 0, 4, [0, 8]), (.aload 0, 5, []), (.iconst (2), 6, []), (.invokestatic 305, 7, [2, 0, 1, 2, 7]), (.ireturn, 8, [3]), (.aload 0, 9, []), (.invokestatic 310, 10, [1, 0, 0, 1, 7]), (.iconst (1), 11, []), (.ireturn, 12, [3])]
def k_Tp_isNumber : mCode := [(.aload 0, 1, []), (.getfield 5, 2, [6, 0]), (.iconst (2), 3, []), (.if_icmp .eq 0, 4, [0, 8]), (.aload 0, 5, []), (.iconst (2), 6, []), (.invokestatic 305, 7, [2, 0, 1, 2, 7]), (.ireturn, 8, [3]), (.aload 0, 9, []), (.getfield 7, 10, [6, 0]), (.iload 1, 11, []), (.if_icmp .eq 0, 12, [2, 16]), (.aload 0, 13, []), (.getfield 7, 14, [6, 0]), (.iload 2, 15, []), (.if_icmp .eq 0, 16, [5, 20]), (.aload 0, 17, []), (.iconst (4), 18, []), (.invokestatic 305, 19, [2, 0, 1, 2, 7]), (.ifCond .eq 0, 20, [0, 22]), (.iconst (1), 21, []), (.goto 0, 22, [23]), (.iconst (0), 23, []), (.ireturn, 24, [3])]
def k_Tp_whoIsNamed : mCode := [(.aload 0, 1, []), (.getfield 9, 2, [6, 0]), (.ifCond .eq 0, 3, [0, 9]), (.aload 0, 4, []), (.iconst (2), 5, []), (.invokestatic 305, 6, [2, 0, 1, 2, 7]), (.pop, 7, []), (.iconst (-1), 8, []), (.ireturn, 9, [0]), (.aload 1, 10, []), (.aload 0, 11, []), (.getfield 10, 12, [6, 1]), (.invokestatic 231, 13, [2, 0, 1, 4, 1]), (.istore 2, 14, []), (.iload 2, 15, []), (.iconst (-1), 16, []), (.if_icmp .eq 0, 17, [1, 21]), (.aload 0, 18, []), (.iconst (3), 19, []), (.invokestatic 305, 20, [2, 0, 1, 2, 7]), (.pop, 21, []), (.iload 2, 22, []), (.ireturn, 23, [0])]
def k_Tp_step : mCode := [(.aload 0, 1, []), (.getfield 4, 2, [6, 0]), (.aload 0, 3, []), (.getfield 3, 4, [6, 0]), (.if_icmp .eq 0, 5, [3, 19]), (.aload 0, 6, []), (.getfield 0, 7, [6, 2]), (.aload 0, 8, []), (.getfield 4, 9, [6, 0]), (.baload, 10, []), (.invokestatic 315, 11, [1, 0, 1, 1, 0]), (.ifCond .eq 0, 12, [0, 19]), (.aload 0, 13, []), (.dup, 14, []), (.getfield 4, 15, [6, 0]), (.iconst (1), 16, []), (.iadd, 17, []), (.putfield 4, 18, [6, 0]), (.goto 0, 19, [0]), (.aload 0, 20, []), (.aload 0, 21, []), (.getfield 4, 22, [6, 0]), (.putfield 6, 23, [6, 0]), (.aload 0, 24, []), (.iconst (-1), 25, []), (.putfield 9, 26, [6, 0]), (.aload 0, 27, []), (.iconst (0), 28, []), (.putfield 8, 29, [6, 0]), (.aload 0, 30, []), (.getfield 4, 31, [6, 0]), (.aload 0, 32, []), (.getfield 3, 33, [6, 0]), (.if_icmp .eq 0, 34, [2, 38]), (.aload 0, 35, []), (.iconst (0), 36, []), (.putfield 5, 37, [6, 0]), (.goto 0, 38, [85]), (.aload 0, 39, []), (.getfield 0, 40, [6, 2]), (.aload 0, 41, []), (.getfield 4, 42, [6, 0]), (.baload, 43, []), (.invokestatic 316, 44, [1, 0, 1, 1, 0]), (.ifCond .eq 0, 45, [0, 48]), (.aload 0, 46, []), (.invokestatic 311, 47, [1, 0, 0, 1, 7]), (.goto 0, 48, [85]), (.aload 0, 49, []), (.getfield 0, 50, [6, 2]), (.aload 0, 51, []), (.getfield 4, 52, [6, 0]), (.baload, 53, []), (.invokestatic 317, 54, [1, 0, 1, 1, 0]), (.ifCond .eq 0, 55, [0, 58]), (.aload 0, 56, []), (.invokestatic 312, 57, [1, 0, 0, 1, 7]), (.goto 0, 58, [85]), (.aload 0, 59, []), (.getfield 0, 60, [6, 2]), (.aload 0, 61, []), (.getfield 4, 62, [6, 0]), (.baload, 63, []), (.invokestatic 318, 64, [1, 0, 1, 1, 0]), (.ifCond .eq 0, 65, [0, 82]), (.aload 0, 66, []), (.iconst (3), 67, []), (.putfield 5, 68, [6, 0]), (.aload 0, 69, []), (.aload 0, 70, []), (.getfield 0, 71, [6, 2]), (.aload 0, 72, []), (.getfield 4, 73, [6, 0]), (.baload, 74, []), (.putfield 8, 75, [6, 0]), (.aload 0, 76, []), (.dup, 77, []), (.getfield 4, 78, [6, 0]), (.iconst (1), 79, []), (.iadd, 80, []), (.putfield 4, 81, [6, 0]), (.goto 0, 82, [85]), (.aload 0, 83, []), (.iconst (4), 84, []), (.putfield 5, 85, [6, 0]), (.return_, 86, [])]
def k_Tp_stepWord : mCode := [(.aload 0, 1, []), (.iconst (1), 2, []), (.putfield 5, 3, [6, 0]), (.aload 0, 4, []), (.sipush (0), 5, []), (.putfield 10, 6, [6, 1]), (.aload 0, 7, []), (.getfield 4, 8, [6, 0]), (.aload 0, 9, []), (.getfield 3, 10, [6, 0]), (.if_icmp .eq 0, 11, [3, 42]), (.aload 0, 12, []), (.getfield 0, 13, [6, 2]), (.aload 0, 14, []), (.getfield 4, 15, [6, 0]), (.baload, 16, []), (.invokestatic 316, 17, [1, 0, 1, 1, 0]), (.ifCond .eq 0, 18, [0, 42]), (.aload 0, 19, []), (.getfield 4, 20, [6, 0]), (.aload 0, 21, []), (.getfield 6, 22, [6, 0]), (.isub, 23, []), (.iconst (8), 24, []), (.if_icmp .eq 0, 25, [3, 35]), (.aload 0, 26, []), (.aload 0, 27, []), (.getfield 10, 28, [6, 1]), (.aload 0, 29, []), (.getfield 0, 30, [6, 2]), (.aload 0, 31, []), (.getfield 4, 32, [6, 0]), (.baload, 33, []), (.invokestatic 314, 34, [2, 0, 2, 3, 0]), (.putfield 10, 35, [6, 1]), (.aload 0, 36, []), (.dup, 37, []), (.getfield 4, 38, [6, 0]), (.iconst (1), 39, []), (.iadd, 40, []), (.putfield 4, 41, [6, 0]), (.goto 0, 42, [6]), (.aload 0, 43, []), (.aload 0, 44, []), (.getfield 4, 45, [6, 0]), (.aload 0, 46, []), (.getfield 6, 47, [6, 0]), (.isub, 48, []), (.iconst (8), 49, []), (.if_icmp .eq 0, 50, [5, 52]), (.iconst (-1), 51, []), (.goto 0, 52, [56]), (.aload 0, 53, []), (.aload 0, 54, []), (.getfield 10, 55, [6, 1]), (.invokestatic 313, 56, [2, 0, 1, 4, 7]), (.putfield 9, 57, [6, 0]), (.return_, 58, [])]
def k_Tp_stepNumber : mCode := [(.aload 0, 1, []), (.iconst (0), 2, []), (.putfield 7, 3, [6, 0]), (.aload 0, 4, []), (.getfield 4, 5, [6, 0]), (.aload 0, 6, []), (.getfield 3, 7, [6, 0]), (.if_icmp .eq 0, 8, [3, 43]), (.aload 0, 9, []), (.getfield 0, 10, [6, 2]), (.aload 0, 11, []), (.getfield 4, 12, [6, 0]), (.baload, 13, []), (.invokestatic 317, 14, [1, 0, 1, 1, 0]), (.ifCond .eq 0, 15, [0, 43]), (.aload 0, 16, []), (.getfield 4, 17, [6, 0]), (.aload 0, 18, []), (.getfield 6, 19, [6, 0]), (.isub, 20, []), (.iconst (4), 21, []), (.if_icmp .eq 0, 22, [3, 36]), (.aload 0, 23, []), (.aload 0, 24, []), (.getfield 7, 25, [6, 0]), (.iconst (10), 26, []), (.imul, 27, []), (.aload 0, 28, []), (.getfield 0, 29, [6, 2]), (.aload 0, 30, []), (.getfield 4, 31, [6, 0]), (.baload, 32, []), (.iconst (48), 33, []), (.isub, 34, []), (.iadd, 35, []), (.putfield 7, 36, [6, 0]), (.aload 0, 37, []), (.dup, 38, []), (.getfield 4, 39, [6, 0]), (.iconst (1), 40, []), (.iadd, 41, []), (.putfield 4, 42, [6, 0]), (.goto 0, 43, [3]), (.aload 0, 44, []), (.aload 0, 45, []), (.getfield 4, 46, [6, 0]), (.aload 0, 47, []), (.getfield 6, 48, [6, 0]), (.isub, 49, []), (.iconst (4), 50, []), (.if_icmp .eq 0, 51, [5, 53]), (.iconst (4), 52, []), (.goto 0, 53, [54]), (.iconst (2), 54, []), (.putfield 5, 55, [6, 0]), (.return_, 56, [])]
def k_Tp_wordOf : mCode := [(.iconst (1), 1, []), (.istore 3, 2, []), (.iload 3, 3, []), (.iconst (24), 4, []), (.if_icmp .eq 0, 5, [3, 16]), (.aload 0, 6, []), (.getfield 1, 7, [6, 2]), (.iload 3, 8, []), (.laload, 9, []), (.lload 1, 10, []), (.lcmp, 12, [1, 14]), (.ifCond .eq 0, 12, [1, 14]), (.iload 3, 13, []), (.ireturn, 14, [0]), (.iinc 3 (1), 15, []), (.goto 0, 16, [2]), (.iconst (0), 17, []), (.ireturn, 18, [0])]
def k_Tp_withLetter : mCode := [(.lload 0, 1, []), (.sipush (32), 2, []), (.lmul, 3, []), (.iload 2, 4, []), (.iconst (97), 5, []), (.isub, 6, []), (.iconst (1), 7, []), (.iadd, 8, []), (.i2l, 9, []), (.ladd, 10, []), (.lreturn, 11, [])]
def k_Tp_isBlank : mCode := [(.iload 0, 1, []), (.iconst (10), 2, []), (.if_icmp .eq 0, 3, [0, 6]), (.iload 0, 4, []), (.iconst (32), 5, []), (.if_icmp .eq 0, 6, [1, 8]), (.iconst (1), 7, []), (.goto 0, 8, [9]), (.iconst (0), 9, []), (.ireturn, 10, [3])]
def k_Tp_isLetter : mCode := [(.iload 0, 1, []), (.iconst (97), 2, []), (.if_icmp .eq 0, 3, [2, 8]), (.iload 0, 4, []), (.iconst (122), 5, []), (.if_icmp .eq 0, 6, [4, 8]), (.iconst (1), 7, []), (.goto 0, 8, [9]), (.iconst (0), 9, []), (.ireturn, 10, [3])]
def k_Tp_isDigit : mCode := [(.iload 0, 1, []), (.iconst (48), 2, []), (.if_icmp .eq 0, 3, [2, 8]), (.iload 0, 4, []), (.iconst (57), 5, []), (.if_icmp .eq 0, 6, [4, 8]), (.iconst (1), 7, []), (.goto 0, 8, [9]), (.iconst (0), 9, []), (.ireturn, 10, [3])]
def k_Tp_isSign : mCode := [(.iload 0, 1, []), (.iconst (59), 2, []), (.if_icmp .eq 0, 3, [0, 12]), (.iload 0, 4, []), (.iconst (60), 5, []), (.if_icmp .eq 0, 6, [0, 12]), (.iload 0, 7, []), (.iconst (62), 8, []), (.if_icmp .eq 0, 9, [0, 12]), (.iload 0, 10, []), (.iconst (61), 11, []), (.if_icmp .eq 0, 12, [1, 14]), (.iconst (1), 13, []), (.goto 0, 14, [15]), (.iconst (0), 15, []), (.ireturn, 16, [3])]
def k_Ti_init : mCode := [(.aload 0, 1, []), (.invokespecial 0, 2, []), (.aload 0, 3, []), (.iconst (60), 4, []), (.newarray .int, 5, [0]), (.putfield 0, 6, [7, 2]), (.aload 0, 7, []), (.iconst (60), 8, []), (.newarray .int, 9, [0]), (.putfield 1, 10, [7, 2]), (.aload 0, 11, []), (.iconst (60), 12, []), (.newarray .int, 13, [0]), (.putfield 2, 14, [7, 2]), (.aload 0, 15, []), (.iconst (60), 16, []), (.newarray .int, 17, [0]), (.putfield 3, 18, [7, 2]), (.aload 0, 19, []), (.iconst (60), 20, []), (.newarray .int, 21, [0]), (.putfield 4, 22, [7, 2]), (.aload 0, 23, []), (.iconst (60), 24, []), (.newarray .int, 25, [0]), (.putfield 5, 26, [7, 2]), (.aload 0, 27, []), (.iconst (0), 28, []), (.putfield 6, 29, [7, 0]), (.aload 0, 30, []), (.iconst (0), 31, []), (.putfield 7, 32, [7, 0]), (.aload 0, 33, []), (.iconst (0), 34, []), (.putfield 8, 35, [7, 3]), (.return_, 36, [])]
def k_Ti_forget : mCode := [(.aload 0, 1, []), (.iconst (0), 2, []), (.putfield 6, 3, [7, 0]), (.aload 0, 4, []), (.iconst (0), 5, []), (.putfield 7, 6, [7, 0]), (.aload 0, 7, []), (.iconst (0), 8, []), (.putfield 8, 9, [7, 3]), (.return_, 10, [])]
def k_Ti_add : mCode := [(.aload 0, 1, []), (.getfield 6, 2, [7, 0]), (.iconst (59), 3, []), (.dsub, 4, []), (.istore 2, 5, []), (.aload 0, 6, []), (.getfield 0, 7, [7, 2]), (.iload 2, 8, []), (.iload 1, 9, []), (.iastore, 10, []), (.aload 0, 11, []), (.getfield 1, 12, [7, 2]), (.iload 2, 13, []), (.iconst (-1), 14, []), (.iastore, 15, []), (.aload 0, 16, []), (.getfield 2, 17, [7, 2]), (.iload 2, 18, []), (.iconst (-1), 19, []), (.iastore, 20, []), (.aload 0, 21, []), (.getfield 3, 22, [7, 2]), (.iload 2, 23, []), (.iconst (0), 24, []), (.iastore, 25, []), (.aload 0, 26, []), (.getfield 4, 27, [7, 2]), (.iload 2, 28, []), (.iconst (0), 29, []), (.iastore, 30, []), (.aload 0, 31, []), (.getfield 5, 32, [7, 2]), (.iload 2, 33, []), (.iload 2, 34, []), (.iastore, 35, []), (.aload 0, 36, []), (.iload 2, 37, []), (.iconst (1), 38, []), (.iadd, 39, []), (.putfield 6, 40, [7, 0]), (.iload 1, 41, []), (.iconst (22), 42, []), (.if_icmp .eq 0, 43, [0, 49]), (.aload 0, 44, []), (.dup, 45, []), (.getfield 7, 46, [7, 0]), (.iconst (1), 47, []), (.iadd, 48, []), (.putfield 7, 49, [7, 0]), (.iload 2, 50, []), (.ireturn, 51, [0])]
def k_Ti_takeFrom : mCode := [(.aload 1, 1, []), (.getfield 0, 2, [7, 2]), (.iconst (0), 3, []), (.aload 0, 4, []), (.getfield 0, 5, [7, 2]), (.iconst (0), 6, []), (.aload 1, 7, []), (.getfield 6, 8, [7, 0]), (.swap, 9, [0]), (.aload 1, 10, []), (.getfield 1, 11, [7, 2]), (.iconst (0), 12, []), (.aload 0, 13, []), (.getfield 1, 14, [7, 2]), (.iconst (0), 15, []), (.aload 1, 16, []), (.getfield 6, 17, [7, 0]), (.swap, 18, [0]), (.aload 1, 19, []), (.getfield 2, 20, [7, 2]), (.iconst (0), 21, []), (.aload 0, 22, []), (.getfield 2, 23, [7, 2]), (.iconst (0), 24, []), (.aload 1, 25, []), (.getfield 6, 26, [7, 0]), (.swap, 27, [0]), (.aload 1, 28, []), (.getfield 3, 29, [7, 2]), (.iconst (0), 30, []), (.aload 0, 31, []), (.getfield 3, 32, [7, 2]), (.iconst (0), 33, []), (.aload 1, 34, []), (.getfield 6, 35, [7, 0]), (.swap, 36, [0]), (.aload 1, 37, []), (.getfield 4, 38, [7, 2]), (.iconst (0), 39, []), (.aload 0, 40, []), (.getfield 4, 41, [7, 2]), (.iconst (0), 42, []), (.aload 1, 43, []), (.getfield 6, 44, [7, 0]), (.swap, 45, [0]), (.aload 1, 46, []), (.getfield 5, 47, [7, 2]), (.iconst (0), 48, []), (.aload 0, 49, []), (.getfield 5, 50, [7, 2]), (.iconst (0), 51, []), (.aload 1, 52, []), (.getfield 6, 53, [7, 0]), (.swap, 54, [0]), (.aload 0, 55, []), (.aload 1, 56, []), (.getfield 6, 57, [7, 0]), (.putfield 6, 58, [7, 0]), (.aload 0, 59, []), (.aload 1, 60, []), (.getfield 7, 61, [7, 0]), (.putfield 7, 62, [7, 0]), (.aload 0, 63, []), (.aload 1, 64, []), (.getfield 8, 65, [7, 0]), (.putfield 8, 66, [7, 3]), (.return_, 67, [])]
def k_TR_init : mCode := [(.aload 0, 1, []), (.invokespecial 0, 2, []), (.aload 0, 3, []), (.new 7, 4, [9]), (.dup, 5, []), (.invokestatic 319, 6, [1, 0, 0, 1, 8]), (.putfield 1, 7, [8, 2]), (.aload 0, 8, []), (.iconst (3), 9, []), (.newarray .int, 10, [0]), (.putfield 2, 11, [8, 2]), (.aload 0, 12, []), (.iconst (0), 13, []), (.putfield 3, 14, [8, 0]), (.aload 0, 15, []), (.aload 1, 16, []), (.putfield 0, 17, [8, 2]), (.return_, 18, [])]
def k_TR_draft : mCode := [(.aload 0, 1, []), (.getfield 1, 2, [8, 2]), (.areturn, 3, [])]
def k_TR_readTimes : mCode := [(.aload 0, 1, []), (.getfield 1, 2, [8, 2]), (.invokestatic 320, 3, [1, 0, 0, 1, 8]), (.aload 0, 4, []), (.iconst (0), 5, []), (.putfield 3, 6, [8, 0]), (.aload 0, 7, []), (.getfield 0, 8, [8, 2]), (.iload 1, 9, []), (.invokestatic 300, 10, [2, 0, 0, 2, 7]), (.iconst (0), 11, []), (.istore 3, 12, []), (.iload 3, 13, []), (.iconst (300), 14, []), (.if_icmp .eq 0, 15, [4, 27]), (.aload 0, 16, []), (.getfield 0, 17, [8, 2]), (.invokestatic 301, 18, [1, 0, 1, 1, 7]), (.ifCond .eq 0, 19, [1, 27]), (.aload 0, 20, []), (.aload 2, 21, []), (.invokestatic 326, 22, [2, 0, 1, 6, 9]), (.ifCond .eq 0, 23, [1, 25]), (.iconst (0), 24, []), (.ireturn, 25, [3]), (.iinc 3 (1), 26, []), (.goto 0, 27, [12]), (.aload 0, 28, []), (.getfield 1, 29, [8, 2]), (.iconst (1), 30, []), (.putfield 8, 31, [7, 3]), (.aload 0, 32, []), (.getfield 3, 33, [8, 0]), (.ifCond .eq 0, 34, [0, 39]), (.aload 0, 35, []), (.getfield 0, 36, [8, 2]), (.iconst (2), 37, []), (.invokestatic 305, 38, [2, 0, 1, 2, 7]), (.ifCond .eq 0, 39, [0, 41]), (.iconst (1), 40, []), (.goto 0, 41, [42]), (.iconst (0), 42, []), (.ireturn, 43, [3])]
def k_TR_readStep : mCode := [(.aload 0, 1, []), (.getfield 0, 2, [8, 2]), (.getfield 9, 3, [6, 0]), (.istore 2, 4, []), (.iload 2, 5, []), (.iconst (22), 6, []), (.if_icmp .eq 0, 7, [1, 10]), (.aload 0, 8, []), (.invokestatic 327, 9, [1, 0, 1, 3, 9]), (.ireturn, 10, [3]), (.iload 2, 11, []), (.iconst (14), 12, []), (.if_icmp .eq 0, 13, [2, 16]), (.iload 2, 14, []), (.iconst (20), 15, []), (.if_icmp .eq 0, 16, [1, 21]), (.aload 0, 17, []), (.getfield 0, 18, [8, 2]), (.iconst (2), 19, []), (.invokestatic 305, 20, [2, 0, 1, 2, 7]), (.ireturn, 21, [3]), (.aload 0, 22, []), (.getfield 1, 23, [8, 2]), (.getfield 7, 24, [7, 0]), (.iconst (30), 25, []), (.if_icmp .eq 0, 26, [2, 31]), (.aload 0, 27, []), (.getfield 0, 28, [8, 2]), (.iconst (6), 29, []), (.invokestatic 305, 30, [2, 0, 1, 2, 7]), (.ireturn, 31, [3]), (.iload 2, 32, []), (.iconst (19), 33, []), (.if_icmp .eq 0, 34, [0, 37]), (.iload 2, 35, []), (.iconst (21), 36, []), (.if_icmp .eq 0, 37, [1, 39]), (.iconst (1), 38, []), (.goto 0, 39, [40]), (.iconst (0), 40, []), (.istore 3, 41, []), (.iload 3, 42, []), (.ifCond .eq 0, 43, [0, 52]), (.aload 0, 44, []), (.getfield 3, 45, [8, 0]), (.iconst (3), 46, []), (.if_icmp .eq 0, 47, [2, 52]), (.aload 0, 48, []), (.getfield 0, 49, [8, 2]), (.iconst (7), 50, []), (.invokestatic 305, 51, [2, 0, 1, 2, 7]), (.ireturn, 52, [3]), (.aload 0, 53, []), (.getfield 1, 54, [8, 2]), (.iload 2, 55, []), (.invokestatic 321, 56, [2, 0, 1, 3, 8]), (.istore 4, 57, []), (.iload 3, 58, []), (.ifCond .eq 0, 59, [0, 71]), (.aload 0, 60, []), (.getfield 2, 61, [8, 2]), (.aload 0, 62, []), (.getfield 3, 63, [8, 0]), (.iload 4, 64, []), (.iastore, 65, []), (.aload 0, 66, []), (.dup, 67, []), (.getfield 3, 68, [8, 0]), (.iconst (1), 69, []), (.iadd, 70, []), (.putfield 3, 71, [8, 0]), (.aload 0, 72, []), (.getfield 0, 73, [8, 2]), (.invokestatic 310, 74, [1, 0, 0, 1, 7]), (.iconst (1), 75, []), (.istore 5, 76, []), (.iload 2, 77, []), (.tableswitch 0 (14) 0 #[], 78, [120, 78, 84, 120, 91, 120, 107, 120, 113]), (.aload 0, 79, []), (.iload 4, 80, []), (.aload 1, 81, []), (.invokestatic 329, 82, [3, 0, 1, 4, 9]), (.istore 5, 83, []), (.goto 0, 84, [120]), (.aload 0, 85, []), (.iload 4, 86, []), (.iconst (1), 87, []), (.iconst (20), 88, []), (.invokestatic 331, 89, [4, 0, 1, 4, 9]), (.istore 5, 90, []), (.goto 0, 91, [120]), (.aload 0, 92, []), (.iload 4, 93, []), (.aload 1, 94, []), (.invokestatic 329, 95, [3, 0, 1, 4, 9]), (.ifCond .eq 0, 96, [0, 104]), (.aload 0, 97, []), (.iload 4, 98, []), (.iconst (0), 99, []), (.iconst (9), 100, []), (.invokestatic 331, 101, [4, 0, 1, 4, 9]), (.ifCond .eq 0, 102, [0, 104]), (.iconst (1), 103, []), (.goto 0, 104, [105]), (.iconst (0), 105, []), (.istore 5, 106, []), (.goto 0, 107, [120]), (.aload 0, 108, []), (.iload 4, 109, []), (.aload 1, 110, []), (.invokestatic 328, 111, [3, 0, 1, 4, 9]), (.istore 5, 112, []), (.goto 0, 113, [120]), (.aload 0, 114, []), (.iload 4, 115, []), (.iconst (1), 116, []), (.iconst (99), 117, []), (.invokestatic 331, 118, [4, 0, 1, 4, 9]), (.istore 5, 119, []), (.goto 0, 120, [120]), (.iload 5, 121, []), (.ifCond .eq 0, 122, [0, 128]), (.aload 0, 123, []), (.getfield 0, 124, [8, 2]), (.invokestatic 307, 125, [1, 0, 1, 1, 7]), (.ifCond .eq 0, 126, [0, 128]), (.iconst (1), 127, []), (.goto 0, 128, [129]), (.iconst (0), 129, []), (.ireturn, 130, [3])]
def k_TR_readEnd : mCode := [(.aload 0, 1, []), (.getfield 3, 2, [8, 0]), (.iconst (1), 3, []), (.if_icmp .eq 0, 4, [3, 9]), (.aload 0, 5, []), (.getfield 0, 6, [8, 2]), (.iconst (2), 7, []), (.invokestatic 305, 8, [2, 0, 1, 2, 7]), (.ireturn, 9, [3]), (.aload 0, 10, []), (.getfield 0, 11, [8, 2]), (.invokestatic 310, 12, [1, 0, 0, 1, 7]), (.aload 0, 13, []), (.dup, 14, []), (.getfield 3, 15, [8, 0]), (.iconst (1), 16, []), (.isub, 17, []), (.putfield 3, 18, [8, 0]), (.aload 0, 19, []), (.getfield 2, 20, [8, 2]), (.aload 0, 21, []), (.getfield 3, 22, [8, 0]), (.iaload, 23, []), (.istore 1, 24, []), (.aload 0, 25, []), (.getfield 1, 26, [8, 2]), (.iconst (22), 27, []), (.invokestatic 321, 28, [2, 0, 1, 3, 8]), (.istore 2, 29, []), (.aload 0, 30, []), (.getfield 1, 31, [8, 2]), (.getfield 5, 32, [7, 2]), (.iload 2, 33, []), (.iload 1, 34, []), (.iastore, 35, []), (.aload 0, 36, []), (.getfield 1, 37, [8, 2]), (.getfield 5, 38, [7, 2]), (.iload 1, 39, []), (.iload 2, 40, []), (.iastore, 41, []), (.aload 0, 42, []), (.getfield 0, 43, [8, 2]), (.invokestatic 307, 44, [1, 0, 1, 1, 7]), (.ireturn, 45, [3])]
def k_TR_readTest : mCode := [(.aload 0, 1, []), (.getfield 0, 2, [8, 2]), (.getfield 9, 3, [6, 0]), (.istore 3, 4, []), (.iload 3, 5, []), (.iconst (20), 6, []), (.if_icmp .eq 0, 7, [0, 18]), (.iload 3, 8, []), (.iconst (10), 9, []), (.if_icmp .eq 0, 10, [0, 18]), (.iload 3, 11, []), (.iconst (11), 12, []), (.if_icmp .eq 0, 13, [0, 18]), (.aload 0, 14, []), (.getfield 0, 15, [8, 2]), (.iconst (2), 16, []), (.invokestatic 305, 17, [2, 0, 1, 2, 7]), (.ireturn, 18, [3]), (.aload 0, 19, []), (.getfield 1, 20, [8, 2]), (.getfield 2, 21, [7, 2]), (.iload 1, 22, []), (.iload 3, 23, []), (.iastore, 24, []), (.aload 0, 25, []), (.getfield 0, 26, [8, 2]), (.invokestatic 310, 27, [1, 0, 0, 1, 7]), (.aload 0, 28, []), (.iload 1, 29, []), (.aload 2, 30, []), (.invokestatic 329, 31, [3, 0, 1, 4, 9]), (.ifCond .eq 0, 32, [1, 34]), (.iconst (0), 33, []), (.ireturn, 34, [3]), (.iload 3, 35, []), (.iconst (20), 36, []), (.if_icmp .eq 0, 37, [0, 52]), (.aload 0, 38, []), (.iload 1, 39, []), (.invokestatic 330, 40, [2, 0, 1, 2, 9]), (.ifCond .eq 0, 41, [0, 54]), (.aload 0, 42, []), (.iload 1, 43, []), (.iconst (0), 44, []), (.iload 3, 45, []), (.iconst (10), 46, []), (.if_icmp .eq 0, 47, [1, 49]), (.iconst (99), 48, []), (.goto 0, 49, [50]), (.iconst (9), 50, []), (.invokestatic 331, 51, [4, 0, 1, 4, 9]), (.ifCond .eq 0, 52, [0, 54]), (.iconst (1), 53, []), (.goto 0, 54, [55]), (.iconst (0), 55, []), (.ireturn, 56, [3])]
def k_TR_readWho : mCode := [(.aload 0, 1, []), (.getfield 0, 2, [8, 2]), (.aload 2, 3, []), (.invokestatic 309, 4, [2, 0, 1, 3, 7]), (.istore 3, 5, []), (.iload 3, 6, []), (.iconst (-1), 7, []), (.if_icmp .eq 0, 8, [1, 10]), (.iconst (0), 9, []), (.ireturn, 10, [3]), (.aload 0, 11, []), (.getfield 1, 12, [8, 2]), (.getfield 1, 13, [7, 2]), (.iload 1, 14, []), (.iload 3, 15, []), (.iastore, 16, []), (.aload 0, 17, []), (.getfield 0, 18, [8, 2]), (.invokestatic 310, 19, [1, 0, 0, 1, 7]), (.iconst (1), 20, []), (.ireturn, 21, [3])]
def k_TR_readCompares : mCode := [(.aload 0, 1, []), (.getfield 0, 2, [8, 2]), (.invokestatic 302, 3, [1, 0, 1, 1, 7]), (.ifCond .eq 0, 4, [1, 9]), (.aload 0, 5, []), (.getfield 0, 6, [8, 2]), (.iconst (2), 7, []), (.invokestatic 305, 8, [2, 0, 1, 2, 7]), (.ireturn, 9, [3]), (.aload 0, 10, []), (.getfield 1, 11, [8, 2]), (.getfield 3, 12, [7, 2]), (.iload 1, 13, []), (.aload 0, 14, []), (.getfield 0, 15, [8, 2]), (.invokestatic 303, 16, [1, 0, 1, 1, 7]), (.iastore, 17, []), (.aload 0, 18, []), (.getfield 0, 19, [8, 2]), (.invokestatic 310, 20, [1, 0, 0, 1, 7]), (.iconst (1), 21, []), (.ireturn, 22, [3])]
def k_TR_readAmount : mCode := [(.aload 0, 1, []), (.getfield 0, 2, [8, 2]), (.iload 2, 3, []), (.iload 3, 4, []), (.invokestatic 308, 5, [3, 0, 1, 3, 7]), (.ifCond .eq 0, 6, [1, 8]), (.iconst (0), 7, []), (.ireturn, 8, [3]), (.aload 0, 9, []), (.getfield 1, 10, [8, 2]), (.getfield 4, 11, [7, 2]), (.iload 1, 12, []), (.aload 0, 13, []), (.getfield 0, 14, [8, 2]), (.invokestatic 304, 15, [1, 0, 1, 1, 7]), (.iastore, 16, []), (.aload 0, 17, []), (.getfield 0, 18, [8, 2]), (.invokestatic 310, 19, [1, 0, 0, 1, 7]), (.iconst (1), 20, []), (.ireturn, 21, [3])]
def k_Tr_init : mCode := [(.aload 0, 1, []), (.invokespecial 0, 2, []), (.aload 0, 3, []), (.iconst (4), 4, []), (.iconst (60), 5, []), (.multianewarray 0 0, 6, []), (.putfield 0, 7, [9, 2]), (.aload 0, 8, []), (.iconst (4), 9, []), (.newarray .int, 10, [0]), (.putfield 1, 11, [9, 2]), (.aload 0, 12, []), (.iconst (4), 13, []), (.newarray .int, 14, [0]), (.dup, 15, []), (.iconst (0), 16, []), (.iconst (-1), 17, []), (.iastore, 18, []), (.dup, 19, []), (.iconst (1), 20, []), (.iconst (-1), 21, []), (.iastore, 22, []), (.dup, 23, []), (.iconst (2), 24, []), (.iconst (-1), 25, []), (.iastore, 26, []), (.dup, 27, []), (.iconst (3), 28, []), (.iconst (-1), 29, []), (.iastore, 30, []), (.putfield 2, 31, [9, 2]), (.return_, 32, [])]
def k_Tr_isTray : mCode := [(.iload 1, 1, []), (.ifCond .eq 0, 2, [2, 7]), (.iload 1, 3, []), (.iconst (4), 4, []), (.if_icmp .eq 0, 5, [3, 7]), (.iconst (1), 6, []), (.goto 0, 7, [8]), (.iconst (0), 8, []), (.ireturn, 9, [3])]
def k_Tr_isSort : mCode := [(.iload 1, 1, []), (.ifCond .eq 0, 2, [2, 7]), (.iload 1, 3, []), (.iconst (3), 4, []), (.if_icmp .eq 0, 5, [4, 7]), (.iconst (1), 6, []), (.goto 0, 7, [8]), (.iconst (0), 8, []), (.ireturn, 9, [3])]
def k_Tr_isMissing : mCode := [(.aload 0, 1, []), (.getfield 2, 2, [9, 2]), (.iload 1, 3, []), (.iaload, 4, []), (.iconst (-1), 5, []), (.if_icmp .eq 0, 6, [1, 8]), (.iconst (1), 7, []), (.goto 0, 8, [9]), (.iconst (0), 9, []), (.ireturn, 10, [3])]
def k_Tr_length : mCode := [(.aload 0, 1, []), (.getfield 2, 2, [9, 2]), (.iload 1, 3, []), (.iaload, 4, []), (.ireturn, 5, [0])]
def k_Tr_sort : mCode := [(.aload 0, 1, []), (.getfield 1, 2, [9, 2]), (.iload 1, 3, []), (.iaload, 4, []), (.ireturn, 5, [0])]
def k_Tr_has : mCode := [(.iload 2, 1, []), (.i2l, 2, []), (.iload 3, 3, []), (.i2l, 4, []), (.ladd, 5, []), (.aload 0, 6, []), (.getfield 2, 7, [9, 2]), (.iload 1, 8, []), (.iaload, 9, []), (.i2l, 10, []), (.lcmp, 12, [4, 14]), (.ifCond .eq 0, 12, [4, 14]), (.iconst (1), 13, []), (.goto 0, 14, [15]), (.iconst (0), 15, []), (.ireturn, 16, [3])]
def k_Tr_lay : mCode := [(.aload 0, 1, []), (.getfield 1, 2, [9, 2]), (.iload 1, 3, []), (.iload 2, 4, []), (.iastore, 5, []), (.aload 0, 6, []), (.getfield 2, 7, [9, 2]), (.iload 1, 8, []), (.iload 3, 9, []), (.iastore, 10, []), (.iconst (0), 11, []), (.istore 4, 12, []), (.iload 4, 13, []), (.iload 3, 14, []), (.if_icmp .eq 0, 15, [3, 24]), (.aload 0, 16, []), (.getfield 0, 17, [9, 2]), (.iload 1, 18, []), (.aaload, 19, [3]), (.iload 4, 20, []), (.sipush (0), 21, []), (.lastore, 22, []), (.iinc 4 (1), 23, []), (.goto 0, 24, [12]), (.return_, 25, [])]
def k_Tr_at : mCode := [(.aload 0, 1, []), (.getfield 0, 2, [9, 2]), (.iload 1, 3, []), (.aaload, 4, [3]), (.iload 2, 5, []), (.laload, 6, []), (.lreturn, 7, [])]
def k_Tr_put : mCode := [(.aload 0, 1, []), (.getfield 0, 2, [9, 2]), (.iload 1, 3, []), (.aaload, 4, [3]), (.iload 2, 5, []), (.aload 0, 6, []), (.getfield 1, 7, [9, 2]), (.iload 1, 8, []), (.iaload, 9, []), (.lload 3, 10, []), (.invokestatic 343, 11, [2, 0, 2, 3, 0]), (.lastore, 12, []), (.return_, 13, [])]
def k_Tr_copy : mCode := [(.aload 0, 1, []), (.getfield 0, 2, [9, 2]), (.iload 1, 3, []), (.aaload, 4, [3]), (.iload 2, 5, []), (.aload 0, 6, []), (.getfield 0, 7, [9, 2]), (.iload 3, 8, []), (.aaload, 9, [3]), (.iload 4, 10, []), (.iload 5, 11, []), (.swap, 12, [1]), (.return_, 13, [])]
def k_Tr_cutTo : mCode := [(.iload 0, 1, []), (.tableswitch 0 (0) 0 #[], 2, [16, 2, 7, 12]), (.lload 1, 3, []), (.l2i, 4, []), (.i2b, 5, []), (.i2l, 6, []), (.lreturn, 7, []), (.lload 1, 8, []), (.l2i, 9, []), (.i2s, 10, []), (.i2l, 11, []), (.lreturn, 12, []), (.lload 1, 13, []), (.l2i, 14, []), (.i2l, 15, []), (.lreturn, 16, []), (.lload 1, 17, []), (.lreturn, 18, [])]
def k_Wy_init : mCode := [(.aload 0, 1, []), (.invokespecial 0, 2, []), (.aload 0, 3, []), (.iconst (7), 4, []), (.newarray .int, 5, [0]), (.putfield 0, 6, [10, 2]), (.aload 0, 7, []), (.iconst (128), 8, []), (.newarray .int, 9, [0]), (.putfield 1, 10, [10, 2]), (.aload 0, 11, []), (.iconst (128), 12, []), (.newarray .int, 13, [0]), (.putfield 2, 14, [10, 2]), (.aload 0, 15, []), (.iconst (0), 16, []), (.putfield 3, 17, [10, 0]), (.aload 0, 18, []), (.iconst (0), 19, []), (.putfield 4, 20, [10, 0]), (.return_, 21, [])]
def k_Wy_begin : mCode := [(.aload 0, 1, []), (.iload 1, 2, []), (.iconst (7), 3, []), (.dsub, 4, []), (.putfield 3, 5, [10, 0]), (.aload 0, 6, []), (.iconst (1), 7, []), (.aload 0, 8, []), (.getfield 3, 9, [10, 0]), (.ishl, 10, []), (.iconst (1), 11, []), (.isub, 12, []), (.putfield 4, 13, [10, 0]), (.iconst (0), 14, []), (.istore 2, 15, []), (.iload 2, 16, []), (.aload 0, 17, []), (.getfield 3, 18, [10, 0]), (.if_icmp .eq 0, 19, [3, 33]), (.aload 0, 20, []), (.getfield 0, 21, [10, 2]), (.iload 2, 22, []), (.aload 0, 23, []), (.getfield 4, 24, [10, 0]), (.iconst (1), 25, []), (.iload 2, 26, []), (.ishl, 27, []), (.iconst (-1), 28, []), (.ixor, 29, []), (.iand, 30, []), (.iastore, 31, []), (.iinc 2 (1), 32, []), (.goto 0, 33, [15]), (.return_, 34, [])]
def k_Wy_seen : mCode := [(.iconst (0), 1, []), (.istore 3, 2, []), (.iload 3, 3, []), (.aload 0, 4, []), (.getfield 3, 5, [10, 0]), (.if_icmp .eq 0, 6, [3, 26]), (.aload 0, 7, []), (.getfield 0, 8, [10, 2]), (.iload 3, 9, []), (.dup2, 10, []), (.iaload, 11, []), (.iload 1, 12, []), (.iconst (1), 13, []), (.iload 3, 14, []), (.ishl, 15, []), (.iand, 16, []), (.ifCond .eq 0, 17, [0, 19]), (.iload 2, 18, []), (.goto 0, 19, [22]), (.iload 2, 20, []), (.iconst (-1), 21, []), (.ixor, 22, []), (.iand, 23, []), (.iastore, 24, []), (.iinc 3 (1), 25, []), (.goto 0, 26, [2]), (.return_, 27, [])]
def k_Wy_countAll : mCode := [(.iconst (0), 1, []), (.istore 1, 2, []), (.iload 1, 3, []), (.aload 0, 4, []), (.getfield 4, 5, [10, 0]), (.if_icmp .eq 0, 6, [4, 18]), (.aload 0, 7, []), (.getfield 1, 8, [10, 2]), (.iload 1, 9, []), (.iconst (0), 10, []), (.iastore, 11, []), (.aload 0, 12, []), (.getfield 2, 13, [10, 2]), (.iload 1, 14, []), (.iconst (0), 15, []), (.iastore, 16, []), (.iinc 1 (1), 17, []), (.goto 0, 18, [2]), (.aload 0, 19, []), (.getfield 1, 20, [10, 2]), (.iconst (0), 21, []), (.iconst (1), 22, []), (.iastore, 23, []), (.aload 0, 24, []), (.getfield 2, 25, [10, 2]), (.aload 0, 26, []), (.getfield 4, 27, [10, 0]), (.iconst (1), 28, []), (.iastore, 29, []), (.iconst (0), 30, []), (.istore 1, 31, []), (.iload 1, 32, []), (.aload 0, 33, []), (.getfield 4, 34, [10, 0]), (.if_icmp .eq 0, 35, [3, 40]), (.aload 0, 36, []), (.iload 1, 37, []), (.invokestatic 348, 38, [2, 0, 0, 4, 11]), (.iinc 1 (1), 39, []), (.goto 0, 40, [31]), (.aload 0, 41, []), (.getfield 4, 42, [10, 0]), (.iconst (1), 43, []), (.isub, 44, []), (.istore 1, 45, []), (.iload 1, 46, []), (.ifCond .eq 0, 47, [2, 52]), (.aload 0, 48, []), (.iload 1, 49, []), (.invokestatic 349, 50, [2, 0, 0, 4, 11]), (.iinc 1 (-1), 51, []), (.goto 0, 52, [45]), (.return_, 53, [])]
def k_Wy_spread : mCode := [(.iload 1, 1, []), (.invokestatic 0, 2, [1, 0, 1, 1, 0]), (.istore 2, 3, []), (.iconst (0), 4, []), (.istore 3, 5, []), (.iload 3, 6, []), (.aload 0, 7, []), (.getfield 3, 8, [10, 0]), (.if_icmp .eq 0, 9, [3, 32]), (.aload 0, 10, []), (.iload 1, 11, []), (.iload 2, 12, []), (.iload 3, 13, []), (.invokestatic 350, 14, [4, 0, 1, 4, 11]), (.ifCond .eq 0, 15, [0, 30]), (.aload 0, 16, []), (.getfield 1, 17, [10, 2]), (.iload 1, 18, []), (.iconst (1), 19, []), (.iload 3, 20, []), (.ishl, 21, []), (.ior, 22, []), (.dup2, 23, []), (.iaload, 24, []), (.aload 0, 25, []), (.getfield 1, 26, [10, 2]), (.iload 1, 27, []), (.iaload, 28, []), (.iadd, 29, []), (.iastore, 30, []), (.iinc 3 (1), 31, []), (.goto 0, 32, [5]), (.return_, 33, [])]
def k_Wy_gather : mCode := [(.iload 1, 1, []), (.invokestatic 0, 2, [1, 0, 1, 1, 0]), (.istore 2, 3, []), (.iconst (0), 4, []), (.istore 3, 5, []), (.iload 3, 6, []), (.aload 0, 7, []), (.getfield 3, 8, [10, 0]), (.if_icmp .eq 0, 9, [3, 32]), (.aload 0, 10, []), (.iload 1, 11, []), (.iload 2, 12, []), (.iload 3, 13, []), (.invokestatic 350, 14, [4, 0, 1, 4, 11]), (.ifCond .eq 0, 15, [0, 30]), (.aload 0, 16, []), (.getfield 2, 17, [10, 2]), (.iload 1, 18, []), (.dup2, 19, []), (.iaload, 20, []), (.aload 0, 21, []), (.getfield 2, 22, [10, 2]), (.iload 1, 23, []), (.iconst (1), 24, []), (.iload 3, 25, []), (.ishl, 26, []), (.ior, 27, []), (.iaload, 28, []), (.iadd, 29, []), (.iastore, 30, []), (.iinc 3 (1), 31, []), (.goto 0, 32, [5]), (.return_, 33, [])]
def k_Wy_isOpen : mCode := [(.aload 0, 1, []), (.getfield 0, 2, [10, 2]), (.iload 2, 3, []), (.iaload, 4, []), (.iload 1, 5, []), (.iconst (-1), 6, []), (.ixor, 7, []), (.iand, 8, []), (.iconst (1), 9, []), (.iload 3, 10, []), (.ishl, 11, []), (.iand, 12, []), (.ifCond .eq 0, 13, [0, 15]), (.iconst (1), 14, []), (.goto 0, 15, [16]), (.iconst (0), 16, []), (.ireturn, 17, [3])]
def k_Wy_all : mCode := [(.aload 0, 1, []), (.getfield 2, 2, [10, 2]), (.iconst (0), 3, []), (.iaload, 4, []), (.ireturn, 5, [0])]
def k_Wy_through : mCode := [(.iconst (0), 1, []), (.istore 3, 2, []), (.iconst (0), 3, []), (.istore 4, 4, []), (.iload 4, 5, []), (.aload 0, 6, []), (.getfield 4, 7, [10, 0]), (.if_icmp .eq 0, 8, [3, 36]), (.iload 4, 9, []), (.invokestatic 0, 10, [1, 0, 1, 1, 0]), (.iload 1, 11, []), (.if_icmp .eq 0, 12, [1, 34]), (.aload 0, 13, []), (.iload 4, 14, []), (.iload 1, 15, []), (.iload 2, 16, []), (.invokestatic 350, 17, [4, 0, 1, 4, 11]), (.ifCond .eq 0, 18, [0, 34]), (.iload 3, 19, []), (.aload 0, 20, []), (.getfield 1, 21, [10, 2]), (.iload 4, 22, []), (.iaload, 23, []), (.aload 0, 24, []), (.getfield 2, 25, [10, 2]), (.iload 4, 26, []), (.iconst (1), 27, []), (.iload 2, 28, []), (.ishl, 29, []), (.ior, 30, []), (.iaload, 31, []), (.imul, 32, []), (.iadd, 33, []), (.istore 3, 34, []), (.iinc 4 (1), 35, []), (.goto 0, 36, [4]), (.iload 3, 37, []), (.ireturn, 38, [0])]
def k_Wy_firstWhom : mCode := [(.iconst (0), 1, []), (.istore 2, 2, []), (.iconst (-1), 3, []), (.istore 3, 4, []), (.iconst (0), 5, []), (.istore 4, 6, []), (.iload 4, 7, []), (.iload 1, 8, []), (.if_icmp .eq 0, 9, [4, 27]), (.aload 0, 10, []), (.iload 2, 11, []), (.iload 4, 12, []), (.invokestatic 354, 13, [3, 0, 1, 4, 11]), (.istore 3, 14, []), (.iload 3, 15, []), (.iconst (-1), 16, []), (.if_icmp .eq 0, 17, [1, 19]), (.iconst (-1), 18, []), (.ireturn, 19, [0]), (.iload 2, 20, []), (.iconst (1), 21, []), (.iload 3, 22, []), (.ishl, 23, []), (.ior, 24, []), (.istore 2, 25, []), (.iinc 4 (1), 26, []), (.goto 0, 27, [6]), (.iload 3, 28, []), (.ireturn, 29, [0])]
def k_Wy_firstOpen : mCode := [(.iconst (0), 1, []), (.istore 3, 2, []), (.iload 3, 3, []), (.aload 0, 4, []), (.getfield 3, 5, [10, 0]), (.if_icmp .eq 0, 6, [3, 25]), (.aload 0, 7, []), (.iload 1, 8, []), (.iload 2, 9, []), (.iload 3, 10, []), (.invokestatic 350, 11, [4, 0, 1, 4, 11]), (.ifCond .eq 0, 12, [0, 23]), (.aload 0, 13, []), (.getfield 2, 14, [10, 2]), (.iload 1, 15, []), (.iconst (1), 16, []), (.iload 3, 17, []), (.ishl, 18, []), (.ior, 19, []), (.iaload, 20, []), (.ifCond .eq 0, 21, [5, 23]), (.iload 3, 22, []), (.ireturn, 23, [0]), (.iinc 3 (1), 24, []), (.goto 0, 25, [2]), (.iconst (-1), 26, []), (.ireturn, 27, [0])]
def k_Wy_bestAsked : mCode := [(.iconst (0), 1, []), (.istore 1, 2, []), (.aload 0, 3, []), (.iconst (0), 4, []), (.invokestatic 356, 5, [2, 0, 1, 4, 11]), (.istore 2, 6, []), (.iconst (1), 7, []), (.istore 3, 8, []), (.iload 3, 9, []), (.aload 0, 10, []), (.getfield 3, 11, [10, 0]), (.if_icmp .eq 0, 12, [3, 25]), (.aload 0, 13, []), (.iload 3, 14, []), (.invokestatic 356, 15, [2, 0, 1, 4, 11]), (.istore 4, 16, []), (.iload 4, 17, []), (.iload 2, 18, []), (.if_icmp .eq 0, 19, [3, 23]), (.iload 4, 20, []), (.istore 2, 21, []), (.iload 3, 22, []), (.istore 1, 23, []), (.iinc 3 (1), 24, []), (.goto 0, 25, [8]), (.iload 1, 26, []), (.ireturn, 27, [0])]
def k_Wy_mostThrough : mCode := [(.iconst (0), 1, []), (.istore 2, 2, []), (.iconst (0), 3, []), (.istore 3, 4, []), (.iload 3, 5, []), (.aload 0, 6, []), (.getfield 3, 7, [10, 0]), (.if_icmp .eq 0, 8, [3, 17]), (.iload 2, 9, []), (.aload 0, 10, []), (.iload 1, 11, []), (.iload 3, 12, []), (.invokestatic 352, 13, [3, 0, 1, 5, 11]), (.dadd, 14, []), (.istore 2, 15, []), (.iinc 3 (1), 16, []), (.goto 0, 17, [4]), (.iload 2, 18, []), (.ireturn, 19, [0])]
def k_L_law : mCode := [(.new 11, 1, [19]), (.dup, 2, []), (.invokestatic 1, 3, [1, 0, 0, 1, 12]), (.astore 1, 4, []), (.new 12, 5, [46]), (.dup, 6, []), (.invokestatic 76, 7, [1, 0, 0, 1, 13]), (.astore 2, 8, []), (.iconst (0), 9, []), (.istore 3, 10, []), (.iload 3, 11, []), (.aload 0, 12, []), (.arraylength, 13, [0]), (.iconst (6), 14, []), (.isub, 15, []), (.if_icmp .eq 0, 16, [4, 1229]), (.aload 0, 17, []), (.iload 3, 18, []), (.iaload, 19, []), (.iconst (63), 20, []), (.iand, 21, []), (.tableswitch 0 (0) 0 #[], 22, [1227, 22, 29, 37, 45, 82, 143, 171, 228, 285, 302, 319, 336, 353, 380, 407, 424, 441, 448, 475, 502, 529, 556, 573, 600, 627, 644, 671, 688, 695, 702, 719, 746, 753, 760, 777, 794, 811, 828, 855, 892, 939, 966, 993, 1030, 1067, 1084, 1101, 1118, 1135, 1152, 1169, 1186, 1213, 1220]), (.aload 1, 23, []), (.invokestatic 2, 24, [1, 0, 1, 1, 12]), (.aload 2, 25, []), (.invokestatic 78, 26, [1, 0, 1, 1, 13]), (.if_icmp .eq 0, 27, [0, 1227]), (.iconst (0), 28, []), (.ireturn, 29, [3]), (.aload 1, 30, []), (.invokestatic 3, 31, [1, 0, 2, 1, 12]), (.aload 2, 32, []), (.invokestatic 79, 33, [1, 0, 2, 1, 13]), (.lcmp, 35, [0, 1227]), (.ifCond .eq 0, 35, [0, 1227]), (.iconst (0), 36, []), (.ireturn, 37, [3]), (.aload 1, 38, []), (.invokestatic 4, 39, [1, 0, 2, 1, 12]), (.aload 2, 40, []), (.invokestatic 80, 41, [1, 0, 2, 1, 13]), (.lcmp, 43, [0, 1227]), (.ifCond .eq 0, 43, [0, 1227]), (.iconst (0), 44, []), (.ireturn, 45, [3]), (.aload 1, 46, []), (.aload 0, 47, []), (.iload 3, 48, []), (.iconst (1), 49, []), (.iadd, 50, []), (.iaload, 51, []), (.aload 0, 52, []), (.iload 3, 53, []), (.iconst (2), 54, []), (.iadd, 55, []), (.iaload, 56, []), (.aload 0, 57, []), (.iload 3, 58, []), (.iconst (3), 59, []), (.iadd, 60, []), (.iaload, 61, []), (.invokestatic 5, 62, [4, 0, 1, 4, 12]), (.aload 2, 63, []), (.aload 0, 64, []), (.iload 3, 65, []), (.iconst (1), 66, []), (.iadd, 67, []), (.iaload, 68, []), (.aload 0, 69, []), (.iload 3, 70, []), (.iconst (2), 71, []), (.iadd, 72, []), (.iaload, 73, []), (.aload 0, 74, []), (.iload 3, 75, []), (.iconst (3), 76, []), (.iadd, 77, []), (.iaload, 78, []), (.invokestatic 87, 79, [4, 0, 1, 5, 13]), (.if_icmp .eq 0, 80, [0, 1227]), (.iconst (0), 81, []), (.ireturn, 82, [3]), (.aload 1, 83, []), (.aload 0, 84, []), (.iload 3, 85, []), (.iconst (1), 86, []), (.iadd, 87, []), (.iaload, 88, []), (.aload 0, 89, []), (.iload 3, 90, []), (.iconst (2), 91, []), (.iadd, 92, []), (.iaload, 93, []), (.aload 0, 94, []), (.iload 3, 95, []), (.iconst (3), 96, []), (.iadd, 97, []), (.iaload, 98, []), (.i2l, 99, []), (.iconst (32), 100, []), (.lshl, 101, []), (.aload 0, 102, []), (.iload 3, 103, []), (.iconst (4), 104, []), (.iadd, 105, []), (.iaload, 106, []), (.i2l, 107, []), (.sipush (4294967295), 108, []), (.land, 109, []), (.lor, 110, []), (.invokestatic 6, 111, [4, 0, 1, 6, 12]), (.aload 2, 112, []), (.aload 0, 113, []), (.iload 3, 114, []), (.iconst (1), 115, []), (.iadd, 116, []), (.iaload, 117, []), (.aload 0, 118, []), (.iload 3, 119, []), (.iconst (2), 120, []), (.iadd, 121, []), (.iaload, 122, []), (.aload 0, 123, []), (.iload 3, 124, []), (.iconst (3), 125, []), (.iadd, 126, []), (.iaload, 127, []), (.i2l, 128, []), (.iconst (32), 129, []), (.lshl, 130, []), (.aload 0, 131, []), (.iload 3, 132, []), (.iconst (4), 133, []), (.iadd, 134, []), (.iaload, 135, []), (.i2l, 136, []), (.sipush (4294967295), 137, []), (.land, 138, []), (.lor, 139, []), (.invokestatic 89, 140, [4, 0, 1, 6, 13]), (.if_icmp .eq 0, 141, [0, 1227]), (.iconst (0), 142, []), (.ireturn, 143, [3]), (.aload 1, 144, []), (.aload 0, 145, []), (.iload 3, 146, []), (.iconst (1), 147, []), (.iadd, 148, []), (.iaload, 149, []), (.aload 0, 150, []), (.iload 3, 151, []), (.iconst (2), 152, []), (.iadd, 153, []), (.iaload, 154, []), (.invokestatic 7, 155, [3, 0, 2, 4, 12]), (.aload 2, 156, []), (.aload 0, 157, []), (.iload 3, 158, []), (.iconst (1), 159, []), (.iadd, 160, []), (.iaload, 161, []), (.aload 0, 162, []), (.iload 3, 163, []), (.iconst (2), 164, []), (.iadd, 165, []), (.iaload, 166, []), (.invokestatic 90, 167, [3, 0, 2, 3, 13]), (.lcmp, 169, [0, 1227]), (.ifCond .eq 0, 169, [0, 1227]), (.iconst (0), 170, []), (.ireturn, 171, [3]), (.aload 1, 172, []), (.aload 0, 173, []), (.iload 3, 174, []), (.iconst (1), 175, []), (.iadd, 176, []), (.iaload, 177, []), (.aload 0, 178, []), (.iload 3, 179, []), (.iconst (2), 180, []), (.iadd, 181, []), (.iaload, 182, []), (.aload 0, 183, []), (.iload 3, 184, []), (.iconst (3), 185, []), (.iadd, 186, []), (.iaload, 187, []), (.aload 0, 188, []), (.iload 3, 189, []), (.iconst (4), 190, []), (.iadd, 191, []), (.iaload, 192, []), (.aload 0, 193, []), (.iload 3, 194, []), (.iconst (5), 195, []), (.iadd, 196, []), (.iaload, 197, []), (.invokestatic 8, 198, [6, 0, 1, 7, 12]), (.aload 2, 199, []), (.aload 0, 200, []), (.iload 3, 201, []), (.iconst (1), 202, []), (.iadd, 203, []), (.iaload, 204, []), (.aload 0, 205, []), (.iload 3, 206, []), (.iconst (2), 207, []), (.iadd, 208, []), (.iaload, 209, []), (.aload 0, 210, []), (.iload 3, 211, []), (.iconst (3), 212, []), (.iadd, 213, []), (.iaload, 214, []), (.aload 0, 215, []), (.iload 3, 216, []), (.iconst (4), 217, []), (.iadd, 218, []), (.iaload, 219, []), (.aload 0, 220, []), (.iload 3, 221, []), (.iconst (5), 222, []), (.iadd, 223, []), (.iaload, 224, []), (.invokestatic 91, 225, [6, 0, 1, 8, 13]), (.if_icmp .eq 0, 226, [0, 1227]), (.iconst (0), 227, []), (.ireturn, 228, [3]), (.aload 1, 229, []), (.aload 0, 230, []), (.iload 3, 231, []), (.iconst (1), 232, []), (.iadd, 233, []), (.iaload, 234, []), (.aload 0, 235, []), (.iload 3, 236, []), (.iconst (2), 237, []), (.iadd, 238, []), (.iaload, 239, []), (.aload 0, 240, []), (.iload 3, 241, []), (.iconst (3), 242, []), (.iadd, 243, []), (.iaload, 244, []), (.aload 0, 245, []), (.iload 3, 246, []), (.iconst (4), 247, []), (.iadd, 248, []), (.iaload, 249, []), (.aload 0, 250, []), (.iload 3, 251, []), (.iconst (5), 252, []), (.iadd, 253, []), (.iaload, 254, []), (.invokestatic 11, 255, [6, 0, 1, 6, 12]), (.aload 2, 256, []), (.aload 0, 257, []), (.iload 3, 258, []), (.iconst (1), 259, []), (.iadd, 260, []), (.iaload, 261, []), (.aload 0, 262, []), (.iload 3, 263, []), (.iconst (2), 264, []), (.iadd, 265, []), (.iaload, 266, []), (.aload 0, 267, []), (.iload 3, 268, []), (.iconst (3), 269, []), (.iadd, 270, []), (.iaload, 271, []), (.aload 0, 272, []), (.iload 3, 273, []), (.iconst (4), 274, []), (.iadd, 275, []), (.iaload, 276, []), (.aload 0, 277, []), (.iload 3, 278, []), (.iconst (5), 279, []), (.iadd, 280, []), (.iaload, 281, []), (.invokestatic 93, 282, [6, 0, 1, 6, 13]), (.if_icmp .eq 0, 283, [0, 1227]), (.iconst (0), 284, []), (.ireturn, 285, [3]), (.aload 1, 286, []), (.aload 0, 287, []), (.iload 3, 288, []), (.iconst (1), 289, []), (.iadd, 290, []), (.iaload, 291, []), (.invokestatic 12, 292, [2, 0, 1, 3, 12]), (.aload 2, 293, []), (.aload 0, 294, []), (.iload 3, 295, []), (.iconst (1), 296, []), (.iadd, 297, []), (.iaload, 298, []), (.invokestatic 120, 299, [2, 0, 1, 4, 13]), (.if_icmp .eq 0, 300, [0, 1227]), (.iconst (0), 301, []), (.ireturn, 302, [3]), (.aload 1, 303, []), (.aload 0, 304, []), (.iload 3, 305, []), (.iconst (1), 306, []), (.iadd, 307, []), (.iaload, 308, []), (.invokestatic 13, 309, [2, 0, 1, 3, 12]), (.aload 2, 310, []), (.aload 0, 311, []), (.iload 3, 312, []), (.iconst (1), 313, []), (.iadd, 314, []), (.iaload, 315, []), (.invokestatic 125, 316, [2, 0, 1, 4, 13]), (.if_icmp .eq 0, 317, [0, 1227]), (.iconst (0), 318, []), (.ireturn, 319, [3]), (.aload 1, 320, []), (.aload 0, 321, []), (.iload 3, 322, []), (.iconst (1), 323, []), (.iadd, 324, []), (.iaload, 325, []), (.invokestatic 14, 326, [2, 0, 1, 2, 12]), (.aload 2, 327, []), (.aload 0, 328, []), (.iload 3, 329, []), (.iconst (1), 330, []), (.iadd, 331, []), (.iaload, 332, []), (.invokestatic 109, 333, [2, 0, 1, 2, 13]), (.if_icmp .eq 0, 334, [0, 1227]), (.iconst (0), 335, []), (.ireturn, 336, [3]), (.aload 1, 337, []), (.aload 0, 338, []), (.iload 3, 339, []), (.iconst (1), 340, []), (.iadd, 341, []), (.iaload, 342, []), (.invokestatic 15, 343, [2, 0, 1, 2, 12]), (.aload 2, 344, []), (.aload 0, 345, []), (.iload 3, 346, []), (.iconst (1), 347, []), (.iadd, 348, []), (.iaload, 349, []), (.invokestatic 139, 350, [2, 0, 1, 2, 13]), (.if_icmp .eq 0, 351, [0, 1227]), (.iconst (0), 352, []), (.ireturn, 353, [3]), (.aload 1, 354, []), (.aload 0, 355, []), (.iload 3, 356, []), (.iconst (1), 357, []), (.iadd, 358, []), (.iaload, 359, []), (.aload 0, 360, []), (.iload 3, 361, []), (.iconst (2), 362, []), (.iadd, 363, []), (.iaload, 364, []), (.invokestatic 16, 365, [3, 0, 1, 4, 12]), (.aload 2, 366, []), (.aload 0, 367, []), (.iload 3, 368, []), (.iconst (1), 369, []), (.iadd, 370, []), (.iaload, 371, []), (.aload 0, 372, []), (.iload 3, 373, []), (.iconst (2), 374, []), (.iadd, 375, []), (.iaload, 376, []), (.invokestatic 140, 377, [3, 0, 1, 3, 13]), (.if_icmp .eq 0, 378, [0, 1227]), (.iconst (0), 379, []), (.ireturn, 380, [3]), (.aload 1, 381, []), (.aload 0, 382, []), (.iload 3, 383, []), (.iconst (1), 384, []), (.iadd, 385, []), (.iaload, 386, []), (.aload 0, 387, []), (.iload 3, 388, []), (.iconst (2), 389, []), (.iadd, 390, []), (.iaload, 391, []), (.invokestatic 17, 392, [3, 0, 1, 3, 12]), (.aload 2, 393, []), (.aload 0, 394, []), (.iload 3, 395, []), (.iconst (1), 396, []), (.iadd, 397, []), (.iaload, 398, []), (.aload 0, 399, []), (.iload 3, 400, []), (.iconst (2), 401, []), (.iadd, 402, []), (.iaload, 403, []), (.invokestatic 141, 404, [3, 0, 1, 3, 13]), (.if_icmp .eq 0, 405, [0, 1227]), (.iconst (0), 406, []), (.ireturn, 407, [3]), (.aload 1, 408, []), (.aload 0, 409, []), (.iload 3, 410, []), (.iconst (1), 411, []), (.iadd, 412, []), (.iaload, 413, []), (.invokestatic 18, 414, [2, 0, 1, 2, 12]), (.aload 2, 415, []), (.aload 0, 416, []), (.iload 3, 417, []), (.iconst (1), 418, []), (.iadd, 419, []), (.iaload, 420, []), (.invokestatic 144, 421, [2, 0, 1, 2, 13]), (.if_icmp .eq 0, 422, [0, 1227]), (.iconst (0), 423, []), (.ireturn, 424, [3]), (.aload 1, 425, []), (.aload 0, 426, []), (.iload 3, 427, []), (.iconst (1), 428, []), (.iadd, 429, []), (.iaload, 430, []), (.invokestatic 19, 431, [2, 0, 1, 2, 12]), (.aload 2, 432, []), (.aload 0, 433, []), (.iload 3, 434, []), (.iconst (1), 435, []), (.iadd, 436, []), (.iaload, 437, []), (.invokestatic 148, 438, [2, 0, 1, 2, 13]), (.if_icmp .eq 0, 439, [0, 1227]), (.iconst (0), 440, []), (.ireturn, 441, [3]), (.aload 1, 442, []), (.invokestatic 20, 443, [1, 0, 1, 1, 12]), (.aload 2, 444, []), (.invokestatic 150, 445, [1, 0, 1, 1, 13]), (.if_icmp .eq 0, 446, [0, 1227]), (.iconst (0), 447, []), (.ireturn, 448, [3]), (.aload 1, 449, []), (.aload 0, 450, []), (.iload 3, 451, []), (.iconst (1), 452, []), (.iadd, 453, []), (.iaload, 454, []), (.aload 0, 455, []), (.iload 3, 456, []), (.iconst (2), 457, []), (.iadd, 458, []), (.iaload, 459, []), (.invokestatic 21, 460, [3, 0, 1, 4, 12]), (.aload 2, 461, []), (.aload 0, 462, []), (.iload 3, 463, []), (.iconst (1), 464, []), (.iadd, 465, []), (.iaload, 466, []), (.aload 0, 467, []), (.iload 3, 468, []), (.iconst (2), 469, []), (.iadd, 470, []), (.iaload, 471, []), (.invokestatic 152, 472, [3, 0, 1, 4, 13]), (.if_icmp .eq 0, 473, [0, 1227]), (.iconst (0), 474, []), (.ireturn, 475, [3]), (.aload 1, 476, []), (.aload 0, 477, []), (.iload 3, 478, []), (.iconst (1), 479, []), (.iadd, 480, []), (.iaload, 481, []), (.aload 0, 482, []), (.iload 3, 483, []), (.iconst (2), 484, []), (.iadd, 485, []), (.iaload, 486, []), (.invokestatic 22, 487, [3, 0, 1, 4, 12]), (.aload 2, 488, []), (.aload 0, 489, []), (.iload 3, 490, []), (.iconst (1), 491, []), (.iadd, 492, []), (.iaload, 493, []), (.aload 0, 494, []), (.iload 3, 495, []), (.iconst (2), 496, []), (.iadd, 497, []), (.iaload, 498, []), (.invokestatic 153, 499, [3, 0, 1, 4, 13]), (.if_icmp .eq 0, 500, [0, 1227]), (.iconst (0), 501, []), (.ireturn, 502, [3]), (.aload 1, 503, []), (.aload 0, 504, []), (.iload 3, 505, []), (.iconst (1), 506, []), (.iadd, 507, []), (.iaload, 508, []), (.aload 0, 509, []), (.iload 3, 510, []), (.iconst (2), 511, []), (.iadd, 512, []), (.iaload, 513, []), (.invokestatic 23, 514, [3, 0, 1, 4, 12]), (.aload 2, 515, []), (.aload 0, 516, []), (.iload 3, 517, []), (.iconst (1), 518, []), (.iadd, 519, []), (.iaload, 520, []), (.aload 0, 521, []), (.iload 3, 522, []), (.iconst (2), 523, []), (.iadd, 524, []), (.iaload, 525, []), (.invokestatic 154, 526, [3, 0, 1, 4, 13]), (.if_icmp .eq 0, 527, [0, 1227]), (.iconst (0), 528, []), (.ireturn, 529, [3]), (.aload 1, 530, []), (.aload 0, 531, []), (.iload 3, 532, []), (.iconst (1), 533, []), (.iadd, 534, []), (.iaload, 535, []), (.aload 0, 536, []), (.iload 3, 537, []), (.iconst (2), 538, []), (.iadd, 539, []), (.iaload, 540, []), (.invokestatic 24, 541, [3, 0, 1, 4, 12]), (.aload 2, 542, []), (.aload 0, 543, []), (.iload 3, 544, []), (.iconst (1), 545, []), (.iadd, 546, []), (.iaload, 547, []), (.aload 0, 548, []), (.iload 3, 549, []), (.iconst (2), 550, []), (.iadd, 551, []), (.iaload, 552, []), (.invokestatic 155, 553, [3, 0, 1, 4, 13]), (.if_icmp .eq 0, 554, [0, 1227]), (.iconst (0), 555, []), (.ireturn, 556, [3]), (.aload 1, 557, []), (.aload 0, 558, []), (.iload 3, 559, []), (.iconst (1), 560, []), (.iadd, 561, []), (.iaload, 562, []), (.invokestatic 25, 563, [2, 0, 1, 2, 12]), (.aload 2, 564, []), (.aload 0, 565, []), (.iload 3, 566, []), (.iconst (1), 567, []), (.iadd, 568, []), (.iaload, 569, []), (.invokestatic 156, 570, [2, 0, 1, 4, 13]), (.if_icmp .eq 0, 571, [0, 1227]), (.iconst (0), 572, []), (.ireturn, 573, [3]), (.aload 1, 574, []), (.aload 0, 575, []), (.iload 3, 576, []), (.iconst (1), 577, []), (.iadd, 578, []), (.iaload, 579, []), (.aload 0, 580, []), (.iload 3, 581, []), (.iconst (2), 582, []), (.iadd, 583, []), (.iaload, 584, []), (.invokestatic 26, 585, [3, 0, 1, 3, 12]), (.aload 2, 586, []), (.aload 0, 587, []), (.iload 3, 588, []), (.iconst (1), 589, []), (.iadd, 590, []), (.iaload, 591, []), (.aload 0, 592, []), (.iload 3, 593, []), (.iconst (2), 594, []), (.iadd, 595, []), (.iaload, 596, []), (.invokestatic 157, 597, [3, 0, 1, 3, 13]), (.if_icmp .eq 0, 598, [0, 1227]), (.iconst (0), 599, []), (.ireturn, 600, [3]), (.aload 1, 601, []), (.aload 0, 602, []), (.iload 3, 603, []), (.iconst (1), 604, []), (.iadd, 605, []), (.iaload, 606, []), (.aload 0, 607, []), (.iload 3, 608, []), (.iconst (2), 609, []), (.iadd, 610, []), (.iaload, 611, []), (.invokestatic 27, 612, [3, 0, 1, 3, 12]), (.aload 2, 613, []), (.aload 0, 614, []), (.iload 3, 615, []), (.iconst (1), 616, []), (.iadd, 617, []), (.iaload, 618, []), (.aload 0, 619, []), (.iload 3, 620, []), (.iconst (2), 621, []), (.iadd, 622, []), (.iaload, 623, []), (.invokestatic 162, 624, [3, 0, 1, 3, 13]), (.if_icmp .eq 0, 625, [0, 1227]), (.iconst (0), 626, []), (.ireturn, 627, [3]), (.aload 1, 628, []), (.aload 0, 629, []), (.iload 3, 630, []), (.iconst (1), 631, []), (.iadd, 632, []), (.iaload, 633, []), (.invokestatic 28, 634, [2, 0, 1, 3, 12]), (.aload 2, 635, []), (.aload 0, 636, []), (.iload 3, 637, []), (.iconst (1), 638, []), (.iadd, 639, []), (.iaload, 640, []), (.invokestatic 163, 641, [2, 0, 1, 3, 13]), (.if_icmp .eq 0, 642, [0, 1227]), (.iconst (0), 643, []), (.ireturn, 644, [3]), (.aload 1, 645, []), (.aload 0, 646, []), (.iload 3, 647, []), (.iconst (1), 648, []), (.iadd, 649, []), (.iaload, 650, []), (.aload 0, 651, []), (.iload 3, 652, []), (.iconst (2), 653, []), (.iadd, 654, []), (.iaload, 655, []), (.invokestatic 29, 656, [3, 0, 1, 3, 12]), (.aload 2, 657, []), (.aload 0, 658, []), (.iload 3, 659, []), (.iconst (1), 660, []), (.iadd, 661, []), (.iaload, 662, []), (.aload 0, 663, []), (.iload 3, 664, []), (.iconst (2), 665, []), (.iadd, 666, []), (.iaload, 667, []), (.invokestatic 165, 668, [3, 0, 1, 4, 13]), (.if_icmp .eq 0, 669, [0, 1227]), (.iconst (0), 670, []), (.ireturn, 671, [3]), (.aload 1, 672, []), (.aload 0, 673, []), (.iload 3, 674, []), (.iconst (1), 675, []), (.iadd, 676, []), (.iaload, 677, []), (.invokestatic 30, 678, [2, 0, 1, 2, 12]), (.aload 2, 679, []), (.aload 0, 680, []), (.iload 3, 681, []), (.iconst (1), 682, []), (.iadd, 683, []), (.iaload, 684, []), (.invokestatic 166, 685, [2, 0, 1, 3, 13]), (.if_icmp .eq 0, 686, [0, 1227]), (.iconst (0), 687, []), (.ireturn, 688, [3]), (.aload 1, 689, []), (.invokestatic 31, 690, [1, 0, 1, 2, 12]), (.aload 2, 691, []), (.invokestatic 169, 692, [1, 0, 1, 1, 13]), (.if_icmp .eq 0, 693, [0, 1227]), (.iconst (0), 694, []), (.ireturn, 695, [3]), (.aload 1, 696, []), (.invokestatic 32, 697, [1, 0, 1, 2, 12]), (.aload 2, 698, []), (.invokestatic 170, 699, [1, 0, 1, 1, 13]), (.if_icmp .eq 0, 700, [0, 1227]), (.iconst (0), 701, []), (.ireturn, 702, [3]), (.aload 1, 703, []), (.aload 0, 704, []), (.iload 3, 705, []), (.iconst (1), 706, []), (.iadd, 707, []), (.iaload, 708, []), (.invokestatic 36, 709, [2, 0, 1, 2, 12]), (.aload 2, 710, []), (.aload 0, 711, []), (.iload 3, 712, []), (.iconst (1), 713, []), (.iadd, 714, []), (.iaload, 715, []), (.invokestatic 172, 716, [2, 0, 1, 2, 13]), (.if_icmp .eq 0, 717, [0, 1227]), (.iconst (0), 718, []), (.ireturn, 719, [3]), (.aload 1, 720, []), (.aload 0, 721, []), (.iload 3, 722, []), (.iconst (1), 723, []), (.iadd, 724, []), (.iaload, 725, []), (.aload 0, 726, []), (.iload 3, 727, []), (.iconst (2), 728, []), (.iadd, 729, []), (.iaload, 730, []), (.invokestatic 37, 731, [3, 0, 1, 3, 12]), (.aload 2, 732, []), (.aload 0, 733, []), (.iload 3, 734, []), (.iconst (1), 735, []), (.iadd, 736, []), (.iaload, 737, []), (.aload 0, 738, []), (.iload 3, 739, []), (.iconst (2), 740, []), (.iadd, 741, []), (.iaload, 742, []), (.invokestatic 173, 743, [3, 0, 1, 3, 13]), (.if_icmp .eq 0, 744, [0, 1227]), (.iconst (0), 745, []), (.ireturn, 746, [3]), (.aload 1, 747, []), (.invokestatic 38, 748, [1, 0, 1, 3, 12]), (.aload 2, 749, []), (.invokestatic 175, 750, [1, 0, 1, 5, 13]), (.if_icmp .eq 0, 751, [0, 1227]), (.iconst (0), 752, []), (.ireturn, 753, [3]), (.aload 1, 754, []), (.invokestatic 39, 755, [1, 0, 1, 3, 12]), (.aload 2, 756, []), (.invokestatic 176, 757, [1, 0, 1, 3, 13]), (.if_icmp .eq 0, 758, [0, 1227]), (.iconst (0), 759, []), (.ireturn, 760, [3]), (.aload 1, 761, []), (.aload 0, 762, []), (.iload 3, 763, []), (.iconst (1), 764, []), (.iadd, 765, []), (.iaload, 766, []), (.invokestatic 40, 767, [2, 0, 1, 3, 12]), (.aload 2, 768, []), (.aload 0, 769, []), (.iload 3, 770, []), (.iconst (1), 771, []), (.iadd, 772, []), (.iaload, 773, []), (.invokestatic 178, 774, [2, 0, 1, 3, 13]), (.if_icmp .eq 0, 775, [0, 1227]), (.iconst (0), 776, []), (.ireturn, 777, [3]), (.aload 1, 778, []), (.aload 0, 779, []), (.iload 3, 780, []), (.iconst (1), 781, []), (.iadd, 782, []), (.iaload, 783, []), (.invokestatic 41, 784, [2, 0, 1, 2, 12]), (.aload 2, 785, []), (.aload 0, 786, []), (.iload 3, 787, []), (.iconst (1), 788, []), (.iadd, 789, []), (.iaload, 790, []), (.invokestatic 180, 791, [2, 0, 1, 2, 13]), (.if_icmp .eq 0, 792, [0, 1227]), (.iconst (0), 793, []), (.ireturn, 794, [3]), (.aload 1, 795, []), (.aload 0, 796, []), (.iload 3, 797, []), (.iconst (1), 798, []), (.iadd, 799, []), (.iaload, 800, []), (.invokestatic 42, 801, [2, 0, 1, 2, 12]), (.aload 2, 802, []), (.aload 0, 803, []), (.iload 3, 804, []), (.iconst (1), 805, []), (.iadd, 806, []), (.iaload, 807, []), (.invokestatic 181, 808, [2, 0, 1, 2, 13]), (.if_icmp .eq 0, 809, [0, 1227]), (.iconst (0), 810, []), (.ireturn, 811, [3]), (.aload 1, 812, []), (.aload 0, 813, []), (.iload 3, 814, []), (.iconst (1), 815, []), (.iadd, 816, []), (.iaload, 817, []), (.invokestatic 43, 818, [2, 0, 1, 3, 12]), (.aload 2, 819, []), (.aload 0, 820, []), (.iload 3, 821, []), (.iconst (1), 822, []), (.iadd, 823, []), (.iaload, 824, []), (.invokestatic 183, 825, [2, 0, 1, 2, 13]), (.if_icmp .eq 0, 826, [0, 1227]), (.iconst (0), 827, []), (.ireturn, 828, [3]), (.aload 1, 829, []), (.aload 0, 830, []), (.iload 3, 831, []), (.iconst (1), 832, []), (.iadd, 833, []), (.iaload, 834, []), (.aload 0, 835, []), (.iload 3, 836, []), (.iconst (2), 837, []), (.iadd, 838, []), (.iaload, 839, []), (.invokestatic 44, 840, [3, 0, 1, 4, 12]), (.aload 2, 841, []), (.aload 0, 842, []), (.iload 3, 843, []), (.iconst (1), 844, []), (.iadd, 845, []), (.iaload, 846, []), (.aload 0, 847, []), (.iload 3, 848, []), (.iconst (2), 849, []), (.iadd, 850, []), (.iaload, 851, []), (.invokestatic 189, 852, [3, 0, 1, 4, 13]), (.if_icmp .eq 0, 853, [0, 1227]), (.iconst (0), 854, []), (.ireturn, 855, [3]), (.aload 1, 856, []), (.aload 0, 857, []), (.iload 3, 858, []), (.iconst (1), 859, []), (.iadd, 860, []), (.iaload, 861, []), (.aload 0, 862, []), (.iload 3, 863, []), (.iconst (2), 864, []), (.iadd, 865, []), (.iaload, 866, []), (.aload 0, 867, []), (.iload 3, 868, []), (.iconst (3), 869, []), (.iadd, 870, []), (.iaload, 871, []), (.invokestatic 45, 872, [4, 0, 1, 5, 12]), (.aload 2, 873, []), (.aload 0, 874, []), (.iload 3, 875, []), (.iconst (1), 876, []), (.iadd, 877, []), (.iaload, 878, []), (.aload 0, 879, []), (.iload 3, 880, []), (.iconst (2), 881, []), (.iadd, 882, []), (.iaload, 883, []), (.aload 0, 884, []), (.iload 3, 885, []), (.iconst (3), 886, []), (.iadd, 887, []), (.iaload, 888, []), (.invokestatic 190, 889, [4, 0, 1, 5, 13]), (.if_icmp .eq 0, 890, [0, 1227]), (.iconst (0), 891, []), (.ireturn, 892, [3]), (.aload 1, 893, []), (.aload 0, 894, []), (.iload 3, 895, []), (.iconst (1), 896, []), (.iadd, 897, []), (.iaload, 898, []), (.aload 0, 899, []), (.iload 3, 900, []), (.iconst (2), 901, []), (.iadd, 902, []), (.iaload, 903, []), (.aload 0, 904, []), (.iload 3, 905, []), (.iconst (3), 906, []), (.iadd, 907, []), (.iaload, 908, []), (.aload 0, 909, []), (.iload 3, 910, []), (.iconst (4), 911, []), (.iadd, 912, []), (.iaload, 913, []), (.invokestatic 46, 914, [5, 0, 1, 6, 12]), (.aload 2, 915, []), (.aload 0, 916, []), (.iload 3, 917, []), (.iconst (1), 918, []), (.iadd, 919, []), (.iaload, 920, []), (.aload 0, 921, []), (.iload 3, 922, []), (.iconst (2), 923, []), (.iadd, 924, []), (.iaload, 925, []), (.aload 0, 926, []), (.iload 3, 927, []), (.iconst (3), 928, []), (.iadd, 929, []), (.iaload, 930, []), (.aload 0, 931, []), (.iload 3, 932, []), (.iconst (4), 933, []), (.iadd, 934, []), (.iaload, 935, []), (.invokestatic 191, 936, [5, 0, 1, 6, 13]), (.if_icmp .eq 0, 937, [0, 1227]), (.iconst (0), 938, []), (.ireturn, 939, [3]), (.aload 1, 940, []), (.aload 0, 941, []), (.iload 3, 942, []), (.iconst (1), 943, []), (.iadd, 944, []), (.iaload, 945, []), (.aload 0, 946, []), (.iload 3, 947, []), (.iconst (2), 948, []), (.iadd, 949, []), (.iaload, 950, []), (.invokestatic 47, 951, [3, 0, 1, 4, 12]), (.aload 2, 952, []), (.aload 0, 953, []), (.iload 3, 954, []), (.iconst (1), 955, []), (.iadd, 956, []), (.iaload, 957, []), (.aload 0, 958, []), (.iload 3, 959, []), (.iconst (2), 960, []), (.iadd, 961, []), (.iaload, 962, []), (.invokestatic 193, 963, [3, 0, 1, 6, 13]), (.if_icmp .eq 0, 964, [0, 1227]), (.iconst (0), 965, []), (.ireturn, 966, [3]), (.aload 1, 967, []), (.aload 0, 968, []), (.iload 3, 969, []), (.iconst (1), 970, []), (.iadd, 971, []), (.iaload, 972, []), (.aload 0, 973, []), (.iload 3, 974, []), (.iconst (2), 975, []), (.iadd, 976, []), (.iaload, 977, []), (.invokestatic 51, 978, [3, 0, 1, 7, 12]), (.aload 2, 979, []), (.aload 0, 980, []), (.iload 3, 981, []), (.iconst (1), 982, []), (.iadd, 983, []), (.iaload, 984, []), (.aload 0, 985, []), (.iload 3, 986, []), (.iconst (2), 987, []), (.iadd, 988, []), (.iaload, 989, []), (.invokestatic 196, 990, [3, 0, 1, 6, 13]), (.if_icmp .eq 0, 991, [0, 1227]), (.iconst (0), 992, []), (.ireturn, 993, [3]), (.aload 1, 994, []), (.aload 0, 995, []), (.iload 3, 996, []), (.iconst (1), 997, []), (.iadd, 998, []), (.iaload, 999, []), (.aload 0, 1000, []), (.iload 3, 1001, []), (.iconst (2), 1002, []), (.iadd, 1003, []), (.iaload, 1004, []), (.aload 0, 1005, []), (.iload 3, 1006, []), (.iconst (3), 1007, []), (.iadd, 1008, []), (.iaload, 1009, []), (.invokestatic 52, 1010, [4, 0, 1, 7, 12]), (.aload 2, 1011, []), (.aload 0, 1012, []), (.iload 3, 1013, []), (.iconst (1), 1014, []), (.iadd, 1015, []), (.iaload, 1016, []), (.aload 0, 1017, []), (.iload 3, 1018, []), (.iconst (2), 1019, []), (.iadd, 1020, []), (.iaload, 1021, []), (.aload 0, 1022, []), (.iload 3, 1023, []), (.iconst (3), 1024, []), (.iadd, 1025, []), (.iaload, 1026, []), (.invokestatic 197, 1027, [4, 0, 1, 6, 13]), (.if_icmp .eq 0, 1028, [0, 1227]), (.iconst (0), 1029, []), (.ireturn, 1030, [3]), (.aload 1, 1031, []), (.aload 0, 1032, []), (.iload 3, 1033, []), (.iconst (1), 1034, []), (.iadd, 1035, []), (.iaload, 1036, []), (.aload 0, 1037, []), (.iload 3, 1038, []), (.iconst (2), 1039, []), (.iadd, 1040, []), (.iaload, 1041, []), (.aload 0, 1042, []), (.iload 3, 1043, []), (.iconst (3), 1044, []), (.iadd, 1045, []), (.iaload, 1046, []), (.invokestatic 53, 1047, [4, 0, 1, 4, 12]), (.aload 2, 1048, []), (.aload 0, 1049, []), (.iload 3, 1050, []), (.iconst (1), 1051, []), (.iadd, 1052, []), (.iaload, 1053, []), (.aload 0, 1054, []), (.iload 3, 1055, []), (.iconst (2), 1056, []), (.iadd, 1057, []), (.iaload, 1058, []), (.aload 0, 1059, []), (.iload 3, 1060, []), (.iconst (3), 1061, []), (.iadd, 1062, []), (.iaload, 1063, []), (.invokestatic 201, 1064, [4, 0, 1, 4, 13]), (.if_icmp .eq 0, 1065, [0, 1227]), (.iconst (0), 1066, []), (.ireturn, 1067, [3]), (.aload 1, 1068, []), (.aload 0, 1069, []), (.iload 3, 1070, []), (.iconst (1), 1071, []), (.iadd, 1072, []), (.iaload, 1073, []), (.invokestatic 54, 1074, [2, 0, 1, 8, 12]), (.aload 2, 1075, []), (.aload 0, 1076, []), (.iload 3, 1077, []), (.iconst (1), 1078, []), (.iadd, 1079, []), (.iaload, 1080, []), (.invokestatic 202, 1081, [2, 0, 1, 8, 13]), (.if_icmp .eq 0, 1082, [0, 1227]), (.iconst (0), 1083, []), (.ireturn, 1084, [3]), (.aload 1, 1085, []), (.aload 0, 1086, []), (.iload 3, 1087, []), (.iconst (1), 1088, []), (.iadd, 1089, []), (.iaload, 1090, []), (.invokestatic 58, 1091, [2, 0, 1, 2, 12]), (.aload 2, 1092, []), (.aload 0, 1093, []), (.iload 3, 1094, []), (.iconst (1), 1095, []), (.iadd, 1096, []), (.iaload, 1097, []), (.invokestatic 206, 1098, [2, 0, 1, 2, 13]), (.if_icmp .eq 0, 1099, [0, 1227]), (.iconst (0), 1100, []), (.ireturn, 1101, [3]), (.aload 1, 1102, []), (.aload 0, 1103, []), (.iload 3, 1104, []), (.iconst (1), 1105, []), (.iadd, 1106, []), (.iaload, 1107, []), (.invokestatic 59, 1108, [2, 0, 1, 2, 12]), (.aload 2, 1109, []), (.aload 0, 1110, []), (.iload 3, 1111, []), (.iconst (1), 1112, []), (.iadd, 1113, []), (.iaload, 1114, []), (.invokestatic 207, 1115, [2, 0, 1, 2, 13]), (.if_icmp .eq 0, 1116, [0, 1227]), (.iconst (0), 1117, []), (.ireturn, 1118, [3]), (.aload 1, 1119, []), (.aload 0, 1120, []), (.iload 3, 1121, []), (.iconst (1), 1122, []), (.iadd, 1123, []), (.iaload, 1124, []), (.invokestatic 60, 1125, [2, 0, 1, 3, 12]), (.aload 2, 1126, []), (.aload 0, 1127, []), (.iload 3, 1128, []), (.iconst (1), 1129, []), (.iadd, 1130, []), (.iaload, 1131, []), (.invokestatic 208, 1132, [2, 0, 1, 2, 13]), (.if_icmp .eq 0, 1133, [0, 1227]), (.iconst (0), 1134, []), (.ireturn, 1135, [3]), (.aload 1, 1136, []), (.aload 0, 1137, []), (.iload 3, 1138, []), (.iconst (1), 1139, []), (.iadd, 1140, []), (.iaload, 1141, []), (.invokestatic 61, 1142, [2, 0, 1, 3, 12]), (.aload 2, 1143, []), (.aload 0, 1144, []), (.iload 3, 1145, []), (.iconst (1), 1146, []), (.iadd, 1147, []), (.iaload, 1148, []), (.invokestatic 209, 1149, [2, 0, 1, 3, 13]), (.if_icmp .eq 0, 1150, [0, 1227]), (.iconst (0), 1151, []), (.ireturn, 1152, [3]), (.aload 1, 1153, []), (.aload 0, 1154, []), (.iload 3, 1155, []), (.iconst (1), 1156, []), (.iadd, 1157, []), (.iaload, 1158, []), (.invokestatic 62, 1159, [2, 0, 1, 2, 12]), (.aload 2, 1160, []), (.aload 0, 1161, []), (.iload 3, 1162, []), (.iconst (1), 1163, []), (.iadd, 1164, []), (.iaload, 1165, []), (.invokestatic 219, 1166, [2, 0, 1, 3, 13]), (.if_icmp .eq 0, 1167, [0, 1227]), (.iconst (0), 1168, []), (.ireturn, 1169, [3]), (.aload 1, 1170, []), (.aload 0, 1171, []), (.iload 3, 1172, []), (.iconst (1), 1173, []), (.iadd, 1174, []), (.iaload, 1175, []), (.invokestatic 63, 1176, [2, 0, 1, 2, 12]), (.aload 2, 1177, []), (.aload 0, 1178, []), (.iload 3, 1179, []), (.iconst (1), 1180, []), (.iadd, 1181, []), (.iaload, 1182, []), (.invokestatic 220, 1183, [2, 0, 1, 2, 13]), (.if_icmp .eq 0, 1184, [0, 1227]), (.iconst (0), 1185, []), (.ireturn, 1186, [3]), (.aload 1, 1187, []), (.aload 0, 1188, []), (.iload 3, 1189, []), (.iconst (1), 1190, []), (.iadd, 1191, []), (.iaload, 1192, []), (.aload 0, 1193, []), (.iload 3, 1194, []), (.iconst (2), 1195, []), (.iadd, 1196, []), (.iaload, 1197, []), (.invokestatic 64, 1198, [3, 0, 1, 5, 12]), (.aload 2, 1199, []), (.aload 0, 1200, []), (.iload 3, 1201, []), (.iconst (1), 1202, []), (.iadd, 1203, []), (.iaload, 1204, []), (.aload 0, 1205, []), (.iload 3, 1206, []), (.iconst (2), 1207, []), (.iadd, 1208, []), (.iaload, 1209, []), (.invokestatic 221, 1210, [3, 0, 1, 6, 13]), (.if_icmp .eq 0, 1211, [0, 1227]), (.iconst (0), 1212, []), (.ireturn, 1213, [3]), (.aload 1, 1214, []), (.invokestatic 65, 1215, [1, 0, 1, 1, 12]), (.aload 2, 1216, []), (.invokestatic 223, 1217, [1, 0, 1, 1, 13]), (.if_icmp .eq 0, 1218, [0, 1227]), (.iconst (0), 1219, []), (.ireturn, 1220, [3]), (.aload 1, 1221, []), (.invokestatic 66, 1222, [1, 0, 1, 1, 12]), (.aload 2, 1223, []), (.invokestatic 224, 1224, [1, 0, 1, 1, 13]), (.if_icmp .eq 0, 1225, [0, 1227]), (.iconst (0), 1226, []), (.ireturn, 1227, [3]), (.iinc 3 (6), 1228, []), (.goto 0, 1229, [10]), (.iconst (1), 1230, []), (.ireturn, 1231, [3])]
def progs : List (mCode × Nat) := [(k_J_bitCount, 1), (k_T_init, 1), (k_T_status, 1), (k_T_top, 1), (k_T_bottom, 1), (k_T_tray, 4), (k_T_write, 6), (k_T_read, 4), (k_T_pour, 7), (k_T_placeStatus, 3), (k_T_pourStatus, 6), (k_T_feed, 6), (k_T_map, 3), (k_T_times, 3), (k_T_fault, 2), (k_T_told, 2), (k_T_person, 4), (k_T_far, 3), (k_T_drink, 2), (k_T_night, 2), (k_T_evening, 1), (k_T_fill, 4), (k_T_means, 4), (k_T_move, 4), (k_T_aim, 4), (k_T_come, 2), (k_T_rule, 3), (k_T_warmIn, 3), (k_T_darkIn, 3), (k_T_eveningIn, 3), (k_T_litIn, 2), (k_T_settles, 2), (k_T_period, 2), (k_T_lookAhead, 3), (k_T_findPeriod, 2), (k_T_firstSettled, 3), (k_T_chain, 2), (k_T_chainAt, 3), (k_T_rings, 3), (k_T_inRings, 3), (k_T_needs, 3), (k_T_most, 2), (k_T_mostSet, 2), (k_T_misses, 3), (k_T_fits, 4), (k_T_firstOf, 5), (k_T_oddsThat, 6), (k_T_ask, 4), (k_T_waysStatus, 8), (k_T_findWays, 4), (k_T_rowsStatus, 5), (k_T_laws, 7), (k_T_lawOf, 7), (k_T_error, 4), (k_T_cut, 8), (k_T_lawStatus, 11), (k_T_isLaw, 8), (k_T_tasteBoth, 2), (k_T_game, 2), (k_T_moveOf, 2), (k_T_share, 3), (k_T_copyWarmth, 3), (k_T_live, 2), (k_T_lived, 2), (k_T_mean, 5), (k_T_mark, 1), (k_T_undo, 1), (k_T_answer, 2), (k_T_refuse, 2), (k_T_grant, 1), (k_T_deny, 2), (k_T_tell, 7), (k_T_commonDivisor, 11), (k_T_isCouple, 3), (k_T_within, 3), (k_T_warmBy, 5), (k_M_init, 1), (k_M_plain, 3), (k_M_status, 1), (k_M_top, 1), (k_M_bottom, 1), (k_M_is, 2), (k_M_refuse, 2), (k_M_gives, 2), (k_M_tellsBy, 11), (k_M_isTray, 1), (k_M_shrunk, 3), (k_M_tray, 5), (k_M_wrongPlace, 3), (k_M_write, 6), (k_M_read, 3), (k_M_pour, 8), (k_M_isFrom, 6), (k_M_feed, 6), (k_M_four, 3), (k_M_byteAt, 2), (k_M_isSmall, 1), (k_M_isDigit, 1), (k_M_ahead, 2), (k_M_isSign, 2), (k_M_inWords, 7), (k_M_fails, 2), (k_M_begins, 4), (k_M_wantSign, 2), (k_M_wantWord, 3), (k_M_number, 4), (k_M_isName, 2), (k_M_nameHere, 4), (k_M_findHere, 4), (k_M_fault, 2), (k_M_taken, 2), (k_M_personRow, 1), (k_M_isIn, 3), (k_M_isThere, 2), (k_M_perhaps, 6), (k_M_leastOf, 1), (k_M_mostOf, 1), (k_M_aPerson, 3), (k_M_aToast, 3), (k_M_mapPart, 2), (k_M_map, 4), (k_M_personTo, 2), (k_M_test, 3), (k_M_timeOrder, 3), (k_M_timeStep, 6), (k_M_times, 4), (k_M_isPerson, 2), (k_M_areTwo, 3), (k_M_bits, 3), (k_M_personOf, 3), (k_M_whomOf, 2), (k_M_farBetween, 3), (k_M_warmBy, 4), (k_M_warmOf, 2), (k_M_isLit, 2), (k_M_areLit, 3), (k_M_haveWhom, 3), (k_M_warmersOf, 4), (k_M_together, 4), (k_M_told, 2), (k_M_person, 3), (k_M_far, 3), (k_M_warms, 3), (k_M_drinks, 3), (k_M_drink, 2), (k_M_cools, 2), (k_M_nightGoes, 2), (k_M_nightsGo, 3), (k_M_night, 2), (k_M_eveningGoes, 4), (k_M_evening, 1), (k_M_fills, 4), (k_M_fill, 4), (k_M_means, 4), (k_M_move, 4), (k_M_aim, 4), (k_M_come, 4), (k_M_rule, 3), (k_M_levelAt, 1), (k_M_keeps, 3), (k_M_restores, 3), (k_M_cooled, 3), (k_M_warmIn, 3), (k_M_darkIn, 3), (k_M_eveningsGo, 3), (k_M_eveningIn, 4), (k_M_litIn, 3), (k_M_isAlike, 4), (k_M_laysSettled, 3), (k_M_settles, 1), (k_M_period, 1), (k_M_laysChain, 4), (k_M_chain, 2), (k_M_chainAt, 3), (k_M_ringOf, 4), (k_M_rings, 5), (k_M_inRings, 3), (k_M_needsOf, 7), (k_M_needs, 3), (k_M_mostOfAll, 6), (k_M_most, 2), (k_M_mostSet, 2), (k_M_litBehind, 3), (k_M_misses, 2), (k_M_wrongSeen, 4), (k_M_isWay, 7), (k_M_counts, 2), (k_M_mayHave, 5), (k_M_laysWays, 5), (k_M_fits, 4), (k_M_firstOf, 5), (k_M_oddsThat, 6), (k_M_mostAlike, 4), (k_M_ask, 6), (k_M_wrongLaw, 5), (k_M_isLaw, 6), (k_M_laws, 6), (k_M_lawOf, 6), (k_M_atLeast, 7), (k_M_waysOf, 4), (k_M_errorOf, 4), (k_M_error, 4), (k_M_cut, 8), (k_M_settlesAt, 4), (k_M_beginsAt, 2), (k_M_playing, 5), (k_M_game, 2), (k_M_moveOf, 2), (k_M_share, 2), (k_M_copyWarmth, 3), (k_M_draw, 2), (k_M_nightsBy, 2), (k_M_drinksBy, 2), (k_M_eveningsBy, 1), (k_M_doesAny, 2), (k_M_does, 3), (k_M_holds, 5), (k_M_behindEnds, 5), (k_M_lives, 4), (k_M_live, 3), (k_M_lived, 2), (k_M_mean, 6), (k_M_copies, 4), (k_M_mark, 1), (k_M_undo, 1), (k_Co_init, 1), (k_Co_clear, 1), (k_Co_takeFrom, 2), (k_Co_has, 2), (k_Co_isFull, 1), (k_Co_add, 5), (k_Co_named, 4), (k_Co_hasWhom, 2), (k_Co_apart, 3), (k_Co_warmOf, 3), (k_Co_isLit, 2), (k_Co_litSet, 3), (k_Co_toastingSet, 3), (k_Co_warmersOf, 4), (k_Co_allWarmth, 3), (k_Co_allGlasses, 3), (k_Co_warmthAsOne, 4), (k_Co_canDrink, 2), (k_Co_letDrink, 4), (k_Co_hasNights, 2), (k_Co_warmthIn, 3), (k_Co_passNights, 3), (k_Co_passEvening, 4), (k_Co_chainLength, 5), (k_Co_alongChain, 5), (k_Co_isInRing, 4), (k_Co_leadsRing, 4), (k_Co_drinksTo, 9), (k_Co_warmestOf, 5), (k_Co_mostLit, 4), (k_Co_canAllBeLit, 5), (k_Ga_init, 1), (k_Ga_worth, 1), (k_Ga_firstMove, 1), (k_Ga_playOut, 6), (k_Ga_litCount, 1), (k_Ga_butler, 6), (k_Ga_behindDrink, 8), (k_Ga_draught, 8), (k_Gl_init, 1), (k_Gl_taste, 5), (k_Gl_all, 1), (k_Gl_below, 5), (k_Gl_from, 2), (k_Li_init, 1), (k_Li_runThrough, 6), (k_Li_behindEnd, 4), (k_Li_behindStep, 5), (k_Li_liveDrink, 3), (k_Li_liveNights, 3), (k_Li_liveEvening, 2), (k_Li_liveFill, 4), (k_Li_liveAny, 3), (k_Li_drawBy, 2), (k_Li_holds, 6), (k_MR_init, 2), (k_MR_draft, 1), (k_MR_readMap, 3), (k_MR_readPart, 2), (k_MR_readRule, 2), (k_MR_readPerson, 4), (k_MR_readPerhaps, 5), (k_MR_readToast, 3), (k_Mk_init, 2), (k_Mk_isFull, 1), (k_Mk_isEmpty, 1), (k_Mk_keep, 3), (k_Mk_giveBack, 3), (k_Tp_init, 6), (k_Tp_length, 1), (k_Tp_faultKind, 1), (k_Tp_faultPlace, 1), (k_Tp_hasRoom, 2), (k_Tp_append, 3), (k_Tp_empty, 1), (k_Tp_begin, 2), (k_Tp_isAtEnd, 1), (k_Tp_isAtCompares, 1), (k_Tp_sign, 1), (k_Tp_number, 1), (k_Tp_object, 2), (k_Tp_passWord, 2), (k_Tp_passSemicolon, 1), (k_Tp_isNumber, 3), (k_Tp_whoIsNamed, 3), (k_Tp_step, 1), (k_Tp_stepWord, 1), (k_Tp_stepNumber, 1), (k_Tp_wordOf, 4), (k_Tp_withLetter, 3), (k_Tp_isBlank, 1), (k_Tp_isLetter, 1), (k_Tp_isDigit, 1), (k_Tp_isSign, 1), (k_Ti_init, 1), (k_Ti_forget, 1), (k_Ti_add, 3), (k_Ti_takeFrom, 2), (k_TR_init, 2), (k_TR_draft, 1), (k_TR_readTimes, 4), (k_TR_readStep, 6), (k_TR_readEnd, 3), (k_TR_readTest, 4), (k_TR_readWho, 4), (k_TR_readCompares, 2), (k_TR_readAmount, 4), (k_Tr_init, 1), (k_Tr_isTray, 2), (k_Tr_isSort, 2), (k_Tr_isMissing, 2), (k_Tr_length, 2), (k_Tr_sort, 2), (k_Tr_has, 4), (k_Tr_lay, 5), (k_Tr_at, 3), (k_Tr_put, 5), (k_Tr_copy, 6), (k_Tr_cutTo, 3), (k_Wy_init, 1), (k_Wy_begin, 3), (k_Wy_seen, 4), (k_Wy_countAll, 2), (k_Wy_spread, 4), (k_Wy_gather, 4), (k_Wy_isOpen, 4), (k_Wy_all, 1), (k_Wy_through, 5), (k_Wy_firstWhom, 5), (k_Wy_firstOpen, 4), (k_Wy_bestAsked, 5), (k_Wy_mostThrough, 4), (k_L_law, 4)]
def PP : mPr := fun n => (nth progs n).getD ([], 0)
def S0 : mSh := [.inl 11, .inl 9, .inr (3, 4), .inr (1, 60), .inr (1, 60), .inr (1, 60), .inr (1, 60), .inr (0, 4), .inr (0, 4), .inl 6, .inr (2, 900), .inr (1, 24), .inl 0, .inr (0, 7), .inr (0, 7), .inr (0, 7), .inr (0, 7), .inr (0, 7), .inr (0, 7), .inr (1, 7), .inr (0, 7), .inl 0, .inr (0, 7), .inr (0, 7), .inr (0, 7), .inr (0, 7), .inr (0, 7), .inr (0, 7), .inr (1, 7), .inr (0, 7), .inl 7, .inr (0, 60), .inr (0, 60), .inr (0, 60), .inr (0, 60), .inr (0, 60), .inr (0, 60), .inl 4, .inl 0, .inr (0, 7), .inr (0, 7), .inr (0, 7), .inr (0, 7), .inr (0, 7), .inr (0, 7), .inr (1, 7), .inr (0, 7), .inl 8, .inl 7, .inr (0, 60), .inr (0, 60), .inr (0, 60), .inr (0, 60), .inr (0, 60), .inr (0, 60), .inr (0, 3), .inl 5, .inr (10, 3), .inr (17, 3), .inl 0, .inr (0, 7), .inr (0, 7), .inr (0, 7), .inr (0, 7), .inr (0, 7), .inr (0, 7), .inr (1, 7), .inr (0, 7), .inl 7, .inr (0, 60), .inr (0, 60), .inr (0, 60), .inr (0, 60), .inr (0, 60), .inr (0, 60), .inl 0, .inr (0, 7), .inr (0, 7), .inr (0, 7), .inr (0, 7), .inr (0, 7), .inr (0, 7), .inr (1, 7), .inr (0, 7), .inl 7, .inr (0, 60), .inr (0, 60), .inr (0, 60), .inr (0, 60), .inr (0, 60), .inr (0, 60), .inl 0, .inr (0, 7), .inr (0, 7), .inr (0, 7), .inr (0, 7), .inr (0, 7), .inr (0, 7), .inr (1, 7), .inr (0, 7), .inl 7, .inr (0, 60), .inr (0, 60), .inr (0, 60), .inr (0, 60), .inr (0, 60), .inr (0, 60), .inl 3, .inr (0, 60), .inl 3, .inr (0, 60), .inl 10, .inr (0, 7), .inr (0, 128), .inr (0, 128), .inl 1, .inl 0, .inr (0, 7), .inr (0, 7), .inr (0, 7), .inr (0, 7), .inr (0, 7), .inr (0, 7), .inr (1, 7), .inr (0, 7), .inl 2, .inr (1, 13), .inl 2, .inr (1, 13), .inr (1, 201), .inl 12, .inr (0, 2346), .inr (1, 42), .inr (0, 4), .inr (0, 4), .inr (1, 240), .inr (2, 900), .inr (2, 900), .inr (0, 3), .inr (0, 7), .inr (0, 1407), .inr (0, 7), .inr (0, 7), .inr (0, 7), .inr (0, 7), .inr (0, 49), .inr (1, 13), .inr (0, 5), .inr (0, 5), .inr (0, 5), .inr (0, 80), .inr (0, 5), .inr (0, 5)]
def R0 : List (List (Option Nat)) := [[none, none, none, none, some 1, some 9, some 12, some 21, some 30, some 37, some 47, some 56, some 107, some 109, some 111, some 115, some 125, some 127, some 129], [some 2, some 7, some 8], [some 3, some 4, some 5, some 6], [], [], [], [], [], [], [some 10, some 11, none, none, none, none, none, none, none, none, none, none, none], [], [], [none, none, some 13, some 14, some 15, some 16, some 17, some 18, some 19, some 20], [], [], [], [], [], [], [], [], [none, none, some 22, some 23, some 24, some 25, some 26, some 27, some 28, some 29], [], [], [], [], [], [], [], [], [some 31, some 32, some 33, some 34, some 35, some 36, none, none, none], [], [], [], [], [], [], [some 9, some 38, none], [none, none, some 39, some 40, some 41, some 42, some 43, some 44, some 45, some 46], [], [], [], [], [], [], [], [], [some 9, some 48, some 55, none], [some 49, some 50, some 51, some 52, some 53, some 54, none, none, none], [], [], [], [], [], [], [], [some 57, some 58, none], [some 59, some 75, some 91], [some 68, some 84, some 100], [none, none, some 60, some 61, some 62, some 63, some 64, some 65, some 66, some 67], [], [], [], [], [], [], [], [], [some 69, some 70, some 71, some 72, some 73, some 74, none, none, none], [], [], [], [], [], [], [none, none, some 76, some 77, some 78, some 79, some 80, some 81, some 82, some 83], [], [], [], [], [], [], [], [], [some 85, some 86, some 87, some 88, some 89, some 90, none, none, none], [], [], [], [], [], [], [none, none, some 92, some 93, some 94, some 95, some 96, some 97, some 98, some 99], [], [], [], [], [], [], [], [], [some 101, some 102, some 103, some 104, some 105, some 106, none, none, none], [], [], [], [], [], [], [some 108, none, none, none, none, none, none, none], [], [some 110, none, none, none, none, none, none, none], [], [some 112, some 113, some 114, none, none], [], [], [], [some 116, none, none, none], [none, none, some 117, some 118, some 119, some 120, some 121, some 122, some 123, some 124], [], [], [], [], [], [], [], [], [some 126, none], [], [some 128, none], [], [], [some 131, some 132, none, none, none, some 133, some 134, some 135, some 136, some 137, none, none, none, none, none, none, none, none, none, none, none, some 138, none, none, some 139, some 140, none, none, some 141, none, some 142, some 143, some 144, some 145, none, some 146, some 147, some 148, some 149, none, none, some 150, some 151, some 152, none, none], [], [], [], [], [], [], [], [], [], [], [], [], [], [], [], [], [], [], [], [], [], []]
def CT (xs : List Int) : Nat → List Int := fun k => match k with
  | 1 => xs
  | 2 => [0, 0, 0, 1, 0, 1, 1]
  | 3 => [0, 16, 16, 99, 30, 20, 9]
  | 4 => [0, 12, 4, 20, 5, 10, 1]
  | 5 => [111, 100, 100, 115, 32, 115, 104, 97, 109, 32, 103, 108, 111, 119, 32, 99, 111, 111, 108, 32, 104, 101, 97, 116, 32, 114, 101, 97, 99, 104, 32, 112, 101, 114, 115, 111, 110, 32, 97, 116, 32, 109, 101, 97, 110, 116, 32, 119, 97, 114, 109, 32, 103, 108, 97, 115, 115, 101, 115, 32, 116, 111, 97, 115, 116, 32, 116, 111, 32, 100, 114, 105, 110, 107, 32, 110, 105, 103, 104, 116, 32, 101, 118, 101, 110, 105, 110, 103, 32, 102, 105, 108, 108, 32, 97, 110, 121, 32, 119, 104, 101, 110, 32, 108, 105, 116, 32, 108, 111, 111, 112, 32, 101, 110, 100, 32, 115, 116, 111, 112, 32]
  | 6 => [32, 111, 100, 100, 115, 32, 115, 104, 97, 109, 32, 103, 108, 111, 119, 32, 99, 111, 111, 108, 32, 104, 101, 97, 116, 32, 114, 101, 97, 99, 104, 32, 112, 101, 114, 115, 111, 110, 32, 116, 111, 97, 115, 116, 32, 97, 116, 32, 109, 101, 97, 110, 116, 32, 119, 97, 114, 109, 32, 103, 108, 97, 115, 115, 101, 115, 32, 116, 111, 32, 100, 114, 105, 110, 107, 32, 110, 105, 103, 104, 116, 32, 101, 118, 101, 110, 105, 110, 103, 32, 102, 105, 108, 108, 32, 97, 110, 121, 32, 119, 104, 101, 110, 32, 108, 111, 111, 112, 32, 101, 110, 100, 32, 115, 116, 111, 112, 32, 108, 105, 116, 32]
  | _ => []
noncomputable def X (xs : List Int) (d : Nat) : mCode → Nat → List mv → List mv → mM → Option (List mv × mM) := Ex PP S0 R0 (CT xs) d
noncomputable def C (xs : List Int) (d : Nat) : Nat → Nat → List mv → mM → Option (List mv × mM) := Cl PP S0 R0 (CT xs) d
theorem C_1 (xs : List Int) (d id fl : Nat) (a : List mv) (h : mM) : C xs (d + 1) id (fl + 1) a h = C xs d id 0 a h := rfl
theorem p_J_bitCount : PP 0 = (k_J_bitCount, 1) := rfl
theorem p_T_init : PP 1 = (k_T_init, 1) := rfl
theorem p_T_status : PP 2 = (k_T_status, 1) := rfl
theorem p_T_top : PP 3 = (k_T_top, 1) := rfl
theorem p_T_bottom : PP 4 = (k_T_bottom, 1) := rfl
theorem p_T_tray : PP 5 = (k_T_tray, 4) := rfl
theorem p_T_write : PP 6 = (k_T_write, 6) := rfl
theorem p_T_read : PP 7 = (k_T_read, 4) := rfl
theorem p_T_pour : PP 8 = (k_T_pour, 7) := rfl
theorem p_T_placeStatus : PP 9 = (k_T_placeStatus, 3) := rfl
theorem p_T_pourStatus : PP 10 = (k_T_pourStatus, 6) := rfl
theorem p_T_feed : PP 11 = (k_T_feed, 6) := rfl
theorem p_T_map : PP 12 = (k_T_map, 3) := rfl
theorem p_T_times : PP 13 = (k_T_times, 3) := rfl
theorem p_T_fault : PP 14 = (k_T_fault, 2) := rfl
theorem p_T_told : PP 15 = (k_T_told, 2) := rfl
theorem p_T_person : PP 16 = (k_T_person, 4) := rfl
theorem p_T_far : PP 17 = (k_T_far, 3) := rfl
theorem p_T_drink : PP 18 = (k_T_drink, 2) := rfl
theorem p_T_night : PP 19 = (k_T_night, 2) := rfl
theorem p_T_evening : PP 20 = (k_T_evening, 1) := rfl
theorem p_T_fill : PP 21 = (k_T_fill, 4) := rfl
theorem p_T_means : PP 22 = (k_T_means, 4) := rfl
theorem p_T_move : PP 23 = (k_T_move, 4) := rfl
theorem p_T_aim : PP 24 = (k_T_aim, 4) := rfl
theorem p_T_come : PP 25 = (k_T_come, 2) := rfl
theorem p_T_rule : PP 26 = (k_T_rule, 3) := rfl
theorem p_T_warmIn : PP 27 = (k_T_warmIn, 3) := rfl
theorem p_T_darkIn : PP 28 = (k_T_darkIn, 3) := rfl
theorem p_T_eveningIn : PP 29 = (k_T_eveningIn, 3) := rfl
theorem p_T_litIn : PP 30 = (k_T_litIn, 2) := rfl
theorem p_T_settles : PP 31 = (k_T_settles, 2) := rfl
theorem p_T_period : PP 32 = (k_T_period, 2) := rfl
theorem p_T_lookAhead : PP 33 = (k_T_lookAhead, 3) := rfl
theorem p_T_findPeriod : PP 34 = (k_T_findPeriod, 2) := rfl
theorem p_T_firstSettled : PP 35 = (k_T_firstSettled, 3) := rfl
theorem p_T_chain : PP 36 = (k_T_chain, 2) := rfl
theorem p_T_chainAt : PP 37 = (k_T_chainAt, 3) := rfl
theorem p_T_rings : PP 38 = (k_T_rings, 3) := rfl
theorem p_T_inRings : PP 39 = (k_T_inRings, 3) := rfl
theorem p_T_needs : PP 40 = (k_T_needs, 3) := rfl
theorem p_T_most : PP 41 = (k_T_most, 2) := rfl
theorem p_T_mostSet : PP 42 = (k_T_mostSet, 2) := rfl
theorem p_T_misses : PP 43 = (k_T_misses, 3) := rfl
theorem p_T_fits : PP 44 = (k_T_fits, 4) := rfl
theorem p_T_firstOf : PP 45 = (k_T_firstOf, 5) := rfl
theorem p_T_oddsThat : PP 46 = (k_T_oddsThat, 6) := rfl
theorem p_T_ask : PP 47 = (k_T_ask, 4) := rfl
theorem p_T_waysStatus : PP 48 = (k_T_waysStatus, 8) := rfl
theorem p_T_findWays : PP 49 = (k_T_findWays, 4) := rfl
theorem p_T_rowsStatus : PP 50 = (k_T_rowsStatus, 5) := rfl
theorem p_T_laws : PP 51 = (k_T_laws, 7) := rfl
theorem p_T_lawOf : PP 52 = (k_T_lawOf, 7) := rfl
theorem p_T_error : PP 53 = (k_T_error, 4) := rfl
theorem p_T_cut : PP 54 = (k_T_cut, 8) := rfl
theorem p_T_lawStatus : PP 55 = (k_T_lawStatus, 11) := rfl
theorem p_T_isLaw : PP 56 = (k_T_isLaw, 8) := rfl
theorem p_T_tasteBoth : PP 57 = (k_T_tasteBoth, 2) := rfl
theorem p_T_game : PP 58 = (k_T_game, 2) := rfl
theorem p_T_moveOf : PP 59 = (k_T_moveOf, 2) := rfl
theorem p_T_share : PP 60 = (k_T_share, 3) := rfl
theorem p_T_copyWarmth : PP 61 = (k_T_copyWarmth, 3) := rfl
theorem p_T_live : PP 62 = (k_T_live, 2) := rfl
theorem p_T_lived : PP 63 = (k_T_lived, 2) := rfl
theorem p_T_mean : PP 64 = (k_T_mean, 5) := rfl
theorem p_T_mark : PP 65 = (k_T_mark, 1) := rfl
theorem p_T_undo : PP 66 = (k_T_undo, 1) := rfl
theorem p_T_answer : PP 67 = (k_T_answer, 2) := rfl
theorem p_T_refuse : PP 68 = (k_T_refuse, 2) := rfl
theorem p_T_grant : PP 69 = (k_T_grant, 1) := rfl
theorem p_T_deny : PP 70 = (k_T_deny, 2) := rfl
theorem p_T_tell : PP 71 = (k_T_tell, 7) := rfl
theorem p_T_commonDivisor : PP 72 = (k_T_commonDivisor, 11) := rfl
theorem p_T_isCouple : PP 73 = (k_T_isCouple, 3) := rfl
theorem p_T_within : PP 74 = (k_T_within, 3) := rfl
theorem p_T_warmBy : PP 75 = (k_T_warmBy, 5) := rfl
theorem p_M_init : PP 76 = (k_M_init, 1) := rfl
theorem p_M_plain : PP 77 = (k_M_plain, 3) := rfl
theorem p_M_status : PP 78 = (k_M_status, 1) := rfl
theorem p_M_top : PP 79 = (k_M_top, 1) := rfl
theorem p_M_bottom : PP 80 = (k_M_bottom, 1) := rfl
theorem p_M_is : PP 81 = (k_M_is, 2) := rfl
theorem p_M_refuse : PP 82 = (k_M_refuse, 2) := rfl
theorem p_M_gives : PP 83 = (k_M_gives, 2) := rfl
theorem p_M_tellsBy : PP 84 = (k_M_tellsBy, 11) := rfl
theorem p_M_isTray : PP 85 = (k_M_isTray, 1) := rfl
theorem p_M_shrunk : PP 86 = (k_M_shrunk, 3) := rfl
theorem p_M_tray : PP 87 = (k_M_tray, 5) := rfl
theorem p_M_wrongPlace : PP 88 = (k_M_wrongPlace, 3) := rfl
theorem p_M_write : PP 89 = (k_M_write, 6) := rfl
theorem p_M_read : PP 90 = (k_M_read, 3) := rfl
theorem p_M_pour : PP 91 = (k_M_pour, 8) := rfl
theorem p_M_isFrom : PP 92 = (k_M_isFrom, 6) := rfl
theorem p_M_feed : PP 93 = (k_M_feed, 6) := rfl
theorem p_M_four : PP 94 = (k_M_four, 3) := rfl
theorem p_M_byteAt : PP 95 = (k_M_byteAt, 2) := rfl
theorem p_M_isSmall : PP 96 = (k_M_isSmall, 1) := rfl
theorem p_M_isDigit : PP 97 = (k_M_isDigit, 1) := rfl
theorem p_M_ahead : PP 98 = (k_M_ahead, 2) := rfl
theorem p_M_isSign : PP 99 = (k_M_isSign, 2) := rfl
theorem p_M_inWords : PP 100 = (k_M_inWords, 7) := rfl
theorem p_M_fails : PP 101 = (k_M_fails, 2) := rfl
theorem p_M_begins : PP 102 = (k_M_begins, 4) := rfl
theorem p_M_wantSign : PP 103 = (k_M_wantSign, 2) := rfl
theorem p_M_wantWord : PP 104 = (k_M_wantWord, 3) := rfl
theorem p_M_number : PP 105 = (k_M_number, 4) := rfl
theorem p_M_isName : PP 106 = (k_M_isName, 2) := rfl
theorem p_M_nameHere : PP 107 = (k_M_nameHere, 4) := rfl
theorem p_M_findHere : PP 108 = (k_M_findHere, 4) := rfl
theorem p_M_fault : PP 109 = (k_M_fault, 2) := rfl
theorem p_M_taken : PP 110 = (k_M_taken, 2) := rfl
theorem p_M_personRow : PP 111 = (k_M_personRow, 1) := rfl
theorem p_M_isIn : PP 112 = (k_M_isIn, 3) := rfl
theorem p_M_isThere : PP 113 = (k_M_isThere, 2) := rfl
theorem p_M_perhaps : PP 114 = (k_M_perhaps, 6) := rfl
theorem p_M_leastOf : PP 115 = (k_M_leastOf, 1) := rfl
theorem p_M_mostOf : PP 116 = (k_M_mostOf, 1) := rfl
theorem p_M_aPerson : PP 117 = (k_M_aPerson, 3) := rfl
theorem p_M_aToast : PP 118 = (k_M_aToast, 3) := rfl
theorem p_M_mapPart : PP 119 = (k_M_mapPart, 2) := rfl
theorem p_M_map : PP 120 = (k_M_map, 4) := rfl
theorem p_M_personTo : PP 121 = (k_M_personTo, 2) := rfl
theorem p_M_test : PP 122 = (k_M_test, 3) := rfl
theorem p_M_timeOrder : PP 123 = (k_M_timeOrder, 3) := rfl
theorem p_M_timeStep : PP 124 = (k_M_timeStep, 6) := rfl
theorem p_M_times : PP 125 = (k_M_times, 4) := rfl
theorem p_M_isPerson : PP 126 = (k_M_isPerson, 2) := rfl
theorem p_M_areTwo : PP 127 = (k_M_areTwo, 3) := rfl
theorem p_M_bits : PP 128 = (k_M_bits, 3) := rfl
theorem p_M_personOf : PP 129 = (k_M_personOf, 3) := rfl
theorem p_M_whomOf : PP 130 = (k_M_whomOf, 2) := rfl
theorem p_M_farBetween : PP 131 = (k_M_farBetween, 3) := rfl
theorem p_M_warmBy : PP 132 = (k_M_warmBy, 4) := rfl
theorem p_M_warmOf : PP 133 = (k_M_warmOf, 2) := rfl
theorem p_M_isLit : PP 134 = (k_M_isLit, 2) := rfl
theorem p_M_areLit : PP 135 = (k_M_areLit, 3) := rfl
theorem p_M_haveWhom : PP 136 = (k_M_haveWhom, 3) := rfl
theorem p_M_warmersOf : PP 137 = (k_M_warmersOf, 4) := rfl
theorem p_M_together : PP 138 = (k_M_together, 4) := rfl
theorem p_M_told : PP 139 = (k_M_told, 2) := rfl
theorem p_M_person : PP 140 = (k_M_person, 3) := rfl
theorem p_M_far : PP 141 = (k_M_far, 3) := rfl
theorem p_M_warms : PP 142 = (k_M_warms, 3) := rfl
theorem p_M_drinks : PP 143 = (k_M_drinks, 3) := rfl
theorem p_M_drink : PP 144 = (k_M_drink, 2) := rfl
theorem p_M_cools : PP 145 = (k_M_cools, 2) := rfl
theorem p_M_nightGoes : PP 146 = (k_M_nightGoes, 2) := rfl
theorem p_M_nightsGo : PP 147 = (k_M_nightsGo, 3) := rfl
theorem p_M_night : PP 148 = (k_M_night, 2) := rfl
theorem p_M_eveningGoes : PP 149 = (k_M_eveningGoes, 4) := rfl
theorem p_M_evening : PP 150 = (k_M_evening, 1) := rfl
theorem p_M_fills : PP 151 = (k_M_fills, 4) := rfl
theorem p_M_fill : PP 152 = (k_M_fill, 4) := rfl
theorem p_M_means : PP 153 = (k_M_means, 4) := rfl
theorem p_M_move : PP 154 = (k_M_move, 4) := rfl
theorem p_M_aim : PP 155 = (k_M_aim, 4) := rfl
theorem p_M_come : PP 156 = (k_M_come, 4) := rfl
theorem p_M_rule : PP 157 = (k_M_rule, 3) := rfl
theorem p_M_levelAt : PP 158 = (k_M_levelAt, 1) := rfl
theorem p_M_keeps : PP 159 = (k_M_keeps, 3) := rfl
theorem p_M_restores : PP 160 = (k_M_restores, 3) := rfl
theorem p_M_cooled : PP 161 = (k_M_cooled, 3) := rfl
theorem p_M_warmIn : PP 162 = (k_M_warmIn, 3) := rfl
theorem p_M_darkIn : PP 163 = (k_M_darkIn, 3) := rfl
theorem p_M_eveningsGo : PP 164 = (k_M_eveningsGo, 3) := rfl
theorem p_M_eveningIn : PP 165 = (k_M_eveningIn, 4) := rfl
theorem p_M_litIn : PP 166 = (k_M_litIn, 3) := rfl
theorem p_M_isAlike : PP 167 = (k_M_isAlike, 4) := rfl
theorem p_M_laysSettled : PP 168 = (k_M_laysSettled, 3) := rfl
theorem p_M_settles : PP 169 = (k_M_settles, 1) := rfl
theorem p_M_period : PP 170 = (k_M_period, 1) := rfl
theorem p_M_laysChain : PP 171 = (k_M_laysChain, 4) := rfl
theorem p_M_chain : PP 172 = (k_M_chain, 2) := rfl
theorem p_M_chainAt : PP 173 = (k_M_chainAt, 3) := rfl
theorem p_M_ringOf : PP 174 = (k_M_ringOf, 4) := rfl
theorem p_M_rings : PP 175 = (k_M_rings, 5) := rfl
theorem p_M_inRings : PP 176 = (k_M_inRings, 3) := rfl
theorem p_M_needsOf : PP 177 = (k_M_needsOf, 7) := rfl
theorem p_M_needs : PP 178 = (k_M_needs, 3) := rfl
theorem p_M_mostOfAll : PP 179 = (k_M_mostOfAll, 6) := rfl
theorem p_M_most : PP 180 = (k_M_most, 2) := rfl
theorem p_M_mostSet : PP 181 = (k_M_mostSet, 2) := rfl
theorem p_M_litBehind : PP 182 = (k_M_litBehind, 3) := rfl
theorem p_M_misses : PP 183 = (k_M_misses, 2) := rfl
theorem p_M_wrongSeen : PP 184 = (k_M_wrongSeen, 4) := rfl
theorem p_M_isWay : PP 185 = (k_M_isWay, 7) := rfl
theorem p_M_counts : PP 186 = (k_M_counts, 2) := rfl
theorem p_M_mayHave : PP 187 = (k_M_mayHave, 5) := rfl
theorem p_M_laysWays : PP 188 = (k_M_laysWays, 5) := rfl
theorem p_M_fits : PP 189 = (k_M_fits, 4) := rfl
theorem p_M_firstOf : PP 190 = (k_M_firstOf, 5) := rfl
theorem p_M_oddsThat : PP 191 = (k_M_oddsThat, 6) := rfl
theorem p_M_mostAlike : PP 192 = (k_M_mostAlike, 4) := rfl
theorem p_M_ask : PP 193 = (k_M_ask, 6) := rfl
theorem p_M_wrongLaw : PP 194 = (k_M_wrongLaw, 5) := rfl
theorem p_M_isLaw : PP 195 = (k_M_isLaw, 6) := rfl
theorem p_M_laws : PP 196 = (k_M_laws, 6) := rfl
theorem p_M_lawOf : PP 197 = (k_M_lawOf, 6) := rfl
theorem p_M_atLeast : PP 198 = (k_M_atLeast, 7) := rfl
theorem p_M_waysOf : PP 199 = (k_M_waysOf, 4) := rfl
theorem p_M_errorOf : PP 200 = (k_M_errorOf, 4) := rfl
theorem p_M_error : PP 201 = (k_M_error, 4) := rfl
theorem p_M_cut : PP 202 = (k_M_cut, 8) := rfl
theorem p_M_settlesAt : PP 203 = (k_M_settlesAt, 4) := rfl
theorem p_M_beginsAt : PP 204 = (k_M_beginsAt, 2) := rfl
theorem p_M_playing : PP 205 = (k_M_playing, 5) := rfl
theorem p_M_game : PP 206 = (k_M_game, 2) := rfl
theorem p_M_moveOf : PP 207 = (k_M_moveOf, 2) := rfl
theorem p_M_share : PP 208 = (k_M_share, 2) := rfl
theorem p_M_copyWarmth : PP 209 = (k_M_copyWarmth, 3) := rfl
theorem p_M_draw : PP 210 = (k_M_draw, 2) := rfl
theorem p_M_nightsBy : PP 211 = (k_M_nightsBy, 2) := rfl
theorem p_M_drinksBy : PP 212 = (k_M_drinksBy, 2) := rfl
theorem p_M_eveningsBy : PP 213 = (k_M_eveningsBy, 1) := rfl
theorem p_M_doesAny : PP 214 = (k_M_doesAny, 2) := rfl
theorem p_M_does : PP 215 = (k_M_does, 3) := rfl
theorem p_M_holds : PP 216 = (k_M_holds, 5) := rfl
theorem p_M_behindEnds : PP 217 = (k_M_behindEnds, 5) := rfl
theorem p_M_lives : PP 218 = (k_M_lives, 4) := rfl
theorem p_M_live : PP 219 = (k_M_live, 3) := rfl
theorem p_M_lived : PP 220 = (k_M_lived, 2) := rfl
theorem p_M_mean : PP 221 = (k_M_mean, 6) := rfl
theorem p_M_copies : PP 222 = (k_M_copies, 4) := rfl
theorem p_M_mark : PP 223 = (k_M_mark, 1) := rfl
theorem p_M_undo : PP 224 = (k_M_undo, 1) := rfl
theorem p_Co_init : PP 225 = (k_Co_init, 1) := rfl
theorem p_Co_clear : PP 226 = (k_Co_clear, 1) := rfl
theorem p_Co_takeFrom : PP 227 = (k_Co_takeFrom, 2) := rfl
theorem p_Co_has : PP 228 = (k_Co_has, 2) := rfl
theorem p_Co_isFull : PP 229 = (k_Co_isFull, 1) := rfl
theorem p_Co_add : PP 230 = (k_Co_add, 5) := rfl
theorem p_Co_named : PP 231 = (k_Co_named, 4) := rfl
theorem p_Co_hasWhom : PP 232 = (k_Co_hasWhom, 2) := rfl
theorem p_Co_apart : PP 233 = (k_Co_apart, 3) := rfl
theorem p_Co_warmOf : PP 234 = (k_Co_warmOf, 3) := rfl
theorem p_Co_isLit : PP 235 = (k_Co_isLit, 2) := rfl
theorem p_Co_litSet : PP 236 = (k_Co_litSet, 3) := rfl
theorem p_Co_toastingSet : PP 237 = (k_Co_toastingSet, 3) := rfl
theorem p_Co_warmersOf : PP 238 = (k_Co_warmersOf, 4) := rfl
theorem p_Co_allWarmth : PP 239 = (k_Co_allWarmth, 3) := rfl
theorem p_Co_allGlasses : PP 240 = (k_Co_allGlasses, 3) := rfl
theorem p_Co_warmthAsOne : PP 241 = (k_Co_warmthAsOne, 4) := rfl
theorem p_Co_canDrink : PP 242 = (k_Co_canDrink, 2) := rfl
theorem p_Co_letDrink : PP 243 = (k_Co_letDrink, 4) := rfl
theorem p_Co_hasNights : PP 244 = (k_Co_hasNights, 2) := rfl
theorem p_Co_warmthIn : PP 245 = (k_Co_warmthIn, 3) := rfl
theorem p_Co_passNights : PP 246 = (k_Co_passNights, 3) := rfl
theorem p_Co_passEvening : PP 247 = (k_Co_passEvening, 4) := rfl
theorem p_Co_chainLength : PP 248 = (k_Co_chainLength, 5) := rfl
theorem p_Co_alongChain : PP 249 = (k_Co_alongChain, 5) := rfl
theorem p_Co_isInRing : PP 250 = (k_Co_isInRing, 4) := rfl
theorem p_Co_leadsRing : PP 251 = (k_Co_leadsRing, 4) := rfl
theorem p_Co_drinksTo : PP 252 = (k_Co_drinksTo, 9) := rfl
theorem p_Co_warmestOf : PP 253 = (k_Co_warmestOf, 5) := rfl
theorem p_Co_mostLit : PP 254 = (k_Co_mostLit, 4) := rfl
theorem p_Co_canAllBeLit : PP 255 = (k_Co_canAllBeLit, 5) := rfl
theorem p_Ga_init : PP 256 = (k_Ga_init, 1) := rfl
theorem p_Ga_worth : PP 257 = (k_Ga_worth, 1) := rfl
theorem p_Ga_firstMove : PP 258 = (k_Ga_firstMove, 1) := rfl
theorem p_Ga_playOut : PP 259 = (k_Ga_playOut, 6) := rfl
theorem p_Ga_litCount : PP 260 = (k_Ga_litCount, 1) := rfl
theorem p_Ga_butler : PP 261 = (k_Ga_butler, 6) := rfl
theorem p_Ga_behindDrink : PP 262 = (k_Ga_behindDrink, 8) := rfl
theorem p_Ga_draught : PP 263 = (k_Ga_draught, 8) := rfl
theorem p_Gl_init : PP 264 = (k_Gl_init, 1) := rfl
theorem p_Gl_taste : PP 265 = (k_Gl_taste, 5) := rfl
theorem p_Gl_all : PP 266 = (k_Gl_all, 1) := rfl
theorem p_Gl_below : PP 267 = (k_Gl_below, 5) := rfl
theorem p_Gl_from : PP 268 = (k_Gl_from, 2) := rfl
theorem p_Li_init : PP 269 = (k_Li_init, 1) := rfl
theorem p_Li_runThrough : PP 270 = (k_Li_runThrough, 6) := rfl
theorem p_Li_behindEnd : PP 271 = (k_Li_behindEnd, 4) := rfl
theorem p_Li_behindStep : PP 272 = (k_Li_behindStep, 5) := rfl
theorem p_Li_liveDrink : PP 273 = (k_Li_liveDrink, 3) := rfl
theorem p_Li_liveNights : PP 274 = (k_Li_liveNights, 3) := rfl
theorem p_Li_liveEvening : PP 275 = (k_Li_liveEvening, 2) := rfl
theorem p_Li_liveFill : PP 276 = (k_Li_liveFill, 4) := rfl
theorem p_Li_liveAny : PP 277 = (k_Li_liveAny, 3) := rfl
theorem p_Li_drawBy : PP 278 = (k_Li_drawBy, 2) := rfl
theorem p_Li_holds : PP 279 = (k_Li_holds, 6) := rfl
theorem p_MR_init : PP 280 = (k_MR_init, 2) := rfl
theorem p_MR_draft : PP 281 = (k_MR_draft, 1) := rfl
theorem p_MR_readMap : PP 282 = (k_MR_readMap, 3) := rfl
theorem p_MR_readPart : PP 283 = (k_MR_readPart, 2) := rfl
theorem p_MR_readRule : PP 284 = (k_MR_readRule, 2) := rfl
theorem p_MR_readPerson : PP 285 = (k_MR_readPerson, 4) := rfl
theorem p_MR_readPerhaps : PP 286 = (k_MR_readPerhaps, 5) := rfl
theorem p_MR_readToast : PP 287 = (k_MR_readToast, 3) := rfl
theorem p_Mk_init : PP 288 = (k_Mk_init, 2) := rfl
theorem p_Mk_isFull : PP 289 = (k_Mk_isFull, 1) := rfl
theorem p_Mk_isEmpty : PP 290 = (k_Mk_isEmpty, 1) := rfl
theorem p_Mk_keep : PP 291 = (k_Mk_keep, 3) := rfl
theorem p_Mk_giveBack : PP 292 = (k_Mk_giveBack, 3) := rfl
theorem p_Tp_init : PP 293 = (k_Tp_init, 6) := rfl
theorem p_Tp_length : PP 294 = (k_Tp_length, 1) := rfl
theorem p_Tp_faultKind : PP 295 = (k_Tp_faultKind, 1) := rfl
theorem p_Tp_faultPlace : PP 296 = (k_Tp_faultPlace, 1) := rfl
theorem p_Tp_hasRoom : PP 297 = (k_Tp_hasRoom, 2) := rfl
theorem p_Tp_append : PP 298 = (k_Tp_append, 3) := rfl
theorem p_Tp_empty : PP 299 = (k_Tp_empty, 1) := rfl
theorem p_Tp_begin : PP 300 = (k_Tp_begin, 2) := rfl
theorem p_Tp_isAtEnd : PP 301 = (k_Tp_isAtEnd, 1) := rfl
theorem p_Tp_isAtCompares : PP 302 = (k_Tp_isAtCompares, 1) := rfl
theorem p_Tp_sign : PP 303 = (k_Tp_sign, 1) := rfl
theorem p_Tp_number : PP 304 = (k_Tp_number, 1) := rfl
theorem p_Tp_object : PP 305 = (k_Tp_object, 2) := rfl
theorem p_Tp_passWord : PP 306 = (k_Tp_passWord, 2) := rfl
theorem p_Tp_passSemicolon : PP 307 = (k_Tp_passSemicolon, 1) := rfl
theorem p_Tp_isNumber : PP 308 = (k_Tp_isNumber, 3) := rfl
theorem p_Tp_whoIsNamed : PP 309 = (k_Tp_whoIsNamed, 3) := rfl
theorem p_Tp_step : PP 310 = (k_Tp_step, 1) := rfl
theorem p_Tp_stepWord : PP 311 = (k_Tp_stepWord, 1) := rfl
theorem p_Tp_stepNumber : PP 312 = (k_Tp_stepNumber, 1) := rfl
theorem p_Tp_wordOf : PP 313 = (k_Tp_wordOf, 4) := rfl
theorem p_Tp_withLetter : PP 314 = (k_Tp_withLetter, 3) := rfl
theorem p_Tp_isBlank : PP 315 = (k_Tp_isBlank, 1) := rfl
theorem p_Tp_isLetter : PP 316 = (k_Tp_isLetter, 1) := rfl
theorem p_Tp_isDigit : PP 317 = (k_Tp_isDigit, 1) := rfl
theorem p_Tp_isSign : PP 318 = (k_Tp_isSign, 1) := rfl
theorem p_Ti_init : PP 319 = (k_Ti_init, 1) := rfl
theorem p_Ti_forget : PP 320 = (k_Ti_forget, 1) := rfl
theorem p_Ti_add : PP 321 = (k_Ti_add, 3) := rfl
theorem p_Ti_takeFrom : PP 322 = (k_Ti_takeFrom, 2) := rfl
theorem p_TR_init : PP 323 = (k_TR_init, 2) := rfl
theorem p_TR_draft : PP 324 = (k_TR_draft, 1) := rfl
theorem p_TR_readTimes : PP 325 = (k_TR_readTimes, 4) := rfl
theorem p_TR_readStep : PP 326 = (k_TR_readStep, 6) := rfl
theorem p_TR_readEnd : PP 327 = (k_TR_readEnd, 3) := rfl
theorem p_TR_readTest : PP 328 = (k_TR_readTest, 4) := rfl
theorem p_TR_readWho : PP 329 = (k_TR_readWho, 4) := rfl
theorem p_TR_readCompares : PP 330 = (k_TR_readCompares, 2) := rfl
theorem p_TR_readAmount : PP 331 = (k_TR_readAmount, 4) := rfl
theorem p_Tr_init : PP 332 = (k_Tr_init, 1) := rfl
theorem p_Tr_isTray : PP 333 = (k_Tr_isTray, 2) := rfl
theorem p_Tr_isSort : PP 334 = (k_Tr_isSort, 2) := rfl
theorem p_Tr_isMissing : PP 335 = (k_Tr_isMissing, 2) := rfl
theorem p_Tr_length : PP 336 = (k_Tr_length, 2) := rfl
theorem p_Tr_sort : PP 337 = (k_Tr_sort, 2) := rfl
theorem p_Tr_has : PP 338 = (k_Tr_has, 4) := rfl
theorem p_Tr_lay : PP 339 = (k_Tr_lay, 5) := rfl
theorem p_Tr_at : PP 340 = (k_Tr_at, 3) := rfl
theorem p_Tr_put : PP 341 = (k_Tr_put, 5) := rfl
theorem p_Tr_copy : PP 342 = (k_Tr_copy, 6) := rfl
theorem p_Tr_cutTo : PP 343 = (k_Tr_cutTo, 3) := rfl
theorem p_Wy_init : PP 344 = (k_Wy_init, 1) := rfl
theorem p_Wy_begin : PP 345 = (k_Wy_begin, 3) := rfl
theorem p_Wy_seen : PP 346 = (k_Wy_seen, 4) := rfl
theorem p_Wy_countAll : PP 347 = (k_Wy_countAll, 2) := rfl
theorem p_Wy_spread : PP 348 = (k_Wy_spread, 4) := rfl
theorem p_Wy_gather : PP 349 = (k_Wy_gather, 4) := rfl
theorem p_Wy_isOpen : PP 350 = (k_Wy_isOpen, 4) := rfl
theorem p_Wy_all : PP 351 = (k_Wy_all, 1) := rfl
theorem p_Wy_through : PP 352 = (k_Wy_through, 5) := rfl
theorem p_Wy_firstWhom : PP 353 = (k_Wy_firstWhom, 5) := rfl
theorem p_Wy_firstOpen : PP 354 = (k_Wy_firstOpen, 4) := rfl
theorem p_Wy_bestAsked : PP 355 = (k_Wy_bestAsked, 5) := rfl
theorem p_Wy_mostThrough : PP 356 = (k_Wy_mostThrough, 4) := rfl
theorem p_L_law : PP 357 = (k_L_law, 4) := rfl
theorem X_blk (xs : List Int) (d : Nat) (c : mCode) (stop : List Nat) (n j : Nat) (ls st : List mv) (h : mM) : X xs d c j ls st h = blk PP S0 R0 (CT xs) d c stop n j ls st h := Ex_blk PP S0 R0 (CT xs) d c stop n j ls st h
theorem C_in (xs : List Int) (d id : Nat) {c : mCode} {n : Nat} (hp : PP id = (c, n)) (a : List mv) (h : mM) : C xs d id 0 a h = X xs d c 0 (mPad n (mEntry a)) [] h := by show Ex PP S0 R0 (CT xs) d (PP id).1 0 (mPad (PP id).2 (mEntry a)) [] h = _; rw [hp]; rfl
end
section
/-! SIM 1: small values and worlds as real ones -/
/-- the words of the tables that hold at every later state -/
def lw_g : List Cond := lw_tbl.filter goodWord
theorem mem_g {w : Cond} (h : w ∈ lw_tbl) (hg : goodWord w = true) : w ∈ lw_g := List.mem_filter.mpr ⟨h, hg⟩
theorem g_tbl {w : Cond} (h : w ∈ lw_g) : w ∈ lw_tbl := (List.mem_filter.mp h).1
theorem g_good {w : Cond} (h : w ∈ lw_g) : goodWord w = true := (List.mem_filter.mp h).2
theorem u_g {C : String} {T : u_T} {N : Nat} (h : ∀ w ∈ u_ws C T N, w ∈ lw_tbl) : ∀ w ∈ u_ws C T N, w ∈ lw_g := by
  intro w hw
  refine mem_g (h w hw) ?_
  obtain ⟨k, -, rfl⟩ := List.mem_map.mp hw
  unfold u_lay
  split <;> rfl
def rV (ad aC : Nat → Nat) : mv → Value
  | .inl x => .int (Int32.ofInt x)
  | .inr (.inl x) => .long (Int64.ofInt x)
  | .inr (.inr (.inl a)) => .ref (ad a)
  | .inr (.inr (.inr k)) => .ref (aC k)
def vOk (n : Nat) : mv → Prop
  | .inl x => inI x
  | .inr (.inl x) => inL x
  | .inr (.inr (.inl a)) => a < n
  | .inr (.inr (.inr _)) => True
def asc (ad aC : Nat → Nat) : Nat → List mv → List (Nat × Value)
  | _, [] => []
  | i, v :: r => if v = mC 0 then asc ad aC (i + 1) r else (i, rV ad aC v) :: asc ad aC (i + 1) r
theorem mem_asc {ad aC : Nat → Nat} {q : Nat × Value} : ∀ {ls : List mv} {i : Nat}, q ∈ asc ad aC i ls ↔ ∃ k v, nth ls k = some v ∧ v ≠ mC 0 ∧ q = (i + k, rV ad aC v)
  | [], i => ⟨fun h => by simp [asc] at h, fun ⟨k, v, h, _⟩ => by cases k <;> cases h⟩
  | u :: r, i => by
    have ih := @mem_asc ad aC q r (i + 1)
    constructor
    · intro h
      unfold asc at h
      split at h
      · obtain ⟨k, v, h1, h2, h3⟩ := ih.mp h
        exact ⟨k + 1, v, h1, h2, by rw [h3]; congr 1; omega⟩
      · next hu =>
        rcases List.mem_cons.mp h with h | h
        · exact ⟨0, u, rfl, hu, h⟩
        · obtain ⟨k, v, h1, h2, h3⟩ := ih.mp h
          exact ⟨k + 1, v, h1, h2, by rw [h3]; congr 1; omega⟩
    · rintro ⟨k, v, h1, h2, h3⟩
      unfold asc
      cases k with
      | zero =>
        cases h1
        rw [if_neg h2, h3]
        exact List.mem_cons_self
      | succ k =>
        have h4 := ih.mpr ⟨k, v, h1, h2, by rw [h3]; congr 1; omega⟩
        split
        · exact h4
        · exact List.mem_cons_of_mem _ h4
theorem nth_lt {α : Type} : ∀ {l : List α} {k : Nat} {a : α}, nth l k = some a → k < l.length
  | [], k, _, h => by cases k <;> cases h
  | _ :: l, 0, _, _ => by simp
  | _ :: l, k + 1, a, h => by
    have := nth_lt (l := l) (k := k) (a := a) h
    simp only [List.length_cons]; omega
theorem nth_get {α : Type} : ∀ {l : List α} {k : Nat}, nth l k = l[k]?
  | [], k => by cases k <;> rfl
  | _ :: l, 0 => rfl
  | _ :: l, k + 1 => by
    rw [List.getElem?_cons_succ]
    exact nth_get (l := l) (k := k)
theorem nth_mem {α : Type} {l : List α} {k : Nat} {a : α} (h : nth l k = some a) : a ∈ l := by
  rw [nth_get] at h
  exact List.mem_of_getElem? h
/-- the classes' fields: 0 int, 1 long, 2 a reference, 3 boolean -/
def FT : List (List Nat) := [[0, 0, 2, 2, 2, 2, 2, 2, 2, 2], [2, 0, 0, 0], [2, 0], [2, 0, 0, 0, 0, 0, 0, 3], [2, 2, 0], [2, 2, 0], [2, 2, 0, 0, 0, 0, 0, 0, 0, 0, 1, 0, 0], [2, 2, 2, 2, 2, 2, 0, 0, 3], [2, 2, 2, 0], [2, 2, 2], [2, 2, 2, 0, 0], [0, 1, 1, 3, 2, 2, 2, 2, 2, 2, 2, 2, 2, 2, 2, 2, 2, 2, 2], [2, 2, 0, 1, 1, 2, 2, 2, 2, 2, 0, 0, 0, 0, 0, 0, 0, 0, 0, 0, 0, 2, 0, 0, 2, 2, 0, 0, 2, 0, 2, 2, 2, 2, 0, 2, 2, 2, 2, 0, 0, 2, 2, 2, 3, 0]]
def rfAt (r : mRf) (a k : Nat) : Option Nat := match nth r a with
  | some l => match nth l k with
    | some o => o
    | none => none
  | none => none
def fvl (ad : Nat → Nat) (r : mRf) (h : mM) (a k t : Nat) : Value := match t with
  | 1 => .long (Int64.ofInt (h a (k : Int)))
  | 2 => va_rf ((rfAt r a k).map ad)
  | _ => .int (Int32.ofInt (h a (k : Int)))
def fvs (ad : Nat → Nat) (r : mRf) (h : mM) (a : Nat) : Nat → List Nat → List Value
  | _, [] => []
  | k, t :: ts => fvl ad r h a k t :: fvs ad r h a (k + 1) ts
def acn (ad : Nat → Nat) (r : mRf) (h : mM) (a t : Nat) : (Nat → Int32) ⊕ (Nat → Int64) ⊕ (Nat → UInt32) ⊕ (Nat → UInt64) ⊕ (Nat → Option Nat) := match t with
  | 0 => .inl (fun j => Int32.ofInt (h a (j : Int)))
  | 1 => .inr (.inl (fun j => Int64.ofInt (h a (j : Int))))
  | 2 => .inl (fun j => Int32.ofInt (h a (j : Int)))
  | _ => .inr (.inr (.inr (.inr (fun j => (rfAt r a j).map ad))))
def cnm (ci : Nat) : String := match nth vwCl ci with
  | some q => q.1
  | none => ""
def aty (t : Nat) : FieldType := match t with
  | 0 => .int
  | 1 => .long
  | 2 => .byte
  | 3 => .array .long
  | t => .object (cnm (t - 10))
def Wld (tys : List (ClassId × FieldType)) (ws : va_W) (ad : Nat → Nat) (S : mSh) (r : mRf) (h : mM) : Prop :=
  ws.length = S.length ∧ (∀ a ci, nth S a = some (.inl ci) → ∃ f, nth FT ci = some f ∧ ws[a]? = some (ad a, .inr (ci, fvs ad r h a 0 f))) ∧
  (∀ a t n, nth S a = some (.inr (t, n)) → ∃ cA t0 : Nat, tys[t0]? = some (cA, aty t) ∧ n < 2147483648 ∧ ws[a]? = some (ad a, .inl (cA, n, acn ad r h a t))) ∧
  (∀ a k b, rfAt r a k = some b → b < S.length)
/-- is the number at a, k a long? -/
def isL (S : mSh) (a : Nat) (k : Int) : Bool := match nth S a with
  | some (.inl ci) => match nth FT ci with
    | some f => match nth f k.toNat with
      | some 1 => true
      | _ => false
    | none => false
  | some (.inr (1, _)) => true
  | _ => false
def mOk (S : mSh) (h : mM) : Prop := (∀ a k, inL (h a k)) ∧ (∀ a k, isL S a k = false → inI (h a k)) ∧ ∀ a k, S.length ≤ a → h a k = 0
theorem fvs_get {ad : Nat → Nat} {r : mRf} {h : mM} {a : Nat} : ∀ {f : List Nat} {i k t : Nat}, nth f k = some t → (fvs ad r h a i f)[k]? = some (fvl ad r h a (i + k) t)
  | [], i, k, t, h => by cases k <;> cases h
  | u :: f, i, 0, t, h => by cases h; rfl
  | u :: f, i, k + 1, t, h => by
    show (fvs ad r _ a (i + 1) f)[k]? = _
    rw [fvs_get (f := f) (i := i + 1) h]
    congr 2
    omega
theorem fvs_len {ad : Nat → Nat} {r : mRf} {h : mM} {a : Nat} : ∀ {f : List Nat} {i : Nat}, (fvs ad r h a i f).length = f.length
  | [], i => rfl
  | u :: f, i => by
    show (fvs ad r h a (i + 1) f).length + 1 = f.length + 1
    rw [fvs_len]
theorem fvs_congr {ad : Nat → Nat} {r : mRf} {h h' : mM} {a : Nat} (e : ∀ k, h' a k = h a k) : ∀ {f : List Nat} {i : Nat}, fvs ad r h' a i f = fvs ad r h a i f
  | [], i => rfl
  | u :: f, i => by
    show fvl ad r h' a i u :: _ = fvl ad r h a i u :: _
    rw [fvs_congr e (f := f)]
    congr 1
    unfold fvl
    split <;> simp only [e]
theorem fvs_set {ad : Nat → Nat} {r : mRf} {h : mM} {a : Nat} {x : Int} {j : Nat} : ∀ {f : List Nat} {i k t : Nat}, nth f k = some t → t ≠ 2 → j = i + k → fvs ad r (upM h a (j : Int) x) a i f = (fvs ad r h a i f).set k (if t = 1 then .long (Int64.ofInt x) else .int (Int32.ofInt x))
  | [], i, k, t, h, _, _ => by cases k <;> cases h
  | u :: f, i, 0, t, hk, h2, hj => by
    cases hk
    have hj : j = i := hj
    subst hj
    show fvl ad r _ a j u :: fvs ad r _ a (j + 1) f = _ :: fvs ad r h a (j + 1) f
    congr 1
    · unfold fvl upM
      split <;> simp_all
    · have : ∀ (f : List Nat) (i : Nat), j < i → fvs ad r (upM h a (j : Int) x) a i f = fvs ad r h a i f := by
        intro f
        induction f with
        | nil => intro i _; rfl
        | cons u f ih =>
          intro i hi
          show fvl ad r _ a i u :: _ = fvl ad r h a i u :: _
          rw [ih (i + 1) (by omega)]
          congr 1
          have e : upM h a (j : Int) x a (i : Int) = h a (i : Int) := by
            unfold upM
            rw [if_neg]
            omega
          unfold fvl
          split <;> simp only [e]
      exact this f (j + 1) (by omega)
  | u :: f, i, k + 1, t, hk, h2, hj => by
    show fvl ad r _ a i u :: fvs ad r _ a (i + 1) f = fvl ad r h a i u :: (fvs ad r h a (i + 1) f).set k _
    rw [fvs_set (f := f) (i := i + 1) (k := k) (t := t) hk h2 (by omega)]
    congr 1
    have e : upM h a (j : Int) x a (i : Int) = h a (i : Int) := by
      unfold upM
      rw [if_neg]
      omega
    unfold fvl
    split <;> simp only [e]
theorem acn_congr {ad : Nat → Nat} {r : mRf} {h h' : mM} {a t : Nat} (e : ∀ k, h' a k = h a k) : acn ad r h' a t = acn ad r h a t := by
  unfold acn
  split <;> simp only [e]
theorem upM_ne {h : mM} {a b : Nat} {i k x : Int} (hn : b ≠ a) : upM h a i x b k = h b k := by
  unfold upM
  rw [if_neg (fun q => hn q.1)]
theorem mOk_up {S : mSh} {h : mM} {a : Nat} {i x : Int} (hm : mOk S h) (ha : a < S.length) (hx : inL x) (hi : isL S a i = false → inI x) : mOk S (upM h a i x) := by
  refine ⟨fun b k => ?_, fun b k hb => ?_, fun b k hb => by rw [upM_ne (by omega)]; exact hm.2.2 b k hb⟩
  · unfold upM
    split
    · exact hx
    · exact hm.1 b k
  · unfold upM
    split
    · next q =>
      rw [q.1, q.2] at hb
      exact hi hb
    · exact hm.2.1 b k hb
theorem i32_of {x : Int} (h : inI x) : (Int32.ofInt x).toInt = x := Int32.toInt_ofInt_of_le (by have := h.1; omega) (by have := h.2; omega)
theorem i64_of {x : Int} (h : inL x) : (Int64.ofInt x).toInt = x := Int64.toInt_ofInt_of_le (by have := h.1; omega) (by have := h.2; omega)
theorem i32_to (x : Int32) : Int32.ofInt x.toInt = x := Int32.ofInt_toInt x
theorem i64_to (x : Int64) : Int64.ofInt x.toInt = x := Int64.ofInt_toInt x
theorem i32_in (x : Int32) : inI x.toInt := ⟨by have := Int32.le_toInt x; omega, by have := Int32.toInt_lt x; omega⟩
theorem i64_in (x : Int64) : inL x.toInt := ⟨by have := Int64.le_toInt x; omega, by have := Int64.toInt_lt x; omega⟩
theorem i32_eq {x y : Int} (hx : inI x) (hy : inI y) : Int32.ofInt x = Int32.ofInt y ↔ x = y := ⟨fun h => by have := congrArg Int32.toInt h; rwa [i32_of hx, i32_of hy] at this, fun h => by rw [h]⟩
theorem i32_lt {x y : Int} (hx : inI x) (hy : inI y) : Int32.ofInt x < Int32.ofInt y ↔ x < y := by rw [Int32.lt_iff_toInt_lt, i32_of hx, i32_of hy]
theorem i32_le {x y : Int} (hx : inI x) (hy : inI y) : Int32.ofInt x ≤ Int32.ofInt y ↔ x ≤ y := by rw [Int32.le_iff_toInt_le, i32_of hx, i32_of hy]
theorem i64_eq {x y : Int} (hx : inL x) (hy : inL y) : Int64.ofInt x = Int64.ofInt y ↔ x = y := ⟨fun h => by have := congrArg Int64.toInt h; rwa [i64_of hx, i64_of hy] at this, fun h => by rw [h]⟩
theorem i64_lt {x y : Int} (hx : inL x) (hy : inL y) : Int64.ofInt x < Int64.ofInt y ↔ x < y := by rw [Int64.lt_iff_toInt_lt, i64_of hx, i64_of hy]
theorem inL_of {x : Int} (h : inI x) : inL x := ⟨by have := h.1; omega, by have := h.2; omega⟩
theorem div_in {x y : Int} (hx : inI x) (g : 0 ≤ x ∧ 0 < y) : inI (x / y) := by
  have h1 := Int.ediv_nonneg g.1 (Int.le_of_lt g.2)
  have h2 := Int.ediv_le_self y g.1
  exact ⟨by omega, by have := hx.2; omega⟩
theorem mod_in {x y : Int} (hy : inI y) (g : 0 ≤ x ∧ 0 < y) : inI (x % y) := by
  have h1 := Int.emod_nonneg x (by omega : y ≠ 0)
  have h2 := Int.emod_lt_of_pos x g.2
  exact ⟨by omega, by have := hy.2; omega⟩
theorem divL_in {x y : Int} (hx : inL x) (g : 0 ≤ x ∧ 0 < y) : inL (x / y) := by
  have h1 := Int.ediv_nonneg g.1 (Int.le_of_lt g.2)
  have h2 := Int.ediv_le_self y g.1
  exact ⟨by omega, by have := hx.2; omega⟩
theorem modL_in {x y : Int} (hy : inL y) (g : 0 ≤ x ∧ 0 < y) : inL (x % y) := by
  have h1 := Int.emod_nonneg x (by omega : y ≠ 0)
  have h2 := Int.emod_lt_of_pos x g.2
  exact ⟨by omega, by have := hy.2; omega⟩
theorem i32_div {x y : Int} (hx : inI x) (hy : inI y) (g : 0 ≤ x ∧ 0 < y) : Int32.ofInt (x / y) = Int32.ofInt x / Int32.ofInt y := by
  apply Int32.toInt_inj.mp
  have h9 := div_in hx g
  rw [Int32.toInt_div, i32_of hx, i32_of hy, i32_of h9, Int.tdiv_eq_ediv_of_nonneg g.1]
  exact (Int.bmod_eq_of_le (by have := h9.1; omega) (by have := h9.2; omega)).symm
theorem i32_mod {x y : Int} (hx : inI x) (hy : inI y) (g : 0 ≤ x ∧ 0 < y) : Int32.ofInt (x % y) = Int32.ofInt x - Int32.ofInt x / Int32.ofInt y * Int32.ofInt y := by
  rw [← i32_div hx hy g, ← Int32.ofInt_mul, ← Int32.ofInt_sub, Int.emod_def, Int.mul_comm]
theorem i32_ne0 {y : Int} (hy : inI y) (g : 0 < y) : ¬ Int32.ofInt y = 0 := fun q => by
  have q2 := congrArg Int32.toInt q
  rw [i32_of hy] at q2
  have q3 : (0 : Int32).toInt = 0 := rfl
  omega
theorem i64_div {x y : Int} (hx : inL x) (hy : inL y) (g : 0 ≤ x ∧ 0 < y) : Int64.ofInt (x / y) = Int64.ofInt x / Int64.ofInt y := by
  apply Int64.toInt_inj.mp
  have h9 := divL_in hx g
  rw [Int64.toInt_div, i64_of hx, i64_of hy, i64_of h9, Int.tdiv_eq_ediv_of_nonneg g.1]
  exact (Int.bmod_eq_of_le (by have := h9.1; omega) (by have := h9.2; omega)).symm
theorem i64_mod {x y : Int} (hx : inL x) (hy : inL y) (g : 0 ≤ x ∧ 0 < y) : Int64.ofInt (x % y) = Int64.ofInt x - Int64.ofInt x / Int64.ofInt y * Int64.ofInt y := by
  rw [← i64_div hx hy g, ← Int64.ofInt_mul, ← Int64.ofInt_sub, Int.emod_def, Int.mul_comm]
theorem i64_ne0 {y : Int} (hy : inL y) (g : 0 < y) : ¬ Int64.ofInt y = 0 := fun q => by
  have q2 := congrArg Int64.toInt q
  rw [i64_of hy] at q2
  have q3 : (0 : Int64).toInt = 0 := rfl
  omega
theorem i2l_eq {x : Int} (hx : inI x) : Int64.ofInt x = (Int32.ofInt x).toInt64 := by
  apply Int64.toInt_inj.mp
  rw [Int32.toInt_toInt64, i32_of hx, i64_of (inL_of hx)]
/-- the raw instruction of a place, and the place behind it -/
def Dc (cc : ByteArray) (pcs : List Nat) (j : Nat) (raw : Instr) (len nx : Nat) : Prop := ∃ pc, nth pcs j = some pc ∧ decode cc pc = .ok (raw, len) ∧ nth pcs nx = some (pc + len)
/-- from any real state that is so, it goes well -/
def Go (w : Heap → List Loc → Nat → Array Slot → List Value → Prop) (D : va_G) (A : Nat → Prop) (tys : List (ClassId × FieldType)) (ad aC : Nat → Nat) (nL : Nat) (s : State) (pcs : List Nat) (S : mSh) (r : mRf) (j : Nat) (ls st : List mv) (h : mM) : Prop :=
  ∀ (ws : va_W) (H : Heap) (locs : List Loc) (la : Array Slot) (pc : Nat), nth pcs j = some pc → ls.length = nL → (∀ v ∈ ls, vOk S.length v) → (∀ v ∈ st, vOk S.length v) → mOk S h → Wld tys ws ad S r h → va_P D vwCl ws H → va_D A ws → va_S A s.heap H locs → lv_has la nL (asc ad aC 0 ls) → w H locs pc la (st.map (rV ad aC))
section
variable {p : Program} {l : Launch} {e : Env} {Rm : Room} {s : State} {m : MethodId} {args : Array Value} {below : List Frame} {meth : Method} {c : Code} {cc : ByteArray} {D : va_G} {A : Nat → Prop} {tys : List (ClassId × FieldType)} {ad aC : Nat → Nat} {nL cells slots : Nat} {Q : State → Prop} {pcs : List Nat} {S : mSh} {r : mRf} {j nx : Nat} {ls st : List mv} {h : mM}
theorem go_iconst (hx : p.tables.exec = Jvm.exec) (hb : c.code = cc) {n : Int} (hn : inI n)  (hd : Dc cc pcs j (.iconst n) 1 nx) (k : Go (fun H locs pc la sv => W p l e Rm s m args below meth c H locs cells slots Q (F0 m pc la sv)) D A tys ad aC nL s pcs S r (nx) (ls) (mI n :: st) (h)) : Go (fun H locs pc la sv => W p l e Rm s m args below meth c H locs cells slots Q (F0 m pc la sv)) D A tys ad aC nL s pcs S r (j) (ls) (st) (h) := by
  intro ws H locs la pc hpc hL hl hs hm hw hP hD hS hv
  obtain ⟨pc0, h1, hdg, h2⟩ := hd
  cases hpc.symm.trans h1
  exact lv_iconst hx hb hdg rfl (k ws H locs la _ h2 hL hl (fun v9 hv9 => by rcases List.mem_cons.mp hv9 with rfl | hv9; exact hn; exact hs _ hv9) hm hw hP hD hS hv)
theorem go_bipush (hx : p.tables.exec = Jvm.exec) (hb : c.code = cc) {n : Int} (hn : inI n) (hq : (Int8.ofInt n).toInt32 = Int32.ofInt n) (hd : Dc cc pcs j (.bipush n) 2 nx) (k : Go (fun H locs pc la sv => W p l e Rm s m args below meth c H locs cells slots Q (F0 m pc la sv)) D A tys ad aC nL s pcs S r (nx) (ls) (mI n :: st) (h)) : Go (fun H locs pc la sv => W p l e Rm s m args below meth c H locs cells slots Q (F0 m pc la sv)) D A tys ad aC nL s pcs S r (j) (ls) (st) (h) := by
  intro ws H locs la pc hpc hL hl hs hm hw hP hD hS hv
  obtain ⟨pc0, h1, hdg, h2⟩ := hd
  cases hpc.symm.trans h1
  exact lv_bipush hx hb hdg hq (k ws H locs la _ h2 hL hl (fun v9 hv9 => by rcases List.mem_cons.mp hv9 with rfl | hv9; exact hn; exact hs _ hv9) hm hw hP hD hS hv)
theorem go_sipush (hx : p.tables.exec = Jvm.exec) (hb : c.code = cc) {n : Int} (hn : inI n) (hq : (Int16.ofInt n).toInt32 = Int32.ofInt n) (hd : Dc cc pcs j (.sipush n) 3 nx) (k : Go (fun H locs pc la sv => W p l e Rm s m args below meth c H locs cells slots Q (F0 m pc la sv)) D A tys ad aC nL s pcs S r (nx) (ls) (mI n :: st) (h)) : Go (fun H locs pc la sv => W p l e Rm s m args below meth c H locs cells slots Q (F0 m pc la sv)) D A tys ad aC nL s pcs S r (j) (ls) (st) (h) := by
  intro ws H locs la pc hpc hL hl hs hm hw hP hD hS hv
  obtain ⟨pc0, h1, hdg, h2⟩ := hd
  cases hpc.symm.trans h1
  exact lv_sipush hx hb hdg hq (k ws H locs la _ h2 hL hl (fun v9 hv9 => by rcases List.mem_cons.mp hv9 with rfl | hv9; exact hn; exact hs _ hv9) hm hw hP hD hS hv)
theorem go_ldc (hx : p.tables.exec = Jvm.exec) (hb : c.code = cc) {own : String} {i : Nat} {n : Int} (hn : inI n) (hown : s.vm.findClass own = some m.cls) (hc : (Jvm.Cond.constant own i (Int32.ofInt n)).before args s = true) (hd : Dc cc pcs j (.ldc i) 2 nx) (k : Go (fun H locs pc la sv => W p l e Rm s m args below meth c H locs cells slots Q (F0 m pc la sv)) D A tys ad aC nL s pcs S r (nx) (ls) (mI n :: st) (h)) : Go (fun H locs pc la sv => W p l e Rm s m args below meth c H locs cells slots Q (F0 m pc la sv)) D A tys ad aC nL s pcs S r (j) (ls) (st) (h) := by
  intro ws H locs la pc hpc hL hl hs hm hw hP hD hS hv
  obtain ⟨pc0, h1, hdg, h2⟩ := hd
  cases hpc.symm.trans h1
  exact lv_ldc hx hb hown hc hdg (k ws H locs la _ h2 hL hl (fun v9 hv9 => by rcases List.mem_cons.mp hv9 with rfl | hv9; exact hn; exact hs _ hv9) hm hw hP hD hS hv)
theorem go_ldcw (hx : p.tables.exec = Jvm.exec) (hb : c.code = cc) {own : String} {i : Nat} {n : Int} (hn : inI n) (hown : s.vm.findClass own = some m.cls) (hc : (Jvm.Cond.constant own i (Int32.ofInt n)).before args s = true) (hd : Dc cc pcs j (.ldc_w i) 3 nx) (k : Go (fun H locs pc la sv => W p l e Rm s m args below meth c H locs cells slots Q (F0 m pc la sv)) D A tys ad aC nL s pcs S r (nx) (ls) (mI n :: st) (h)) : Go (fun H locs pc la sv => W p l e Rm s m args below meth c H locs cells slots Q (F0 m pc la sv)) D A tys ad aC nL s pcs S r (j) (ls) (st) (h) := by
  intro ws H locs la pc hpc hL hl hs hm hw hP hD hS hv
  obtain ⟨pc0, h1, hdg, h2⟩ := hd
  cases hpc.symm.trans h1
  exact lv_ldcw hx hb hown hc hdg (k ws H locs la _ h2 hL hl (fun v9 hv9 => by rcases List.mem_cons.mp hv9 with rfl | hv9; exact hn; exact hs _ hv9) hm hw hP hD hS hv)
theorem go_lconst (hx : p.tables.exec = Jvm.exec) (hb : c.code = cc) {f : Fin 2} {n : Int} (hn : inL n) (hq : Int64.ofNat (f : Nat) = Int64.ofInt n) (hd : Dc cc pcs j (.lconst f) 1 nx) (k : Go (fun H locs pc la sv => W p l e Rm s m args below meth c H locs cells slots Q (F0 m pc la sv)) D A tys ad aC nL s pcs S r (nx) (ls) (mL n :: st) (h)) : Go (fun H locs pc la sv => W p l e Rm s m args below meth c H locs cells slots Q (F0 m pc la sv)) D A tys ad aC nL s pcs S r (j) (ls) (st) (h) := by
  intro ws H locs la pc hpc hL hl hs hm hw hP hD hS hv
  obtain ⟨pc0, h1, hdg, h2⟩ := hd
  cases hpc.symm.trans h1
  exact lv_lconst hx hb hdg hq (k ws H locs la _ h2 hL hl (fun v9 hv9 => by rcases List.mem_cons.mp hv9 with rfl | hv9; exact hn; exact hs _ hv9) hm hw hP hD hS hv)
theorem go_ldc2 (hx : p.tables.exec = Jvm.exec) (hb : c.code = cc) {own : String} {i : Nat} {n : Int} (hn : inL n) (hown : s.vm.findClass own = some m.cls) (hc : (Jvm.Cond.constantLong own i (Int64.ofInt n)).before args s = true) (hd : Dc cc pcs j (.ldc2_w i) 3 nx) (k : Go (fun H locs pc la sv => W p l e Rm s m args below meth c H locs cells slots Q (F0 m pc la sv)) D A tys ad aC nL s pcs S r (nx) (ls) (mL n :: st) (h)) : Go (fun H locs pc la sv => W p l e Rm s m args below meth c H locs cells slots Q (F0 m pc la sv)) D A tys ad aC nL s pcs S r (j) (ls) (st) (h) := by
  intro ws H locs la pc hpc hL hl hs hm hw hP hD hS hv
  obtain ⟨pc0, h1, hdg, h2⟩ := hd
  cases hpc.symm.trans h1
  exact lv_ldc2 hx hb hown hc hdg (k ws H locs la _ h2 hL hl (fun v9 hv9 => by rcases List.mem_cons.mp hv9 with rfl | hv9; exact hn; exact hs _ hv9) hm hw hP hD hS hv)
theorem go_iload (hx : p.tables.exec = Jvm.exec) (hb : c.code = cc) {i : Nat} {x : Int} (hk : nth ls i = some (mI x)) (hd : Dc cc pcs j (.iload i) 2 nx) (k : Go (fun H locs pc la sv => W p l e Rm s m args below meth c H locs cells slots Q (F0 m pc la sv)) D A tys ad aC nL s pcs S r (nx) (ls) (mI x :: st) (h)) : Go (fun H locs pc la sv => W p l e Rm s m args below meth c H locs cells slots Q (F0 m pc la sv)) D A tys ad aC nL s pcs S r (j) (ls) (st) (h) := by
  intro ws H locs la pc hpc hL hl hs hm hw hP hD hS hv
  obtain ⟨pc0, h1, hdg, h2⟩ := hd
  cases hpc.symm.trans h1
  exact lv_iload hx hb hdg (hv.2.2 _ (mem_asc.mpr ⟨i, _, hk, (fun q => nomatch q), by rw [Nat.zero_add]⟩)) (k ws H locs la _ h2 hL hl (fun v9 hv9 => by rcases List.mem_cons.mp hv9 with rfl | hv9; exact hl _ (nth_mem hk); exact hs _ hv9) hm hw hP hD hS hv)
theorem go_iload_n (hx : p.tables.exec = Jvm.exec) (hb : c.code = cc) {i : Nat} {x : Int} (hk : nth ls i = some (mI x)) {f : Fin 4} (hf : (f : Nat) = i) (hd : Dc cc pcs j (.iload_n f) 1 nx) (k : Go (fun H locs pc la sv => W p l e Rm s m args below meth c H locs cells slots Q (F0 m pc la sv)) D A tys ad aC nL s pcs S r (nx) (ls) (mI x :: st) (h)) : Go (fun H locs pc la sv => W p l e Rm s m args below meth c H locs cells slots Q (F0 m pc la sv)) D A tys ad aC nL s pcs S r (j) (ls) (st) (h) := by
  intro ws H locs la pc hpc hL hl hs hm hw hP hD hS hv
  obtain ⟨pc0, h1, hdg, h2⟩ := hd
  cases hpc.symm.trans h1
  exact lv_iload_n hx hb hdg hf (hv.2.2 _ (mem_asc.mpr ⟨i, _, hk, (fun q => nomatch q), by rw [Nat.zero_add]⟩)) (k ws H locs la _ h2 hL hl (fun v9 hv9 => by rcases List.mem_cons.mp hv9 with rfl | hv9; exact hl _ (nth_mem hk); exact hs _ hv9) hm hw hP hD hS hv)
theorem go_lload (hx : p.tables.exec = Jvm.exec) (hb : c.code = cc) {i : Nat} {x : Int} (hk : nth ls i = some (mL x)) (hd : Dc cc pcs j (.lload i) 2 nx) (k : Go (fun H locs pc la sv => W p l e Rm s m args below meth c H locs cells slots Q (F0 m pc la sv)) D A tys ad aC nL s pcs S r (nx) (ls) (mL x :: st) (h)) : Go (fun H locs pc la sv => W p l e Rm s m args below meth c H locs cells slots Q (F0 m pc la sv)) D A tys ad aC nL s pcs S r (j) (ls) (st) (h) := by
  intro ws H locs la pc hpc hL hl hs hm hw hP hD hS hv
  obtain ⟨pc0, h1, hdg, h2⟩ := hd
  cases hpc.symm.trans h1
  exact lv_lload hx hb hdg (hv.2.2 _ (mem_asc.mpr ⟨i, _, hk, (fun q => nomatch q), by rw [Nat.zero_add]⟩)) (k ws H locs la _ h2 hL hl (fun v9 hv9 => by rcases List.mem_cons.mp hv9 with rfl | hv9; exact hl _ (nth_mem hk); exact hs _ hv9) hm hw hP hD hS hv)
theorem go_lload_n (hx : p.tables.exec = Jvm.exec) (hb : c.code = cc) {i : Nat} {x : Int} (hk : nth ls i = some (mL x)) {f : Fin 4} (hf : (f : Nat) = i) (hd : Dc cc pcs j (.lload_n f) 1 nx) (k : Go (fun H locs pc la sv => W p l e Rm s m args below meth c H locs cells slots Q (F0 m pc la sv)) D A tys ad aC nL s pcs S r (nx) (ls) (mL x :: st) (h)) : Go (fun H locs pc la sv => W p l e Rm s m args below meth c H locs cells slots Q (F0 m pc la sv)) D A tys ad aC nL s pcs S r (j) (ls) (st) (h) := by
  intro ws H locs la pc hpc hL hl hs hm hw hP hD hS hv
  obtain ⟨pc0, h1, hdg, h2⟩ := hd
  cases hpc.symm.trans h1
  exact lv_lload_n hx hb hdg hf (hv.2.2 _ (mem_asc.mpr ⟨i, _, hk, (fun q => nomatch q), by rw [Nat.zero_add]⟩)) (k ws H locs la _ h2 hL hl (fun v9 hv9 => by rcases List.mem_cons.mp hv9 with rfl | hv9; exact hl _ (nth_mem hk); exact hs _ hv9) hm hw hP hD hS hv)
theorem go_aload (hx : p.tables.exec = Jvm.exec) (hb : c.code = cc) {i : Nat} {x : Nat} (hk : nth ls i = some (mR x)) (hd : Dc cc pcs j (.aload i) 2 nx) (k : Go (fun H locs pc la sv => W p l e Rm s m args below meth c H locs cells slots Q (F0 m pc la sv)) D A tys ad aC nL s pcs S r (nx) (ls) (mR x :: st) (h)) : Go (fun H locs pc la sv => W p l e Rm s m args below meth c H locs cells slots Q (F0 m pc la sv)) D A tys ad aC nL s pcs S r (j) (ls) (st) (h) := by
  intro ws H locs la pc hpc hL hl hs hm hw hP hD hS hv
  obtain ⟨pc0, h1, hdg, h2⟩ := hd
  cases hpc.symm.trans h1
  exact lv_aload hx hb hdg (hv.2.2 _ (mem_asc.mpr ⟨i, _, hk, (fun q => nomatch q), by rw [Nat.zero_add]⟩)) (k ws H locs la _ h2 hL hl (fun v9 hv9 => by rcases List.mem_cons.mp hv9 with rfl | hv9; exact hl _ (nth_mem hk); exact hs _ hv9) hm hw hP hD hS hv)
theorem go_aload_n (hx : p.tables.exec = Jvm.exec) (hb : c.code = cc) {i : Nat} {x : Nat} (hk : nth ls i = some (mR x)) {f : Fin 4} (hf : (f : Nat) = i) (hd : Dc cc pcs j (.aload_n f) 1 nx) (k : Go (fun H locs pc la sv => W p l e Rm s m args below meth c H locs cells slots Q (F0 m pc la sv)) D A tys ad aC nL s pcs S r (nx) (ls) (mR x :: st) (h)) : Go (fun H locs pc la sv => W p l e Rm s m args below meth c H locs cells slots Q (F0 m pc la sv)) D A tys ad aC nL s pcs S r (j) (ls) (st) (h) := by
  intro ws H locs la pc hpc hL hl hs hm hw hP hD hS hv
  obtain ⟨pc0, h1, hdg, h2⟩ := hd
  cases hpc.symm.trans h1
  exact lv_aload_n hx hb hdg hf (hv.2.2 _ (mem_asc.mpr ⟨i, _, hk, (fun q => nomatch q), by rw [Nat.zero_add]⟩)) (k ws H locs la _ h2 hL hl (fun v9 hv9 => by rcases List.mem_cons.mp hv9 with rfl | hv9; exact hl _ (nth_mem hk); exact hs _ hv9) hm hw hP hD hS hv)
theorem go_aloadC (hx : p.tables.exec = Jvm.exec) (hb : c.code = cc) {i x : Nat} (hk : nth ls i = some (mC (x + 1))) (hd : Dc cc pcs j (.aload i) 2 nx) (k : Go (fun H locs pc la sv => W p l e Rm s m args below meth c H locs cells slots Q (F0 m pc la sv)) D A tys ad aC nL s pcs S r (nx) (ls) (mC (x + 1) :: st) (h)) : Go (fun H locs pc la sv => W p l e Rm s m args below meth c H locs cells slots Q (F0 m pc la sv)) D A tys ad aC nL s pcs S r (j) (ls) (st) (h) := by
  intro ws H locs la pc hpc hL hl hs hm hw hP hD hS hv
  obtain ⟨pc0, h1, hdg, h2⟩ := hd
  cases hpc.symm.trans h1
  exact lv_aload hx hb hdg (hv.2.2 _ (mem_asc.mpr ⟨i, _, hk, (fun q => nomatch q), by rw [Nat.zero_add]⟩)) (k ws H locs la _ h2 hL hl (fun v9 hv9 => by rcases List.mem_cons.mp hv9 with rfl | hv9; exact trivial; exact hs _ hv9) hm hw hP hD hS hv)
theorem go_aloadC_n (hx : p.tables.exec = Jvm.exec) (hb : c.code = cc) {i x : Nat} (hk : nth ls i = some (mC (x + 1))) {f : Fin 4} (hf : (f : Nat) = i) (hd : Dc cc pcs j (.aload_n f) 1 nx) (k : Go (fun H locs pc la sv => W p l e Rm s m args below meth c H locs cells slots Q (F0 m pc la sv)) D A tys ad aC nL s pcs S r (nx) (ls) (mC (x + 1) :: st) (h)) : Go (fun H locs pc la sv => W p l e Rm s m args below meth c H locs cells slots Q (F0 m pc la sv)) D A tys ad aC nL s pcs S r (j) (ls) (st) (h) := by
  intro ws H locs la pc hpc hL hl hs hm hw hP hD hS hv
  obtain ⟨pc0, h1, hdg, h2⟩ := hd
  cases hpc.symm.trans h1
  exact lv_aload_n hx hb hdg hf (hv.2.2 _ (mem_asc.mpr ⟨i, _, hk, (fun q => nomatch q), by rw [Nat.zero_add]⟩)) (k ws H locs la _ h2 hL hl (fun v9 hv9 => by rcases List.mem_cons.mp hv9 with rfl | hv9; exact trivial; exact hs _ hv9) hm hw hP hD hS hv)
theorem go_iadd (hx : p.tables.exec = Jvm.exec) (hb : c.code = cc) {x y : Int} (g : inI (x + y)) (hd : Dc cc pcs j (.iadd) 1 nx) (k : Go (fun H locs pc la sv => W p l e Rm s m args below meth c H locs cells slots Q (F0 m pc la sv)) D A tys ad aC nL s pcs S r (nx) (ls) (mI (x + y) :: st) (h)) : Go (fun H locs pc la sv => W p l e Rm s m args below meth c H locs cells slots Q (F0 m pc la sv)) D A tys ad aC nL s pcs S r (j) (ls) (mI y :: mI x :: st) (h) := by
  intro ws H locs la pc hpc hL hl hs hm hw hP hD hS hv
  obtain ⟨pc0, h1, hdg, h2⟩ := hd
  cases hpc.symm.trans h1
  have hx9 := hs _ (List.mem_cons_of_mem _ List.mem_cons_self)
  have hy9 := hs _ List.mem_cons_self
  have k9 := k ws H locs la _ h2 hL hl (fun v9 hv9 => by rcases List.mem_cons.mp hv9 with rfl | hv9; exact g; exact hs _ (List.mem_cons_of_mem _ (List.mem_cons_of_mem _ hv9))) hm hw hP hD hS hv
  have e9 : Int32.ofInt (x + y) = Int32.ofInt x + Int32.ofInt y := Int32.ofInt_add ..
  simp only [List.map_cons, rV, e9] at k9
  exact lv_iadd hx hb hdg  k9
theorem go_isub (hx : p.tables.exec = Jvm.exec) (hb : c.code = cc) {x y : Int} (g : inI (x - y)) (hd : Dc cc pcs j (.isub) 1 nx) (k : Go (fun H locs pc la sv => W p l e Rm s m args below meth c H locs cells slots Q (F0 m pc la sv)) D A tys ad aC nL s pcs S r (nx) (ls) (mI (x - y) :: st) (h)) : Go (fun H locs pc la sv => W p l e Rm s m args below meth c H locs cells slots Q (F0 m pc la sv)) D A tys ad aC nL s pcs S r (j) (ls) (mI y :: mI x :: st) (h) := by
  intro ws H locs la pc hpc hL hl hs hm hw hP hD hS hv
  obtain ⟨pc0, h1, hdg, h2⟩ := hd
  cases hpc.symm.trans h1
  have hx9 := hs _ (List.mem_cons_of_mem _ List.mem_cons_self)
  have hy9 := hs _ List.mem_cons_self
  have k9 := k ws H locs la _ h2 hL hl (fun v9 hv9 => by rcases List.mem_cons.mp hv9 with rfl | hv9; exact g; exact hs _ (List.mem_cons_of_mem _ (List.mem_cons_of_mem _ hv9))) hm hw hP hD hS hv
  have e9 : Int32.ofInt (x - y) = Int32.ofInt x - Int32.ofInt y := Int32.ofInt_sub ..
  simp only [List.map_cons, rV, e9] at k9
  exact lv_isub hx hb hdg  k9
theorem go_imul (hx : p.tables.exec = Jvm.exec) (hb : c.code = cc) {x y : Int} (g : inI (x * y)) (hd : Dc cc pcs j (.imul) 1 nx) (k : Go (fun H locs pc la sv => W p l e Rm s m args below meth c H locs cells slots Q (F0 m pc la sv)) D A tys ad aC nL s pcs S r (nx) (ls) (mI (x * y) :: st) (h)) : Go (fun H locs pc la sv => W p l e Rm s m args below meth c H locs cells slots Q (F0 m pc la sv)) D A tys ad aC nL s pcs S r (j) (ls) (mI y :: mI x :: st) (h) := by
  intro ws H locs la pc hpc hL hl hs hm hw hP hD hS hv
  obtain ⟨pc0, h1, hdg, h2⟩ := hd
  cases hpc.symm.trans h1
  have hx9 := hs _ (List.mem_cons_of_mem _ List.mem_cons_self)
  have hy9 := hs _ List.mem_cons_self
  have k9 := k ws H locs la _ h2 hL hl (fun v9 hv9 => by rcases List.mem_cons.mp hv9 with rfl | hv9; exact g; exact hs _ (List.mem_cons_of_mem _ (List.mem_cons_of_mem _ hv9))) hm hw hP hD hS hv
  have e9 : Int32.ofInt (x * y) = Int32.ofInt x * Int32.ofInt y := Int32.ofInt_mul ..
  simp only [List.map_cons, rV, e9] at k9
  exact lv_imul hx hb hdg  k9
theorem go_ladd (hx : p.tables.exec = Jvm.exec) (hb : c.code = cc) {x y : Int} (g : inL (x + y)) (hd : Dc cc pcs j (.ladd) 1 nx) (k : Go (fun H locs pc la sv => W p l e Rm s m args below meth c H locs cells slots Q (F0 m pc la sv)) D A tys ad aC nL s pcs S r (nx) (ls) (mL (x + y) :: st) (h)) : Go (fun H locs pc la sv => W p l e Rm s m args below meth c H locs cells slots Q (F0 m pc la sv)) D A tys ad aC nL s pcs S r (j) (ls) (mL y :: mL x :: st) (h) := by
  intro ws H locs la pc hpc hL hl hs hm hw hP hD hS hv
  obtain ⟨pc0, h1, hdg, h2⟩ := hd
  cases hpc.symm.trans h1
  have hx9 := hs _ (List.mem_cons_of_mem _ List.mem_cons_self)
  have hy9 := hs _ List.mem_cons_self
  have k9 := k ws H locs la _ h2 hL hl (fun v9 hv9 => by rcases List.mem_cons.mp hv9 with rfl | hv9; exact g; exact hs _ (List.mem_cons_of_mem _ (List.mem_cons_of_mem _ hv9))) hm hw hP hD hS hv
  have e9 : Int64.ofInt (x + y) = Int64.ofInt x + Int64.ofInt y := Int64.ofInt_add ..
  simp only [List.map_cons, rV, e9] at k9
  exact lv_ladd hx hb hdg  k9
theorem go_lsub (hx : p.tables.exec = Jvm.exec) (hb : c.code = cc) {x y : Int} (g : inL (x - y)) (hd : Dc cc pcs j (.lsub) 1 nx) (k : Go (fun H locs pc la sv => W p l e Rm s m args below meth c H locs cells slots Q (F0 m pc la sv)) D A tys ad aC nL s pcs S r (nx) (ls) (mL (x - y) :: st) (h)) : Go (fun H locs pc la sv => W p l e Rm s m args below meth c H locs cells slots Q (F0 m pc la sv)) D A tys ad aC nL s pcs S r (j) (ls) (mL y :: mL x :: st) (h) := by
  intro ws H locs la pc hpc hL hl hs hm hw hP hD hS hv
  obtain ⟨pc0, h1, hdg, h2⟩ := hd
  cases hpc.symm.trans h1
  have hx9 := hs _ (List.mem_cons_of_mem _ List.mem_cons_self)
  have hy9 := hs _ List.mem_cons_self
  have k9 := k ws H locs la _ h2 hL hl (fun v9 hv9 => by rcases List.mem_cons.mp hv9 with rfl | hv9; exact g; exact hs _ (List.mem_cons_of_mem _ (List.mem_cons_of_mem _ hv9))) hm hw hP hD hS hv
  have e9 : Int64.ofInt (x - y) = Int64.ofInt x - Int64.ofInt y := Int64.ofInt_sub ..
  simp only [List.map_cons, rV, e9] at k9
  exact lv_lsub hx hb hdg  k9
theorem go_lmul (hx : p.tables.exec = Jvm.exec) (hb : c.code = cc) {x y : Int} (g : inL (x * y)) (hd : Dc cc pcs j (.lmul) 1 nx) (k : Go (fun H locs pc la sv => W p l e Rm s m args below meth c H locs cells slots Q (F0 m pc la sv)) D A tys ad aC nL s pcs S r (nx) (ls) (mL (x * y) :: st) (h)) : Go (fun H locs pc la sv => W p l e Rm s m args below meth c H locs cells slots Q (F0 m pc la sv)) D A tys ad aC nL s pcs S r (j) (ls) (mL y :: mL x :: st) (h) := by
  intro ws H locs la pc hpc hL hl hs hm hw hP hD hS hv
  obtain ⟨pc0, h1, hdg, h2⟩ := hd
  cases hpc.symm.trans h1
  have hx9 := hs _ (List.mem_cons_of_mem _ List.mem_cons_self)
  have hy9 := hs _ List.mem_cons_self
  have k9 := k ws H locs la _ h2 hL hl (fun v9 hv9 => by rcases List.mem_cons.mp hv9 with rfl | hv9; exact g; exact hs _ (List.mem_cons_of_mem _ (List.mem_cons_of_mem _ hv9))) hm hw hP hD hS hv
  have e9 : Int64.ofInt (x * y) = Int64.ofInt x * Int64.ofInt y := Int64.ofInt_mul ..
  simp only [List.map_cons, rV, e9] at k9
  exact lv_lmul hx hb hdg  k9
theorem go_idiv (hx : p.tables.exec = Jvm.exec) (hb : c.code = cc) {x y : Int} (g : 0 ≤ x ∧ 0 < y) (hd : Dc cc pcs j (.idiv) 1 nx) (k : Go (fun H locs pc la sv => W p l e Rm s m args below meth c H locs cells slots Q (F0 m pc la sv)) D A tys ad aC nL s pcs S r (nx) (ls) (mI (x / y) :: st) (h)) : Go (fun H locs pc la sv => W p l e Rm s m args below meth c H locs cells slots Q (F0 m pc la sv)) D A tys ad aC nL s pcs S r (j) (ls) (mI y :: mI x :: st) (h) := by
  intro ws H locs la pc hpc hL hl hs hm hw hP hD hS hv
  obtain ⟨pc0, h1, hdg, h2⟩ := hd
  cases hpc.symm.trans h1
  have hx9 := hs _ (List.mem_cons_of_mem _ List.mem_cons_self)
  have hy9 := hs _ List.mem_cons_self
  have k9 := k ws H locs la _ h2 hL hl (fun v9 hv9 => by rcases List.mem_cons.mp hv9 with rfl | hv9; exact (div_in hx9 g); exact hs _ (List.mem_cons_of_mem _ (List.mem_cons_of_mem _ hv9))) hm hw hP hD hS hv
  have e9 : Int32.ofInt (x / y) = Int32.ofInt x / Int32.ofInt y := i32_div hx9 hy9 g
  simp only [List.map_cons, rV, e9] at k9
  exact lv_idiv hx hb hdg (i32_ne0 hy9 g.2) k9
theorem go_irem (hx : p.tables.exec = Jvm.exec) (hb : c.code = cc) {x y : Int} (g : 0 ≤ x ∧ 0 < y) (hd : Dc cc pcs j (.irem) 1 nx) (k : Go (fun H locs pc la sv => W p l e Rm s m args below meth c H locs cells slots Q (F0 m pc la sv)) D A tys ad aC nL s pcs S r (nx) (ls) (mI (x % y) :: st) (h)) : Go (fun H locs pc la sv => W p l e Rm s m args below meth c H locs cells slots Q (F0 m pc la sv)) D A tys ad aC nL s pcs S r (j) (ls) (mI y :: mI x :: st) (h) := by
  intro ws H locs la pc hpc hL hl hs hm hw hP hD hS hv
  obtain ⟨pc0, h1, hdg, h2⟩ := hd
  cases hpc.symm.trans h1
  have hx9 := hs _ (List.mem_cons_of_mem _ List.mem_cons_self)
  have hy9 := hs _ List.mem_cons_self
  have k9 := k ws H locs la _ h2 hL hl (fun v9 hv9 => by rcases List.mem_cons.mp hv9 with rfl | hv9; exact (mod_in hy9 g); exact hs _ (List.mem_cons_of_mem _ (List.mem_cons_of_mem _ hv9))) hm hw hP hD hS hv
  have e9 : Int32.ofInt (x % y) = Int32.ofInt x - Int32.ofInt x / Int32.ofInt y * Int32.ofInt y := i32_mod hx9 hy9 g
  simp only [List.map_cons, rV, e9] at k9
  exact lv_irem hx hb hdg (i32_ne0 hy9 g.2) k9
theorem go_ldiv (hx : p.tables.exec = Jvm.exec) (hb : c.code = cc) {x y : Int} (g : 0 ≤ x ∧ 0 < y) (hd : Dc cc pcs j (.ldiv) 1 nx) (k : Go (fun H locs pc la sv => W p l e Rm s m args below meth c H locs cells slots Q (F0 m pc la sv)) D A tys ad aC nL s pcs S r (nx) (ls) (mL (x / y) :: st) (h)) : Go (fun H locs pc la sv => W p l e Rm s m args below meth c H locs cells slots Q (F0 m pc la sv)) D A tys ad aC nL s pcs S r (j) (ls) (mL y :: mL x :: st) (h) := by
  intro ws H locs la pc hpc hL hl hs hm hw hP hD hS hv
  obtain ⟨pc0, h1, hdg, h2⟩ := hd
  cases hpc.symm.trans h1
  have hx9 := hs _ (List.mem_cons_of_mem _ List.mem_cons_self)
  have hy9 := hs _ List.mem_cons_self
  have k9 := k ws H locs la _ h2 hL hl (fun v9 hv9 => by rcases List.mem_cons.mp hv9 with rfl | hv9; exact (divL_in hx9 g); exact hs _ (List.mem_cons_of_mem _ (List.mem_cons_of_mem _ hv9))) hm hw hP hD hS hv
  have e9 : Int64.ofInt (x / y) = Int64.ofInt x / Int64.ofInt y := i64_div hx9 hy9 g
  simp only [List.map_cons, rV, e9] at k9
  exact lv_ldiv hx hb hdg (i64_ne0 hy9 g.2) k9
theorem go_lrem (hx : p.tables.exec = Jvm.exec) (hb : c.code = cc) {x y : Int} (g : 0 ≤ x ∧ 0 < y) (hd : Dc cc pcs j (.lrem) 1 nx) (k : Go (fun H locs pc la sv => W p l e Rm s m args below meth c H locs cells slots Q (F0 m pc la sv)) D A tys ad aC nL s pcs S r (nx) (ls) (mL (x % y) :: st) (h)) : Go (fun H locs pc la sv => W p l e Rm s m args below meth c H locs cells slots Q (F0 m pc la sv)) D A tys ad aC nL s pcs S r (j) (ls) (mL y :: mL x :: st) (h) := by
  intro ws H locs la pc hpc hL hl hs hm hw hP hD hS hv
  obtain ⟨pc0, h1, hdg, h2⟩ := hd
  cases hpc.symm.trans h1
  have hx9 := hs _ (List.mem_cons_of_mem _ List.mem_cons_self)
  have hy9 := hs _ List.mem_cons_self
  have k9 := k ws H locs la _ h2 hL hl (fun v9 hv9 => by rcases List.mem_cons.mp hv9 with rfl | hv9; exact (modL_in hy9 g); exact hs _ (List.mem_cons_of_mem _ (List.mem_cons_of_mem _ hv9))) hm hw hP hD hS hv
  have e9 : Int64.ofInt (x % y) = Int64.ofInt x - Int64.ofInt x / Int64.ofInt y * Int64.ofInt y := i64_mod hx9 hy9 g
  simp only [List.map_cons, rV, e9] at k9
  exact lv_lrem hx hb hdg (i64_ne0 hy9 g.2) k9
theorem go_iand (hx : p.tables.exec = Jvm.exec) (hb : c.code = cc) {x y : Int} (hd : Dc cc pcs j (.iand) 1 nx) (k : Go (fun H locs pc la sv => W p l e Rm s m args below meth c H locs cells slots Q (F0 m pc la sv)) D A tys ad aC nL s pcs S r (nx) (ls) (mI (fAnd x y) :: st) (h)) : Go (fun H locs pc la sv => W p l e Rm s m args below meth c H locs cells slots Q (F0 m pc la sv)) D A tys ad aC nL s pcs S r (j) (ls) (mI y :: mI x :: st) (h) := by
  intro ws H locs la pc hpc hL hl hs hm hw hP hD hS hv
  obtain ⟨pc0, h1, hdg, h2⟩ := hd
  cases hpc.symm.trans h1
  have hx9 := hs _ (List.mem_cons_of_mem _ List.mem_cons_self)
  have hy9 := hs _ List.mem_cons_self
  have k9 := k ws H locs la _ h2 hL hl (fun v9 hv9 => by rcases List.mem_cons.mp hv9 with rfl | hv9; exact (i32_in _); exact hs _ (List.mem_cons_of_mem _ (List.mem_cons_of_mem _ hv9))) hm hw hP hD hS hv
  have e9 : Int32.ofInt (fAnd x y) = Int32.ofInt x &&& Int32.ofInt y := i32_to _
  simp only [List.map_cons, rV, e9] at k9
  exact lv_iand hx hb hdg  k9
theorem go_ior (hx : p.tables.exec = Jvm.exec) (hb : c.code = cc) {x y : Int} (hd : Dc cc pcs j (.ior) 1 nx) (k : Go (fun H locs pc la sv => W p l e Rm s m args below meth c H locs cells slots Q (F0 m pc la sv)) D A tys ad aC nL s pcs S r (nx) (ls) (mI (fOr x y) :: st) (h)) : Go (fun H locs pc la sv => W p l e Rm s m args below meth c H locs cells slots Q (F0 m pc la sv)) D A tys ad aC nL s pcs S r (j) (ls) (mI y :: mI x :: st) (h) := by
  intro ws H locs la pc hpc hL hl hs hm hw hP hD hS hv
  obtain ⟨pc0, h1, hdg, h2⟩ := hd
  cases hpc.symm.trans h1
  have hx9 := hs _ (List.mem_cons_of_mem _ List.mem_cons_self)
  have hy9 := hs _ List.mem_cons_self
  have k9 := k ws H locs la _ h2 hL hl (fun v9 hv9 => by rcases List.mem_cons.mp hv9 with rfl | hv9; exact (i32_in _); exact hs _ (List.mem_cons_of_mem _ (List.mem_cons_of_mem _ hv9))) hm hw hP hD hS hv
  have e9 : Int32.ofInt (fOr x y) = Int32.ofInt x ||| Int32.ofInt y := i32_to _
  simp only [List.map_cons, rV, e9] at k9
  exact lv_ior hx hb hdg  k9
theorem go_ixor (hx : p.tables.exec = Jvm.exec) (hb : c.code = cc) {x y : Int} (hd : Dc cc pcs j (.ixor) 1 nx) (k : Go (fun H locs pc la sv => W p l e Rm s m args below meth c H locs cells slots Q (F0 m pc la sv)) D A tys ad aC nL s pcs S r (nx) (ls) (mI (fXor x y) :: st) (h)) : Go (fun H locs pc la sv => W p l e Rm s m args below meth c H locs cells slots Q (F0 m pc la sv)) D A tys ad aC nL s pcs S r (j) (ls) (mI y :: mI x :: st) (h) := by
  intro ws H locs la pc hpc hL hl hs hm hw hP hD hS hv
  obtain ⟨pc0, h1, hdg, h2⟩ := hd
  cases hpc.symm.trans h1
  have hx9 := hs _ (List.mem_cons_of_mem _ List.mem_cons_self)
  have hy9 := hs _ List.mem_cons_self
  have k9 := k ws H locs la _ h2 hL hl (fun v9 hv9 => by rcases List.mem_cons.mp hv9 with rfl | hv9; exact (i32_in _); exact hs _ (List.mem_cons_of_mem _ (List.mem_cons_of_mem _ hv9))) hm hw hP hD hS hv
  have e9 : Int32.ofInt (fXor x y) = Int32.ofInt x ^^^ Int32.ofInt y := i32_to _
  simp only [List.map_cons, rV, e9] at k9
  exact lv_ixor hx hb hdg  k9
theorem go_ishl (hx : p.tables.exec = Jvm.exec) (hb : c.code = cc) {x y : Int} (hd : Dc cc pcs j (.ishl) 1 nx) (k : Go (fun H locs pc la sv => W p l e Rm s m args below meth c H locs cells slots Q (F0 m pc la sv)) D A tys ad aC nL s pcs S r (nx) (ls) (mI (fShl x y) :: st) (h)) : Go (fun H locs pc la sv => W p l e Rm s m args below meth c H locs cells slots Q (F0 m pc la sv)) D A tys ad aC nL s pcs S r (j) (ls) (mI y :: mI x :: st) (h) := by
  intro ws H locs la pc hpc hL hl hs hm hw hP hD hS hv
  obtain ⟨pc0, h1, hdg, h2⟩ := hd
  cases hpc.symm.trans h1
  have hx9 := hs _ (List.mem_cons_of_mem _ List.mem_cons_self)
  have hy9 := hs _ List.mem_cons_self
  have k9 := k ws H locs la _ h2 hL hl (fun v9 hv9 => by rcases List.mem_cons.mp hv9 with rfl | hv9; exact (i32_in _); exact hs _ (List.mem_cons_of_mem _ (List.mem_cons_of_mem _ hv9))) hm hw hP hD hS hv
  have e9 : Int32.ofInt (fShl x y) = Int32.ofInt x <<< (Int32.ofInt y &&& 31) := i32_to _
  simp only [List.map_cons, rV, e9] at k9
  exact lv_ishl hx hb hdg  k9
theorem go_ishr (hx : p.tables.exec = Jvm.exec) (hb : c.code = cc) {x y : Int} (hd : Dc cc pcs j (.ishr) 1 nx) (k : Go (fun H locs pc la sv => W p l e Rm s m args below meth c H locs cells slots Q (F0 m pc la sv)) D A tys ad aC nL s pcs S r (nx) (ls) (mI (fShr x y) :: st) (h)) : Go (fun H locs pc la sv => W p l e Rm s m args below meth c H locs cells slots Q (F0 m pc la sv)) D A tys ad aC nL s pcs S r (j) (ls) (mI y :: mI x :: st) (h) := by
  intro ws H locs la pc hpc hL hl hs hm hw hP hD hS hv
  obtain ⟨pc0, h1, hdg, h2⟩ := hd
  cases hpc.symm.trans h1
  have hx9 := hs _ (List.mem_cons_of_mem _ List.mem_cons_self)
  have hy9 := hs _ List.mem_cons_self
  have k9 := k ws H locs la _ h2 hL hl (fun v9 hv9 => by rcases List.mem_cons.mp hv9 with rfl | hv9; exact (i32_in _); exact hs _ (List.mem_cons_of_mem _ (List.mem_cons_of_mem _ hv9))) hm hw hP hD hS hv
  have e9 : Int32.ofInt (fShr x y) = Int32.ofInt x >>> (Int32.ofInt y &&& 31) := i32_to _
  simp only [List.map_cons, rV, e9] at k9
  exact lv_ishr hx hb hdg  k9
theorem go_land (hx : p.tables.exec = Jvm.exec) (hb : c.code = cc) {x y : Int} (hd : Dc cc pcs j (.land) 1 nx) (k : Go (fun H locs pc la sv => W p l e Rm s m args below meth c H locs cells slots Q (F0 m pc la sv)) D A tys ad aC nL s pcs S r (nx) (ls) (mL (fLand x y) :: st) (h)) : Go (fun H locs pc la sv => W p l e Rm s m args below meth c H locs cells slots Q (F0 m pc la sv)) D A tys ad aC nL s pcs S r (j) (ls) (mL y :: mL x :: st) (h) := by
  intro ws H locs la pc hpc hL hl hs hm hw hP hD hS hv
  obtain ⟨pc0, h1, hdg, h2⟩ := hd
  cases hpc.symm.trans h1
  have hx9 := hs _ (List.mem_cons_of_mem _ List.mem_cons_self)
  have hy9 := hs _ List.mem_cons_self
  have k9 := k ws H locs la _ h2 hL hl (fun v9 hv9 => by rcases List.mem_cons.mp hv9 with rfl | hv9; exact (i64_in _); exact hs _ (List.mem_cons_of_mem _ (List.mem_cons_of_mem _ hv9))) hm hw hP hD hS hv
  have e9 : Int64.ofInt (fLand x y) = Int64.ofInt x &&& Int64.ofInt y := i64_to _
  simp only [List.map_cons, rV, e9] at k9
  exact lv_land hx hb hdg  k9
theorem go_lor (hx : p.tables.exec = Jvm.exec) (hb : c.code = cc) {x y : Int} (hd : Dc cc pcs j (.lor) 1 nx) (k : Go (fun H locs pc la sv => W p l e Rm s m args below meth c H locs cells slots Q (F0 m pc la sv)) D A tys ad aC nL s pcs S r (nx) (ls) (mL (fLor x y) :: st) (h)) : Go (fun H locs pc la sv => W p l e Rm s m args below meth c H locs cells slots Q (F0 m pc la sv)) D A tys ad aC nL s pcs S r (j) (ls) (mL y :: mL x :: st) (h) := by
  intro ws H locs la pc hpc hL hl hs hm hw hP hD hS hv
  obtain ⟨pc0, h1, hdg, h2⟩ := hd
  cases hpc.symm.trans h1
  have hx9 := hs _ (List.mem_cons_of_mem _ List.mem_cons_self)
  have hy9 := hs _ List.mem_cons_self
  have k9 := k ws H locs la _ h2 hL hl (fun v9 hv9 => by rcases List.mem_cons.mp hv9 with rfl | hv9; exact (i64_in _); exact hs _ (List.mem_cons_of_mem _ (List.mem_cons_of_mem _ hv9))) hm hw hP hD hS hv
  have e9 : Int64.ofInt (fLor x y) = Int64.ofInt x ||| Int64.ofInt y := i64_to _
  simp only [List.map_cons, rV, e9] at k9
  exact lv_lor hx hb hdg  k9
theorem go_iushr (hx : p.tables.exec = Jvm.exec) (hb : c.code = cc) {x y : Int} (hd : Dc cc pcs j (.iushr) 1 nx) (k : Go (fun H locs pc la sv => W p l e Rm s m args below meth c H locs cells slots Q (F0 m pc la sv)) D A tys ad aC nL s pcs S r (nx) (ls) (mI (fUshr x y) :: st) (h)) : Go (fun H locs pc la sv => W p l e Rm s m args below meth c H locs cells slots Q (F0 m pc la sv)) D A tys ad aC nL s pcs S r (j) (ls) (mI y :: mI x :: st) (h) := by
  intro ws H locs la pc hpc hL hl hs hm hw hP hD hS hv
  obtain ⟨pc0, h1, hdg, h2⟩ := hd
  cases hpc.symm.trans h1
  have hx9 := hs _ (List.mem_cons_of_mem _ List.mem_cons_self)
  have hy9 := hs _ List.mem_cons_self
  have k9 := k ws H locs la _ h2 hL hl (fun v9 hv9 => by rcases List.mem_cons.mp hv9 with rfl | hv9; exact (i32_in _); exact hs _ (List.mem_cons_of_mem _ (List.mem_cons_of_mem _ hv9))) hm hw hP hD hS hv
  have e9 : Int32.ofInt (fUshr x y) = ((Int32.ofInt x).toUInt32 >>> ((Int32.ofInt y).toUInt32 &&& Int32.toUInt32 31)).toInt32 := i32_to _
  simp only [List.map_cons, rV, e9] at k9
  exact lv_iushr hx hb hdg rfl k9
theorem go_lshl (hx : p.tables.exec = Jvm.exec) (hb : c.code = cc) {x y : Int} (hd : Dc cc pcs j (.lshl) 1 nx) (k : Go (fun H locs pc la sv => W p l e Rm s m args below meth c H locs cells slots Q (F0 m pc la sv)) D A tys ad aC nL s pcs S r (nx) (ls) (mL (fLshl x y) :: st) (h)) : Go (fun H locs pc la sv => W p l e Rm s m args below meth c H locs cells slots Q (F0 m pc la sv)) D A tys ad aC nL s pcs S r (j) (ls) (mI y :: mL x :: st) (h) := by
  intro ws H locs la pc hpc hL hl hs hm hw hP hD hS hv
  obtain ⟨pc0, h1, hdg, h2⟩ := hd
  cases hpc.symm.trans h1
  have hx9 := hs _ (List.mem_cons_of_mem _ List.mem_cons_self)
  have hy9 := hs _ List.mem_cons_self
  have k9 := k ws H locs la _ h2 hL hl (fun v9 hv9 => by rcases List.mem_cons.mp hv9 with rfl | hv9; exact (i64_in _); exact hs _ (List.mem_cons_of_mem _ (List.mem_cons_of_mem _ hv9))) hm hw hP hD hS hv
  have e9 : Int64.ofInt (fLshl x y) = Int64.ofInt x <<< ((Int32.ofInt y).toInt64 &&& 63) := i64_to _
  simp only [List.map_cons, rV, e9] at k9
  exact lv_lshl hx hb hdg rfl k9
theorem go_i2l (hx : p.tables.exec = Jvm.exec) (hb : c.code = cc) {x : Int} (hd : Dc cc pcs j (.i2l) 1 nx) (k : Go (fun H locs pc la sv => W p l e Rm s m args below meth c H locs cells slots Q (F0 m pc la sv)) D A tys ad aC nL s pcs S r (nx) (ls) (mL x :: st) (h)) : Go (fun H locs pc la sv => W p l e Rm s m args below meth c H locs cells slots Q (F0 m pc la sv)) D A tys ad aC nL s pcs S r (j) (ls) (mI x :: st) (h) := by
  intro ws H locs la pc hpc hL hl hs hm hw hP hD hS hv
  obtain ⟨pc0, h1, hdg, h2⟩ := hd
  cases hpc.symm.trans h1
  have hx9 := hs _ List.mem_cons_self
  have k9 := k ws H locs la _ h2 hL hl (fun v9 hv9 => by rcases List.mem_cons.mp hv9 with rfl | hv9; exact (inL_of hx9); exact hs _ (List.mem_cons_of_mem _ hv9)) hm hw hP hD hS hv
  have e9 : Int64.ofInt x = (Int32.ofInt x).toInt64 := (i2l_eq hx9)
  simp only [List.map_cons, rV, e9] at k9
  exact lv_i2l hx hb hdg rfl k9
theorem go_l2i (hx : p.tables.exec = Jvm.exec) (hb : c.code = cc) {x : Int} (hd : Dc cc pcs j (.l2i) 1 nx) (k : Go (fun H locs pc la sv => W p l e Rm s m args below meth c H locs cells slots Q (F0 m pc la sv)) D A tys ad aC nL s pcs S r (nx) (ls) (mI (fL2i x) :: st) (h)) : Go (fun H locs pc la sv => W p l e Rm s m args below meth c H locs cells slots Q (F0 m pc la sv)) D A tys ad aC nL s pcs S r (j) (ls) (mL x :: st) (h) := by
  intro ws H locs la pc hpc hL hl hs hm hw hP hD hS hv
  obtain ⟨pc0, h1, hdg, h2⟩ := hd
  cases hpc.symm.trans h1
  have hx9 := hs _ List.mem_cons_self
  have k9 := k ws H locs la _ h2 hL hl (fun v9 hv9 => by rcases List.mem_cons.mp hv9 with rfl | hv9; exact (i32_in _); exact hs _ (List.mem_cons_of_mem _ hv9)) hm hw hP hD hS hv
  have e9 : Int32.ofInt (fL2i x) = (Int64.ofInt x).toInt32 := i32_to _
  simp only [List.map_cons, rV, e9] at k9
  exact lv_l2i hx hb hdg rfl k9
theorem go_i2b (hx : p.tables.exec = Jvm.exec) (hb : c.code = cc) {x : Int} (hd : Dc cc pcs j (.i2b) 1 nx) (k : Go (fun H locs pc la sv => W p l e Rm s m args below meth c H locs cells slots Q (F0 m pc la sv)) D A tys ad aC nL s pcs S r (nx) (ls) (mI (fI2b x) :: st) (h)) : Go (fun H locs pc la sv => W p l e Rm s m args below meth c H locs cells slots Q (F0 m pc la sv)) D A tys ad aC nL s pcs S r (j) (ls) (mI x :: st) (h) := by
  intro ws H locs la pc hpc hL hl hs hm hw hP hD hS hv
  obtain ⟨pc0, h1, hdg, h2⟩ := hd
  cases hpc.symm.trans h1
  have hx9 := hs _ List.mem_cons_self
  have k9 := k ws H locs la _ h2 hL hl (fun v9 hv9 => by rcases List.mem_cons.mp hv9 with rfl | hv9; exact (i32_in _); exact hs _ (List.mem_cons_of_mem _ hv9)) hm hw hP hD hS hv
  have e9 : Int32.ofInt (fI2b x) = (Int32.ofInt x).toInt8.toInt32 := i32_to _
  simp only [List.map_cons, rV, e9] at k9
  exact lv_i2b hx hb hdg rfl k9
theorem go_i2s (hx : p.tables.exec = Jvm.exec) (hb : c.code = cc) {x : Int} (hd : Dc cc pcs j (.i2s) 1 nx) (k : Go (fun H locs pc la sv => W p l e Rm s m args below meth c H locs cells slots Q (F0 m pc la sv)) D A tys ad aC nL s pcs S r (nx) (ls) (mI (fI2s x) :: st) (h)) : Go (fun H locs pc la sv => W p l e Rm s m args below meth c H locs cells slots Q (F0 m pc la sv)) D A tys ad aC nL s pcs S r (j) (ls) (mI x :: st) (h) := by
  intro ws H locs la pc hpc hL hl hs hm hw hP hD hS hv
  obtain ⟨pc0, h1, hdg, h2⟩ := hd
  cases hpc.symm.trans h1
  have hx9 := hs _ List.mem_cons_self
  have k9 := k ws H locs la _ h2 hL hl (fun v9 hv9 => by rcases List.mem_cons.mp hv9 with rfl | hv9; exact (i32_in _); exact hs _ (List.mem_cons_of_mem _ hv9)) hm hw hP hD hS hv
  have e9 : Int32.ofInt (fI2s x) = (Int32.ofInt x).toInt16.toInt32 := i32_to _
  simp only [List.map_cons, rV, e9] at k9
  exact lv_i2s hx hb hdg rfl k9
theorem go_dupI (hx : p.tables.exec = Jvm.exec) (hb : c.code = cc) {x : Int} (hd : Dc cc pcs j (.dup) 1 nx) (k : Go (fun H locs pc la sv => W p l e Rm s m args below meth c H locs cells slots Q (F0 m pc la sv)) D A tys ad aC nL s pcs S r (nx) (ls) (mI x :: mI x :: st) (h)) : Go (fun H locs pc la sv => W p l e Rm s m args below meth c H locs cells slots Q (F0 m pc la sv)) D A tys ad aC nL s pcs S r (j) (ls) (mI x :: st) (h) := by
  intro ws H locs la pc hpc hL hl hs hm hw hP hD hS hv
  obtain ⟨pc0, h1, hdg, h2⟩ := hd
  cases hpc.symm.trans h1
  have k9 := k ws H locs la _ h2 hL hl (fun v9 hv9 => hs _ (by revert hv9; simp only [List.mem_cons]; grind)) hm hw hP hD hS hv
  exact lv_dup hx hb hdg rfl k9
theorem go_dupR (hx : p.tables.exec = Jvm.exec) (hb : c.code = cc) {v : Nat ⊕ Nat} (hd : Dc cc pcs j (.dup) 1 nx) (k : Go (fun H locs pc la sv => W p l e Rm s m args below meth c H locs cells slots Q (F0 m pc la sv)) D A tys ad aC nL s pcs S r (nx) (ls) (Sum.inr (Sum.inr v) :: Sum.inr (Sum.inr v) :: st) (h)) : Go (fun H locs pc la sv => W p l e Rm s m args below meth c H locs cells slots Q (F0 m pc la sv)) D A tys ad aC nL s pcs S r (j) (ls) (Sum.inr (Sum.inr v) :: st) (h) := by
  intro ws H locs la pc hpc hL hl hs hm hw hP hD hS hv
  obtain ⟨pc0, h1, hdg, h2⟩ := hd
  cases hpc.symm.trans h1
  have k9 := k ws H locs la _ h2 hL hl (fun v9 hv9 => hs _ (by revert hv9; simp only [List.mem_cons]; grind)) hm hw hP hD hS hv
  cases v <;> exact lv_dup hx hb hdg rfl k9
theorem go_dup2L (hx : p.tables.exec = Jvm.exec) (hb : c.code = cc) {x : Int} (hd : Dc cc pcs j (.dup2) 1 nx) (k : Go (fun H locs pc la sv => W p l e Rm s m args below meth c H locs cells slots Q (F0 m pc la sv)) D A tys ad aC nL s pcs S r (nx) (ls) (mL x :: mL x :: st) (h)) : Go (fun H locs pc la sv => W p l e Rm s m args below meth c H locs cells slots Q (F0 m pc la sv)) D A tys ad aC nL s pcs S r (j) (ls) (mL x :: st) (h) := by
  intro ws H locs la pc hpc hL hl hs hm hw hP hD hS hv
  obtain ⟨pc0, h1, hdg, h2⟩ := hd
  cases hpc.symm.trans h1
  have k9 := k ws H locs la _ h2 hL hl (fun v9 hv9 => hs _ (by revert hv9; simp only [List.mem_cons]; grind)) hm hw hP hD hS hv
  exact lv_dup2_2 hx hb hdg rfl k9
theorem go_dup2I (hx : p.tables.exec = Jvm.exec) (hb : c.code = cc) {x y : Int} (hd : Dc cc pcs j (.dup2) 1 nx) (k : Go (fun H locs pc la sv => W p l e Rm s m args below meth c H locs cells slots Q (F0 m pc la sv)) D A tys ad aC nL s pcs S r (nx) (ls) (mI y :: mI x :: mI y :: mI x :: st) (h)) : Go (fun H locs pc la sv => W p l e Rm s m args below meth c H locs cells slots Q (F0 m pc la sv)) D A tys ad aC nL s pcs S r (j) (ls) (mI y :: mI x :: st) (h) := by
  intro ws H locs la pc hpc hL hl hs hm hw hP hD hS hv
  obtain ⟨pc0, h1, hdg, h2⟩ := hd
  cases hpc.symm.trans h1
  have k9 := k ws H locs la _ h2 hL hl (fun v9 hv9 => hs _ (by revert hv9; simp only [List.mem_cons]; grind)) hm hw hP hD hS hv
  exact lv_dup2_11 hx hb hdg rfl rfl k9
theorem go_dup2R (hx : p.tables.exec = Jvm.exec) (hb : c.code = cc) {y : Int} {v : Nat ⊕ Nat} (hd : Dc cc pcs j (.dup2) 1 nx) (k : Go (fun H locs pc la sv => W p l e Rm s m args below meth c H locs cells slots Q (F0 m pc la sv)) D A tys ad aC nL s pcs S r (nx) (ls) (mI y :: Sum.inr (Sum.inr v) :: mI y :: Sum.inr (Sum.inr v) :: st) (h)) : Go (fun H locs pc la sv => W p l e Rm s m args below meth c H locs cells slots Q (F0 m pc la sv)) D A tys ad aC nL s pcs S r (j) (ls) (mI y :: Sum.inr (Sum.inr v) :: st) (h) := by
  intro ws H locs la pc hpc hL hl hs hm hw hP hD hS hv
  obtain ⟨pc0, h1, hdg, h2⟩ := hd
  cases hpc.symm.trans h1
  have k9 := k ws H locs la _ h2 hL hl (fun v9 hv9 => hs _ (by revert hv9; simp only [List.mem_cons]; grind)) hm hw hP hD hS hv
  cases v <;> exact lv_dup2_11 hx hb hdg rfl rfl k9
theorem go_pop (hx : p.tables.exec = Jvm.exec) (hb : c.code = cc) {x : Int} (hd : Dc cc pcs j (.pop) 1 nx) (k : Go (fun H locs pc la sv => W p l e Rm s m args below meth c H locs cells slots Q (F0 m pc la sv)) D A tys ad aC nL s pcs S r (nx) (ls) (st) (h)) : Go (fun H locs pc la sv => W p l e Rm s m args below meth c H locs cells slots Q (F0 m pc la sv)) D A tys ad aC nL s pcs S r (j) (ls) (mI x :: st) (h) := by
  intro ws H locs la pc hpc hL hl hs hm hw hP hD hS hv
  obtain ⟨pc0, h1, hdg, h2⟩ := hd
  cases hpc.symm.trans h1
  have k9 := k ws H locs la _ h2 hL hl (fun v9 hv9 => hs _ (List.mem_cons_of_mem _ hv9)) hm hw hP hD hS hv
  exact lv_pop hx hb hdg rfl k9
theorem go_goto (hx : p.tables.exec = Jvm.exec) (hb : c.code = cc) {off : Int} {t tg : Nat} (hd : Dc cc pcs j (.goto off) 3 nx) (ht : nth pcs t = some tg) (ho : ∀ pc : Nat, nth pcs j = some pc → (pc : Int) + off = (tg : Int)) (k : Go (fun H locs pc la sv => W p l e Rm s m args below meth c H locs cells slots Q (F0 m pc la sv)) D A tys ad aC nL s pcs S r (t) (ls) (st) (h)) : Go (fun H locs pc la sv => W p l e Rm s m args below meth c H locs cells slots Q (F0 m pc la sv)) D A tys ad aC nL s pcs S r (j) (ls) (st) (h) := by
  intro ws H locs la pc hpc hL hl hs hm hw hP hD hS hv
  obtain ⟨pc0, h1, hdg, h2⟩ := hd
  cases hpc.symm.trans h1
  exact lv_goto hx hb hdg (ho _ hpc) (k ws H locs la _ ht hL hl hs hm hw hP hD hS hv)
theorem go_icmp_eq (hx : p.tables.exec = Jvm.exec) (hb : c.code = cc) {x y : Int} {off : Int} {t tg : Nat} (hd : Dc cc pcs j (.if_icmp .eq off) 3 nx) (ht : nth pcs t = some tg) (ho : ∀ pc : Nat, nth pcs j = some pc → (pc : Int) + off = (tg : Int)) (kt : x = y → Go (fun H locs pc la sv => W p l e Rm s m args below meth c H locs cells slots Q (F0 m pc la sv)) D A tys ad aC nL s pcs S r (t) (ls) (st) (h)) (kf : ¬ x = y → Go (fun H locs pc la sv => W p l e Rm s m args below meth c H locs cells slots Q (F0 m pc la sv)) D A tys ad aC nL s pcs S r (nx) (ls) (st) (h)) : Go (fun H locs pc la sv => W p l e Rm s m args below meth c H locs cells slots Q (F0 m pc la sv)) D A tys ad aC nL s pcs S r (j) (ls) (mI y :: mI x :: st) (h) := by
  intro ws H locs la pc hpc hL hl hs hm hw hP hD hS hv
  obtain ⟨pc0, h1, hdg, h2⟩ := hd
  cases hpc.symm.trans h1
  have hs9 : ∀ v ∈ st, vOk S.length v := fun v9 hv9 => hs _ (List.mem_cons_of_mem _ (List.mem_cons_of_mem _ hv9))
  have hx9 : inI x := hs _ (List.mem_cons_of_mem _ List.mem_cons_self)
  have hy9 : inI y := hs _ List.mem_cons_self
  exact lv_icmp_eq hx hb hdg (ho _ hpc) (fun q => kt ((i32_eq hx9 hy9).mp q) ws H locs la _ ht hL hl hs9 hm hw hP hD hS hv) (fun q => kf (fun z => q ((i32_eq hx9 hy9).mpr z)) ws H locs la _ h2 hL hl hs9 hm hw hP hD hS hv)
theorem go_if_eq (hx : p.tables.exec = Jvm.exec) (hb : c.code = cc) {x : Int} {off : Int} {t tg : Nat} (hd : Dc cc pcs j (.ifCond .eq off) 3 nx) (ht : nth pcs t = some tg) (ho : ∀ pc : Nat, nth pcs j = some pc → (pc : Int) + off = (tg : Int)) (kt : x = 0 → Go (fun H locs pc la sv => W p l e Rm s m args below meth c H locs cells slots Q (F0 m pc la sv)) D A tys ad aC nL s pcs S r (t) (ls) (st) (h)) (kf : ¬ x = 0 → Go (fun H locs pc la sv => W p l e Rm s m args below meth c H locs cells slots Q (F0 m pc la sv)) D A tys ad aC nL s pcs S r (nx) (ls) (st) (h)) : Go (fun H locs pc la sv => W p l e Rm s m args below meth c H locs cells slots Q (F0 m pc la sv)) D A tys ad aC nL s pcs S r (j) (ls) (mI x :: st) (h) := by
  intro ws H locs la pc hpc hL hl hs hm hw hP hD hS hv
  obtain ⟨pc0, h1, hdg, h2⟩ := hd
  cases hpc.symm.trans h1
  have hs9 : ∀ v ∈ st, vOk S.length v := fun v9 hv9 => hs _ (List.mem_cons_of_mem _ hv9)
  have hx9 : inI x := hs _ List.mem_cons_self
  have hy9 : inI 0 := by omega
  exact lv_if_eq hx hb hdg (ho _ hpc) (fun q => kt ((i32_eq hx9 hy9).mp q) ws H locs la _ ht hL hl hs9 hm hw hP hD hS hv) (fun q => kf (fun z => q ((i32_eq hx9 hy9).mpr z)) ws H locs la _ h2 hL hl hs9 hm hw hP hD hS hv)
theorem go_icmp_ne (hx : p.tables.exec = Jvm.exec) (hb : c.code = cc) {x y : Int} {off : Int} {t tg : Nat} (hd : Dc cc pcs j (.if_icmp .ne off) 3 nx) (ht : nth pcs t = some tg) (ho : ∀ pc : Nat, nth pcs j = some pc → (pc : Int) + off = (tg : Int)) (kt : ¬ x = y → Go (fun H locs pc la sv => W p l e Rm s m args below meth c H locs cells slots Q (F0 m pc la sv)) D A tys ad aC nL s pcs S r (t) (ls) (st) (h)) (kf : x = y → Go (fun H locs pc la sv => W p l e Rm s m args below meth c H locs cells slots Q (F0 m pc la sv)) D A tys ad aC nL s pcs S r (nx) (ls) (st) (h)) : Go (fun H locs pc la sv => W p l e Rm s m args below meth c H locs cells slots Q (F0 m pc la sv)) D A tys ad aC nL s pcs S r (j) (ls) (mI y :: mI x :: st) (h) := by
  intro ws H locs la pc hpc hL hl hs hm hw hP hD hS hv
  obtain ⟨pc0, h1, hdg, h2⟩ := hd
  cases hpc.symm.trans h1
  have hs9 : ∀ v ∈ st, vOk S.length v := fun v9 hv9 => hs _ (List.mem_cons_of_mem _ (List.mem_cons_of_mem _ hv9))
  have hx9 : inI x := hs _ (List.mem_cons_of_mem _ List.mem_cons_self)
  have hy9 : inI y := hs _ List.mem_cons_self
  exact lv_icmp_ne hx hb hdg (ho _ hpc) (fun q => kt (fun z => q ((i32_eq hx9 hy9).mpr z)) ws H locs la _ ht hL hl hs9 hm hw hP hD hS hv) (fun q => kf ((i32_eq hx9 hy9).mp q) ws H locs la _ h2 hL hl hs9 hm hw hP hD hS hv)
theorem go_if_ne (hx : p.tables.exec = Jvm.exec) (hb : c.code = cc) {x : Int} {off : Int} {t tg : Nat} (hd : Dc cc pcs j (.ifCond .ne off) 3 nx) (ht : nth pcs t = some tg) (ho : ∀ pc : Nat, nth pcs j = some pc → (pc : Int) + off = (tg : Int)) (kt : ¬ x = 0 → Go (fun H locs pc la sv => W p l e Rm s m args below meth c H locs cells slots Q (F0 m pc la sv)) D A tys ad aC nL s pcs S r (t) (ls) (st) (h)) (kf : x = 0 → Go (fun H locs pc la sv => W p l e Rm s m args below meth c H locs cells slots Q (F0 m pc la sv)) D A tys ad aC nL s pcs S r (nx) (ls) (st) (h)) : Go (fun H locs pc la sv => W p l e Rm s m args below meth c H locs cells slots Q (F0 m pc la sv)) D A tys ad aC nL s pcs S r (j) (ls) (mI x :: st) (h) := by
  intro ws H locs la pc hpc hL hl hs hm hw hP hD hS hv
  obtain ⟨pc0, h1, hdg, h2⟩ := hd
  cases hpc.symm.trans h1
  have hs9 : ∀ v ∈ st, vOk S.length v := fun v9 hv9 => hs _ (List.mem_cons_of_mem _ hv9)
  have hx9 : inI x := hs _ List.mem_cons_self
  have hy9 : inI 0 := by omega
  exact lv_if_ne hx hb hdg (ho _ hpc) (fun q => kt (fun z => q ((i32_eq hx9 hy9).mpr z)) ws H locs la _ ht hL hl hs9 hm hw hP hD hS hv) (fun q => kf ((i32_eq hx9 hy9).mp q) ws H locs la _ h2 hL hl hs9 hm hw hP hD hS hv)
theorem go_icmp_lt (hx : p.tables.exec = Jvm.exec) (hb : c.code = cc) {x y : Int} {off : Int} {t tg : Nat} (hd : Dc cc pcs j (.if_icmp .lt off) 3 nx) (ht : nth pcs t = some tg) (ho : ∀ pc : Nat, nth pcs j = some pc → (pc : Int) + off = (tg : Int)) (kt : x < y → Go (fun H locs pc la sv => W p l e Rm s m args below meth c H locs cells slots Q (F0 m pc la sv)) D A tys ad aC nL s pcs S r (t) (ls) (st) (h)) (kf : ¬ x < y → Go (fun H locs pc la sv => W p l e Rm s m args below meth c H locs cells slots Q (F0 m pc la sv)) D A tys ad aC nL s pcs S r (nx) (ls) (st) (h)) : Go (fun H locs pc la sv => W p l e Rm s m args below meth c H locs cells slots Q (F0 m pc la sv)) D A tys ad aC nL s pcs S r (j) (ls) (mI y :: mI x :: st) (h) := by
  intro ws H locs la pc hpc hL hl hs hm hw hP hD hS hv
  obtain ⟨pc0, h1, hdg, h2⟩ := hd
  cases hpc.symm.trans h1
  have hs9 : ∀ v ∈ st, vOk S.length v := fun v9 hv9 => hs _ (List.mem_cons_of_mem _ (List.mem_cons_of_mem _ hv9))
  have hx9 : inI x := hs _ (List.mem_cons_of_mem _ List.mem_cons_self)
  have hy9 : inI y := hs _ List.mem_cons_self
  exact lv_icmp_lt hx hb hdg (ho _ hpc) (fun q => kt ((i32_lt hx9 hy9).mp q) ws H locs la _ ht hL hl hs9 hm hw hP hD hS hv) (fun q => kf (fun z => q ((i32_lt hx9 hy9).mpr z)) ws H locs la _ h2 hL hl hs9 hm hw hP hD hS hv)
theorem go_if_lt (hx : p.tables.exec = Jvm.exec) (hb : c.code = cc) {x : Int} {off : Int} {t tg : Nat} (hd : Dc cc pcs j (.ifCond .lt off) 3 nx) (ht : nth pcs t = some tg) (ho : ∀ pc : Nat, nth pcs j = some pc → (pc : Int) + off = (tg : Int)) (kt : x < 0 → Go (fun H locs pc la sv => W p l e Rm s m args below meth c H locs cells slots Q (F0 m pc la sv)) D A tys ad aC nL s pcs S r (t) (ls) (st) (h)) (kf : ¬ x < 0 → Go (fun H locs pc la sv => W p l e Rm s m args below meth c H locs cells slots Q (F0 m pc la sv)) D A tys ad aC nL s pcs S r (nx) (ls) (st) (h)) : Go (fun H locs pc la sv => W p l e Rm s m args below meth c H locs cells slots Q (F0 m pc la sv)) D A tys ad aC nL s pcs S r (j) (ls) (mI x :: st) (h) := by
  intro ws H locs la pc hpc hL hl hs hm hw hP hD hS hv
  obtain ⟨pc0, h1, hdg, h2⟩ := hd
  cases hpc.symm.trans h1
  have hs9 : ∀ v ∈ st, vOk S.length v := fun v9 hv9 => hs _ (List.mem_cons_of_mem _ hv9)
  have hx9 : inI x := hs _ List.mem_cons_self
  have hy9 : inI 0 := by omega
  exact lv_if_lt hx hb hdg (ho _ hpc) (fun q => kt ((i32_lt hx9 hy9).mp q) ws H locs la _ ht hL hl hs9 hm hw hP hD hS hv) (fun q => kf (fun z => q ((i32_lt hx9 hy9).mpr z)) ws H locs la _ h2 hL hl hs9 hm hw hP hD hS hv)
theorem go_icmp_ge (hx : p.tables.exec = Jvm.exec) (hb : c.code = cc) {x y : Int} {off : Int} {t tg : Nat} (hd : Dc cc pcs j (.if_icmp .ge off) 3 nx) (ht : nth pcs t = some tg) (ho : ∀ pc : Nat, nth pcs j = some pc → (pc : Int) + off = (tg : Int)) (kt : ¬ x < y → Go (fun H locs pc la sv => W p l e Rm s m args below meth c H locs cells slots Q (F0 m pc la sv)) D A tys ad aC nL s pcs S r (t) (ls) (st) (h)) (kf : x < y → Go (fun H locs pc la sv => W p l e Rm s m args below meth c H locs cells slots Q (F0 m pc la sv)) D A tys ad aC nL s pcs S r (nx) (ls) (st) (h)) : Go (fun H locs pc la sv => W p l e Rm s m args below meth c H locs cells slots Q (F0 m pc la sv)) D A tys ad aC nL s pcs S r (j) (ls) (mI y :: mI x :: st) (h) := by
  intro ws H locs la pc hpc hL hl hs hm hw hP hD hS hv
  obtain ⟨pc0, h1, hdg, h2⟩ := hd
  cases hpc.symm.trans h1
  have hs9 : ∀ v ∈ st, vOk S.length v := fun v9 hv9 => hs _ (List.mem_cons_of_mem _ (List.mem_cons_of_mem _ hv9))
  have hx9 : inI x := hs _ (List.mem_cons_of_mem _ List.mem_cons_self)
  have hy9 : inI y := hs _ List.mem_cons_self
  exact lv_icmp_ge hx hb hdg (ho _ hpc) (fun q => kt (fun z => Int32.not_lt.mpr q ((i32_lt hx9 hy9).mpr z)) ws H locs la _ ht hL hl hs9 hm hw hP hD hS hv) (fun q => kf ((i32_lt hx9 hy9).mp (Int32.not_le.mp q)) ws H locs la _ h2 hL hl hs9 hm hw hP hD hS hv)
theorem go_if_ge (hx : p.tables.exec = Jvm.exec) (hb : c.code = cc) {x : Int} {off : Int} {t tg : Nat} (hd : Dc cc pcs j (.ifCond .ge off) 3 nx) (ht : nth pcs t = some tg) (ho : ∀ pc : Nat, nth pcs j = some pc → (pc : Int) + off = (tg : Int)) (kt : ¬ x < 0 → Go (fun H locs pc la sv => W p l e Rm s m args below meth c H locs cells slots Q (F0 m pc la sv)) D A tys ad aC nL s pcs S r (t) (ls) (st) (h)) (kf : x < 0 → Go (fun H locs pc la sv => W p l e Rm s m args below meth c H locs cells slots Q (F0 m pc la sv)) D A tys ad aC nL s pcs S r (nx) (ls) (st) (h)) : Go (fun H locs pc la sv => W p l e Rm s m args below meth c H locs cells slots Q (F0 m pc la sv)) D A tys ad aC nL s pcs S r (j) (ls) (mI x :: st) (h) := by
  intro ws H locs la pc hpc hL hl hs hm hw hP hD hS hv
  obtain ⟨pc0, h1, hdg, h2⟩ := hd
  cases hpc.symm.trans h1
  have hs9 : ∀ v ∈ st, vOk S.length v := fun v9 hv9 => hs _ (List.mem_cons_of_mem _ hv9)
  have hx9 : inI x := hs _ List.mem_cons_self
  have hy9 : inI 0 := by omega
  exact lv_if_ge hx hb hdg (ho _ hpc) (fun q => kt (fun z => Int32.not_lt.mpr q ((i32_lt hx9 hy9).mpr z)) ws H locs la _ ht hL hl hs9 hm hw hP hD hS hv) (fun q => kf ((i32_lt hx9 hy9).mp (Int32.not_le.mp q)) ws H locs la _ h2 hL hl hs9 hm hw hP hD hS hv)
theorem go_icmp_gt (hx : p.tables.exec = Jvm.exec) (hb : c.code = cc) {x y : Int} {off : Int} {t tg : Nat} (hd : Dc cc pcs j (.if_icmp .gt off) 3 nx) (ht : nth pcs t = some tg) (ho : ∀ pc : Nat, nth pcs j = some pc → (pc : Int) + off = (tg : Int)) (kt : y < x → Go (fun H locs pc la sv => W p l e Rm s m args below meth c H locs cells slots Q (F0 m pc la sv)) D A tys ad aC nL s pcs S r (t) (ls) (st) (h)) (kf : ¬ y < x → Go (fun H locs pc la sv => W p l e Rm s m args below meth c H locs cells slots Q (F0 m pc la sv)) D A tys ad aC nL s pcs S r (nx) (ls) (st) (h)) : Go (fun H locs pc la sv => W p l e Rm s m args below meth c H locs cells slots Q (F0 m pc la sv)) D A tys ad aC nL s pcs S r (j) (ls) (mI y :: mI x :: st) (h) := by
  intro ws H locs la pc hpc hL hl hs hm hw hP hD hS hv
  obtain ⟨pc0, h1, hdg, h2⟩ := hd
  cases hpc.symm.trans h1
  have hs9 : ∀ v ∈ st, vOk S.length v := fun v9 hv9 => hs _ (List.mem_cons_of_mem _ (List.mem_cons_of_mem _ hv9))
  have hx9 : inI x := hs _ (List.mem_cons_of_mem _ List.mem_cons_self)
  have hy9 : inI y := hs _ List.mem_cons_self
  exact lv_icmp_gt hx hb hdg (ho _ hpc) (fun q => kt ((i32_lt hy9 hx9).mp q) ws H locs la _ ht hL hl hs9 hm hw hP hD hS hv) (fun q => kf (fun z => q ((i32_lt hy9 hx9).mpr z)) ws H locs la _ h2 hL hl hs9 hm hw hP hD hS hv)
theorem go_if_gt (hx : p.tables.exec = Jvm.exec) (hb : c.code = cc) {x : Int} {off : Int} {t tg : Nat} (hd : Dc cc pcs j (.ifCond .gt off) 3 nx) (ht : nth pcs t = some tg) (ho : ∀ pc : Nat, nth pcs j = some pc → (pc : Int) + off = (tg : Int)) (kt : 0 < x → Go (fun H locs pc la sv => W p l e Rm s m args below meth c H locs cells slots Q (F0 m pc la sv)) D A tys ad aC nL s pcs S r (t) (ls) (st) (h)) (kf : ¬ 0 < x → Go (fun H locs pc la sv => W p l e Rm s m args below meth c H locs cells slots Q (F0 m pc la sv)) D A tys ad aC nL s pcs S r (nx) (ls) (st) (h)) : Go (fun H locs pc la sv => W p l e Rm s m args below meth c H locs cells slots Q (F0 m pc la sv)) D A tys ad aC nL s pcs S r (j) (ls) (mI x :: st) (h) := by
  intro ws H locs la pc hpc hL hl hs hm hw hP hD hS hv
  obtain ⟨pc0, h1, hdg, h2⟩ := hd
  cases hpc.symm.trans h1
  have hs9 : ∀ v ∈ st, vOk S.length v := fun v9 hv9 => hs _ (List.mem_cons_of_mem _ hv9)
  have hx9 : inI x := hs _ List.mem_cons_self
  have hy9 : inI 0 := by omega
  exact lv_if_gt hx hb hdg (ho _ hpc) (fun q => kt ((i32_lt hy9 hx9).mp q) ws H locs la _ ht hL hl hs9 hm hw hP hD hS hv) (fun q => kf (fun z => q ((i32_lt hy9 hx9).mpr z)) ws H locs la _ h2 hL hl hs9 hm hw hP hD hS hv)
theorem go_icmp_le (hx : p.tables.exec = Jvm.exec) (hb : c.code = cc) {x y : Int} {off : Int} {t tg : Nat} (hd : Dc cc pcs j (.if_icmp .le off) 3 nx) (ht : nth pcs t = some tg) (ho : ∀ pc : Nat, nth pcs j = some pc → (pc : Int) + off = (tg : Int)) (kt : ¬ y < x → Go (fun H locs pc la sv => W p l e Rm s m args below meth c H locs cells slots Q (F0 m pc la sv)) D A tys ad aC nL s pcs S r (t) (ls) (st) (h)) (kf : y < x → Go (fun H locs pc la sv => W p l e Rm s m args below meth c H locs cells slots Q (F0 m pc la sv)) D A tys ad aC nL s pcs S r (nx) (ls) (st) (h)) : Go (fun H locs pc la sv => W p l e Rm s m args below meth c H locs cells slots Q (F0 m pc la sv)) D A tys ad aC nL s pcs S r (j) (ls) (mI y :: mI x :: st) (h) := by
  intro ws H locs la pc hpc hL hl hs hm hw hP hD hS hv
  obtain ⟨pc0, h1, hdg, h2⟩ := hd
  cases hpc.symm.trans h1
  have hs9 : ∀ v ∈ st, vOk S.length v := fun v9 hv9 => hs _ (List.mem_cons_of_mem _ (List.mem_cons_of_mem _ hv9))
  have hx9 : inI x := hs _ (List.mem_cons_of_mem _ List.mem_cons_self)
  have hy9 : inI y := hs _ List.mem_cons_self
  exact lv_icmp_le hx hb hdg (ho _ hpc) (fun q => kt (fun z => Int32.not_lt.mpr q ((i32_lt hy9 hx9).mpr z)) ws H locs la _ ht hL hl hs9 hm hw hP hD hS hv) (fun q => kf ((i32_lt hy9 hx9).mp (Int32.not_le.mp q)) ws H locs la _ h2 hL hl hs9 hm hw hP hD hS hv)
theorem go_if_le (hx : p.tables.exec = Jvm.exec) (hb : c.code = cc) {x : Int} {off : Int} {t tg : Nat} (hd : Dc cc pcs j (.ifCond .le off) 3 nx) (ht : nth pcs t = some tg) (ho : ∀ pc : Nat, nth pcs j = some pc → (pc : Int) + off = (tg : Int)) (kt : ¬ 0 < x → Go (fun H locs pc la sv => W p l e Rm s m args below meth c H locs cells slots Q (F0 m pc la sv)) D A tys ad aC nL s pcs S r (t) (ls) (st) (h)) (kf : 0 < x → Go (fun H locs pc la sv => W p l e Rm s m args below meth c H locs cells slots Q (F0 m pc la sv)) D A tys ad aC nL s pcs S r (nx) (ls) (st) (h)) : Go (fun H locs pc la sv => W p l e Rm s m args below meth c H locs cells slots Q (F0 m pc la sv)) D A tys ad aC nL s pcs S r (j) (ls) (mI x :: st) (h) := by
  intro ws H locs la pc hpc hL hl hs hm hw hP hD hS hv
  obtain ⟨pc0, h1, hdg, h2⟩ := hd
  cases hpc.symm.trans h1
  have hs9 : ∀ v ∈ st, vOk S.length v := fun v9 hv9 => hs _ (List.mem_cons_of_mem _ hv9)
  have hx9 : inI x := hs _ List.mem_cons_self
  have hy9 : inI 0 := by omega
  exact lv_if_le hx hb hdg (ho _ hpc) (fun q => kt (fun z => Int32.not_lt.mpr q ((i32_lt hy9 hx9).mpr z)) ws H locs la _ ht hL hl hs9 hm hw hP hD hS hv) (fun q => kf ((i32_lt hy9 hx9).mp (Int32.not_le.mp q)) ws H locs la _ h2 hL hl hs9 hm hw hP hD hS hv)
end
end
section
/-! SIM 2: stores, longs' compares, switches, fields, arrays, constants, copies, Math -/
/-- ls' is ls with v at k -/
def StR (v : mv) (k : Nat) (ls ls' : List mv) : Prop := ls'.length = ls.length ∧ k < ls.length ∧ nth ls' k = some v ∧ ∀ i u, i ≠ k → nth ls' i = some u → u ≠ mC 0 → nth ls i = some u ∧ (i + 1 = k → ∀ x, u ≠ mL x)
theorem kl_eq {a u : mv} (h : kl a = u) (h0 : u ≠ mC 0) : a = u ∧ ∀ x, u ≠ mL x := by
  unfold kl at h
  split at h
  · exact absurd h.symm h0
  · next h1 =>
    refine ⟨h, fun x q => ?_⟩
    exact h1 x (h.trans q)
theorem stK_spec {ρ : Type} {v : mv} {r : ρ} : ∀ (k : Nat) (ls : List mv) {K : List mv → Option ρ}, stK v k ls K = some r → ∃ ls', StR v k ls ls' ∧ K ls' = some r
  | 0, [], K, h => by cases h
  | 0, a :: l, K, h => ⟨v :: l, ⟨rfl, by simp, rfl, fun i u hi hu _ => by
      cases i with
      | zero => exact absurd rfl hi
      | succ i => exact ⟨hu, fun q => by omega⟩⟩, h⟩
  | 1, [], K, h => by cases h
  | 1, [_], K, h => by cases h
  | 1, a :: b :: l, K, h => ⟨kl a :: v :: l, ⟨rfl, by simp, rfl, fun i u hi hu h0 => by
      cases i with
      | zero =>
        obtain ⟨h1, h2⟩ := kl_eq (Option.some.inj hu) h0
        exact ⟨by rw [← h1]; rfl, fun _ => h2⟩
      | succ i => cases i with
        | zero => exact absurd rfl hi
        | succ i => exact ⟨hu, fun q => by omega⟩⟩, h⟩
  | k + 2, [], K, h => by cases h
  | k + 2, a :: l, K, h => by
    obtain ⟨l', ⟨h1, h2, h3, h4⟩, h5⟩ := stK_spec (k + 1) l h
    refine ⟨a :: l', ⟨by simp [h1], by simp only [List.length_cons]; omega, h3, fun i u hi hu h0 => ?_⟩, h5⟩
    cases i with
    | zero => exact ⟨hu, fun q => by omega⟩
    | succ i =>
      obtain ⟨g1, g2⟩ := h4 i u (by omega) hu h0
      exact ⟨g1, fun q => g2 (by omega)⟩
theorem stL_spec {ρ : Type} {v : mv} {r : ρ} : ∀ (k : Nat) (ls : List mv) {K : List mv → Option ρ}, stL v k ls K = some r → ∃ ls', (StR v k ls ls' ∧ nth ls' (k + 1) = some (mC 0)) ∧ K ls' = some r
  | 0, [], K, h => by cases h
  | 0, [_], K, h => by cases h
  | 0, a :: b :: l, K, h => ⟨v :: mC 0 :: l, ⟨⟨rfl, by simp, rfl, fun i u hi hu h0 => by
      cases i with
      | zero => exact absurd rfl hi
      | succ i => cases i with
        | zero => exact absurd (Option.some.inj hu).symm h0
        | succ i => exact ⟨hu, fun q => by omega⟩⟩, rfl⟩, h⟩
  | 1, [], K, h => by cases h
  | 1, [_], K, h => by cases h
  | 1, [_, _], K, h => by cases h
  | 1, a :: b :: b' :: l, K, h => ⟨kl a :: v :: mC 0 :: l, ⟨⟨rfl, by simp, rfl, fun i u hi hu h0 => by
      cases i with
      | zero =>
        obtain ⟨h1, h2⟩ := kl_eq (Option.some.inj hu) h0
        exact ⟨by rw [← h1]; rfl, fun _ => h2⟩
      | succ i => cases i with
        | zero => exact absurd rfl hi
        | succ i => cases i with
          | zero => exact absurd (Option.some.inj hu).symm h0
          | succ i => exact ⟨hu, fun q => by omega⟩⟩, rfl⟩, h⟩
  | k + 2, [], K, h => by cases h
  | k + 2, a :: l, K, h => by
    obtain ⟨l', ⟨⟨h1, h2, h3, h4⟩, h6⟩, h5⟩ := stL_spec (k + 1) l h
    refine ⟨a :: l', ⟨⟨by simp [h1], by simp only [List.length_cons]; omega, h3, fun i u hi hu h0 => ?_⟩, h6⟩, h5⟩
    cases i with
    | zero => exact ⟨hu, fun q => by omega⟩
    | succ i =>
      obtain ⟨g1, g2⟩ := h4 i u (by omega) hu h0
      exact ⟨g1, fun q => g2 (by omega)⟩
theorem mem_nth {α : Type} : ∀ {l : List α} {a : α}, a ∈ l → ∃ k, nth l k = some a
  | [], a, h => by cases h
  | b :: l, a, h => by
    rcases List.mem_cons.mp h with rfl | h
    · exact ⟨0, rfl⟩
    · obtain ⟨k, hk⟩ := mem_nth h
      exact ⟨k + 1, hk⟩
theorem StR.ok {n : Nat} {v : mv} {k : Nat} {ls ls' : List mv} (hR : StR v k ls ls') (hv : vOk n v) (hl : ∀ u ∈ ls, vOk n u) : ∀ u ∈ ls', vOk n u := by
  intro u hu
  obtain ⟨i, hi⟩ := mem_nth hu
  by_cases h0 : u = mC 0
  · rw [h0]; trivial
  · by_cases e : i = k
    · subst e
      rw [hR.2.2.1] at hi
      cases hi
      exact hv
    · exact hl _ (nth_mem (hR.2.2.2 i u e hi h0).1)
theorem cat_rV {ad aC : Nat → Nat} {u : mv} (h : ∀ x, u ≠ mL x) : (rV ad aC u).category = 1 := by
  rcases u with x | x | x | x
  · rfl
  · exact absurd rfl (h x)
  · rfl
  · rfl
theorem StR.has {ad aC : Nat → Nat} {nL : Nat} {la : Array Slot} {v : mv} {k : Nat} {ls ls' : List mv} (hR : StR v k ls ls') (h : lv_has la nL ((k, rV ad aC v) :: (asc ad aC 0 ls).filter (fun q => !(q.1 == k) && !(q.1 + 1 == k && q.2.category == 2)))) : lv_has la nL (asc ad aC 0 ls') := by
  refine ⟨h.1, h.2.1, fun q hq => ?_⟩
  obtain ⟨i, u, h1, h2, h3⟩ := mem_asc.mp hq
  subst h3
  rw [Nat.zero_add] at *
  by_cases e : i = k
  · subst e
    rw [hR.2.2.1] at h1
    cases h1
    exact h.2.2 _ List.mem_cons_self
  · obtain ⟨g1, g2⟩ := hR.2.2.2 i u e h1 h2
    refine h.2.2 _ (List.mem_cons_of_mem _ (List.mem_filter.mpr ⟨mem_asc.mpr ⟨i, u, g1, h2, by rw [Nat.zero_add]⟩, ?_⟩))
    by_cases e2 : i + 1 = k
    · simp [e, cat_rV (ad := ad) (aC := aC) (g2 e2)]
    · simp [e, e2]
theorem StR.hasL {ad aC : Nat → Nat} {nL : Nat} {la : Array Slot} {v : mv} {k : Nat} {ls ls' : List mv} (hR : StR v k ls ls' ∧ nth ls' (k + 1) = some (mC 0)) (h : lv_has la nL ((k, rV ad aC v) :: (asc ad aC 0 ls).filter (fun q => !(q.1 == k) && (!(q.1 == k + 1) && !(q.1 + 1 == k && q.2.category == 2))))) : lv_has la nL (asc ad aC 0 ls') := by
  refine ⟨h.1, h.2.1, fun q hq => ?_⟩
  obtain ⟨i, u, h1, h2, h3⟩ := mem_asc.mp hq
  subst h3
  rw [Nat.zero_add] at *
  by_cases e : i = k
  · subst e
    rw [hR.1.2.2.1] at h1
    cases h1
    exact h.2.2 _ List.mem_cons_self
  · obtain ⟨g1, g2⟩ := hR.1.2.2.2 i u e h1 h2
    have e1 : ¬ i = k + 1 := fun q => by
      subst q
      rw [hR.2] at h1
      exact h2 (Option.some.inj h1).symm
    refine h.2.2 _ (List.mem_cons_of_mem _ (List.mem_filter.mpr ⟨mem_asc.mpr ⟨i, u, g1, h2, by rw [Nat.zero_add]⟩, ?_⟩))
    by_cases e2 : i + 1 = k
    · simp [e, e1, cat_rV (ad := ad) (aC := aC) (g2 e2)]
    · simp [e, e1, e2]
theorem wds_ok {ad aC : Nat → Nat} : ∀ (st : List mv), ((st.map (rV ad aC)).map fun v => v.category).sum = wds st
  | [] => rfl
  | .inl _ :: r => by
    have q := wds_ok (ad := ad) (aC := aC) r
    simp only [List.map_cons, List.sum_cons, wds]
    rw [q]
    show 1 + wds r = wds r + 1
    omega
  | .inr (.inl _) :: r => by
    have q := wds_ok (ad := ad) (aC := aC) r
    simp only [List.map_cons, List.sum_cons, wds]
    rw [q]
    show 2 + wds r = wds r + 2
    omega
  | .inr (.inr (.inl _)) :: r => by
    have q := wds_ok (ad := ad) (aC := aC) r
    simp only [List.map_cons, List.sum_cons, wds]
    rw [q]
    show 1 + wds r = wds r + 1
    omega
  | .inr (.inr (.inr _)) :: r => by
    have q := wds_ok (ad := ad) (aC := aC) r
    simp only [List.map_cons, List.sum_cons, wds]
    rw [q]
    show 1 + wds r = wds r + 1
    omega
theorem few_spec {ρ : Type} {st : List mv} {k : Option ρ} {r : ρ} (h : few st k = some r) : wds st ≤ 8 ∧ k = some r := by
  unfold few at h
  split at h
  · next q => exact ⟨Nat.le_of_ble_eq_true q, h⟩
  · cases h
theorem mObj_spec {S : mSh} {a ci : Nat} (h : mObj S a ci = true) : nth S a = some (.inl ci) := by
  unfold mObj at h
  split at h
  · next c q => rw [q, Nat.eq_of_beq_eq_true h]
  · cases h
theorem mArr_spec {S : mSh} {a ty n : Nat} (h : mArr S a ty = some n) : nth S a = some (.inr (ty, n)) := by
  unfold mArr at h
  split at h
  · next t m q =>
    split at h
    · next q2 =>
      cases h
      rw [q, Nat.eq_of_beq_eq_true q2]
    · cases h
  · cases h
theorem inA_in {i : Int} {n : Nat} (hi : inI i) (h : inA i n) : vp_in (Int32.ofInt i) n ∧ (Int32.ofInt i).toNatClampNeg = i.toNat := by
  refine ⟨vp_in_iff.mpr ?_, ?_⟩
  · rw [i32_of hi]
    exact h
  · show (Int32.ofInt i).toInt.toNat = i.toNat
    rw [i32_of hi]
theorem inA_cast {i : Int} {n : Nat} (h : inA i n) : ((i.toNat : Nat) : Int) = i := by omega
/-- the world with one number changed: an array's -/
theorem Wld_arr {tys : List (ClassId × FieldType)} {ws : va_W} {ad : Nat → Nat} {S : mSh} {r : mRf} {h : mM} {a t n cA : Nat} {i x : Int} (hw : Wld tys ws ad S r h) (ha : nth S a = some (.inr (t, n))) (hcl : ws[a]? = some (ad a, .inl (cA, n, acn ad r h a t))) : Wld tys (ws.set a (ad a, .inl (cA, n, acn ad r (upM h a i x) a t))) ad S r (upM h a i x) := by
  obtain ⟨h1, h2, h3, h4⟩ := hw
  have hl := (List.getElem?_eq_some_iff.mp hcl).1
  refine ⟨by rw [List.length_set]; exact h1, fun b ci hb => ?_, fun b t' n' hb => ?_, h4⟩
  · have hne : b ≠ a := fun q => by subst q; rw [ha] at hb; cases hb
    obtain ⟨f, hf, hc⟩ := h2 b ci hb
    exact ⟨f, hf, by rw [List.getElem?_set_ne (Ne.symm hne), hc, fvs_congr (fun k => upM_ne hne)]⟩
  · by_cases hne : b = a
    · subst hne
      rw [ha] at hb
      cases hb
      obtain ⟨cA', t0, g1, g2, g3⟩ := h3 b _ _ ha
      rw [hcl] at g3
      cases g3
      exact ⟨_, t0, g1, g2, by rw [List.getElem?_set_self hl]⟩
    · obtain ⟨cA', t0, g1, g2, g3⟩ := h3 b t' n' hb
      exact ⟨cA', t0, g1, g2, by rw [List.getElem?_set_ne (Ne.symm hne), g3, acn_congr (fun k => upM_ne hne)]⟩
/-- the world with one number changed: an object's -/
theorem Wld_obj {tys : List (ClassId × FieldType)} {ws : va_W} {ad : Nat → Nat} {S : mSh} {r : mRf} {h : mM} {a ci : Nat} {f : List Nat} {i x : Int} (hw : Wld tys ws ad S r h) (ha : nth S a = some (.inl ci)) (hf : nth FT ci = some f) : Wld tys (ws.set a (ad a, .inr (ci, fvs ad r (upM h a i x) a 0 f))) ad S r (upM h a i x) := by
  obtain ⟨h1, h2, h3, h4⟩ := hw
  have hl : a < ws.length := by rw [h1]; exact nth_lt ha
  refine ⟨by rw [List.length_set]; exact h1, fun b ci' hb => ?_, fun b t' n' hb => ?_, h4⟩
  · by_cases hne : b = a
    · subst hne
      rw [ha] at hb
      cases hb
      exact ⟨f, hf, by rw [List.getElem?_set_self hl]⟩
    · obtain ⟨f', hf', hc⟩ := h2 b ci' hb
      exact ⟨f', hf', by rw [List.getElem?_set_ne (Ne.symm hne), hc, fvs_congr (fun k => upM_ne hne)]⟩
  · have hne : b ≠ a := fun q => by subst q; rw [ha] at hb; cases hb
    obtain ⟨cA', t0, g1, g2, g3⟩ := h3 b t' n' hb
    exact ⟨cA', t0, g1, g2, by rw [List.getElem?_set_ne (Ne.symm hne), g3, acn_congr (fun k => upM_ne hne)]⟩
theorem fit_z {x : Int} (g : 0 ≤ x ∧ x ≤ 1) : fits .boolean (.int (Int32.ofInt x)) = true := by
  have : x = 0 ∨ x = 1 := by omega
  rcases this with rfl | rfl <;> rfl
theorem nar_z {x : Int} (g : 0 ≤ x ∧ x ≤ 1) : narrow .boolean (.int (Int32.ofInt x)) = .int (Int32.ofInt x) := by
  have : x = 0 ∨ x = 1 := by omega
  rcases this with rfl | rfl <;> rfl
theorem nar_b {v : Int} (g : inB v) : vp_nar .byte (Int32.ofInt v) = Int32.ofInt v := by
  rw [vp_nar_byte]
  apply Int32.toInt_inj.mp
  rw [Int8.toInt_toInt32, Int32.toInt_toInt8, i32_of (by omega)]
  exact Int.bmod_eq_of_le (by omega) (by omega)
theorem updI {h : mM} {a : Nat} {i x : Int} {n : Nat} (hi : inA i n) : upd (fun j => Int32.ofInt (h a (j : Int))) i.toNat (Int32.ofInt x) = fun j : Nat => Int32.ofInt (upM h a i x a (j : Int)) := by
  funext q
  unfold upM upd
  by_cases e : q = i.toNat
  · rw [if_pos e, if_pos ⟨rfl, by omega⟩]
  · rw [if_neg e, if_neg (fun z => e (by omega))]
theorem updL {h : mM} {a : Nat} {i x : Int} {n : Nat} (hi : inA i n) : vp_updL (fun j => Int64.ofInt (h a (j : Int))) i.toNat (Int64.ofInt x) = fun j : Nat => Int64.ofInt (upM h a i x a (j : Int)) := by
  funext q
  unfold upM vp_updL
  by_cases e : q = i.toNat
  · rw [if_pos e, if_pos ⟨rfl, by omega⟩]
  · rw [if_neg e, if_neg (fun z => e (by omega))]
section
variable {p : Program} {l : Launch} {e : Env} {Rm : Room} {s : State} {m : MethodId} {args : Array Value} {below : List Frame} {meth : Method} {c : Code} {cc : ByteArray} {D : va_G} {A : Nat → Prop} {tys : List (ClassId × FieldType)} {ad aC : Nat → Nat} {nL cells slots : Nat} {Q : State → Prop} {pcs : List Nat} {S : mSh} {r : mRf} {j nx : Nat} {ls st : List mv} {h : mM}
theorem go_istore (hx : p.tables.exec = Jvm.exec) (hb : c.code = cc) {i : Nat} {x : Int} {ls' : List mv} (hR : StR (mI x) i ls ls') (hd : Dc cc pcs j (.istore i) 2 nx) (k : Go (fun H locs pc la sv => W p l e Rm s m args below meth c H locs cells slots Q (F0 m pc la sv)) D A tys ad aC nL s pcs S r (nx) (ls') (st) (h)) : Go (fun H locs pc la sv => W p l e Rm s m args below meth c H locs cells slots Q (F0 m pc la sv)) D A tys ad aC nL s pcs S r (j) (ls) (mI x :: st) (h) := by
  intro ws H locs la pc hpc hL hl hs hm hw hP hD hS hv
  obtain ⟨pc0, h1, hdg, h2⟩ := hd
  cases hpc.symm.trans h1
  exact lv_istore hx hb hdg hv (by rw [← hL]; exact hR.2.1) rfl (fun la9 hv9 => k ws H locs la9 _ h2 (hR.1.trans hL) (hR.ok (hs _ List.mem_cons_self) hl) (fun v9 hv9 => hs _ (List.mem_cons_of_mem _ hv9)) hm hw hP hD hS (StR.has hR hv9))
theorem go_istore_n (hx : p.tables.exec = Jvm.exec) (hb : c.code = cc) {i : Nat} {x : Int} {ls' : List mv} (hR : StR (mI x) i ls ls') {f : Fin 4} (hf : (f : Nat) = i) (hd : Dc cc pcs j (.istore_n f) 1 nx) (k : Go (fun H locs pc la sv => W p l e Rm s m args below meth c H locs cells slots Q (F0 m pc la sv)) D A tys ad aC nL s pcs S r (nx) (ls') (st) (h)) : Go (fun H locs pc la sv => W p l e Rm s m args below meth c H locs cells slots Q (F0 m pc la sv)) D A tys ad aC nL s pcs S r (j) (ls) (mI x :: st) (h) := by
  intro ws H locs la pc hpc hL hl hs hm hw hP hD hS hv
  obtain ⟨pc0, h1, hdg, h2⟩ := hd
  cases hpc.symm.trans h1
  exact lv_istore_n hx hb hdg hf hv (by rw [← hL]; exact hR.2.1) rfl (fun la9 hv9 => k ws H locs la9 _ h2 (hR.1.trans hL) (hR.ok (hs _ List.mem_cons_self) hl) (fun v9 hv9 => hs _ (List.mem_cons_of_mem _ hv9)) hm hw hP hD hS (StR.has hR hv9))
theorem go_astore (hx : p.tables.exec = Jvm.exec) (hb : c.code = cc) {i : Nat} {x : Nat} {ls' : List mv} (hR : StR (mR x) i ls ls') (hd : Dc cc pcs j (.astore i) 2 nx) (k : Go (fun H locs pc la sv => W p l e Rm s m args below meth c H locs cells slots Q (F0 m pc la sv)) D A tys ad aC nL s pcs S r (nx) (ls') (st) (h)) : Go (fun H locs pc la sv => W p l e Rm s m args below meth c H locs cells slots Q (F0 m pc la sv)) D A tys ad aC nL s pcs S r (j) (ls) (mR x :: st) (h) := by
  intro ws H locs la pc hpc hL hl hs hm hw hP hD hS hv
  obtain ⟨pc0, h1, hdg, h2⟩ := hd
  cases hpc.symm.trans h1
  exact lv_astore hx hb hdg hv (by rw [← hL]; exact hR.2.1) rfl (fun la9 hv9 => k ws H locs la9 _ h2 (hR.1.trans hL) (hR.ok (hs _ List.mem_cons_self) hl) (fun v9 hv9 => hs _ (List.mem_cons_of_mem _ hv9)) hm hw hP hD hS (StR.has hR hv9))
theorem go_astore_n (hx : p.tables.exec = Jvm.exec) (hb : c.code = cc) {i : Nat} {x : Nat} {ls' : List mv} (hR : StR (mR x) i ls ls') {f : Fin 4} (hf : (f : Nat) = i) (hd : Dc cc pcs j (.astore_n f) 1 nx) (k : Go (fun H locs pc la sv => W p l e Rm s m args below meth c H locs cells slots Q (F0 m pc la sv)) D A tys ad aC nL s pcs S r (nx) (ls') (st) (h)) : Go (fun H locs pc la sv => W p l e Rm s m args below meth c H locs cells slots Q (F0 m pc la sv)) D A tys ad aC nL s pcs S r (j) (ls) (mR x :: st) (h) := by
  intro ws H locs la pc hpc hL hl hs hm hw hP hD hS hv
  obtain ⟨pc0, h1, hdg, h2⟩ := hd
  cases hpc.symm.trans h1
  exact lv_astore_n hx hb hdg hf hv (by rw [← hL]; exact hR.2.1) rfl (fun la9 hv9 => k ws H locs la9 _ h2 (hR.1.trans hL) (hR.ok (hs _ List.mem_cons_self) hl) (fun v9 hv9 => hs _ (List.mem_cons_of_mem _ hv9)) hm hw hP hD hS (StR.has hR hv9))
theorem go_lstore (hx : p.tables.exec = Jvm.exec) (hb : c.code = cc) {i : Nat} {x : Int} {ls' : List mv} (hR : StR (mL x) i ls ls' ∧ nth ls' (i + 1) = some (mC 0)) (hd : Dc cc pcs j (.lstore i) 2 nx) (k : Go (fun H locs pc la sv => W p l e Rm s m args below meth c H locs cells slots Q (F0 m pc la sv)) D A tys ad aC nL s pcs S r (nx) (ls') (st) (h)) : Go (fun H locs pc la sv => W p l e Rm s m args below meth c H locs cells slots Q (F0 m pc la sv)) D A tys ad aC nL s pcs S r (j) (ls) (mL x :: st) (h) := by
  intro ws H locs la pc hpc hL hl hs hm hw hP hD hS hv
  obtain ⟨pc0, h1, hdg, h2⟩ := hd
  cases hpc.symm.trans h1
  exact lv_lstore hx hb hdg hv (by have q1 := nth_lt hR.2; have q2 := hR.1.1; omega) rfl (fun la9 hv9 => k ws H locs la9 _ h2 (hR.1.1.trans hL) (hR.1.ok (hs _ List.mem_cons_self) hl) (fun v9 hv9 => hs _ (List.mem_cons_of_mem _ hv9)) hm hw hP hD hS (StR.hasL hR hv9))
theorem go_lstore_n (hx : p.tables.exec = Jvm.exec) (hb : c.code = cc) {i : Nat} {x : Int} {ls' : List mv} (hR : StR (mL x) i ls ls' ∧ nth ls' (i + 1) = some (mC 0)) {f : Fin 4} (hf : (f : Nat) = i) (hd : Dc cc pcs j (.lstore_n f) 1 nx) (k : Go (fun H locs pc la sv => W p l e Rm s m args below meth c H locs cells slots Q (F0 m pc la sv)) D A tys ad aC nL s pcs S r (nx) (ls') (st) (h)) : Go (fun H locs pc la sv => W p l e Rm s m args below meth c H locs cells slots Q (F0 m pc la sv)) D A tys ad aC nL s pcs S r (j) (ls) (mL x :: st) (h) := by
  intro ws H locs la pc hpc hL hl hs hm hw hP hD hS hv
  obtain ⟨pc0, h1, hdg, h2⟩ := hd
  cases hpc.symm.trans h1
  exact lv_lstore_n hx hb hdg hf hv (by have q1 := nth_lt hR.2; have q2 := hR.1.1; omega) rfl (fun la9 hv9 => k ws H locs la9 _ h2 (hR.1.1.trans hL) (hR.1.ok (hs _ List.mem_cons_self) hl) (fun v9 hv9 => hs _ (List.mem_cons_of_mem _ hv9)) hm hw hP hD hS (StR.hasL hR hv9))
theorem go_iinc (hx : p.tables.exec = Jvm.exec) (hb : c.code = cc) {i : Nat} {n x : Int} {ls' : List mv} (hk : nth ls i = some (mI x)) (g : inI (x + n)) (hR : StR (mI (x + n)) i ls ls') (hd : Dc cc pcs j (.iinc i n) 3 nx) (k : Go (fun H locs pc la sv => W p l e Rm s m args below meth c H locs cells slots Q (F0 m pc la sv)) D A tys ad aC nL s pcs S r (nx) (ls') (st) (h)) : Go (fun H locs pc la sv => W p l e Rm s m args below meth c H locs cells slots Q (F0 m pc la sv)) D A tys ad aC nL s pcs S r (j) (ls) (st) (h) := by
  intro ws H locs la pc hpc hL hl hs hm hw hP hD hS hv
  obtain ⟨pc0, h1, hdg, h2⟩ := hd
  cases hpc.symm.trans h1
  obtain ⟨q9, hq9⟩ := List.getElem?_of_mem (mem_asc (ad := ad) (aC := aC) (i := 0).mpr ⟨i, _, hk, (fun q => nomatch q), rfl⟩)
  rw [Nat.zero_add] at hq9
  exact lv_iinc hx hb hdg hv hq9 (Int32.ofInt_add ..).symm (by rw [← hL]; exact hR.2.1) rfl (fun la9 hv9 => k ws H locs la9 _ h2 (hR.1.trans hL) (hR.ok g hl) hs hm hw hP hD hS (StR.has hR hv9))
theorem cmp_eq {x y : Int} (hx : inL x) (hy : inL y) : lg_cmp (Int64.ofInt x) (Int64.ofInt y) = Int32.ofInt (if x < y then -1 else if x = y then 0 else 1) := by
  unfold lg_cmp
  by_cases h1 : y < x
  · have h9 : ¬ x < y := by omega
    have h8 : ¬ x = y := by omega
    rw [if_neg h9, if_neg h8]
    simp [(i64_lt hy hx).mpr h1]
  · have g1 : ¬ Int64.ofInt y < Int64.ofInt x := fun q => h1 ((i64_lt hy hx).mp q)
    by_cases h2 : x = y
    · subst h2
      simp
    · have h3 : x < y := by omega
      rw [if_pos h3]
      have g2 : ¬ Int64.ofInt x = Int64.ofInt y := fun q => h2 ((i64_eq hx hy).mp q)
      simp [g1, g2]
theorem go_lcmp_eq (hx : p.tables.exec = Jvm.exec) (hb : c.code = cc) {j1 nx0 : Nat} {x y : Int} {off : Int} {t tg : Nat} (hd0 : Dc cc pcs j .lcmp 1 j1) (hd1 : Dc cc pcs j1 (.ifCond .eq off) 3 nx) (ht : nth pcs t = some tg) (ho : ∀ pc : Nat, nth pcs j1 = some pc → (pc : Int) + off = (tg : Int)) (kt : x = y → Go (fun H locs pc la sv => W p l e Rm s m args below meth c H locs cells slots Q (F0 m pc la sv)) D A tys ad aC nL s pcs S r (t) (ls) (st) (h)) (kf : ¬ x = y → Go (fun H locs pc la sv => W p l e Rm s m args below meth c H locs cells slots Q (F0 m pc la sv)) D A tys ad aC nL s pcs S r (nx) (ls) (st) (h)) : Go (fun H locs pc la sv => W p l e Rm s m args below meth c H locs cells slots Q (F0 m pc la sv)) D A tys ad aC nL s pcs S r (j) (ls) (mL y :: mL x :: st) (h) := by
  have hd := hd0
  intro ws H locs la pc hpc hL hl hs hm hw hP hD hS hv
  obtain ⟨pc0, h1, hdg, h2⟩ := hd
  cases hpc.symm.trans h1
  have hs9 : ∀ v ∈ st, vOk S.length v := fun v9 hv9 => hs _ (List.mem_cons_of_mem _ (List.mem_cons_of_mem _ hv9))
  have hx9 : inL x := hs _ (List.mem_cons_of_mem _ List.mem_cons_self)
  have hy9 : inL y := hs _ List.mem_cons_self
  refine W.lcmp hx hb hdg ?_
  rw [cmp_eq hx9 hy9]
  have k9 : Go (fun H locs pc la sv => W p l e Rm s m args below meth c H locs cells slots Q (F0 m pc la sv)) D A tys ad aC nL s pcs S r (j1) (ls) (mI (if x < y then -1 else if x = y then 0 else 1) :: st) (h) := go_if_eq hx hb hd1 ht ho (fun q => kt (by (repeat' split at q) <;> omega)) (fun q => kf (by (repeat' split at q) <;> omega))
  exact k9 ws H locs la _ h2 hL hl (fun v9 hv9 => by
    rcases List.mem_cons.mp hv9 with rfl | hv9
    · show inI _
      (repeat' split) <;> omega
    · exact hs9 _ hv9) hm hw hP hD hS hv
theorem go_lcmp_ne (hx : p.tables.exec = Jvm.exec) (hb : c.code = cc) {j1 nx0 : Nat} {x y : Int} {off : Int} {t tg : Nat} (hd0 : Dc cc pcs j .lcmp 1 j1) (hd1 : Dc cc pcs j1 (.ifCond .ne off) 3 nx) (ht : nth pcs t = some tg) (ho : ∀ pc : Nat, nth pcs j1 = some pc → (pc : Int) + off = (tg : Int)) (kt : ¬ x = y → Go (fun H locs pc la sv => W p l e Rm s m args below meth c H locs cells slots Q (F0 m pc la sv)) D A tys ad aC nL s pcs S r (t) (ls) (st) (h)) (kf : x = y → Go (fun H locs pc la sv => W p l e Rm s m args below meth c H locs cells slots Q (F0 m pc la sv)) D A tys ad aC nL s pcs S r (nx) (ls) (st) (h)) : Go (fun H locs pc la sv => W p l e Rm s m args below meth c H locs cells slots Q (F0 m pc la sv)) D A tys ad aC nL s pcs S r (j) (ls) (mL y :: mL x :: st) (h) := by
  have hd := hd0
  intro ws H locs la pc hpc hL hl hs hm hw hP hD hS hv
  obtain ⟨pc0, h1, hdg, h2⟩ := hd
  cases hpc.symm.trans h1
  have hs9 : ∀ v ∈ st, vOk S.length v := fun v9 hv9 => hs _ (List.mem_cons_of_mem _ (List.mem_cons_of_mem _ hv9))
  have hx9 : inL x := hs _ (List.mem_cons_of_mem _ List.mem_cons_self)
  have hy9 : inL y := hs _ List.mem_cons_self
  refine W.lcmp hx hb hdg ?_
  rw [cmp_eq hx9 hy9]
  have k9 : Go (fun H locs pc la sv => W p l e Rm s m args below meth c H locs cells slots Q (F0 m pc la sv)) D A tys ad aC nL s pcs S r (j1) (ls) (mI (if x < y then -1 else if x = y then 0 else 1) :: st) (h) := go_if_ne hx hb hd1 ht ho (fun q => kt (by (repeat' split at q) <;> omega)) (fun q => kf (by (repeat' split at q) <;> omega))
  exact k9 ws H locs la _ h2 hL hl (fun v9 hv9 => by
    rcases List.mem_cons.mp hv9 with rfl | hv9
    · show inI _
      (repeat' split) <;> omega
    · exact hs9 _ hv9) hm hw hP hD hS hv
theorem go_lcmp_lt (hx : p.tables.exec = Jvm.exec) (hb : c.code = cc) {j1 nx0 : Nat} {x y : Int} {off : Int} {t tg : Nat} (hd0 : Dc cc pcs j .lcmp 1 j1) (hd1 : Dc cc pcs j1 (.ifCond .lt off) 3 nx) (ht : nth pcs t = some tg) (ho : ∀ pc : Nat, nth pcs j1 = some pc → (pc : Int) + off = (tg : Int)) (kt : x < y → Go (fun H locs pc la sv => W p l e Rm s m args below meth c H locs cells slots Q (F0 m pc la sv)) D A tys ad aC nL s pcs S r (t) (ls) (st) (h)) (kf : ¬ x < y → Go (fun H locs pc la sv => W p l e Rm s m args below meth c H locs cells slots Q (F0 m pc la sv)) D A tys ad aC nL s pcs S r (nx) (ls) (st) (h)) : Go (fun H locs pc la sv => W p l e Rm s m args below meth c H locs cells slots Q (F0 m pc la sv)) D A tys ad aC nL s pcs S r (j) (ls) (mL y :: mL x :: st) (h) := by
  have hd := hd0
  intro ws H locs la pc hpc hL hl hs hm hw hP hD hS hv
  obtain ⟨pc0, h1, hdg, h2⟩ := hd
  cases hpc.symm.trans h1
  have hs9 : ∀ v ∈ st, vOk S.length v := fun v9 hv9 => hs _ (List.mem_cons_of_mem _ (List.mem_cons_of_mem _ hv9))
  have hx9 : inL x := hs _ (List.mem_cons_of_mem _ List.mem_cons_self)
  have hy9 : inL y := hs _ List.mem_cons_self
  refine W.lcmp hx hb hdg ?_
  rw [cmp_eq hx9 hy9]
  have k9 : Go (fun H locs pc la sv => W p l e Rm s m args below meth c H locs cells slots Q (F0 m pc la sv)) D A tys ad aC nL s pcs S r (j1) (ls) (mI (if x < y then -1 else if x = y then 0 else 1) :: st) (h) := go_if_lt hx hb hd1 ht ho (fun q => kt (by (repeat' split at q) <;> omega)) (fun q => kf (by (repeat' split at q) <;> omega))
  exact k9 ws H locs la _ h2 hL hl (fun v9 hv9 => by
    rcases List.mem_cons.mp hv9 with rfl | hv9
    · show inI _
      (repeat' split) <;> omega
    · exact hs9 _ hv9) hm hw hP hD hS hv
theorem go_lcmp_ge (hx : p.tables.exec = Jvm.exec) (hb : c.code = cc) {j1 nx0 : Nat} {x y : Int} {off : Int} {t tg : Nat} (hd0 : Dc cc pcs j .lcmp 1 j1) (hd1 : Dc cc pcs j1 (.ifCond .ge off) 3 nx) (ht : nth pcs t = some tg) (ho : ∀ pc : Nat, nth pcs j1 = some pc → (pc : Int) + off = (tg : Int)) (kt : ¬ x < y → Go (fun H locs pc la sv => W p l e Rm s m args below meth c H locs cells slots Q (F0 m pc la sv)) D A tys ad aC nL s pcs S r (t) (ls) (st) (h)) (kf : x < y → Go (fun H locs pc la sv => W p l e Rm s m args below meth c H locs cells slots Q (F0 m pc la sv)) D A tys ad aC nL s pcs S r (nx) (ls) (st) (h)) : Go (fun H locs pc la sv => W p l e Rm s m args below meth c H locs cells slots Q (F0 m pc la sv)) D A tys ad aC nL s pcs S r (j) (ls) (mL y :: mL x :: st) (h) := by
  have hd := hd0
  intro ws H locs la pc hpc hL hl hs hm hw hP hD hS hv
  obtain ⟨pc0, h1, hdg, h2⟩ := hd
  cases hpc.symm.trans h1
  have hs9 : ∀ v ∈ st, vOk S.length v := fun v9 hv9 => hs _ (List.mem_cons_of_mem _ (List.mem_cons_of_mem _ hv9))
  have hx9 : inL x := hs _ (List.mem_cons_of_mem _ List.mem_cons_self)
  have hy9 : inL y := hs _ List.mem_cons_self
  refine W.lcmp hx hb hdg ?_
  rw [cmp_eq hx9 hy9]
  have k9 : Go (fun H locs pc la sv => W p l e Rm s m args below meth c H locs cells slots Q (F0 m pc la sv)) D A tys ad aC nL s pcs S r (j1) (ls) (mI (if x < y then -1 else if x = y then 0 else 1) :: st) (h) := go_if_ge hx hb hd1 ht ho (fun q => kt (by (repeat' split at q) <;> omega)) (fun q => kf (by (repeat' split at q) <;> omega))
  exact k9 ws H locs la _ h2 hL hl (fun v9 hv9 => by
    rcases List.mem_cons.mp hv9 with rfl | hv9
    · show inI _
      (repeat' split) <;> omega
    · exact hs9 _ hv9) hm hw hP hD hS hv
theorem go_lcmp_gt (hx : p.tables.exec = Jvm.exec) (hb : c.code = cc) {j1 nx0 : Nat} {x y : Int} {off : Int} {t tg : Nat} (hd0 : Dc cc pcs j .lcmp 1 j1) (hd1 : Dc cc pcs j1 (.ifCond .gt off) 3 nx) (ht : nth pcs t = some tg) (ho : ∀ pc : Nat, nth pcs j1 = some pc → (pc : Int) + off = (tg : Int)) (kt : y < x → Go (fun H locs pc la sv => W p l e Rm s m args below meth c H locs cells slots Q (F0 m pc la sv)) D A tys ad aC nL s pcs S r (t) (ls) (st) (h)) (kf : ¬ y < x → Go (fun H locs pc la sv => W p l e Rm s m args below meth c H locs cells slots Q (F0 m pc la sv)) D A tys ad aC nL s pcs S r (nx) (ls) (st) (h)) : Go (fun H locs pc la sv => W p l e Rm s m args below meth c H locs cells slots Q (F0 m pc la sv)) D A tys ad aC nL s pcs S r (j) (ls) (mL y :: mL x :: st) (h) := by
  have hd := hd0
  intro ws H locs la pc hpc hL hl hs hm hw hP hD hS hv
  obtain ⟨pc0, h1, hdg, h2⟩ := hd
  cases hpc.symm.trans h1
  have hs9 : ∀ v ∈ st, vOk S.length v := fun v9 hv9 => hs _ (List.mem_cons_of_mem _ (List.mem_cons_of_mem _ hv9))
  have hx9 : inL x := hs _ (List.mem_cons_of_mem _ List.mem_cons_self)
  have hy9 : inL y := hs _ List.mem_cons_self
  refine W.lcmp hx hb hdg ?_
  rw [cmp_eq hx9 hy9]
  have k9 : Go (fun H locs pc la sv => W p l e Rm s m args below meth c H locs cells slots Q (F0 m pc la sv)) D A tys ad aC nL s pcs S r (j1) (ls) (mI (if x < y then -1 else if x = y then 0 else 1) :: st) (h) := go_if_gt hx hb hd1 ht ho (fun q => kt (by (repeat' split at q) <;> omega)) (fun q => kf (by (repeat' split at q) <;> omega))
  exact k9 ws H locs la _ h2 hL hl (fun v9 hv9 => by
    rcases List.mem_cons.mp hv9 with rfl | hv9
    · show inI _
      (repeat' split) <;> omega
    · exact hs9 _ hv9) hm hw hP hD hS hv
theorem go_lcmp_le (hx : p.tables.exec = Jvm.exec) (hb : c.code = cc) {j1 nx0 : Nat} {x y : Int} {off : Int} {t tg : Nat} (hd0 : Dc cc pcs j .lcmp 1 j1) (hd1 : Dc cc pcs j1 (.ifCond .le off) 3 nx) (ht : nth pcs t = some tg) (ho : ∀ pc : Nat, nth pcs j1 = some pc → (pc : Int) + off = (tg : Int)) (kt : ¬ y < x → Go (fun H locs pc la sv => W p l e Rm s m args below meth c H locs cells slots Q (F0 m pc la sv)) D A tys ad aC nL s pcs S r (t) (ls) (st) (h)) (kf : y < x → Go (fun H locs pc la sv => W p l e Rm s m args below meth c H locs cells slots Q (F0 m pc la sv)) D A tys ad aC nL s pcs S r (nx) (ls) (st) (h)) : Go (fun H locs pc la sv => W p l e Rm s m args below meth c H locs cells slots Q (F0 m pc la sv)) D A tys ad aC nL s pcs S r (j) (ls) (mL y :: mL x :: st) (h) := by
  have hd := hd0
  intro ws H locs la pc hpc hL hl hs hm hw hP hD hS hv
  obtain ⟨pc0, h1, hdg, h2⟩ := hd
  cases hpc.symm.trans h1
  have hs9 : ∀ v ∈ st, vOk S.length v := fun v9 hv9 => hs _ (List.mem_cons_of_mem _ (List.mem_cons_of_mem _ hv9))
  have hx9 : inL x := hs _ (List.mem_cons_of_mem _ List.mem_cons_self)
  have hy9 : inL y := hs _ List.mem_cons_self
  refine W.lcmp hx hb hdg ?_
  rw [cmp_eq hx9 hy9]
  have k9 : Go (fun H locs pc la sv => W p l e Rm s m args below meth c H locs cells slots Q (F0 m pc la sv)) D A tys ad aC nL s pcs S r (j1) (ls) (mI (if x < y then -1 else if x = y then 0 else 1) :: st) (h) := go_if_le hx hb hd1 ht ho (fun q => kt (by (repeat' split at q) <;> omega)) (fun q => kf (by (repeat' split at q) <;> omega))
  exact k9 ws H locs la _ h2 hL hl (fun v9 hv9 => by
    rcases List.mem_cons.mp hv9 with rfl | hv9
    · show inI _
      (repeat' split) <;> omega
    · exact hs9 _ hv9) hm hw hP hD hS hv
theorem go_getI (hx : p.tables.exec = Jvm.exec) (hb : c.code = cc) {own ref C : String} {T : u_T} {N ci i kf ty : Nat} {f : List Nat} {a : Nat} (hts : ∀ w ∈ lw_g, w.before args s = true) (hin : ∀ w ∈ u_ws C T N, w ∈ lw_g) (hown : s.vm.findClass own = some m.cls) (hK : va_K D vwCl tys s) (hc : vwCl[ci]? = some (C, T, N)) (hf : nth FT ci = some f) (ht : nth f kf = some ty) (hkN : kf < N) (hlink : (Cond.fieldLink own i ref (T kf).2.1 (T kf).2.2.1).before args s = true) (hsame : ref = (T kf).1) (ho : nth S a = some (.inl ci)) (h0 : ty ≠ 1 ∧ ty ≠ 2) (hd : Dc cc pcs j (.getfield i) 3 nx) (k : Go (fun H locs pc la sv => W p l e Rm s m args below meth c H locs cells slots Q (F0 m pc la sv)) D A tys ad aC nL s pcs S r (nx) (ls) (mI (h a (kf : Int)) :: st) (h)) : Go (fun H locs pc la sv => W p l e Rm s m args below meth c H locs cells slots Q (F0 m pc la sv)) D A tys ad aC nL s pcs S r (j) (ls) (mR a :: st) (h) := by
  intro ws H locs la pc hpc hL hl hs hm hw hP hD hS hv
  obtain ⟨pc0, h1, hdg, h2⟩ := hd
  cases hpc.symm.trans h1
  obtain ⟨f9, hf9, hc9⟩ := hw.2.1 a ci ho
  cases hf.symm.trans hf9
  exact va_get (D := D) (v := .int (Int32.ofInt (h a (kf : Int)))) hx hb hts hin hown hK hP a hc9 hc kf hkN hlink (fun x q => by rw [hsame]; exact q) (by rw [fvs_get ht, Nat.zero_add]; unfold fvl; split <;> simp_all) hdg (k ws H locs la _ h2 hL hl (fun v9 hv9 => by rcases List.mem_cons.mp hv9 with rfl | hv9; exact (hm.2.1 a kf (by unfold isL; rw [ho]; simp only [hf, Int.toNat_natCast, ht]; split <;> simp_all)); exact hs _ (List.mem_cons_of_mem _ hv9)) hm hw hP hD hS hv)
theorem go_getL (hx : p.tables.exec = Jvm.exec) (hb : c.code = cc) {own ref C : String} {T : u_T} {N ci i kf ty : Nat} {f : List Nat} {a : Nat} (hts : ∀ w ∈ lw_g, w.before args s = true) (hin : ∀ w ∈ u_ws C T N, w ∈ lw_g) (hown : s.vm.findClass own = some m.cls) (hK : va_K D vwCl tys s) (hc : vwCl[ci]? = some (C, T, N)) (hf : nth FT ci = some f) (ht : nth f kf = some ty) (hkN : kf < N) (hlink : (Cond.fieldLink own i ref (T kf).2.1 (T kf).2.2.1).before args s = true) (hsame : ref = (T kf).1) (ho : nth S a = some (.inl ci)) (h0 : ty = 1) (hd : Dc cc pcs j (.getfield i) 3 nx) (k : Go (fun H locs pc la sv => W p l e Rm s m args below meth c H locs cells slots Q (F0 m pc la sv)) D A tys ad aC nL s pcs S r (nx) (ls) (mL (h a (kf : Int)) :: st) (h)) : Go (fun H locs pc la sv => W p l e Rm s m args below meth c H locs cells slots Q (F0 m pc la sv)) D A tys ad aC nL s pcs S r (j) (ls) (mR a :: st) (h) := by
  intro ws H locs la pc hpc hL hl hs hm hw hP hD hS hv
  obtain ⟨pc0, h1, hdg, h2⟩ := hd
  cases hpc.symm.trans h1
  obtain ⟨f9, hf9, hc9⟩ := hw.2.1 a ci ho
  cases hf.symm.trans hf9
  exact va_get (D := D) (v := .long (Int64.ofInt (h a (kf : Int)))) hx hb hts hin hown hK hP a hc9 hc kf hkN hlink (fun x q => by rw [hsame]; exact q) (by rw [fvs_get ht, Nat.zero_add, h0]; rfl) hdg (k ws H locs la _ h2 hL hl (fun v9 hv9 => by rcases List.mem_cons.mp hv9 with rfl | hv9; exact (hm.1 a kf); exact hs _ (List.mem_cons_of_mem _ hv9)) hm hw hP hD hS hv)
theorem go_getR (hx : p.tables.exec = Jvm.exec) (hb : c.code = cc) {own ref C : String} {T : u_T} {N ci i kf ty : Nat} {f : List Nat} {a : Nat} (hts : ∀ w ∈ lw_g, w.before args s = true) (hin : ∀ w ∈ u_ws C T N, w ∈ lw_g) (hown : s.vm.findClass own = some m.cls) (hK : va_K D vwCl tys s) (hc : vwCl[ci]? = some (C, T, N)) (hf : nth FT ci = some f) (ht : nth f kf = some ty) (hkN : kf < N) (hlink : (Cond.fieldLink own i ref (T kf).2.1 (T kf).2.2.1).before args s = true) (hsame : ref = (T kf).1) (ho : nth S a = some (.inl ci)) {b : Nat} (h0 : ty = 2) (hb0 : rfAt r a kf = some b) (hd : Dc cc pcs j (.getfield i) 3 nx) (k : Go (fun H locs pc la sv => W p l e Rm s m args below meth c H locs cells slots Q (F0 m pc la sv)) D A tys ad aC nL s pcs S r (nx) (ls) (mR b :: st) (h)) : Go (fun H locs pc la sv => W p l e Rm s m args below meth c H locs cells slots Q (F0 m pc la sv)) D A tys ad aC nL s pcs S r (j) (ls) (mR a :: st) (h) := by
  intro ws H locs la pc hpc hL hl hs hm hw hP hD hS hv
  obtain ⟨pc0, h1, hdg, h2⟩ := hd
  cases hpc.symm.trans h1
  obtain ⟨f9, hf9, hc9⟩ := hw.2.1 a ci ho
  cases hf.symm.trans hf9
  exact va_get (D := D) (v := .ref (ad b)) hx hb hts hin hown hK hP a hc9 hc kf hkN hlink (fun x q => by rw [hsame]; exact q) (by rw [fvs_get ht, Nat.zero_add, h0]; show some (va_rf ((rfAt r a kf).map ad)) = _; rw [hb0]; rfl) hdg (k ws H locs la _ h2 hL hl (fun v9 hv9 => by rcases List.mem_cons.mp hv9 with rfl | hv9; exact (hw.2.2.2 a kf b hb0); exact hs _ (List.mem_cons_of_mem _ hv9)) hm hw hP hD hS hv)
theorem go_putI (hx : p.tables.exec = Jvm.exec) (hb : c.code = cc) {x : Int} {own ref C : String} {T : u_T} {N ci i kf ty : Nat} {f : List Nat} {a : Nat} (hts : ∀ w ∈ lw_g, w.before args s = true) (hin : ∀ w ∈ u_ws C T N, w ∈ lw_g) (hown : s.vm.findClass own = some m.cls) (hK : va_K D vwCl tys s) (hc : vwCl[ci]? = some (C, T, N)) (hf : nth FT ci = some f) (ht : nth f kf = some ty) (hkN : kf < N) (hlink : (Cond.fieldLink own i ref (T kf).2.1 (T kf).2.2.1).before args s = true) (hsame : ref = (T kf).1) (ho : nth S a = some (.inl ci)) (ty0 : Nat → FieldType) (hty : ∀ k, k < N → parseFieldDescriptor (T k).2.2.1 = some (ty0 k)) (hnm : ∀ a, a < N → ∀ b, b < N → a ≠ b → (T a).2.1 ≠ (T b).2.1) (hfin : (T kf).2.2.2 = false) (h0 : ty = 0) (h00 : ty0 kf = .int) (hd : Dc cc pcs j (.putfield i) 3 nx) (k : Go (fun H locs pc la sv => W p l e Rm s m args below meth c H locs cells slots Q (F0 m pc la sv)) D A tys ad aC nL s pcs S r (nx) (ls) (st) (upM h a (kf : Int) x)) : Go (fun H locs pc la sv => W p l e Rm s m args below meth c H locs cells slots Q (F0 m pc la sv)) D A tys ad aC nL s pcs S r (j) (ls) (mI x :: mR a :: st) (h) := by
  intro ws H locs la pc hpc hL hl hs hm hw hP hD hS hv
  obtain ⟨pc0, h1, hdg, h2⟩ := hd
  cases hpc.symm.trans h1
  obtain ⟨f9, hf9, hc9⟩ := hw.2.1 a ci ho
  cases hf.symm.trans hf9
  have h9 : inI x := hs _ List.mem_cons_self
  have e9 := fvs_set (ad := ad) (r := r) (h := h) (a := a) (x := x) (j := kf) (i := 0) ht (by rw [h0]; decide) (Nat.zero_add kf).symm
  rw [if_neg (by rw [h0]; decide)] at e9
  refine va_put (D := D) (v := .int (Int32.ofInt x)) (ty := .int) hx hb hts hin ty0 hty hnm hown hK hP hD hS a hc9 hc kf hkN hlink (fun x q => by rw [hsame]; exact q) hfin (by rw [hty kf hkN, h00]) rfl rfl (by rw [fvs_len]; exact nth_lt ht) hdg (fun H1 locs1 hP1 hD1 hS1 => ?_)
  rw [← e9] at hP1 hD1
  exact k _ H1 locs1 la _ h2 hL hl (fun v9 hv9 => hs _ (List.mem_cons_of_mem _ (List.mem_cons_of_mem _ hv9))) (mOk_up hm (nth_lt ho) (inL_of h9) (fun _ => h9)) (Wld_obj hw ho hf) hP1 hD1 hS1 hv
theorem go_putL (hx : p.tables.exec = Jvm.exec) (hb : c.code = cc) {x : Int} {own ref C : String} {T : u_T} {N ci i kf ty : Nat} {f : List Nat} {a : Nat} (hts : ∀ w ∈ lw_g, w.before args s = true) (hin : ∀ w ∈ u_ws C T N, w ∈ lw_g) (hown : s.vm.findClass own = some m.cls) (hK : va_K D vwCl tys s) (hc : vwCl[ci]? = some (C, T, N)) (hf : nth FT ci = some f) (ht : nth f kf = some ty) (hkN : kf < N) (hlink : (Cond.fieldLink own i ref (T kf).2.1 (T kf).2.2.1).before args s = true) (hsame : ref = (T kf).1) (ho : nth S a = some (.inl ci)) (ty0 : Nat → FieldType) (hty : ∀ k, k < N → parseFieldDescriptor (T k).2.2.1 = some (ty0 k)) (hnm : ∀ a, a < N → ∀ b, b < N → a ≠ b → (T a).2.1 ≠ (T b).2.1) (hfin : (T kf).2.2.2 = false) (h0 : ty = 1) (h00 : ty0 kf = .long) (hd : Dc cc pcs j (.putfield i) 3 nx) (k : Go (fun H locs pc la sv => W p l e Rm s m args below meth c H locs cells slots Q (F0 m pc la sv)) D A tys ad aC nL s pcs S r (nx) (ls) (st) (upM h a (kf : Int) x)) : Go (fun H locs pc la sv => W p l e Rm s m args below meth c H locs cells slots Q (F0 m pc la sv)) D A tys ad aC nL s pcs S r (j) (ls) (mL x :: mR a :: st) (h) := by
  intro ws H locs la pc hpc hL hl hs hm hw hP hD hS hv
  obtain ⟨pc0, h1, hdg, h2⟩ := hd
  cases hpc.symm.trans h1
  obtain ⟨f9, hf9, hc9⟩ := hw.2.1 a ci ho
  cases hf.symm.trans hf9
  have h9 : inL x := hs _ List.mem_cons_self
  have e9 := fvs_set (ad := ad) (r := r) (h := h) (a := a) (x := x) (j := kf) (i := 0) ht (by rw [h0]; decide) (Nat.zero_add kf).symm
  rw [if_pos h0] at e9
  refine va_put (D := D) (v := .long (Int64.ofInt x)) (ty := .long) hx hb hts hin ty0 hty hnm hown hK hP hD hS a hc9 hc kf hkN hlink (fun x q => by rw [hsame]; exact q) hfin (by rw [hty kf hkN, h00]) rfl rfl (by rw [fvs_len]; exact nth_lt ht) hdg (fun H1 locs1 hP1 hD1 hS1 => ?_)
  rw [← e9] at hP1 hD1
  exact k _ H1 locs1 la _ h2 hL hl (fun v9 hv9 => hs _ (List.mem_cons_of_mem _ (List.mem_cons_of_mem _ hv9))) (mOk_up hm (nth_lt ho) h9 (fun q => by exfalso; revert q; unfold isL; rw [ho]; simp [hf, ht, h0])) (Wld_obj hw ho hf) hP1 hD1 hS1 hv
theorem go_putZ (hx : p.tables.exec = Jvm.exec) (hb : c.code = cc) {x : Int} {own ref C : String} {T : u_T} {N ci i kf ty : Nat} {f : List Nat} {a : Nat} (hts : ∀ w ∈ lw_g, w.before args s = true) (hin : ∀ w ∈ u_ws C T N, w ∈ lw_g) (hown : s.vm.findClass own = some m.cls) (hK : va_K D vwCl tys s) (hc : vwCl[ci]? = some (C, T, N)) (hf : nth FT ci = some f) (ht : nth f kf = some ty) (hkN : kf < N) (hlink : (Cond.fieldLink own i ref (T kf).2.1 (T kf).2.2.1).before args s = true) (hsame : ref = (T kf).1) (ho : nth S a = some (.inl ci)) (ty0 : Nat → FieldType) (hty : ∀ k, k < N → parseFieldDescriptor (T k).2.2.1 = some (ty0 k)) (hnm : ∀ a, a < N → ∀ b, b < N → a ≠ b → (T a).2.1 ≠ (T b).2.1) (hfin : (T kf).2.2.2 = false) (h0 : ty = 3) (h00 : ty0 kf = .boolean) (g : 0 ≤ x ∧ x ≤ 1) (hd : Dc cc pcs j (.putfield i) 3 nx) (k : Go (fun H locs pc la sv => W p l e Rm s m args below meth c H locs cells slots Q (F0 m pc la sv)) D A tys ad aC nL s pcs S r (nx) (ls) (st) (upM h a (kf : Int) x)) : Go (fun H locs pc la sv => W p l e Rm s m args below meth c H locs cells slots Q (F0 m pc la sv)) D A tys ad aC nL s pcs S r (j) (ls) (mI x :: mR a :: st) (h) := by
  intro ws H locs la pc hpc hL hl hs hm hw hP hD hS hv
  obtain ⟨pc0, h1, hdg, h2⟩ := hd
  cases hpc.symm.trans h1
  obtain ⟨f9, hf9, hc9⟩ := hw.2.1 a ci ho
  cases hf.symm.trans hf9
  have h9 : inI x := hs _ List.mem_cons_self
  have e9 := fvs_set (ad := ad) (r := r) (h := h) (a := a) (x := x) (j := kf) (i := 0) ht (by rw [h0]; decide) (Nat.zero_add kf).symm
  rw [if_neg (by rw [h0]; decide)] at e9
  refine va_put (D := D) (v := .int (Int32.ofInt x)) (ty := .boolean) hx hb hts hin ty0 hty hnm hown hK hP hD hS a hc9 hc kf hkN hlink (fun x q => by rw [hsame]; exact q) hfin (by rw [hty kf hkN, h00]) (nar_z g) (fit_z g) (by rw [fvs_len]; exact nth_lt ht) hdg (fun H1 locs1 hP1 hD1 hS1 => ?_)
  rw [← e9] at hP1 hD1
  exact k _ H1 locs1 la _ h2 hL hl (fun v9 hv9 => hs _ (List.mem_cons_of_mem _ (List.mem_cons_of_mem _ hv9))) (mOk_up hm (nth_lt ho) (inL_of h9) (fun _ => h9)) (Wld_obj hw ho hf) hP1 hD1 hS1 hv
theorem go_iaload (hx : p.tables.exec = Jvm.exec) (hb : c.code = cc) {x : Int} {a n : Nat} (hK : va_K D vwCl tys s) (ho : nth S a = some (.inr (0, n))) (g : inA x n) (hd : Dc cc pcs j .iaload 1 nx) (k : Go (fun H locs pc la sv => W p l e Rm s m args below meth c H locs cells slots Q (F0 m pc la sv)) D A tys ad aC nL s pcs S r (nx) (ls) (mI (h a x) :: st) (h)) : Go (fun H locs pc la sv => W p l e Rm s m args below meth c H locs cells slots Q (F0 m pc la sv)) D A tys ad aC nL s pcs S r (j) (ls) (mI x :: mR a :: st) (h) := by
  intro ws H locs la pc hpc hL hl hs hm hw hP hD hS hv
  obtain ⟨pc0, h1, hdg, h2⟩ := hd
  cases hpc.symm.trans h1
  obtain ⟨cA, t0, g1, g2, g3⟩ := hw.2.2.1 a _ _ ho
  obtain ⟨i1, i2⟩ := inA_in (hs _ List.mem_cons_self) g
  have k9 := k ws H locs la _ h2 hL hl (fun v9 hv9 => by rcases List.mem_cons.mp hv9 with rfl | hv9; exact (hm.2.1 a x (by unfold isL; rw [ho]; rfl)); exact hs _ (List.mem_cons_of_mem _ (List.mem_cons_of_mem _ hv9))) hm hw hP hD hS hv
  refine va_iald hx hb hK hP a t0 g3 g1 i1 hdg ?_
  rw [i2, inA_cast g]
  exact k9
theorem go_laload (hx : p.tables.exec = Jvm.exec) (hb : c.code = cc) {x : Int} {a n : Nat} (hK : va_K D vwCl tys s) (ho : nth S a = some (.inr (1, n))) (g : inA x n) (hd : Dc cc pcs j .laload 1 nx) (k : Go (fun H locs pc la sv => W p l e Rm s m args below meth c H locs cells slots Q (F0 m pc la sv)) D A tys ad aC nL s pcs S r (nx) (ls) (mL (h a x) :: st) (h)) : Go (fun H locs pc la sv => W p l e Rm s m args below meth c H locs cells slots Q (F0 m pc la sv)) D A tys ad aC nL s pcs S r (j) (ls) (mI x :: mR a :: st) (h) := by
  intro ws H locs la pc hpc hL hl hs hm hw hP hD hS hv
  obtain ⟨pc0, h1, hdg, h2⟩ := hd
  cases hpc.symm.trans h1
  obtain ⟨cA, t0, g1, g2, g3⟩ := hw.2.2.1 a _ _ ho
  obtain ⟨i1, i2⟩ := inA_in (hs _ List.mem_cons_self) g
  have k9 := k ws H locs la _ h2 hL hl (fun v9 hv9 => by rcases List.mem_cons.mp hv9 with rfl | hv9; exact (hm.1 a x); exact hs _ (List.mem_cons_of_mem _ (List.mem_cons_of_mem _ hv9))) hm hw hP hD hS hv
  refine va_lald hx hb hK hP a t0 g3 g1 i1 hdg ?_
  rw [i2, inA_cast g]
  exact k9
theorem go_baload (hx : p.tables.exec = Jvm.exec) (hb : c.code = cc) {x : Int} {a n : Nat} (hK : va_K D vwCl tys s) (ho : nth S a = some (.inr (2, n))) (g : inA x n) (hd : Dc cc pcs j .baload 1 nx) (k : Go (fun H locs pc la sv => W p l e Rm s m args below meth c H locs cells slots Q (F0 m pc la sv)) D A tys ad aC nL s pcs S r (nx) (ls) (mI (h a x) :: st) (h)) : Go (fun H locs pc la sv => W p l e Rm s m args below meth c H locs cells slots Q (F0 m pc la sv)) D A tys ad aC nL s pcs S r (j) (ls) (mI x :: mR a :: st) (h) := by
  intro ws H locs la pc hpc hL hl hs hm hw hP hD hS hv
  obtain ⟨pc0, h1, hdg, h2⟩ := hd
  cases hpc.symm.trans h1
  obtain ⟨cA, t0, g1, g2, g3⟩ := hw.2.2.1 a _ _ ho
  obtain ⟨i1, i2⟩ := inA_in (hs _ List.mem_cons_self) g
  have k9 := k ws H locs la _ h2 hL hl (fun v9 hv9 => by rcases List.mem_cons.mp hv9 with rfl | hv9; exact (hm.2.1 a x (by unfold isL; rw [ho]; rfl)); exact hs _ (List.mem_cons_of_mem _ (List.mem_cons_of_mem _ hv9))) hm hw hP hD hS hv
  refine va_bald hx hb hK hP a t0 g3 g1 i1 hdg ?_
  rw [i2, inA_cast g]
  exact k9
theorem go_iastore (hx : p.tables.exec = Jvm.exec) (hb : c.code = cc) {v x : Int} {a n : Nat} (hK : va_K D vwCl tys s) (ho : nth S a = some (.inr (0, n))) (g : inA x n)  (hd : Dc cc pcs j .iastore 1 nx) (k : Go (fun H locs pc la sv => W p l e Rm s m args below meth c H locs cells slots Q (F0 m pc la sv)) D A tys ad aC nL s pcs S r (nx) (ls) (st) (upM h a x v)) : Go (fun H locs pc la sv => W p l e Rm s m args below meth c H locs cells slots Q (F0 m pc la sv)) D A tys ad aC nL s pcs S r (j) (ls) (mI v :: mI x :: mR a :: st) (h) := by
  intro ws H locs la pc hpc hL hl hs hm hw hP hD hS hv
  obtain ⟨pc0, h1, hdg, h2⟩ := hd
  cases hpc.symm.trans h1
  obtain ⟨cA, t0, g1, g2', g3⟩ := hw.2.2.1 a _ _ ho
  have h9 : inI v := hs _ List.mem_cons_self
  obtain ⟨i1, i2⟩ := inA_in (hs _ (List.mem_cons_of_mem _ List.mem_cons_self)) g
  have e9 := updI (h := h) (a := a) (x := v) g
  refine va_iast hx hb hK hP hD hS a t0 g3 g1 i1 hdg (fun H1 locs1 hP1 hD1 hS1 => ?_)
  rw [i2, e9] at hP1 hD1
  exact k _ H1 locs1 la _ h2 hL hl (fun v9 hv9 => hs _ (List.mem_cons_of_mem _ (List.mem_cons_of_mem _ (List.mem_cons_of_mem _ hv9)))) (mOk_up hm (nth_lt ho) (inL_of h9) (fun _ => h9)) (Wld_arr hw ho g3) hP1 hD1 hS1 hv
theorem go_lastore (hx : p.tables.exec = Jvm.exec) (hb : c.code = cc) {v x : Int} {a n : Nat} (hK : va_K D vwCl tys s) (ho : nth S a = some (.inr (1, n))) (g : inA x n)  (hd : Dc cc pcs j .lastore 1 nx) (k : Go (fun H locs pc la sv => W p l e Rm s m args below meth c H locs cells slots Q (F0 m pc la sv)) D A tys ad aC nL s pcs S r (nx) (ls) (st) (upM h a x v)) : Go (fun H locs pc la sv => W p l e Rm s m args below meth c H locs cells slots Q (F0 m pc la sv)) D A tys ad aC nL s pcs S r (j) (ls) (mL v :: mI x :: mR a :: st) (h) := by
  intro ws H locs la pc hpc hL hl hs hm hw hP hD hS hv
  obtain ⟨pc0, h1, hdg, h2⟩ := hd
  cases hpc.symm.trans h1
  obtain ⟨cA, t0, g1, g2', g3⟩ := hw.2.2.1 a _ _ ho
  have h9 : inL v := hs _ List.mem_cons_self
  obtain ⟨i1, i2⟩ := inA_in (hs _ (List.mem_cons_of_mem _ List.mem_cons_self)) g
  have e9 := updL (h := h) (a := a) (x := v) g
  refine va_last hx hb hK hP hD hS a t0 g3 g1 i1 hdg (fun H1 locs1 hP1 hD1 hS1 => ?_)
  rw [i2, e9] at hP1 hD1
  exact k _ H1 locs1 la _ h2 hL hl (fun v9 hv9 => hs _ (List.mem_cons_of_mem _ (List.mem_cons_of_mem _ (List.mem_cons_of_mem _ hv9)))) (mOk_up hm (nth_lt ho) h9 (fun q => by exfalso; revert q; unfold isL; rw [ho]; simp)) (Wld_arr hw ho g3) hP1 hD1 hS1 hv
theorem go_bastore (hx : p.tables.exec = Jvm.exec) (hb : c.code = cc) {v x : Int} {a n : Nat} (hK : va_K D vwCl tys s) (ho : nth S a = some (.inr (2, n))) (g : inA x n) (g2 : inB v) (hd : Dc cc pcs j .bastore 1 nx) (k : Go (fun H locs pc la sv => W p l e Rm s m args below meth c H locs cells slots Q (F0 m pc la sv)) D A tys ad aC nL s pcs S r (nx) (ls) (st) (upM h a x v)) : Go (fun H locs pc la sv => W p l e Rm s m args below meth c H locs cells slots Q (F0 m pc la sv)) D A tys ad aC nL s pcs S r (j) (ls) (mI v :: mI x :: mR a :: st) (h) := by
  intro ws H locs la pc hpc hL hl hs hm hw hP hD hS hv
  obtain ⟨pc0, h1, hdg, h2⟩ := hd
  cases hpc.symm.trans h1
  obtain ⟨cA, t0, g1, g2', g3⟩ := hw.2.2.1 a _ _ ho
  have h9 : inI v := hs _ List.mem_cons_self
  obtain ⟨i1, i2⟩ := inA_in (hs _ (List.mem_cons_of_mem _ List.mem_cons_self)) g
  have e9 := updI (h := h) (a := a) (x := v) g
  have n9 : vp_nar .byte (Int32.ofInt v) = Int32.ofInt v := nar_b g2
  refine va_bast hx hb hK hP hD hS a t0 g3 g1 i1 hdg (fun H1 locs1 hP1 hD1 hS1 => ?_)
  rw [i2, n9, e9] at hP1 hD1
  exact k _ H1 locs1 la _ h2 hL hl (fun v9 hv9 => hs _ (List.mem_cons_of_mem _ (List.mem_cons_of_mem _ (List.mem_cons_of_mem _ hv9)))) (mOk_up hm (nth_lt ho) (inL_of h9) (fun _ => h9)) (Wld_arr hw ho g3) hP1 hD1 hS1 hv
theorem go_aaload (hx : p.tables.exec = Jvm.exec) (hb : c.code = cc) {x : Int} {a n b t : Nat} {Cn : String} (hK : va_K D vwCl tys s) (ht : aty t = .object Cn) (h3 : 3 < t) (ho : nth S a = some (.inr (t, n))) (hb0 : rfAt r a x.toNat = some b) (g : inA x n) (hd : Dc cc pcs j .aaload 1 nx) (k : Go (fun H locs pc la sv => W p l e Rm s m args below meth c H locs cells slots Q (F0 m pc la sv)) D A tys ad aC nL s pcs S r (nx) (ls) (mR b :: st) (h)) : Go (fun H locs pc la sv => W p l e Rm s m args below meth c H locs cells slots Q (F0 m pc la sv)) D A tys ad aC nL s pcs S r (j) (ls) (mI x :: mR a :: st) (h) := by
  intro ws H locs la pc hpc hL hl hs hm hw hP hD hS hv
  obtain ⟨pc0, h1, hdg, h2⟩ := hd
  cases hpc.symm.trans h1
  obtain ⟨cA, t0, g1, g2, g3⟩ := hw.2.2.1 a _ _ ho
  obtain ⟨i1, i2⟩ := inA_in (hs _ List.mem_cons_self) g
  have k9 := k ws H locs la _ h2 hL hl (fun v9 hv9 => by rcases List.mem_cons.mp hv9 with rfl | hv9; exact (hw.2.2.2 a _ b hb0); exact hs _ (List.mem_cons_of_mem _ (List.mem_cons_of_mem _ hv9))) hm hw hP hD hS hv
  have e9 : acn ad r h a t = .inr (.inr (.inr (.inr (fun j => (rfAt r a j).map ad)))) := by
    unfold acn
    split <;> first | omega | rfl
  rw [e9] at g3
  rw [ht] at g1
  refine va_aldq hx hb hK hP a t0 g3 g1 i1 hdg ?_
  rw [i2]
  show W p l e Rm s m args below meth c H locs cells slots Q (F0 m (pc + 1) la (va_rf ((rfAt r a x.toNat).map ad) :: _))
  rw [hb0]
  exact k9
end
end
section
/-! SIM 3: constants, copies, Math, switches -/
/-- the world where the numbers of one array changed -/
theorem Wld_at {tys : List (ClassId × FieldType)} {ws : va_W} {ad : Nat → Nat} {S : mSh} {r : mRf} {h h' : mM} {b t n cA : Nat} (hw : Wld tys ws ad S r h) (hb : nth S b = some (.inr (t, n))) (hcl : ws[b]? = some (ad b, .inl (cA, n, acn ad r h b t))) (he : ∀ c k, c ≠ b → h' c k = h c k) : Wld tys (ws.set b (ad b, .inl (cA, n, acn ad r h' b t))) ad S r h' := by
  obtain ⟨h1, h2, h3, h4⟩ := hw
  have hl := (List.getElem?_eq_some_iff.mp hcl).1
  refine ⟨by rw [List.length_set]; exact h1, fun c ci hc => ?_, fun c t' n' hc => ?_, h4⟩
  · have hne : c ≠ b := fun q => by subst q; rw [hb] at hc; cases hc
    obtain ⟨f, hf, hq⟩ := h2 c ci hc
    exact ⟨f, hf, by rw [List.getElem?_set_ne (Ne.symm hne), hq, fvs_congr (fun k => he c k hne)]⟩
  · by_cases hne : c = b
    · subst hne
      rw [hb] at hc
      cases hc
      obtain ⟨cA', t0, g1, g2, g3⟩ := h3 c _ _ hb
      rw [hcl] at g3
      cases g3
      exact ⟨_, t0, g1, g2, by rw [List.getElem?_set_self hl]⟩
    · obtain ⟨cA', t0, g1, g2, g3⟩ := h3 c t' n' hc
      exact ⟨cA', t0, g1, g2, by rw [List.getElem?_set_ne (Ne.symm hne), g3, acn_congr (fun k => he c k hne)]⟩
theorem mCpy_ne {h : mM} {a b c : Nat} {i j n k : Int} (hc : c ≠ b) : mCpy h a i b j n c k = h c k := by
  unfold mCpy
  rw [if_neg (fun q => hc q.1)]
theorem mCpyC_ne {h : mM} {l : List Int} {b c : Nat} {i j n k : Int} (hc : c ≠ b) : mCpyC h l i b j n c k = h c k := by
  unfold mCpyC
  rw [if_neg (fun q => hc q.1)]
theorem cpyI {h : mM} {a b : Nat} {x y n : Int} (g : 0 ≤ n ∧ 0 ≤ x ∧ 0 ≤ y) : va_cpy (fun j : Nat => Int32.ofInt (h a (j : Int))) (fun j : Nat => Int32.ofInt (h b (j : Int))) x.toNat y.toNat n.toNat = fun j : Nat => Int32.ofInt (mCpy h a x b y n b (j : Int)) := by
  funext k
  unfold va_cpy mCpy
  by_cases e : y.toNat ≤ k ∧ k < y.toNat + n.toNat
  · have q : ((x.toNat + (k - y.toNat) : Nat) : Int) = x + ((k : Int) - y) := by omega
    rw [if_pos e, if_pos ⟨rfl, by omega, by omega⟩, ← q]
  · rw [if_neg e, if_neg (fun q => e (by omega))]
theorem cpyL {h : mM} {a b : Nat} {x y n : Int} (g : 0 ≤ n ∧ 0 ≤ x ∧ 0 ≤ y) : va_cpy (fun j : Nat => Int64.ofInt (h a (j : Int))) (fun j : Nat => Int64.ofInt (h b (j : Int))) x.toNat y.toNat n.toNat = fun j : Nat => Int64.ofInt (mCpy h a x b y n b (j : Int)) := by
  funext k
  unfold va_cpy mCpy
  by_cases e : y.toNat ≤ k ∧ k < y.toNat + n.toNat
  · have q : ((x.toNat + (k - y.toNat) : Nat) : Int) = x + ((k : Int) - y) := by omega
    rw [if_pos e, if_pos ⟨rfl, by omega, by omega⟩, ← q]
  · rw [if_neg e, if_neg (fun q => e (by omega))]
theorem cpyC {h : mM} {lk : List Int} {b : Nat} {x y n : Int} (g : 0 ≤ n ∧ 0 ≤ x ∧ 0 ≤ y) : va_cpy (fun j : Nat => Int32.ofInt ((nth lk j).getD 0)) (fun j : Nat => Int32.ofInt (h b (j : Int))) x.toNat y.toNat n.toNat = fun j : Nat => Int32.ofInt (mCpyC h lk x b y n b (j : Int)) := by
  funext k
  unfold va_cpy mCpyC
  by_cases e : y.toNat ≤ k ∧ k < y.toNat + n.toNat
  · rw [if_pos e, if_pos ⟨rfl, by omega, by omega⟩]
    congr 3
    omega
  · rw [if_neg e, if_neg (fun q => e (by omega))]
theorem isL_arr {S : mSh} {a t n : Nat} {k : Int} (h : nth S a = some (.inr (t, n))) (ht : t ≠ 1) : isL S a k = false := by
  unfold isL
  rw [h]
  split
  · next q => cases q
  · next q => cases q; exact absurd rfl ht
  · rfl
theorem isL_arr1 {S : mSh} {a n : Nat} {k : Int} (h : nth S a = some (.inr (1, n))) : isL S a k = true := by
  unfold isL
  rw [h]
  rfl
theorem mOk_cpy {S : mSh} {h : mM} {a b t na nb : Nat} {x y n : Int} (hm : mOk S h) (ha : nth S a = some (.inr (t, na))) (hb : nth S b = some (.inr (t, nb))) : mOk S (mCpy h a x b y n) := by
  refine ⟨fun c k => ?_, fun c k hc => ?_, fun c k hc => by rw [mCpy_ne (by have := nth_lt hb; omega)]; exact hm.2.2 c k hc⟩
  · unfold mCpy
    split
    · exact hm.1 _ _
    · exact hm.1 _ _
  · unfold mCpy
    split
    · next q =>
      refine hm.2.1 _ _ ?_
      by_cases ht : t = 1
      · subst ht
        rw [q.1, isL_arr1 hb] at hc
        cases hc
      · exact isL_arr ha ht
    · exact hm.2.1 _ _ hc
theorem cOk {lk : List Int} (h : ∀ v ∈ lk, inI v) (j : Nat) : inI ((nth lk j).getD 0) := by
  cases q : nth lk j with
  | none => exact ⟨by simp, by simp⟩
  | some v => exact h v (nth_mem q)
theorem mOk_cpyC {S : mSh} {h : mM} {lk : List Int} {b : Nat} {x y n : Int} (hm : mOk S h) (hb : b < S.length) (hk : ∀ v ∈ lk, inI v) : mOk S (mCpyC h lk x b y n) := by
  refine ⟨fun c k => ?_, fun c k hc => ?_, fun c k hc => by rw [mCpyC_ne (by omega)]; exact hm.2.2 c k hc⟩
  · unfold mCpyC
    split
    · exact inL_of (cOk hk _)
    · exact hm.1 _ _
  · unfold mCpyC
    split
    · exact cOk hk _
    · exact hm.2.1 _ _ hc
theorem nneg {x : Int} (hx : inI x) (h : 0 ≤ x) : ¬ Int32.ofInt x < 0 := fun q => by
  have := (i32_lt hx (y := 0) (by omega)).mp q
  omega
theorem clampN {x : Int} (hx : inI x) : (Int32.ofInt x).toNatClampNeg = x.toNat := by
  show (Int32.ofInt x).toInt.toNat = x.toNat
  rw [i32_of hx]
theorem max32 {x y : Int} (hx : inI x) (hy : inI y) : Int32.ofInt (max x y) = if Int32.ofInt x < Int32.ofInt y then Int32.ofInt y else Int32.ofInt x := by
  by_cases h : x < y
  · rw [if_pos ((i32_lt hx hy).mpr h), Int.max_def, if_pos (by omega)]
  · rw [if_neg (fun q => h ((i32_lt hx hy).mp q)), Int.max_def]
    split
    · congr 1; omega
    · rfl
theorem min32 {x y : Int} (hx : inI x) (hy : inI y) : Int32.ofInt (min x y) = if Int32.ofInt y < Int32.ofInt x then Int32.ofInt y else Int32.ofInt x := by
  by_cases h : y < x
  · rw [if_pos ((i32_lt hy hx).mpr h), Int.min_def, if_neg (by omega)]
  · rw [if_neg (fun q => h ((i32_lt hy hx).mp q)), Int.min_def, if_pos (by omega)]
theorem abs32 {x : Int} (hx : inI x) : Int32.ofInt (if x < 0 then -x else x) = if 0 ≤ Int32.ofInt x then Int32.ofInt x else 0 - Int32.ofInt x := by
  by_cases h : x < 0
  · rw [if_pos h, if_neg (fun q : (0 : Int32) ≤ _ => by have := (i32_le (x := 0) (by omega) hx).mp q; omega), Int32.ofInt_neg]
    simp
  · rw [if_neg h, if_pos (show (0 : Int32) ≤ _ from (i32_le (x := 0) (by omega) hx).mpr (by omega))]
theorem max64 {x y : Int} (hx : inL x) (hy : inL y) : Int64.ofInt (max x y) = if Int64.ofInt y < Int64.ofInt x then Int64.ofInt x else Int64.ofInt y := by
  by_cases h : y < x
  · rw [if_pos ((i64_lt hy hx).mpr h), Int.max_def, if_neg (by omega)]
  · rw [if_neg (fun q => h ((i64_lt hy hx).mp q)), Int.max_def, if_pos (by omega)]
/-- a table of whole numbers that stands fixed -/
def Tab (ct : Nat → List Int) (aC : Nat → Nat) (A : Nat → Prop) (k : Nat) (U : State) (H : Heap) : Prop := va_T .int (aC k) (ct k).length (fun j => .int (Int32.ofInt ((nth (ct k) j).getD 0))) A U H
theorem mk_copyT {p : Program} {l : Launch} {e : Env} {R : Room} {s : State} {m : MethodId} {args : Array Value} {below : List Frame} {meth : Method} {c : Code} {H : Heap} {locs : List Loc} {cells slots : Nat} {Q : State → Prop} {cc : ByteArray} {pc : Nat} {ls : Array Slot} {rest : List Value} {D : va_G} {cl : List vw_C} {A : Nat → Prop} {a : Nat} {tys : List (ClassId × FieldType)} {ws : va_W} (hexec : p.tables.exec = Jvm.exec) (hb : c.code = cc) (hml : c.maxLocals = ls.size) {own : String} {index : Nat} (hown : s.vm.findClass own = some m.cls) (hlink : (Cond.methodLink own index arraycopyName).before args s = true) (hnat : (Cond.native arraycopyName).before args s = true) (hstat : (Cond.static arraycopyName).before args s = true) (hini : (Cond.initialized "java/lang/System").before args s = true)
    (hK : va_K D cl tys s) (hP : va_P D cl ws H) (hD : va_D A ws) (hS : va_S A s.heap H locs) {b0 n0 : Nat} {f : Nat → Int32} (hX : va_T .int b0 n0 (fun j => .int (f j)) A s s.heap) (q1 t1 : Nat) {c1 : ClassId} {n1 : Nat} {g : Nat → Int32} (ha1 : ws[q1]? = some (a, .inl (c1, n1, .inl g))) (ht1 : tys[t1]? = some (c1, .int))
    {sp dp n : Int32} (h1 : ¬ sp < 0) (h2 : ¬ dp < 0) (h3 : ¬ n < 0) (h4 : sp.toNatClampNeg + n.toNatClampNeg ≤ n0) (h5 : dp.toNatClampNeg + n.toNatClampNeg ≤ n1)
    (hframes : 1 ≤ R.frames) (hlocals : (rest.map fun v => v.category).sum + (nativeFrameWords "java/lang/System" "arraycopy" 5 + 11) ≤ R.locals) (hdg : decode cc pc = .ok (.invokestatic index, 3))
    (kk : ∀ (H1 : Heap) (locs1 : List Loc), va_P D cl (ws.set q1 (a, .inl (c1, n1, .inl (va_cpy f g sp.toNatClampNeg dp.toNatClampNeg n.toNatClampNeg)))) H1 → va_D A (ws.set q1 (a, .inl (c1, n1, .inl (va_cpy f g sp.toNatClampNeg dp.toNatClampNeg n.toNatClampNeg)))) → va_S A s.heap H1 locs1 → W p l e R s m args below meth c H1 locs1 cells slots Q (F0 m (pc + 3) ls rest)) : W p l e R s m args below meth c H locs cells slots Q (F0 m pc ls (.int n :: .int dp :: .ref a :: .int sp :: .ref b0 :: rest)) := by
  have nn : ∀ z : Int32, ¬ z < 0 → z.toInt = (z.toNatClampNeg : Int) := by
    intro z hz
    have hz0 : (0 : Int) ≤ z.toInt := Int32.le_iff_toInt_le.mp (Int32.not_lt.mp hz)
    show z.toInt = ((z.toInt.toNat : Nat) : Int)
    omega
  intro T hT X
  obtain ⟨src, s1, s2, s3, s4, -, s5, s6⟩ := hX
  have hc0 : H[b0]? = some src := (hS.2.1 b0 (Array.getElem?_eq_some_iff.mp s1).1 s6).trans s1
  have hc1 : H[a]? = some (vp_cell c1 (n1, .inl g)) := hP q1 _ ha1
  obtain ⟨u1, k0, u2, cm0, u3⟩ := s2
  obtain ⟨-, k1, u4, cm1, u5⟩ := (hK.2 t1 _ ht1).1 n1 (fun j => .int (g j))
  obtain ⟨vm', X', step⟩ := X.arraycopy hexec hown hlink hnat hstat hini (src := b0) (dst := a) (cs := src) (cd := vp_cell c1 (n1, .inl g)) (srcPos := sp) (destPos := dp) (n := n) (by rw [hT]; exact hc0) (by rw [hT]; exact hc1)
    u1 (fun _ h => by cases h) s3 (fun h => by cases h) u2 u4 u3 u5 (by simp [refKind]) h1 h2 h3
    (by rw [nn sp h1, nn n h3]; omega)
    (by rw [nn dp h2, nn n h3]; show ¬ _ > ((arrV c1 n1 (fun j => .int (g j))).slots.size : Int); rw [arrV_size]; omega)
    (fun vm₁ _ i hi => by
      have e : src.slots.getD (sp.toNatClampNeg + i) .null = .int (f (sp.toNatClampNeg + i)) := by
        rw [Array.getD_eq_getD_getElem?, s5 _ (by omega)]
        rfl
      rw [e]
      exact ⟨rfl, trivial⟩)
    (g := F0 m pc ls (.int n :: .int dp :: .ref a :: .int sp :: .ref b0 :: rest)) rfl (by rw [hml]) (rest := rest) rfl (by rw [hb]; exact hdg) hframes (by show 2 * 0 + _ + _ ≤ _; omega)
  have e1 : copied src (vp_cell c1 (n1, .inl g)) sp dp n = vp_cell c1 (n1, .inl (va_cpy f g sp.toNatClampNeg dp.toNatClampNeg n.toNatClampNeg)) := va_copiedX (fun z => .int z) src c1 f g s5 h4
  rw [e1] at X' step
  have hl : a < H.size := (Array.getElem?_eq_some_iff.mp hc1).1
  have hheap : ((T.setVm vm').setCell a (vp_cell c1 (n1, .inl (va_cpy f g sp.toNatClampNeg dp.toNatClampNeg n.toNatClampNeg)))).heap = H.setIfInBounds a (vp_cell c1 (n1, .inl (va_cpy f g sp.toNatClampNeg dp.toNatClampNeg n.toNatClampNeg))) := by rw [← hT]; rfl
  have oq : ∀ q : Nat, q ≠ a → (H.setIfInBounds a (vp_cell c1 (n1, .inl (va_cpy f g sp.toNatClampNeg dp.toNatClampNeg n.toNatClampNeg))))[q]? = H[q]? := fun q hq => by simp [Array.getElem?_setIfInBounds, Ne.symm hq]
  obtain ⟨t, a1, b1⟩ := kk _ _ (hP.set hD ha1 (show (H.setIfInBounds a _)[a]? = some _ by simp [Array.getElem?_setIfInBounds, hl]) oq) (hD.set ha1) ⟨by simp; exact hS.1, fun q g1 g2 => by
      rw [oq q (fun e => g2 (by rw [e]; exact hD.2 q1 _ ha1))]
      exact hS.2.1 q g1 g2, fun q hq => by
      rcases List.mem_append.mp hq with h | h
      · exact hS.2.2 q h
      · obtain ⟨z, -, hz⟩ := List.mem_map.mp h
        rw [← hz]
        exact hD.2 q1 _ ha1⟩ _ hheap X'
  exact ⟨t, step t a1, b1⟩
section
variable {p : Program} {l : Launch} {e : Env} {Rm : Room} {s : State} {m : MethodId} {args : Array Value} {below : List Frame} {meth : Method} {c : Code} {cc : ByteArray} {D : va_G} {A : Nat → Prop} {tys : List (ClassId × FieldType)} {ad aC : Nat → Nat} {nL cells slots : Nat} {Q : State → Prop} {pcs : List Nat} {S : mSh} {r : mRf} {j nx : Nat} {ls st : List mv} {h : mM}
theorem go_cload (hx : p.tables.exec = Jvm.exec) (hb : c.code = cc) {ct : Nat → List Int} {x : Int} {k0 : Nat} (hT : Tab ct aC A k0 s s.heap) (hc0 : ∀ v ∈ ct k0, inI v) (g : inA x (ct k0).length) (hd : Dc cc pcs j .iaload 1 nx) (k : Go (fun H locs pc la sv => W p l e Rm s m args below meth c H locs cells slots Q (F0 m pc la sv)) D A tys ad aC nL s pcs S r (nx) (ls) (mI ((nth (ct k0) x.toNat).getD 0) :: st) (h)) : Go (fun H locs pc la sv => W p l e Rm s m args below meth c H locs cells slots Q (F0 m pc la sv)) D A tys ad aC nL s pcs S r (j) (ls) (mI x :: mC k0 :: st) (h) := by
  intro ws H locs la pc hpc hL hl hs hm hw hP hD hS hv
  obtain ⟨pc0, h1, hdg, h2⟩ := hd
  cases hpc.symm.trans h1
  obtain ⟨i1, i2⟩ := inA_in (hs _ List.mem_cons_self) g
  have k9 := k ws H locs la _ h2 hL hl (fun v9 hv9 => by rcases List.mem_cons.mp hv9 with rfl | hv9; exact (cOk hc0 _); exact hs _ (List.mem_cons_of_mem _ (List.mem_cons_of_mem _ hv9))) hm hw hP hD hS hv
  exact va_ti hx hb hT hS i1 (by rw [i2]; rfl) hdg k9
theorem go_clen (hx : p.tables.exec = Jvm.exec) (hb : c.code = cc) {ct : Nat → List Int} {k0 : Nat} (hT : Tab ct aC A k0 s s.heap) (hc0 : (ct k0).length < 2147483648) (hd : Dc cc pcs j .arraylength 1 nx) (k : Go (fun H locs pc la sv => W p l e Rm s m args below meth c H locs cells slots Q (F0 m pc la sv)) D A tys ad aC nL s pcs S r (nx) (ls) (mI ((ct k0).length : Int) :: st) (h)) : Go (fun H locs pc la sv => W p l e Rm s m args below meth c H locs cells slots Q (F0 m pc la sv)) D A tys ad aC nL s pcs S r (j) (ls) (mC k0 :: st) (h) := by
  intro ws H locs la pc hpc hL hl hs hm hw hP hD hS hv
  obtain ⟨pc0, h1, hdg, h2⟩ := hd
  cases hpc.symm.trans h1
  have k9 := k ws H locs la _ h2 hL hl (fun v9 hv9 => by rcases List.mem_cons.mp hv9 with rfl | hv9; exact (⟨by omega, by omega⟩ : inI ((ct k0).length : Int)); exact hs _ (List.mem_cons_of_mem _ hv9)) hm hw hP hD hS hv
  exact va_tlen hx hb hT hS (by rw [Int32.ofInt_eq_ofNat]) hdg k9
theorem go_gets (hx : p.tables.exec = Jvm.exec) (hb : c.code = cc) {C n d own : String} {i k0 : Nat} (hZ : va_Z C n d (.ref (aC k0)) A s s.heap) (hown : s.vm.findClass own = some m.cls) (hl9 : (Cond.fieldLink own i C n d).before args s = true) (hd : Dc cc pcs j (.getstatic i) 3 nx) (k : Go (fun H locs pc la sv => W p l e Rm s m args below meth c H locs cells slots Q (F0 m pc la sv)) D A tys ad aC nL s pcs S r (nx) (ls) (mC k0 :: st) (h)) : Go (fun H locs pc la sv => W p l e Rm s m args below meth c H locs cells slots Q (F0 m pc la sv)) D A tys ad aC nL s pcs S r (j) (ls) (st) (h) := by
  intro ws H locs la pc hpc hL hl hs hm hw hP hD hS hv
  obtain ⟨pc0, h1, hdg, h2⟩ := hd
  cases hpc.symm.trans h1
  exact va_gets hx hb hZ hS hown hl9 (fun x q => q) hdg (k ws H locs la _ h2 hL hl (fun v9 hv9 => by rcases List.mem_cons.mp hv9 with rfl | hv9; exact trivial; exact hs _ hv9) hm hw hP hD hS hv)
theorem go_getsN (hx : p.tables.exec = Jvm.exec) (hb : c.code = cc) {C n d own host : String} {i k0 : Nat} (hZ : va_Z C n d (.ref (aC k0)) A s s.heap) (hown : s.vm.findClass own = some m.cls) (hl9 : (Cond.fieldLinkNest own i C n d host).before args s = true) (hd : Dc cc pcs j (.getstatic i) 3 nx) (k : Go (fun H locs pc la sv => W p l e Rm s m args below meth c H locs cells slots Q (F0 m pc la sv)) D A tys ad aC nL s pcs S r (nx) (ls) (mC k0 :: st) (h)) : Go (fun H locs pc la sv => W p l e Rm s m args below meth c H locs cells slots Q (F0 m pc la sv)) D A tys ad aC nL s pcs S r (j) (ls) (st) (h) := by
  intro ws H locs la pc hpc hL hl hs hm hw hP hD hS hv
  obtain ⟨pc0, h1, hdg, h2⟩ := hd
  cases hpc.symm.trans h1
  exact va_getsN hx hb hZ hS hown hl9 (fun x q => q) hdg (k ws H locs la _ h2 hL hl (fun v9 hv9 => by rcases List.mem_cons.mp hv9 with rfl | hv9; exact trivial; exact hs _ hv9) hm hw hP hD hS hv)
theorem go_ldcS (hx : p.tables.exec = Jvm.exec) (hb : c.code = cc) {own tx : String} {i k0 : Nat} (hZ : vk_R own i tx (aC k0) s) (hown : s.vm.findClass own = some m.cls) (hd : Dc cc pcs j (.ldc i) 2 nx) (k : Go (fun H locs pc la sv => W p l e Rm s m args below meth c H locs cells slots Q (F0 m pc la sv)) D A tys ad aC nL s pcs S r (nx) (ls) (mC k0 :: st) (h)) : Go (fun H locs pc la sv => W p l e Rm s m args below meth c H locs cells slots Q (F0 m pc la sv)) D A tys ad aC nL s pcs S r (j) (ls) (st) (h) := by
  intro ws H locs la pc hpc hL hl hs hm hw hP hD hS hv
  obtain ⟨pc0, h1, hdg, h2⟩ := hd
  cases hpc.symm.trans h1
  exact va_ldcS hx hb hown hZ hdg (k ws H locs la _ h2 hL hl (fun v9 hv9 => by rcases List.mem_cons.mp hv9 with rfl | hv9; exact trivial; exact hs _ hv9) hm hw hP hD hS hv)
theorem go_copyI (hx : p.tables.exec = Jvm.exec) (hb : c.code = cc) {own : String} {i : Nat} (hown : s.vm.findClass own = some m.cls) (hlink : (Cond.methodLink own i arraycopyName).before args s = true) (hnat : (Cond.native arraycopyName).before args s = true) (hstat : (Cond.static arraycopyName).before args s = true) (hini : (Cond.initialized "java/lang/System").before args s = true) (hml : c.maxLocals = nL) (hK : va_K D vwCl tys s) (hR : 1 ≤ Rm.frames ∧ 100 ≤ Rm.locals ∧ cells ≤ Rm.cells ∧ slots ≤ Rm.slots) (hw8 : wds st ≤ 8) {a b na nb : Nat} {x y n : Int} (ha : nth S a = some (.inr (0, na))) (hb0 : nth S b = some (.inr (0, nb))) (g : (0 ≤ n ∧ 0 ≤ x ∧ 0 ≤ y) ∧ x + n ≤ (na : Int) ∧ y + n ≤ (nb : Int)) (hd : Dc cc pcs j (.invokestatic i) 3 nx) (k : Go (fun H locs pc la sv => W p l e Rm s m args below meth c H locs cells slots Q (F0 m pc la sv)) D A tys ad aC nL s pcs S r (nx) (ls) (st) (mCpy h a x b y n)) : Go (fun H locs pc la sv => W p l e Rm s m args below meth c H locs cells slots Q (F0 m pc la sv)) D A tys ad aC nL s pcs S r (j) (ls) (mI n :: mI y :: mR b :: mI x :: mR a :: st) (h) := by
  intro ws H locs la pc hpc hL hl hs hm hw hP hD hS hv
  obtain ⟨pc0, h1, hdg, h2⟩ := hd
  cases hpc.symm.trans h1
  obtain ⟨cA, t0, g1, g2, g3⟩ := hw.2.2.1 a _ _ ha
  obtain ⟨cB, t1, f1, f2, f3⟩ := hw.2.2.1 b _ _ hb0
  have hn9 : inI n := hs _ List.mem_cons_self
  have hy9 : inI y := hs _ (List.mem_cons_of_mem _ List.mem_cons_self)
  have hx9 : inI x := hs _ (List.mem_cons_of_mem _ (List.mem_cons_of_mem _ (List.mem_cons_of_mem _ List.mem_cons_self)))
  have e9 := cpyI (h := h) (a := a) (b := b) g.1
  refine va_copyi hx hb (hml.trans hv.1.symm) hown hlink hnat hstat hini hK hP hD hS a b t0 t1 g3 f3 g1 f1 rfl (nneg hx9 g.1.2.1) (nneg hy9 g.1.2.2) (nneg hn9 g.1.1) (by rw [clampN hx9, clampN hn9]; omega) (by rw [clampN hy9, clampN hn9]; omega) (fun _ _ => rfl) hR.1 (by
    have q := wds_ok (ad := ad) (aC := aC) st
    rw [q]
    have q2 : nativeFrameWords "java/lang/System" "arraycopy" 5 + 11 ≤ 92 := by decide +kernel
    omega) hdg (fun H1 locs1 hP1 hD1 hS1 => ?_)
  rw [clampN hx9, clampN hy9, clampN hn9, e9] at hP1 hD1
  exact k _ H1 locs1 la _ h2 hL hl (fun v9 hv9 => hs _ (by revert hv9; simp only [List.mem_cons]; grind)) (mOk_cpy hm ha hb0) (Wld_at hw hb0 f3 (fun c k q => mCpy_ne q)) hP1 hD1 hS1 hv
theorem go_copyL (hx : p.tables.exec = Jvm.exec) (hb : c.code = cc) {own : String} {i : Nat} (hown : s.vm.findClass own = some m.cls) (hlink : (Cond.methodLink own i arraycopyName).before args s = true) (hnat : (Cond.native arraycopyName).before args s = true) (hstat : (Cond.static arraycopyName).before args s = true) (hini : (Cond.initialized "java/lang/System").before args s = true) (hml : c.maxLocals = nL) (hK : va_K D vwCl tys s) (hR : 1 ≤ Rm.frames ∧ 100 ≤ Rm.locals ∧ cells ≤ Rm.cells ∧ slots ≤ Rm.slots) (hw8 : wds st ≤ 8) {a b na nb : Nat} {x y n : Int} (ha : nth S a = some (.inr (1, na))) (hb0 : nth S b = some (.inr (1, nb))) (g : (0 ≤ n ∧ 0 ≤ x ∧ 0 ≤ y) ∧ x + n ≤ (na : Int) ∧ y + n ≤ (nb : Int)) (hd : Dc cc pcs j (.invokestatic i) 3 nx) (k : Go (fun H locs pc la sv => W p l e Rm s m args below meth c H locs cells slots Q (F0 m pc la sv)) D A tys ad aC nL s pcs S r (nx) (ls) (st) (mCpy h a x b y n)) : Go (fun H locs pc la sv => W p l e Rm s m args below meth c H locs cells slots Q (F0 m pc la sv)) D A tys ad aC nL s pcs S r (j) (ls) (mI n :: mI y :: mR b :: mI x :: mR a :: st) (h) := by
  intro ws H locs la pc hpc hL hl hs hm hw hP hD hS hv
  obtain ⟨pc0, h1, hdg, h2⟩ := hd
  cases hpc.symm.trans h1
  obtain ⟨cA, t0, g1, g2, g3⟩ := hw.2.2.1 a _ _ ha
  obtain ⟨cB, t1, f1, f2, f3⟩ := hw.2.2.1 b _ _ hb0
  have hn9 : inI n := hs _ List.mem_cons_self
  have hy9 : inI y := hs _ (List.mem_cons_of_mem _ List.mem_cons_self)
  have hx9 : inI x := hs _ (List.mem_cons_of_mem _ (List.mem_cons_of_mem _ (List.mem_cons_of_mem _ List.mem_cons_self)))
  have e9 := cpyL (h := h) (a := a) (b := b) g.1
  refine va_copyl hx hb (hml.trans hv.1.symm) hown hlink hnat hstat hini hK hP hD hS a b t0 t1 g3 f3 g1 f1 rfl (nneg hx9 g.1.2.1) (nneg hy9 g.1.2.2) (nneg hn9 g.1.1) (by rw [clampN hx9, clampN hn9]; omega) (by rw [clampN hy9, clampN hn9]; omega) (fun _ _ => rfl) hR.1 (by
    have q := wds_ok (ad := ad) (aC := aC) st
    rw [q]
    have q2 : nativeFrameWords "java/lang/System" "arraycopy" 5 + 11 ≤ 92 := by decide +kernel
    omega) hdg (fun H1 locs1 hP1 hD1 hS1 => ?_)
  rw [clampN hx9, clampN hy9, clampN hn9, e9] at hP1 hD1
  exact k _ H1 locs1 la _ h2 hL hl (fun v9 hv9 => hs _ (by revert hv9; simp only [List.mem_cons]; grind)) (mOk_cpy hm ha hb0) (Wld_at hw hb0 f3 (fun c k q => mCpy_ne q)) hP1 hD1 hS1 hv
theorem go_copyC (hx : p.tables.exec = Jvm.exec) (hb : c.code = cc) {own : String} {i : Nat} (hown : s.vm.findClass own = some m.cls) (hlink : (Cond.methodLink own i arraycopyName).before args s = true) (hnat : (Cond.native arraycopyName).before args s = true) (hstat : (Cond.static arraycopyName).before args s = true) (hini : (Cond.initialized "java/lang/System").before args s = true) (hml : c.maxLocals = nL) (hK : va_K D vwCl tys s) (hR : 1 ≤ Rm.frames ∧ 100 ≤ Rm.locals ∧ cells ≤ Rm.cells ∧ slots ≤ Rm.slots) (hw8 : wds st ≤ 8) {ct : Nat → List Int} {k0 b nb : Nat} {x y n : Int} (hT : Tab ct aC A k0 s s.heap) (hc0 : ∀ v ∈ ct k0, inI v) (hb0 : nth S b = some (.inr (0, nb))) (g : (0 ≤ n ∧ 0 ≤ x ∧ 0 ≤ y) ∧ x + n ≤ ((ct k0).length : Int) ∧ y + n ≤ (nb : Int)) (hd : Dc cc pcs j (.invokestatic i) 3 nx) (k : Go (fun H locs pc la sv => W p l e Rm s m args below meth c H locs cells slots Q (F0 m pc la sv)) D A tys ad aC nL s pcs S r (nx) (ls) (st) (mCpyC h (ct k0) x b y n)) : Go (fun H locs pc la sv => W p l e Rm s m args below meth c H locs cells slots Q (F0 m pc la sv)) D A tys ad aC nL s pcs S r (j) (ls) (mI n :: mI y :: mR b :: mI x :: mC k0 :: st) (h) := by
  intro ws H locs la pc hpc hL hl hs hm hw hP hD hS hv
  obtain ⟨pc0, h1, hdg, h2⟩ := hd
  cases hpc.symm.trans h1
  obtain ⟨cB, t1, f1, f2, f3⟩ := hw.2.2.1 b _ _ hb0
  have hn9 : inI n := hs _ List.mem_cons_self
  have hy9 : inI y := hs _ (List.mem_cons_of_mem _ List.mem_cons_self)
  have hx9 : inI x := hs _ (List.mem_cons_of_mem _ (List.mem_cons_of_mem _ (List.mem_cons_of_mem _ List.mem_cons_self)))
  have e9 := cpyC (h := h) (lk := ct k0) (b := b) g.1
  refine mk_copyT (b0 := aC k0) hx hb (hml.trans hv.1.symm) hown hlink hnat hstat hini hK hP hD hS hT b t1 f3 f1 (nneg hx9 g.1.2.1) (nneg hy9 g.1.2.2) (nneg hn9 g.1.1) (by rw [clampN hx9, clampN hn9]; omega) (by rw [clampN hy9, clampN hn9]; omega) hR.1 (by
    have q := wds_ok (ad := ad) (aC := aC) st
    rw [q]
    have q2 : nativeFrameWords "java/lang/System" "arraycopy" 5 + 11 ≤ 92 := by decide +kernel
    omega) hdg (fun H1 locs1 hP1 hD1 hS1 => ?_)
  rw [clampN hx9, clampN hy9, clampN hn9, e9] at hP1 hD1
  exact k _ H1 locs1 la _ h2 hL hl (fun v9 hv9 => hs _ (by revert hv9; simp only [List.mem_cons]; grind)) (mOk_cpyC hm (nth_lt hb0) hc0) (Wld_at hw hb0 f3 (fun c k q => mCpyC_ne q)) hP1 hD1 hS1 hv
theorem go_max (hx : p.tables.exec = Jvm.exec) (hb : c.code = cc) {own : String} {i : Nat} (hown : s.vm.findClass own = some m.cls) (hlink : (Cond.methodLink own i Lib.Math.max.name).before args s = true) (hstat : (Cond.static Lib.Math.max.name).before args s = true) (hini : (Cond.initialized "java/lang/Math").before args s = true) (hcode : (Cond.code Lib.Math.max.name Lib.Math.max.code 2 (some .int)).before args s = true) (hml : c.maxLocals = nL) (hR : 1 ≤ Rm.frames ∧ 100 ≤ Rm.locals ∧ cells ≤ Rm.cells ∧ slots ≤ Rm.slots) (hw8 : wds st ≤ 8) {x y : Int}  (hd : Dc cc pcs j (.invokestatic i) 3 nx) (k : Go (fun H locs pc la sv => W p l e Rm s m args below meth c H locs cells slots Q (F0 m pc la sv)) D A tys ad aC nL s pcs S r (nx) (ls) (mI (max x y) :: st) (h)) : Go (fun H locs pc la sv => W p l e Rm s m args below meth c H locs cells slots Q (F0 m pc la sv)) D A tys ad aC nL s pcs S r (j) (ls) (mI y :: mI x :: st) (h) := by
  intro ws H locs la pc hpc hL hl hs hm hw hP hD hS hv
  obtain ⟨pc0, h1, hdg, h2⟩ := hd
  cases hpc.symm.trans h1
  have hx9 : inI x := hs _ (List.mem_cons_of_mem _ List.mem_cons_self)
  have hy9 : inI y := hs _ List.mem_cons_self
  have k9 := k ws H locs la _ h2 hL hl (fun v9 hv9 => by rcases List.mem_cons.mp hv9 with rfl | hv9; exact (show inI (max x y) by rw [Int.max_def]; split <;> assumption); exact hs _ (List.mem_cons_of_mem _ (List.mem_cons_of_mem _ hv9))) hm hw hP hD hS hv
  have e9 : Int32.ofInt (max x y) = if Int32.ofInt x < Int32.ofInt y then Int32.ofInt y else Int32.ofInt x := max32 hx9 hy9
  simp only [List.map_cons, rV, e9] at k9
  exact va_mmax hx hb (hml.trans hv.1.symm) hown hlink hstat hini hcode hR.1 (by have q := wds_ok (ad := ad) (aC := aC) st; rw [q]; omega) hR.2.2.1 hR.2.2.2 hdg k9
theorem go_min (hx : p.tables.exec = Jvm.exec) (hb : c.code = cc) {own : String} {i : Nat} (hown : s.vm.findClass own = some m.cls) (hlink : (Cond.methodLink own i Lib.Math.min.name).before args s = true) (hstat : (Cond.static Lib.Math.min.name).before args s = true) (hini : (Cond.initialized "java/lang/Math").before args s = true) (hcode : (Cond.code Lib.Math.min.name Lib.Math.min.code 2 (some .int)).before args s = true) (hml : c.maxLocals = nL) (hR : 1 ≤ Rm.frames ∧ 100 ≤ Rm.locals ∧ cells ≤ Rm.cells ∧ slots ≤ Rm.slots) (hw8 : wds st ≤ 8) {x y : Int}  (hd : Dc cc pcs j (.invokestatic i) 3 nx) (k : Go (fun H locs pc la sv => W p l e Rm s m args below meth c H locs cells slots Q (F0 m pc la sv)) D A tys ad aC nL s pcs S r (nx) (ls) (mI (min x y) :: st) (h)) : Go (fun H locs pc la sv => W p l e Rm s m args below meth c H locs cells slots Q (F0 m pc la sv)) D A tys ad aC nL s pcs S r (j) (ls) (mI y :: mI x :: st) (h) := by
  intro ws H locs la pc hpc hL hl hs hm hw hP hD hS hv
  obtain ⟨pc0, h1, hdg, h2⟩ := hd
  cases hpc.symm.trans h1
  have hx9 : inI x := hs _ (List.mem_cons_of_mem _ List.mem_cons_self)
  have hy9 : inI y := hs _ List.mem_cons_self
  have k9 := k ws H locs la _ h2 hL hl (fun v9 hv9 => by rcases List.mem_cons.mp hv9 with rfl | hv9; exact (show inI (min x y) by rw [Int.min_def]; split <;> assumption); exact hs _ (List.mem_cons_of_mem _ (List.mem_cons_of_mem _ hv9))) hm hw hP hD hS hv
  have e9 : Int32.ofInt (min x y) = if Int32.ofInt y < Int32.ofInt x then Int32.ofInt y else Int32.ofInt x := min32 hx9 hy9
  simp only [List.map_cons, rV, e9] at k9
  exact va_mmin hx hb (hml.trans hv.1.symm) hown hlink hstat hini hcode hR.1 (by have q := wds_ok (ad := ad) (aC := aC) st; rw [q]; omega) hR.2.2.1 hR.2.2.2 hdg k9
theorem go_abs (hx : p.tables.exec = Jvm.exec) (hb : c.code = cc) {own : String} {i : Nat} (hown : s.vm.findClass own = some m.cls) (hlink : (Cond.methodLink own i Lib.Math.abs.name).before args s = true) (hstat : (Cond.static Lib.Math.abs.name).before args s = true) (hini : (Cond.initialized "java/lang/Math").before args s = true) (hcode : (Cond.code Lib.Math.abs.name Lib.Math.abs.code 1 (some .int)).before args s = true) (hml : c.maxLocals = nL) (hR : 1 ≤ Rm.frames ∧ 100 ≤ Rm.locals ∧ cells ≤ Rm.cells ∧ slots ≤ Rm.slots) (hw8 : wds st ≤ 8) {x : Int} (g : inI (-x)) (hd : Dc cc pcs j (.invokestatic i) 3 nx) (k : Go (fun H locs pc la sv => W p l e Rm s m args below meth c H locs cells slots Q (F0 m pc la sv)) D A tys ad aC nL s pcs S r (nx) (ls) (mI (if x < 0 then -x else x) :: st) (h)) : Go (fun H locs pc la sv => W p l e Rm s m args below meth c H locs cells slots Q (F0 m pc la sv)) D A tys ad aC nL s pcs S r (j) (ls) (mI x :: st) (h) := by
  intro ws H locs la pc hpc hL hl hs hm hw hP hD hS hv
  obtain ⟨pc0, h1, hdg, h2⟩ := hd
  cases hpc.symm.trans h1
  have hx9 : inI x := hs _ List.mem_cons_self
  have k9 := k ws H locs la _ h2 hL hl (fun v9 hv9 => by rcases List.mem_cons.mp hv9 with rfl | hv9; exact (show inI (if x < 0 then -x else x) by split <;> assumption); exact hs _ (List.mem_cons_of_mem _ hv9)) hm hw hP hD hS hv
  have e9 : Int32.ofInt (if x < 0 then -x else x) = if 0 ≤ Int32.ofInt x then Int32.ofInt x else 0 - Int32.ofInt x := abs32 hx9
  simp only [List.map_cons, rV, e9] at k9
  exact va_mabs hx hb (hml.trans hv.1.symm) hown hlink hstat hini hcode hR.1 (by have q := wds_ok (ad := ad) (aC := aC) st; rw [q]; omega) hR.2.2.1 hR.2.2.2 hdg k9
theorem go_maxL (hx : p.tables.exec = Jvm.exec) (hb : c.code = cc) {own : String} {i : Nat} (hown : s.vm.findClass own = some m.cls) (hlink : (Cond.methodLink own i Lib.MathLoose.max_long.x).before args s = true) (hstat : (Cond.static Lib.MathLoose.max_long.x).before args s = true) (hini : (Cond.initialized "java/lang/Math").before args s = true) (hcode : (Cond.code Lib.MathLoose.max_long.x Lib.MathLoose.max_long.code 4 (some .long)).before args s = true) (hml : c.maxLocals = nL) (hR : 1 ≤ Rm.frames ∧ 100 ≤ Rm.locals ∧ cells ≤ Rm.cells ∧ slots ≤ Rm.slots) (hw8 : wds st ≤ 8) {x y : Int}  (hd : Dc cc pcs j (.invokestatic i) 3 nx) (k : Go (fun H locs pc la sv => W p l e Rm s m args below meth c H locs cells slots Q (F0 m pc la sv)) D A tys ad aC nL s pcs S r (nx) (ls) (mL (max x y) :: st) (h)) : Go (fun H locs pc la sv => W p l e Rm s m args below meth c H locs cells slots Q (F0 m pc la sv)) D A tys ad aC nL s pcs S r (j) (ls) (mL y :: mL x :: st) (h) := by
  intro ws H locs la pc hpc hL hl hs hm hw hP hD hS hv
  obtain ⟨pc0, h1, hdg, h2⟩ := hd
  cases hpc.symm.trans h1
  have hx9 : inL x := hs _ (List.mem_cons_of_mem _ List.mem_cons_self)
  have hy9 : inL y := hs _ List.mem_cons_self
  have k9 := k ws H locs la _ h2 hL hl (fun v9 hv9 => by rcases List.mem_cons.mp hv9 with rfl | hv9; exact (show inL (max x y) by rw [Int.max_def]; split <;> assumption); exact hs _ (List.mem_cons_of_mem _ (List.mem_cons_of_mem _ hv9))) hm hw hP hD hS hv
  have e9 : Int64.ofInt (max x y) = if Int64.ofInt y < Int64.ofInt x then Int64.ofInt x else Int64.ofInt y := max64 hx9 hy9
  simp only [List.map_cons, rV, e9] at k9
  exact va_mmax_long hx hb (hml.trans hv.1.symm) hown hlink hstat hini hcode hR.1 (by have q := wds_ok (ad := ad) (aC := aC) st; rw [q]; omega) hR.2.2.1 hR.2.2.2 hdg k9
end
end
section
/-! THE RICH MACHINE: it makes cells, too -/
def rset (r : mRf) (a k v : Nat) : mRf := match nth r a with
  | some l => lset r a (lset l k (some v))
  | none => r
def ex2 (ct : Nat → List Int) (cl : Nat → Nat → List mv → mH → Option (List mv × mH)) (N : Nat → List mv → List mv → mH → Option (List mv × mH)) (i : mIn) (ls st : List mv) (g : mH) : Option (List mv × mH) :=
  match i.1 with
  | .new ci => match i.2.2 with
    | [nf] => N i.2.1 ls (mR g.1.length :: st) (g.1 ++ [.inl ci], g.2.1 ++ [List.replicate nf none], g.2.2)
    | _ => none
  | .newarray _ => match st, i.2.2 with
    | .inl n :: st, [ty] => if 0 ≤ n ∧ n ≤ 10000 then N i.2.1 ls (mR g.1.length :: st) (g.1 ++ [.inr (ty, n.toNat)], g.2.1 ++ [[]], g.2.2) else none
    | _, _ => none
  | .anewarray ci => match st with
    | .inl n :: st => if 0 ≤ n ∧ n ≤ 10000 then N i.2.1 ls (mR g.1.length :: st) (g.1 ++ [.inr (10 + ci, n.toNat)], g.2.1 ++ [List.replicate n.toNat none], g.2.2) else none
    | _ => none
  | .multianewarray _ _ => match st with
    | .inl k :: .inl n :: st => if (0 ≤ n ∧ n ≤ 100) ∧ 0 ≤ k ∧ k ≤ 100 then N i.2.1 ls (mR g.1.length :: st) (g.1 ++ (.inr (3, n.toNat) :: List.replicate n.toNat (.inr (1, k.toNat))), g.2.1 ++ ((List.range n.toNat).map (fun q => some (g.1.length + 1 + q)) :: List.replicate n.toNat []), g.2.2) else none
    | _ => none
  | .aastore => match st, i.2.2 with
    | .inr (.inr (.inl v)) :: .inl x :: .inr (.inr (.inl a)) :: st, [ty] => match mArr g.1 a ty with
      | some n => match mObj g.1 v (ty - 10) with
        | true => if inA x n ∧ 10 ≤ ty then N i.2.1 ls st (g.1, rset g.2.1 a x.toNat v, g.2.2) else none
        | false => none
      | none => none
    | _, _ => none
  | .invokespecial _ => match st with
    | .inr (.inr (.inl _)) :: st => few st (N i.2.1 ls st g)
    | _ => none
  | .invokestatic id => match i.2.2 with
    | [na, fl, kd, w, rc] => match mTake na [] st with
      | some (args, rest) => match (Nat.ble (wds args) w).and (rcv g.1 rc args) with
        | true => few rest (match cl id fl args g with
          | some (ret, g') => match kd, ret with
            | 0, [] => N i.2.1 ls rest g'
            | 1, [.inl v] => N i.2.1 ls (mI v :: rest) g'
            | 2, [.inr (.inl v)] => N i.2.1 ls (mL v :: rest) g'
            | 3, [.inr (.inr (.inl v))] => N i.2.1 ls (mR v :: rest) g'
            | _, _ => none
          | none => none)
        | false => none
      | none => none
    | _ => none
  | .putfield k => match i.2.2, st with
    | [ci, 2], .inr (.inr (.inl v)) :: .inr (.inr (.inl a)) :: st => match mObj g.1 a ci with
      | true => N i.2.1 ls st (g.1, rset g.2.1 a k v, g.2.2)
      | false => none
    | _, _ => ex1 g.1 g.2.1 ct (fun _ _ _ _ => none) (fun v m => some (v, (g.1, g.2.1, m))) (fun j ls st m => N j ls st (g.1, g.2.1, m)) i ls st g.2.2
  | _ => ex1 g.1 g.2.1 ct (fun _ _ _ _ => none) (fun v m => some (v, (g.1, g.2.1, m))) (fun j ls st m => N j ls st (g.1, g.2.1, m)) i ls st g.2.2
section
variable (P : mPr) (ct : Nat → List Int)
def exR : Nat → Nat → mCode → Nat → List mv → List mv → mH → Option (List mv × mH)
  | 0, _, _, _, _, _, _ => none
  | n + 1, d, c, j, ls, st, g => match nth c j with
    | none => none
    | some i => ex2 ct (fun id fl args g => match fl, d with
        | 0, d => exR n d (P id).1 0 (mPad (P id).2 (mEntry args)) [] g
        | _, d + 1 => exR n d (P id).1 0 (mPad (P id).2 (mEntry args)) [] g
        | _, 0 => none) (exR n d c) i ls st g
def clR (n d : Nat) (id fl : Nat) (args : List mv) (g : mH) : Option (List mv × mH) := match fl, d with
  | 0, d => exR P ct n d (P id).1 0 (mPad (P id).2 (mEntry args)) [] g
  | _, d + 1 => exR P ct n d (P id).1 0 (mPad (P id).2 (mEntry args)) [] g
  | _, 0 => none
theorem exR_succ (n d : Nat) (c : mCode) (j : Nat) (ls st : List mv) (g : mH) : exR P ct (n + 1) d c j ls st g = match nth c j with
    | none => none
    | some i => ex2 ct (clR P ct n d) (exR P ct n d c) i ls st g := by
  rw [exR]
  rfl
end
section
variable {ρ τ : Type}
/-- what a comes to, b comes to, seen by f -/
def Mp (f : ρ → τ) (a : Option ρ) (b : Option τ) : Prop := ∀ r, a = some r → b = some (f r)
theorem Mp.none' {f : ρ → τ} {b : Option τ} : Mp f none b := fun r h => by cases h
theorem Mp.ite {f : ρ → τ} {c : Prop} [Decidable c] {a a' : Option ρ} {b b' : Option τ} (h : Mp f a b) (h' : Mp f a' b') : Mp f (if c then a else a') (if c then b else b') := by
  by_cases q : c
  · simpa only [if_pos q] using h
  · simpa only [if_neg q] using h'
theorem Mp.few {f : ρ → τ} {st : List mv} {a : Option ρ} {b : Option τ} (h : Mp f a b) : Mp f (few st a) (few st b) := by
  unfold Jvm.Pilot.@@N@@.few
  split
  · exact h
  · exact Mp.none'
theorem Mp.pB {f : ρ → τ} {c : Nat} {x y : Int} {a a' : Option ρ} {b b' : Option τ} (h : Mp f a b) (h' : Mp f a' b') : Mp f (pB c x y a a') (pB c x y b b') := by
  unfold Jvm.Pilot.@@N@@.pB
  split
  · exact Mp.ite h h'
  · exact Mp.ite h' h
  · exact Mp.ite h h'
  · exact Mp.ite h' h
  · exact Mp.ite h h'
  · exact Mp.ite h' h
theorem Mp.pSw {f : ρ → τ} {x : Int} {d : Nat} {N : Nat → Option ρ} {M : Nat → Option τ} (h : ∀ t, Mp f (N t) (M t)) : ∀ (l : List Nat) (lo : Int), Mp f (pSw x N d lo l) (pSw x M d lo l)
  | [], lo => h d
  | t :: ts, lo => Mp.ite (h t) (Mp.pSw h ts (lo + 1))
theorem Mp.pLk {f : ρ → τ} {x : Int} {d : Nat} {N : Nat → Option ρ} {M : Nat → Option τ} (h : ∀ t, Mp f (N t) (M t)) : ∀ (l : List Nat), Mp f (pLk x N d l) (pLk x M d l)
  | [] => h d
  | [_] => h d
  | _ :: t :: ts => Mp.ite (h t) (Mp.pLk h ts)
theorem Mp.stK {f : ρ → τ} {v : mv} : ∀ (k : Nat) (ls : List mv) {K : List mv → Option ρ} {L : List mv → Option τ}, (∀ l, Mp f (K l) (L l)) → Mp f (stK v k ls K) (stK v k ls L)
  | 0, [], _, _, _ => Mp.none'
  | 0, _ :: l, _, _, h => h _
  | 1, [], _, _, _ => Mp.none'
  | 1, [_], _, _, _ => Mp.none'
  | 1, a :: _ :: l, _, _, h => h _
  | k + 2, [], _, _, _ => Mp.none'
  | k + 2, a :: l, _, _, h => Mp.stK (k + 1) l (fun l => h (a :: l))
theorem Mp.stL {f : ρ → τ} {v : mv} : ∀ (k : Nat) (ls : List mv) {K : List mv → Option ρ} {L : List mv → Option τ}, (∀ l, Mp f (K l) (L l)) → Mp f (stL v k ls K) (stL v k ls L)
  | 0, [], _, _, _ => Mp.none'
  | 0, [_], _, _, _ => Mp.none'
  | 0, _ :: _ :: l, _, _, h => h _
  | 1, [], _, _, _ => Mp.none'
  | 1, [_], _, _, _ => Mp.none'
  | 1, [_, _], _, _, _ => Mp.none'
  | 1, a :: _ :: _ :: l, _, _, h => h _
  | k + 2, [], _, _, _ => Mp.none'
  | k + 2, a :: l, _, _, h => Mp.stL (k + 1) l (fun l => h (a :: l))
theorem ex1_mp (S : mSh) (R : List (List (Option Nat))) (ct : Nat → List Int) {f : ρ → τ} {cl cl' : Nat → Nat → List mv → mM → Option (List mv × mM)} {ret : List mv → mM → Option ρ} {ret' : List mv → mM → Option τ} {N : Nat → List mv → List mv → mM → Option ρ} {N' : Nat → List mv → List mv → mM → Option τ}
    (hr : ∀ v h, Mp f (ret v h) (ret' v h)) (hN : ∀ j ls st h, Mp f (N j ls st h) (N' j ls st h)) (i : mIn) (hi : ∀ id, i.1 ≠ .invokestatic id) (ls st : List mv) (h : mM) :
    Mp f (ex1 S R ct cl ret N i ls st h) (ex1 S R ct cl' ret' N' i ls st h) := by
  intro r H
  obtain ⟨o, nx, l⟩ := i
  unfold ex1 at H ⊢
  dsimp only at H ⊢
  split at H
  all_goals repeat' first
    | (cases H; done)
    | exact absurd rfl (hi _)
    | exact hN _ _ _ _ _ H
    | exact hr _ _ _ H
    | (revert H; exact Mp.ite (hN _ _ _ _) Mp.none' _)
    | (revert H; exact Mp.ite (Mp.ite (hN _ _ _ _) Mp.none') Mp.none' _)
    | (revert H; exact Mp.ite (hr _ _) Mp.none' _)
    | (revert H; exact Mp.stK _ _ (fun l => hN _ _ _ _) _)
    | (revert H; exact Mp.stL _ _ (fun l => hN _ _ _ _) _)
    | (revert H; exact Mp.ite (Mp.stK _ _ (fun l => hN _ _ _ _)) Mp.none' _)
    | (revert H; exact Mp.few (hN _ _ _ _) _)
    | (revert H; exact Mp.few (Mp.ite (hN _ _ _ _) Mp.none') _)
    | (revert H; exact Mp.pB (hN _ _ _ _) (hN _ _ _ _) _)
    | (revert H; exact Mp.pSw (fun t => hN _ _ _ _) _ _ _)
    | (revert H; exact Mp.pLk (fun t => hN _ _ _ _) _ _)
    | split at H
end
section
variable (P : mPr) (S : mSh) (R : List (List (Option Nat))) (ct : Nat → List Int)
theorem exR_of : ∀ (n d : Nat) (c : mCode) (j : Nat) (ls st : List mv) (h : mM), Mp (fun r : List mv × mM => (r.1, (S, R, r.2))) (exN P S R ct n d c j ls st h) (exR P ct n d c j ls st (S, R, h)) := by
  intro n
  induction n with
  | zero => intro d c j ls st h r H; cases H
  | succ n ih =>
    intro d c j ls st h r H
    rw [exN_succ] at H
    rw [exR_succ]
    split at H
    · cases H
    · next i hi =>
      rw [hi]
      dsimp only
      by_cases hq : ∃ id, i.1 = .invokestatic id
      · obtain ⟨id, hid⟩ := hq
        obtain ⟨o, nx, l⟩ := i
        dsimp only at hid
        subst hid
        unfold ex1 at H
        unfold ex2
        dsimp only at H ⊢
        have hcl : ∀ fl a h r, clN P S R ct n d id fl a h = some r → clR P ct n d id fl a (S, R, h) = some (r.1, (S, R, r.2)) := by
          intro fl a h r h9
          cases fl with
          | zero => exact ih _ _ _ _ _ _ _ h9
          | succ fl => cases d with
            | zero => cases h9
            | succ d => exact ih _ _ _ _ _ _ _ h9
        split at H
        · next na fl kd w rc =>
          split at H
          · next args rest hT =>
            split at H
            rotate_left
            · cases H
            next hw9 =>
            dsimp only
            rw [hT]
            dsimp only
            rw [hw9]
            dsimp only
            obtain ⟨g1, g2⟩ : Nat.ble (wds rest) 8 = true ∧ _ = some r := by
              unfold few at H
              split at H
              · next q => exact ⟨q, H⟩
              · cases H
            unfold few
            rw [g1]
            dsimp only
            split at g2
            · unfold cV at g2
              split at g2
              · next h9 hc => rw [hcl _ _ _ _ hc]; exact ih _ _ _ _ _ _ _ g2
              · cases g2
            · unfold cI at g2
              split at g2
              · next v h9 hc => rw [hcl _ _ _ _ hc]; exact ih _ _ _ _ _ _ _ g2
              · cases g2
            · unfold cL at g2
              split at g2
              · next v h9 hc => rw [hcl _ _ _ _ hc]; exact ih _ _ _ _ _ _ _ g2
              · cases g2
            · unfold cR at g2
              split at g2
              · next v h9 hc => rw [hcl _ _ _ _ hc]; exact ih _ _ _ _ _ _ _ g2
              · cases g2
            · cases g2
          · cases H
        · cases H
      · have hi9 : ∀ id, i.1 ≠ .invokestatic id := fun id q => hq ⟨id, q⟩
        have k9 := ex1_mp S R ct (f := fun r : List mv × mM => (r.1, (S, R, r.2))) (cl' := fun _ _ _ _ => none) (ret' := fun v m => some (v, (S, R, m))) (N' := fun j ls st m => exR P ct n d c j ls st (S, R, m)) (fun v h r q => by cases q; rfl) (fun j ls st h => ih d c j ls st h) i hi9 ls st h r H
        obtain ⟨o, nx, l⟩ := i
        unfold ex2
        dsimp only at hi9 ⊢
        split
        all_goals first
          | exact k9
          | (exfalso; exact hi9 _ rfl)
          | (exfalso; unfold ex1 at H; dsimp only at H; cases H; done)
          | skip
        split
        · exfalso
          unfold ex1 at H
          dsimp only at H
          cases H
        · exact k9
end
end
section
/-! CHECK 1: methods and links as tables -/
def RNl : List String := [RX0, RX1, RX2, RX3, RX4, RX5, RX6, RX7, RX8, RX9, RX10, RX11, RX12, RL, RJ6]
def RN (oc : Nat) : String := (nth RNl oc).getD ""
def pcz (c : List Nat) : List Nat := c
def q_J_bitCount : List Nat × List Nat := ([0, 1, 2, 3, 4, 7, 8, 9, 10, 11, 14, 15, 16, 17, 18, 21, 22, 23, 24, 25, 26, 27, 28, 29, 32, 33, 34, 35, 36, 38, 39, 40, 41, 42, 43, 45, 46, 47, 48, 49, 51, 52], [0, 0, 0, 0, 265, 0, 0, 0, 0, 266, 0, 0, 0, 0, 266, 0, 0, 0, 0, 0, 0, 0, 0, 267, 0, 0, 0, 0, 0, 0, 0, 0, 0, 0, 0, 0, 0, 0, 0, 0, 0, 0])
def q_T_init : List Nat × List Nat := ([0, 1, 4, 5, 6, 9, 10, 11, 14, 15, 16, 19, 20, 21, 24, 25, 28, 29, 32, 35, 36, 39, 40, 43, 46, 47, 50, 51, 54, 57, 58, 61, 62, 65, 68, 69, 72, 73, 76, 79, 80, 83, 84, 85, 88, 91, 94, 95, 98, 99, 100, 103, 106, 109, 110, 113, 114, 117, 120, 121, 124, 125, 128, 131, 132, 135, 136, 139, 142, 143, 146, 147, 150, 153, 154, 157, 158, 161, 164, 165, 168, 169, 172, 175, 176, 179, 180, 183, 186, 187, 190, 192, 195], [0, 1, 0, 0, 9, 0, 0, 13, 0, 0, 17, 0, 0, 20, 0, 24, 0, 26, 27, 0, 31, 0, 33, 34, 0, 38, 0, 40, 41, 0, 38, 0, 40, 45, 0, 48, 0, 50, 51, 0, 55, 0, 0, 34, 57, 60, 0, 64, 0, 0, 34, 66, 67, 0, 71, 0, 73, 74, 0, 78, 0, 80, 81, 0, 78, 0, 80, 85, 0, 88, 0, 90, 91, 0, 95, 0, 97, 98, 0, 102, 0, 104, 105, 0, 102, 0, 104, 109, 0, 0, 0, 112, 0])
def q_T_status : List Nat × List Nat := ([0, 1, 4], [0, 9, 0])
def q_T_top : List Nat × List Nat := ([0, 1, 4], [0, 13, 0])
def q_T_bottom : List Nat × List Nat := ([0, 1, 4], [0, 17, 0])
def q_T_tray : List Nat × List Nat := ([0, 1, 4, 5, 8, 11, 12, 15, 16, 19, 22, 23, 24, 26, 29, 32, 33, 34, 37, 38, 39, 42, 43, 44, 45, 48, 49, 52], [0, 27, 0, 116, 0, 0, 27, 0, 120, 0, 0, 0, 0, 123, 0, 0, 0, 127, 0, 0, 27, 0, 0, 0, 130, 0, 134, 0])
def q_T_write : List Nat × List Nat := ([0, 1, 2, 3, 6, 8, 10, 13, 14, 16, 19, 20, 21, 24, 25, 26, 27, 30, 31, 34], [0, 0, 0, 138, 0, 0, 0, 0, 0, 127, 0, 0, 27, 0, 0, 0, 142, 0, 134, 0])
def q_T_read : List Nat × List Nat := ([0, 1, 2, 3, 6, 7, 8, 11, 12, 13, 16, 17, 18, 19, 20, 23, 24, 27, 28, 29, 32], [0, 0, 0, 138, 0, 0, 0, 0, 0, 146, 0, 0, 0, 0, 9, 0, 27, 0, 0, 150, 0])
def q_T_pour : List Nat × List Nat := ([0, 1, 2, 3, 4, 6, 8, 11, 13, 15, 18, 19, 21, 24, 25, 26, 29, 30, 31, 32, 34, 36, 39, 40, 43], [0, 0, 0, 0, 0, 0, 154, 0, 0, 0, 0, 0, 127, 0, 0, 27, 0, 0, 0, 0, 0, 158, 0, 134, 0])
def q_T_placeStatus : List Nat × List Nat := ([0, 1, 4, 5, 8, 11, 12, 13, 14, 17, 18, 21, 24, 25, 26, 27, 28, 29, 32, 33, 36, 37, 38, 41, 44, 45, 48, 49], [0, 27, 0, 116, 0, 0, 0, 0, 27, 0, 162, 0, 0, 0, 0, 0, 0, 27, 0, 165, 0, 0, 123, 0, 0, 0, 0, 0])
def q_T_pourStatus : List Nat × List Nat := ([0, 1, 4, 5, 8, 11, 12, 15, 16, 19, 22, 23, 26, 28, 31, 33, 36, 37, 38, 39, 42, 43, 46, 49, 50, 53, 54, 57, 60, 61, 62, 63, 66, 67, 70, 71, 74, 75, 78, 81, 83, 84, 85, 88, 89, 90, 92, 95, 98, 99, 102, 103, 105, 107, 110, 113, 114, 117, 118], [0, 27, 0, 116, 0, 0, 27, 0, 116, 0, 0, 0, 0, 0, 0, 0, 0, 0, 0, 27, 0, 162, 0, 0, 27, 0, 162, 0, 0, 0, 0, 27, 0, 168, 0, 27, 0, 168, 0, 0, 0, 0, 27, 0, 0, 0, 171, 0, 0, 27, 0, 0, 0, 171, 0, 0, 0, 0, 0])
def q_T_feed : List Nat × List Nat := ([0, 1, 4, 6, 9, 12, 13, 14, 15, 18, 19, 22, 23, 26, 27, 30, 31, 34, 35, 38, 39, 42, 44, 47, 48, 51, 53, 56, 57, 60, 63], [0, 34, 0, 174, 0, 0, 0, 0, 34, 0, 177, 0, 34, 0, 177, 0, 34, 0, 177, 0, 34, 0, 177, 0, 34, 0, 177, 0, 34, 181, 0])
def q_T_map : List Nat × List Nat := ([0, 1, 2, 3, 6, 9, 12, 15, 16, 17, 20, 21, 22, 25, 26, 29, 30, 31, 34, 37, 38, 41, 42, 44, 47, 48, 49, 52, 53, 56, 59, 62, 63, 66, 69, 70, 71, 74, 77, 80], [0, 0, 0, 34, 181, 123, 0, 0, 0, 146, 0, 0, 60, 0, 184, 0, 0, 34, 187, 0, 0, 0, 0, 146, 0, 0, 41, 0, 60, 190, 194, 0, 51, 198, 0, 0, 41, 201, 204, 0])
def q_T_times : List Nat × List Nat := ([0, 1, 2, 3, 6, 9, 12, 15, 16, 19, 22, 23, 24, 27, 28, 29, 32, 33, 34, 37, 40, 41, 42, 45, 48, 49, 52, 53, 55, 58, 59, 60, 63, 64, 67, 70, 73, 74, 75, 78, 81, 84], [0, 0, 0, 34, 181, 123, 0, 0, 0, 0, 0, 0, 146, 0, 0, 67, 0, 0, 41, 207, 0, 0, 34, 187, 0, 0, 0, 0, 146, 0, 0, 51, 0, 67, 211, 214, 0, 0, 51, 217, 204, 0])
def q_T_fault : List Nat × List Nat := ([0, 1, 4, 5, 8, 11, 12, 13, 14, 17, 18, 21, 24, 27, 28], [0, 0, 0, 34, 220, 0, 0, 0, 0, 0, 34, 223, 0, 0, 0])
def q_T_told : List Nat × List Nat := ([0, 1, 2, 5, 6, 8, 11, 12, 13, 16, 19, 20, 21, 24, 25, 26, 88, 89, 90, 93, 96, 99, 100, 101, 102, 105, 108, 111, 112, 113, 114, 117, 120, 123, 124, 125, 126, 129, 132, 135, 136, 137, 138, 141, 144, 147, 148, 149, 150, 153, 156, 159, 160, 161, 162, 165], [0, 0, 0, 0, 0, 0, 0, 0, 41, 226, 0, 0, 204, 0, 0, 0, 0, 0, 41, 201, 204, 0, 0, 0, 41, 230, 204, 0, 0, 0, 41, 233, 204, 0, 0, 0, 41, 236, 204, 0, 0, 0, 41, 239, 204, 0, 0, 0, 41, 242, 204, 0, 0, 0, 146, 0])
def q_T_person : List Nat × List Nat := ([0, 1, 4, 5, 8, 11, 12, 13, 15, 18, 21, 22, 23, 26, 27, 28, 29, 32, 33, 34, 37, 38, 41, 42, 43, 44, 47, 48, 51, 52, 55, 58, 59, 61, 64, 65, 66, 104, 105, 106, 109, 112, 113, 114, 117, 118, 119, 120, 123, 126, 127, 128, 131, 132, 133, 134, 137, 140, 141, 142, 145, 146, 147, 148, 151, 154, 155, 156, 159, 160, 161, 162, 165, 168, 169, 170, 173, 174, 175, 176, 179, 180, 183, 186, 187, 188, 189, 192, 193, 196, 199], [0, 41, 0, 245, 0, 0, 0, 0, 123, 0, 0, 0, 146, 0, 0, 0, 0, 0, 0, 0, 0, 0, 0, 0, 0, 0, 0, 41, 0, 247, 0, 0, 0, 146, 0, 0, 0, 0, 0, 41, 250, 0, 0, 204, 0, 0, 0, 41, 253, 0, 0, 204, 0, 0, 0, 41, 256, 0, 0, 204, 0, 0, 0, 41, 259, 0, 0, 204, 0, 0, 0, 41, 262, 0, 0, 204, 0, 0, 0, 41, 0, 265, 204, 0, 0, 0, 41, 0, 268, 204, 0])
def q_T_far : List Nat × List Nat := ([0, 1, 4, 5, 8, 11, 12, 15, 16, 19, 22, 23, 24, 27, 28, 29, 30, 33, 34, 35, 38, 41], [0, 41, 0, 245, 0, 0, 41, 0, 245, 0, 0, 0, 146, 0, 0, 0, 41, 0, 0, 271, 204, 0])
def q_T_drink : List Nat × List Nat := ([0, 1, 4, 5, 8, 11, 12, 13, 16, 17, 18, 21, 22, 25, 28, 29, 31, 34, 35, 36, 37, 40, 41, 44, 47], [0, 41, 0, 245, 0, 0, 0, 146, 0, 0, 41, 0, 274, 0, 0, 0, 146, 0, 0, 0, 41, 0, 277, 204, 0])
def q_T_night : List Nat × List Nat := ([0, 1, 2, 4, 7, 10, 11, 12, 15, 16, 17, 20, 21, 24, 27, 28, 29, 32, 33, 34, 37, 38, 41, 42, 43, 46, 49, 52], [0, 0, 0, 123, 0, 0, 0, 146, 0, 0, 41, 0, 280, 0, 0, 0, 146, 0, 0, 41, 0, 283, 0, 0, 41, 233, 204, 0])
def q_T_evening : List Nat × List Nat := ([0, 1, 4, 5, 8, 11, 12, 13, 16, 17, 18, 19, 22, 23, 26, 29], [0, 41, 0, 280, 0, 0, 0, 146, 0, 0, 0, 41, 0, 286, 204, 0])
def q_T_fill : List Nat × List Nat := ([0, 1, 4, 5, 8, 11, 12, 13, 15, 18, 21, 22, 23, 26, 27, 28, 31, 34, 35, 36, 37, 38, 41, 44, 45, 46, 47, 48, 49, 52], [0, 41, 0, 245, 0, 0, 0, 0, 123, 0, 0, 0, 146, 0, 0, 41, 259, 0, 0, 0, 0, 41, 259, 0, 0, 0, 0, 0, 204, 0])
def q_T_means : List Nat × List Nat := ([0, 1, 4, 5, 8, 11, 12, 13, 15, 18, 21, 22, 23, 26, 27, 28, 31, 34, 35, 36, 37, 38, 41, 44, 45, 46, 47, 48, 49, 52], [0, 41, 0, 245, 0, 0, 0, 0, 123, 0, 0, 0, 146, 0, 0, 41, 253, 0, 0, 0, 0, 41, 253, 0, 0, 0, 0, 0, 204, 0])
def q_T_move : List Nat × List Nat := ([0, 1, 4, 5, 8, 11, 12, 13, 15, 18, 21, 22, 23, 26, 27, 28, 31, 34, 35, 36, 37, 38, 41, 44, 45, 46, 47, 48, 49, 52], [0, 41, 0, 245, 0, 0, 0, 0, 123, 0, 0, 0, 146, 0, 0, 41, 250, 0, 0, 0, 0, 41, 250, 0, 0, 0, 0, 0, 204, 0])
def q_T_aim : List Nat × List Nat := ([0, 1, 2, 3, 6, 9, 10, 11, 14, 15, 16, 19, 22, 23, 24, 25, 26, 27, 30, 31, 33, 36, 37, 38, 41, 44, 45, 46, 47, 48, 49, 50, 53, 54, 57, 60, 63, 64, 67], [0, 0, 0, 289, 0, 0, 0, 146, 0, 0, 41, 262, 0, 0, 0, 0, 0, 0, 0, 0, 146, 0, 0, 41, 262, 0, 0, 0, 0, 0, 0, 0, 0, 41, 201, 0, 0, 204, 0])
def q_T_come : List Nat × List Nat := ([0, 1, 2, 4, 7, 10, 11, 12, 15, 16, 17, 20, 23, 26, 27, 28, 31, 32, 33, 34, 37, 38, 39, 42, 45], [0, 0, 0, 123, 0, 0, 0, 146, 0, 0, 41, 293, 0, 0, 0, 146, 0, 0, 0, 41, 0, 0, 296, 204, 0])
def q_T_rule : List Nat × List Nat := ([0, 1, 2, 4, 7, 10, 11, 14, 15, 16, 19, 20, 21, 24, 27, 28, 29, 32, 33, 34, 37, 40, 41, 42, 43, 44, 47], [0, 0, 0, 123, 0, 0, 300, 0, 0, 303, 0, 0, 123, 0, 0, 0, 127, 0, 0, 41, 226, 0, 0, 0, 0, 134, 0])
def q_T_warmIn : List Nat × List Nat := ([0, 1, 4, 5, 8, 11, 12, 13, 15, 18, 21, 22, 23, 26, 27, 28, 29, 32, 33, 34, 37, 40], [0, 41, 0, 245, 0, 0, 0, 0, 123, 0, 0, 0, 146, 0, 0, 0, 41, 0, 0, 306, 204, 0])
def q_T_darkIn : List Nat × List Nat := ([0, 1, 4, 5, 8, 11, 12, 13, 16, 17, 18, 19, 20, 22, 25, 26, 29, 30, 31, 34, 35, 38, 41, 42, 43, 46, 47, 48, 51, 52, 55, 58, 59, 61, 64], [0, 41, 0, 245, 0, 0, 0, 146, 0, 0, 0, 0, 0, 0, 0, 41, 0, 0, 306, 0, 41, 226, 0, 0, 0, 0, 0, 204, 0, 0, 0, 0, 0, 146, 0])
def q_T_eveningIn : List Nat × List Nat := ([0, 1, 4, 5, 8, 11, 12, 13, 15, 18, 21, 22, 23, 26, 27, 28, 29, 32, 33, 34, 37, 40, 41, 42, 45], [0, 41, 0, 245, 0, 0, 0, 0, 123, 0, 0, 0, 146, 0, 0, 0, 309, 0, 0, 45, 256, 0, 0, 204, 0])
def q_T_litIn : List Nat × List Nat := ([0, 1, 2, 4, 7, 10, 11, 12, 15, 16, 17, 18, 21, 22, 23, 26, 29, 32], [0, 0, 0, 123, 0, 0, 0, 146, 0, 0, 0, 309, 0, 0, 45, 233, 204, 0])
def q_T_settles : List Nat × List Nat := ([0, 1, 4, 5, 6, 7, 10, 11, 13, 16, 19, 20, 21, 22, 25, 28], [0, 312, 0, 0, 0, 0, 0, 0, 146, 0, 0, 0, 0, 315, 204, 0])
def q_T_period : List Nat × List Nat := ([0, 1, 4, 5, 6, 7, 10, 11, 13, 16, 19, 20, 21, 24], [0, 312, 0, 0, 0, 0, 0, 0, 146, 0, 0, 0, 204, 0])
def q_T_lookAhead : List Nat × List Nat := ([0, 1, 4, 5, 8, 11, 12, 13, 14, 15, 18, 19, 22, 23, 26, 27, 30, 33], [0, 45, 0, 41, 194, 0, 0, 0, 0, 0, 0, 45, 0, 286, 0, 0, 0, 0])
def q_T_findPeriod : List Nat × List Nat := ([0, 1, 4, 5, 8, 11, 12, 15, 16, 17, 20, 23, 24, 25, 26, 27, 30, 33, 34, 37, 38, 41, 42, 43, 46, 47, 48, 51, 54, 55, 58, 61, 64, 65, 66, 69, 70, 73, 74, 75, 76, 79, 82, 83, 84, 87, 90, 91, 92, 93, 96, 99, 100], [0, 45, 0, 41, 194, 0, 112, 0, 0, 45, 318, 0, 0, 0, 0, 0, 0, 0, 45, 0, 286, 0, 0, 112, 0, 0, 45, 318, 0, 0, 0, 0, 0, 0, 0, 0, 112, 0, 0, 0, 112, 0, 0, 0, 0, 0, 0, 0, 0, 0, 0, 0, 0])
def q_T_firstSettled : List Nat × List Nat := ([0, 1, 2, 3, 4, 5, 8, 11, 12, 15, 16, 17, 18, 21, 22, 23, 24, 25, 26, 29, 32, 35, 36], [0, 0, 0, 0, 0, 0, 0, 0, 112, 0, 0, 0, 112, 0, 0, 0, 0, 0, 0, 0, 0, 0, 0])
def q_T_chain : List Nat × List Nat := ([0, 1, 4, 5, 8, 11, 12, 13, 16, 17, 18, 19, 22, 23, 26, 29], [0, 41, 0, 245, 0, 0, 0, 146, 0, 0, 0, 41, 0, 322, 204, 0])
def q_T_chainAt : List Nat × List Nat := ([0, 1, 4, 5, 8, 11, 12, 15, 16, 17, 20, 21, 22, 23, 26, 27, 30, 33, 34, 36, 39, 40, 41, 42, 45, 46, 47, 50, 53], [0, 41, 0, 245, 0, 0, 0, 0, 0, 146, 0, 0, 0, 41, 0, 322, 0, 0, 0, 146, 0, 0, 0, 41, 0, 0, 325, 204, 0])
def q_T_rings : List Nat × List Nat := ([0, 1, 2, 3, 4, 5, 6, 9, 12, 15, 16, 19, 20, 23, 26, 29, 32, 35, 36, 37, 40], [0, 0, 0, 0, 0, 0, 41, 201, 0, 0, 41, 0, 328, 0, 0, 0, 0, 0, 0, 204, 0])
def q_T_inRings : List Nat × List Nat := ([0, 1, 2, 3, 4, 5, 6, 9, 12, 15, 16, 19, 20, 23, 26, 27, 28, 29, 30, 31, 32, 35, 38, 39, 40, 43], [0, 0, 0, 0, 0, 0, 41, 201, 0, 0, 41, 0, 331, 0, 0, 0, 0, 0, 0, 0, 0, 0, 0, 0, 204, 0])
def q_T_needs : List Nat × List Nat := ([0, 1, 4, 5, 8, 11, 12, 13, 16, 17, 18, 21, 22, 25, 26, 27, 28, 31, 32, 34, 37, 40, 41, 42, 45], [0, 41, 0, 245, 0, 0, 0, 146, 0, 0, 41, 0, 334, 0, 0, 0, 0, 0, 0, 146, 0, 0, 0, 204, 0])
def q_T_most : List Nat × List Nat := ([0, 1, 2, 4, 7, 10, 11, 12, 15, 16, 17, 18, 21, 22, 25, 28, 31], [0, 0, 0, 123, 0, 0, 0, 146, 0, 0, 0, 41, 0, 337, 340, 204, 0])
def q_T_mostSet : List Nat × List Nat := ([0, 1, 2, 4, 7, 10, 11, 12, 15, 16, 17, 18, 21, 22, 25, 28], [0, 0, 0, 123, 0, 0, 0, 146, 0, 0, 0, 41, 0, 337, 204, 0])
def q_T_misses : List Nat × List Nat := ([0, 1, 4, 5, 8, 11, 12, 13, 16, 17, 18, 19, 22, 23, 26, 29, 30, 31, 34, 35, 38, 41, 42, 45, 46, 49, 50, 51, 52, 53, 56, 59, 60, 61, 62, 65], [0, 41, 0, 245, 0, 0, 0, 146, 0, 0, 0, 309, 0, 45, 233, 0, 0, 45, 0, 41, 194, 0, 45, 0, 286, 0, 0, 0, 0, 45, 233, 0, 0, 0, 204, 0])
def q_T_fits : List Nat × List Nat := ([0, 1, 2, 3, 6, 7, 8, 11, 12, 13, 16, 17, 18, 19, 20, 23, 24, 25, 28, 31, 34], [0, 0, 0, 345, 0, 0, 0, 0, 0, 146, 0, 0, 0, 0, 348, 0, 0, 91, 352, 204, 0])
def q_T_firstOf : List Nat × List Nat := ([0, 1, 4, 5, 8, 11, 12, 13, 14, 17, 20, 21, 23, 25, 28, 29, 31, 34, 35, 36, 37, 38, 41, 42, 45, 48, 51, 52, 54, 57, 60, 61, 62, 65, 66, 69, 72], [0, 41, 0, 245, 0, 0, 0, 0, 345, 0, 0, 0, 0, 0, 0, 0, 146, 0, 0, 0, 0, 348, 0, 91, 352, 0, 0, 0, 146, 0, 0, 0, 91, 0, 355, 204, 0])
def q_T_oddsThat : List Nat × List Nat := ([0, 1, 2, 4, 7, 10, 11, 12, 13, 16, 19, 20, 22, 24, 27, 28, 30, 33, 34, 35, 36, 37, 40, 41, 44, 47, 50, 51, 53, 56, 57, 58, 59, 62, 63, 65, 68, 69, 70, 73, 76, 77, 80], [0, 0, 0, 289, 0, 0, 0, 0, 345, 0, 0, 0, 0, 0, 0, 0, 127, 0, 0, 0, 0, 348, 0, 91, 352, 0, 0, 0, 127, 0, 0, 0, 91, 0, 0, 358, 0, 0, 91, 352, 0, 361, 0])
def q_T_ask : List Nat × List Nat := ([0, 1, 2, 3, 6, 7, 8, 11, 12, 13, 16, 17, 18, 19, 20, 23, 24, 27, 30, 31, 34, 35, 37, 40, 43, 44, 45, 48, 51, 54], [0, 0, 0, 345, 0, 0, 0, 0, 0, 146, 0, 0, 0, 0, 348, 0, 91, 352, 0, 0, 0, 0, 146, 0, 0, 0, 91, 365, 204, 0])
def q_T_waysStatus : List Nat × List Nat := ([0, 1, 2, 3, 5, 6, 9, 10, 11, 14, 15, 16, 17, 18, 21, 24, 25, 27, 28, 30, 32, 33, 34, 35, 38, 39, 42, 43, 45, 48, 50, 52, 53, 54, 57, 59, 61, 62, 63, 66, 67, 68, 71, 74, 75], [0, 0, 0, 0, 0, 368, 0, 0, 0, 0, 0, 0, 0, 41, 201, 0, 0, 0, 0, 0, 0, 0, 0, 0, 0, 27, 0, 0, 150, 0, 0, 0, 0, 0, 0, 0, 0, 0, 0, 0, 0, 0, 0, 0, 0])
def q_T_findWays : List Nat × List Nat := ([0, 1, 4, 5, 8, 11, 14, 15, 16, 17, 18, 21, 22, 25, 26, 29, 30, 31, 32, 33, 36, 37, 38, 41, 42, 43, 44, 45, 46, 47, 50, 51, 54, 57, 60, 61, 64, 67], [0, 91, 0, 41, 201, 372, 0, 0, 0, 0, 0, 0, 91, 0, 27, 0, 0, 0, 0, 150, 0, 0, 27, 0, 0, 0, 0, 0, 0, 150, 0, 375, 0, 0, 0, 91, 378, 0])
def q_T_rowsStatus : List Nat × List Nat := ([0, 1, 4, 5, 8, 11, 12, 13, 14, 17, 20, 21, 22, 23, 26, 27, 30, 33, 34, 35, 36, 38, 39, 40, 43, 44, 47, 50, 51, 54, 55], [0, 27, 0, 116, 0, 0, 0, 0, 123, 0, 0, 0, 0, 27, 0, 162, 0, 0, 0, 0, 0, 0, 0, 27, 0, 165, 0, 0, 0, 0, 0])
def q_T_laws : List Nat × List Nat := ([0, 1, 2, 3, 6, 7, 8, 11, 12, 13, 16, 17, 18, 20, 21, 23, 25, 28, 29, 30, 33, 34, 36, 38, 41, 43, 44, 47, 48, 49, 50, 52, 54, 57, 60, 63, 66, 69, 72, 75, 76, 78, 81], [0, 0, 0, 381, 0, 0, 0, 0, 0, 146, 0, 0, 0, 0, 0, 0, 303, 0, 0, 0, 0, 0, 0, 303, 0, 0, 0, 0, 0, 0, 0, 0, 384, 0, 0, 0, 0, 0, 0, 0, 0, 204, 0])
def q_T_lawOf : List Nat × List Nat := ([0, 1, 2, 3, 6, 9, 10, 11, 12, 15, 18, 19, 21, 23, 26, 27, 29, 32, 33, 34, 36, 38, 41, 42, 43, 46, 47, 49, 51, 54, 56, 57, 60, 61, 62, 63, 65, 67, 70, 73, 74, 75, 78, 80, 83, 85, 88, 89, 92, 95, 98, 101, 102, 104, 107], [0, 0, 0, 123, 0, 0, 0, 0, 381, 0, 0, 0, 0, 0, 0, 0, 146, 0, 0, 0, 0, 303, 0, 0, 0, 0, 0, 0, 303, 0, 0, 0, 0, 0, 0, 0, 0, 384, 0, 0, 0, 0, 0, 0, 0, 204, 0, 0, 0, 0, 0, 0, 0, 146, 0])
def q_T_error : List Nat × List Nat := ([0, 1, 2, 4, 7, 10, 11, 12, 14, 17, 20, 21, 22, 23, 26, 29, 30, 31, 34, 35, 36, 37, 40, 41, 42, 45, 46, 49, 50, 53, 56, 57, 60, 61, 64, 65, 68, 71, 74], [0, 0, 0, 123, 0, 0, 0, 0, 123, 0, 0, 0, 0, 123, 0, 0, 0, 127, 0, 0, 0, 388, 0, 0, 0, 0, 105, 0, 391, 0, 0, 109, 0, 395, 0, 105, 398, 361, 0])
def q_T_cut : List Nat × List Nat := ([0, 1, 2, 4, 7, 10, 11, 12, 15, 16, 17, 18, 21, 22, 23, 24, 27, 28, 31, 32, 35, 36, 39, 40, 41, 42, 44, 46, 48, 51, 52, 55, 57, 60, 61, 64, 66, 69, 70, 72, 74, 75, 76, 79, 81, 82, 84, 85, 88, 91, 92, 93, 96], [0, 0, 0, 123, 0, 0, 0, 146, 0, 0, 0, 388, 0, 0, 0, 105, 0, 391, 0, 109, 0, 395, 0, 0, 0, 0, 0, 0, 0, 0, 105, 0, 391, 0, 109, 0, 395, 0, 0, 0, 0, 0, 0, 0, 0, 0, 0, 0, 0, 0, 0, 204, 0])
def q_T_lawStatus : List Nat × List Nat := ([0, 1, 2, 3, 5, 6, 9, 10, 11, 14, 15, 16, 17, 19, 21, 22, 25, 26, 29, 30, 31, 33, 34, 37, 39, 40, 43, 44, 45, 47, 48, 49, 50, 53, 55, 56, 59, 60, 61, 63, 64, 65, 66, 69, 71, 73, 74, 75, 78, 80, 83, 84, 87, 89, 90, 91, 94, 96, 99, 100, 103, 105, 106, 107, 110, 112, 115, 116, 119, 120, 121, 124, 127, 128], [0, 0, 0, 0, 0, 368, 0, 0, 0, 0, 0, 0, 0, 0, 0, 0, 0, 27, 0, 0, 0, 0, 150, 0, 0, 27, 0, 0, 0, 0, 0, 0, 150, 0, 0, 27, 0, 0, 0, 0, 0, 0, 150, 0, 0, 0, 0, 0, 0, 400, 0, 0, 0, 0, 0, 0, 0, 402, 0, 0, 0, 0, 0, 0, 0, 404, 0, 0, 0, 0, 0, 0, 0, 0])
def q_T_isLaw : List Nat × List Nat := ([0, 1, 3, 5, 6, 9, 10, 13, 14, 15, 17, 18, 21, 22, 24, 25, 28, 29, 30, 32, 33, 34, 35, 38, 39, 41, 42, 44, 46, 48, 51, 52, 53, 56, 57, 58, 60, 61, 62, 63, 66, 67, 70, 71, 72, 75, 78, 79], [0, 0, 0, 0, 0, 0, 27, 0, 0, 0, 0, 150, 0, 0, 0, 27, 0, 0, 0, 0, 0, 0, 150, 0, 0, 0, 0, 0, 0, 406, 0, 0, 27, 0, 0, 0, 0, 0, 0, 150, 0, 0, 0, 0, 0, 0, 0, 0])
def q_T_tasteBoth : List Nat × List Nat := ([0, 1, 4, 5, 6, 9, 12, 13, 14, 17, 18, 21, 22, 23, 26, 29, 30, 31, 34], [0, 105, 0, 0, 41, 226, 0, 0, 409, 0, 109, 0, 0, 41, 226, 0, 0, 409, 0])
def q_T_game : List Nat × List Nat := ([0, 1, 2, 3, 6, 9, 10, 11, 14, 15, 16, 19, 20, 23, 24, 27, 28, 29, 32, 35, 38], [0, 0, 0, 123, 0, 0, 0, 146, 0, 0, 98, 0, 41, 0, 412, 0, 0, 98, 416, 204, 0])
def q_T_moveOf : List Nat × List Nat := ([0, 1, 2, 3, 6, 9, 10, 11, 14, 15, 16, 19, 20, 23, 24, 27, 28, 31, 34, 35, 38, 39, 41, 44, 47, 48, 49, 52, 55, 58], [0, 0, 0, 123, 0, 0, 0, 146, 0, 0, 98, 0, 41, 0, 412, 0, 98, 419, 0, 0, 0, 0, 146, 0, 0, 0, 98, 419, 204, 0])
def q_T_share : List Nat × List Nat := ([0, 1, 4, 5, 8, 11, 12, 13, 16, 17, 18, 21, 24, 25, 26, 29, 30, 32, 35, 38, 39, 40, 43, 46, 47, 48, 49, 50, 51, 54], [0, 41, 0, 245, 0, 0, 0, 127, 0, 0, 41, 239, 0, 0, 0, 0, 0, 127, 0, 0, 0, 41, 256, 0, 0, 0, 0, 0, 361, 0])
def q_T_copyWarmth : List Nat × List Nat := ([0, 1, 4, 5, 8, 11, 12, 13, 16, 17, 18, 21, 22, 25, 28, 29, 30, 33, 34, 35, 38, 39, 40, 41, 44, 47, 50, 53, 54, 55, 58, 59, 60, 61, 62, 63, 66, 69, 72, 73, 76, 77, 78, 79, 82, 85, 86, 87, 88, 91, 94, 97, 98, 99, 102, 105, 108], [0, 27, 0, 116, 0, 0, 0, 146, 0, 0, 27, 0, 162, 0, 0, 0, 146, 0, 0, 27, 0, 0, 0, 41, 201, 171, 0, 0, 0, 146, 0, 0, 0, 0, 0, 41, 201, 0, 0, 27, 0, 0, 0, 41, 256, 0, 0, 0, 142, 0, 0, 0, 0, 41, 201, 204, 0])
def q_T_live : List Nat × List Nat := ([0, 1, 2, 5, 8, 11, 12, 13, 16, 17, 18, 21, 24, 27, 28, 30, 33, 34, 35, 38, 39, 42, 43, 46, 47, 50, 51, 52, 55, 56, 57, 60, 63, 66], [0, 0, 0, 123, 0, 0, 0, 146, 0, 0, 51, 422, 0, 0, 0, 146, 0, 0, 81, 0, 41, 0, 51, 0, 425, 0, 0, 20, 0, 0, 81, 429, 204, 0])
def q_T_lived : List Nat × List Nat := ([0, 1, 2, 3, 6, 9, 10, 11, 14, 15, 16, 19, 22, 23, 25, 28, 29, 30, 60, 61, 62, 65, 68, 71, 72, 73, 74, 77, 80, 83, 84, 85, 86, 89, 92, 95, 96, 97, 98, 101, 104, 107, 108, 109, 110, 113, 116, 119, 120, 123, 124, 127], [0, 0, 0, 123, 0, 0, 0, 146, 0, 0, 20, 0, 0, 0, 146, 0, 0, 0, 0, 0, 81, 432, 204, 0, 0, 0, 81, 435, 204, 0, 0, 0, 81, 438, 204, 0, 0, 0, 81, 441, 204, 0, 0, 0, 81, 444, 0, 0, 0, 0, 204, 0])
def q_T_mean : List Nat × List Nat := ([0, 1, 2, 5, 8, 11, 12, 13, 15, 18, 21, 22, 23, 24, 25, 26, 29, 32, 33, 34, 37, 38, 39, 42, 45, 48, 49, 51, 54, 55, 56, 57, 58, 60, 62, 63, 66, 67, 70, 71, 74, 77, 78, 81, 82, 85, 86, 89, 90, 92, 93, 96, 97, 98, 101, 104, 105, 106, 109, 112, 113, 114, 115, 116, 117, 120], [0, 0, 0, 123, 0, 0, 0, 0, 123, 0, 0, 0, 0, 0, 0, 0, 0, 0, 0, 127, 0, 0, 51, 422, 0, 0, 0, 127, 0, 0, 0, 0, 0, 0, 0, 0, 0, 45, 0, 41, 194, 0, 85, 0, 45, 0, 51, 0, 0, 0, 425, 0, 0, 45, 239, 0, 0, 0, 0, 0, 0, 0, 0, 0, 361, 0])
def q_T_mark : List Nat × List Nat := ([0, 1, 4, 7, 10, 11, 12, 15, 16, 17, 18, 21, 22, 25, 26, 29, 32, 35], [0, 74, 447, 0, 0, 0, 146, 0, 0, 0, 74, 0, 41, 0, 51, 448, 204, 0])
def q_T_undo : List Nat × List Nat := ([0, 1, 4, 7, 10, 11, 13, 16, 17, 18, 19, 22, 23, 26, 27, 30, 33, 36], [0, 74, 452, 0, 0, 0, 146, 0, 0, 0, 74, 0, 41, 0, 51, 455, 204, 0])
def q_T_answer : List Nat × List Nat := ([0, 1, 2, 5, 6], [0, 0, 9, 0, 0])
def q_T_refuse : List Nat × List Nat := ([0, 1, 2, 5, 6], [0, 0, 9, 0, 0])
def q_T_grant : List Nat × List Nat := ([0, 1, 2, 5, 6], [0, 0, 9, 0, 0])
def q_T_deny : List Nat × List Nat := ([0, 1, 2, 5, 6], [0, 0, 9, 0, 0])
def q_T_tell : List Nat × List Nat := ([0, 1, 2, 3, 6, 9, 11, 12, 13, 15, 16, 19, 20, 21, 23, 24, 27, 28, 31], [0, 0, 0, 458, 462, 0, 0, 0, 0, 0, 13, 0, 0, 0, 0, 17, 0, 134, 0])
def q_T_commonDivisor : List Nat × List Nat := ([0, 1, 3, 4, 6, 7, 9, 11, 14, 17, 19, 20, 21, 24, 26, 28, 29, 31, 33, 35, 37, 39, 42, 45, 47], [0, 0, 0, 0, 0, 0, 0, 0, 0, 0, 0, 0, 0, 0, 0, 0, 0, 0, 0, 0, 0, 0, 0, 0, 0])
def q_T_isCouple : List Nat × List Nat := ([0, 1, 4, 5, 8, 11, 12, 15, 16, 19, 22, 23, 24, 27, 28, 31, 32], [0, 41, 0, 245, 0, 0, 41, 0, 245, 0, 0, 0, 0, 0, 0, 0, 0])
def q_T_within : List Nat × List Nat := ([0, 1, 2, 5, 6, 7, 10, 11, 14, 15], [0, 0, 0, 0, 0, 0, 0, 0, 0, 0])
def q_T_warmBy : List Nat × List Nat := ([0, 1, 2, 3, 4, 7, 8, 9, 10, 13, 14, 15, 17, 19, 22, 24, 27, 28], [0, 0, 0, 0, 0, 0, 0, 0, 0, 0, 0, 0, 0, 0, 0, 0, 0, 0])
def q_M_init : List Nat × List Nat := ([0, 1, 4, 5, 8, 10, 13, 14, 16, 18, 21, 22, 23, 26, 27, 28, 30, 33, 34, 35, 37, 38, 39, 40, 41, 42, 43, 44, 45, 46, 47, 48, 49, 50, 51, 52, 53, 56, 57, 60, 62, 65, 66, 69, 71, 74, 75, 78, 80, 83, 84, 85, 88, 89, 90, 93, 94, 95, 97, 100, 101, 103, 105, 108, 109, 112, 114, 117, 118, 120, 122, 125, 126, 128, 130, 133, 134, 136, 138, 141, 142, 144, 146, 149, 150, 152, 154, 157, 158, 160, 162, 165, 166, 167, 169, 172, 173, 174, 176, 179, 180, 181, 183, 186, 187, 189, 191, 194, 195, 196, 198, 201, 202, 203, 205, 208, 209, 210, 213], [0, 1, 0, 0, 0, 7, 0, 0, 0, 13, 0, 0, 17, 0, 0, 0, 21, 0, 0, 0, 0, 0, 0, 0, 0, 0, 0, 0, 0, 0, 0, 0, 0, 0, 0, 0, 24, 0, 0, 0, 27, 0, 0, 0, 30, 0, 0, 0, 34, 0, 0, 37, 0, 0, 41, 0, 0, 0, 44, 0, 0, 0, 47, 0, 0, 0, 50, 0, 0, 0, 53, 0, 0, 0, 56, 0, 0, 0, 59, 0, 0, 0, 62, 0, 0, 0, 65, 0, 0, 0, 68, 0, 0, 0, 71, 0, 0, 0, 74, 0, 0, 0, 77, 0, 0, 0, 80, 0, 0, 0, 83, 0, 0, 0, 86, 0, 0, 89, 0])
def q_M_plain : List Nat × List Nat := ([0, 1, 2, 3, 6, 9, 10, 13, 14, 15, 16, 17, 18, 21, 24, 25, 28, 29, 30, 31, 33, 34, 35, 38, 39, 40, 41, 42, 43, 44, 47, 48, 49, 50, 52, 53, 54, 57, 58, 59, 60, 61, 62, 63, 66, 67, 68, 69, 71, 72, 73, 76, 77, 79, 80, 81, 82, 83, 86, 87, 89, 90, 91, 92], [0, 0, 0, 0, 0, 0, 7, 0, 0, 0, 0, 0, 0, 0, 0, 7, 0, 0, 0, 0, 0, 0, 7, 0, 0, 0, 0, 0, 0, 7, 0, 0, 0, 0, 0, 0, 7, 0, 0, 0, 0, 0, 0, 7, 0, 0, 0, 0, 0, 0, 7, 0, 0, 0, 0, 0, 0, 7, 0, 0, 0, 0, 0, 0])
def q_M_status : List Nat × List Nat := ([0, 1, 4], [0, 93, 0])
def q_M_top : List Nat × List Nat := ([0, 1, 4], [0, 96, 0])
def q_M_bottom : List Nat × List Nat := ([0, 1, 4], [0, 17, 0])
def q_M_is : List Nat × List Nat := ([0, 1, 2, 5, 6, 9, 10, 13, 14], [0, 0, 93, 0, 0, 0, 0, 0, 0])
def q_M_refuse : List Nat × List Nat := ([0, 1, 2, 5, 6], [0, 0, 93, 0, 0])
def q_M_gives : List Nat × List Nat := ([0, 1, 2, 5, 6], [0, 0, 93, 0, 0])
def q_M_tellsBy : List Nat × List Nat := ([0, 1, 3, 4, 6, 8, 9, 10, 13, 15, 17, 18, 20, 22, 24, 26, 28, 31, 32, 33, 35, 36, 39, 40, 41, 43, 44, 47, 48, 49, 52], [0, 0, 0, 0, 0, 0, 0, 0, 0, 0, 0, 0, 0, 0, 0, 0, 0, 0, 0, 0, 0, 96, 0, 0, 0, 0, 17, 0, 0, 106, 0])
def q_M_isTray : List Nat × List Nat := ([0, 1, 4, 5, 6, 9, 10, 13, 14], [0, 0, 0, 0, 0, 0, 0, 0, 0])
def q_M_shrunk : List Nat × List Nat := ([0, 1, 4, 5, 6, 7, 8, 11, 12, 13, 16, 17, 18, 19, 20, 23, 24, 25, 28, 29, 30, 31, 34, 35], [0, 0, 0, 0, 0, 0, 0, 0, 0, 0, 0, 0, 0, 0, 0, 0, 0, 0, 0, 0, 0, 0, 0, 0])
def q_M_tray : List Nat × List Nat := ([0, 1, 4, 7, 8, 11, 12, 13, 16, 17, 20, 21, 23, 26, 27, 28, 31, 32, 33, 36, 37, 38, 39, 40, 43, 44, 45, 46, 47, 49, 51, 52, 55, 56, 59, 61, 62, 63, 65, 66, 67, 68, 71, 74, 75, 76, 79], [0, 110, 0, 0, 0, 0, 0, 0, 0, 0, 0, 0, 0, 0, 0, 106, 0, 0, 21, 0, 0, 0, 0, 24, 0, 0, 0, 0, 0, 0, 0, 0, 0, 27, 0, 0, 0, 0, 0, 0, 0, 0, 0, 0, 0, 106, 0])
def q_M_wrongPlace : List Nat × List Nat := ([0, 1, 4, 7, 8, 11, 12, 15, 16, 17, 18, 21, 22, 25, 26, 29, 30, 31, 34, 35, 36, 39, 40, 43, 44], [0, 110, 0, 0, 0, 0, 24, 0, 0, 0, 0, 0, 0, 0, 0, 0, 0, 24, 0, 0, 0, 0, 0, 0, 0])
def q_M_write : List Nat × List Nat := ([0, 1, 2, 3, 6, 8, 10, 13, 14, 17, 19, 20, 21, 22, 23, 24, 25, 28, 29, 30, 33, 34, 35, 37, 40], [0, 0, 0, 113, 0, 0, 0, 0, 27, 0, 0, 0, 0, 0, 0, 0, 21, 0, 0, 117, 0, 0, 0, 106, 0])
def q_M_read : List Nat × List Nat := ([0, 1, 2, 3, 4, 7, 10, 11, 14, 17, 20, 23, 24, 27, 29, 30, 31, 32, 33, 34], [0, 0, 0, 0, 113, 93, 0, 93, 0, 121, 0, 0, 27, 0, 0, 0, 0, 0, 0, 0])
def q_M_pour : List Nat × List Nat := ([0, 1, 4, 7, 8, 11, 14, 15, 18, 20, 23, 25, 28, 29, 30, 33, 34, 35, 38, 39, 40, 41, 44, 45, 48, 49, 50, 51, 54, 55, 56, 59, 60, 61, 64, 65, 66, 67, 70, 71, 72, 75, 76, 78, 81, 82, 84, 85, 88, 89, 90, 91, 92, 95, 97, 98, 101, 102, 103, 105, 106, 109, 110, 111, 114, 115, 116, 118, 120, 122, 125, 126, 128, 131, 133, 134, 135, 137, 138, 141, 143, 145, 146, 149, 151, 152, 153, 155, 156, 158, 159, 160, 163, 165, 166, 167, 168, 169, 171, 172, 173, 174, 177, 180, 181, 182, 185], [0, 110, 0, 0, 110, 0, 0, 0, 0, 0, 0, 0, 0, 0, 106, 0, 0, 24, 0, 0, 0, 0, 0, 24, 0, 0, 0, 0, 0, 0, 106, 0, 0, 21, 0, 0, 0, 21, 0, 0, 0, 0, 0, 106, 0, 0, 0, 24, 0, 0, 0, 0, 0, 0, 0, 24, 0, 0, 0, 0, 0, 0, 0, 106, 0, 0, 0, 0, 0, 0, 0, 0, 0, 0, 0, 0, 0, 0, 0, 0, 0, 0, 27, 0, 0, 0, 0, 0, 0, 0, 0, 27, 0, 0, 0, 0, 0, 0, 0, 0, 0, 0, 0, 0, 0, 106, 0])
def q_M_isFrom : List Nat × List Nat := ([0, 1, 2, 3, 6, 7, 9, 10, 13, 14, 17, 18], [0, 0, 0, 0, 0, 0, 0, 0, 0, 0, 0, 0])
def q_M_feed : List Nat × List Nat := ([0, 1, 4, 6, 7, 10, 13, 14, 15, 16, 17, 20, 21, 22, 25, 26, 27, 30, 31, 33, 36, 37, 39, 42, 43, 46], [0, 123, 0, 0, 0, 0, 0, 0, 0, 0, 126, 0, 0, 126, 0, 0, 126, 0, 0, 126, 0, 0, 126, 0, 123, 0])
def q_M_four : List Nat × List Nat := ([0, 2, 3, 4, 7, 8, 11, 12, 15, 16, 17, 18, 19, 20, 21, 22, 25, 26, 27, 30, 33, 36], [0, 0, 0, 0, 0, 30, 0, 123, 0, 0, 0, 0, 0, 0, 0, 123, 0, 0, 123, 0, 0, 0])
def q_M_byteAt : List Nat × List Nat := ([0, 1, 2, 5, 8, 9, 12, 13, 14, 17, 18, 21, 22], [0, 0, 129, 0, 0, 34, 0, 0, 0, 0, 0, 0, 0])
def q_M_isSmall : List Nat × List Nat := ([0, 1, 3, 6, 7, 9, 12, 13, 16, 17], [0, 0, 0, 0, 0, 0, 0, 0, 0, 0])
def q_M_isDigit : List Nat × List Nat := ([0, 1, 3, 6, 7, 9, 12, 13, 16, 17], [0, 0, 0, 0, 0, 0, 0, 0, 0, 0])
def q_M_ahead : List Nat × List Nat := ([0, 1, 2, 5, 8, 10, 13, 14, 15, 18, 21, 23, 26, 27, 28, 31, 32, 33, 36, 39, 40, 41, 44, 47, 48, 49, 52, 55, 56, 57, 58, 61, 62, 63, 66, 67, 68, 71, 74, 75, 78, 81, 82, 83, 86, 89, 92, 95, 96, 97, 100, 101, 102, 105, 108, 109, 110, 113, 116, 117, 120, 123, 124, 125, 128, 129, 130, 133, 136, 139, 142, 143, 145, 147, 148, 151, 152, 153, 154, 157, 160, 161, 163, 164, 167, 170, 171, 172, 175, 176, 177, 180, 183, 184, 185, 188, 189, 192, 193, 194, 197, 198, 201, 202, 205, 208, 209, 210, 213, 214, 215, 218, 219, 220, 222, 225, 226, 228, 231, 232, 234, 237, 238, 240, 243, 244, 247, 248, 251], [0, 0, 132, 135, 0, 0, 0, 0, 132, 135, 0, 0, 0, 0, 132, 0, 0, 132, 0, 0, 0, 132, 138, 0, 0, 132, 135, 0, 0, 0, 141, 0, 0, 0, 0, 0, 144, 0, 0, 147, 0, 0, 0, 132, 135, 147, 0, 0, 0, 132, 0, 0, 132, 0, 0, 0, 144, 0, 0, 150, 0, 0, 0, 141, 0, 0, 132, 135, 150, 0, 0, 153, 0, 0, 141, 0, 0, 0, 132, 135, 0, 0, 0, 154, 141, 0, 0, 132, 0, 0, 132, 0, 0, 0, 132, 0, 138, 0, 0, 0, 0, 0, 0, 144, 0, 0, 0, 132, 0, 0, 132, 0, 0, 0, 0, 0, 0, 0, 0, 0, 0, 0, 0, 0, 0, 0, 0, 144, 0])
def q_M_isSign : List Nat × List Nat := ([0, 1, 4, 5, 8, 9, 12, 13, 16, 17, 20, 21], [0, 144, 0, 0, 0, 141, 0, 0, 0, 0, 0, 0])
def q_M_inWords : List Nat × List Nat := ([0, 1, 4, 5, 8, 9, 10, 11, 12, 13, 14, 15, 16, 19, 22, 23, 25, 26, 28, 31, 33, 36, 39, 42, 44, 45, 46, 47, 50, 51, 54, 55, 58, 59, 62, 63, 65, 66, 68, 70, 72, 75, 77, 80, 81, 83, 86, 87, 88, 91, 93, 94, 95, 96, 99, 102, 103, 106, 107, 109, 112, 115, 117, 120, 121, 122, 125, 127, 128, 129, 130, 133, 134], [0, 144, 0, 0, 0, 0, 0, 0, 0, 0, 0, 0, 159, 0, 0, 0, 0, 0, 165, 0, 0, 0, 0, 0, 0, 0, 0, 132, 0, 138, 0, 0, 0, 0, 0, 0, 0, 0, 0, 0, 0, 0, 0, 0, 0, 165, 0, 0, 138, 0, 0, 0, 0, 135, 0, 0, 0, 0, 0, 0, 0, 0, 0, 0, 0, 0, 0, 0, 0, 0, 0, 0, 0])
def q_M_fails : List Nat × List Nat := ([0, 1, 4, 7, 8, 9, 12, 13, 16, 17, 20, 21, 24, 25, 26, 29, 32, 33], [0, 169, 0, 0, 0, 144, 0, 0, 0, 0, 0, 169, 0, 0, 138, 41, 0, 0])
def q_M_begins : List Nat × List Nat := ([0, 1, 4, 5, 6, 9, 12, 13, 14, 17, 18, 19, 20, 21, 24, 25, 26, 27, 28, 31, 32, 35, 36, 37, 40, 41, 42, 43, 46, 49, 50, 51, 54, 55, 56, 59, 60, 61, 64, 65, 66, 69, 70, 71, 74, 75, 78, 79], [0, 0, 0, 0, 123, 0, 0, 0, 0, 0, 0, 0, 0, 129, 0, 0, 0, 0, 0, 0, 34, 0, 0, 30, 0, 0, 0, 0, 0, 0, 0, 123, 0, 0, 169, 0, 0, 41, 0, 0, 132, 0, 0, 172, 0, 175, 0, 0])
def q_M_wantSign : List Nat × List Nat := ([0, 1, 2, 5, 8, 9, 10, 13, 14, 15, 18, 19], [0, 0, 178, 0, 0, 0, 181, 0, 0, 175, 0, 0])
def q_M_wantWord : List Nat × List Nat := ([0, 1, 2, 5, 6, 9, 10, 11, 14, 15, 16, 19, 20], [0, 0, 184, 0, 0, 0, 0, 181, 0, 0, 175, 0, 0])
def q_M_number : List Nat × List Nat := ([0, 1, 4, 5, 8, 9, 10, 13, 14, 15, 18, 19, 22, 23, 26, 27, 30, 31, 32, 35, 36, 37, 40, 41, 42, 45, 46, 47, 50, 51], [0, 144, 0, 0, 0, 0, 181, 0, 0, 141, 0, 0, 0, 141, 0, 0, 0, 0, 181, 0, 0, 7, 0, 0, 141, 0, 0, 175, 0, 0])
def q_M_isName : List Nat × List Nat := ([0, 1, 4, 5, 8, 9, 12, 13, 16, 17, 19, 22, 23, 24, 27, 28, 31, 32, 35, 36], [0, 144, 0, 0, 0, 132, 0, 138, 0, 0, 0, 0, 0, 184, 0, 0, 0, 0, 0, 0])
def q_M_nameHere : List Nat × List Nat := ([0, 1, 2, 3, 6, 7, 8, 9, 12, 15, 16, 18, 19, 20, 21, 24, 25, 26, 27, 30, 33, 34], [0, 0, 0, 138, 0, 0, 0, 132, 0, 0, 0, 0, 0, 0, 135, 0, 0, 0, 0, 0, 0, 0])
def q_M_findHere : List Nat × List Nat := ([0, 1, 2, 3, 4, 7, 8, 11, 12, 13, 14, 15, 16, 19, 20, 23, 24, 25, 28, 31, 32], [0, 0, 0, 0, 0, 0, 13, 0, 0, 0, 0, 0, 188, 0, 0, 0, 0, 0, 0, 0, 0])
def q_M_fault : List Nat × List Nat := ([0, 1, 4, 5, 8, 11, 12, 13, 16, 17, 20, 23, 24], [0, 0, 0, 37, 0, 0, 0, 0, 0, 41, 0, 0, 0])
def q_M_taken : List Nat × List Nat := ([0, 1, 2, 5, 8, 9, 12, 15, 16, 18, 21, 24, 25, 26, 29], [0, 0, 169, 37, 0, 169, 0, 0, 0, 99, 0, 0, 0, 103, 0])
def q_M_personRow : List Nat × List Nat := ([0, 2, 3, 4, 5, 6], [0, 0, 0, 0, 0, 0])
def q_M_isIn : List Nat × List Nat := ([0, 1, 2, 3, 4, 5, 6, 9, 10, 13, 14], [0, 0, 0, 0, 0, 0, 0, 0, 0, 0, 0])
def q_M_isThere : List Nat × List Nat := ([0, 1, 3, 6, 7, 10, 11, 12, 13, 16, 17], [0, 192, 184, 0, 0, 0, 0, 0, 175, 0, 0])
def q_M_perhaps : List Nat × List Nat := ([0, 1, 2, 5, 8, 9, 10, 11, 13, 16, 17, 18, 21, 22, 24, 25, 26], [0, 0, 194, 0, 0, 0, 0, 0, 197, 0, 0, 7, 0, 0, 0, 0, 0])
def q_M_leastOf : List Nat × List Nat := ([0, 1, 2, 5, 6, 7, 10, 11, 14, 15], [0, 0, 0, 0, 0, 0, 0, 0, 0, 0])
def q_M_mostOf : List Nat × List Nat := ([0, 1, 36, 38, 39, 41, 42, 44, 45, 47, 48, 50], [0, 0, 0, 0, 0, 0, 0, 0, 0, 0, 0, 0])
def q_M_aPerson : List Nat × List Nat := ([0, 1, 4, 7, 8, 9, 12, 13, 16, 17, 18, 19, 21, 24, 25, 27, 30, 31, 32, 35, 36, 38, 41, 44, 45, 46, 49, 50, 51, 53, 54, 57, 58, 61, 62, 63, 66, 67, 68, 71, 73, 74, 75, 76, 79, 80, 81, 84, 85, 87, 89, 92, 95, 96, 97, 98, 100, 103, 106, 107, 109, 110, 111, 112, 113, 115, 116, 119, 122, 123, 124, 125, 127, 128, 129, 130, 131, 133, 134, 137, 140, 141, 143, 144, 145, 146, 147, 149, 150, 153, 156, 157, 158, 159, 162, 163, 164, 165, 166, 167, 168, 171, 174, 175, 176, 177, 178, 179, 180], [0, 7, 0, 0, 0, 0, 0, 201, 0, 0, 0, 0, 0, 0, 0, 181, 0, 0, 175, 0, 192, 204, 0, 0, 0, 181, 0, 0, 0, 0, 208, 0, 0, 0, 0, 181, 0, 0, 13, 0, 0, 0, 0, 188, 0, 0, 175, 0, 192, 0, 211, 0, 0, 0, 0, 0, 197, 0, 0, 0, 0, 0, 0, 0, 0, 0, 215, 0, 0, 0, 0, 0, 0, 0, 0, 0, 0, 0, 215, 0, 0, 0, 0, 0, 0, 0, 0, 0, 215, 0, 0, 0, 0, 7, 0, 0, 0, 0, 0, 0, 7, 0, 0, 0, 0, 0, 0, 0, 0])
def q_M_aToast : List Nat × List Nat := ([0, 3, 4, 5, 8, 9, 11, 14, 17, 18, 19, 22, 23, 24, 26, 27, 30, 33, 34, 37, 38, 39, 40, 43, 44, 45, 48, 49, 50, 53, 56, 57, 60, 61, 62, 63, 64, 65, 68, 69, 70, 73, 74, 75, 78, 79, 81, 83, 86, 89, 90, 91, 92, 94, 97, 100, 101, 102, 105, 106, 107, 110, 111, 112, 114, 115, 118, 121, 122, 125, 126, 127, 130, 131, 132, 133, 136, 137, 138, 141, 142, 143, 146, 147, 148, 149, 152, 153, 154, 157, 158, 159, 162, 165, 166, 169, 170, 171, 172, 173, 176, 177, 178, 179, 180, 183, 184], [0, 0, 0, 175, 0, 192, 204, 0, 0, 0, 181, 0, 0, 0, 0, 7, 0, 0, 208, 0, 0, 0, 0, 0, 0, 181, 0, 0, 7, 0, 0, 201, 0, 0, 0, 0, 0, 0, 0, 0, 181, 0, 0, 175, 0, 192, 0, 211, 0, 0, 0, 0, 192, 204, 0, 0, 0, 181, 0, 0, 7, 0, 0, 0, 0, 7, 0, 0, 208, 0, 0, 7, 0, 0, 0, 0, 0, 0, 181, 0, 0, 7, 0, 0, 0, 0, 0, 0, 181, 0, 0, 7, 0, 0, 201, 0, 0, 0, 0, 7, 0, 0, 0, 0, 175, 0, 0])
def q_M_mapPart : List Nat × List Nat := ([0, 1, 3, 6, 7, 8, 11, 12, 14, 17, 18, 19, 22, 23, 24, 25, 28, 29, 30, 33, 34, 37, 40, 41, 42, 45, 46, 47, 49, 52, 53, 56, 59, 60, 62, 65, 68, 69, 72, 73, 74, 75, 77, 80, 81, 84, 87, 88, 90, 93, 96, 97, 100, 101, 102, 103, 104, 107, 108, 109, 110, 111, 114, 115, 118, 119, 122, 123, 124, 125, 126, 127, 128, 129, 132, 133, 134, 135, 138, 141, 144, 145, 147, 150, 153, 154, 157, 158], [0, 192, 184, 0, 0, 0, 0, 0, 0, 0, 0, 181, 0, 0, 0, 0, 0, 0, 219, 0, 222, 0, 0, 0, 181, 0, 0, 0, 0, 0, 226, 0, 0, 0, 230, 0, 0, 0, 0, 0, 0, 0, 0, 0, 233, 0, 0, 0, 230, 0, 0, 0, 0, 0, 0, 0, 219, 0, 0, 0, 0, 219, 0, 175, 0, 0, 0, 0, 0, 0, 0, 0, 0, 236, 0, 0, 0, 239, 197, 0, 0, 0, 230, 0, 0, 0, 0, 0])
def q_M_map : List Nat × List Nat := ([0, 1, 2, 5, 8, 11, 12, 13, 16, 17, 18, 21, 24, 25, 26, 29, 30, 31, 32, 35, 36, 39, 42, 43, 46, 47, 50, 51, 54, 57, 58, 59, 60, 63, 66, 67, 70, 71, 72, 75, 78, 79, 80, 81, 82, 85, 88, 89, 90, 91, 93, 96, 97, 100, 101, 102, 105, 107, 108, 109, 110, 111, 114, 117, 118, 119, 122, 123, 124, 127], [0, 0, 0, 242, 0, 0, 0, 99, 0, 0, 0, 89, 0, 0, 219, 0, 0, 0, 0, 0, 144, 0, 0, 245, 0, 0, 0, 169, 0, 0, 0, 0, 0, 0, 0, 7, 0, 0, 7, 0, 0, 0, 0, 0, 0, 0, 0, 0, 0, 0, 0, 0, 13, 0, 0, 13, 0, 0, 0, 0, 0, 0, 0, 0, 0, 7, 0, 0, 248, 0])
def q_M_personTo : List Nat × List Nat := ([0, 1, 3, 6, 9, 10, 11, 14, 15, 16, 19, 20, 21, 22, 23, 26, 27, 28, 31, 32, 33, 36, 37, 38, 39, 42, 43, 44, 47, 48, 49, 52, 53], [0, 192, 204, 0, 0, 0, 181, 0, 0, 7, 0, 0, 0, 0, 7, 0, 0, 208, 0, 0, 7, 0, 0, 0, 0, 0, 0, 181, 0, 0, 175, 0, 0])
def q_M_test : List Nat × List Nat := ([0, 1, 3, 6, 7, 8, 10, 13, 14, 16, 19, 20, 22, 25, 26, 27, 30, 31, 32, 35, 36, 39, 40, 41, 42, 43, 46, 47, 48, 49, 50, 53, 56, 57, 58, 59, 61, 64, 65, 66, 67, 69, 72, 75, 76, 78, 81, 84, 85, 87, 90, 93, 94, 95, 98, 99, 100, 103, 104, 105, 106, 107, 110, 111, 112, 115, 116, 117, 118, 119, 120, 121, 123, 126, 128, 131, 133, 136], [0, 192, 184, 0, 0, 0, 0, 0, 0, 0, 0, 0, 0, 0, 0, 181, 0, 0, 7, 0, 0, 0, 0, 0, 0, 175, 0, 0, 0, 0, 251, 0, 0, 0, 0, 0, 0, 0, 0, 0, 0, 178, 0, 0, 0, 178, 0, 0, 0, 178, 0, 0, 0, 181, 0, 0, 7, 0, 0, 0, 0, 141, 0, 0, 175, 0, 0, 0, 0, 0, 0, 0, 0, 0, 0, 0, 197, 0])
def q_M_timeOrder : List Nat × List Nat := ([0, 1, 44, 45, 46, 47, 48, 51, 52, 53, 54, 55, 56, 57, 59, 62, 63, 64, 65, 66, 67, 70, 73, 74, 75, 76, 77, 78, 80, 83, 86, 87, 90, 91, 92, 93, 94, 95, 96, 97, 99, 102, 103, 104, 105, 108, 109, 110], [0, 0, 0, 0, 0, 0, 251, 0, 0, 0, 0, 0, 0, 0, 197, 0, 0, 0, 0, 0, 251, 0, 0, 0, 0, 0, 0, 0, 197, 0, 0, 0, 0, 0, 0, 0, 0, 0, 0, 0, 197, 0, 0, 0, 254, 0, 0, 0])
def q_M_timeStep : List Nat × List Nat := ([0, 1, 3, 6, 7, 8, 11, 14, 15, 16, 19, 21, 22, 23, 24, 25, 26, 28, 31, 32, 34, 37, 38, 41, 42, 44, 45, 47, 50, 51, 53, 56, 57, 59, 62, 63, 66, 69, 70, 71, 74, 75, 76, 78, 81, 82, 85, 87, 90, 91, 93, 96, 97, 99, 102, 103, 106, 107, 110, 111, 113, 116, 117, 118, 119, 122, 123, 125, 128, 129, 132, 133, 134, 137, 138, 141, 142, 143, 144, 145, 147, 149, 151, 154, 155, 158, 159, 161, 162, 163, 164, 167, 170, 171, 174, 177, 178, 179, 180, 181, 182, 183, 186, 187, 188, 189, 192, 195, 196, 197, 199, 202, 203, 206, 207, 210, 211, 212, 213, 214, 217, 218, 219, 222, 223, 225, 228, 229, 230, 233, 234, 235, 238, 239, 242, 243, 244, 245, 246, 249, 250, 253, 254, 255, 256, 259, 262, 264, 265, 268, 269, 272, 273, 274, 275, 276, 277, 278, 279, 280, 282, 285], [0, 192, 184, 0, 0, 7, 0, 0, 0, 0, 0, 0, 0, 0, 0, 0, 0, 0, 0, 0, 0, 0, 0, 0, 0, 0, 0, 0, 0, 0, 0, 0, 0, 0, 0, 257, 0, 0, 0, 181, 0, 0, 0, 0, 0, 260, 0, 0, 0, 0, 181, 0, 0, 0, 0, 257, 0, 0, 0, 0, 181, 0, 0, 0, 260, 0, 0, 0, 0, 0, 0, 0, 260, 0, 7, 0, 0, 0, 0, 0, 0, 0, 0, 0, 7, 0, 0, 0, 0, 0, 0, 0, 0, 7, 0, 0, 0, 0, 0, 0, 0, 175, 0, 0, 0, 263, 0, 0, 0, 0, 0, 0, 44, 0, 257, 0, 0, 0, 0, 257, 0, 0, 257, 0, 0, 0, 0, 0, 257, 0, 0, 257, 0, 7, 0, 0, 0, 0, 44, 0, 257, 0, 0, 0, 7, 0, 0, 0, 44, 0, 257, 0, 0, 0, 0, 0, 0, 0, 0, 0, 230, 0])
def q_M_times : List Nat × List Nat := ([0, 1, 2, 5, 8, 11, 12, 13, 16, 17, 18, 21, 24, 25, 26, 27, 28, 31, 32, 33, 36, 37, 38, 39, 42, 43, 46, 49, 50, 53, 54, 57, 58, 61, 64, 65, 68, 71, 72, 73, 76, 77, 78, 81, 84, 85, 88, 90, 91, 94, 97, 98, 99, 101, 102, 103, 106, 109, 110, 113, 114, 115, 118, 121, 122, 123, 124, 125, 128, 131, 132, 133, 136, 139], [0, 0, 0, 242, 0, 0, 0, 99, 0, 0, 7, 0, 0, 0, 0, 0, 257, 0, 0, 260, 0, 0, 0, 0, 0, 144, 0, 0, 266, 0, 0, 0, 169, 0, 0, 257, 0, 0, 0, 181, 0, 0, 169, 0, 0, 7, 0, 0, 7, 0, 0, 0, 0, 0, 0, 0, 0, 0, 7, 0, 0, 7, 0, 0, 0, 0, 0, 0, 0, 0, 0, 260, 248, 0])
def q_M_isPerson : List Nat × List Nat := ([0, 1, 4, 5, 6, 9, 10, 11, 14, 15, 18, 19], [0, 0, 0, 0, 7, 0, 0, 0, 0, 0, 0, 0])
def q_M_areTwo : List Nat × List Nat := ([0, 1, 2, 5, 8, 9, 10, 13, 16, 17, 18, 21, 22, 25, 26], [0, 0, 269, 0, 0, 0, 269, 0, 0, 0, 0, 0, 0, 0, 0])
def q_M_bits : List Nat × List Nat := ([0, 1, 2, 3, 4, 5, 8, 11, 12, 13, 14, 15, 16, 17, 20, 21], [0, 0, 0, 0, 0, 0, 0, 0, 0, 0, 0, 0, 0, 0, 0, 0])
def q_M_personOf : List Nat × List Nat := ([0, 1, 4, 5, 8, 9, 10, 11], [0, 7, 0, 201, 0, 0, 0, 0])
def q_M_whomOf : List Nat × List Nat := ([0, 1, 2, 3, 6], [0, 0, 0, 272, 0])
def q_M_farBetween : List Nat × List Nat := ([0, 1, 2, 3, 6, 7, 8, 9, 12, 13, 14, 15, 16, 19, 20, 21, 22, 25, 26, 29], [0, 0, 0, 272, 0, 0, 0, 272, 0, 0, 0, 0, 272, 0, 0, 0, 272, 0, 275, 0])
def q_M_warmBy : List Nat × List Nat := ([0, 1, 2, 3, 4, 5, 6, 7, 8, 11], [0, 0, 0, 0, 0, 0, 0, 0, 275, 0])
def q_M_warmOf : List Nat × List Nat := ([0, 1, 4, 5, 6, 7, 8, 9, 12, 13, 14, 15, 16, 19, 22, 23, 26, 28, 29, 32], [0, 7, 0, 0, 0, 0, 0, 272, 0, 0, 0, 0, 278, 281, 0, 7, 0, 0, 284, 0])
def q_M_isLit : List Nat × List Nat := ([0, 1, 2, 3, 6, 7, 10, 11, 12, 15, 16, 19, 20], [0, 0, 0, 272, 0, 7, 0, 0, 0, 0, 0, 0, 0])
def q_M_areLit : List Nat × List Nat := ([0, 1, 2, 3, 4, 5, 6, 9, 10, 11, 14, 15, 16, 17, 20, 23, 24, 25, 26, 29, 30, 31, 32, 35, 38, 39], [0, 0, 0, 0, 0, 0, 7, 0, 0, 0, 0, 0, 0, 288, 0, 0, 0, 0, 0, 0, 0, 0, 0, 0, 0, 0])
def q_M_haveWhom : List Nat × List Nat := ([0, 1, 2, 3, 4, 5, 6, 9, 10, 11, 14, 15, 16, 17, 20, 21, 24, 25, 26, 27, 30, 31, 32, 33, 36, 39, 40], [0, 0, 0, 0, 0, 0, 7, 0, 0, 0, 0, 0, 0, 278, 0, 0, 0, 0, 0, 0, 0, 0, 0, 0, 0, 0, 0])
def q_M_warmersOf : List Nat × List Nat := ([0, 1, 2, 3, 4, 5, 6, 9, 10, 11, 14, 15, 16, 17, 20, 21, 24, 25, 26, 27, 30, 31, 32, 33, 36, 39, 40], [0, 0, 0, 0, 0, 0, 7, 0, 0, 0, 0, 0, 0, 278, 0, 0, 0, 0, 0, 0, 0, 0, 0, 0, 0, 0, 0])
def q_M_together : List Nat × List Nat := ([0, 1, 2, 3, 4, 5, 6, 9, 10, 11, 14, 15, 16, 17, 18, 21, 22, 23, 26, 29, 30], [0, 0, 0, 0, 0, 0, 7, 0, 0, 0, 0, 0, 0, 0, 272, 0, 0, 0, 0, 0, 0])
def q_M_told : List Nat × List Nat := ([0, 1, 4, 5, 7, 10, 11, 12, 15, 16, 17, 19, 22, 23, 24, 27, 28, 29, 32, 33, 34, 60, 61, 62, 65, 68, 69, 70, 71, 74, 77, 78, 79, 80, 81, 84, 87, 88, 89, 90, 91, 94, 97], [0, 0, 0, 0, 0, 0, 0, 99, 0, 0, 0, 0, 0, 0, 7, 0, 0, 103, 0, 0, 0, 0, 0, 291, 103, 0, 0, 0, 294, 103, 0, 0, 0, 0, 297, 103, 0, 0, 0, 0, 297, 103, 0])
def q_M_person : List Nat × List Nat := ([0, 1, 2, 5, 8, 9, 12, 13, 15, 18, 19, 20, 23, 24, 25, 26, 29, 30, 31, 32, 33, 36, 39, 40, 41, 43, 46, 47, 48, 49, 52, 55, 56, 57, 58, 61, 62, 65, 66, 68, 71, 72, 73, 74, 75, 78, 79, 80, 83, 86, 87, 88, 91, 94], [0, 0, 269, 0, 0, 0, 0, 0, 0, 0, 0, 99, 0, 0, 0, 0, 0, 0, 0, 0, 272, 103, 0, 0, 0, 0, 0, 0, 0, 300, 103, 0, 0, 0, 278, 0, 0, 0, 0, 99, 0, 0, 0, 0, 0, 0, 0, 278, 0, 0, 0, 303, 103, 0])
def q_M_far : List Nat × List Nat := ([0, 1, 2, 5, 8, 9, 10, 13, 16, 17, 18, 21, 22, 23, 24, 25, 26, 29, 32], [0, 0, 269, 0, 0, 0, 269, 0, 0, 0, 99, 0, 0, 0, 0, 0, 281, 103, 0])
def q_M_warms : List Nat × List Nat := ([0, 1, 4, 5, 8, 9, 10, 12, 13, 14, 15, 18, 19, 20, 23, 24], [0, 7, 0, 201, 0, 0, 0, 0, 0, 0, 272, 0, 0, 154, 0, 0])
def q_M_drinks : List Nat × List Nat := ([0, 1, 4, 5, 6, 7, 10, 11, 14, 15, 18, 19, 20, 21, 22, 25, 26, 27, 28, 31, 32, 33, 34, 35, 36, 37, 38, 39, 40, 41, 42, 45, 46, 47, 50, 53, 54], [0, 201, 0, 0, 0, 278, 0, 0, 0, 7, 0, 0, 0, 0, 0, 0, 0, 0, 7, 0, 0, 0, 0, 0, 0, 0, 0, 0, 0, 0, 278, 0, 0, 303, 306, 0, 0])
def q_M_drink : List Nat × List Nat := ([0, 1, 2, 5, 8, 9, 10, 13, 14, 15, 16, 19, 22, 23, 24, 25, 26, 29, 30, 33, 36, 39, 40, 42, 45], [0, 0, 269, 0, 0, 0, 99, 0, 0, 0, 310, 0, 0, 0, 0, 0, 278, 0, 272, 103, 0, 0, 0, 99, 0])
def q_M_cools : List Nat × List Nat := ([0, 1, 4, 5, 8, 9, 10, 11, 12, 13, 14, 17, 18, 21, 22, 23, 24, 27, 28], [0, 7, 0, 201, 0, 0, 0, 0, 0, 0, 272, 0, 7, 0, 0, 0, 275, 0, 0])
def q_M_nightGoes : List Nat × List Nat := ([0, 1, 2, 3, 4, 7, 8, 9, 12, 13, 14, 17, 20, 23, 24, 27, 29, 30, 31, 32, 33, 34], [0, 0, 0, 0, 7, 0, 0, 0, 0, 0, 313, 0, 0, 0, 7, 0, 0, 0, 0, 0, 0, 0])
def q_M_nightsGo : List Nat × List Nat := ([0, 1, 2, 3, 4, 7, 8, 11, 14, 17], [0, 0, 0, 0, 0, 0, 316, 0, 0, 0])
def q_M_night : List Nat × List Nat := ([0, 1, 2, 3, 6, 9, 12, 13, 14, 17, 18, 19, 22, 24, 25, 26, 27, 30, 33, 34, 35, 38, 39, 40, 41, 44, 45, 46, 49, 52], [0, 0, 0, 319, 321, 0, 0, 0, 99, 0, 0, 7, 0, 0, 0, 0, 0, 0, 0, 0, 99, 0, 0, 0, 325, 0, 0, 291, 103, 0])
def q_M_eveningGoes : List Nat × List Nat := ([0, 1, 4, 5, 8, 9, 10, 11, 12, 15, 16, 17, 18, 19, 20, 21, 22, 23, 24, 25, 26, 28, 31, 32, 35, 36, 37, 38, 41, 44, 45, 46, 47, 48, 51, 52, 53, 56, 57, 58, 59, 62, 65, 66, 69, 70, 71, 74, 75, 76, 77, 78, 81, 82, 83, 86, 89, 90, 91, 92, 93, 96, 97, 98, 101, 102, 103, 104, 107, 108, 109, 112, 115, 118, 119, 122, 123], [0, 291, 0, 294, 0, 0, 0, 0, 0, 0, 0, 0, 0, 0, 0, 0, 0, 0, 0, 0, 0, 0, 0, 47, 0, 0, 0, 0, 0, 0, 0, 0, 0, 7, 0, 0, 0, 0, 0, 0, 222, 0, 0, 47, 0, 0, 278, 0, 0, 0, 0, 303, 0, 0, 0, 0, 0, 0, 0, 0, 7, 0, 0, 0, 0, 0, 0, 47, 0, 0, 306, 0, 0, 0, 316, 0, 0])
def q_M_evening : List Nat × List Nat := ([0, 1, 4, 6, 7, 10, 13, 14, 15, 18, 21, 22, 23, 24, 27, 30], [0, 7, 0, 0, 0, 0, 0, 0, 99, 0, 0, 0, 0, 328, 103, 0])
def q_M_fills : List Nat × List Nat := ([0, 1, 2, 3, 6, 7, 10, 11, 14, 15, 16, 17, 20, 21, 24, 25, 26, 27, 28, 29], [0, 0, 0, 272, 0, 0, 0, 0, 0, 0, 0, 7, 0, 201, 0, 0, 0, 0, 0, 0])
def q_M_fill : List Nat × List Nat := ([0, 1, 2, 5, 8, 9, 10, 11, 14, 17, 20, 21, 22, 25, 26, 27, 28, 29, 32, 33, 34, 35, 36, 39, 40, 41, 42, 45], [0, 0, 269, 0, 0, 0, 0, 331, 321, 0, 0, 0, 99, 0, 0, 0, 0, 272, 0, 0, 0, 0, 333, 0, 0, 0, 103, 0])
def q_M_means : List Nat × List Nat := ([0, 1, 2, 5, 8, 9, 10, 11, 14, 17, 20, 21, 22, 25, 26, 27, 28, 29, 32, 33, 34, 37, 38, 41, 42, 43, 44, 45, 46, 47, 50], [0, 0, 269, 0, 0, 0, 0, 331, 321, 0, 0, 0, 99, 0, 0, 0, 0, 272, 0, 0, 7, 0, 201, 0, 0, 0, 0, 0, 0, 103, 0])
def q_M_move : List Nat × List Nat := ([0, 1, 2, 5, 8, 9, 10, 11, 14, 17, 20, 21, 22, 25, 26, 27, 28, 29, 32, 33, 34, 37, 38, 41, 42, 43, 44, 45, 48], [0, 0, 269, 0, 0, 0, 0, 336, 321, 0, 0, 0, 99, 0, 0, 0, 0, 272, 0, 0, 7, 0, 201, 0, 0, 0, 0, 103, 0])
def q_M_aim : List Nat × List Nat := ([0, 1, 2, 3, 6, 9, 10, 11, 14, 15, 16, 17, 20, 21, 22, 23, 26, 27, 29, 32, 33, 34, 37, 38, 41, 42, 43, 44, 45, 46, 47, 48, 51, 52, 55, 56, 57, 60, 61, 64], [0, 0, 0, 338, 0, 0, 0, 99, 0, 0, 0, 278, 0, 0, 0, 0, 0, 0, 99, 0, 0, 7, 0, 201, 0, 0, 0, 0, 0, 0, 0, 0, 0, 7, 0, 0, 0, 0, 103, 0])
def q_M_come : List Nat × List Nat := ([0, 1, 2, 3, 6, 9, 12, 13, 14, 17, 18, 19, 22, 23, 24, 25, 26, 28, 31, 32, 33, 36, 37, 38, 41, 42, 43, 46, 47, 48, 49, 50, 51, 52, 53, 56, 57, 58, 59, 60, 63, 64, 65, 66, 67, 68, 69, 72, 73, 74, 75, 76, 77, 78, 81, 82, 83, 84, 85, 86, 87, 90, 91, 92, 93, 94, 95, 96, 99, 100, 101, 102, 103, 104, 107], [0, 0, 0, 336, 321, 0, 0, 0, 99, 0, 0, 7, 0, 0, 0, 0, 0, 0, 0, 0, 99, 0, 0, 201, 0, 0, 7, 0, 0, 0, 0, 0, 0, 0, 7, 0, 0, 0, 0, 7, 0, 0, 0, 0, 0, 0, 7, 0, 0, 0, 0, 0, 0, 7, 0, 0, 0, 0, 0, 0, 7, 0, 0, 0, 0, 0, 0, 13, 0, 0, 0, 0, 0, 103, 0])
def q_M_rule : List Nat × List Nat := ([0, 1, 2, 5, 6, 8, 11, 12, 13, 14, 17, 18, 19, 22, 23, 26, 29, 30, 31, 34, 35, 36, 39, 40, 41, 42, 43, 44, 47], [0, 0, 0, 0, 0, 0, 0, 0, 0, 236, 0, 0, 239, 0, 321, 0, 0, 0, 106, 0, 0, 7, 0, 0, 0, 0, 0, 106, 0])
def q_M_levelAt : List Nat × List Nat := ([0, 3, 5, 6, 7, 8], [0, 0, 0, 0, 0, 0])
def q_M_keeps : List Nat × List Nat := ([0, 1, 2, 3, 5, 8, 9, 12, 13, 14, 15, 16, 19, 20, 21, 22, 25, 28], [0, 0, 0, 0, 0, 0, 7, 0, 0, 0, 0, 7, 0, 0, 0, 0, 0, 0])
def q_M_restores : List Nat × List Nat := ([0, 1, 2, 3, 5, 8, 9, 12, 13, 14, 17, 18, 19, 20, 21, 22, 25, 28], [0, 0, 0, 0, 0, 0, 7, 0, 0, 7, 0, 0, 0, 0, 0, 0, 0, 0])
def q_M_cooled : List Nat × List Nat := ([0, 1, 2, 3, 4, 7, 8, 9, 12, 13, 14, 15, 16, 19], [0, 0, 0, 0, 272, 0, 0, 7, 0, 0, 0, 0, 275, 0])
def q_M_warmIn : List Nat × List Nat := ([0, 1, 2, 5, 8, 9, 10, 11, 14, 17, 20, 21, 22, 25, 26, 27, 28, 29, 30, 33, 36], [0, 0, 269, 0, 0, 0, 0, 341, 321, 0, 0, 0, 99, 0, 0, 0, 0, 0, 343, 103, 0])
def q_M_darkIn : List Nat × List Nat := ([0, 1, 2, 5, 8, 9, 10, 13, 14, 15, 16, 17, 19, 22, 23, 24, 25, 28, 29, 32, 33, 34, 37, 38, 39, 42, 43, 46, 49, 50, 52, 55], [0, 0, 269, 0, 0, 0, 99, 0, 0, 0, 0, 0, 0, 0, 0, 0, 343, 0, 7, 0, 0, 0, 0, 0, 103, 0, 0, 0, 0, 0, 99, 0])
def q_M_eveningsGo : List Nat × List Nat := ([0, 1, 2, 3, 4, 7, 8, 9, 12, 13, 16, 19], [0, 0, 0, 0, 0, 0, 0, 328, 0, 0, 0, 0])
def q_M_eveningIn : List Nat × List Nat := ([0, 1, 2, 5, 8, 9, 10, 11, 14, 17, 20, 21, 22, 25, 26, 27, 30, 33, 34, 35, 38, 39, 40, 41, 44, 45, 46, 49, 52, 53, 54, 57], [0, 0, 269, 0, 0, 0, 0, 341, 321, 0, 0, 0, 99, 0, 0, 0, 346, 0, 0, 349, 0, 0, 0, 272, 0, 0, 0, 352, 0, 0, 103, 0])
def q_M_litIn : List Nat × List Nat := ([0, 1, 2, 3, 6, 9, 12, 13, 14, 17, 18, 19, 22, 25, 26, 27, 30, 31, 34, 35, 36, 39, 42, 43, 44, 47], [0, 0, 0, 341, 321, 0, 0, 0, 99, 0, 0, 0, 346, 0, 0, 349, 0, 291, 0, 0, 0, 352, 0, 0, 103, 0])
def q_M_isAlike : List Nat × List Nat := ([0, 1, 2, 3, 4, 7, 8, 9, 12, 13, 16, 18, 19, 20, 21, 22, 23, 24, 27, 29, 30, 31, 32, 33, 34, 37, 38, 39, 42, 45, 46], [0, 0, 0, 0, 7, 0, 0, 0, 0, 50, 0, 0, 0, 0, 0, 0, 0, 50, 0, 0, 0, 0, 0, 0, 0, 0, 0, 0, 0, 0, 0])
def q_M_laysSettled : List Nat × List Nat := ([0, 1, 4, 7, 8, 9, 10, 13, 16, 17, 18, 19, 20, 23, 24, 25, 28, 29, 32, 34, 35, 36, 37, 38, 39, 40, 41, 44, 45, 48, 51, 52, 53, 56, 57, 60, 63, 64, 67, 70, 71, 72, 73, 76, 79, 80, 81, 82, 83, 84, 87, 90, 91, 92, 93, 94, 95, 98, 101, 104, 105, 106, 109, 110, 111, 114, 115, 116, 119, 122, 125, 128, 129], [0, 0, 346, 0, 0, 0, 0, 0, 0, 0, 0, 0, 7, 0, 0, 0, 0, 50, 0, 0, 0, 0, 0, 0, 0, 0, 272, 0, 0, 0, 0, 0, 328, 0, 0, 0, 0, 0, 352, 0, 0, 0, 0, 0, 0, 0, 0, 0, 0, 0, 0, 0, 0, 0, 0, 0, 355, 0, 0, 0, 0, 358, 0, 0, 361, 0, 0, 0, 0, 0, 0, 0, 0])
def q_M_settles : List Nat × List Nat := ([0, 1, 4, 7, 8, 9, 12, 15, 18, 19, 21, 24], [0, 364, 0, 0, 0, 358, 103, 0, 0, 0, 99, 0])
def q_M_period : List Nat × List Nat := ([0, 1, 4, 7, 8, 9, 12, 15, 18, 19, 21, 24], [0, 364, 0, 0, 0, 361, 103, 0, 0, 0, 99, 0])
def q_M_laysChain : List Nat × List Nat := ([0, 1, 2, 3, 4, 7, 8, 9, 10, 11, 14, 15, 16, 17, 20, 23, 24, 25, 26, 27, 28, 29, 30, 33, 34, 37, 38, 39, 40, 41, 44, 45, 46, 49, 50, 51, 54, 55, 58], [0, 0, 0, 0, 367, 0, 0, 0, 0, 0, 0, 0, 0, 222, 0, 0, 0, 0, 0, 0, 0, 0, 53, 0, 367, 0, 0, 0, 0, 367, 0, 0, 367, 0, 0, 278, 0, 0, 0])
def q_M_chain : List Nat × List Nat := ([0, 1, 2, 5, 8, 9, 10, 13, 14, 15, 16, 19, 20, 21, 24, 27], [0, 0, 269, 0, 0, 0, 99, 0, 0, 0, 370, 0, 0, 367, 103, 0])
def q_M_chainAt : List Nat × List Nat := ([0, 1, 2, 5, 8, 9, 12, 13, 14, 17, 18, 19, 20, 23, 24, 25, 28, 31, 32, 34, 37, 40, 41, 42, 45, 46, 47, 50], [0, 0, 269, 0, 0, 0, 0, 0, 99, 0, 0, 0, 370, 0, 0, 367, 0, 0, 0, 99, 0, 0, 0, 53, 0, 0, 103, 0])
def q_M_ringOf : List Nat × List Nat := ([0, 1, 2, 5, 6, 7, 10, 11, 14, 15, 16, 17, 20, 21, 24, 25, 26, 27, 28, 29, 30, 31, 32, 35, 38, 39, 40, 41, 44, 45, 46, 47, 48, 49, 52, 55, 56], [0, 0, 370, 0, 0, 53, 0, 367, 0, 0, 0, 278, 0, 0, 0, 0, 0, 0, 0, 0, 0, 0, 367, 0, 0, 0, 0, 53, 0, 0, 0, 0, 0, 0, 0, 0, 0])
def q_M_rings : List Nat × List Nat := ([0, 1, 2, 3, 4, 5, 6, 9, 10, 11, 14, 15, 16, 19, 20, 21, 24, 25, 26, 27, 28, 29, 30, 31, 34, 35, 38, 39, 41, 42, 44, 47, 48, 51, 52, 53, 54, 57, 60, 61, 62, 65], [0, 0, 0, 0, 0, 0, 7, 0, 0, 0, 0, 0, 373, 0, 0, 0, 0, 0, 0, 0, 0, 0, 0, 0, 0, 0, 0, 0, 0, 0, 0, 0, 0, 0, 0, 0, 0, 0, 0, 0, 103, 0])
def q_M_inRings : List Nat × List Nat := ([0, 1, 2, 3, 4, 5, 6, 9, 10, 11, 14, 15, 16, 17, 20, 21, 22, 25, 28, 29, 30, 33], [0, 0, 0, 0, 0, 0, 7, 0, 0, 0, 0, 0, 0, 373, 0, 0, 0, 0, 0, 0, 103, 0])
def q_M_needsOf : List Nat × List Nat := ([0, 1, 2, 3, 6, 7, 8, 9, 12, 14, 16, 19, 20, 22, 24, 25, 28, 29, 30, 33, 34, 36, 39, 40, 43, 44, 46, 49, 51, 54, 57, 58, 60, 62, 63, 65, 66, 69, 72, 73, 74, 77, 78, 79, 82, 83, 85, 86, 87, 90, 93, 96, 99, 102, 105, 108, 109, 110, 113, 114, 115, 118, 121, 124, 125], [0, 0, 0, 272, 0, 0, 0, 0, 0, 0, 0, 0, 0, 0, 0, 7, 0, 0, 0, 0, 0, 278, 0, 0, 0, 0, 303, 0, 0, 0, 0, 0, 0, 0, 0, 0, 272, 0, 0, 0, 7, 0, 0, 0, 0, 0, 0, 0, 0, 0, 0, 0, 0, 0, 0, 0, 0, 7, 0, 0, 0, 376, 0, 0, 0])
def q_M_needs : List Nat × List Nat := ([0, 1, 2, 5, 8, 9, 10, 13, 14, 15, 16, 19, 20, 21, 24, 27, 28, 30, 33, 36, 37, 38, 41], [0, 0, 269, 0, 0, 0, 99, 0, 0, 0, 377, 0, 0, 376, 0, 0, 0, 99, 0, 0, 0, 103, 0])
def q_M_mostOfAll : List Nat × List Nat := ([0, 1, 2, 3, 4, 7, 8, 9, 12, 13, 16, 17, 18, 19, 22, 23, 26, 29, 30, 31, 32, 33, 34, 35, 36, 39, 40, 41, 42, 45, 46, 48, 49, 51, 53, 54, 57, 58, 59, 62, 64, 65, 66, 68, 71, 74, 75, 78, 80, 81, 84, 85, 86, 88, 91, 94, 96, 97, 100, 101, 104, 105, 108, 111, 112, 113, 116, 119, 120], [0, 0, 0, 0, 7, 0, 0, 0, 0, 56, 0, 0, 0, 377, 0, 0, 0, 0, 0, 0, 0, 0, 0, 0, 7, 0, 0, 0, 0, 0, 0, 0, 0, 0, 0, 7, 0, 0, 0, 0, 0, 0, 0, 222, 0, 0, 56, 0, 0, 0, 0, 0, 0, 0, 0, 0, 0, 0, 0, 380, 0, 380, 0, 0, 0, 0, 0, 0, 0])
def q_M_most : List Nat × List Nat := ([0, 1, 2, 3, 6, 9, 12, 13, 14, 17, 18, 19, 20, 21, 24, 27, 30], [0, 0, 0, 383, 321, 0, 0, 0, 99, 0, 0, 0, 0, 385, 380, 103, 0])
def q_M_mostSet : List Nat × List Nat := ([0, 1, 2, 3, 6, 9, 12, 13, 14, 17, 18, 19, 20, 21, 24, 27], [0, 0, 0, 383, 321, 0, 0, 0, 99, 0, 0, 0, 0, 385, 103, 0])
def q_M_litBehind : List Nat × List Nat := ([0, 1, 4, 7, 8, 9, 12, 13, 14, 17, 18, 19, 22, 25, 26], [0, 0, 346, 0, 0, 328, 0, 0, 291, 0, 0, 0, 352, 0, 0])
def q_M_misses : List Nat × List Nat := ([0, 1, 2, 5, 8, 9, 10, 13, 14, 15, 16, 17, 20, 21, 22, 25, 26, 27, 28, 31], [0, 0, 269, 0, 0, 0, 99, 0, 0, 0, 0, 388, 0, 0, 388, 0, 0, 0, 103, 0])
def q_M_wrongSeen : List Nat × List Nat := ([0, 1, 4, 7, 8, 9, 10, 13, 16, 19, 20, 21, 22, 25, 26, 27, 28, 31, 32, 33, 34, 37, 38, 39, 40, 41, 42, 45, 46, 47, 48, 49, 50, 51, 52, 53, 56, 57, 60, 62, 63, 64, 65, 66, 67, 68, 69, 70, 73, 74, 75, 76, 77, 78, 81, 84, 85, 86, 89, 92, 93], [0, 110, 0, 0, 0, 0, 391, 321, 0, 0, 0, 0, 24, 0, 0, 0, 0, 0, 0, 0, 24, 0, 0, 0, 0, 0, 0, 0, 0, 0, 0, 0, 0, 0, 0, 0, 0, 27, 0, 0, 0, 0, 0, 0, 0, 0, 0, 7, 0, 0, 0, 0, 0, 321, 0, 0, 0, 0, 0, 0, 0])
def q_M_isWay : List Nat × List Nat := ([0, 1, 2, 3, 4, 7, 8, 11, 13, 14, 15, 16, 17, 18, 19, 20, 21, 23, 24, 26, 27, 29, 31, 32, 35, 36, 37, 40, 42, 43, 45, 47, 50, 53, 54, 55, 58, 60, 61, 62, 65, 66, 67, 69, 72, 75, 77, 78, 79, 82, 84, 85, 86, 87, 88, 89, 90, 91, 92, 93, 94, 97, 98, 99, 102, 105, 106], [0, 0, 0, 0, 0, 0, 27, 0, 0, 0, 0, 0, 0, 0, 0, 0, 0, 0, 0, 0, 0, 0, 0, 7, 0, 0, 0, 0, 0, 0, 0, 222, 0, 0, 0, 59, 0, 0, 0, 0, 0, 0, 0, 0, 0, 0, 0, 0, 27, 0, 0, 0, 0, 0, 0, 0, 0, 0, 0, 0, 0, 0, 0, 0, 0, 0, 0])
def q_M_counts : List Nat × List Nat := ([0, 1, 2, 3, 4, 7, 8, 9, 12, 13, 16, 19, 20, 23, 24, 25, 28, 29, 30, 31, 32, 35, 37, 38, 39, 40, 43, 44, 45, 46, 47, 48, 49, 50, 51, 54, 57, 58, 59, 62, 63, 64, 67], [0, 0, 0, 0, 7, 0, 0, 0, 0, 393, 0, 0, 62, 0, 0, 59, 0, 0, 0, 0, 65, 0, 0, 0, 0, 59, 0, 0, 0, 0, 0, 0, 0, 0, 0, 0, 0, 0, 393, 0, 0, 393, 0])
def q_M_mayHave : List Nat × List Nat := ([0, 1, 2, 5, 6, 9, 10, 11, 12, 14, 16, 17, 20, 21, 24, 25, 28, 30, 31, 32, 35, 36, 39, 40, 41, 44, 47, 48], [0, 0, 0, 0, 0, 0, 0, 0, 0, 0, 0, 0, 0, 0, 0, 59, 0, 0, 0, 0, 0, 0, 0, 0, 0, 0, 0, 0])
def q_M_laysWays : List Nat × List Nat := ([0, 1, 4, 5, 6, 7, 8, 9, 12, 13, 15, 17, 19, 22, 23, 26, 28, 29, 30, 33, 36, 37, 40, 41, 42, 43, 44, 47, 50, 51, 54, 55, 58, 59, 60, 62, 63, 66, 67, 68, 69, 71, 74, 75, 78, 80, 81, 82, 83, 84, 85, 86, 89, 91, 92, 93, 96, 99, 102, 103, 105, 106, 109, 111, 112, 115, 118, 121, 123, 124, 125, 126, 129, 130, 131, 132, 135, 138, 139, 142, 145, 148, 149, 152, 154, 155, 156, 159], [0, 7, 0, 0, 0, 0, 0, 393, 0, 0, 0, 0, 0, 0, 65, 0, 0, 0, 0, 0, 0, 0, 0, 0, 0, 0, 396, 0, 0, 0, 0, 393, 0, 0, 0, 0, 59, 0, 0, 0, 0, 0, 0, 59, 0, 0, 0, 0, 0, 0, 0, 59, 0, 0, 0, 0, 0, 0, 0, 0, 0, 59, 0, 0, 399, 0, 0, 0, 0, 0, 0, 0, 0, 0, 0, 396, 0, 0, 402, 0, 0, 0, 59, 0, 0, 0, 0, 0])
def q_M_fits : List Nat × List Nat := ([0, 1, 2, 3, 6, 7, 8, 11, 12, 13, 16, 17, 18, 19, 20, 23, 24, 25, 28, 31], [0, 0, 0, 405, 0, 0, 0, 0, 0, 99, 0, 0, 0, 0, 408, 0, 0, 393, 103, 0])
def q_M_firstOf : List Nat × List Nat := ([0, 1, 2, 5, 8, 9, 10, 11, 14, 17, 18, 20, 22, 25, 26, 28, 31, 32, 33, 34, 35, 38, 39, 42, 45, 46, 48, 51, 54, 55, 56, 59, 60, 61, 64], [0, 0, 269, 0, 0, 0, 0, 405, 0, 0, 0, 0, 0, 0, 0, 99, 0, 0, 0, 0, 408, 0, 393, 0, 0, 0, 99, 0, 0, 0, 62, 0, 0, 103, 0])
def q_M_oddsThat : List Nat × List Nat := ([0, 1, 2, 4, 7, 10, 11, 12, 13, 16, 19, 20, 22, 24, 27, 28, 30, 33, 34, 35, 36, 37, 40, 41, 44, 47, 48, 50, 53, 56, 57, 58, 61, 63, 64, 65, 67, 68, 69, 70, 71, 74, 75, 78], [0, 0, 0, 338, 0, 0, 0, 0, 405, 0, 0, 0, 0, 0, 0, 0, 106, 0, 0, 0, 0, 408, 0, 393, 0, 0, 0, 106, 0, 0, 0, 65, 0, 0, 0, 0, 0, 0, 0, 0, 393, 0, 411, 0])
def q_M_mostAlike : List Nat × List Nat := ([0, 1, 2, 3, 4, 5, 6, 9, 10, 11, 14, 15, 16, 19, 21, 22, 23, 24, 25, 26, 29, 30, 33, 36, 37], [0, 0, 0, 0, 0, 0, 7, 0, 0, 0, 0, 0, 65, 0, 0, 0, 0, 0, 0, 275, 0, 0, 0, 0, 0])
def q_M_ask : List Nat × List Nat := ([0, 1, 2, 3, 6, 7, 8, 11, 12, 13, 16, 17, 18, 19, 20, 23, 24, 27, 28, 31, 32, 34, 37, 38, 39, 41, 42, 44, 46, 47, 50, 51, 52, 55, 56, 58, 61, 62, 64, 67, 70, 72, 74, 77, 80, 81, 83, 86], [0, 0, 0, 405, 0, 0, 0, 0, 0, 99, 0, 0, 0, 0, 408, 0, 393, 0, 0, 0, 0, 99, 0, 0, 0, 0, 0, 0, 0, 7, 0, 0, 0, 0, 0, 415, 0, 0, 415, 0, 0, 0, 0, 0, 0, 0, 103, 0])
def q_M_wrongLaw : List Nat × List Nat := ([0, 1, 4, 7, 8, 9, 10, 13, 16, 19, 20, 21, 22, 25, 26, 27, 28, 31, 32, 33, 34, 37, 38, 39, 40, 41, 42, 45, 46, 47, 48, 49, 50, 51, 54, 56, 57, 58, 59, 60, 61, 62, 64, 65, 68, 70, 71, 72, 75, 78, 81, 82, 85, 87, 88, 89, 90, 91, 94, 97, 100, 101, 104, 106, 107, 108, 109, 110, 113, 116, 119, 120, 121, 124, 127, 128], [0, 110, 0, 0, 0, 0, 418, 321, 0, 0, 0, 0, 24, 0, 0, 0, 0, 0, 0, 0, 24, 0, 0, 0, 0, 0, 0, 0, 0, 0, 0, 0, 0, 0, 0, 0, 0, 0, 0, 0, 0, 0, 0, 27, 0, 0, 0, 331, 321, 0, 0, 27, 0, 0, 0, 0, 0, 336, 321, 0, 0, 27, 0, 0, 0, 0, 0, 420, 321, 0, 0, 0, 0, 0, 0, 0])
def q_M_isLaw : List Nat × List Nat := ([0, 1, 3, 5, 6, 9, 11, 12, 13, 14, 16, 17, 18, 20, 21, 23, 24, 25, 28, 30, 31, 32, 33, 36, 38, 39, 40, 41, 42, 43, 45, 46, 49, 50, 51, 54, 56, 57, 58, 59, 60, 63, 64, 65, 68, 71, 72, 74, 75, 78, 79, 82, 83], [0, 0, 0, 0, 0, 0, 0, 0, 0, 0, 0, 0, 0, 0, 0, 0, 0, 27, 0, 0, 0, 0, 27, 0, 0, 0, 0, 0, 0, 0, 0, 284, 0, 0, 27, 0, 0, 0, 0, 0, 0, 0, 0, 0, 0, 0, 0, 0, 0, 0, 0, 0, 0])
def q_M_laws : List Nat × List Nat := ([0, 1, 2, 3, 6, 7, 8, 11, 12, 13, 16, 17, 18, 20, 22, 24, 26, 29, 32, 34, 36, 38, 39, 42, 43, 45, 46, 47, 50, 53, 54, 57, 58, 59, 61, 64, 67, 68, 70, 73], [0, 0, 0, 422, 0, 0, 0, 0, 0, 99, 0, 0, 0, 0, 0, 0, 0, 0, 0, 0, 0, 0, 0, 0, 0, 0, 0, 425, 0, 0, 0, 0, 0, 0, 0, 0, 0, 0, 103, 0])
def q_M_lawOf : List Nat × List Nat := ([0, 1, 4, 5, 6, 9, 10, 13, 14, 15, 16, 19, 21, 23, 26, 27, 29, 32, 33, 35, 37, 39, 42, 45, 47, 49, 50, 53, 54, 56, 57, 58, 61, 64, 65, 66, 69, 71, 73, 74, 77, 79, 81, 82, 85, 86, 89, 92, 93, 95, 98], [0, 0, 0, 0, 0, 0, 0, 0, 0, 0, 422, 0, 0, 0, 0, 0, 99, 0, 0, 0, 0, 0, 0, 0, 0, 0, 0, 0, 0, 0, 0, 425, 0, 0, 0, 0, 0, 0, 0, 0, 0, 0, 0, 103, 0, 0, 0, 0, 0, 99, 0])
def q_M_atLeast : List Nat × List Nat := ([0, 1, 3, 5, 7, 10, 11, 14, 16, 18, 21, 22, 25, 26, 27, 30, 33, 34, 36, 38, 39, 42, 44, 46, 48, 51, 52, 55, 57, 58, 61, 63, 64, 66, 67, 68, 69, 70, 72, 75, 76, 79, 80, 83, 85, 86, 87, 88, 89, 90, 91, 92, 93, 96, 99, 102, 105, 106, 108, 109, 111, 113, 115, 118, 120, 121, 124, 126, 127, 128, 130, 133, 136, 138], [0, 0, 0, 0, 0, 0, 68, 0, 0, 0, 0, 0, 0, 0, 0, 0, 0, 0, 0, 0, 0, 0, 0, 0, 0, 0, 68, 0, 0, 68, 0, 0, 0, 0, 0, 0, 0, 0, 0, 0, 0, 0, 68, 0, 0, 0, 0, 0, 0, 0, 0, 0, 0, 0, 0, 0, 0, 0, 0, 0, 0, 0, 0, 0, 0, 68, 0, 0, 0, 0, 0, 0, 0, 0])
def q_M_waysOf : List Nat × List Nat := ([0, 1, 2, 3, 4, 5, 6, 9, 10, 13, 14, 15, 18, 21, 22], [0, 0, 0, 0, 0, 0, 0, 0, 428, 0, 0, 0, 0, 0, 0])
def q_M_errorOf : List Nat × List Nat := ([0, 1, 4, 5, 8, 9, 10, 11, 12, 15, 16, 17, 20, 21, 24, 25, 26, 27, 28, 31, 32, 33, 36], [0, 0, 0, 430, 0, 0, 0, 0, 7, 0, 0, 434, 0, 0, 0, 0, 0, 0, 7, 0, 0, 434, 0])
def q_M_error : List Nat × List Nat := ([0, 1, 2, 3, 6, 9, 12, 13, 14, 15, 18, 21, 24, 25, 28, 29, 30, 33, 34, 35, 38, 39, 40, 41, 42, 43, 44, 47, 48, 51, 54], [0, 0, 0, 438, 321, 0, 0, 0, 0, 440, 321, 0, 0, 0, 0, 0, 0, 0, 0, 106, 0, 0, 0, 0, 0, 0, 442, 0, 430, 411, 0])
def q_M_cut : List Nat × List Nat := ([0, 1, 2, 3, 6, 9, 12, 13, 14, 17, 18, 19, 20, 21, 22, 23, 24, 27, 28, 29, 30, 31, 34, 35, 36, 37, 39, 41, 43, 46, 47, 48, 50, 51, 54, 55, 56, 58, 59, 62, 63, 65, 67, 68, 69, 72, 75, 77, 78, 80, 81, 84, 87, 88, 89, 92], [0, 0, 0, 438, 321, 0, 0, 0, 99, 0, 0, 0, 0, 0, 0, 0, 442, 0, 0, 0, 0, 442, 0, 0, 0, 0, 0, 0, 0, 0, 0, 0, 0, 442, 0, 0, 0, 0, 442, 0, 0, 0, 0, 0, 0, 0, 0, 0, 0, 0, 0, 0, 0, 0, 103, 0])
def q_M_settlesAt : List Nat × List Nat := ([0, 1, 4, 5, 6, 7, 10, 11, 14, 15, 16, 17, 20, 21, 22, 23, 26, 27, 28, 31, 32, 33, 36, 39, 40, 41, 44, 45, 46, 49, 50, 51, 54, 55, 56, 57, 58, 61, 62, 63, 66, 67, 68, 69], [0, 77, 0, 0, 0, 0, 0, 0, 0, 0, 0, 0, 0, 0, 0, 0, 0, 0, 74, 0, 0, 0, 0, 0, 0, 74, 0, 0, 0, 0, 0, 74, 0, 0, 0, 0, 77, 0, 0, 71, 0, 0, 0, 0])
def q_M_beginsAt : List Nat × List Nat := ([0, 1, 2, 5, 8, 9, 12, 13, 14, 15, 16, 19, 20, 21, 22], [0, 0, 445, 346, 0, 71, 0, 0, 0, 0, 77, 0, 0, 0, 0])
def q_M_playing : List Nat × List Nat := ([0, 1, 4, 5, 8, 11, 12, 13, 14, 15, 16, 19, 20, 21, 24, 27, 28, 31, 32, 33, 34, 35, 36, 37, 38, 41, 42, 43, 44, 45, 46, 49, 50, 51, 54, 55, 58, 61, 64, 65, 66, 67, 70, 71, 72, 73, 74, 77, 80, 81, 82, 85, 86, 87, 90, 91, 94, 95, 97, 99, 102, 103, 104, 105, 108, 109, 110, 113, 116, 119, 121, 124, 125, 126, 127, 128, 131, 132, 133, 136, 137, 138, 139, 140, 143, 144, 145, 146, 149, 152, 155, 158, 161, 162, 163, 166, 169, 170, 171, 174, 177, 178, 181, 182, 183], [0, 0, 0, 291, 380, 0, 0, 0, 0, 0, 448, 0, 0, 445, 352, 0, 71, 0, 0, 0, 0, 0, 0, 0, 71, 0, 0, 0, 0, 0, 7, 0, 0, 0, 0, 0, 0, 0, 0, 0, 0, 74, 0, 0, 0, 0, 451, 0, 0, 0, 7, 0, 0, 0, 0, 0, 0, 0, 0, 0, 0, 0, 0, 0, 0, 0, 310, 0, 0, 0, 0, 0, 0, 0, 0, 0, 0, 0, 313, 0, 0, 0, 0, 0, 0, 0, 0, 291, 380, 451, 0, 0, 0, 0, 448, 0, 0, 0, 445, 352, 0, 74, 0, 0, 0])
def q_M_game : List Nat × List Nat := ([0, 1, 2, 3, 6, 9, 12, 13, 14, 17, 18, 19, 20, 21, 24, 27], [0, 0, 0, 454, 321, 0, 0, 0, 99, 0, 0, 0, 0, 456, 103, 0])
def q_M_moveOf : List Nat × List Nat := ([0, 1, 2, 3, 6, 9, 12, 13, 14, 17, 18, 19, 20, 23, 24, 25, 28, 29, 30, 31, 34, 35, 36, 39, 40, 42, 45, 48, 49, 50, 53, 54, 55, 58], [0, 0, 0, 454, 321, 0, 0, 0, 99, 0, 0, 0, 456, 0, 0, 77, 0, 0, 0, 7, 0, 0, 0, 0, 0, 99, 0, 0, 0, 77, 0, 0, 103, 0])
def q_M_share : List Nat × List Nat := ([0, 1, 2, 5, 8, 9, 10, 13, 14, 15, 16, 19, 22, 23, 25, 28, 31, 32, 33, 34, 35, 38, 39, 40, 41, 44, 45, 48], [0, 0, 269, 0, 0, 0, 106, 0, 0, 0, 297, 0, 0, 0, 106, 0, 0, 0, 0, 0, 272, 0, 0, 0, 297, 0, 411, 0])
def q_M_copyWarmth : List Nat × List Nat := ([0, 1, 4, 7, 8, 9, 12, 13, 14, 17, 18, 19, 20, 23, 24, 25, 28, 29, 30, 33, 34, 35, 36, 39, 40, 41, 44, 45, 46, 49, 50, 51, 52, 53, 54, 57, 58, 59, 62, 63, 66, 68, 69, 70, 71, 72, 73, 74, 75, 78, 79, 80, 83, 84, 85, 88, 89, 92, 95, 96, 97, 100, 101, 102, 105], [0, 110, 0, 0, 0, 99, 0, 0, 24, 0, 0, 0, 0, 0, 0, 99, 0, 0, 24, 0, 0, 0, 7, 0, 0, 0, 0, 0, 99, 0, 0, 0, 0, 0, 7, 0, 0, 0, 0, 27, 0, 0, 0, 0, 0, 0, 0, 0, 272, 0, 0, 21, 0, 0, 117, 0, 0, 0, 0, 0, 7, 0, 0, 103, 0])
def q_M_draw : List Nat × List Nat := ([0, 1, 2, 5, 8, 9, 12, 13, 16, 17, 20, 21, 24, 26, 27, 28, 29], [0, 0, 459, 0, 0, 0, 0, 462, 0, 459, 0, 459, 0, 0, 0, 0, 0])
def q_M_nightsBy : List Nat × List Nat := ([0, 1, 4, 6, 7, 8, 9, 12, 15, 16, 17, 18, 19, 22, 23, 26, 27, 28, 29, 30, 31, 32, 33], [0, 7, 0, 0, 0, 0, 0, 0, 0, 0, 0, 0, 325, 0, 83, 0, 0, 0, 0, 0, 0, 0, 0])
def q_M_drinksBy : List Nat × List Nat := ([0, 1, 2, 5, 8, 9, 10, 11, 14, 15, 16, 17, 18, 19, 20, 21], [0, 0, 310, 0, 0, 0, 0, 83, 0, 0, 0, 0, 0, 0, 0, 0])
def q_M_eveningsBy : List Nat × List Nat := ([0, 1, 4, 6, 7, 10, 13, 14, 15, 16, 17, 20, 21, 22, 25, 26, 27, 28, 29, 30, 31, 32, 35, 36, 37, 38, 39, 40, 41, 42], [0, 7, 0, 0, 0, 0, 0, 0, 0, 0, 328, 0, 0, 83, 0, 0, 0, 0, 0, 0, 0, 83, 0, 0, 0, 0, 0, 0, 0, 0])
def q_M_doesAny : List Nat × List Nat := ([0, 1, 4, 5, 6, 9, 10, 11, 12, 13, 16, 17, 18, 21, 22, 23, 25, 28, 29, 32, 33, 34, 37, 38, 39, 42, 45, 46, 47, 50], [0, 7, 0, 0, 0, 0, 0, 0, 0, 7, 0, 0, 463, 0, 0, 0, 463, 0, 7, 0, 0, 0, 0, 0, 466, 0, 0, 0, 469, 0])
def q_M_does : List Nat × List Nat := ([0, 1, 4, 5, 6, 7, 8, 9, 10, 13, 14, 15, 48, 49, 50, 53, 54, 55, 56, 59, 60, 61, 64, 65, 66, 67, 68, 71, 72, 73, 74, 75, 78, 79, 80, 83, 84, 85], [0, 7, 0, 0, 0, 0, 0, 0, 7, 0, 0, 0, 0, 0, 466, 0, 0, 0, 469, 0, 0, 472, 0, 0, 0, 0, 7, 0, 0, 0, 0, 333, 0, 0, 475, 0, 0, 0])
def q_M_holds : List Nat × List Nat := ([0, 1, 4, 5, 6, 9, 10, 11, 12, 15, 16, 17, 18, 19, 20, 21, 23, 26, 27, 28, 31, 32, 33, 34, 35, 37, 40, 41, 44, 45, 48, 50, 51, 54, 55, 56, 57, 58, 60, 63, 65, 66, 69, 70, 71, 72, 73, 76, 77, 80, 81, 84, 85, 88, 89, 90, 91, 92, 94, 97, 99, 100, 103, 104, 105, 106, 107, 110, 111, 114, 115, 118, 120, 121, 124, 125, 126, 127, 128, 131, 132, 135, 136], [0, 7, 0, 0, 0, 0, 0, 0, 7, 0, 0, 0, 0, 0, 0, 0, 0, 0, 0, 288, 0, 0, 0, 0, 0, 0, 0, 0, 0, 272, 0, 0, 7, 0, 0, 0, 0, 0, 0, 0, 0, 7, 0, 0, 0, 0, 0, 0, 0, 0, 0, 0, 7, 0, 0, 0, 0, 0, 0, 0, 0, 7, 0, 0, 0, 0, 0, 0, 0, 0, 0, 0, 0, 7, 0, 0, 0, 0, 0, 0, 0, 0, 0])
def q_M_behindEnds : List Nat × List Nat := ([0, 1, 2, 3, 4, 7, 9, 10, 13, 14, 17, 19, 21, 22, 23, 24, 25, 27, 30, 31, 34, 36, 38, 39, 40, 41, 42, 43, 44, 45, 46, 49, 51, 53, 54, 55, 56, 57, 59, 62, 63, 66, 67, 68, 71, 72, 75, 76, 78, 79, 82, 83, 84, 85, 87, 90, 91, 94, 95, 96, 97, 99, 102, 103, 104, 105, 108, 109, 110, 111, 112, 115, 116], [0, 0, 0, 0, 7, 0, 0, 0, 0, 7, 0, 0, 0, 0, 0, 0, 0, 0, 0, 7, 0, 0, 0, 0, 0, 0, 0, 0, 0, 0, 7, 0, 0, 0, 0, 0, 0, 0, 0, 0, 80, 0, 0, 0, 0, 0, 0, 0, 0, 80, 0, 0, 0, 0, 0, 0, 0, 0, 0, 0, 0, 0, 0, 0, 0, 0, 0, 0, 0, 0, 0, 0, 0])
def q_M_lives : List Nat × List Nat := ([0, 1, 2, 5, 6, 7, 10, 11, 12, 13, 14, 17, 18, 21, 22, 23, 24, 27, 30, 31, 32, 33, 34, 37, 39, 40, 43, 44, 47, 50, 53, 54, 57, 58, 59, 60, 61, 63, 65, 66, 67, 68, 69, 70, 71, 74, 75, 76, 79, 80, 83, 84, 85, 87, 90, 91, 92, 95, 96, 97, 98, 99, 100, 103, 106, 107, 110, 111, 112, 113, 114, 117, 118, 119, 121, 124, 125, 128, 129, 130, 133, 134, 135, 136, 137, 138, 139, 140, 141, 142, 145, 146, 147, 150, 153, 154, 155, 158, 161, 162, 165, 166, 167, 168, 169, 170, 171, 174, 175, 176, 177, 180, 181, 184], [0, 0, 459, 0, 0, 478, 0, 0, 0, 0, 0, 0, 83, 0, 0, 0, 0, 0, 0, 0, 0, 0, 7, 0, 0, 0, 0, 478, 0, 0, 0, 83, 0, 0, 0, 0, 0, 0, 0, 0, 0, 0, 0, 0, 478, 0, 0, 478, 0, 7, 0, 0, 0, 0, 0, 0, 83, 0, 0, 0, 0, 0, 481, 0, 0, 0, 0, 0, 0, 0, 7, 0, 0, 0, 0, 0, 80, 0, 0, 7, 0, 0, 0, 0, 0, 0, 0, 0, 0, 7, 0, 0, 0, 0, 0, 0, 484, 0, 0, 7, 0, 0, 0, 0, 0, 0, 0, 0, 0, 0, 487, 0, 0, 0])
def q_M_live : List Nat × List Nat := ([0, 1, 2, 3, 6, 9, 12, 13, 14, 17, 18, 19, 22, 24, 25, 26, 29, 30, 32, 35, 36, 37, 38, 41, 42, 43, 44, 45, 48, 49, 52, 53, 54, 57, 58, 59, 60, 63, 66, 67, 68, 71, 72, 73, 76, 79], [0, 0, 0, 490, 321, 0, 0, 0, 99, 0, 0, 7, 0, 0, 0, 0, 0, 0, 99, 0, 0, 0, 492, 0, 0, 0, 0, 0, 0, 86, 0, 0, 83, 0, 0, 0, 0, 0, 0, 0, 495, 0, 0, 478, 103, 0])
def q_M_lived : List Nat × List Nat := ([0, 1, 4, 5, 6, 9, 10, 11, 14, 15, 16, 19, 22, 23, 24, 27, 28, 29, 32, 35, 36, 38, 41], [0, 0, 0, 0, 0, 0, 0, 99, 0, 0, 495, 0, 0, 0, 86, 0, 0, 103, 0, 0, 0, 99, 0])
def q_M_mean : List Nat × List Nat := ([0, 1, 2, 3, 6, 9, 12, 13, 14, 15, 18, 21, 24, 25, 26, 27, 28, 29, 32, 35, 36, 37, 40, 41, 42, 45, 47, 48, 49, 52, 53, 55, 58, 59, 60, 63, 66, 67, 68, 69, 71, 73, 74, 77, 78, 79, 81, 82, 85, 86, 87, 88, 91, 92, 93, 94, 95, 98, 101, 104, 107, 108, 109, 110, 111, 114], [0, 0, 0, 490, 321, 0, 0, 0, 0, 383, 321, 0, 0, 0, 0, 0, 0, 0, 0, 0, 0, 106, 0, 0, 7, 0, 0, 0, 0, 0, 0, 106, 0, 0, 0, 346, 0, 0, 0, 0, 0, 0, 0, 0, 0, 0, 0, 492, 0, 0, 0, 297, 0, 0, 0, 0, 0, 352, 0, 0, 0, 0, 0, 0, 411, 0])
def q_M_copies : List Nat × List Nat := ([0, 1, 2, 3, 6, 9, 10, 13, 16, 17, 18, 19, 20, 21, 24, 27, 28, 29, 30, 31, 32, 33, 36, 39, 40, 41, 42, 44, 47, 48, 51, 53, 54, 55, 56, 57, 58, 61, 63, 64, 65, 66, 67, 68, 69, 72, 75], [0, 0, 0, 0, 0, 0, 7, 0, 0, 0, 0, 0, 0, 7, 0, 0, 0, 0, 0, 0, 0, 0, 0, 0, 0, 0, 0, 0, 0, 13, 0, 0, 0, 0, 0, 0, 13, 0, 0, 0, 0, 0, 0, 0, 0, 0, 0])
def q_M_mark : List Nat × List Nat := ([0, 1, 4, 5, 8, 9, 10, 13, 14, 15, 16, 19, 20, 21, 24, 25, 26, 27, 30, 33, 34, 35, 38, 41], [0, 499, 0, 0, 0, 0, 99, 0, 0, 0, 499, 0, 0, 499, 0, 0, 0, 499, 502, 0, 0, 499, 103, 0])
def q_M_undo : List Nat × List Nat := ([0, 1, 4, 7, 8, 10, 13, 14, 15, 16, 19, 20, 23, 24, 25, 28, 29, 30, 33, 34, 35, 38, 41], [0, 499, 0, 0, 0, 99, 0, 0, 0, 499, 0, 502, 0, 0, 499, 0, 0, 499, 0, 0, 499, 103, 0])
def q_Co_init : List Nat × List Nat := ([0, 1, 4, 5, 6, 9, 10, 11, 14, 15, 17, 19, 22, 23, 25, 27, 30, 31, 33, 35, 38, 39, 41, 43, 46, 47, 49, 51, 54, 55, 57, 59, 62, 63, 65, 67, 70, 71, 73, 75, 78, 81, 82, 83, 86, 87, 89, 92], [0, 3, 0, 0, 9, 0, 0, 15, 0, 0, 0, 18, 0, 0, 0, 22, 0, 0, 0, 25, 0, 0, 0, 28, 0, 0, 0, 31, 0, 0, 0, 34, 0, 0, 0, 37, 0, 0, 0, 41, 44, 0, 0, 18, 0, 0, 47, 0])
def q_Co_clear : List Nat × List Nat := ([0, 1, 2, 5, 6, 7, 10, 13, 14, 15, 18, 19, 21, 24], [0, 0, 9, 0, 0, 15, 44, 0, 0, 18, 0, 0, 47, 0])
def q_Co_takeFrom : List Nat × List Nat := ([0, 1, 2, 5, 8, 9, 10, 13, 16, 17, 20, 21, 22, 25, 26, 28, 31, 32, 35, 36, 37, 40, 41, 42, 45, 48, 49, 52, 53, 54, 57, 58, 59, 62, 65, 66, 69, 70, 71, 74, 75, 76, 79, 82, 83, 86, 87, 88, 91, 92, 93, 96, 99, 100, 103, 104, 105, 108, 109, 110, 113, 116, 117, 120, 121, 122, 125, 126, 127, 130, 133], [0, 0, 9, 9, 0, 0, 15, 15, 0, 18, 0, 0, 18, 0, 0, 47, 0, 22, 0, 0, 22, 0, 0, 9, 47, 0, 25, 0, 0, 25, 0, 0, 9, 47, 0, 28, 0, 0, 28, 0, 0, 9, 47, 0, 31, 0, 0, 31, 0, 0, 9, 47, 0, 34, 0, 0, 34, 0, 0, 9, 47, 0, 37, 0, 0, 37, 0, 0, 9, 47, 0])
def q_Co_has : List Nat × List Nat := ([0, 1, 4, 5, 6, 9, 12, 13, 16, 17], [0, 0, 0, 0, 9, 0, 0, 0, 0, 0])
def q_Co_isFull : List Nat × List Nat := ([0, 1, 4, 6, 9, 10, 13, 14], [0, 9, 0, 0, 0, 0, 0, 0])
def q_Co_add : List Nat × List Nat := ([0, 1, 4, 6, 9, 11, 12, 15, 17, 18, 19, 20, 23, 25, 26, 27, 28, 31, 33, 34, 35, 36, 39, 41, 42, 43, 44, 47, 49, 50, 51, 52, 55, 57, 58, 59, 60, 62, 63, 64, 67, 69], [0, 9, 0, 53, 0, 0, 22, 0, 0, 0, 0, 25, 0, 0, 0, 0, 28, 0, 0, 0, 0, 31, 0, 0, 0, 0, 34, 0, 0, 0, 0, 37, 0, 0, 0, 0, 0, 0, 0, 9, 0, 0])
def q_Co_named : List Nat × List Nat := ([0, 1, 2, 3, 4, 7, 10, 11, 14, 15, 16, 17, 18, 21, 22, 23, 26, 29, 30], [0, 0, 0, 0, 9, 0, 0, 37, 0, 0, 0, 0, 0, 0, 0, 0, 0, 0, 0])
def q_Co_hasWhom : List Nat × List Nat := ([0, 1, 4, 5, 6, 7, 10, 11, 14, 15], [0, 34, 0, 0, 0, 0, 0, 0, 0, 0])
def q_Co_apart : List Nat × List Nat := ([0, 1, 4, 5, 6, 7, 10, 11, 12, 13, 16], [0, 22, 0, 0, 0, 22, 0, 0, 0, 59, 0])
def q_Co_warmOf : List Nat × List Nat := ([0, 1, 4, 5, 6, 7, 8, 9, 12, 15, 16, 17, 18, 21, 22, 23, 24, 27, 28, 29, 30, 31, 32, 35, 36, 39, 41, 42, 45], [0, 34, 0, 0, 0, 0, 0, 63, 0, 0, 0, 0, 18, 0, 0, 0, 25, 0, 0, 0, 0, 0, 67, 0, 18, 0, 0, 70, 0])
def q_Co_isLit : List Nat × List Nat := ([0, 1, 4, 5, 6, 7, 10, 11, 12, 15, 16, 19, 20], [0, 28, 0, 0, 0, 18, 0, 0, 0, 0, 0, 0, 0])
def q_Co_litSet : List Nat × List Nat := ([0, 1, 2, 3, 4, 5, 6, 9, 12, 13, 14, 17, 20, 21, 22, 23, 24, 25, 26, 29, 32, 33], [0, 0, 0, 0, 0, 0, 9, 0, 0, 0, 74, 0, 0, 0, 0, 0, 0, 0, 0, 0, 0, 0])
def q_Co_toastingSet : List Nat × List Nat := ([0, 1, 2, 3, 4, 5, 6, 9, 12, 13, 14, 17, 20, 21, 22, 23, 24, 25, 26, 29, 32, 33], [0, 0, 0, 0, 0, 0, 9, 0, 0, 0, 77, 0, 0, 0, 0, 0, 0, 0, 0, 0, 0, 0])
def q_Co_warmersOf : List Nat × List Nat := ([0, 1, 2, 3, 4, 5, 6, 9, 12, 13, 16, 17, 18, 19, 22, 23, 24, 25, 26, 27, 28, 31, 34, 35], [0, 0, 0, 0, 0, 0, 9, 0, 0, 34, 0, 0, 0, 0, 0, 0, 0, 0, 0, 0, 0, 0, 0, 0])
def q_Co_allWarmth : List Nat × List Nat := ([0, 1, 2, 3, 4, 5, 6, 9, 12, 13, 14, 17, 18, 19, 20, 21, 24, 27, 28], [0, 0, 0, 0, 0, 0, 9, 0, 0, 0, 28, 0, 0, 0, 0, 0, 0, 0, 0])
def q_Co_allGlasses : List Nat × List Nat := ([0, 1, 2, 3, 4, 5, 6, 9, 12, 13, 14, 17, 18, 19, 20, 21, 24, 27, 28], [0, 0, 0, 0, 0, 0, 9, 0, 0, 0, 31, 0, 0, 0, 0, 0, 0, 0, 0])
def q_Co_warmthAsOne : List Nat × List Nat := ([0, 1, 2, 3, 4, 5, 6, 9, 12, 13, 15, 16, 17, 20, 21, 22, 23, 24, 25, 28, 31, 32], [0, 0, 0, 0, 0, 0, 9, 0, 0, 0, 0, 0, 28, 0, 0, 0, 0, 0, 0, 0, 0, 0])
def q_Co_canDrink : List Nat × List Nat := ([0, 1, 2, 5, 6, 7, 10, 13, 14, 17, 18, 19, 22, 23, 26, 27], [0, 0, 34, 0, 0, 63, 0, 0, 31, 0, 0, 0, 0, 0, 0, 0])
def q_Co_letDrink : List Nat × List Nat := ([0, 1, 4, 5, 6, 7, 8, 11, 12, 13, 14, 17, 18, 19, 20, 21, 22, 25, 26, 29, 31, 32, 35, 36, 37, 40, 41, 42, 43, 44, 45, 46, 47, 50, 51, 53, 54, 57, 58, 59, 60, 61, 64, 65, 66, 69, 70, 71], [0, 34, 0, 0, 0, 0, 18, 0, 0, 0, 25, 0, 0, 0, 0, 0, 67, 0, 18, 0, 0, 70, 0, 0, 31, 0, 0, 0, 0, 0, 0, 0, 28, 0, 0, 0, 28, 0, 0, 0, 0, 53, 0, 0, 28, 0, 0, 0])
def q_Co_hasNights : List Nat × List Nat := ([0, 1, 4, 5, 6, 9, 12, 13, 16, 17], [0, 15, 0, 0, 0, 0, 0, 0, 0, 0])
def q_Co_warmthIn : List Nat × List Nat := ([0, 1, 2, 5, 6, 7, 8, 9, 12, 13, 14, 15, 16, 19], [0, 0, 28, 0, 0, 0, 0, 18, 0, 0, 0, 0, 80, 0])
def q_Co_passNights : List Nat × List Nat := ([0, 1, 2, 5, 6, 7, 10, 11, 12, 13, 14, 17, 20, 21, 24, 25, 26, 27, 28, 31, 32, 35, 38], [0, 0, 15, 0, 0, 15, 0, 0, 0, 0, 9, 0, 0, 28, 0, 0, 0, 0, 83, 0, 0, 0, 0])
def q_Co_passEvening : List Nat × List Nat := ([0, 1, 2, 3, 4, 7, 10, 11, 14, 15, 16, 17, 20, 23, 24, 25, 26, 27, 28, 29, 32, 35, 36, 37, 40, 41, 42, 45, 48, 49, 50, 53, 54, 55, 58, 61, 62, 65, 66, 69, 70, 71, 72, 73, 74, 75, 78, 79, 80, 81, 82, 83, 84, 85, 86, 89, 92, 93, 94, 95, 96, 99, 102, 103, 106, 107, 109, 110, 113, 114, 115, 116, 119, 120, 121, 122, 125, 126, 129, 132, 133, 134, 137, 138], [0, 0, 0, 0, 9, 0, 0, 41, 0, 0, 0, 0, 0, 0, 0, 0, 0, 0, 0, 9, 0, 0, 0, 0, 0, 0, 74, 0, 0, 0, 34, 0, 0, 63, 0, 0, 41, 0, 34, 0, 0, 0, 0, 0, 0, 86, 0, 0, 0, 0, 0, 0, 0, 0, 0, 0, 0, 0, 0, 0, 9, 0, 0, 28, 0, 0, 0, 28, 0, 0, 0, 41, 0, 0, 0, 53, 0, 0, 0, 0, 0, 89, 0, 0])
def q_Co_chainLength : List Nat × List Nat := ([0, 1, 2, 3, 4, 5, 7, 9, 10, 13, 16, 17, 18, 21, 24, 25, 26, 27, 28, 29, 32, 33, 34, 35, 36, 37, 38, 39, 42, 43, 44, 45, 48, 51, 52, 55], [0, 0, 0, 0, 0, 0, 0, 0, 9, 0, 0, 0, 63, 0, 0, 0, 0, 0, 0, 0, 0, 0, 0, 0, 0, 0, 0, 34, 0, 0, 0, 0, 0, 0, 93, 0])
def q_Co_alongChain : List Nat × List Nat := ([0, 1, 2, 3, 5, 7, 8, 11, 13, 14, 17, 20, 21, 22, 25, 26, 27, 30, 33, 34, 37, 38, 39, 40, 43, 46, 47], [0, 0, 0, 0, 0, 0, 0, 0, 0, 9, 0, 0, 0, 34, 0, 0, 63, 0, 0, 34, 0, 0, 0, 0, 0, 0, 0])
def q_Co_isInRing : List Nat × List Nat := ([0, 1, 4, 5, 6, 7, 8, 9, 10, 11, 14, 17, 18, 19, 22, 25, 26, 27, 30, 31, 34, 35, 36, 37, 40, 43, 44, 45, 48, 49, 52, 53], [0, 34, 0, 0, 0, 0, 0, 0, 0, 9, 0, 0, 0, 63, 0, 0, 0, 0, 0, 34, 0, 0, 0, 0, 0, 0, 0, 0, 0, 0, 0, 0])
def q_Co_leadsRing : List Nat × List Nat := ([0, 1, 4, 5, 6, 7, 8, 9, 10, 11, 14, 17, 18, 19, 22, 25, 26, 27, 30, 31, 34, 35, 36, 37, 40, 43, 44, 45, 48, 49, 50, 53, 56, 57, 60, 61], [0, 34, 0, 0, 0, 0, 0, 0, 0, 9, 0, 0, 0, 63, 0, 0, 0, 0, 0, 34, 0, 0, 0, 0, 0, 0, 0, 0, 0, 0, 98, 0, 0, 0, 0, 0])
def q_Co_drinksTo : List Nat × List Nat := ([0, 1, 4, 5, 6, 7, 10, 11, 12, 13, 14, 15, 16, 19, 20, 21, 23, 24, 26, 28, 30, 33, 34, 37, 38, 39, 42, 44, 46, 47, 50, 51, 52, 53, 54, 56, 57, 58, 59, 60, 61, 62, 63, 65, 68, 71, 73, 74, 77, 79, 80, 81, 83, 84, 85, 86, 88, 89, 92, 94, 96, 98, 99, 101, 102, 104, 106, 107, 108, 109, 112, 115, 116, 119, 120, 123, 125], [0, 18, 0, 0, 0, 28, 0, 0, 0, 0, 0, 0, 101, 0, 0, 0, 0, 0, 0, 0, 0, 0, 0, 0, 0, 104, 0, 0, 0, 0, 0, 0, 0, 0, 0, 0, 0, 0, 0, 0, 0, 0, 0, 86, 80, 0, 0, 31, 0, 0, 0, 0, 0, 0, 0, 0, 0, 53, 0, 0, 0, 0, 0, 0, 0, 0, 0, 0, 0, 0, 0, 0, 0, 0, 0, 0, 0])
def q_Co_warmestOf : List Nat × List Nat := ([0, 1, 2, 3, 4, 5, 7, 9, 10, 13, 16, 17, 18, 20, 21, 22, 25, 26, 28, 31, 32, 35, 37, 38, 39, 41, 44, 45, 48, 51, 52], [0, 0, 0, 0, 0, 0, 0, 0, 9, 0, 0, 0, 0, 0, 0, 0, 0, 0, 86, 0, 0, 0, 0, 0, 0, 86, 0, 0, 0, 0, 0])
def q_Co_mostLit : List Nat × List Nat := ([0, 1, 2, 3, 4, 7, 10, 11, 14, 15, 16, 17, 20, 21, 24, 27, 28, 29, 30, 31, 32, 33, 34, 37, 38, 41, 42, 45, 46, 49, 52, 53, 54, 55, 58, 61, 62, 63, 66, 69, 70], [0, 0, 0, 0, 9, 0, 0, 41, 0, 0, 0, 107, 0, 0, 0, 0, 0, 0, 0, 0, 0, 0, 9, 0, 0, 0, 93, 0, 93, 0, 0, 0, 0, 110, 0, 0, 0, 0, 0, 0, 0])
def q_Co_canAllBeLit : List Nat × List Nat := ([0, 1, 2, 3, 5, 7, 8, 11, 14, 15, 16, 18, 19, 20, 23, 24, 27, 29, 30, 31, 34, 35, 36, 37, 38, 41, 43, 44, 45, 46, 49, 52, 53, 54, 57, 58, 61, 62], [0, 0, 0, 0, 0, 0, 9, 0, 0, 0, 0, 0, 0, 0, 0, 41, 0, 0, 0, 0, 0, 0, 0, 0, 41, 0, 0, 0, 0, 0, 0, 0, 0, 0, 0, 0, 0, 0])
def q_Ga_init : List Nat × List Nat := ([0, 1, 4, 5, 8, 9, 12, 15, 16, 17, 20, 21, 22, 25, 26, 27, 30], [0, 3, 0, 9, 0, 11, 12, 0, 0, 18, 0, 0, 22, 0, 0, 25, 0])
def q_Ga_worth : List Nat × List Nat := ([0, 1, 4], [0, 22, 0])
def q_Ga_firstMove : List Nat × List Nat := ([0, 1, 4], [0, 25, 0])
def q_Ga_playOut : List Nat × List Nat := ([0, 1, 4, 5, 8, 9, 10, 11, 14, 17, 18, 19, 22, 23, 26, 27, 30, 31, 32, 35, 38, 39, 40, 41, 44, 45, 48, 51, 52, 53, 54, 55, 57, 59, 60, 63, 66, 69, 70, 73, 75, 78, 81, 82, 84, 85, 86, 89, 90, 93, 95, 97, 98, 101, 104, 105, 107, 110, 111, 113, 116, 119, 122, 123, 124, 125, 128, 129, 132, 134, 136, 137, 140, 143, 144, 146, 149, 150, 151, 154], [0, 12, 0, 28, 0, 0, 0, 32, 18, 0, 0, 25, 0, 18, 0, 0, 0, 0, 38, 22, 0, 0, 0, 22, 0, 12, 42, 0, 0, 0, 0, 0, 0, 0, 12, 42, 0, 0, 12, 0, 45, 0, 0, 0, 0, 0, 22, 0, 49, 0, 0, 0, 22, 0, 0, 0, 22, 0, 0, 25, 0, 0, 0, 0, 0, 22, 0, 53, 0, 0, 0, 22, 0, 0, 0, 22, 0, 0, 25, 0])
def q_Ga_litCount : List Nat × List Nat := ([0, 1, 4, 7, 10], [0, 12, 57, 60, 0])
def q_Ga_butler : List Nat × List Nat := ([0, 1, 2, 5, 8, 9, 12, 13, 14, 15, 16, 17, 18, 19, 22, 24, 25, 27, 29, 30, 33, 36, 39, 41, 42, 45, 46, 49, 51, 54, 57, 59, 60, 62, 63, 64, 66, 69, 70, 73, 76, 78, 81, 84, 86], [0, 0, 18, 0, 0, 38, 0, 0, 0, 0, 0, 0, 0, 53, 0, 0, 0, 0, 0, 12, 42, 0, 0, 0, 0, 0, 12, 0, 45, 0, 0, 0, 0, 0, 0, 0, 66, 0, 49, 66, 0, 0, 0, 0, 0])
def q_Ga_behindDrink : List Nat × List Nat := ([0, 1, 4, 7, 8, 9, 11, 12, 15, 18, 20, 21, 23, 24, 27, 28, 31, 32, 33, 34, 35, 36, 37, 39, 42, 44, 45, 48, 51, 52, 53, 54, 55, 56, 57, 58, 61, 64, 66, 68, 69, 71], [0, 12, 69, 0, 0, 0, 0, 12, 73, 0, 0, 0, 0, 12, 0, 76, 0, 0, 0, 0, 0, 0, 0, 53, 0, 0, 12, 79, 0, 0, 0, 0, 0, 0, 0, 12, 73, 0, 0, 0, 0, 0])
def q_Ga_draught : List Nat × List Nat := ([0, 1, 2, 5, 8, 9, 12, 13, 14, 15, 16, 17, 18, 19, 22, 24, 25, 27, 29, 30, 33, 36, 39, 41, 42, 45, 46, 49, 52, 54, 55, 57, 58, 61, 63, 64, 67, 69, 71, 73, 76, 77, 80, 83, 85, 87, 88, 90, 91, 92, 93, 94, 95, 96, 98, 101, 104, 107, 109, 110, 113, 116, 118, 120, 121, 124, 127, 129], [0, 0, 18, 0, 0, 38, 0, 0, 0, 0, 0, 0, 0, 82, 0, 0, 0, 0, 0, 12, 42, 0, 0, 0, 0, 0, 12, 73, 0, 0, 0, 0, 12, 0, 0, 85, 0, 0, 0, 0, 0, 12, 73, 0, 0, 0, 0, 0, 0, 0, 0, 0, 0, 0, 32, 82, 32, 0, 0, 12, 73, 0, 0, 0, 0, 0, 0, 0])
def q_Gl_init : List Nat × List Nat := ([0, 1, 4, 5, 7, 9, 12, 13, 14, 17], [0, 1, 0, 0, 0, 9, 0, 0, 13, 0])
def q_Gl_taste : List Nat × List Nat := ([0, 1, 2, 4, 7, 10, 11, 12, 13, 15, 18, 19, 22, 23, 24, 25, 28, 31, 32, 35, 36, 37, 38, 39, 40, 41, 42, 45, 48, 49, 51, 53, 56, 57, 60, 62, 63, 66, 68, 69, 71, 72, 73, 74, 75, 76, 79, 81, 82, 83, 84, 85, 86, 87, 88, 89, 92, 95, 96, 99, 100, 101, 102, 104, 105, 106, 107, 108, 109, 112, 115], [0, 0, 0, 17, 13, 0, 0, 0, 0, 0, 0, 9, 0, 0, 0, 0, 0, 0, 9, 0, 0, 0, 0, 0, 0, 0, 13, 0, 0, 0, 0, 0, 0, 9, 0, 0, 9, 0, 0, 0, 0, 0, 0, 0, 0, 9, 0, 0, 0, 0, 0, 0, 0, 0, 0, 0, 0, 0, 9, 0, 0, 0, 0, 0, 0, 0, 0, 0, 0, 0, 0])
def q_Gl_all : List Nat × List Nat := ([0, 1, 2, 3, 6, 7, 8], [0, 0, 0, 13, 0, 0, 0])
def q_Gl_below : List Nat × List Nat := ([0, 1, 2, 3, 5, 7, 8, 11, 13, 14, 17, 20, 21, 22, 25, 27, 28, 29, 30, 33, 36, 37], [0, 0, 0, 0, 0, 0, 0, 0, 0, 13, 0, 0, 0, 9, 0, 0, 0, 0, 0, 0, 0, 0])
def q_Gl_from : List Nat × List Nat := ([0, 1, 4, 5, 6, 9, 10], [0, 23, 0, 0, 27, 0, 0])
def q_Li_init : List Nat × List Nat := ([0, 1, 4, 5, 7, 9, 12, 13, 14, 17, 18, 19, 22, 23, 24, 27, 28, 29, 32, 33, 34, 37, 38, 39, 42, 43, 44, 47], [0, 3, 0, 0, 0, 11, 0, 0, 17, 0, 0, 21, 0, 0, 24, 0, 0, 27, 0, 0, 30, 0, 0, 33, 0, 0, 36, 0])
def q_Li_runThrough : List Nat × List Nat := ([0, 1, 2, 5, 6, 7, 10, 11, 12, 15, 16, 17, 20, 21, 22, 25, 26, 27, 30, 31, 32, 35, 36, 38, 39, 41, 43, 45, 48, 50, 51, 54, 57, 58, 61, 63, 64, 66, 69, 70, 71, 73, 76, 78, 81, 82, 85, 88, 91, 92, 93, 96, 97, 98, 99, 102, 103, 104, 107, 108, 109, 110, 112, 115, 117, 120, 123], [0, 0, 17, 0, 0, 21, 0, 0, 24, 0, 0, 27, 0, 0, 30, 0, 0, 33, 0, 0, 36, 0, 0, 0, 0, 0, 40, 0, 0, 0, 41, 0, 0, 44, 0, 0, 0, 0, 0, 0, 0, 47, 0, 0, 0, 21, 0, 0, 0, 0, 36, 0, 0, 0, 21, 0, 0, 21, 0, 0, 0, 0, 51, 0, 0, 0, 0])
def q_Li_behindEnd : List Nat × List Nat := ([0, 1, 4, 5, 6, 7, 8, 11, 12, 13, 15, 18, 19, 22, 23, 24, 25, 28, 29, 32, 33, 34, 35, 36, 37, 38, 39, 40, 41, 42, 43, 44, 45], [0, 55, 0, 0, 0, 0, 44, 0, 0, 0, 0, 0, 11, 0, 0, 0, 0, 0, 11, 0, 0, 0, 0, 0, 0, 0, 0, 0, 0, 0, 0, 0, 0])
def q_Li_behindStep : List Nat × List Nat := ([0, 1, 4, 5, 6, 8, 9, 12, 13, 14, 60, 61, 62, 64, 67, 70, 71, 72, 73, 76, 77, 78, 81, 84, 85, 86, 89, 92, 93, 94, 96, 97, 100, 101, 102, 105, 108, 109, 110, 113, 116, 117, 118, 119, 120, 123, 126, 127, 128, 129, 132, 133, 136, 137, 138, 139, 140, 141, 142, 145, 146, 147, 150, 151, 152, 153, 156, 157, 160, 161, 162, 163, 164], [0, 58, 0, 0, 0, 0, 44, 0, 0, 0, 0, 0, 0, 61, 0, 0, 0, 0, 65, 0, 0, 68, 0, 0, 0, 71, 0, 0, 0, 0, 0, 65, 0, 0, 75, 0, 0, 0, 79, 0, 0, 0, 0, 0, 82, 0, 0, 0, 0, 0, 0, 55, 0, 0, 0, 0, 0, 0, 11, 0, 0, 65, 0, 0, 0, 0, 0, 41, 0, 0, 0, 0, 0])
def q_Li_liveDrink : List Nat × List Nat := ([0, 1, 2, 5, 8, 9, 10, 13, 16, 17, 18, 21, 22, 23, 26, 27, 28, 29, 32, 33, 34, 35, 38, 39, 40, 43], [0, 0, 86, 0, 0, 0, 92, 0, 0, 0, 24, 0, 0, 24, 0, 0, 0, 95, 0, 0, 0, 30, 0, 0, 30, 0])
def q_Li_liveNights : List Nat × List Nat := ([0, 1, 2, 5, 8, 9, 10, 13, 14, 15, 18, 19, 20, 21, 24, 25, 26, 29, 30, 31, 34], [0, 0, 99, 0, 0, 0, 24, 0, 0, 24, 0, 0, 0, 102, 0, 0, 27, 0, 0, 27, 0])
def q_Li_liveEvening : List Nat × List Nat := ([0, 1, 2, 5, 8, 9, 10, 13, 14, 15, 18, 19, 20, 21, 24, 25, 26, 27, 30, 31, 32, 35, 36, 37, 40, 41, 42, 45], [0, 0, 99, 0, 0, 0, 24, 0, 0, 24, 0, 0, 0, 106, 0, 0, 0, 27, 0, 0, 27, 0, 0, 33, 0, 0, 33, 0])
def q_Li_liveFill : List Nat × List Nat := ([0, 1, 2, 5, 8, 9, 12, 13, 14, 15, 18, 19, 20, 23, 24, 25, 28, 29, 30, 33, 34, 35, 36], [0, 0, 86, 0, 0, 109, 0, 0, 0, 0, 0, 0, 24, 0, 0, 24, 0, 0, 109, 0, 0, 0, 0])
def q_Li_liveAny : List Nat × List Nat := ([0, 1, 4, 5, 8, 9, 10, 13, 14, 15, 18, 19, 20, 21, 24, 27, 28, 29, 31, 34, 35, 38, 39, 40, 43, 44, 45, 46, 49, 52, 53, 54, 55, 58], [0, 112, 0, 0, 0, 0, 24, 0, 0, 24, 0, 0, 0, 112, 115, 0, 0, 0, 115, 0, 118, 0, 0, 0, 0, 0, 0, 61, 0, 0, 0, 0, 68, 0])
def q_Li_drawBy : List Nat × List Nat := ([0, 1, 2, 5, 8, 9, 12, 13, 15, 16, 19, 20, 23, 25, 26, 27, 28, 31, 32], [0, 0, 17, 0, 0, 0, 0, 121, 0, 17, 0, 17, 0, 0, 0, 0, 122, 0, 0])
def q_Li_holds : List Nat × List Nat := ([0, 1, 4, 5, 6, 8, 9, 11, 14, 17, 18, 19, 20, 23, 24, 25, 27, 30, 31, 33, 36, 37, 38, 41, 42, 43, 45, 48, 49, 52, 54, 55, 58, 59, 62, 64, 65, 67, 68, 71, 72, 73, 100, 102, 103, 106, 107, 108, 111, 112, 115, 116, 117, 119, 120, 123, 124, 125, 128, 129, 132, 133, 134, 136, 137, 140, 141, 142, 145, 146, 149, 150], [0, 58, 0, 0, 0, 0, 0, 86, 0, 0, 0, 0, 128, 0, 0, 0, 0, 0, 0, 131, 0, 0, 128, 0, 0, 0, 0, 0, 134, 0, 0, 0, 0, 109, 0, 0, 0, 0, 137, 0, 0, 0, 0, 0, 65, 0, 0, 0, 0, 0, 0, 0, 0, 0, 65, 0, 0, 0, 0, 0, 0, 0, 0, 0, 65, 0, 0, 0, 0, 0, 0, 0])
def q_MR_init : List Nat × List Nat := ([0, 1, 4, 5, 8, 9, 12, 15, 16, 17, 20, 21, 22, 25], [0, 3, 0, 9, 0, 11, 12, 0, 0, 18, 0, 0, 22, 0])
def q_MR_draft : List Nat × List Nat := ([0, 1, 4], [0, 12, 0])
def q_MR_readMap : List Nat × List Nat := ([0, 1, 4, 7, 8, 9, 12, 13, 16, 17, 20, 21, 22, 23, 26, 29, 30, 33, 36, 39, 40, 43, 46, 47, 48, 51, 54, 55], [0, 12, 26, 0, 0, 18, 0, 22, 0, 29, 0, 0, 0, 0, 0, 0, 22, 35, 0, 0, 39, 0, 0, 0, 0, 0, 0, 0])
def q_MR_readPart : List Nat × List Nat := ([0, 1, 4, 7, 8, 9, 10, 13, 14, 16, 19, 20, 21, 24, 25, 26, 28, 31, 32, 35, 36, 37, 39, 42, 43, 46, 49, 50, 53, 54, 57], [0, 22, 42, 0, 0, 0, 0, 0, 0, 0, 0, 0, 45, 0, 0, 0, 0, 0, 49, 0, 0, 0, 0, 0, 52, 0, 0, 22, 0, 55, 0])
def q_MR_readRule : List Nat × List Nat := ([0, 1, 4, 5, 6, 7, 8, 11, 12, 15, 16, 19, 20, 21, 22, 25, 26, 27, 28, 29, 32, 33, 36, 39, 40, 43, 46, 47, 48, 51, 52, 53, 56, 59, 60, 61, 62, 65, 68, 69, 70, 73, 76, 77, 78, 81, 84, 85, 88, 91], [0, 18, 0, 0, 0, 0, 0, 0, 22, 0, 55, 0, 0, 0, 18, 0, 0, 0, 0, 18, 0, 22, 58, 0, 22, 61, 0, 0, 65, 0, 0, 68, 0, 0, 0, 0, 12, 72, 0, 0, 22, 75, 0, 0, 22, 58, 0, 22, 79, 0])
def q_MR_readPerson : List Nat × List Nat := ([0, 1, 4, 7, 10, 11, 14, 16, 19, 20, 21, 24, 27, 28, 31, 34, 37, 38, 41, 42, 45, 46, 47, 50, 53, 54, 55, 58, 59, 62, 63, 66, 67, 70, 71, 74, 75, 76, 79, 82, 83, 86, 88, 91, 94, 95, 98, 99, 101, 104, 107, 108, 109, 110, 113, 114, 117, 120, 121, 124, 125, 126, 129, 132, 133, 135, 136, 139, 142, 143, 145, 148, 151, 152, 154, 155, 158, 161, 162, 164, 167, 170, 171, 173, 174, 177, 180, 181, 183, 186, 189, 190, 193, 196, 199, 200, 203, 204], [0, 12, 82, 0, 0, 22, 0, 55, 0, 0, 22, 58, 0, 22, 42, 0, 0, 22, 0, 55, 0, 0, 22, 85, 0, 0, 12, 0, 89, 0, 0, 0, 22, 0, 55, 0, 0, 22, 58, 0, 22, 0, 93, 0, 0, 22, 0, 0, 68, 0, 0, 0, 0, 12, 0, 22, 75, 0, 96, 0, 0, 22, 58, 0, 0, 0, 12, 100, 0, 0, 103, 0, 0, 0, 0, 12, 107, 0, 0, 103, 0, 0, 0, 0, 12, 110, 0, 0, 103, 0, 0, 22, 79, 0, 0, 0, 0, 0])
def q_MR_readPerhaps : List Nat × List Nat := ([0, 1, 4, 7, 8, 11, 12, 13, 14, 17, 20, 21, 24, 25, 27, 30, 33, 34, 35, 36, 37, 38, 41, 44, 45, 46, 49, 52, 53], [0, 22, 42, 0, 0, 0, 0, 0, 22, 58, 0, 22, 0, 0, 68, 0, 0, 0, 0, 0, 0, 22, 75, 0, 0, 22, 58, 0, 0])
def q_MR_readToast : List Nat × List Nat := ([0, 1, 4, 7, 8, 11, 12, 15, 18, 19, 20, 21, 24, 25, 26, 27, 30, 31, 34, 37, 38, 41, 42, 45, 46, 47, 50, 53, 54, 57, 59, 62, 65, 66, 67, 68, 71, 72, 75, 78, 79, 80, 81, 84, 85, 86, 87, 88, 91, 92, 95, 96, 99, 100, 101, 104, 107, 108, 109, 110, 111, 114, 117, 118, 121, 124], [0, 22, 58, 0, 22, 0, 12, 113, 0, 0, 0, 0, 0, 0, 0, 12, 0, 117, 0, 0, 22, 0, 55, 0, 0, 22, 58, 0, 22, 0, 93, 0, 0, 0, 0, 22, 0, 12, 113, 0, 0, 0, 0, 0, 0, 0, 0, 0, 0, 22, 0, 55, 0, 0, 12, 120, 0, 0, 0, 0, 22, 58, 0, 22, 79, 0])
def q_Mk_init : List Nat × List Nat := ([0, 1, 4, 5, 6, 9, 12, 13, 14, 17, 20, 21, 22, 25, 26, 27, 28, 29, 32, 33, 36, 37, 40, 41, 44, 45, 46, 49, 50, 53, 54, 57, 58, 61, 64], [0, 3, 0, 0, 9, 11, 0, 0, 17, 19, 0, 0, 23, 0, 0, 0, 0, 0, 0, 11, 0, 9, 0, 27, 0, 0, 19, 0, 17, 0, 28, 0, 0, 0, 0])
def q_Mk_isFull : List Nat × List Nat := ([0, 1, 4, 5, 8, 9, 12, 13], [0, 23, 0, 0, 0, 0, 0, 0])
def q_Mk_isEmpty : List Nat × List Nat := ([0, 1, 4, 5, 8, 9, 12, 13], [0, 23, 0, 0, 0, 0, 0, 0])
def q_Mk_keep : List Nat × List Nat := ([0, 1, 4, 5, 8, 9, 10, 13, 14, 17, 18, 21, 22, 23, 26, 27, 28, 31, 32, 33, 36, 37, 40], [0, 11, 0, 23, 0, 0, 29, 0, 19, 0, 23, 0, 0, 33, 0, 0, 23, 0, 0, 23, 0, 23, 0])
def q_Mk_giveBack : List Nat × List Nat := ([0, 1, 2, 5, 6, 7, 10, 11, 12, 15, 16, 19, 20, 23, 24, 25, 28, 29, 32, 33, 36, 37, 40], [0, 0, 23, 0, 0, 23, 0, 0, 11, 0, 23, 0, 29, 0, 0, 19, 0, 23, 0, 33, 0, 23, 0])
def q_Tp_init : List Nat × List Nat := ([0, 1, 4, 5, 8, 10, 13, 14, 16, 18, 21, 22, 23, 26, 27, 28, 31, 32, 33, 36, 37, 38, 41, 42, 43, 46, 47, 48, 51, 52, 53, 56, 57, 58, 61, 62, 63, 66, 67, 68, 71, 72, 73, 76, 77, 78, 79, 80, 81, 83, 85, 87, 90, 93, 94, 96, 99, 101, 103, 106, 108, 110, 112, 115, 116, 119, 120, 121, 122, 125, 126, 127, 130, 131, 133, 136, 137, 140, 143], [0, 3, 0, 0, 0, 9, 0, 0, 0, 15, 0, 0, 19, 0, 0, 23, 0, 0, 26, 0, 0, 29, 0, 0, 32, 0, 0, 35, 0, 0, 38, 0, 0, 41, 0, 0, 44, 0, 0, 48, 0, 0, 51, 0, 0, 0, 0, 0, 0, 0, 54, 56, 0, 0, 0, 0, 54, 0, 62, 0, 0, 0, 0, 0, 15, 0, 0, 0, 0, 0, 0, 0, 0, 0, 66, 0, 0, 0, 0])
def q_Tp_length : List Nat × List Nat := ([0, 1, 4], [0, 19, 0])
def q_Tp_faultKind : List Nat × List Nat := ([0, 1, 4], [0, 48, 0])
def q_Tp_faultPlace : List Nat × List Nat := ([0, 1, 4], [0, 51, 0])
def q_Tp_hasRoom : List Nat × List Nat := ([0, 1, 4, 5, 6, 9, 12, 13, 16, 17], [0, 19, 0, 0, 0, 0, 0, 0, 0, 0])
def q_Tp_append : List Nat × List Nat := ([0, 2, 3, 4, 7, 8, 11, 14, 17, 18, 21, 22, 25, 26, 27, 28, 29, 30, 31, 32, 35, 36, 37, 40, 43, 46], [0, 0, 0, 0, 0, 19, 0, 0, 0, 9, 0, 19, 0, 0, 0, 0, 0, 0, 0, 19, 0, 0, 19, 0, 0, 0])
def q_Tp_empty : List Nat × List Nat := ([0, 1, 2, 5], [0, 0, 19, 0])
def q_Tp_begin : List Nat × List Nat := ([0, 1, 2, 3, 6, 9, 12, 13, 14, 17, 18, 19, 22, 23, 24, 27, 28, 31], [0, 0, 0, 19, 70, 23, 0, 0, 26, 0, 0, 48, 0, 0, 51, 0, 76, 0])
def q_Tp_isAtEnd : List Nat × List Nat := ([0, 1, 4, 7, 8, 11, 12], [0, 29, 0, 0, 0, 0, 0])
def q_Tp_isAtCompares : List Nat × List Nat := ([0, 1, 4, 6, 9, 10, 13, 15, 18, 19, 22, 24, 27, 28, 31, 32], [0, 38, 0, 0, 0, 38, 0, 0, 0, 38, 0, 0, 0, 0, 0, 0])
def q_Tp_sign : List Nat × List Nat := ([0, 1, 4], [0, 38, 0])
def q_Tp_number : List Nat × List Nat := ([0, 1, 4], [0, 35, 0])
def q_Tp_object : List Nat × List Nat := ([0, 1, 2, 5, 6, 9, 10, 13, 14, 17, 18, 19, 22, 25, 26], [0, 0, 29, 0, 0, 0, 0, 0, 48, 0, 0, 32, 51, 0, 0])
def q_Tp_passWord : List Nat × List Nat := ([0, 1, 4, 5, 8, 9, 10, 13, 14, 15, 18, 19], [0, 41, 0, 0, 0, 0, 79, 0, 0, 76, 0, 0])
def q_Tp_passSemicolon : List Nat × List Nat := ([0, 1, 4, 6, 9, 10, 11, 14, 15, 16, 19, 20], [0, 38, 0, 0, 0, 0, 79, 0, 0, 76, 0, 0])
def q_Tp_isNumber : List Nat × List Nat := ([0, 1, 4, 5, 8, 9, 10, 13, 14, 15, 18, 19, 22, 23, 26, 27, 30, 31, 32, 35, 38, 39, 42, 43], [0, 29, 0, 0, 0, 0, 79, 0, 0, 35, 0, 0, 0, 35, 0, 0, 0, 0, 79, 0, 0, 0, 0, 0])
def q_Tp_whoIsNamed : List Nat × List Nat := ([0, 1, 4, 7, 8, 9, 12, 13, 14, 15, 16, 17, 20, 23, 24, 25, 26, 29, 30, 31, 34, 35, 36], [0, 41, 0, 0, 0, 79, 0, 0, 0, 0, 0, 44, 83, 0, 0, 0, 0, 0, 0, 79, 0, 0, 0])
def q_Tp_step : List Nat × List Nat := ([0, 1, 4, 5, 8, 11, 12, 15, 16, 19, 20, 23, 26, 27, 28, 31, 32, 33, 36, 39, 40, 41, 44, 47, 48, 49, 52, 53, 54, 57, 58, 61, 62, 65, 68, 69, 70, 73, 76, 77, 80, 81, 84, 85, 88, 91, 92, 95, 98, 99, 102, 103, 106, 107, 110, 113, 114, 117, 120, 121, 124, 125, 128, 129, 132, 135, 136, 137, 140, 141, 142, 145, 146, 149, 150, 153, 154, 155, 158, 159, 160, 163, 166, 167, 168, 171], [0, 26, 0, 23, 0, 0, 9, 0, 26, 0, 89, 0, 0, 0, 26, 0, 0, 26, 0, 0, 0, 26, 32, 0, 0, 41, 0, 0, 38, 0, 26, 0, 23, 0, 0, 0, 29, 0, 0, 9, 0, 26, 0, 93, 0, 0, 96, 0, 0, 9, 0, 26, 0, 99, 0, 0, 102, 0, 0, 9, 0, 26, 0, 105, 0, 0, 0, 29, 0, 0, 9, 0, 26, 0, 38, 0, 0, 26, 0, 0, 26, 0, 0, 0, 29, 0])
def q_Tp_stepWord : List Nat × List Nat := ([0, 1, 2, 5, 6, 7, 10, 11, 14, 15, 18, 21, 22, 25, 26, 29, 30, 33, 36, 37, 40, 41, 44, 45, 47, 50, 51, 52, 55, 56, 59, 60, 63, 64, 67, 70, 71, 72, 75, 76, 77, 80, 83, 84, 85, 88, 89, 92, 93, 95, 98, 99, 102, 103, 104, 107, 110, 113], [0, 0, 29, 0, 0, 44, 0, 26, 0, 23, 0, 0, 9, 0, 26, 0, 93, 0, 0, 26, 0, 32, 0, 0, 0, 0, 0, 44, 0, 9, 0, 26, 0, 66, 44, 0, 0, 26, 0, 0, 26, 0, 0, 0, 26, 0, 32, 0, 0, 0, 0, 0, 0, 0, 44, 108, 41, 0])
def q_Tp_stepNumber : List Nat × List Nat := ([0, 1, 2, 5, 6, 9, 10, 13, 16, 17, 20, 21, 24, 25, 28, 31, 32, 35, 36, 39, 40, 41, 44, 45, 46, 49, 51, 52, 53, 56, 57, 60, 61, 63, 64, 65, 68, 69, 70, 73, 74, 75, 78, 81, 82, 83, 86, 87, 90, 91, 92, 95, 96, 99, 100, 103], [0, 0, 35, 0, 26, 0, 23, 0, 0, 9, 0, 26, 0, 99, 0, 0, 26, 0, 32, 0, 0, 0, 0, 0, 35, 0, 0, 0, 9, 0, 26, 0, 0, 0, 0, 35, 0, 0, 26, 0, 0, 26, 0, 0, 0, 26, 0, 32, 0, 0, 0, 0, 0, 0, 29, 0])
def q_Tp_wordOf : List Nat × List Nat := ([0, 1, 2, 3, 5, 8, 9, 12, 13, 14, 15, 16, 19, 20, 21, 24, 27, 28], [0, 0, 0, 0, 0, 0, 15, 0, 0, 0, 0, 0, 0, 0, 0, 0, 0, 0])
def q_Tp_withLetter : List Nat × List Nat := ([0, 1, 4, 5, 6, 8, 9, 10, 11, 12, 13], [0, 111, 0, 0, 0, 0, 0, 0, 0, 0, 0])
def q_Tp_isBlank : List Nat × List Nat := ([0, 1, 3, 6, 7, 9, 12, 13, 16, 17], [0, 0, 0, 0, 0, 0, 0, 0, 0, 0])
def q_Tp_isLetter : List Nat × List Nat := ([0, 1, 3, 6, 7, 9, 12, 13, 16, 17], [0, 0, 0, 0, 0, 0, 0, 0, 0, 0])
def q_Tp_isDigit : List Nat × List Nat := ([0, 1, 3, 6, 7, 9, 12, 13, 16, 17], [0, 0, 0, 0, 0, 0, 0, 0, 0, 0])
def q_Tp_isSign : List Nat × List Nat := ([0, 1, 3, 6, 7, 9, 12, 13, 15, 18, 19, 21, 24, 25, 28, 29], [0, 0, 0, 0, 0, 0, 0, 0, 0, 0, 0, 0, 0, 0, 0, 0])
def q_Ti_init : List Nat × List Nat := ([0, 1, 4, 5, 7, 9, 12, 13, 15, 17, 20, 21, 23, 25, 28, 29, 31, 33, 36, 37, 39, 41, 44, 45, 47, 49, 52, 53, 54, 57, 58, 59, 62, 63, 64, 67], [0, 5, 0, 0, 0, 11, 0, 0, 0, 15, 0, 0, 0, 18, 0, 0, 0, 21, 0, 0, 0, 24, 0, 0, 0, 27, 0, 0, 30, 0, 0, 34, 0, 0, 37, 0])
def q_Ti_forget : List Nat × List Nat := ([0, 1, 2, 5, 6, 7, 10, 11, 12, 15], [0, 0, 30, 0, 0, 34, 0, 0, 37, 0])
def q_Ti_add : List Nat × List Nat := ([0, 1, 4, 6, 9, 10, 11, 14, 15, 16, 17, 18, 21, 22, 23, 24, 25, 28, 29, 30, 31, 32, 35, 36, 37, 38, 39, 42, 43, 44, 45, 46, 49, 50, 51, 52, 53, 54, 55, 56, 59, 60, 62, 65, 66, 67, 70, 71, 72, 75, 76], [0, 30, 0, 41, 0, 0, 11, 0, 0, 0, 0, 15, 0, 0, 0, 0, 18, 0, 0, 0, 0, 21, 0, 0, 0, 0, 24, 0, 0, 0, 0, 27, 0, 0, 0, 0, 0, 0, 0, 30, 0, 0, 0, 0, 0, 34, 0, 0, 34, 0, 0])
def q_Ti_takeFrom : List Nat × List Nat := ([0, 1, 4, 5, 6, 9, 10, 11, 14, 17, 18, 21, 22, 23, 26, 27, 28, 31, 34, 35, 38, 39, 40, 43, 44, 45, 48, 51, 52, 55, 56, 57, 60, 61, 62, 65, 68, 69, 72, 73, 74, 77, 78, 79, 82, 85, 86, 89, 90, 91, 94, 95, 96, 99, 102, 103, 104, 107, 110, 111, 112, 115, 118, 119, 120, 123, 126], [0, 11, 0, 0, 11, 0, 0, 30, 47, 0, 15, 0, 0, 15, 0, 0, 30, 47, 0, 18, 0, 0, 18, 0, 0, 30, 47, 0, 21, 0, 0, 21, 0, 0, 30, 47, 0, 24, 0, 0, 24, 0, 0, 30, 47, 0, 27, 0, 0, 27, 0, 0, 30, 47, 0, 0, 30, 30, 0, 0, 34, 34, 0, 0, 37, 37, 0])
def q_TR_init : List Nat × List Nat := ([0, 1, 4, 5, 8, 9, 12, 15, 16, 17, 19, 22, 23, 24, 27, 28, 29, 32], [0, 3, 0, 9, 0, 11, 12, 0, 0, 0, 18, 0, 0, 22, 0, 0, 26, 0])
def q_TR_draft : List Nat × List Nat := ([0, 1, 4], [0, 12, 0])
def q_TR_readTimes : List Nat × List Nat := ([0, 1, 4, 7, 8, 9, 12, 13, 16, 17, 20, 21, 22, 23, 26, 29, 30, 33, 36, 39, 40, 41, 44, 47, 48, 49, 52, 55, 56, 59, 60, 63, 64, 67, 70, 71, 74, 75, 78, 81, 82, 85, 86], [0, 12, 30, 0, 0, 22, 0, 26, 0, 33, 0, 0, 0, 0, 0, 0, 26, 39, 0, 0, 0, 43, 0, 0, 0, 0, 0, 0, 12, 0, 47, 0, 22, 0, 0, 26, 0, 51, 0, 0, 0, 0, 0])
def q_TR_readStep : List Nat × List Nat := ([0, 1, 4, 7, 8, 9, 11, 14, 15, 18, 19, 20, 22, 25, 26, 28, 31, 32, 35, 36, 39, 40, 41, 44, 47, 49, 52, 53, 56, 58, 61, 62, 63, 65, 68, 69, 71, 74, 75, 78, 79, 80, 81, 84, 85, 88, 89, 92, 93, 96, 98, 101, 102, 103, 106, 107, 110, 112, 113, 116, 117, 120, 121, 124, 126, 127, 128, 129, 132, 133, 134, 137, 138, 141, 144, 145, 147, 148, 196, 197, 199, 200, 203, 205, 208, 209, 211, 212, 214, 217, 219, 222, 223, 225, 226, 229, 232, 233, 235, 236, 238, 241, 244, 245, 248, 249, 251, 254, 255, 257, 258, 261, 263, 266, 267, 269, 270, 272, 275, 277, 280, 282, 285, 286, 289, 292, 295, 296, 299, 300], [0, 26, 55, 0, 0, 0, 0, 0, 58, 0, 0, 0, 0, 0, 0, 0, 0, 26, 0, 51, 0, 0, 12, 61, 0, 0, 0, 26, 0, 51, 0, 0, 0, 0, 0, 0, 0, 0, 0, 0, 0, 0, 0, 0, 22, 0, 0, 0, 26, 0, 51, 0, 0, 12, 0, 64, 0, 0, 0, 0, 18, 0, 22, 0, 0, 0, 0, 22, 0, 0, 22, 0, 26, 68, 0, 0, 0, 0, 0, 0, 0, 71, 0, 0, 0, 0, 0, 0, 75, 0, 0, 0, 0, 0, 71, 0, 0, 0, 0, 0, 75, 0, 0, 0, 0, 0, 0, 0, 0, 0, 79, 0, 0, 0, 0, 0, 0, 75, 0, 0, 0, 0, 0, 26, 82, 0, 0, 0, 0, 0])
def q_TR_readEnd : List Nat × List Nat := ([0, 1, 4, 5, 8, 9, 12, 13, 16, 17, 18, 21, 24, 25, 26, 29, 30, 31, 34, 35, 38, 39, 42, 43, 44, 45, 48, 50, 53, 54, 55, 58, 61, 62, 63, 64, 65, 68, 71, 72, 73, 74, 75, 78, 81], [0, 22, 0, 0, 0, 26, 0, 51, 0, 0, 26, 68, 0, 0, 22, 0, 0, 22, 0, 18, 0, 22, 0, 0, 0, 12, 0, 64, 0, 0, 12, 85, 0, 0, 0, 0, 12, 85, 0, 0, 0, 0, 26, 82, 0])
def q_TR_readTest : List Nat × List Nat := ([0, 1, 4, 7, 8, 9, 11, 14, 15, 17, 20, 21, 23, 26, 27, 30, 31, 34, 35, 36, 39, 42, 43, 44, 45, 46, 49, 52, 53, 54, 55, 58, 61, 62, 63, 64, 66, 69, 70, 71, 74, 77, 78, 79, 80, 81, 83, 86, 88, 91, 93, 96, 99, 100, 103, 104], [0, 26, 55, 0, 0, 0, 0, 0, 0, 0, 0, 0, 0, 0, 26, 0, 51, 0, 0, 12, 88, 0, 0, 0, 0, 26, 68, 0, 0, 0, 71, 0, 0, 0, 0, 0, 0, 0, 0, 91, 0, 0, 0, 0, 0, 0, 0, 0, 0, 0, 75, 0, 0, 0, 0, 0])
def q_TR_readWho : List Nat × List Nat := ([0, 1, 4, 5, 8, 9, 10, 11, 14, 15, 16, 17, 20, 23, 24, 25, 26, 27, 30, 33, 34], [0, 26, 0, 94, 0, 0, 0, 0, 0, 0, 0, 12, 98, 0, 0, 0, 0, 26, 68, 0, 0])
def q_TR_readCompares : List Nat × List Nat := ([0, 1, 4, 7, 10, 11, 14, 15, 18, 19, 20, 23, 26, 27, 28, 31, 34, 35, 36, 39, 42, 43], [0, 26, 101, 0, 0, 26, 0, 51, 0, 0, 12, 104, 0, 0, 26, 107, 0, 0, 26, 68, 0, 0])
def q_TR_readAmount : List Nat × List Nat := ([0, 1, 4, 5, 6, 9, 12, 13, 14, 15, 18, 21, 22, 23, 26, 29, 30, 31, 34, 37, 38], [0, 26, 0, 0, 111, 0, 0, 0, 0, 12, 115, 0, 0, 26, 118, 0, 0, 26, 68, 0, 0])
def q_Tr_init : List Nat × List Nat := ([0, 1, 4, 5, 6, 8, 12, 15, 16, 17, 19, 22, 23, 24, 26, 27, 28, 29, 30, 31, 32, 33, 34, 35, 36, 37, 38, 39, 40, 41, 42, 45], [0, 3, 0, 0, 0, 11, 13, 0, 0, 0, 16, 0, 0, 0, 0, 0, 0, 0, 0, 0, 0, 0, 0, 0, 0, 0, 0, 0, 0, 0, 20, 0])
def q_Tr_isTray : List Nat × List Nat := ([0, 1, 4, 5, 6, 9, 10, 13, 14], [0, 0, 0, 0, 0, 0, 0, 0, 0])
def q_Tr_isSort : List Nat × List Nat := ([0, 1, 4, 5, 6, 9, 10, 13, 14], [0, 0, 0, 0, 0, 0, 0, 0, 0])
def q_Tr_isMissing : List Nat × List Nat := ([0, 1, 4, 5, 6, 7, 10, 11, 14, 15], [0, 20, 0, 0, 0, 0, 0, 0, 0, 0])
def q_Tr_length : List Nat × List Nat := ([0, 1, 4, 5, 6], [0, 20, 0, 0, 0])
def q_Tr_sort : List Nat × List Nat := ([0, 1, 4, 5, 6], [0, 16, 0, 0, 0])
def q_Tr_has : List Nat × List Nat := ([0, 1, 2, 3, 4, 5, 6, 9, 10, 11, 12, 13, 16, 17, 20, 21], [0, 0, 0, 0, 0, 0, 20, 0, 0, 0, 0, 0, 0, 0, 0, 0])
def q_Tr_lay : List Nat × List Nat := ([0, 1, 4, 5, 6, 7, 8, 11, 12, 13, 14, 15, 17, 19, 20, 23, 24, 27, 28, 29, 31, 32, 33, 36, 39], [0, 16, 0, 0, 0, 0, 20, 0, 0, 0, 0, 0, 0, 0, 0, 0, 13, 0, 0, 0, 0, 0, 0, 0, 0])
def q_Tr_at : List Nat × List Nat := ([0, 1, 4, 5, 6, 7, 8], [0, 13, 0, 0, 0, 0, 0])
def q_Tr_put : List Nat × List Nat := ([0, 1, 4, 5, 6, 7, 8, 11, 12, 13, 14, 17, 18], [0, 13, 0, 0, 0, 0, 16, 0, 0, 0, 23, 0, 0])
def q_Tr_copy : List Nat × List Nat := ([0, 1, 4, 5, 6, 7, 8, 11, 12, 13, 15, 17, 20], [0, 13, 0, 0, 0, 0, 13, 0, 0, 0, 0, 27, 0])
def q_Tr_cutTo : List Nat × List Nat := ([0, 1, 28, 29, 30, 31, 32, 33, 34, 35, 36, 37, 38, 39, 40, 41, 42, 43], [0, 0, 0, 0, 0, 0, 0, 0, 0, 0, 0, 0, 0, 0, 0, 0, 0, 0])
def q_Wy_init : List Nat × List Nat := ([0, 1, 4, 5, 7, 9, 12, 13, 16, 18, 21, 22, 25, 27, 30, 31, 32, 35, 36, 37, 40], [0, 3, 0, 0, 0, 9, 0, 0, 0, 15, 0, 0, 0, 18, 0, 0, 21, 0, 0, 25, 0])
def q_Wy_begin : List Nat × List Nat := ([0, 1, 2, 4, 7, 10, 11, 12, 13, 16, 17, 18, 19, 22, 23, 24, 25, 26, 29, 32, 33, 36, 37, 38, 41, 42, 43, 44, 45, 46, 47, 48, 51, 54], [0, 0, 0, 28, 21, 0, 0, 0, 21, 0, 0, 0, 25, 0, 0, 0, 0, 21, 0, 0, 9, 0, 0, 25, 0, 0, 0, 0, 0, 0, 0, 0, 0, 0])
def q_Wy_seen : List Nat × List Nat := ([0, 1, 2, 3, 4, 7, 10, 11, 14, 15, 16, 17, 18, 19, 20, 21, 22, 25, 26, 29, 30, 31, 32, 33, 34, 37, 40], [0, 0, 0, 0, 21, 0, 0, 9, 0, 0, 0, 0, 0, 0, 0, 0, 0, 0, 0, 0, 0, 0, 0, 0, 0, 0, 0])
def q_Wy_countAll : List Nat × List Nat := ([0, 1, 2, 3, 4, 7, 10, 11, 14, 15, 16, 17, 18, 21, 22, 23, 24, 27, 30, 31, 34, 35, 36, 37, 38, 41, 42, 45, 46, 47, 48, 49, 50, 51, 54, 57, 58, 59, 62, 65, 68, 69, 72, 73, 74, 75, 76, 79, 80, 81, 84, 87, 90], [0, 0, 0, 0, 25, 0, 0, 15, 0, 0, 0, 0, 18, 0, 0, 0, 0, 0, 0, 15, 0, 0, 0, 0, 18, 0, 25, 0, 0, 0, 0, 0, 0, 25, 0, 0, 0, 34, 0, 0, 0, 25, 0, 0, 0, 0, 0, 0, 0, 38, 0, 0, 0])
def q_Wy_spread : List Nat × List Nat := ([0, 1, 4, 5, 6, 7, 8, 9, 12, 15, 16, 17, 18, 19, 22, 25, 26, 29, 30, 31, 32, 33, 34, 35, 36, 37, 40, 41, 42, 43, 44, 47, 50], [0, 41, 0, 0, 0, 0, 0, 21, 0, 0, 0, 0, 0, 47, 0, 0, 15, 0, 0, 0, 0, 0, 0, 0, 0, 15, 0, 0, 0, 0, 0, 0, 0])
def q_Wy_gather : List Nat × List Nat := ([0, 1, 4, 5, 6, 7, 8, 9, 12, 15, 16, 17, 18, 19, 22, 25, 26, 29, 30, 31, 32, 33, 36, 37, 38, 39, 40, 41, 42, 43, 44, 47, 50], [0, 41, 0, 0, 0, 0, 0, 21, 0, 0, 0, 0, 0, 47, 0, 0, 18, 0, 0, 0, 0, 18, 0, 0, 0, 0, 0, 0, 0, 0, 0, 0, 0])
def q_Wy_isOpen : List Nat × List Nat := ([0, 1, 4, 5, 6, 7, 8, 9, 10, 11, 12, 13, 14, 17, 18, 21, 22], [0, 9, 0, 0, 0, 0, 0, 0, 0, 0, 0, 0, 0, 0, 0, 0, 0])
def q_Wy_all : List Nat × List Nat := ([0, 1, 4, 5, 6], [0, 18, 0, 0, 0])
def q_Wy_through : List Nat × List Nat := ([0, 1, 2, 3, 5, 7, 8, 11, 14, 16, 19, 20, 23, 24, 26, 27, 28, 31, 34, 35, 36, 39, 41, 42, 43, 46, 48, 49, 50, 51, 52, 53, 54, 55, 56, 59, 62, 63], [0, 0, 0, 0, 0, 0, 25, 0, 0, 41, 0, 0, 0, 0, 0, 0, 47, 0, 0, 0, 15, 0, 0, 0, 18, 0, 0, 0, 0, 0, 0, 0, 0, 0, 0, 0, 0, 0])
def q_Wy_firstWhom : List Nat × List Nat := ([0, 1, 2, 3, 4, 5, 7, 9, 10, 13, 14, 15, 17, 20, 21, 22, 23, 26, 27, 28, 29, 30, 31, 32, 33, 34, 37, 40, 41], [0, 0, 0, 0, 0, 0, 0, 0, 0, 0, 0, 0, 51, 0, 0, 0, 0, 0, 0, 0, 0, 0, 0, 0, 0, 0, 0, 0, 0])
def q_Wy_firstOpen : List Nat × List Nat := ([0, 1, 2, 3, 4, 7, 10, 11, 12, 13, 14, 17, 20, 21, 24, 25, 26, 27, 28, 29, 30, 33, 34, 35, 38, 41, 42], [0, 0, 0, 0, 21, 0, 0, 0, 0, 0, 47, 0, 0, 18, 0, 0, 0, 0, 0, 0, 0, 0, 0, 0, 0, 0, 0])
def q_Wy_bestAsked : List Nat × List Nat := ([0, 1, 2, 3, 4, 7, 8, 9, 10, 11, 12, 15, 18, 19, 20, 23, 25, 27, 28, 31, 33, 34, 35, 36, 39, 42, 43], [0, 0, 0, 0, 54, 0, 0, 0, 0, 0, 21, 0, 0, 0, 54, 0, 0, 0, 0, 0, 0, 0, 0, 0, 0, 0, 0])
def q_Wy_mostThrough : List Nat × List Nat := ([0, 1, 2, 3, 4, 5, 6, 9, 12, 13, 14, 15, 16, 19, 22, 23, 26, 29, 30], [0, 0, 0, 0, 0, 0, 21, 0, 0, 0, 0, 0, 57, 60, 0, 0, 0, 0, 0])
def q_L_law : List Nat × List Nat := ([0, 3, 4, 7, 8, 11, 12, 15, 16, 17, 18, 19, 20, 21, 23, 24, 27, 28, 29, 30, 32, 33, 264, 265, 268, 269, 272, 275, 276, 277, 278, 281, 282, 285, 286, 289, 290, 291, 292, 295, 296, 299, 300, 303, 304, 305, 306, 307, 308, 309, 310, 311, 312, 313, 314, 315, 316, 317, 318, 319, 320, 321, 324, 325, 326, 327, 328, 329, 330, 331, 332, 333, 334, 335, 336, 337, 338, 339, 340, 343, 346, 347, 348, 349, 350, 351, 352, 353, 354, 355, 356, 357, 358, 359, 360, 361, 362, 363, 364, 365, 367, 368, 369, 370, 371, 372, 373, 374, 377, 378, 379, 382, 383, 384, 385, 386, 387, 388, 389, 390, 391, 392, 393, 394, 395, 396, 397, 398, 399, 401, 402, 403, 404, 405, 406, 407, 408, 411, 412, 413, 416, 419, 420, 421, 422, 423, 424, 425, 426, 427, 428, 429, 430, 431, 432, 435, 436, 437, 438, 439, 440, 441, 442, 443, 444, 445, 446, 449, 450, 453, 454, 455, 456, 457, 458, 459, 460, 461, 462, 463, 464, 465, 466, 467, 468, 469, 470, 471, 472, 473, 474, 475, 476, 477, 478, 479, 480, 481, 484, 485, 486, 487, 488, 489, 490, 491, 492, 493, 494, 495, 496, 497, 498, 499, 500, 501, 502, 503, 504, 505, 506, 507, 508, 509, 510, 513, 516, 517, 518, 519, 520, 521, 522, 523, 524, 525, 526, 527, 528, 529, 530, 531, 532, 533, 534, 535, 536, 537, 538, 539, 540, 541, 542, 543, 544, 547, 548, 549, 550, 551, 552, 553, 554, 555, 556, 557, 558, 559, 560, 561, 562, 563, 564, 565, 566, 567, 568, 569, 570, 571, 572, 573, 576, 579, 580, 581, 582, 583, 584, 585, 586, 587, 590, 591, 592, 593, 594, 595, 596, 599, 602, 603, 604, 605, 606, 607, 608, 609, 610, 613, 614, 615, 616, 617, 618, 619, 622, 625, 626, 627, 628, 629, 630, 631, 632, 633, 636, 637, 638, 639, 640, 641, 642, 645, 648, 649, 650, 651, 652, 653, 654, 655, 656, 659, 660, 661, 662, 663, 664, 665, 668, 671, 672, 673, 674, 675, 676, 677, 678, 679, 680, 681, 682, 683, 684, 687, 688, 689, 690, 691, 692, 693, 694, 695, 696, 697, 698, 701, 704, 705, 706, 707, 708, 709, 710, 711, 712, 713, 714, 715, 716, 717, 720, 721, 722, 723, 724, 725, 726, 727, 728, 729, 730, 731, 734, 737, 738, 739, 740, 741, 742, 743, 744, 745, 748, 749, 750, 751, 752, 753, 754, 757, 760, 761, 762, 763, 764, 765, 766, 767, 768, 771, 772, 773, 774, 775, 776, 777, 780, 783, 784, 785, 786, 789, 790, 793, 796, 797, 798, 799, 800, 801, 802, 803, 804, 805, 806, 807, 808, 809, 812, 813, 814, 815, 816, 817, 818, 819, 820, 821, 822, 823, 826, 829, 830, 831, 832, 833, 834, 835, 836, 837, 838, 839, 840, 841, 842, 845, 846, 847, 848, 849, 850, 851, 852, 853, 854, 855, 856, 859, 862, 863, 864, 865, 866, 867, 868, 869, 870, 871, 872, 873, 874, 875, 878, 879, 880, 881, 882, 883, 884, 885, 886, 887, 888, 889, 892, 895, 896, 897, 898, 899, 900, 901, 902, 903, 904, 905, 906, 907, 908, 911, 912, 913, 914, 915, 916, 917, 918, 919, 920, 921, 922, 925, 928, 929, 930, 931, 932, 933, 934, 935, 936, 939, 940, 941, 942, 943, 944, 945, 948, 951, 952, 953, 954, 955, 956, 957, 958, 959, 960, 961, 962, 963, 964, 967, 968, 969, 970, 971, 972, 973, 974, 975, 976, 977, 978, 981, 984, 985, 986, 987, 988, 989, 990, 991, 992, 993, 994, 995, 996, 997, 1000, 1001, 1002, 1003, 1004, 1005, 1006, 1007, 1008, 1009, 1010, 1011, 1014, 1017, 1018, 1019, 1020, 1021, 1022, 1023, 1024, 1025, 1028, 1029, 1030, 1031, 1032, 1033, 1034, 1037, 1040, 1041, 1042, 1043, 1044, 1045, 1046, 1047, 1048, 1049, 1050, 1051, 1052, 1053, 1056, 1057, 1058, 1059, 1060, 1061, 1062, 1063, 1064, 1065, 1066, 1067, 1070, 1073, 1074, 1075, 1076, 1077, 1078, 1079, 1080, 1081, 1084, 1085, 1086, 1087, 1088, 1089, 1090, 1093, 1096, 1097, 1098, 1099, 1102, 1103, 1106, 1109, 1110, 1111, 1112, 1115, 1116, 1119, 1122, 1123, 1124, 1125, 1126, 1127, 1128, 1129, 1130, 1133, 1134, 1135, 1136, 1137, 1138, 1139, 1142, 1145, 1146, 1147, 1148, 1149, 1150, 1151, 1152, 1153, 1154, 1155, 1156, 1157, 1158, 1161, 1162, 1163, 1164, 1165, 1166, 1167, 1168, 1169, 1170, 1171, 1172, 1175, 1178, 1179, 1180, 1181, 1184, 1185, 1188, 1191, 1192, 1193, 1194, 1197, 1198, 1201, 1204, 1205, 1206, 1207, 1208, 1209, 1210, 1211, 1212, 1215, 1216, 1217, 1218, 1219, 1220, 1221, 1224, 1227, 1228, 1229, 1230, 1231, 1232, 1233, 1234, 1235, 1238, 1239, 1240, 1241, 1242, 1243, 1244, 1247, 1250, 1251, 1252, 1253, 1254, 1255, 1256, 1257, 1258, 1261, 1262, 1263, 1264, 1265, 1266, 1267, 1270, 1273, 1274, 1275, 1276, 1277, 1278, 1279, 1280, 1281, 1284, 1285, 1286, 1287, 1288, 1289, 1290, 1293, 1296, 1297, 1298, 1299, 1300, 1301, 1302, 1303, 1304, 1305, 1306, 1307, 1308, 1309, 1312, 1313, 1314, 1315, 1316, 1317, 1318, 1319, 1320, 1321, 1322, 1323, 1326, 1329, 1330, 1331, 1332, 1333, 1334, 1335, 1336, 1337, 1338, 1339, 1340, 1341, 1342, 1343, 1344, 1345, 1346, 1347, 1350, 1351, 1352, 1353, 1354, 1355, 1356, 1357, 1358, 1359, 1360, 1361, 1362, 1363, 1364, 1365, 1366, 1369, 1372, 1373, 1374, 1375, 1376, 1377, 1378, 1379, 1380, 1381, 1382, 1383, 1384, 1385, 1386, 1387, 1388, 1389, 1390, 1391, 1392, 1393, 1394, 1395, 1398, 1399, 1400, 1401, 1402, 1403, 1404, 1405, 1406, 1407, 1408, 1409, 1410, 1411, 1412, 1413, 1414, 1415, 1416, 1417, 1418, 1419, 1422, 1425, 1426, 1427, 1428, 1429, 1430, 1431, 1432, 1433, 1434, 1435, 1436, 1437, 1438, 1441, 1442, 1443, 1444, 1445, 1446, 1447, 1448, 1449, 1450, 1451, 1452, 1455, 1458, 1459, 1460, 1461, 1462, 1463, 1464, 1465, 1466, 1467, 1468, 1469, 1470, 1471, 1474, 1475, 1476, 1477, 1478, 1479, 1480, 1481, 1482, 1483, 1484, 1485, 1488, 1491, 1492, 1493, 1494, 1495, 1496, 1497, 1498, 1499, 1500, 1501, 1502, 1503, 1504, 1505, 1506, 1507, 1508, 1509, 1512, 1513, 1514, 1515, 1516, 1517, 1518, 1519, 1520, 1521, 1522, 1523, 1524, 1525, 1526, 1527, 1528, 1531, 1534, 1535, 1536, 1537, 1538, 1539, 1540, 1541, 1542, 1543, 1544, 1545, 1546, 1547, 1548, 1549, 1550, 1551, 1552, 1555, 1556, 1557, 1558, 1559, 1560, 1561, 1562, 1563, 1564, 1565, 1566, 1567, 1568, 1569, 1570, 1571, 1574, 1577, 1578, 1579, 1580, 1581, 1582, 1583, 1584, 1585, 1588, 1589, 1590, 1591, 1592, 1593, 1594, 1597, 1600, 1601, 1602, 1603, 1604, 1605, 1606, 1607, 1608, 1611, 1612, 1613, 1614, 1615, 1616, 1617, 1620, 1623, 1624, 1625, 1626, 1627, 1628, 1629, 1630, 1631, 1634, 1635, 1636, 1637, 1638, 1639, 1640, 1643, 1646, 1647, 1648, 1649, 1650, 1651, 1652, 1653, 1654, 1657, 1658, 1659, 1660, 1661, 1662, 1663, 1666, 1669, 1670, 1671, 1672, 1673, 1674, 1675, 1676, 1677, 1680, 1681, 1682, 1683, 1684, 1685, 1686, 1689, 1692, 1693, 1694, 1695, 1696, 1697, 1698, 1699, 1700, 1703, 1704, 1705, 1706, 1707, 1708, 1709, 1712, 1715, 1716, 1717, 1718, 1719, 1720, 1721, 1722, 1723, 1726, 1727, 1728, 1729, 1730, 1731, 1732, 1735, 1738, 1739, 1740, 1741, 1742, 1743, 1744, 1745, 1746, 1747, 1748, 1749, 1750, 1751, 1754, 1755, 1756, 1757, 1758, 1759, 1760, 1761, 1762, 1763, 1764, 1765, 1768, 1771, 1772, 1773, 1774, 1777, 1778, 1781, 1784, 1785, 1786, 1787, 1790, 1791, 1794, 1797, 1798, 1799, 1802, 1805, 1806], [7, 0, 9, 0, 10, 0, 12, 0, 0, 0, 0, 0, 0, 0, 0, 0, 0, 0, 0, 0, 0, 0, 0, 13, 0, 17, 0, 0, 0, 0, 18, 0, 22, 0, 0, 0, 0, 0, 23, 0, 26, 0, 0, 0, 0, 0, 0, 0, 0, 0, 0, 0, 0, 0, 0, 0, 0, 0, 0, 0, 0, 27, 0, 0, 0, 0, 0, 0, 0, 0, 0, 0, 0, 0, 0, 0, 0, 0, 31, 0, 0, 0, 0, 0, 0, 0, 0, 0, 0, 0, 0, 0, 0, 0, 0, 0, 0, 0, 0, 0, 0, 0, 0, 0, 0, 0, 0, 32, 0, 0, 34, 0, 0, 0, 0, 0, 0, 0, 0, 0, 0, 0, 0, 0, 0, 0, 0, 0, 0, 0, 0, 0, 0, 0, 0, 0, 32, 0, 0, 38, 0, 0, 0, 0, 0, 0, 0, 0, 0, 0, 0, 0, 0, 0, 39, 0, 0, 0, 0, 0, 0, 0, 0, 0, 0, 0, 43, 0, 0, 0, 0, 0, 0, 0, 0, 0, 0, 0, 0, 0, 0, 0, 0, 0, 0, 0, 0, 0, 0, 0, 0, 0, 0, 0, 0, 0, 0, 44, 0, 0, 0, 0, 0, 0, 0, 0, 0, 0, 0, 0, 0, 0, 0, 0, 0, 0, 0, 0, 0, 0, 0, 0, 0, 0, 48, 0, 0, 0, 0, 0, 0, 0, 0, 0, 0, 0, 0, 0, 0, 0, 0, 0, 0, 0, 0, 0, 0, 0, 0, 0, 0, 0, 0, 0, 49, 0, 0, 0, 0, 0, 0, 0, 0, 0, 0, 0, 0, 0, 0, 0, 0, 0, 0, 0, 0, 0, 0, 0, 0, 0, 0, 53, 0, 0, 0, 0, 0, 0, 0, 0, 0, 54, 0, 0, 0, 0, 0, 0, 58, 0, 0, 0, 0, 0, 0, 0, 0, 0, 59, 0, 0, 0, 0, 0, 0, 62, 0, 0, 0, 0, 0, 0, 0, 0, 0, 63, 0, 0, 0, 0, 0, 0, 66, 0, 0, 0, 0, 0, 0, 0, 0, 0, 67, 0, 0, 0, 0, 0, 0, 70, 0, 0, 0, 0, 0, 0, 0, 0, 0, 0, 0, 0, 0, 0, 71, 0, 0, 0, 0, 0, 0, 0, 0, 0, 0, 0, 75, 0, 0, 0, 0, 0, 0, 0, 0, 0, 0, 0, 0, 0, 0, 76, 0, 0, 0, 0, 0, 0, 0, 0, 0, 0, 0, 79, 0, 0, 0, 0, 0, 0, 0, 0, 0, 80, 0, 0, 0, 0, 0, 0, 83, 0, 0, 0, 0, 0, 0, 0, 0, 0, 84, 0, 0, 0, 0, 0, 0, 87, 0, 0, 0, 0, 88, 0, 91, 0, 0, 0, 0, 0, 0, 0, 0, 0, 0, 0, 0, 0, 0, 92, 0, 0, 0, 0, 0, 0, 0, 0, 0, 0, 0, 95, 0, 0, 0, 0, 0, 0, 0, 0, 0, 0, 0, 0, 0, 0, 96, 0, 0, 0, 0, 0, 0, 0, 0, 0, 0, 0, 99, 0, 0, 0, 0, 0, 0, 0, 0, 0, 0, 0, 0, 0, 0, 100, 0, 0, 0, 0, 0, 0, 0, 0, 0, 0, 0, 103, 0, 0, 0, 0, 0, 0, 0, 0, 0, 0, 0, 0, 0, 0, 104, 0, 0, 0, 0, 0, 0, 0, 0, 0, 0, 0, 107, 0, 0, 0, 0, 0, 0, 0, 0, 0, 108, 0, 0, 0, 0, 0, 0, 111, 0, 0, 0, 0, 0, 0, 0, 0, 0, 0, 0, 0, 0, 0, 112, 0, 0, 0, 0, 0, 0, 0, 0, 0, 0, 0, 116, 0, 0, 0, 0, 0, 0, 0, 0, 0, 0, 0, 0, 0, 0, 117, 0, 0, 0, 0, 0, 0, 0, 0, 0, 0, 0, 120, 0, 0, 0, 0, 0, 0, 0, 0, 0, 121, 0, 0, 0, 0, 0, 0, 124, 0, 0, 0, 0, 0, 0, 0, 0, 0, 0, 0, 0, 0, 0, 125, 0, 0, 0, 0, 0, 0, 0, 0, 0, 0, 0, 128, 0, 0, 0, 0, 0, 0, 0, 0, 0, 129, 0, 0, 0, 0, 0, 0, 132, 0, 0, 0, 0, 133, 0, 136, 0, 0, 0, 0, 137, 0, 140, 0, 0, 0, 0, 0, 0, 0, 0, 0, 141, 0, 0, 0, 0, 0, 0, 144, 0, 0, 0, 0, 0, 0, 0, 0, 0, 0, 0, 0, 0, 0, 145, 0, 0, 0, 0, 0, 0, 0, 0, 0, 0, 0, 148, 0, 0, 0, 0, 149, 0, 152, 0, 0, 0, 0, 153, 0, 156, 0, 0, 0, 0, 0, 0, 0, 0, 0, 157, 0, 0, 0, 0, 0, 0, 160, 0, 0, 0, 0, 0, 0, 0, 0, 0, 161, 0, 0, 0, 0, 0, 0, 164, 0, 0, 0, 0, 0, 0, 0, 0, 0, 165, 0, 0, 0, 0, 0, 0, 168, 0, 0, 0, 0, 0, 0, 0, 0, 0, 169, 0, 0, 0, 0, 0, 0, 172, 0, 0, 0, 0, 0, 0, 0, 0, 0, 0, 0, 0, 0, 0, 173, 0, 0, 0, 0, 0, 0, 0, 0, 0, 0, 0, 176, 0, 0, 0, 0, 0, 0, 0, 0, 0, 0, 0, 0, 0, 0, 0, 0, 0, 0, 0, 177, 0, 0, 0, 0, 0, 0, 0, 0, 0, 0, 0, 0, 0, 0, 0, 0, 181, 0, 0, 0, 0, 0, 0, 0, 0, 0, 0, 0, 0, 0, 0, 0, 0, 0, 0, 0, 0, 0, 0, 0, 0, 182, 0, 0, 0, 0, 0, 0, 0, 0, 0, 0, 0, 0, 0, 0, 0, 0, 0, 0, 0, 0, 0, 186, 0, 0, 0, 0, 0, 0, 0, 0, 0, 0, 0, 0, 0, 0, 187, 0, 0, 0, 0, 0, 0, 0, 0, 0, 0, 0, 190, 0, 0, 0, 0, 0, 0, 0, 0, 0, 0, 0, 0, 0, 0, 191, 0, 0, 0, 0, 0, 0, 0, 0, 0, 0, 0, 194, 0, 0, 0, 0, 0, 0, 0, 0, 0, 0, 0, 0, 0, 0, 0, 0, 0, 0, 0, 195, 0, 0, 0, 0, 0, 0, 0, 0, 0, 0, 0, 0, 0, 0, 0, 0, 198, 0, 0, 0, 0, 0, 0, 0, 0, 0, 0, 0, 0, 0, 0, 0, 0, 0, 0, 0, 199, 0, 0, 0, 0, 0, 0, 0, 0, 0, 0, 0, 0, 0, 0, 0, 0, 202, 0, 0, 0, 0, 0, 0, 0, 0, 0, 203, 0, 0, 0, 0, 0, 0, 206, 0, 0, 0, 0, 0, 0, 0, 0, 0, 207, 0, 0, 0, 0, 0, 0, 210, 0, 0, 0, 0, 0, 0, 0, 0, 0, 211, 0, 0, 0, 0, 0, 0, 214, 0, 0, 0, 0, 0, 0, 0, 0, 0, 215, 0, 0, 0, 0, 0, 0, 219, 0, 0, 0, 0, 0, 0, 0, 0, 0, 220, 0, 0, 0, 0, 0, 0, 223, 0, 0, 0, 0, 0, 0, 0, 0, 0, 224, 0, 0, 0, 0, 0, 0, 227, 0, 0, 0, 0, 0, 0, 0, 0, 0, 228, 0, 0, 0, 0, 0, 0, 231, 0, 0, 0, 0, 0, 0, 0, 0, 0, 0, 0, 0, 0, 0, 232, 0, 0, 0, 0, 0, 0, 0, 0, 0, 0, 0, 235, 0, 0, 0, 0, 236, 0, 239, 0, 0, 0, 0, 240, 0, 243, 0, 0, 0, 0, 0, 0, 0])
abbrev mMT := Nat × MethodName × ByteArray × Option FieldType × (List Nat × List Nat) × Nat
def MTl : List mMT := [(14, yJ6_bitCount_0f7a4, cJ6_bitCount_0f7a4, (some .int), q_J_bitCount, 0),
  (11, yX11_init, cX11_init, none, q_T_init, 2),
  (11, yX11_status, cX11_status, (some .int), q_T_status, 0),
  (11, yX11_top, cX11_top, (some .long), q_T_top, 0),
  (11, yX11_bottom, cX11_bottom, (some .long), q_T_bottom, 0),
  (11, yX11_tray, cX11_tray, (some .boolean), q_T_tray, 1),
  (11, yX11_write, cX11_write, (some .boolean), q_T_write, 2),
  (11, yX11_read, cX11_read, (some .long), q_T_read, 2),
  (11, yX11_pour, cX11_pour, (some .boolean), q_T_pour, 2),
  (11, yX11_placeStatus, cX11_placeStatus, (some .int), q_T_placeStatus, 1),
  (11, yX11_pourStatus, cX11_pourStatus, (some .int), q_T_pourStatus, 1),
  (11, yX11_feed, cX11_feed, (some .int), q_T_feed, 1),
  (11, yX11_map, cX11_map, (some .int), q_T_map, 7),
  (11, yX11_times, cX11_times, (some .int), q_T_times, 7),
  (11, yX11_fault, cX11_fault, (some .int), q_T_fault, 1),
  (11, yX11_told, cX11_told, (some .int), q_T_told, 2),
  (11, yX11_person, cX11_person, (some .int), q_T_person, 2),
  (11, yX11_far, cX11_far, (some .int), q_T_far, 1),
  (11, yX11_drink, cX11_drink, (some .int), q_T_drink, 2),
  (11, yX11_night, cX11_night, (some .int), q_T_night, 2),
  (11, yX11_evening, cX11_evening, (some .int), q_T_evening, 3),
  (11, yX11_fill, cX11_fill, (some .int), q_T_fill, 1),
  (11, yX11_means, cX11_means, (some .int), q_T_means, 1),
  (11, yX11_move, cX11_move, (some .int), q_T_move, 1),
  (11, yX11_aim, cX11_aim, (some .int), q_T_aim, 2),
  (11, yX11_come, cX11_come, (some .int), q_T_come, 1),
  (11, yX11_rule, cX11_rule, (some .boolean), q_T_rule, 1),
  (11, yX11_warmIn, cX11_warmIn, (some .int), q_T_warmIn, 1),
  (11, yX11_darkIn, cX11_darkIn, (some .int), q_T_darkIn, 1),
  (11, yX11_eveningIn, cX11_eveningIn, (some .int), q_T_eveningIn, 4),
  (11, yX11_litIn, cX11_litIn, (some .int), q_T_litIn, 4),
  (11, yX11_settles, cX11_settles, (some .int), q_T_settles, 4),
  (11, yX11_period, cX11_period, (some .int), q_T_period, 4),
  (11, yX11_lookAhead, cX11_lookAhead, none, q_T_lookAhead, 3),
  (11, yX11_findPeriod, cX11_findPeriod, (some .int), q_T_findPeriod, 3),
  (11, yX11_firstSettled, cX11_firstSettled, (some .int), q_T_firstSettled, 0),
  (11, yX11_chain, cX11_chain, (some .int), q_T_chain, 2),
  (11, yX11_chainAt, cX11_chainAt, (some .int), q_T_chainAt, 2),
  (11, yX11_rings, cX11_rings, (some .int), q_T_rings, 3),
  (11, yX11_inRings, cX11_inRings, (some .int), q_T_inRings, 2),
  (11, yX11_needs, cX11_needs, (some .int), q_T_needs, 4),
  (11, yX11_most, cX11_most, (some .int), q_T_most, 5),
  (11, yX11_mostSet, cX11_mostSet, (some .int), q_T_mostSet, 5),
  (11, yX11_misses, cX11_misses, (some .int), q_T_misses, 4),
  (11, yX11_fits, cX11_fits, (some .int), q_T_fits, 4),
  (11, yX11_firstOf, cX11_firstOf, (some .int), q_T_firstOf, 4),
  (11, yX11_oddsThat, cX11_oddsThat, (some .boolean), q_T_oddsThat, 4),
  (11, yX11_ask, cX11_ask, (some .int), q_T_ask, 4),
  (11, yX11_waysStatus, cX11_waysStatus, (some .int), q_T_waysStatus, 2),
  (11, yX11_findWays, cX11_findWays, none, q_T_findWays, 3),
  (11, yX11_rowsStatus, cX11_rowsStatus, (some .int), q_T_rowsStatus, 1),
  (11, yX11_laws, cX11_laws, (some .int), q_T_laws, 3),
  (11, yX11_lawOf, cX11_lawOf, (some .int), q_T_lawOf, 3),
  (11, yX11_error, cX11_error, (some .boolean), q_T_error, 2),
  (11, yX11_cut, cX11_cut, (some .int), q_T_cut, 2),
  (11, yX11_lawStatus, cX11_lawStatus, (some .int), q_T_lawStatus, 2),
  (11, yX11_isLaw, cX11_isLaw, (some .boolean), q_T_isLaw, 1),
  (11, yX11_tasteBoth, cX11_tasteBoth, none, q_T_tasteBoth, 1),
  (11, yX11_game, cX11_game, (some .int), q_T_game, 6),
  (11, yX11_moveOf, cX11_moveOf, (some .int), q_T_moveOf, 6),
  (11, yX11_share, cX11_share, (some .boolean), q_T_share, 2),
  (11, yX11_copyWarmth, cX11_copyWarmth, (some .int), q_T_copyWarmth, 2),
  (11, yX11_live, cX11_live, (some .int), q_T_live, 6),
  (11, yX11_lived, cX11_lived, (some .int), q_T_lived, 1),
  (11, yX11_mean, cX11_mean, (some .boolean), q_T_mean, 6),
  (11, yX11_mark, cX11_mark, (some .int), q_T_mark, 2),
  (11, yX11_undo, cX11_undo, (some .int), q_T_undo, 2),
  (11, yX11_answer, cX11_answer, (some .int), q_T_answer, 0),
  (11, yX11_refuse, cX11_refuse, (some .int), q_T_refuse, 0),
  (11, yX11_grant, cX11_grant, (some .boolean), q_T_grant, 0),
  (11, yX11_deny, cX11_deny, (some .boolean), q_T_deny, 0),
  (11, yX11_tell, cX11_tell, (some .boolean), q_T_tell, 1),
  (11, yX11_commonDivisor, cX11_commonDivisor, (some .long), q_T_commonDivisor, 0),
  (11, yX11_isCouple, cX11_isCouple, (some .boolean), q_T_isCouple, 1),
  (11, yX11_within, cX11_within, (some .boolean), q_T_within, 0),
  (11, yX11_warmBy, cX11_warmBy, (some .int), q_T_warmBy, 0),
  (12, yX12_init, cX12_init, none, q_M_init, 1),
  (12, yX12_plain, cX12_plain, none, q_M_plain, 0),
  (12, yX12_status, cX12_status, (some .int), q_M_status, 0),
  (12, yX12_top, cX12_top, (some .long), q_M_top, 0),
  (12, yX12_bottom, cX12_bottom, (some .long), q_M_bottom, 0),
  (12, yX12_is, cX12_is, (some .boolean), q_M_is, 0),
  (12, yX12_refuse, cX12_refuse, (some .int), q_M_refuse, 0),
  (12, yX12_gives, cX12_gives, (some .int), q_M_gives, 0),
  (12, yX12_tellsBy, cX12_tellsBy, (some .boolean), q_M_tellsBy, 1),
  (12, yX12_isTray, cX12_isTray, (some .boolean), q_M_isTray, 0),
  (12, yX12_shrunk, cX12_shrunk, (some .long), q_M_shrunk, 0),
  (12, yX12_tray, cX12_tray, (some .boolean), q_M_tray, 1),
  (12, yX12_wrongPlace, cX12_wrongPlace, (some .int), q_M_wrongPlace, 1),
  (12, yX12_write, cX12_write, (some .boolean), q_M_write, 2),
  (12, yX12_read, cX12_read, (some .long), q_M_read, 2),
  (12, yX12_pour, cX12_pour, (some .boolean), q_M_pour, 1),
  (12, yX12_isFrom, cX12_isFrom, (some .boolean), q_M_isFrom, 0),
  (12, yX12_feed, cX12_feed, (some .int), q_M_feed, 1),
  (12, yX12_four, cX12_four, none, q_M_four, 0),
  (12, yX12_byteAt, cX12_byteAt, (some .int), q_M_byteAt, 0),
  (12, yX12_isSmall, cX12_isSmall, (some .boolean), q_M_isSmall, 0),
  (12, yX12_isDigit, cX12_isDigit, (some .boolean), q_M_isDigit, 0),
  (12, yX12_ahead, cX12_ahead, none, q_M_ahead, 1),
  (12, yX12_isSign, cX12_isSign, (some .boolean), q_M_isSign, 0),
  (12, yX12_inWords, cX12_inWords, (some .int), q_M_inWords, 1),
  (12, yX12_fails, cX12_fails, (some .boolean), q_M_fails, 0),
  (12, yX12_begins, cX12_begins, (some .boolean), q_M_begins, 2),
  (12, yX12_wantSign, cX12_wantSign, (some .boolean), q_M_wantSign, 2),
  (12, yX12_wantWord, cX12_wantWord, (some .boolean), q_M_wantWord, 2),
  (12, yX12_number, cX12_number, (some .boolean), q_M_number, 2),
  (12, yX12_isName, cX12_isName, (some .boolean), q_M_isName, 2),
  (12, yX12_nameHere, cX12_nameHere, (some .long), q_M_nameHere, 1),
  (12, yX12_findHere, cX12_findHere, (some .int), q_M_findHere, 2),
  (12, yX12_fault, cX12_fault, (some .int), q_M_fault, 0),
  (12, yX12_taken, cX12_taken, (some .int), q_M_taken, 1),
  (12, yX12_personRow, cX12_personRow, (some .int), q_M_personRow, 0),
  (12, yX12_isIn, cX12_isIn, (some .boolean), q_M_isIn, 0),
  (12, yX12_isThere, cX12_isThere, (some .boolean), q_M_isThere, 2),
  (12, yX12_perhaps, cX12_perhaps, (some .boolean), q_M_perhaps, 3),
  (12, yX12_leastOf, cX12_leastOf, (some .int), q_M_leastOf, 0),
  (12, yX12_mostOf, cX12_mostOf, (some .int), q_M_mostOf, 0),
  (12, yX12_aPerson, cX12_aPerson, (some .boolean), q_M_aPerson, 4),
  (12, yX12_aToast, cX12_aToast, (some .boolean), q_M_aToast, 3),
  (12, yX12_mapPart, cX12_mapPart, (some .boolean), q_M_mapPart, 5),
  (12, yX12_map, cX12_map, (some .int), q_M_map, 6),
  (12, yX12_personTo, cX12_personTo, (some .boolean), q_M_personTo, 3),
  (12, yX12_test, cX12_test, (some .boolean), q_M_test, 4),
  (12, yX12_timeOrder, cX12_timeOrder, (some .boolean), q_M_timeOrder, 5),
  (12, yX12_timeStep, cX12_timeStep, (some .boolean), q_M_timeStep, 6),
  (12, yX12_times, cX12_times, (some .int), q_M_times, 7),
  (12, yX12_isPerson, cX12_isPerson, (some .boolean), q_M_isPerson, 0),
  (12, yX12_areTwo, cX12_areTwo, (some .boolean), q_M_areTwo, 1),
  (12, yX12_bits, cX12_bits, (some .int), q_M_bits, 0),
  (12, yX12_personOf, cX12_personOf, (some .int), q_M_personOf, 1),
  (12, yX12_whomOf, cX12_whomOf, (some .int), q_M_whomOf, 2),
  (12, yX12_farBetween, cX12_farBetween, (some .int), q_M_farBetween, 2),
  (12, yX12_warmBy, cX12_warmBy, (some .int), q_M_warmBy, 0),
  (12, yX12_warmOf, cX12_warmOf, (some .int), q_M_warmOf, 3),
  (12, yX12_isLit, cX12_isLit, (some .boolean), q_M_isLit, 2),
  (12, yX12_areLit, cX12_areLit, (some .int), q_M_areLit, 3),
  (12, yX12_haveWhom, cX12_haveWhom, (some .int), q_M_haveWhom, 3),
  (12, yX12_warmersOf, cX12_warmersOf, (some .int), q_M_warmersOf, 3),
  (12, yX12_together, cX12_together, (some .int), q_M_together, 2),
  (12, yX12_told, cX12_told, (some .int), q_M_told, 4),
  (12, yX12_person, cX12_person, (some .int), q_M_person, 4),
  (12, yX12_far, cX12_far, (some .int), q_M_far, 3),
  (12, yX12_warms, cX12_warms, none, q_M_warms, 2),
  (12, yX12_drinks, cX12_drinks, (some .boolean), q_M_drinks, 4),
  (12, yX12_drink, cX12_drink, (some .int), q_M_drink, 5),
  (12, yX12_cools, cX12_cools, none, q_M_cools, 2),
  (12, yX12_nightGoes, cX12_nightGoes, none, q_M_nightGoes, 3),
  (12, yX12_nightsGo, cX12_nightsGo, none, q_M_nightsGo, 4),
  (12, yX12_night, cX12_night, (some .int), q_M_night, 5),
  (12, yX12_eveningGoes, cX12_eveningGoes, (some .int), q_M_eveningGoes, 4),
  (12, yX12_evening, cX12_evening, (some .int), q_M_evening, 5),
  (12, yX12_fills, cX12_fills, (some .boolean), q_M_fills, 2),
  (12, yX12_fill, cX12_fill, (some .int), q_M_fill, 3),
  (12, yX12_means, cX12_means, (some .int), q_M_means, 2),
  (12, yX12_move, cX12_move, (some .int), q_M_move, 2),
  (12, yX12_aim, cX12_aim, (some .int), q_M_aim, 3),
  (12, yX12_come, cX12_come, (some .int), q_M_come, 1),
  (12, yX12_rule, cX12_rule, (some .boolean), q_M_rule, 1),
  (12, yX12_levelAt, cX12_levelAt, (some .int), q_M_levelAt, 0),
  (12, yX12_keeps, cX12_keeps, none, q_M_keeps, 0),
  (12, yX12_restores, cX12_restores, none, q_M_restores, 0),
  (12, yX12_cooled, cX12_cooled, (some .int), q_M_cooled, 2),
  (12, yX12_warmIn, cX12_warmIn, (some .int), q_M_warmIn, 3),
  (12, yX12_darkIn, cX12_darkIn, (some .int), q_M_darkIn, 3),
  (12, yX12_eveningsGo, cX12_eveningsGo, none, q_M_eveningsGo, 5),
  (12, yX12_eveningIn, cX12_eveningIn, (some .int), q_M_eveningIn, 6),
  (12, yX12_litIn, cX12_litIn, (some .int), q_M_litIn, 6),
  (12, yX12_isAlike, cX12_isAlike, (some .boolean), q_M_isAlike, 0),
  (12, yX12_laysSettled, cX12_laysSettled, (some .boolean), q_M_laysSettled, 5),
  (12, yX12_settles, cX12_settles, (some .int), q_M_settles, 6),
  (12, yX12_period, cX12_period, (some .int), q_M_period, 6),
  (12, yX12_laysChain, cX12_laysChain, none, q_M_laysChain, 3),
  (12, yX12_chain, cX12_chain, (some .int), q_M_chain, 4),
  (12, yX12_chainAt, cX12_chainAt, (some .int), q_M_chainAt, 4),
  (12, yX12_ringOf, cX12_ringOf, (some .int), q_M_ringOf, 4),
  (12, yX12_rings, cX12_rings, (some .int), q_M_rings, 5),
  (12, yX12_inRings, cX12_inRings, (some .int), q_M_inRings, 5),
  (12, yX12_needsOf, cX12_needsOf, (some .int), q_M_needsOf, 4),
  (12, yX12_needs, cX12_needs, (some .int), q_M_needs, 5),
  (12, yX12_mostOfAll, cX12_mostOfAll, (some .int), q_M_mostOfAll, 5),
  (12, yX12_most, cX12_most, (some .int), q_M_most, 6),
  (12, yX12_mostSet, cX12_mostSet, (some .int), q_M_mostSet, 6),
  (12, yX12_litBehind, cX12_litBehind, (some .int), q_M_litBehind, 5),
  (12, yX12_misses, cX12_misses, (some .int), q_M_misses, 6),
  (12, yX12_wrongSeen, cX12_wrongSeen, (some .int), q_M_wrongSeen, 1),
  (12, yX12_isWay, cX12_isWay, (some .boolean), q_M_isWay, 1),
  (12, yX12_counts, cX12_counts, none, q_M_counts, 0),
  (12, yX12_mayHave, cX12_mayHave, (some .boolean), q_M_mayHave, 0),
  (12, yX12_laysWays, cX12_laysWays, none, q_M_laysWays, 2),
  (12, yX12_fits, cX12_fits, (some .int), q_M_fits, 3),
  (12, yX12_firstOf, cX12_firstOf, (some .int), q_M_firstOf, 3),
  (12, yX12_oddsThat, cX12_oddsThat, (some .boolean), q_M_oddsThat, 3),
  (12, yX12_mostAlike, cX12_mostAlike, (some .int), q_M_mostAlike, 0),
  (12, yX12_ask, cX12_ask, (some .int), q_M_ask, 3),
  (12, yX12_wrongLaw, cX12_wrongLaw, (some .int), q_M_wrongLaw, 1),
  (12, yX12_isLaw, cX12_isLaw, (some .boolean), q_M_isLaw, 1),
  (12, yX12_laws, cX12_laws, (some .int), q_M_laws, 2),
  (12, yX12_lawOf, cX12_lawOf, (some .int), q_M_lawOf, 2),
  (12, yX12_atLeast, cX12_atLeast, (some .long), q_M_atLeast, 0),
  (12, yX12_waysOf, cX12_waysOf, (some .long), q_M_waysOf, 0),
  (12, yX12_errorOf, cX12_errorOf, (some .long), q_M_errorOf, 1),
  (12, yX12_error, cX12_error, (some .boolean), q_M_error, 2),
  (12, yX12_cut, cX12_cut, (some .int), q_M_cut, 2),
  (12, yX12_settlesAt, cX12_settlesAt, none, q_M_settlesAt, 0),
  (12, yX12_beginsAt, cX12_beginsAt, none, q_M_beginsAt, 1),
  (12, yX12_playing, cX12_playing, (some .int), q_M_playing, 5),
  (12, yX12_game, cX12_game, (some .int), q_M_game, 6),
  (12, yX12_moveOf, cX12_moveOf, (some .int), q_M_moveOf, 6),
  (12, yX12_share, cX12_share, (some .boolean), q_M_share, 3),
  (12, yX12_copyWarmth, cX12_copyWarmth, (some .int), q_M_copyWarmth, 2),
  (12, yX12_draw, cX12_draw, (some .int), q_M_draw, 0),
  (12, yX12_nightsBy, cX12_nightsBy, (some .boolean), q_M_nightsBy, 5),
  (12, yX12_drinksBy, cX12_drinksBy, (some .boolean), q_M_drinksBy, 5),
  (12, yX12_eveningsBy, cX12_eveningsBy, (some .boolean), q_M_eveningsBy, 5),
  (12, yX12_doesAny, cX12_doesAny, (some .boolean), q_M_doesAny, 6),
  (12, yX12_does, cX12_does, (some .boolean), q_M_does, 7),
  (12, yX12_holds, cX12_holds, (some .boolean), q_M_holds, 3),
  (12, yX12_behindEnds, cX12_behindEnds, (some .int), q_M_behindEnds, 0),
  (12, yX12_lives, cX12_lives, none, q_M_lives, 8),
  (12, yX12_live, cX12_live, (some .int), q_M_live, 9),
  (12, yX12_lived, cX12_lived, (some .int), q_M_lived, 1),
  (12, yX12_mean, cX12_mean, (some .boolean), q_M_mean, 9),
  (12, yX12_copies, cX12_copies, none, q_M_copies, 0),
  (12, yX12_mark, cX12_mark, (some .int), q_M_mark, 1),
  (12, yX12_undo, cX12_undo, (some .int), q_M_undo, 1),
  (0, yX0_init, cX0_init, none, q_Co_init, 0),
  (0, yX0_clear, cX0_clear, none, q_Co_clear, 0),
  (0, yX0_takeFrom, cX0_takeFrom, none, q_Co_takeFrom, 0),
  (0, yX0_has, cX0_has, (some .boolean), q_Co_has, 0),
  (0, yX0_isFull, cX0_isFull, (some .boolean), q_Co_isFull, 0),
  (0, yX0_add, cX0_add, (some .int), q_Co_add, 0),
  (0, yX0_named, cX0_named, (some .int), q_Co_named, 0),
  (0, yX0_hasWhom, cX0_hasWhom, (some .boolean), q_Co_hasWhom, 0),
  (0, yX0_apart, cX0_apart, (some .int), q_Co_apart, 0),
  (0, yX0_warmOf, cX0_warmOf, (some .int), q_Co_warmOf, 1),
  (0, yX0_isLit, cX0_isLit, (some .boolean), q_Co_isLit, 0),
  (0, yX0_litSet, cX0_litSet, (some .int), q_Co_litSet, 1),
  (0, yX0_toastingSet, cX0_toastingSet, (some .int), q_Co_toastingSet, 1),
  (0, yX0_warmersOf, cX0_warmersOf, (some .int), q_Co_warmersOf, 0),
  (0, yX0_allWarmth, cX0_allWarmth, (some .int), q_Co_allWarmth, 0),
  (0, yX0_allGlasses, cX0_allGlasses, (some .int), q_Co_allGlasses, 0),
  (0, yX0_warmthAsOne, cX0_warmthAsOne, (some .long), q_Co_warmthAsOne, 0),
  (0, yX0_canDrink, cX0_canDrink, (some .boolean), q_Co_canDrink, 1),
  (0, yX0_letDrink, cX0_letDrink, (some .int), q_Co_letDrink, 1),
  (0, yX0_hasNights, cX0_hasNights, (some .boolean), q_Co_hasNights, 0),
  (0, yX0_warmthIn, cX0_warmthIn, (some .int), q_Co_warmthIn, 0),
  (0, yX0_passNights, cX0_passNights, none, q_Co_passNights, 1),
  (0, yX0_passEvening, cX0_passEvening, (some .int), q_Co_passEvening, 2),
  (0, yX0_chainLength, cX0_chainLength, (some .int), q_Co_chainLength, 1),
  (0, yX0_alongChain, cX0_alongChain, (some .int), q_Co_alongChain, 1),
  (0, yX0_isInRing, cX0_isInRing, (some .boolean), q_Co_isInRing, 1),
  (0, yX0_leadsRing, cX0_leadsRing, (some .boolean), q_Co_leadsRing, 2),
  (0, yX0_drinksTo, cX0_drinksTo, (some .int), q_Co_drinksTo, 3),
  (0, yX0_warmestOf, cX0_warmestOf, (some .int), q_Co_warmestOf, 2),
  (0, yX0_mostLit, cX0_mostLit, (some .int), q_Co_mostLit, 4),
  (0, yX0_canAllBeLit, cX0_canAllBeLit, (some .boolean), q_Co_canAllBeLit, 0),
  (1, yX1_init, cX1_init, none, q_Ga_init, 1),
  (1, yX1_worth, cX1_worth, (some .int), q_Ga_worth, 0),
  (1, yX1_firstMove, cX1_firstMove, (some .int), q_Ga_firstMove, 0),
  (1, yX1_playOut, cX1_playOut, none, q_Ga_playOut, 5),
  (1, yX1_litCount, cX1_litCount, (some .int), q_Ga_litCount, 2),
  (1, yX1_butler, cX1_butler, (some .int), q_Ga_butler, 5),
  (1, yX1_behindDrink, cX1_behindDrink, (some .int), q_Ga_behindDrink, 4),
  (1, yX1_draught, cX1_draught, (some .int), q_Ga_draught, 3),
  (2, yX2_init, cX2_init, none, q_Gl_init, 0),
  (2, yX2_taste, cX2_taste, none, q_Gl_taste, 0),
  (2, yX2_all, cX2_all, (some .long), q_Gl_all, 0),
  (2, yX2_below, cX2_below, (some .long), q_Gl_below, 0),
  (2, yX2_from, cX2_from, (some .long), q_Gl_from, 1),
  (3, yX3_init, cX3_init, none, q_Li_init, 0),
  (3, yX3_runThrough, cX3_runThrough, none, q_Li_runThrough, 5),
  (3, yX3_behindEnd, cX3_behindEnd, (some .int), q_Li_behindEnd, 0),
  (3, yX3_behindStep, cX3_behindStep, (some .int), q_Li_behindStep, 4),
  (3, yX3_liveDrink, cX3_liveDrink, none, q_Li_liveDrink, 2),
  (3, yX3_liveNights, cX3_liveNights, none, q_Li_liveNights, 2),
  (3, yX3_liveEvening, cX3_liveEvening, none, q_Li_liveEvening, 3),
  (3, yX3_liveFill, cX3_liveFill, none, q_Li_liveFill, 1),
  (3, yX3_liveAny, cX3_liveAny, none, q_Li_liveAny, 3),
  (3, yX3_drawBy, cX3_drawBy, (some .int), q_Li_drawBy, 0),
  (3, yX3_holds, cX3_holds, (some .boolean), q_Li_holds, 1),
  (4, yX4_init, cX4_init, none, q_MR_init, 1),
  (4, yX4_draft, cX4_draft, (some (.object "ToastMap$Company")), q_MR_draft, 0),
  (4, yX4_readMap, cX4_readMap, (some .boolean), q_MR_readMap, 6),
  (4, yX4_readPart, cX4_readPart, (some .boolean), q_MR_readPart, 5),
  (4, yX4_readRule, cX4_readRule, (some .boolean), q_MR_readRule, 4),
  (4, yX4_readPerson, cX4_readPerson, (some .boolean), q_MR_readPerson, 4),
  (4, yX4_readPerhaps, cX4_readPerhaps, (some .boolean), q_MR_readPerhaps, 3),
  (4, yX4_readToast, cX4_readToast, (some .boolean), q_MR_readToast, 4),
  (5, yX5_init, cX5_init, none, q_Mk_init, 1),
  (5, yX5_isFull, cX5_isFull, (some .boolean), q_Mk_isFull, 0),
  (5, yX5_isEmpty, cX5_isEmpty, (some .boolean), q_Mk_isEmpty, 0),
  (5, yX5_keep, cX5_keep, (some .int), q_Mk_keep, 1),
  (5, yX5_giveBack, cX5_giveBack, (some .int), q_Mk_giveBack, 1),
  (6, yX6_init, cX6_init, none, q_Tp_init, 1),
  (6, yX6_length, cX6_length, (some .int), q_Tp_length, 0),
  (6, yX6_faultKind, cX6_faultKind, (some .int), q_Tp_faultKind, 0),
  (6, yX6_faultPlace, cX6_faultPlace, (some .int), q_Tp_faultPlace, 0),
  (6, yX6_hasRoom, cX6_hasRoom, (some .boolean), q_Tp_hasRoom, 0),
  (6, yX6_append, cX6_append, none, q_Tp_append, 0),
  (6, yX6_empty, cX6_empty, none, q_Tp_empty, 0),
  (6, yX6_begin, cX6_begin, none, q_Tp_begin, 3),
  (6, yX6_isAtEnd, cX6_isAtEnd, (some .boolean), q_Tp_isAtEnd, 0),
  (6, yX6_isAtCompares, cX6_isAtCompares, (some .boolean), q_Tp_isAtCompares, 0),
  (6, yX6_sign, cX6_sign, (some .int), q_Tp_sign, 0),
  (6, yX6_number, cX6_number, (some .int), q_Tp_number, 0),
  (6, yX6_object, cX6_object, (some .boolean), q_Tp_object, 0),
  (6, yX6_passWord, cX6_passWord, (some .boolean), q_Tp_passWord, 3),
  (6, yX6_passSemicolon, cX6_passSemicolon, (some .boolean), q_Tp_passSemicolon, 3),
  (6, yX6_isNumber, cX6_isNumber, (some .boolean), q_Tp_isNumber, 1),
  (6, yX6_whoIsNamed, cX6_whoIsNamed, (some .int), q_Tp_whoIsNamed, 1),
  (6, yX6_step, cX6_step, none, q_Tp_step, 2),
  (6, yX6_stepWord, cX6_stepWord, none, q_Tp_stepWord, 1),
  (6, yX6_stepNumber, cX6_stepNumber, none, q_Tp_stepNumber, 1),
  (6, yX6_wordOf, cX6_wordOf, (some .int), q_Tp_wordOf, 0),
  (6, yX6_withLetter, cX6_withLetter, (some .long), q_Tp_withLetter, 0),
  (6, yX6_isBlank, cX6_isBlank, (some .boolean), q_Tp_isBlank, 0),
  (6, yX6_isLetter, cX6_isLetter, (some .boolean), q_Tp_isLetter, 0),
  (6, yX6_isDigit, cX6_isDigit, (some .boolean), q_Tp_isDigit, 0),
  (6, yX6_isSign, cX6_isSign, (some .boolean), q_Tp_isSign, 0),
  (7, yX7_init, cX7_init, none, q_Ti_init, 0),
  (7, yX7_forget, cX7_forget, none, q_Ti_forget, 0),
  (7, yX7_add, cX7_add, (some .int), q_Ti_add, 0),
  (7, yX7_takeFrom, cX7_takeFrom, none, q_Ti_takeFrom, 0),
  (8, yX8_init, cX8_init, none, q_TR_init, 1),
  (8, yX8_draft, cX8_draft, (some (.object "ToastMap$Times")), q_TR_draft, 0),
  (8, yX8_readTimes, cX8_readTimes, (some .boolean), q_TR_readTimes, 6),
  (8, yX8_readStep, cX8_readStep, (some .boolean), q_TR_readStep, 5),
  (8, yX8_readEnd, cX8_readEnd, (some .boolean), q_TR_readEnd, 4),
  (8, yX8_readTest, cX8_readTest, (some .boolean), q_TR_readTest, 4),
  (8, yX8_readWho, cX8_readWho, (some .boolean), q_TR_readWho, 3),
  (8, yX8_readCompares, cX8_readCompares, (some .boolean), q_TR_readCompares, 3),
  (8, yX8_readAmount, cX8_readAmount, (some .boolean), q_TR_readAmount, 3),
  (9, yX9_init, cX9_init, none, q_Tr_init, 0),
  (9, yX9_isTray, cX9_isTray, (some .boolean), q_Tr_isTray, 0),
  (9, yX9_isSort, cX9_isSort, (some .boolean), q_Tr_isSort, 0),
  (9, yX9_isMissing, cX9_isMissing, (some .boolean), q_Tr_isMissing, 0),
  (9, yX9_length, cX9_length, (some .int), q_Tr_length, 0),
  (9, yX9_sort, cX9_sort, (some .int), q_Tr_sort, 0),
  (9, yX9_has, cX9_has, (some .boolean), q_Tr_has, 0),
  (9, yX9_lay, cX9_lay, none, q_Tr_lay, 0),
  (9, yX9_at, cX9_at, (some .long), q_Tr_at, 0),
  (9, yX9_put, cX9_put, none, q_Tr_put, 1),
  (9, yX9_copy, cX9_copy, none, q_Tr_copy, 0),
  (9, yX9_cutTo, cX9_cutTo, (some .long), q_Tr_cutTo, 0),
  (10, yX10_init, cX10_init, none, q_Wy_init, 0),
  (10, yX10_begin, cX10_begin, none, q_Wy_begin, 0),
  (10, yX10_seen, cX10_seen, none, q_Wy_seen, 0),
  (10, yX10_countAll, cX10_countAll, none, q_Wy_countAll, 2),
  (10, yX10_spread, cX10_spread, none, q_Wy_spread, 1),
  (10, yX10_gather, cX10_gather, none, q_Wy_gather, 1),
  (10, yX10_isOpen, cX10_isOpen, (some .boolean), q_Wy_isOpen, 0),
  (10, yX10_all, cX10_all, (some .int), q_Wy_all, 0),
  (10, yX10_through, cX10_through, (some .int), q_Wy_through, 1),
  (10, yX10_firstWhom, cX10_firstWhom, (some .int), q_Wy_firstWhom, 2),
  (10, yX10_firstOpen, cX10_firstOpen, (some .int), q_Wy_firstOpen, 1),
  (10, yX10_bestAsked, cX10_bestAsked, (some .int), q_Wy_bestAsked, 3),
  (10, yX10_mostThrough, cX10_mostThrough, (some .int), q_Wy_mostThrough, 2),
  (13, yL_law, cL_law, (some .boolean), q_L_law, 10)]
def MT (id : Nat) : mMT := (nth MTl id).getD (99, yL_law, ByteArray.empty, none, ([], []), 0)
abbrev mtO (id : Nat) : Nat := (MT id).1
abbrev mtY (id : Nat) : MethodName := (MT id).2.1
abbrev mtB (id : Nat) : ByteArray := (MT id).2.2.1
abbrev mtR (id : Nat) : Option FieldType := (MT id).2.2.2.1
abbrev mtP (id : Nat) : List Nat := (MT id).2.2.2.2.1.1
abbrev mtX (id : Nat) : List Nat := (MT id).2.2.2.2.1.2
abbrev mtK (id : Nat) : Nat := (MT id).2.2.2.2.2
def tabQ {α : Type} (f : α → Cond) (q : α × Nat) : Bool := decide (tables_1[q.2]? = some (f q.1)) && goodWord (f q.1)
theorem zip_tab {α : Type} {f : α → Cond} {l : List α} {ps : List Nat} (hl9 : Nat.beq l.length ps.length = true) (h : (l.zip ps).all (tabQ f) = true) {q : α} (hq : q ∈ l) : f q ∈ lw_g := by
  have hl := Nat.eq_of_beq_eq_true hl9
  obtain ⟨i, hi⟩ := List.getElem?_of_mem hq
  have hi2 : i < l.length := (List.getElem?_eq_some_iff.mp hi).1
  obtain ⟨n, hn⟩ : ∃ n, ps[i]? = some n := ⟨ps[i], List.getElem?_eq_getElem (by omega)⟩
  have hz : (l.zip ps)[i]? = some (q, n) := by rw [List.getElem?_zip_eq_some]; exact ⟨hi, hn⟩
  have h2 := List.all_eq_true.mp h _ (List.mem_of_getElem? hz)
  unfold tabQ at h2
  rw [Bool.and_eq_true] at h2
  exact mem_g (List.mem_append_right _ (List.mem_of_getElem? (of_decide_eq_true h2.1))) h2.2
def vwT (ci : Nat) : u_T := match nth vwCl ci with
  | some q => q.2.1
  | none => fun _ => ("", "", "", false)
def FLl : List (Nat × Nat × Nat × Nat) := [(0, 9, 0, 0), (0, 15, 0, 1), (0, 18, 0, 2), (0, 22, 0, 3), (0, 25, 0, 4), (0, 28, 0, 5), (0, 31, 0, 6), (0, 34, 0, 7), (0, 37, 0, 8), (0, 41, 0, 9), (1, 12, 1, 0), (1, 18, 1, 1), (1, 22, 1, 2), (1, 25, 1, 3), (1, 42, 0, 0), (1, 69, 0, 7), (1, 73, 0, 5), (1, 79, 0, 6), (2, 9, 2, 0), (2, 13, 2, 1), (3, 11, 3, 0), (3, 17, 3, 1), (3, 21, 3, 2), (3, 24, 3, 3), (3, 27, 3, 4), (3, 30, 3, 5), (3, 33, 3, 6), (3, 36, 3, 7), (3, 41, 7, 6), (3, 44, 7, 0), (3, 55, 7, 5), (3, 58, 7, 1), (3, 65, 7, 4), (3, 109, 0, 6), (3, 112, 0, 0), (3, 118, 0, 2), (3, 128, 7, 2), (3, 134, 0, 5), (3, 137, 7, 3), (4, 12, 4, 1), (4, 18, 4, 2), (4, 22, 4, 0), (4, 42, 6, 9), (4, 72, 0, 2), (4, 85, 6, 10), (4, 100, 0, 4), (4, 107, 0, 5), (4, 110, 0, 6), (4, 120, 0, 7), (5, 11, 5, 0), (5, 19, 5, 1), (5, 23, 5, 2), (6, 9, 6, 0), (6, 15, 6, 1), (6, 19, 6, 2), (6, 23, 6, 3), (6, 26, 6, 4), (6, 29, 6, 5), (6, 32, 6, 6), (6, 35, 6, 7), (6, 38, 6, 8), (6, 41, 6, 9), (6, 44, 6, 10), (6, 48, 6, 11), (6, 51, 6, 12), (7, 11, 7, 0), (7, 15, 7, 1), (7, 18, 7, 2), (7, 21, 7, 3), (7, 24, 7, 4), (7, 27, 7, 5), (7, 30, 7, 6), (7, 34, 7, 7), (7, 37, 7, 8), (8, 12, 8, 1), (8, 18, 8, 2), (8, 22, 8, 3), (8, 26, 8, 0), (8, 47, 7, 8), (8, 55, 6, 9), (8, 61, 7, 7), (8, 85, 7, 5), (8, 88, 7, 2), (8, 98, 7, 1), (8, 104, 7, 3), (8, 115, 7, 4), (9, 13, 9, 0), (9, 16, 9, 1), (9, 20, 9, 2), (10, 9, 10, 0), (10, 15, 10, 1), (10, 18, 10, 2), (10, 21, 10, 3), (10, 25, 10, 4), (11, 9, 11, 0), (11, 13, 11, 1), (11, 17, 11, 2), (11, 20, 11, 3), (11, 27, 11, 4), (11, 34, 11, 5), (11, 41, 11, 6), (11, 45, 11, 7), (11, 51, 11, 8), (11, 60, 11, 9), (11, 67, 11, 10), (11, 74, 11, 11), (11, 81, 11, 12), (11, 85, 11, 13), (11, 91, 11, 14), (11, 98, 11, 15), (11, 105, 11, 16), (11, 109, 11, 17), (11, 112, 11, 18), (11, 201, 0, 0), (11, 217, 7, 7), (11, 226, 0, 2), (11, 230, 0, 1), (11, 250, 0, 3), (11, 253, 0, 4), (11, 256, 0, 5), (11, 259, 0, 6), (11, 262, 0, 7), (11, 422, 7, 8), (11, 429, 3, 2), (11, 432, 3, 3), (11, 435, 3, 4), (11, 438, 3, 5), (11, 441, 3, 6), (11, 444, 3, 7), (12, 7, 12, 0), (12, 13, 12, 1), (12, 17, 12, 4), (12, 21, 12, 5), (12, 24, 12, 6), (12, 27, 12, 7), (12, 30, 12, 8), (12, 34, 12, 9), (12, 37, 12, 16), (12, 41, 12, 17), (12, 44, 12, 21), (12, 47, 12, 24), (12, 50, 12, 25), (12, 53, 12, 28), (12, 56, 12, 30), (12, 59, 12, 31), (12, 62, 12, 32), (12, 65, 12, 33), (12, 68, 12, 35), (12, 71, 12, 36), (12, 74, 12, 37), (12, 77, 12, 38), (12, 80, 12, 41), (12, 83, 12, 42), (12, 86, 12, 43), (12, 93, 12, 2), (12, 96, 12, 3), (12, 123, 12, 10), (12, 129, 12, 11), (12, 132, 12, 14), (12, 138, 12, 13), (12, 141, 12, 15), (12, 144, 12, 12), (12, 169, 12, 18), (12, 172, 12, 19), (12, 219, 12, 20), (12, 257, 12, 22), (12, 260, 12, 23), (12, 358, 12, 26), (12, 361, 12, 27), (12, 367, 12, 29), (12, 393, 12, 34), (12, 459, 12, 39), (12, 478, 12, 40), (12, 495, 12, 44), (12, 499, 12, 45)]
def FLl_p : List Nat := [163, 167, 169, 173, 175, 178, 183, 188, 192, 193, 393, 394, 395, 396, 164, 189, 180, 185, 412, 413, 332, 333, 334, 336, 338, 340, 342, 344, 239, 222, 236, 224, 233, 186, 165, 171, 228, 181, 231, 274, 275, 273, 118, 170, 121, 176, 179, 184, 190, 316, 317, 318, 108, 109, 110, 111, 112, 113, 114, 115, 116, 117, 120, 122, 123, 221, 223, 226, 229, 232, 235, 238, 240, 243, 292, 293, 294, 291, 244, 119, 241, 237, 227, 225, 230, 234, 37, 38, 39, 369, 370, 371, 372, 373, 419, 420, 421, 422, 423, 424, 425, 426, 427, 428, 429, 430, 431, 432, 433, 434, 435, 436, 437, 166, 242, 172, 168, 174, 177, 182, 187, 191, 245, 335, 337, 339, 341, 343, 345, 1339, 1340, 1343, 1344, 1345, 1346, 1347, 1348, 1355, 1356, 1360, 1363, 1364, 1367, 1369, 1370, 1371, 1372, 1374, 1375, 1376, 1377, 1380, 1381, 1382, 1341, 1342, 1349, 1350, 1353, 1352, 1354, 1351, 1357, 1358, 1359, 1361, 1362, 1365, 1366, 1368, 1373, 1378, 1379, 1383, 1384]
def FLl_f (q : Nat × Nat × Nat × Nat) : Cond := Cond.fieldLink (RN q.1) q.2.1 (vwT q.2.2.1 q.2.2.2).1 (vwT q.2.2.1 q.2.2.2).2.1 (vwT q.2.2.1 q.2.2.2).2.2.1
set_option maxRecDepth 100000 in
theorem FLl_d : (FLl.zip FLl_p).all (tabQ FLl_f) = true := by decide +kernel
set_option maxRecDepth 100000 in
theorem FLl_l : Nat.beq FLl.length FLl_p.length = true := by decide +kernel
theorem FLl_ok {q : Nat × Nat × Nat × Nat} (h : q ∈ FLl) : FLl_f q ∈ lw_g := zip_tab FLl_l FLl_d h
def VLl : List (Nat × Nat × Nat) := [(0, 63, 228), (0, 67, 233), (0, 74, 235), (0, 77, 232), (0, 83, 245), (0, 86, 234), (0, 89, 246), (0, 98, 250), (0, 101, 238), (0, 104, 253), (0, 107, 252), (0, 110, 255), (1, 28, 227), (1, 38, 260), (1, 45, 242), (1, 49, 262), (1, 53, 263), (1, 57, 236), (1, 76, 243), (1, 82, 261), (1, 85, 245), (2, 23, 266), (2, 27, 267), (3, 47, 271), (3, 51, 272), (3, 61, 273), (3, 68, 274), (3, 71, 275), (3, 75, 276), (3, 79, 277), (3, 82, 279), (3, 86, 228), (3, 92, 242), (3, 95, 243), (3, 99, 244), (3, 102, 246), (3, 106, 247), (3, 115, 278), (3, 131, 235), (4, 26, 226), (4, 29, 300), (4, 35, 301), (4, 39, 283), (4, 45, 284), (4, 49, 285), (4, 52, 287), (4, 55, 305), (4, 58, 310), (4, 68, 308), (4, 75, 304), (4, 79, 307), (4, 82, 229), (4, 89, 231), (4, 93, 306), (4, 96, 230), (4, 103, 286), (4, 113, 309), (4, 117, 232), (5, 29, 227), (5, 33, 322), (6, 76, 310), (6, 79, 305), (6, 83, 231), (6, 96, 311), (6, 102, 312), (6, 108, 313), (8, 30, 320), (8, 33, 300), (8, 39, 301), (8, 43, 326), (8, 51, 305), (8, 58, 327), (8, 64, 321), (8, 68, 310), (8, 71, 329), (8, 75, 331), (8, 79, 328), (8, 82, 307), (8, 91, 330), (8, 94, 309), (8, 101, 302), (8, 107, 303), (8, 111, 308), (8, 118, 304), (10, 34, 348), (10, 38, 349), (10, 47, 350), (10, 51, 354), (10, 54, 356), (10, 57, 352), (11, 116, 333), (11, 120, 334), (11, 127, 70), (11, 130, 339), (11, 134, 69), (11, 138, 9), (11, 142, 341), (11, 146, 68), (11, 150, 340), (11, 154, 10), (11, 158, 342), (11, 162, 335), (11, 165, 336), (11, 168, 337), (11, 171, 338), (11, 174, 297), (11, 177, 298), (11, 181, 294), (11, 184, 282), (11, 187, 299), (11, 190, 281), (11, 194, 227), (11, 198, 320), (11, 204, 67), (11, 207, 325), (11, 211, 324), (11, 214, 322), (11, 220, 295), (11, 223, 296), (11, 233, 236), (11, 236, 237), (11, 239, 239), (11, 242, 240), (11, 245, 228), (11, 247, 232), (11, 265, 234), (11, 268, 238), (11, 271, 233), (11, 274, 242), (11, 277, 243), (11, 280, 244), (11, 283, 246), (11, 286, 247), (11, 289, 73), (11, 293, 229), (11, 296, 230), (11, 306, 245), (11, 309, 33), (11, 312, 34), (11, 315, 35), (11, 318, 241), (11, 322, 248), (11, 325, 249), (11, 328, 251), (11, 331, 250), (11, 334, 252), (11, 337, 254), (11, 345, 48), (11, 348, 49), (11, 352, 351), (11, 355, 353), (11, 358, 352), (11, 361, 71), (11, 365, 355), (11, 368, 50), (11, 372, 345), (11, 375, 346), (11, 378, 347), (11, 381, 55), (11, 384, 56), (11, 388, 57), (11, 391, 267), (11, 395, 268), (11, 398, 266), (11, 409, 265), (11, 412, 259), (11, 416, 257), (11, 419, 258), (11, 425, 270), (11, 447, 289), (11, 448, 291), (11, 452, 290), (11, 455, 292), (12, 89, 77), (12, 99, 82), (12, 103, 83), (12, 106, 81), (12, 113, 88), (12, 126, 94), (12, 135, 95), (12, 175, 98), (12, 178, 99), (12, 181, 101), (12, 184, 100), (12, 188, 107), (12, 194, 113), (12, 197, 105), (12, 204, 106), (12, 208, 108), (12, 211, 104), (12, 215, 114), (12, 222, 112), (12, 226, 117), (12, 230, 103), (12, 233, 118), (12, 242, 102), (12, 245, 119), (12, 248, 110), (12, 251, 121), (12, 254, 122), (12, 263, 123), (12, 266, 124), (12, 269, 126), (12, 272, 129), (12, 278, 130), (12, 281, 131), (12, 288, 134), (12, 291, 135), (12, 294, 136), (12, 297, 138), (12, 300, 137), (12, 303, 133), (12, 306, 142), (12, 310, 143), (12, 313, 145), (12, 316, 146), (12, 325, 147), (12, 328, 149), (12, 333, 151), (12, 338, 127), (12, 343, 161), (12, 346, 159), (12, 349, 164), (12, 352, 160), (12, 355, 167), (12, 364, 168), (12, 370, 171), (12, 373, 174), (12, 377, 177), (12, 385, 179), (12, 388, 182), (12, 396, 185), (12, 399, 187), (12, 402, 186), (12, 405, 184), (12, 408, 188), (12, 411, 84), (12, 415, 192), (12, 422, 194), (12, 425, 195), (12, 434, 198), (12, 442, 200), (12, 448, 204), (12, 451, 203), (12, 456, 205), (12, 463, 210), (12, 466, 212), (12, 469, 211), (12, 472, 213), (12, 475, 214), (12, 481, 215), (12, 484, 216), (12, 487, 217), (12, 492, 218), (12, 502, 222), (13, 13, 2), (13, 17, 78), (13, 18, 3), (13, 22, 79), (13, 23, 4), (13, 26, 80), (13, 27, 5), (13, 31, 87), (13, 34, 6), (13, 38, 89), (13, 39, 7), (13, 43, 90), (13, 44, 8), (13, 48, 91), (13, 49, 11), (13, 53, 93), (13, 54, 12), (13, 58, 120), (13, 59, 13), (13, 62, 125), (13, 63, 14), (13, 66, 109), (13, 67, 15), (13, 70, 139), (13, 71, 16), (13, 75, 140), (13, 76, 17), (13, 79, 141), (13, 80, 18), (13, 83, 144), (13, 84, 19), (13, 87, 148), (13, 88, 20), (13, 91, 150), (13, 92, 21), (13, 95, 152), (13, 96, 22), (13, 99, 153), (13, 100, 23), (13, 103, 154), (13, 104, 24), (13, 107, 155), (13, 108, 25), (13, 111, 156), (13, 112, 26), (13, 116, 157), (13, 117, 27), (13, 120, 162), (13, 121, 28), (13, 124, 163), (13, 125, 29), (13, 128, 165), (13, 129, 30), (13, 132, 166), (13, 133, 31), (13, 136, 169), (13, 137, 32), (13, 140, 170), (13, 141, 36), (13, 144, 172), (13, 145, 37), (13, 148, 173), (13, 149, 38), (13, 152, 175), (13, 153, 39), (13, 156, 176), (13, 157, 40), (13, 160, 178), (13, 161, 41), (13, 164, 180), (13, 165, 42), (13, 168, 181), (13, 169, 43), (13, 172, 183), (13, 173, 44), (13, 176, 189), (13, 177, 45), (13, 181, 190), (13, 182, 46), (13, 186, 191), (13, 187, 47), (13, 190, 193), (13, 191, 51), (13, 194, 196), (13, 195, 52), (13, 198, 197), (13, 199, 53), (13, 202, 201), (13, 203, 54), (13, 206, 202), (13, 207, 58), (13, 210, 206), (13, 211, 59), (13, 214, 207), (13, 215, 60), (13, 219, 208), (13, 220, 61), (13, 223, 209), (13, 224, 62), (13, 227, 219), (13, 228, 63), (13, 231, 220), (13, 232, 64), (13, 235, 221), (13, 236, 65), (13, 239, 223), (13, 240, 66), (13, 243, 224)]
def VLl_p : List Nat := [840, 841, 810, 818, 884, 899, 900, 1004, 1021, 1022, 1034, 1035, 1197, 1199, 1205, 1206, 1211, 1203, 1210, 1215, 1220, 1179, 1183, 1250, 1254, 1258, 1265, 1271, 1276, 1280, 1290, 1262, 1263, 1264, 1269, 1270, 1275, 1284, 1294, 596, 600, 635, 639, 643, 669, 694, 647, 651, 656, 661, 665, 673, 677, 681, 685, 690, 698, 703, 1315, 1316, 607, 660, 702, 617, 628, 621, 735, 736, 737, 738, 746, 742, 748, 747, 754, 759, 765, 753, 769, 758, 773, 777, 763, 764, 1077, 1086, 1082, 1102, 1132, 1136, 493, 497, 504, 508, 512, 520, 532, 543, 547, 555, 567, 524, 528, 559, 563, 576, 580, 584, 592, 707, 711, 715, 719, 723, 731, 781, 785, 794, 798, 806, 814, 819, 823, 831, 835, 836, 851, 859, 864, 868, 876, 880, 895, 917, 925, 926, 937, 946, 958, 966, 962, 978, 992, 1000, 1012, 1017, 1030, 1052, 1060, 1090, 1098, 1110, 1114, 1128, 1056, 1064, 1069, 1073, 1142, 1149, 1162, 1171, 1175, 1184, 1166, 1193, 1221, 1229, 1245, 1307, 1311, 1321, 1325, 1335, 1557, 1637, 1497, 1505, 1525, 1545, 1541, 1619, 1572, 1566, 1595, 1611, 1603, 1587, 1591, 1599, 1607, 1576, 1580, 1615, 1623, 1537, 1561, 1633, 1653, 1657, 1649, 1645, 1693, 1673, 1681, 1705, 1669, 1665, 1677, 1685, 1697, 1701, 1725, 1721, 1745, 1741, 1737, 1753, 1762, 1779, 1796, 1808, 1812, 1816, 1832, 1828, 1844, 1856, 1868, 1878, 1893, 1910, 1914, 1918, 1901, 1906, 1930, 1938, 1946, 1952, 1974, 1966, 1991, 1998, 1987, 2043, 2027, 2031, 2035, 2039, 2023, 2048, 2052, 2019, 2068, 477, 1478, 481, 1482, 485, 1486, 489, 1490, 516, 1501, 539, 1512, 551, 1517, 572, 1521, 588, 1533, 727, 1641, 790, 1529, 802, 1661, 827, 1689, 855, 1713, 860, 1717, 872, 1729, 891, 1749, 901, 1757, 905, 1766, 909, 1770, 913, 1775, 921, 1783, 927, 1787, 933, 1791, 938, 1800, 942, 1804, 950, 1820, 954, 1824, 970, 1836, 974, 1840, 988, 1848, 996, 1852, 1008, 1860, 1013, 1864, 1026, 1873, 1040, 1885, 1044, 1889, 1048, 1897, 1094, 1922, 1106, 1926, 1124, 1934, 1138, 1942, 1154, 1956, 1158, 1960, 1185, 1978, 1189, 1982, 1225, 2002, 1233, 2006, 1237, 2010, 1241, 2014, 1295, 2056, 1299, 2060, 1303, 2064, 1317, 2072]
def VLl_f (q : Nat × Nat × Nat) : Cond := Cond.methodLink (RN q.1) q.2.1 (mtY q.2.2)
set_option maxRecDepth 100000 in
theorem VLl_d : (VLl.zip VLl_p).all (tabQ VLl_f) = true := by decide +kernel
set_option maxRecDepth 100000 in
theorem VLl_l : Nat.beq VLl.length VLl_p.length = true := by decide +kernel
theorem VLl_ok {q : Nat × Nat × Nat} (h : q ∈ VLl) : VLl_f q ∈ lw_g := zip_tab VLl_l VLl_d h
def SLl : List (Nat × Nat × Nat) := [(0, 93, 0), (1, 60, 0), (6, 66, 314), (6, 89, 315), (6, 93, 316), (6, 99, 317), (6, 105, 318), (9, 23, 343), (10, 41, 0), (11, 123, 74), (11, 340, 0), (11, 406, 75), (11, 458, 72), (12, 110, 85), (12, 117, 86), (12, 147, 96), (12, 150, 97), (12, 201, 111), (12, 236, 115), (12, 239, 116), (12, 284, 132), (12, 321, 92), (12, 380, 128), (12, 430, 199), (12, 445, 158)]
def SLl_p : List Nat := [982, 1204, 104, 611, 614, 625, 632, 536, 1081, 501, 1039, 1153, 1118, 1494, 1509, 1549, 1552, 1584, 1627, 1630, 1710, 1734, 1882, 1970, 1995]
def SLl_f (q : Nat × Nat × Nat) : Cond := Cond.methodLink (RN q.1) q.2.1 (mtY q.2.2)
set_option maxRecDepth 100000 in
theorem SLl_d : (SLl.zip SLl_p).all (tabQ SLl_f) = true := by decide +kernel
set_option maxRecDepth 100000 in
theorem SLl_l : Nat.beq SLl.length SLl_p.length = true := by decide +kernel
theorem SLl_ok {q : Nat × Nat × Nat} (h : q ∈ SLl) : SLl_f q ∈ lw_g := zip_tab SLl_l SLl_d h
def ILl : List (Nat × Nat × Nat) := [(1, 11, 225), (4, 11, 225), (5, 27, 225), (11, 33, 293), (11, 40, 225), (11, 57, 280), (11, 66, 323), (11, 73, 288), (13, 9, 1), (13, 12, 76)]
def ILl_p : List Nat := [392, 272, 314, 51, 154, 267, 285, 306, 23, 1331]
def ILl_f (q : Nat × Nat × Nat) : Cond := Cond.methodLink (RN q.1) q.2.1 (mtY q.2.2)
set_option maxRecDepth 100000 in
theorem ILl_d : (ILl.zip ILl_p).all (tabQ ILl_f) = true := by decide +kernel
set_option maxRecDepth 100000 in
theorem ILl_l : Nat.beq ILl.length ILl_p.length = true := by decide +kernel
theorem ILl_ok {q : Nat × Nat × Nat} (h : q ∈ ILl) : ILl_f q ∈ lw_g := zip_tab ILl_l ILl_d h
def NVl : List (Nat × Nat × Nat) := []
def NSl : List (Nat × Nat × Nat) := [(0, 70, 75)]
def NIl : List (Nat × Nat × Nat) := [(5, 28, 319), (8, 11, 319), (11, 26, 332), (11, 50, 319), (11, 80, 269), (11, 90, 344), (11, 97, 256), (11, 104, 264)]
def jmN (k : Nat) : MethodName := match k with
  | 0 => Lib.Math.max.name
  | 1 => Lib.Math.min.name
  | 2 => Lib.Math.abs.name
  | 3 => Lib.MathLoose.max_long.x
  | _ => arraycopyName
def JMl : List (Nat × Nat × Nat) := [(0, 47, 4), (0, 53, 1), (0, 59, 2), (0, 80, 0), (1, 32, 1), (1, 66, 0), (2, 17, 1), (3, 122, 0), (6, 70, 1), (7, 41, 1), (7, 47, 4), (9, 27, 4), (10, 28, 1), (10, 60, 0), (11, 462, 3), (12, 154, 1), (12, 275, 0)]
def JMl_p : List Nat := [160, 689, 845, 888, 1198, 1219, 1170, 1289, 604, 752, 789, 571, 1068, 1137, 1121, 1556, 1709]
def JMl_f (q : Nat × Nat × Nat) : Cond := Cond.methodLink (RN q.1) q.2.1 (jmN q.2.2)
set_option maxRecDepth 100000 in
theorem JMl_d : (JMl.zip JMl_p).all (tabQ JMl_f) = true := by decide +kernel
set_option maxRecDepth 100000 in
theorem JMl_l : Nat.beq JMl.length JMl_p.length = true := by decide +kernel
theorem JMl_ok {q : Nat × Nat × Nat} (h : q ∈ JMl) : JMl_f q ∈ lw_g := zip_tab JMl_l JMl_d h
def OIl : List (Nat × Nat) := [(0, 3), (1, 3), (2, 1), (3, 3), (4, 3), (5, 3), (6, 3), (7, 5), (8, 3), (9, 3), (10, 3), (11, 1), (12, 1)]
def OIl_p : List Nat := [157, 390, 411, 331, 270, 309, 54, 220, 288, 34, 368, 26, 1334]
def OIl_f (q : Nat × Nat) : Cond := Cond.methodLink (RN q.1) q.2 Lib.objectInit
set_option maxRecDepth 100000 in
theorem OIl_d : (OIl.zip OIl_p).all (tabQ OIl_f) = true := by decide +kernel
set_option maxRecDepth 100000 in
theorem OIl_l : Nat.beq OIl.length OIl_p.length = true := by decide +kernel
theorem OIl_ok {q : Nat × Nat} (h : q ∈ OIl) : OIl_f q ∈ lw_g := zip_tab OIl_l OIl_d h
def CKl : List (Nat × Nat × Nat) := [(1, 9, 0), (4, 9, 0), (5, 9, 0), (5, 17, 7), (8, 9, 7), (11, 24, 9), (11, 31, 6), (11, 38, 0), (11, 48, 7), (11, 55, 4), (11, 64, 8), (11, 71, 5), (11, 78, 3), (11, 88, 10), (11, 95, 1), (11, 102, 2), (13, 7, 11), (13, 10, 12)]
def CKl_p : List Nat := [391, 271, 310, 312, 289, 29, 49, 152, 215, 265, 283, 304, 326, 363, 385, 406, 21, 1329]
def CKl_f (q : Nat × Nat × Nat) : Cond := Cond.classLink (RN q.1) q.2.1 (cnm q.2.2)
set_option maxRecDepth 100000 in
theorem CKl_d : (CKl.zip CKl_p).all (tabQ CKl_f) = true := by decide +kernel
set_option maxRecDepth 100000 in
theorem CKl_l : Nat.beq CKl.length CKl_p.length = true := by decide +kernel
theorem CKl_ok {q : Nat × Nat × Nat} (h : q ∈ CKl) : CKl_f q ∈ lw_g := zip_tab CKl_l CKl_d h
def KIl : List (Nat × Nat × Int) := [(3, 40, 1000000), (3, 121, 65536), (12, 153, 100000), (12, 376, 1000000), (12, 462, 65536), (14, 265, 1431655765), (14, 266, 858993459), (14, 267, 252645135)]
def KIl_p : List Nat := [1249, 1288, 1555, 1872, 2047, 985, 986, 987]
def KIl_f (q : Nat × Nat × Int) : Cond := Cond.constant (RN q.1) q.2.1 (Int32.ofInt q.2.2)
set_option maxRecDepth 100000 in
theorem KIl_d : (KIl.zip KIl_p).all (tabQ KIl_f) = true := by decide +kernel
set_option maxRecDepth 100000 in
theorem KIl_l : Nat.beq KIl.length KIl_p.length = true := by decide +kernel
theorem KIl_ok {q : Nat × Nat × Int} (h : q ∈ KIl) : KIl_f q ∈ lw_g := zip_tab KIl_l KIl_d h
def KLl : List (Nat × Nat × Int) := [(6, 111, 32), (11, 400, 9), (11, 402, 59), (11, 404, 200), (12, 121, (-1)), (12, 319, 99), (12, 331, 9), (12, 336, 59), (12, 341, 60), (12, 383, 20), (12, 391, 10), (12, 418, 15), (12, 420, 200), (12, 428, 16), (12, 438, 12), (12, 440, 13), (12, 454, 4), (12, 490, 9999), (13, 32, 4294967295)]
def KLl_p : List Nat := [107, 1146, 1147, 1148, 1516, 1733, 1761, 1774, 1795, 1877, 1905, 1950, 1951, 1973, 1964, 1965, 1986, 2018, 2076]
def KLl_f (q : Nat × Nat × Int) : Cond := Cond.constantLong (RN q.1) q.2.1 (Int64.ofInt q.2.2)
set_option maxRecDepth 100000 in
theorem KLl_d : (KLl.zip KLl_p).all (tabQ KLl_f) = true := by decide +kernel
set_option maxRecDepth 100000 in
theorem KLl_l : Nat.beq KLl.length KLl_p.length = true := by decide +kernel
theorem KLl_ok {q : Nat × Nat × Int} (h : q ∈ KLl) : KLl_f q ∈ lw_g := zip_tab KLl_l KLl_d h
def stN (k : Nat) : String := match k with
  | 2 => "LEAST_RULE"
  | 3 => "MOST_RULE"
  | _ => "USUAL_RULE"
def GSl : List (Nat × Nat × Nat) := [(11, 300, 2), (11, 303, 3)]
def GSl_p : List Nat := [931, 932]
def GSl_f (q : Nat × Nat × Nat) : Cond := Cond.fieldLink (RN q.1) q.2.1 "ToastMap" (stN q.2.2) "[I"
set_option maxRecDepth 100000 in
theorem GSl_d : (GSl.zip GSl_p).all (tabQ GSl_f) = true := by decide +kernel
set_option maxRecDepth 100000 in
theorem GSl_l : Nat.beq GSl.length GSl_p.length = true := by decide +kernel
theorem GSl_ok {q : Nat × Nat × Nat} (h : q ∈ GSl) : GSl_f q ∈ lw_g := zip_tab GSl_l GSl_d h
def GNl : List (Nat × Nat × Nat) := [(0, 44, 4), (4, 61, 2), (4, 65, 3)]
def STl : List (Nat × Nat × Nat) := [(6, 54, 5), (12, 192, 6)]
def CHl : List (Nat × Nat × Nat) := [(6, 56, 1), (6, 62, 0), (12, 159, 1), (12, 165, 0)]
def CHl_p : List Nat := [56, 66, 1570, 1571]
def CHl_f (q : Nat × Nat × Nat) : Cond := Cond.methodLink (RN q.1) q.2.1 (if q.2.2 = 0 then yJ0_charAt_5068e else yJ0_length_8abf5)
set_option maxRecDepth 100000 in
theorem CHl_d : (CHl.zip CHl_p).all (tabQ CHl_f) = true := by decide +kernel
set_option maxRecDepth 100000 in
theorem CHl_l : Nat.beq CHl.length CHl_p.length = true := by decide +kernel
theorem CHl_ok {q : Nat × Nat × Nat} (h : q ∈ CHl) : CHl_f q ∈ lw_g := zip_tab CHl_l CHl_d h
def MAl : List (Nat × Nat) := [(9, 11)]
/-- the raw instruction of a place is this one, behind it lies nx -/
def okD (cc : ByteArray) (pcs : List Nat) (j : Nat) (raw : Instr) (len nx : Nat) : Bool := match nth pcs j with
  | some pc => match nth pcs nx with
    | some pn => Nat.beq pn (pc + len) && decide (decode cc pc = .ok (raw, len))
    | none => false
  | none => false
theorem okD_spec {cc : ByteArray} {pcs : List Nat} {j : Nat} {raw : Instr} {len nx : Nat} (h : okD cc pcs j raw len nx = true) : Dc cc pcs j raw len nx := by
  unfold okD at h
  split at h
  · next pc h1 =>
    split at h
    · next pn h2 =>
      rw [Bool.and_eq_true] at h
      exact ⟨pc, h1, of_decide_eq_true h.2, by rw [h2, Nat.eq_of_beq_eq_true h.1]⟩
    · cases h
  · cases h
/-- the raw instruction of a place is this one, the last of its road -/
def okE (cc : ByteArray) (pcs : List Nat) (j : Nat) (raw : Instr) : Bool := match nth pcs j with
  | some pc => decide (decode cc pc = .ok (raw, 1))
  | none => false
theorem okE_spec {cc : ByteArray} {pcs : List Nat} {j : Nat} {raw : Instr} (h : okE cc pcs j raw = true) : ∀ pc, nth pcs j = some pc → decode cc pc = .ok (raw, 1) := by
  intro pc hp
  unfold okE at h
  rw [hp] at h
  exact of_decide_eq_true h
def pcA (pcs : List Nat) (j : Nat) : Nat := (nth pcs j).getD 0
def offT (pcs : List Nat) (j t : Nat) : Int := (pcA pcs t : Int) - (pcA pcs j : Int)
theorem offT_spec {pcs : List Nat} {j t : Nat} (pc : Nat) (h : nth pcs j = some pc) : (pc : Int) + offT pcs j t = (pcA pcs t : Int) := by
  unfold offT
  have : pcA pcs j = pc := by unfold pcA; rw [h]; rfl
  omega
def has (pcs : List Nat) (t : Nat) : Bool := (nth pcs t).isSome
theorem has_spec {pcs : List Nat} {t : Nat} (h : has pcs t = true) : nth pcs t = some (pcA pcs t) := by
  unfold has at h
  unfold pcA
  cases q : nth pcs t with
  | none => rw [q] at h; cases h
  | some v => rfl
def cnd (k : Nat) : ClassFile.Cond := match k with
  | 0 => .eq
  | 1 => .ne
  | 2 => .lt
  | 3 => .ge
  | 4 => .gt
  | _ => .le
def okL4 (cc : ByteArray) (pcs : List Nat) (j k nx : Nat) (r4 : Fin 4 → Instr) (r : Instr) : Bool := okD cc pcs j r 2 nx || (Nat.blt k 4 && okD cc pcs j (r4 (Fin.ofNat 4 k)) 1 nx)
/-- what a small instruction is, is what lies there -/
def okI (id : Nat) (cc : ByteArray) (pcs ixs : List Nat) (oc rk maxL j : Nat) (i : mIn) : Bool :=
  match i.1 with
  | .iconst n => decide (inI n) && (okD cc pcs j (.iconst n) 1 i.2.1 || (okD cc pcs j (.bipush n) 2 i.2.1 && decide ((Int8.ofInt n).toInt32 = Int32.ofInt n)) || (okD cc pcs j (.sipush n) 3 i.2.1 && decide ((Int16.ofInt n).toInt32 = Int32.ofInt n)) || (KIl.elem (oc, pcA ixs j, n) && (okD cc pcs j (.ldc (pcA ixs j)) 2 i.2.1 || okD cc pcs j (.ldc_w (pcA ixs j)) 3 i.2.1)))
  | .sipush n => decide (inL n) && ((decide (n = 0) && okD cc pcs j (.lconst 0) 1 i.2.1) || (decide (n = 1) && okD cc pcs j (.lconst 1) 1 i.2.1) || (KLl.elem (oc, pcA ixs j, n) && okD cc pcs j (.ldc2_w (pcA ixs j)) 3 i.2.1))
  | .ldc k => (GSl.elem (oc, pcA ixs j, k) && okD cc pcs j (.getstatic (pcA ixs j)) 3 i.2.1) || (GNl.elem (oc, pcA ixs j, k) && okD cc pcs j (.getstatic (pcA ixs j)) 3 i.2.1) || (STl.elem (oc, pcA ixs j, k) && okD cc pcs j (.ldc (pcA ixs j)) 2 i.2.1)
  | .iload k => okL4 cc pcs j k i.2.1 .iload_n (.iload k)
  | .lload k => okL4 cc pcs j k i.2.1 .lload_n (.lload k)
  | .aload k => okL4 cc pcs j k i.2.1 .aload_n (.aload k)
  | .istore k => okL4 cc pcs j k i.2.1 .istore_n (.istore k)
  | .lstore k => okL4 cc pcs j k i.2.1 .lstore_n (.lstore k)
  | .astore k => okL4 cc pcs j k i.2.1 .astore_n (.astore k)
  | .iinc k n => okD cc pcs j (.iinc k n) 3 i.2.1
  | .ifCond _ _ => match i.2.2 with
    | [c, t] => Nat.ble c 5 && has pcs t && okD cc pcs j (.ifCond (cnd c) (offT pcs j t)) 3 i.2.1
    | _ => false
  | .if_icmp _ _ => match i.2.2 with
    | [c, t] => Nat.ble c 5 && has pcs t && okD cc pcs j (.if_icmp (cnd c) (offT pcs j t)) 3 i.2.1
    | _ => false
  | .lcmp => match i.2.2 with
    | [c, t] => Nat.ble c 5 && has pcs t && okD cc pcs j .lcmp 1 (j + 1) && okD cc pcs (j + 1) (.ifCond (cnd c) (offT pcs (j + 1) t)) 3 i.2.1
    | _ => false
  | .goto _ => match i.2.2 with
    | [t] => has pcs t && okD cc pcs j (.goto (offT pcs j t)) 3 i.2.1
    | _ => false
  | .tableswitch _ lo _ _ => match i.2.2 with
    | d :: ts => has pcs d && ts.all (has pcs) && decide (inI lo) && decide (inI (lo + ts.length)) && okD cc pcs j (.tableswitch (offT pcs j d) lo (lo + (ts.length : Int) - 1) (ts.map (offT pcs j)).toArray) (pcA pcs i.2.1 - pcA pcs j) i.2.1
    | _ => false
  | .lookupswitch _ _ => match i.2.2 with
    | [d, k1, t1, k2, t2] => has pcs d && has pcs t1 && has pcs t2 && Nat.blt k1 k2 && Nat.blt k2 1000 && okD cc pcs j (.lookupswitch (offT pcs j d) #[((k1 : Int), offT pcs j t1), ((k2 : Int), offT pcs j t2)]) (pcA pcs i.2.1 - pcA pcs j) i.2.1
    | _ => false
  | .getfield k => match i.2.2 with
    | [ci, ty] => FLl.elem (oc, pcA ixs j, ci, k) && okD cc pcs j (.getfield (pcA ixs j)) 3 i.2.1 && (match nth FT ci with
      | some f => match nth f k with
        | some t => match ty with
          | 0 => decide (t ≠ 1 ∧ t ≠ 2)
          | _ => Nat.beq t ty && Nat.blt ty 3
        | none => false
      | none => false)
    | _ => false
  | .putfield k => match i.2.2 with
    | [ci, ty] => FLl.elem (oc, pcA ixs j, ci, k) && okD cc pcs j (.putfield (pcA ixs j)) 3 i.2.1 && (match nth FT ci with
      | some f => match nth f k with
        | some t => Nat.beq t ty && (((vwT ci k).2.2.2 == false) || (Nat.beq t 2 && decide ((vwT ci k).1 = RN oc) && decide ((mtY id).name = "<init>")))
        | none => false
      | none => false)
    | _ => false
  | .aaload => match i.2.2 with
    | [ty] => okD cc pcs j .aaload 1 i.2.1 && Nat.blt 2 ty && Nat.blt ty 23
    | _ => false
  | .aastore => match i.2.2 with
    | [ty] => okD cc pcs j .aastore 1 i.2.1 && Nat.blt 9 ty && Nat.blt ty 23
    | _ => false
  | .arraylength => match i.2.2 with
    | [0] => okD cc pcs j .arraylength 1 i.2.1
    | [1] => CHl.elem (oc, pcA ixs j, 1) && okD cc pcs j (.invokevirtual (pcA ixs j)) 3 i.2.1
    | _ => false
  | .caload => CHl.elem (oc, pcA ixs j, 0) && okD cc pcs j (.invokevirtual (pcA ixs j)) 3 i.2.1
  | .dadd => JMl.elem (oc, pcA ixs j, 0) && okD cc pcs j (.invokestatic (pcA ixs j)) 3 i.2.1
  | .dsub => JMl.elem (oc, pcA ixs j, 1) && okD cc pcs j (.invokestatic (pcA ixs j)) 3 i.2.1
  | .dneg => JMl.elem (oc, pcA ixs j, 2) && okD cc pcs j (.invokestatic (pcA ixs j)) 3 i.2.1
  | .dmul => JMl.elem (oc, pcA ixs j, 3) && okD cc pcs j (.invokestatic (pcA ixs j)) 3 i.2.1
  | .swap => JMl.elem (oc, pcA ixs j, 4) && okD cc pcs j (.invokestatic (pcA ixs j)) 3 i.2.1 && (match i.2.2 with
    | [0] => true
    | [1] => true
    | _ => false)
  | .new ci => CKl.elem (oc, pcA ixs j, ci) && okD cc pcs j (.new (pcA ixs j)) 3 i.2.1 && (match i.2.2, nth FT ci with
    | [nf], some f => Nat.beq nf f.length
    | _, _ => false)
  | .newarray a => (match i.2.2 with
    | [0] => decide (a = .int)
    | [1] => decide (a = .long)
    | [2] => decide (a = .byte)
    | _ => false) && okD cc pcs j (.newarray a) 2 i.2.1
  | .anewarray ci => CKl.elem (oc, pcA ixs j, ci) && okD cc pcs j (.anewarray (pcA ixs j)) 3 i.2.1 && (Nat.beq ci 0 || Nat.beq ci 7)
  | .multianewarray _ _ => MAl.elem (oc, pcA ixs j) && okD cc pcs j (.multianewarray (pcA ixs j) 2) 4 i.2.1
  | .invokespecial _ => OIl.elem (oc, pcA ixs j) && okD cc pcs j (.invokespecial (pcA ixs j)) 3 i.2.1
  | .invokestatic t => match i.2.2 with
    | [na, fl, kd, w, rc] => Nat.ble w (PP t).2 && (Nat.blt 0 fl || Nat.blt (mtK t) rk) && Nat.beq kd (match mtR t with
        | none => 0
        | some .long => 2
        | some (.object _) => 3
        | some _ => 1) && ((VLl.elem (oc, pcA ixs j, t) && Nat.beq rc (mtO t + 1) && okD cc pcs j (.invokevirtual (pcA ixs j)) 3 i.2.1 && decide ((parseMethodDescriptor (mtY t).desc).map (fun d => d.parameters.length + 1) = some na)) || (SLl.elem (oc, pcA ixs j, t) && okD cc pcs j (.invokestatic (pcA ixs j)) 3 i.2.1 && decide ((parseMethodDescriptor (mtY t).desc).map (fun d => d.parameters.length) = some na)) || (ILl.elem (oc, pcA ixs j, t) && Nat.blt 0 rc && okD cc pcs j (.invokespecial (pcA ixs j)) 3 i.2.1 && decide ((parseMethodDescriptor (mtY t).desc).map (fun d => d.parameters.length + 1) = some na)) || (NVl.elem (oc, pcA ixs j, t) && okD cc pcs j (.invokevirtual (pcA ixs j)) 3 i.2.1 && decide ((parseMethodDescriptor (mtY t).desc).map (fun d => d.parameters.length + 1) = some na)) || (NSl.elem (oc, pcA ixs j, t) && okD cc pcs j (.invokestatic (pcA ixs j)) 3 i.2.1 && decide ((parseMethodDescriptor (mtY t).desc).map (fun d => d.parameters.length) = some na)) || (NIl.elem (oc, pcA ixs j, t) && Nat.blt 0 rc && okD cc pcs j (.invokespecial (pcA ixs j)) 3 i.2.1 && decide ((parseMethodDescriptor (mtY t).desc).map (fun d => d.parameters.length + 1) = some na)))
    | _ => false
  | .ireturn => okE cc pcs j .ireturn && (match i.2.2, mtR id with
    | [0], some .int => true
    | [3], some .boolean => true
    | _, _ => false)
  | .lreturn => okE cc pcs j .lreturn && (match mtR id with
    | some .long => true
    | _ => false)
  | .areturn => okE cc pcs j .areturn && (match mtR id with
    | some (.object _) => true
    | _ => false)
  | .return_ => okE cc pcs j .return_ && (match mtR id with
    | none => true
    | _ => false)
  | r => okD cc pcs j r 1 i.2.1 && (match r with
    | .iadd => true
    | .isub => true
    | .imul => true
    | .idiv => true
    | .irem => true
    | .ladd => true
    | .lsub => true
    | .lmul => true
    | .ldiv => true
    | .lrem => true
    | .iand => true
    | .ior => true
    | .ixor => true
    | .ishl => true
    | .ishr => true
    | .iushr => true
    | .land => true
    | .lor => true
    | .lshl => true
    | .i2l => true
    | .l2i => true
    | .i2b => true
    | .i2s => true
    | .dup => true
    | .dup2 => true
    | .pop => true
    | .iaload => true
    | .laload => true
    | .baload => true
    | .iastore => true
    | .lastore => true
    | .bastore => true
    | _ => false)
def okC (id : Nat) (cc : ByteArray) (pcs ixs : List Nat) (oc rk maxL : Nat) : Nat → mCode → Bool
  | _, [] => true
  | j, i :: r => okI id cc pcs ixs oc rk maxL j i && okC id cc pcs ixs oc rk maxL (j + 1) r
theorem okC_spec {id : Nat} {cc : ByteArray} {pcs ixs : List Nat} {oc rk maxL : Nat} : ∀ {c : mCode} {j : Nat}, okC id cc pcs ixs oc rk maxL j c = true → ∀ k i, nth c k = some i → okI id cc pcs ixs oc rk maxL (j + k) i = true
  | [], j, h, k, i, hk => by cases k <;> cases hk
  | a :: r, j, h, k, i, hk => by
    unfold okC at h
    rw [Bool.and_eq_true] at h
    cases k with
    | zero => cases hk; exact h.1
    | succ k =>
      have := okC_spec h.2 k i hk
      rwa [show j + 1 + k = j + (k + 1) by omega] at this
/-- a whole method -/
def okM (id : Nat) : Bool := Nat.ble (mtK id) 38 && Nat.ble (PP id).2 40 && has (mtP id) 0 && Nat.beq (pcA (mtP id) 0) 0 && decide ((mtY id).cls = RN (mtO id)) && okC id (mtB id) (mtP id) (mtX id) (mtO id) (mtK id) (PP id).2 0 (PP id).1
end
section
/-! SIM 4: one small instruction, checked, on the real machine -/
/-- the two texts, and what the JDK's own code reads -/
def TxtA (ct : Nat → List Int) (aC : Nat → Nat) (A : Nat → Prop) (s : State) (H : Heap) : Prop :=
  (∃ adK adV : Nat → Nat, vk_S 2 [(ct 5).length, (ct 6).length] [(ct 5).map Int32.ofInt, (ct 6).map Int32.ofInt] adK adV A s H ∧ aC 5 = adK 0 ∧ aC 6 = adK 1) ∧
  va_Z "java/lang/String" "COMPACT_STRINGS" "Z" (.int 1) A s H ∧ va_Zq "jdk/internal/util/Preconditions" "SIOOBE_FORMATTER" "Ljava/util/function/BiFunction;" A s H
/-- what is given of constants, fixed tables, texts and nest mates -/
def Amb (ct : Nat → List Int) (aC : Nat → Nat) (A : Nat → Prop) (s : State) (H : Heap) : Prop :=
  (∀ k, 1 ≤ k → k ≤ 4 → Tab ct aC A k s H) ∧ (∀ k, 2 ≤ k → k ≤ 4 → va_Z "ToastMap" (stN k) "[I" (.ref (aC k)) A s H) ∧
  (∀ q ∈ GNl, va_Nw (.fieldLinkNest (RN q.1) q.2.1 "ToastMap" (stN q.2.2) "[I" "ToastMap") s) ∧
  (∀ q ∈ NSl ++ NIl, va_Nw (.methodLinkNest (RN q.1) q.2.1 (mtY q.2.2) "ToastMap") s) ∧
  (∀ q ∈ STl, ∃ tx, vk_R (RN q.1) q.2.1 tx (aC q.2.2) s) ∧
  va_AO "ToastMap$Company" s ∧ va_AO "ToastMap$Times" s ∧ sm_AOA .long s ∧ TxtA ct aC A s H
/-- the constants' values are ints, the lists short -/
def ctOk (ct : Nat → List Int) : Prop := ∀ k, (∀ v ∈ ct k, inI v) ∧ (ct k).length < 2147483648
theorem GSl_k : GSl.all (fun q => Nat.ble 2 q.2.2 && Nat.ble q.2.2 4) = true := by decide +kernel
theorem GNl_k : GNl.all (fun q => Nat.ble 2 q.2.2 && Nat.ble q.2.2 4) = true := by decide +kernel
theorem mem_elem {α : Type} [BEq α] [LawfulBEq α] {l : List α} {a : α} (h : l.elem a = true) : a ∈ l := List.elem_iff.mp h
theorem vwT_get {ci : Nat} {f : List Nat} (h : nth FT ci = some f) : ∃ C N, vwCl[ci]? = some (C, vwT ci, N) ∧ f.length ≤ N := by
  have h13 : ci < 13 := nth_lt h
  have key : ∀ q, q < 13 → ∃ C N, vwCl[q]? = some (C, vwT q, N) ∧ ((nth FT q).getD []).length ≤ N := by
    intro q hq
    have : q = 0 ∨ q = 1 ∨ q = 2 ∨ q = 3 ∨ q = 4 ∨ q = 5 ∨ q = 6 ∨ q = 7 ∨ q = 8 ∨ q = 9 ∨ q = 10 ∨ q = 11 ∨ q = 12 := by omega
    rcases this with rfl | rfl | rfl | rfl | rfl | rfl | rfl | rfl | rfl | rfl | rfl | rfl | rfl <;> exact ⟨_, _, rfl, by decide⟩
  obtain ⟨C, N, h1, h2⟩ := key ci h13
  rw [h] at h2
  exact ⟨C, N, h1, h2⟩
theorem mathI : Cond.initialized "java/lang/Math" ∈ lw_g := mem_g (by decide +kernel) rfl
theorem mathS_0 : Cond.static Lib.Math.max.name ∈ lw_g := mem_g (by decide +kernel) rfl
theorem mathS_1 : Cond.static Lib.Math.min.name ∈ lw_g := mem_g (by decide +kernel) rfl
theorem mathS_2 : Cond.static Lib.Math.abs.name ∈ lw_g := mem_g (by decide +kernel) rfl
theorem mathS_3 : Cond.static Lib.MathLoose.max_long.x ∈ lw_g := mem_g (by decide +kernel) rfl
theorem mathC_0 : Cond.code Lib.Math.max.name Lib.Math.max.code 2 (some .int) ∈ lw_g := mem_g (by decide +kernel) rfl
theorem mathC_1 : Cond.code Lib.Math.min.name Lib.Math.min.code 2 (some .int) ∈ lw_g := mem_g (by decide +kernel) rfl
theorem mathC_2 : Cond.code Lib.Math.abs.name Lib.Math.abs.code 1 (some .int) ∈ lw_g := mem_g (by decide +kernel) rfl
theorem mathC_3 : Cond.code Lib.MathLoose.max_long.x Lib.MathLoose.max_long.code 4 (some .long) ∈ lw_g := mem_g (by decide +kernel) rfl
/-- which field's type is which -/
def tyC (t : Nat) (ty : FieldType) : Bool := match t, ty with
  | 0, .int => true
  | 1, .long => true
  | 3, .boolean => true
  | 2, .array _ => true
  | 2, .object _ => true
  | _, _ => false
/-- what the tables say of a class's fields -/
theorem vwT_facts {ci : Nat} {f : List Nat} (h : nth FT ci = some f) : ∃ C N, vwCl[ci]? = some (C, vwT ci, N) ∧ f.length = N ∧ (∀ w ∈ u_ws C (vwT ci) N, w ∈ lw_g) ∧ (∃ ty0 : Nat → FieldType, (∀ k, k < N → parseFieldDescriptor (vwT ci k).2.2.1 = some (ty0 k)) ∧ ∀ k t, nth f k = some t → tyC t (ty0 k) = true) ∧ (∀ a, a < N → ∀ b, b < N → a ≠ b → (vwT ci a).2.1 ≠ (vwT ci b).2.1) := by
  have h13 : ci < 13 := nth_lt h
  have this : ci = 0 ∨ ci = 1 ∨ ci = 2 ∨ ci = 3 ∨ ci = 4 ∨ ci = 5 ∨ ci = 6 ∨ ci = 7 ∨ ci = 8 ∨ ci = 9 ∨ ci = 10 ∨ ci = 11 ∨ ci = 12 := by omega
  have fin : ∀ {f : List Nat} {ty0 : Nat → FieldType}, ((List.range f.length).all (fun k => tyC ((nth f k).getD 9) (ty0 k)) = true) → ∀ k t, nth f k = some t → tyC t (ty0 k) = true := by
    intro f ty0 h k t hk
    have := List.all_eq_true.mp h k (List.mem_range.mpr (nth_lt hk))
    rw [hk] at this
    exact this
  rcases this with rfl | rfl | rfl | rfl | rfl | rfl | rfl | rfl | rfl | rfl | rfl | rfl | rfl <;> (cases h)
  · exact ⟨_, _, rfl, rfl, u_g inX0, ⟨tyX0, tyX0_ok, fin (by decide +kernel)⟩, nmX0⟩
  · exact ⟨_, _, rfl, rfl, u_g inX1, ⟨tyX1, tyX1_ok, fin (by decide +kernel)⟩, nmX1⟩
  · exact ⟨_, _, rfl, rfl, u_g inX2, ⟨tyX2, tyX2_ok, fin (by decide +kernel)⟩, nmX2⟩
  · exact ⟨_, _, rfl, rfl, u_g inX3, ⟨tyX3, tyX3_ok, fin (by decide +kernel)⟩, nmX3⟩
  · exact ⟨_, _, rfl, rfl, u_g inX4, ⟨tyX4, tyX4_ok, fin (by decide +kernel)⟩, nmX4⟩
  · exact ⟨_, _, rfl, rfl, u_g inX5, ⟨tyX5, tyX5_ok, fin (by decide +kernel)⟩, nmX5⟩
  · exact ⟨_, _, rfl, rfl, u_g inX6, ⟨tyX6, tyX6_ok, fin (by decide +kernel)⟩, nmX6⟩
  · exact ⟨_, _, rfl, rfl, u_g inX7, ⟨tyX7, tyX7_ok, fin (by decide +kernel)⟩, nmX7⟩
  · exact ⟨_, _, rfl, rfl, u_g inX8, ⟨tyX8, tyX8_ok, fin (by decide +kernel)⟩, nmX8⟩
  · exact ⟨_, _, rfl, rfl, u_g inX9, ⟨tyX9, tyX9_ok, fin (by decide +kernel)⟩, nmX9⟩
  · exact ⟨_, _, rfl, rfl, u_g inX10, ⟨tyX10, tyX10_ok, fin (by decide +kernel)⟩, nmX10⟩
  · exact ⟨_, _, rfl, rfl, u_g inX11, ⟨tyX11, tyX11_ok, fin (by decide +kernel)⟩, nmX11⟩
  · exact ⟨_, _, rfl, rfl, u_g inX12, ⟨tyX12, tyX12_ok, fin (by decide +kernel)⟩, nmX12⟩
/-- the road ends here: with v on the stack -/
def RT (cc : ByteArray) (pcs : List Nat) (id j : Nat) (v : List mv) : Prop :=
  (v = [] ∧ (∀ pc, nth pcs j = some pc → decode cc pc = .ok (.return_, 1)) ∧ mtR id = none) ∨
  (∃ x, v = [mI x] ∧ (∀ pc, nth pcs j = some pc → decode cc pc = .ok (.ireturn, 1)) ∧ (mtR id = some .int ∨ mtR id = some .boolean ∧ 0 ≤ x ∧ x ≤ 1)) ∨
  (∃ x, v = [mL x] ∧ (∀ pc, nth pcs j = some pc → decode cc pc = .ok (.lreturn, 1)) ∧ mtR id = some .long) ∨
  (∃ a C, v = [mR a] ∧ (∀ pc, nth pcs j = some pc → decode cc pc = .ok (.areturn, 1)) ∧ mtR id = some (.object C))
section
variable {p : Program} {l : Launch} {e : Env} {Rm : Room} {s : State} {m : MethodId} {args : Array Value} {below : List Frame} {meth : Method} {c : Code} {cc : ByteArray} {D : va_G} {A : Nat → Prop} {tys : List (ClassId × FieldType)} {ad aC : Nat → Nat} {nL cells slots : Nat} {Q : State → Prop} {pcs : List Nat} {S : mSh} {r : mRf} {j nx : Nat} {ls st : List mv} {h : mM} {id oc rk maxL : Nat} {ixs lst : List Nat} {ct : Nat → List Int} {cl : Nat → Nat → List mv → mM → Option (List mv × mM)} {ρ : Type} {ret : List mv → mM → Option ρ} {N : Nat → List mv → List mv → mM → Option ρ} {res : ρ}
theorem s1_iconst (hx : p.tables.exec = Jvm.exec) (hb : c.code = cc) (hts : ∀ w ∈ lw_g, w.before args s = true) (hown : s.vm.findClass (RN oc) = some m.cls) (hml : c.maxLocals = nL) (hK : va_K D vwCl tys s) (hR : 1 ≤ Rm.frames ∧ 100 ≤ Rm.locals ∧ cells ≤ Rm.cells ∧ slots ≤ Rm.slots) (hA : Amb ct aC A s s.heap) (hct : ctOk ct) {n : Int} (hN : ∀ j ls st h, N j ls st h = some res → Go (fun H locs pc la sv => W p l e Rm s m args below meth c H locs cells slots Q (F0 m pc la sv)) D A tys ad aC nL s pcs S r (j) (ls) (st) (h)) (hok : okI id cc pcs ixs oc rk maxL j (.iconst n, nx, lst) = true) (H : ex1 S r ct cl ret N (.iconst n, nx, lst) ls st h = some res) : Go (fun H locs pc la sv => W p l e Rm s m args below meth c H locs cells slots Q (F0 m pc la sv)) D A tys ad aC nL s pcs S r (j) (ls) (st) (h) := by
  unfold ex1 at H
  unfold okI at hok
  dsimp only at H hok
  simp only [Bool.or_eq_true, Bool.and_eq_true, decide_eq_true_eq] at hok
  obtain ⟨hn, ((h1 | ⟨h1, h2⟩) | ⟨h1, h2⟩) | ⟨h1, h2 | h2⟩⟩ := hok
  · exact go_iconst hx hb hn (okD_spec h1) (hN _ _ _ _ H)
  · exact go_bipush hx hb hn h2 (okD_spec h1) (hN _ _ _ _ H)
  · exact go_sipush hx hb hn h2 (okD_spec h1) (hN _ _ _ _ H)
  · exact go_ldc hx hb hn hown (hts _ (KIl_ok (mem_elem h1))) (okD_spec h2) (hN _ _ _ _ H)
  · exact go_ldcw hx hb hn hown (hts _ (KIl_ok (mem_elem h1))) (okD_spec h2) (hN _ _ _ _ H)
theorem s1_lconst (hx : p.tables.exec = Jvm.exec) (hb : c.code = cc) (hts : ∀ w ∈ lw_g, w.before args s = true) (hown : s.vm.findClass (RN oc) = some m.cls) (hml : c.maxLocals = nL) (hK : va_K D vwCl tys s) (hR : 1 ≤ Rm.frames ∧ 100 ≤ Rm.locals ∧ cells ≤ Rm.cells ∧ slots ≤ Rm.slots) (hA : Amb ct aC A s s.heap) (hct : ctOk ct) {n : Int} (hN : ∀ j ls st h, N j ls st h = some res → Go (fun H locs pc la sv => W p l e Rm s m args below meth c H locs cells slots Q (F0 m pc la sv)) D A tys ad aC nL s pcs S r (j) (ls) (st) (h)) (hok : okI id cc pcs ixs oc rk maxL j (.sipush n, nx, lst) = true) (H : ex1 S r ct cl ret N (.sipush n, nx, lst) ls st h = some res) : Go (fun H locs pc la sv => W p l e Rm s m args below meth c H locs cells slots Q (F0 m pc la sv)) D A tys ad aC nL s pcs S r (j) (ls) (st) (h) := by
  unfold ex1 at H
  unfold okI at hok
  dsimp only at H hok
  simp only [Bool.or_eq_true, Bool.and_eq_true, decide_eq_true_eq] at hok
  obtain ⟨hn, (⟨h1, h2⟩ | ⟨h1, h2⟩) | ⟨h1, h2⟩⟩ := hok
  · subst h1
    exact go_lconst hx hb hn rfl (okD_spec h2) (hN _ _ _ _ H)
  · subst h1
    exact go_lconst hx hb hn rfl (okD_spec h2) (hN _ _ _ _ H)
  · exact go_ldc2 hx hb hn hown (hts _ (KLl_ok (mem_elem h1))) (okD_spec h2) (hN _ _ _ _ H)
theorem s1_ldc (hx : p.tables.exec = Jvm.exec) (hb : c.code = cc) (hts : ∀ w ∈ lw_g, w.before args s = true) (hown : s.vm.findClass (RN oc) = some m.cls) (hml : c.maxLocals = nL) (hK : va_K D vwCl tys s) (hR : 1 ≤ Rm.frames ∧ 100 ≤ Rm.locals ∧ cells ≤ Rm.cells ∧ slots ≤ Rm.slots) (hA : Amb ct aC A s s.heap) (hct : ctOk ct) {k : Nat} (hN : ∀ j ls st h, N j ls st h = some res → Go (fun H locs pc la sv => W p l e Rm s m args below meth c H locs cells slots Q (F0 m pc la sv)) D A tys ad aC nL s pcs S r (j) (ls) (st) (h)) (hok : okI id cc pcs ixs oc rk maxL j (.ldc k, nx, lst) = true) (H : ex1 S r ct cl ret N (.ldc k, nx, lst) ls st h = some res) : Go (fun H locs pc la sv => W p l e Rm s m args below meth c H locs cells slots Q (F0 m pc la sv)) D A tys ad aC nL s pcs S r (j) (ls) (st) (h) := by
  unfold ex1 at H
  unfold okI at hok
  dsimp only at H hok
  simp only [Bool.or_eq_true, Bool.and_eq_true] at hok
  obtain (⟨h1, h2⟩ | ⟨h1, h2⟩) | ⟨h1, h2⟩ := hok
  · have q := List.all_eq_true.mp GSl_k _ (mem_elem h1)
    simp only [Bool.and_eq_true, Nat.ble_eq] at q
    exact go_gets hx hb (hA.2.1 k q.1 q.2) hown (hts _ (GSl_ok (mem_elem h1))) (okD_spec h2) (hN _ _ _ _ H)
  · have q := List.all_eq_true.mp GNl_k _ (mem_elem h1)
    simp only [Bool.and_eq_true, Nat.ble_eq] at q
    exact go_getsN hx hb (hA.2.1 k q.1 q.2) hown (va_Nw.use rfl (hA.2.2.1 _ (mem_elem h1))) (okD_spec h2) (hN _ _ _ _ H)
  · obtain ⟨tx, q⟩ := hA.2.2.2.2.1 _ (mem_elem h1)
    exact go_ldcS hx hb q hown (okD_spec h2) (hN _ _ _ _ H)
theorem s1_iload (hx : p.tables.exec = Jvm.exec) (hb : c.code = cc) (hts : ∀ w ∈ lw_g, w.before args s = true) (hown : s.vm.findClass (RN oc) = some m.cls) (hml : c.maxLocals = nL) (hK : va_K D vwCl tys s) (hR : 1 ≤ Rm.frames ∧ 100 ≤ Rm.locals ∧ cells ≤ Rm.cells ∧ slots ≤ Rm.slots) (hA : Amb ct aC A s s.heap) (hct : ctOk ct) {k : Nat} (hN : ∀ j ls st h, N j ls st h = some res → Go (fun H locs pc la sv => W p l e Rm s m args below meth c H locs cells slots Q (F0 m pc la sv)) D A tys ad aC nL s pcs S r (j) (ls) (st) (h)) (hok : okI id cc pcs ixs oc rk maxL j (.iload k, nx, lst) = true) (H : ex1 S r ct cl ret N (.iload k, nx, lst) ls st h = some res) : Go (fun H locs pc la sv => W p l e Rm s m args below meth c H locs cells slots Q (F0 m pc la sv)) D A tys ad aC nL s pcs S r (j) (ls) (st) (h) := by
  unfold ex1 at H
  unfold okI at hok
  dsimp only at H hok
  unfold okL4 at hok
  simp only [Bool.or_eq_true, Bool.and_eq_true, Nat.blt_eq] at hok
  have f9 : k < 4 → ((Fin.ofNat 4 k : Fin 4) : Nat) = k := fun q => Nat.mod_eq_of_lt q
  split at H
  · next hk =>
    rcases hok with h1 | ⟨h1, h2⟩
    · exact go_iload hx hb hk (okD_spec h1) (hN _ _ _ _ H)
    · exact go_iload_n hx hb hk (f9 h1) (okD_spec h2) (hN _ _ _ _ H)
  · cases H
theorem s1_lload (hx : p.tables.exec = Jvm.exec) (hb : c.code = cc) (hts : ∀ w ∈ lw_g, w.before args s = true) (hown : s.vm.findClass (RN oc) = some m.cls) (hml : c.maxLocals = nL) (hK : va_K D vwCl tys s) (hR : 1 ≤ Rm.frames ∧ 100 ≤ Rm.locals ∧ cells ≤ Rm.cells ∧ slots ≤ Rm.slots) (hA : Amb ct aC A s s.heap) (hct : ctOk ct) {k : Nat} (hN : ∀ j ls st h, N j ls st h = some res → Go (fun H locs pc la sv => W p l e Rm s m args below meth c H locs cells slots Q (F0 m pc la sv)) D A tys ad aC nL s pcs S r (j) (ls) (st) (h)) (hok : okI id cc pcs ixs oc rk maxL j (.lload k, nx, lst) = true) (H : ex1 S r ct cl ret N (.lload k, nx, lst) ls st h = some res) : Go (fun H locs pc la sv => W p l e Rm s m args below meth c H locs cells slots Q (F0 m pc la sv)) D A tys ad aC nL s pcs S r (j) (ls) (st) (h) := by
  unfold ex1 at H
  unfold okI at hok
  dsimp only at H hok
  unfold okL4 at hok
  simp only [Bool.or_eq_true, Bool.and_eq_true, Nat.blt_eq] at hok
  have f9 : k < 4 → ((Fin.ofNat 4 k : Fin 4) : Nat) = k := fun q => Nat.mod_eq_of_lt q
  split at H
  · next hk =>
    rcases hok with h1 | ⟨h1, h2⟩
    · exact go_lload hx hb hk (okD_spec h1) (hN _ _ _ _ H)
    · exact go_lload_n hx hb hk (f9 h1) (okD_spec h2) (hN _ _ _ _ H)
  · cases H
theorem s1_aload (hx : p.tables.exec = Jvm.exec) (hb : c.code = cc) (hts : ∀ w ∈ lw_g, w.before args s = true) (hown : s.vm.findClass (RN oc) = some m.cls) (hml : c.maxLocals = nL) (hK : va_K D vwCl tys s) (hR : 1 ≤ Rm.frames ∧ 100 ≤ Rm.locals ∧ cells ≤ Rm.cells ∧ slots ≤ Rm.slots) (hA : Amb ct aC A s s.heap) (hct : ctOk ct) {k : Nat} (hN : ∀ j ls st h, N j ls st h = some res → Go (fun H locs pc la sv => W p l e Rm s m args below meth c H locs cells slots Q (F0 m pc la sv)) D A tys ad aC nL s pcs S r (j) (ls) (st) (h)) (hok : okI id cc pcs ixs oc rk maxL j (.aload k, nx, lst) = true) (H : ex1 S r ct cl ret N (.aload k, nx, lst) ls st h = some res) : Go (fun H locs pc la sv => W p l e Rm s m args below meth c H locs cells slots Q (F0 m pc la sv)) D A tys ad aC nL s pcs S r (j) (ls) (st) (h) := by
  unfold ex1 at H
  unfold okI at hok
  dsimp only at H hok
  unfold okL4 at hok
  simp only [Bool.or_eq_true, Bool.and_eq_true, Nat.blt_eq] at hok
  have f9 : k < 4 → ((Fin.ofNat 4 k : Fin 4) : Nat) = k := fun q => Nat.mod_eq_of_lt q
  split at H
  · next hk =>
    rcases hok with h1 | ⟨h1, h2⟩
    · exact go_aload hx hb hk (okD_spec h1) (hN _ _ _ _ H)
    · exact go_aload_n hx hb hk (f9 h1) (okD_spec h2) (hN _ _ _ _ H)
  · next hk =>
    rcases hok with h1 | ⟨h1, h2⟩
    · exact go_aloadC hx hb hk (okD_spec h1) (hN _ _ _ _ H)
    · exact go_aloadC_n hx hb hk (f9 h1) (okD_spec h2) (hN _ _ _ _ H)
  · cases H
theorem s1_istore (hx : p.tables.exec = Jvm.exec) (hb : c.code = cc) (hts : ∀ w ∈ lw_g, w.before args s = true) (hown : s.vm.findClass (RN oc) = some m.cls) (hml : c.maxLocals = nL) (hK : va_K D vwCl tys s) (hR : 1 ≤ Rm.frames ∧ 100 ≤ Rm.locals ∧ cells ≤ Rm.cells ∧ slots ≤ Rm.slots) (hA : Amb ct aC A s s.heap) (hct : ctOk ct) {k : Nat} (hN : ∀ j ls st h, N j ls st h = some res → Go (fun H locs pc la sv => W p l e Rm s m args below meth c H locs cells slots Q (F0 m pc la sv)) D A tys ad aC nL s pcs S r (j) (ls) (st) (h)) (hok : okI id cc pcs ixs oc rk maxL j (.istore k, nx, lst) = true) (H : ex1 S r ct cl ret N (.istore k, nx, lst) ls st h = some res) : Go (fun H locs pc la sv => W p l e Rm s m args below meth c H locs cells slots Q (F0 m pc la sv)) D A tys ad aC nL s pcs S r (j) (ls) (st) (h) := by
  unfold ex1 at H
  unfold okI at hok
  dsimp only at H hok
  unfold okL4 at hok
  simp only [Bool.or_eq_true, Bool.and_eq_true, Nat.blt_eq] at hok
  have f9 : k < 4 → ((Fin.ofNat 4 k : Fin 4) : Nat) = k := fun q => Nat.mod_eq_of_lt q
  split at H
  · obtain ⟨ls', hR', H⟩ := stK_spec k ls H
    rcases hok with h1 | ⟨h1, h2⟩
    · exact go_istore hx hb hR' (okD_spec h1) (hN _ _ _ _ H)
    · exact go_istore_n hx hb hR' (f9 h1) (okD_spec h2) (hN _ _ _ _ H)
  · cases H
theorem s1_lstore (hx : p.tables.exec = Jvm.exec) (hb : c.code = cc) (hts : ∀ w ∈ lw_g, w.before args s = true) (hown : s.vm.findClass (RN oc) = some m.cls) (hml : c.maxLocals = nL) (hK : va_K D vwCl tys s) (hR : 1 ≤ Rm.frames ∧ 100 ≤ Rm.locals ∧ cells ≤ Rm.cells ∧ slots ≤ Rm.slots) (hA : Amb ct aC A s s.heap) (hct : ctOk ct) {k : Nat} (hN : ∀ j ls st h, N j ls st h = some res → Go (fun H locs pc la sv => W p l e Rm s m args below meth c H locs cells slots Q (F0 m pc la sv)) D A tys ad aC nL s pcs S r (j) (ls) (st) (h)) (hok : okI id cc pcs ixs oc rk maxL j (.lstore k, nx, lst) = true) (H : ex1 S r ct cl ret N (.lstore k, nx, lst) ls st h = some res) : Go (fun H locs pc la sv => W p l e Rm s m args below meth c H locs cells slots Q (F0 m pc la sv)) D A tys ad aC nL s pcs S r (j) (ls) (st) (h) := by
  unfold ex1 at H
  unfold okI at hok
  dsimp only at H hok
  unfold okL4 at hok
  simp only [Bool.or_eq_true, Bool.and_eq_true, Nat.blt_eq] at hok
  have f9 : k < 4 → ((Fin.ofNat 4 k : Fin 4) : Nat) = k := fun q => Nat.mod_eq_of_lt q
  split at H
  · obtain ⟨ls', hR', H⟩ := stL_spec k ls H
    rcases hok with h1 | ⟨h1, h2⟩
    · exact go_lstore hx hb hR' (okD_spec h1) (hN _ _ _ _ H)
    · exact go_lstore_n hx hb hR' (f9 h1) (okD_spec h2) (hN _ _ _ _ H)
  · cases H
theorem s1_astore (hx : p.tables.exec = Jvm.exec) (hb : c.code = cc) (hts : ∀ w ∈ lw_g, w.before args s = true) (hown : s.vm.findClass (RN oc) = some m.cls) (hml : c.maxLocals = nL) (hK : va_K D vwCl tys s) (hR : 1 ≤ Rm.frames ∧ 100 ≤ Rm.locals ∧ cells ≤ Rm.cells ∧ slots ≤ Rm.slots) (hA : Amb ct aC A s s.heap) (hct : ctOk ct) {k : Nat} (hN : ∀ j ls st h, N j ls st h = some res → Go (fun H locs pc la sv => W p l e Rm s m args below meth c H locs cells slots Q (F0 m pc la sv)) D A tys ad aC nL s pcs S r (j) (ls) (st) (h)) (hok : okI id cc pcs ixs oc rk maxL j (.astore k, nx, lst) = true) (H : ex1 S r ct cl ret N (.astore k, nx, lst) ls st h = some res) : Go (fun H locs pc la sv => W p l e Rm s m args below meth c H locs cells slots Q (F0 m pc la sv)) D A tys ad aC nL s pcs S r (j) (ls) (st) (h) := by
  unfold ex1 at H
  unfold okI at hok
  dsimp only at H hok
  unfold okL4 at hok
  simp only [Bool.or_eq_true, Bool.and_eq_true, Nat.blt_eq] at hok
  have f9 : k < 4 → ((Fin.ofNat 4 k : Fin 4) : Nat) = k := fun q => Nat.mod_eq_of_lt q
  split at H
  · obtain ⟨ls', hR', H⟩ := stK_spec k ls H
    rcases hok with h1 | ⟨h1, h2⟩
    · exact go_astore hx hb hR' (okD_spec h1) (hN _ _ _ _ H)
    · exact go_astore_n hx hb hR' (f9 h1) (okD_spec h2) (hN _ _ _ _ H)
  · cases H
theorem s1_iinc (hx : p.tables.exec = Jvm.exec) (hb : c.code = cc) (hts : ∀ w ∈ lw_g, w.before args s = true) (hown : s.vm.findClass (RN oc) = some m.cls) (hml : c.maxLocals = nL) (hK : va_K D vwCl tys s) (hR : 1 ≤ Rm.frames ∧ 100 ≤ Rm.locals ∧ cells ≤ Rm.cells ∧ slots ≤ Rm.slots) (hA : Amb ct aC A s s.heap) (hct : ctOk ct) {k : Nat} {n : Int} (hN : ∀ j ls st h, N j ls st h = some res → Go (fun H locs pc la sv => W p l e Rm s m args below meth c H locs cells slots Q (F0 m pc la sv)) D A tys ad aC nL s pcs S r (j) (ls) (st) (h)) (hok : okI id cc pcs ixs oc rk maxL j (.iinc k n, nx, lst) = true) (H : ex1 S r ct cl ret N (.iinc k n, nx, lst) ls st h = some res) : Go (fun H locs pc la sv => W p l e Rm s m args below meth c H locs cells slots Q (F0 m pc la sv)) D A tys ad aC nL s pcs S r (j) (ls) (st) (h) := by
  unfold ex1 at H
  unfold okI at hok
  dsimp only at H hok
  split at H
  · next x hk =>
    split at H
    · next g =>
      obtain ⟨ls', hR', H⟩ := stK_spec k ls H
      exact go_iinc hx hb hk g hR' (okD_spec hok) (hN _ _ _ _ H)
    · cases H
  · cases H
theorem s1_iadd (hx : p.tables.exec = Jvm.exec) (hb : c.code = cc) (hts : ∀ w ∈ lw_g, w.before args s = true) (hown : s.vm.findClass (RN oc) = some m.cls) (hml : c.maxLocals = nL) (hK : va_K D vwCl tys s) (hR : 1 ≤ Rm.frames ∧ 100 ≤ Rm.locals ∧ cells ≤ Rm.cells ∧ slots ≤ Rm.slots) (hA : Amb ct aC A s s.heap) (hct : ctOk ct)  (hN : ∀ j ls st h, N j ls st h = some res → Go (fun H locs pc la sv => W p l e Rm s m args below meth c H locs cells slots Q (F0 m pc la sv)) D A tys ad aC nL s pcs S r (j) (ls) (st) (h)) (hok : okI id cc pcs ixs oc rk maxL j (.iadd, nx, lst) = true) (H : ex1 S r ct cl ret N (.iadd, nx, lst) ls st h = some res) : Go (fun H locs pc la sv => W p l e Rm s m args below meth c H locs cells slots Q (F0 m pc la sv)) D A tys ad aC nL s pcs S r (j) (ls) (st) (h) := by
  unfold ex1 at H
  unfold okI at hok
  dsimp only at H hok
  simp only [Bool.and_eq_true] at hok
  split at H
  · split at H
    · next g => exact go_iadd hx hb g (okD_spec hok.1) (hN _ _ _ _ H)
    · cases H
  · cases H
theorem s1_isub (hx : p.tables.exec = Jvm.exec) (hb : c.code = cc) (hts : ∀ w ∈ lw_g, w.before args s = true) (hown : s.vm.findClass (RN oc) = some m.cls) (hml : c.maxLocals = nL) (hK : va_K D vwCl tys s) (hR : 1 ≤ Rm.frames ∧ 100 ≤ Rm.locals ∧ cells ≤ Rm.cells ∧ slots ≤ Rm.slots) (hA : Amb ct aC A s s.heap) (hct : ctOk ct)  (hN : ∀ j ls st h, N j ls st h = some res → Go (fun H locs pc la sv => W p l e Rm s m args below meth c H locs cells slots Q (F0 m pc la sv)) D A tys ad aC nL s pcs S r (j) (ls) (st) (h)) (hok : okI id cc pcs ixs oc rk maxL j (.isub, nx, lst) = true) (H : ex1 S r ct cl ret N (.isub, nx, lst) ls st h = some res) : Go (fun H locs pc la sv => W p l e Rm s m args below meth c H locs cells slots Q (F0 m pc la sv)) D A tys ad aC nL s pcs S r (j) (ls) (st) (h) := by
  unfold ex1 at H
  unfold okI at hok
  dsimp only at H hok
  simp only [Bool.and_eq_true] at hok
  split at H
  · split at H
    · next g => exact go_isub hx hb g (okD_spec hok.1) (hN _ _ _ _ H)
    · cases H
  · cases H
theorem s1_imul (hx : p.tables.exec = Jvm.exec) (hb : c.code = cc) (hts : ∀ w ∈ lw_g, w.before args s = true) (hown : s.vm.findClass (RN oc) = some m.cls) (hml : c.maxLocals = nL) (hK : va_K D vwCl tys s) (hR : 1 ≤ Rm.frames ∧ 100 ≤ Rm.locals ∧ cells ≤ Rm.cells ∧ slots ≤ Rm.slots) (hA : Amb ct aC A s s.heap) (hct : ctOk ct)  (hN : ∀ j ls st h, N j ls st h = some res → Go (fun H locs pc la sv => W p l e Rm s m args below meth c H locs cells slots Q (F0 m pc la sv)) D A tys ad aC nL s pcs S r (j) (ls) (st) (h)) (hok : okI id cc pcs ixs oc rk maxL j (.imul, nx, lst) = true) (H : ex1 S r ct cl ret N (.imul, nx, lst) ls st h = some res) : Go (fun H locs pc la sv => W p l e Rm s m args below meth c H locs cells slots Q (F0 m pc la sv)) D A tys ad aC nL s pcs S r (j) (ls) (st) (h) := by
  unfold ex1 at H
  unfold okI at hok
  dsimp only at H hok
  simp only [Bool.and_eq_true] at hok
  split at H
  · split at H
    · next g => exact go_imul hx hb g (okD_spec hok.1) (hN _ _ _ _ H)
    · cases H
  · cases H
theorem s1_ladd (hx : p.tables.exec = Jvm.exec) (hb : c.code = cc) (hts : ∀ w ∈ lw_g, w.before args s = true) (hown : s.vm.findClass (RN oc) = some m.cls) (hml : c.maxLocals = nL) (hK : va_K D vwCl tys s) (hR : 1 ≤ Rm.frames ∧ 100 ≤ Rm.locals ∧ cells ≤ Rm.cells ∧ slots ≤ Rm.slots) (hA : Amb ct aC A s s.heap) (hct : ctOk ct)  (hN : ∀ j ls st h, N j ls st h = some res → Go (fun H locs pc la sv => W p l e Rm s m args below meth c H locs cells slots Q (F0 m pc la sv)) D A tys ad aC nL s pcs S r (j) (ls) (st) (h)) (hok : okI id cc pcs ixs oc rk maxL j (.ladd, nx, lst) = true) (H : ex1 S r ct cl ret N (.ladd, nx, lst) ls st h = some res) : Go (fun H locs pc la sv => W p l e Rm s m args below meth c H locs cells slots Q (F0 m pc la sv)) D A tys ad aC nL s pcs S r (j) (ls) (st) (h) := by
  unfold ex1 at H
  unfold okI at hok
  dsimp only at H hok
  simp only [Bool.and_eq_true] at hok
  split at H
  · split at H
    · next g => exact go_ladd hx hb g (okD_spec hok.1) (hN _ _ _ _ H)
    · cases H
  · cases H
theorem s1_lsub (hx : p.tables.exec = Jvm.exec) (hb : c.code = cc) (hts : ∀ w ∈ lw_g, w.before args s = true) (hown : s.vm.findClass (RN oc) = some m.cls) (hml : c.maxLocals = nL) (hK : va_K D vwCl tys s) (hR : 1 ≤ Rm.frames ∧ 100 ≤ Rm.locals ∧ cells ≤ Rm.cells ∧ slots ≤ Rm.slots) (hA : Amb ct aC A s s.heap) (hct : ctOk ct)  (hN : ∀ j ls st h, N j ls st h = some res → Go (fun H locs pc la sv => W p l e Rm s m args below meth c H locs cells slots Q (F0 m pc la sv)) D A tys ad aC nL s pcs S r (j) (ls) (st) (h)) (hok : okI id cc pcs ixs oc rk maxL j (.lsub, nx, lst) = true) (H : ex1 S r ct cl ret N (.lsub, nx, lst) ls st h = some res) : Go (fun H locs pc la sv => W p l e Rm s m args below meth c H locs cells slots Q (F0 m pc la sv)) D A tys ad aC nL s pcs S r (j) (ls) (st) (h) := by
  unfold ex1 at H
  unfold okI at hok
  dsimp only at H hok
  simp only [Bool.and_eq_true] at hok
  split at H
  · split at H
    · next g => exact go_lsub hx hb g (okD_spec hok.1) (hN _ _ _ _ H)
    · cases H
  · cases H
theorem s1_lmul (hx : p.tables.exec = Jvm.exec) (hb : c.code = cc) (hts : ∀ w ∈ lw_g, w.before args s = true) (hown : s.vm.findClass (RN oc) = some m.cls) (hml : c.maxLocals = nL) (hK : va_K D vwCl tys s) (hR : 1 ≤ Rm.frames ∧ 100 ≤ Rm.locals ∧ cells ≤ Rm.cells ∧ slots ≤ Rm.slots) (hA : Amb ct aC A s s.heap) (hct : ctOk ct)  (hN : ∀ j ls st h, N j ls st h = some res → Go (fun H locs pc la sv => W p l e Rm s m args below meth c H locs cells slots Q (F0 m pc la sv)) D A tys ad aC nL s pcs S r (j) (ls) (st) (h)) (hok : okI id cc pcs ixs oc rk maxL j (.lmul, nx, lst) = true) (H : ex1 S r ct cl ret N (.lmul, nx, lst) ls st h = some res) : Go (fun H locs pc la sv => W p l e Rm s m args below meth c H locs cells slots Q (F0 m pc la sv)) D A tys ad aC nL s pcs S r (j) (ls) (st) (h) := by
  unfold ex1 at H
  unfold okI at hok
  dsimp only at H hok
  simp only [Bool.and_eq_true] at hok
  split at H
  · split at H
    · next g => exact go_lmul hx hb g (okD_spec hok.1) (hN _ _ _ _ H)
    · cases H
  · cases H
theorem s1_idiv (hx : p.tables.exec = Jvm.exec) (hb : c.code = cc) (hts : ∀ w ∈ lw_g, w.before args s = true) (hown : s.vm.findClass (RN oc) = some m.cls) (hml : c.maxLocals = nL) (hK : va_K D vwCl tys s) (hR : 1 ≤ Rm.frames ∧ 100 ≤ Rm.locals ∧ cells ≤ Rm.cells ∧ slots ≤ Rm.slots) (hA : Amb ct aC A s s.heap) (hct : ctOk ct)  (hN : ∀ j ls st h, N j ls st h = some res → Go (fun H locs pc la sv => W p l e Rm s m args below meth c H locs cells slots Q (F0 m pc la sv)) D A tys ad aC nL s pcs S r (j) (ls) (st) (h)) (hok : okI id cc pcs ixs oc rk maxL j (.idiv, nx, lst) = true) (H : ex1 S r ct cl ret N (.idiv, nx, lst) ls st h = some res) : Go (fun H locs pc la sv => W p l e Rm s m args below meth c H locs cells slots Q (F0 m pc la sv)) D A tys ad aC nL s pcs S r (j) (ls) (st) (h) := by
  unfold ex1 at H
  unfold okI at hok
  dsimp only at H hok
  simp only [Bool.and_eq_true] at hok
  split at H
  · split at H
    · next g => exact go_idiv hx hb g (okD_spec hok.1) (hN _ _ _ _ H)
    · cases H
  · cases H
theorem s1_irem (hx : p.tables.exec = Jvm.exec) (hb : c.code = cc) (hts : ∀ w ∈ lw_g, w.before args s = true) (hown : s.vm.findClass (RN oc) = some m.cls) (hml : c.maxLocals = nL) (hK : va_K D vwCl tys s) (hR : 1 ≤ Rm.frames ∧ 100 ≤ Rm.locals ∧ cells ≤ Rm.cells ∧ slots ≤ Rm.slots) (hA : Amb ct aC A s s.heap) (hct : ctOk ct)  (hN : ∀ j ls st h, N j ls st h = some res → Go (fun H locs pc la sv => W p l e Rm s m args below meth c H locs cells slots Q (F0 m pc la sv)) D A tys ad aC nL s pcs S r (j) (ls) (st) (h)) (hok : okI id cc pcs ixs oc rk maxL j (.irem, nx, lst) = true) (H : ex1 S r ct cl ret N (.irem, nx, lst) ls st h = some res) : Go (fun H locs pc la sv => W p l e Rm s m args below meth c H locs cells slots Q (F0 m pc la sv)) D A tys ad aC nL s pcs S r (j) (ls) (st) (h) := by
  unfold ex1 at H
  unfold okI at hok
  dsimp only at H hok
  simp only [Bool.and_eq_true] at hok
  split at H
  · split at H
    · next g => exact go_irem hx hb g (okD_spec hok.1) (hN _ _ _ _ H)
    · cases H
  · cases H
theorem s1_ldiv (hx : p.tables.exec = Jvm.exec) (hb : c.code = cc) (hts : ∀ w ∈ lw_g, w.before args s = true) (hown : s.vm.findClass (RN oc) = some m.cls) (hml : c.maxLocals = nL) (hK : va_K D vwCl tys s) (hR : 1 ≤ Rm.frames ∧ 100 ≤ Rm.locals ∧ cells ≤ Rm.cells ∧ slots ≤ Rm.slots) (hA : Amb ct aC A s s.heap) (hct : ctOk ct)  (hN : ∀ j ls st h, N j ls st h = some res → Go (fun H locs pc la sv => W p l e Rm s m args below meth c H locs cells slots Q (F0 m pc la sv)) D A tys ad aC nL s pcs S r (j) (ls) (st) (h)) (hok : okI id cc pcs ixs oc rk maxL j (.ldiv, nx, lst) = true) (H : ex1 S r ct cl ret N (.ldiv, nx, lst) ls st h = some res) : Go (fun H locs pc la sv => W p l e Rm s m args below meth c H locs cells slots Q (F0 m pc la sv)) D A tys ad aC nL s pcs S r (j) (ls) (st) (h) := by
  unfold ex1 at H
  unfold okI at hok
  dsimp only at H hok
  simp only [Bool.and_eq_true] at hok
  split at H
  · split at H
    · next g => exact go_ldiv hx hb g (okD_spec hok.1) (hN _ _ _ _ H)
    · cases H
  · cases H
theorem s1_lrem (hx : p.tables.exec = Jvm.exec) (hb : c.code = cc) (hts : ∀ w ∈ lw_g, w.before args s = true) (hown : s.vm.findClass (RN oc) = some m.cls) (hml : c.maxLocals = nL) (hK : va_K D vwCl tys s) (hR : 1 ≤ Rm.frames ∧ 100 ≤ Rm.locals ∧ cells ≤ Rm.cells ∧ slots ≤ Rm.slots) (hA : Amb ct aC A s s.heap) (hct : ctOk ct)  (hN : ∀ j ls st h, N j ls st h = some res → Go (fun H locs pc la sv => W p l e Rm s m args below meth c H locs cells slots Q (F0 m pc la sv)) D A tys ad aC nL s pcs S r (j) (ls) (st) (h)) (hok : okI id cc pcs ixs oc rk maxL j (.lrem, nx, lst) = true) (H : ex1 S r ct cl ret N (.lrem, nx, lst) ls st h = some res) : Go (fun H locs pc la sv => W p l e Rm s m args below meth c H locs cells slots Q (F0 m pc la sv)) D A tys ad aC nL s pcs S r (j) (ls) (st) (h) := by
  unfold ex1 at H
  unfold okI at hok
  dsimp only at H hok
  simp only [Bool.and_eq_true] at hok
  split at H
  · split at H
    · next g => exact go_lrem hx hb g (okD_spec hok.1) (hN _ _ _ _ H)
    · cases H
  · cases H
theorem s1_iand (hx : p.tables.exec = Jvm.exec) (hb : c.code = cc) (hts : ∀ w ∈ lw_g, w.before args s = true) (hown : s.vm.findClass (RN oc) = some m.cls) (hml : c.maxLocals = nL) (hK : va_K D vwCl tys s) (hR : 1 ≤ Rm.frames ∧ 100 ≤ Rm.locals ∧ cells ≤ Rm.cells ∧ slots ≤ Rm.slots) (hA : Amb ct aC A s s.heap) (hct : ctOk ct)  (hN : ∀ j ls st h, N j ls st h = some res → Go (fun H locs pc la sv => W p l e Rm s m args below meth c H locs cells slots Q (F0 m pc la sv)) D A tys ad aC nL s pcs S r (j) (ls) (st) (h)) (hok : okI id cc pcs ixs oc rk maxL j (.iand, nx, lst) = true) (H : ex1 S r ct cl ret N (.iand, nx, lst) ls st h = some res) : Go (fun H locs pc la sv => W p l e Rm s m args below meth c H locs cells slots Q (F0 m pc la sv)) D A tys ad aC nL s pcs S r (j) (ls) (st) (h) := by
  unfold ex1 at H
  unfold okI at hok
  dsimp only at H hok
  simp only [Bool.and_eq_true] at hok
  split at H
  · exact go_iand hx hb (okD_spec hok.1) (hN _ _ _ _ H)
  · cases H
theorem s1_ior (hx : p.tables.exec = Jvm.exec) (hb : c.code = cc) (hts : ∀ w ∈ lw_g, w.before args s = true) (hown : s.vm.findClass (RN oc) = some m.cls) (hml : c.maxLocals = nL) (hK : va_K D vwCl tys s) (hR : 1 ≤ Rm.frames ∧ 100 ≤ Rm.locals ∧ cells ≤ Rm.cells ∧ slots ≤ Rm.slots) (hA : Amb ct aC A s s.heap) (hct : ctOk ct)  (hN : ∀ j ls st h, N j ls st h = some res → Go (fun H locs pc la sv => W p l e Rm s m args below meth c H locs cells slots Q (F0 m pc la sv)) D A tys ad aC nL s pcs S r (j) (ls) (st) (h)) (hok : okI id cc pcs ixs oc rk maxL j (.ior, nx, lst) = true) (H : ex1 S r ct cl ret N (.ior, nx, lst) ls st h = some res) : Go (fun H locs pc la sv => W p l e Rm s m args below meth c H locs cells slots Q (F0 m pc la sv)) D A tys ad aC nL s pcs S r (j) (ls) (st) (h) := by
  unfold ex1 at H
  unfold okI at hok
  dsimp only at H hok
  simp only [Bool.and_eq_true] at hok
  split at H
  · exact go_ior hx hb (okD_spec hok.1) (hN _ _ _ _ H)
  · cases H
theorem s1_ixor (hx : p.tables.exec = Jvm.exec) (hb : c.code = cc) (hts : ∀ w ∈ lw_g, w.before args s = true) (hown : s.vm.findClass (RN oc) = some m.cls) (hml : c.maxLocals = nL) (hK : va_K D vwCl tys s) (hR : 1 ≤ Rm.frames ∧ 100 ≤ Rm.locals ∧ cells ≤ Rm.cells ∧ slots ≤ Rm.slots) (hA : Amb ct aC A s s.heap) (hct : ctOk ct)  (hN : ∀ j ls st h, N j ls st h = some res → Go (fun H locs pc la sv => W p l e Rm s m args below meth c H locs cells slots Q (F0 m pc la sv)) D A tys ad aC nL s pcs S r (j) (ls) (st) (h)) (hok : okI id cc pcs ixs oc rk maxL j (.ixor, nx, lst) = true) (H : ex1 S r ct cl ret N (.ixor, nx, lst) ls st h = some res) : Go (fun H locs pc la sv => W p l e Rm s m args below meth c H locs cells slots Q (F0 m pc la sv)) D A tys ad aC nL s pcs S r (j) (ls) (st) (h) := by
  unfold ex1 at H
  unfold okI at hok
  dsimp only at H hok
  simp only [Bool.and_eq_true] at hok
  split at H
  · exact go_ixor hx hb (okD_spec hok.1) (hN _ _ _ _ H)
  · cases H
theorem s1_ishl (hx : p.tables.exec = Jvm.exec) (hb : c.code = cc) (hts : ∀ w ∈ lw_g, w.before args s = true) (hown : s.vm.findClass (RN oc) = some m.cls) (hml : c.maxLocals = nL) (hK : va_K D vwCl tys s) (hR : 1 ≤ Rm.frames ∧ 100 ≤ Rm.locals ∧ cells ≤ Rm.cells ∧ slots ≤ Rm.slots) (hA : Amb ct aC A s s.heap) (hct : ctOk ct)  (hN : ∀ j ls st h, N j ls st h = some res → Go (fun H locs pc la sv => W p l e Rm s m args below meth c H locs cells slots Q (F0 m pc la sv)) D A tys ad aC nL s pcs S r (j) (ls) (st) (h)) (hok : okI id cc pcs ixs oc rk maxL j (.ishl, nx, lst) = true) (H : ex1 S r ct cl ret N (.ishl, nx, lst) ls st h = some res) : Go (fun H locs pc la sv => W p l e Rm s m args below meth c H locs cells slots Q (F0 m pc la sv)) D A tys ad aC nL s pcs S r (j) (ls) (st) (h) := by
  unfold ex1 at H
  unfold okI at hok
  dsimp only at H hok
  simp only [Bool.and_eq_true] at hok
  split at H
  · exact go_ishl hx hb (okD_spec hok.1) (hN _ _ _ _ H)
  · cases H
theorem s1_ishr (hx : p.tables.exec = Jvm.exec) (hb : c.code = cc) (hts : ∀ w ∈ lw_g, w.before args s = true) (hown : s.vm.findClass (RN oc) = some m.cls) (hml : c.maxLocals = nL) (hK : va_K D vwCl tys s) (hR : 1 ≤ Rm.frames ∧ 100 ≤ Rm.locals ∧ cells ≤ Rm.cells ∧ slots ≤ Rm.slots) (hA : Amb ct aC A s s.heap) (hct : ctOk ct)  (hN : ∀ j ls st h, N j ls st h = some res → Go (fun H locs pc la sv => W p l e Rm s m args below meth c H locs cells slots Q (F0 m pc la sv)) D A tys ad aC nL s pcs S r (j) (ls) (st) (h)) (hok : okI id cc pcs ixs oc rk maxL j (.ishr, nx, lst) = true) (H : ex1 S r ct cl ret N (.ishr, nx, lst) ls st h = some res) : Go (fun H locs pc la sv => W p l e Rm s m args below meth c H locs cells slots Q (F0 m pc la sv)) D A tys ad aC nL s pcs S r (j) (ls) (st) (h) := by
  unfold ex1 at H
  unfold okI at hok
  dsimp only at H hok
  simp only [Bool.and_eq_true] at hok
  split at H
  · exact go_ishr hx hb (okD_spec hok.1) (hN _ _ _ _ H)
  · cases H
theorem s1_iushr (hx : p.tables.exec = Jvm.exec) (hb : c.code = cc) (hts : ∀ w ∈ lw_g, w.before args s = true) (hown : s.vm.findClass (RN oc) = some m.cls) (hml : c.maxLocals = nL) (hK : va_K D vwCl tys s) (hR : 1 ≤ Rm.frames ∧ 100 ≤ Rm.locals ∧ cells ≤ Rm.cells ∧ slots ≤ Rm.slots) (hA : Amb ct aC A s s.heap) (hct : ctOk ct)  (hN : ∀ j ls st h, N j ls st h = some res → Go (fun H locs pc la sv => W p l e Rm s m args below meth c H locs cells slots Q (F0 m pc la sv)) D A tys ad aC nL s pcs S r (j) (ls) (st) (h)) (hok : okI id cc pcs ixs oc rk maxL j (.iushr, nx, lst) = true) (H : ex1 S r ct cl ret N (.iushr, nx, lst) ls st h = some res) : Go (fun H locs pc la sv => W p l e Rm s m args below meth c H locs cells slots Q (F0 m pc la sv)) D A tys ad aC nL s pcs S r (j) (ls) (st) (h) := by
  unfold ex1 at H
  unfold okI at hok
  dsimp only at H hok
  simp only [Bool.and_eq_true] at hok
  split at H
  · exact go_iushr hx hb (okD_spec hok.1) (hN _ _ _ _ H)
  · cases H
theorem s1_land (hx : p.tables.exec = Jvm.exec) (hb : c.code = cc) (hts : ∀ w ∈ lw_g, w.before args s = true) (hown : s.vm.findClass (RN oc) = some m.cls) (hml : c.maxLocals = nL) (hK : va_K D vwCl tys s) (hR : 1 ≤ Rm.frames ∧ 100 ≤ Rm.locals ∧ cells ≤ Rm.cells ∧ slots ≤ Rm.slots) (hA : Amb ct aC A s s.heap) (hct : ctOk ct)  (hN : ∀ j ls st h, N j ls st h = some res → Go (fun H locs pc la sv => W p l e Rm s m args below meth c H locs cells slots Q (F0 m pc la sv)) D A tys ad aC nL s pcs S r (j) (ls) (st) (h)) (hok : okI id cc pcs ixs oc rk maxL j (.land, nx, lst) = true) (H : ex1 S r ct cl ret N (.land, nx, lst) ls st h = some res) : Go (fun H locs pc la sv => W p l e Rm s m args below meth c H locs cells slots Q (F0 m pc la sv)) D A tys ad aC nL s pcs S r (j) (ls) (st) (h) := by
  unfold ex1 at H
  unfold okI at hok
  dsimp only at H hok
  simp only [Bool.and_eq_true] at hok
  split at H
  · exact go_land hx hb (okD_spec hok.1) (hN _ _ _ _ H)
  · cases H
theorem s1_lor (hx : p.tables.exec = Jvm.exec) (hb : c.code = cc) (hts : ∀ w ∈ lw_g, w.before args s = true) (hown : s.vm.findClass (RN oc) = some m.cls) (hml : c.maxLocals = nL) (hK : va_K D vwCl tys s) (hR : 1 ≤ Rm.frames ∧ 100 ≤ Rm.locals ∧ cells ≤ Rm.cells ∧ slots ≤ Rm.slots) (hA : Amb ct aC A s s.heap) (hct : ctOk ct)  (hN : ∀ j ls st h, N j ls st h = some res → Go (fun H locs pc la sv => W p l e Rm s m args below meth c H locs cells slots Q (F0 m pc la sv)) D A tys ad aC nL s pcs S r (j) (ls) (st) (h)) (hok : okI id cc pcs ixs oc rk maxL j (.lor, nx, lst) = true) (H : ex1 S r ct cl ret N (.lor, nx, lst) ls st h = some res) : Go (fun H locs pc la sv => W p l e Rm s m args below meth c H locs cells slots Q (F0 m pc la sv)) D A tys ad aC nL s pcs S r (j) (ls) (st) (h) := by
  unfold ex1 at H
  unfold okI at hok
  dsimp only at H hok
  simp only [Bool.and_eq_true] at hok
  split at H
  · exact go_lor hx hb (okD_spec hok.1) (hN _ _ _ _ H)
  · cases H
theorem s1_lshl (hx : p.tables.exec = Jvm.exec) (hb : c.code = cc) (hts : ∀ w ∈ lw_g, w.before args s = true) (hown : s.vm.findClass (RN oc) = some m.cls) (hml : c.maxLocals = nL) (hK : va_K D vwCl tys s) (hR : 1 ≤ Rm.frames ∧ 100 ≤ Rm.locals ∧ cells ≤ Rm.cells ∧ slots ≤ Rm.slots) (hA : Amb ct aC A s s.heap) (hct : ctOk ct)  (hN : ∀ j ls st h, N j ls st h = some res → Go (fun H locs pc la sv => W p l e Rm s m args below meth c H locs cells slots Q (F0 m pc la sv)) D A tys ad aC nL s pcs S r (j) (ls) (st) (h)) (hok : okI id cc pcs ixs oc rk maxL j (.lshl, nx, lst) = true) (H : ex1 S r ct cl ret N (.lshl, nx, lst) ls st h = some res) : Go (fun H locs pc la sv => W p l e Rm s m args below meth c H locs cells slots Q (F0 m pc la sv)) D A tys ad aC nL s pcs S r (j) (ls) (st) (h) := by
  unfold ex1 at H
  unfold okI at hok
  dsimp only at H hok
  simp only [Bool.and_eq_true] at hok
  split at H
  · exact go_lshl hx hb (okD_spec hok.1) (hN _ _ _ _ H)
  · cases H
theorem s1_i2l (hx : p.tables.exec = Jvm.exec) (hb : c.code = cc) (hts : ∀ w ∈ lw_g, w.before args s = true) (hown : s.vm.findClass (RN oc) = some m.cls) (hml : c.maxLocals = nL) (hK : va_K D vwCl tys s) (hR : 1 ≤ Rm.frames ∧ 100 ≤ Rm.locals ∧ cells ≤ Rm.cells ∧ slots ≤ Rm.slots) (hA : Amb ct aC A s s.heap) (hct : ctOk ct)  (hN : ∀ j ls st h, N j ls st h = some res → Go (fun H locs pc la sv => W p l e Rm s m args below meth c H locs cells slots Q (F0 m pc la sv)) D A tys ad aC nL s pcs S r (j) (ls) (st) (h)) (hok : okI id cc pcs ixs oc rk maxL j (.i2l, nx, lst) = true) (H : ex1 S r ct cl ret N (.i2l, nx, lst) ls st h = some res) : Go (fun H locs pc la sv => W p l e Rm s m args below meth c H locs cells slots Q (F0 m pc la sv)) D A tys ad aC nL s pcs S r (j) (ls) (st) (h) := by
  unfold ex1 at H
  unfold okI at hok
  dsimp only at H hok
  simp only [Bool.and_eq_true] at hok
  split at H
  · exact go_i2l hx hb (okD_spec hok.1) (hN _ _ _ _ H)
  · cases H
theorem s1_l2i (hx : p.tables.exec = Jvm.exec) (hb : c.code = cc) (hts : ∀ w ∈ lw_g, w.before args s = true) (hown : s.vm.findClass (RN oc) = some m.cls) (hml : c.maxLocals = nL) (hK : va_K D vwCl tys s) (hR : 1 ≤ Rm.frames ∧ 100 ≤ Rm.locals ∧ cells ≤ Rm.cells ∧ slots ≤ Rm.slots) (hA : Amb ct aC A s s.heap) (hct : ctOk ct)  (hN : ∀ j ls st h, N j ls st h = some res → Go (fun H locs pc la sv => W p l e Rm s m args below meth c H locs cells slots Q (F0 m pc la sv)) D A tys ad aC nL s pcs S r (j) (ls) (st) (h)) (hok : okI id cc pcs ixs oc rk maxL j (.l2i, nx, lst) = true) (H : ex1 S r ct cl ret N (.l2i, nx, lst) ls st h = some res) : Go (fun H locs pc la sv => W p l e Rm s m args below meth c H locs cells slots Q (F0 m pc la sv)) D A tys ad aC nL s pcs S r (j) (ls) (st) (h) := by
  unfold ex1 at H
  unfold okI at hok
  dsimp only at H hok
  simp only [Bool.and_eq_true] at hok
  split at H
  · exact go_l2i hx hb (okD_spec hok.1) (hN _ _ _ _ H)
  · cases H
theorem s1_i2b (hx : p.tables.exec = Jvm.exec) (hb : c.code = cc) (hts : ∀ w ∈ lw_g, w.before args s = true) (hown : s.vm.findClass (RN oc) = some m.cls) (hml : c.maxLocals = nL) (hK : va_K D vwCl tys s) (hR : 1 ≤ Rm.frames ∧ 100 ≤ Rm.locals ∧ cells ≤ Rm.cells ∧ slots ≤ Rm.slots) (hA : Amb ct aC A s s.heap) (hct : ctOk ct)  (hN : ∀ j ls st h, N j ls st h = some res → Go (fun H locs pc la sv => W p l e Rm s m args below meth c H locs cells slots Q (F0 m pc la sv)) D A tys ad aC nL s pcs S r (j) (ls) (st) (h)) (hok : okI id cc pcs ixs oc rk maxL j (.i2b, nx, lst) = true) (H : ex1 S r ct cl ret N (.i2b, nx, lst) ls st h = some res) : Go (fun H locs pc la sv => W p l e Rm s m args below meth c H locs cells slots Q (F0 m pc la sv)) D A tys ad aC nL s pcs S r (j) (ls) (st) (h) := by
  unfold ex1 at H
  unfold okI at hok
  dsimp only at H hok
  simp only [Bool.and_eq_true] at hok
  split at H
  · exact go_i2b hx hb (okD_spec hok.1) (hN _ _ _ _ H)
  · cases H
theorem s1_i2s (hx : p.tables.exec = Jvm.exec) (hb : c.code = cc) (hts : ∀ w ∈ lw_g, w.before args s = true) (hown : s.vm.findClass (RN oc) = some m.cls) (hml : c.maxLocals = nL) (hK : va_K D vwCl tys s) (hR : 1 ≤ Rm.frames ∧ 100 ≤ Rm.locals ∧ cells ≤ Rm.cells ∧ slots ≤ Rm.slots) (hA : Amb ct aC A s s.heap) (hct : ctOk ct)  (hN : ∀ j ls st h, N j ls st h = some res → Go (fun H locs pc la sv => W p l e Rm s m args below meth c H locs cells slots Q (F0 m pc la sv)) D A tys ad aC nL s pcs S r (j) (ls) (st) (h)) (hok : okI id cc pcs ixs oc rk maxL j (.i2s, nx, lst) = true) (H : ex1 S r ct cl ret N (.i2s, nx, lst) ls st h = some res) : Go (fun H locs pc la sv => W p l e Rm s m args below meth c H locs cells slots Q (F0 m pc la sv)) D A tys ad aC nL s pcs S r (j) (ls) (st) (h) := by
  unfold ex1 at H
  unfold okI at hok
  dsimp only at H hok
  simp only [Bool.and_eq_true] at hok
  split at H
  · exact go_i2s hx hb (okD_spec hok.1) (hN _ _ _ _ H)
  · cases H
theorem s1_pop (hx : p.tables.exec = Jvm.exec) (hb : c.code = cc) (hts : ∀ w ∈ lw_g, w.before args s = true) (hown : s.vm.findClass (RN oc) = some m.cls) (hml : c.maxLocals = nL) (hK : va_K D vwCl tys s) (hR : 1 ≤ Rm.frames ∧ 100 ≤ Rm.locals ∧ cells ≤ Rm.cells ∧ slots ≤ Rm.slots) (hA : Amb ct aC A s s.heap) (hct : ctOk ct)  (hN : ∀ j ls st h, N j ls st h = some res → Go (fun H locs pc la sv => W p l e Rm s m args below meth c H locs cells slots Q (F0 m pc la sv)) D A tys ad aC nL s pcs S r (j) (ls) (st) (h)) (hok : okI id cc pcs ixs oc rk maxL j (.pop, nx, lst) = true) (H : ex1 S r ct cl ret N (.pop, nx, lst) ls st h = some res) : Go (fun H locs pc la sv => W p l e Rm s m args below meth c H locs cells slots Q (F0 m pc la sv)) D A tys ad aC nL s pcs S r (j) (ls) (st) (h) := by
  unfold ex1 at H
  unfold okI at hok
  dsimp only at H hok
  simp only [Bool.and_eq_true] at hok
  split at H
  · exact go_pop hx hb (okD_spec hok.1) (hN _ _ _ _ H)
  · cases H
theorem s1_dup (hx : p.tables.exec = Jvm.exec) (hb : c.code = cc) (hts : ∀ w ∈ lw_g, w.before args s = true) (hown : s.vm.findClass (RN oc) = some m.cls) (hml : c.maxLocals = nL) (hK : va_K D vwCl tys s) (hR : 1 ≤ Rm.frames ∧ 100 ≤ Rm.locals ∧ cells ≤ Rm.cells ∧ slots ≤ Rm.slots) (hA : Amb ct aC A s s.heap) (hct : ctOk ct)  (hN : ∀ j ls st h, N j ls st h = some res → Go (fun H locs pc la sv => W p l e Rm s m args below meth c H locs cells slots Q (F0 m pc la sv)) D A tys ad aC nL s pcs S r (j) (ls) (st) (h)) (hok : okI id cc pcs ixs oc rk maxL j (.dup, nx, lst) = true) (H : ex1 S r ct cl ret N (.dup, nx, lst) ls st h = some res) : Go (fun H locs pc la sv => W p l e Rm s m args below meth c H locs cells slots Q (F0 m pc la sv)) D A tys ad aC nL s pcs S r (j) (ls) (st) (h) := by
  unfold ex1 at H
  unfold okI at hok
  dsimp only at H hok
  simp only [Bool.and_eq_true] at hok
  split at H
  · exact go_dupI hx hb (okD_spec hok.1) (hN _ _ _ _ H)
  · exact go_dupR hx hb (okD_spec hok.1) (hN _ _ _ _ H)
  · cases H
theorem s1_dup2 (hx : p.tables.exec = Jvm.exec) (hb : c.code = cc) (hts : ∀ w ∈ lw_g, w.before args s = true) (hown : s.vm.findClass (RN oc) = some m.cls) (hml : c.maxLocals = nL) (hK : va_K D vwCl tys s) (hR : 1 ≤ Rm.frames ∧ 100 ≤ Rm.locals ∧ cells ≤ Rm.cells ∧ slots ≤ Rm.slots) (hA : Amb ct aC A s s.heap) (hct : ctOk ct)  (hN : ∀ j ls st h, N j ls st h = some res → Go (fun H locs pc la sv => W p l e Rm s m args below meth c H locs cells slots Q (F0 m pc la sv)) D A tys ad aC nL s pcs S r (j) (ls) (st) (h)) (hok : okI id cc pcs ixs oc rk maxL j (.dup2, nx, lst) = true) (H : ex1 S r ct cl ret N (.dup2, nx, lst) ls st h = some res) : Go (fun H locs pc la sv => W p l e Rm s m args below meth c H locs cells slots Q (F0 m pc la sv)) D A tys ad aC nL s pcs S r (j) (ls) (st) (h) := by
  unfold ex1 at H
  unfold okI at hok
  dsimp only at H hok
  simp only [Bool.and_eq_true] at hok
  split at H
  · exact go_dup2L hx hb (okD_spec hok.1) (hN _ _ _ _ H)
  · exact go_dup2I hx hb (okD_spec hok.1) (hN _ _ _ _ H)
  · exact go_dup2R hx hb (okD_spec hok.1) (hN _ _ _ _ H)
  · cases H
theorem s1_ifCond {cc0 : ClassFile.Cond} {off0 : Int} (hx : p.tables.exec = Jvm.exec) (hb : c.code = cc) (hts : ∀ w ∈ lw_g, w.before args s = true) (hown : s.vm.findClass (RN oc) = some m.cls) (hml : c.maxLocals = nL) (hK : va_K D vwCl tys s) (hR : 1 ≤ Rm.frames ∧ 100 ≤ Rm.locals ∧ cells ≤ Rm.cells ∧ slots ≤ Rm.slots) (hA : Amb ct aC A s s.heap) (hct : ctOk ct)  (hN : ∀ j ls st h, N j ls st h = some res → Go (fun H locs pc la sv => W p l e Rm s m args below meth c H locs cells slots Q (F0 m pc la sv)) D A tys ad aC nL s pcs S r (j) (ls) (st) (h)) (hok : okI id cc pcs ixs oc rk maxL j (.ifCond cc0 off0, nx, lst) = true) (H : ex1 S r ct cl ret N (.ifCond cc0 off0, nx, lst) ls st h = some res) : Go (fun H locs pc la sv => W p l e Rm s m args below meth c H locs cells slots Q (F0 m pc la sv)) D A tys ad aC nL s pcs S r (j) (ls) (st) (h) := by
  unfold ex1 at H
  unfold okI at hok
  dsimp only at H hok
  split at H
  · next x rest c0 t =>
    simp only [Bool.and_eq_true, Nat.ble_eq] at hok
    obtain ⟨⟨h0, h1⟩, h2⟩ := hok
    have hc9 : c0 = 0 ∨ c0 = 1 ∨ c0 = 2 ∨ c0 = 3 ∨ c0 = 4 ∨ c0 = 5 := by omega
    rcases hc9 with rfl | rfl | rfl | rfl | rfl | rfl
    · simp only [pB] at H
      exact go_if_eq hx hb (okD_spec h2) (has_spec h1) (fun pc q => offT_spec pc q) (fun q => hN _ _ _ _ (by rw [if_pos q] at H; exact H)) (fun q => hN _ _ _ _ (by rw [if_neg q] at H; exact H))
    · simp only [pB] at H
      exact go_if_ne hx hb (okD_spec h2) (has_spec h1) (fun pc q => offT_spec pc q) (fun q => hN _ _ _ _ (by rw [if_neg q] at H; exact H)) (fun q => hN _ _ _ _ (by rw [if_pos q] at H; exact H))
    · simp only [pB] at H
      exact go_if_lt hx hb (okD_spec h2) (has_spec h1) (fun pc q => offT_spec pc q) (fun q => hN _ _ _ _ (by rw [if_pos q] at H; exact H)) (fun q => hN _ _ _ _ (by rw [if_neg q] at H; exact H))
    · simp only [pB] at H
      exact go_if_ge hx hb (okD_spec h2) (has_spec h1) (fun pc q => offT_spec pc q) (fun q => hN _ _ _ _ (by rw [if_neg q] at H; exact H)) (fun q => hN _ _ _ _ (by rw [if_pos q] at H; exact H))
    · simp only [pB] at H
      exact go_if_gt hx hb (okD_spec h2) (has_spec h1) (fun pc q => offT_spec pc q) (fun q => hN _ _ _ _ (by rw [if_pos q] at H; exact H)) (fun q => hN _ _ _ _ (by rw [if_neg q] at H; exact H))
    · simp only [pB] at H
      exact go_if_le hx hb (okD_spec h2) (has_spec h1) (fun pc q => offT_spec pc q) (fun q => hN _ _ _ _ (by rw [if_neg q] at H; exact H)) (fun q => hN _ _ _ _ (by rw [if_pos q] at H; exact H))
  · cases H
theorem s1_if_icmp {cc0 : ClassFile.Cond} {off0 : Int} (hx : p.tables.exec = Jvm.exec) (hb : c.code = cc) (hts : ∀ w ∈ lw_g, w.before args s = true) (hown : s.vm.findClass (RN oc) = some m.cls) (hml : c.maxLocals = nL) (hK : va_K D vwCl tys s) (hR : 1 ≤ Rm.frames ∧ 100 ≤ Rm.locals ∧ cells ≤ Rm.cells ∧ slots ≤ Rm.slots) (hA : Amb ct aC A s s.heap) (hct : ctOk ct)  (hN : ∀ j ls st h, N j ls st h = some res → Go (fun H locs pc la sv => W p l e Rm s m args below meth c H locs cells slots Q (F0 m pc la sv)) D A tys ad aC nL s pcs S r (j) (ls) (st) (h)) (hok : okI id cc pcs ixs oc rk maxL j (.if_icmp cc0 off0, nx, lst) = true) (H : ex1 S r ct cl ret N (.if_icmp cc0 off0, nx, lst) ls st h = some res) : Go (fun H locs pc la sv => W p l e Rm s m args below meth c H locs cells slots Q (F0 m pc la sv)) D A tys ad aC nL s pcs S r (j) (ls) (st) (h) := by
  unfold ex1 at H
  unfold okI at hok
  dsimp only at H hok
  split at H
  · next y x rest c0 t =>
    simp only [Bool.and_eq_true, Nat.ble_eq] at hok
    obtain ⟨⟨h0, h1⟩, h2⟩ := hok
    have hc9 : c0 = 0 ∨ c0 = 1 ∨ c0 = 2 ∨ c0 = 3 ∨ c0 = 4 ∨ c0 = 5 := by omega
    rcases hc9 with rfl | rfl | rfl | rfl | rfl | rfl
    · simp only [pB] at H
      exact go_icmp_eq hx hb (okD_spec h2) (has_spec h1) (fun pc q => offT_spec pc q) (fun q => hN _ _ _ _ (by rw [if_pos q] at H; exact H)) (fun q => hN _ _ _ _ (by rw [if_neg q] at H; exact H))
    · simp only [pB] at H
      exact go_icmp_ne hx hb (okD_spec h2) (has_spec h1) (fun pc q => offT_spec pc q) (fun q => hN _ _ _ _ (by rw [if_neg q] at H; exact H)) (fun q => hN _ _ _ _ (by rw [if_pos q] at H; exact H))
    · simp only [pB] at H
      exact go_icmp_lt hx hb (okD_spec h2) (has_spec h1) (fun pc q => offT_spec pc q) (fun q => hN _ _ _ _ (by rw [if_pos q] at H; exact H)) (fun q => hN _ _ _ _ (by rw [if_neg q] at H; exact H))
    · simp only [pB] at H
      exact go_icmp_ge hx hb (okD_spec h2) (has_spec h1) (fun pc q => offT_spec pc q) (fun q => hN _ _ _ _ (by rw [if_neg q] at H; exact H)) (fun q => hN _ _ _ _ (by rw [if_pos q] at H; exact H))
    · simp only [pB] at H
      exact go_icmp_gt hx hb (okD_spec h2) (has_spec h1) (fun pc q => offT_spec pc q) (fun q => hN _ _ _ _ (by rw [if_pos q] at H; exact H)) (fun q => hN _ _ _ _ (by rw [if_neg q] at H; exact H))
    · simp only [pB] at H
      exact go_icmp_le hx hb (okD_spec h2) (has_spec h1) (fun pc q => offT_spec pc q) (fun q => hN _ _ _ _ (by rw [if_neg q] at H; exact H)) (fun q => hN _ _ _ _ (by rw [if_pos q] at H; exact H))
  · cases H
theorem s1_lcmp (hx : p.tables.exec = Jvm.exec) (hb : c.code = cc) (hts : ∀ w ∈ lw_g, w.before args s = true) (hown : s.vm.findClass (RN oc) = some m.cls) (hml : c.maxLocals = nL) (hK : va_K D vwCl tys s) (hR : 1 ≤ Rm.frames ∧ 100 ≤ Rm.locals ∧ cells ≤ Rm.cells ∧ slots ≤ Rm.slots) (hA : Amb ct aC A s s.heap) (hct : ctOk ct)  (hN : ∀ j ls st h, N j ls st h = some res → Go (fun H locs pc la sv => W p l e Rm s m args below meth c H locs cells slots Q (F0 m pc la sv)) D A tys ad aC nL s pcs S r (j) (ls) (st) (h)) (hok : okI id cc pcs ixs oc rk maxL j (.lcmp, nx, lst) = true) (H : ex1 S r ct cl ret N (.lcmp, nx, lst) ls st h = some res) : Go (fun H locs pc la sv => W p l e Rm s m args below meth c H locs cells slots Q (F0 m pc la sv)) D A tys ad aC nL s pcs S r (j) (ls) (st) (h) := by
  unfold ex1 at H
  unfold okI at hok
  dsimp only at H hok
  split at H
  · next y x rest c0 t =>
    simp only [Bool.and_eq_true, Nat.ble_eq] at hok
    obtain ⟨⟨⟨h0, h1⟩, h2⟩, h3⟩ := hok
    have hc9 : c0 = 0 ∨ c0 = 1 ∨ c0 = 2 ∨ c0 = 3 ∨ c0 = 4 ∨ c0 = 5 := by omega
    rcases hc9 with rfl | rfl | rfl | rfl | rfl | rfl
    · simp only [pB] at H
      exact go_lcmp_eq hx hb (nx0 := 0) (okD_spec h2) (okD_spec h3) (has_spec h1) (fun pc q => offT_spec pc q) (fun q => hN _ _ _ _ (by rw [if_pos q] at H; exact H)) (fun q => hN _ _ _ _ (by rw [if_neg q] at H; exact H))
    · simp only [pB] at H
      exact go_lcmp_ne hx hb (nx0 := 0) (okD_spec h2) (okD_spec h3) (has_spec h1) (fun pc q => offT_spec pc q) (fun q => hN _ _ _ _ (by rw [if_neg q] at H; exact H)) (fun q => hN _ _ _ _ (by rw [if_pos q] at H; exact H))
    · simp only [pB] at H
      exact go_lcmp_lt hx hb (nx0 := 0) (okD_spec h2) (okD_spec h3) (has_spec h1) (fun pc q => offT_spec pc q) (fun q => hN _ _ _ _ (by rw [if_pos q] at H; exact H)) (fun q => hN _ _ _ _ (by rw [if_neg q] at H; exact H))
    · simp only [pB] at H
      exact go_lcmp_ge hx hb (nx0 := 0) (okD_spec h2) (okD_spec h3) (has_spec h1) (fun pc q => offT_spec pc q) (fun q => hN _ _ _ _ (by rw [if_neg q] at H; exact H)) (fun q => hN _ _ _ _ (by rw [if_pos q] at H; exact H))
    · simp only [pB] at H
      exact go_lcmp_gt hx hb (nx0 := 0) (okD_spec h2) (okD_spec h3) (has_spec h1) (fun pc q => offT_spec pc q) (fun q => hN _ _ _ _ (by rw [if_pos q] at H; exact H)) (fun q => hN _ _ _ _ (by rw [if_neg q] at H; exact H))
    · simp only [pB] at H
      exact go_lcmp_le hx hb (nx0 := 0) (okD_spec h2) (okD_spec h3) (has_spec h1) (fun pc q => offT_spec pc q) (fun q => hN _ _ _ _ (by rw [if_neg q] at H; exact H)) (fun q => hN _ _ _ _ (by rw [if_pos q] at H; exact H))
  · cases H
theorem s1_goto (hx : p.tables.exec = Jvm.exec) (hb : c.code = cc) (hts : ∀ w ∈ lw_g, w.before args s = true) (hown : s.vm.findClass (RN oc) = some m.cls) (hml : c.maxLocals = nL) (hK : va_K D vwCl tys s) (hR : 1 ≤ Rm.frames ∧ 100 ≤ Rm.locals ∧ cells ≤ Rm.cells ∧ slots ≤ Rm.slots) (hA : Amb ct aC A s s.heap) (hct : ctOk ct) {off0 : Int} (hN : ∀ j ls st h, N j ls st h = some res → Go (fun H locs pc la sv => W p l e Rm s m args below meth c H locs cells slots Q (F0 m pc la sv)) D A tys ad aC nL s pcs S r (j) (ls) (st) (h)) (hok : okI id cc pcs ixs oc rk maxL j (.goto off0, nx, lst) = true) (H : ex1 S r ct cl ret N (.goto off0, nx, lst) ls st h = some res) : Go (fun H locs pc la sv => W p l e Rm s m args below meth c H locs cells slots Q (F0 m pc la sv)) D A tys ad aC nL s pcs S r (j) (ls) (st) (h) := by
  unfold ex1 at H
  unfold okI at hok
  dsimp only at H hok
  split at H
  · next t =>
    simp only [Bool.and_eq_true] at hok
    exact go_goto hx hb (okD_spec hok.2) (has_spec hok.1) (fun pc q => offT_spec pc q) (hN _ _ _ _ H)
  · cases H
theorem s1_getfield (hx : p.tables.exec = Jvm.exec) (hb : c.code = cc) (hts : ∀ w ∈ lw_g, w.before args s = true) (hown : s.vm.findClass (RN oc) = some m.cls) (hml : c.maxLocals = nL) (hK : va_K D vwCl tys s) (hR : 1 ≤ Rm.frames ∧ 100 ≤ Rm.locals ∧ cells ≤ Rm.cells ∧ slots ≤ Rm.slots) (hA : Amb ct aC A s s.heap) (hct : ctOk ct) {k : Nat} (hN : ∀ j ls st h, N j ls st h = some res → Go (fun H locs pc la sv => W p l e Rm s m args below meth c H locs cells slots Q (F0 m pc la sv)) D A tys ad aC nL s pcs S r (j) (ls) (st) (h)) (hok : okI id cc pcs ixs oc rk maxL j (.getfield k, nx, lst) = true) (H : ex1 S r ct cl ret N (.getfield k, nx, lst) ls st h = some res) : Go (fun H locs pc la sv => W p l e Rm s m args below meth c H locs cells slots Q (F0 m pc la sv)) D A tys ad aC nL s pcs S r (j) (ls) (st) (h) := by
  unfold ex1 at H
  unfold okI at hok
  dsimp only at H hok
  split at H
  · next a rest ci ty =>
    simp only [Bool.and_eq_true] at hok
    obtain ⟨⟨h1, h2⟩, h3⟩ := hok
    split at h3
    · next f hf =>
      split at h3
      · next t ht =>
        obtain ⟨C, N9, hc, hl9, hin, -, -⟩ := vwT_facts hf
        have hk9 : k < N9 := by rw [← hl9]; exact nth_lt ht
        have hlk := hts _ (FLl_ok (mem_elem h1))
        split at H
        · next ho9 =>
          have ho := mObj_spec ho9
          split at H
          · exact go_getI hx hb hts hin hown hK hc hf ht hk9 hlk rfl ho (of_decide_eq_true h3) (okD_spec h2) (hN _ _ _ _ H)
          · simp only [Bool.and_eq_true] at h3
            exact go_getL hx hb hts hin hown hK hc hf ht hk9 hlk rfl ho (Nat.eq_of_beq_eq_true h3.1) (okD_spec h2) (hN _ _ _ _ H)
          · simp only [Bool.and_eq_true] at h3
            split at H
            · next l hl =>
              split at H
              · next b hb9 =>
                exact go_getR hx hb hts hin hown hK hc hf ht hk9 hlk rfl ho (Nat.eq_of_beq_eq_true h3.1) (by unfold rfAt; rw [hl]; dsimp only; rw [hb9]) (okD_spec h2) (hN _ _ _ _ H)
              · cases H
            · cases H
          · cases H
        · cases H
      · cases h3
    · cases h3
  · cases H
theorem s1_putfield (hx : p.tables.exec = Jvm.exec) (hb : c.code = cc) (hts : ∀ w ∈ lw_g, w.before args s = true) (hown : s.vm.findClass (RN oc) = some m.cls) (hml : c.maxLocals = nL) (hK : va_K D vwCl tys s) (hR : 1 ≤ Rm.frames ∧ 100 ≤ Rm.locals ∧ cells ≤ Rm.cells ∧ slots ≤ Rm.slots) (hA : Amb ct aC A s s.heap) (hct : ctOk ct) {k : Nat} (hN : ∀ j ls st h, N j ls st h = some res → Go (fun H locs pc la sv => W p l e Rm s m args below meth c H locs cells slots Q (F0 m pc la sv)) D A tys ad aC nL s pcs S r (j) (ls) (st) (h)) (hok : okI id cc pcs ixs oc rk maxL j (.putfield k, nx, lst) = true) (H : ex1 S r ct cl ret N (.putfield k, nx, lst) ls st h = some res) : Go (fun H locs pc la sv => W p l e Rm s m args below meth c H locs cells slots Q (F0 m pc la sv)) D A tys ad aC nL s pcs S r (j) (ls) (st) (h) := by
  unfold ex1 at H
  unfold okI at hok
  dsimp only at H hok
  split at H
  · next ci ty =>
    simp only [Bool.and_eq_true] at hok
    obtain ⟨⟨h1, h2⟩, h3⟩ := hok
    split at h3
    · next f hf =>
      split at h3
      · next t ht =>
        simp only [Bool.and_eq_true, Bool.or_eq_true, beq_iff_eq] at h3
        obtain ⟨C, N9, hc, hl9, hin, ⟨ty0, hty, hty2⟩, hnm⟩ := vwT_facts hf
        have hk9 : k < N9 := by rw [← hl9]; exact nth_lt ht
        have hlk := hts _ (FLl_ok (mem_elem h1))
        have e3 := Nat.eq_of_beq_eq_true h3.1
        have hfin : t ≠ 2 → (vwT ci k).2.2.2 = false := fun q => by
          rcases h3.2 with z | z
          · exact z
          · exact absurd (Nat.eq_of_beq_eq_true z.1.1) q
        split at H
        · subst e3
          split at H
          · split at H
            · next ho9 =>
              have ho := mObj_spec ho9
              exact go_putI hx hb hts hin hown hK hc hf ht hk9 hlk rfl ho ty0 hty hnm (hfin (by decide)) rfl (by have := hty2 _ _ ht; revert this; cases ty0 k <;> simp [tyC]) (okD_spec h2) (hN _ _ _ _ H)
            · cases H
          · cases H
        · subst e3
          split at H
          · split at H
            · next ho9 =>
              have ho := mObj_spec ho9
              exact go_putL hx hb hts hin hown hK hc hf ht hk9 hlk rfl ho ty0 hty hnm (hfin (by decide)) rfl (by have := hty2 _ _ ht; revert this; cases ty0 k <;> simp [tyC]) (okD_spec h2) (hN _ _ _ _ H)
            · cases H
          · cases H
        · subst e3
          split at H
          · split at H
            · next ho9 =>
              have ho := mObj_spec ho9
              split at H
              · next g =>
                exact go_putZ hx hb hts hin hown hK hc hf ht hk9 hlk rfl ho ty0 hty hnm (hfin (by decide)) rfl (by have := hty2 _ _ ht; revert this; cases ty0 k <;> simp [tyC]) g (okD_spec h2) (hN _ _ _ _ H)
              · cases H
            · cases H
          · cases H
        · cases H
      · cases h3
    · cases h3
  · cases H
theorem s1_iaload (hx : p.tables.exec = Jvm.exec) (hb : c.code = cc) (hts : ∀ w ∈ lw_g, w.before args s = true) (hown : s.vm.findClass (RN oc) = some m.cls) (hml : c.maxLocals = nL) (hK : va_K D vwCl tys s) (hR : 1 ≤ Rm.frames ∧ 100 ≤ Rm.locals ∧ cells ≤ Rm.cells ∧ slots ≤ Rm.slots) (hA : Amb ct aC A s s.heap) (hct : ctOk ct)  (hN : ∀ j ls st h, N j ls st h = some res → Go (fun H locs pc la sv => W p l e Rm s m args below meth c H locs cells slots Q (F0 m pc la sv)) D A tys ad aC nL s pcs S r (j) (ls) (st) (h)) (hok : okI id cc pcs ixs oc rk maxL j (.iaload, nx, lst) = true) (H : ex1 S r ct cl ret N (.iaload, nx, lst) ls st h = some res) : Go (fun H locs pc la sv => W p l e Rm s m args below meth c H locs cells slots Q (F0 m pc la sv)) D A tys ad aC nL s pcs S r (j) (ls) (st) (h) := by
  unfold ex1 at H
  unfold okI at hok
  dsimp only at H hok
  simp only [Bool.and_eq_true] at hok
  split at H
  · split at H
    · next n hn =>
      split at H
      · next g => exact go_iaload hx hb hK (mArr_spec hn) g (okD_spec hok.1) (hN _ _ _ _ H)
      · cases H
    · cases H
  · next k0 _ =>
    split at H
    · next hk0 =>
      split at H
      · next g =>
        exact go_cload hx hb (hA.1 _ (Nat.le_add_left _ _) (Nat.succ_le_succ (Nat.le_of_ble_eq_true hk0))) (hct _).1 g (okD_spec hok.1) (hN _ _ _ _ H)
      · cases H
    · cases H
  · cases H
theorem s1_laload (hx : p.tables.exec = Jvm.exec) (hb : c.code = cc) (hts : ∀ w ∈ lw_g, w.before args s = true) (hown : s.vm.findClass (RN oc) = some m.cls) (hml : c.maxLocals = nL) (hK : va_K D vwCl tys s) (hR : 1 ≤ Rm.frames ∧ 100 ≤ Rm.locals ∧ cells ≤ Rm.cells ∧ slots ≤ Rm.slots) (hA : Amb ct aC A s s.heap) (hct : ctOk ct)  (hN : ∀ j ls st h, N j ls st h = some res → Go (fun H locs pc la sv => W p l e Rm s m args below meth c H locs cells slots Q (F0 m pc la sv)) D A tys ad aC nL s pcs S r (j) (ls) (st) (h)) (hok : okI id cc pcs ixs oc rk maxL j (.laload, nx, lst) = true) (H : ex1 S r ct cl ret N (.laload, nx, lst) ls st h = some res) : Go (fun H locs pc la sv => W p l e Rm s m args below meth c H locs cells slots Q (F0 m pc la sv)) D A tys ad aC nL s pcs S r (j) (ls) (st) (h) := by
  unfold ex1 at H
  unfold okI at hok
  dsimp only at H hok
  simp only [Bool.and_eq_true] at hok
  split at H
  · split at H
    · next n hn =>
      split at H
      · next g => exact go_laload hx hb hK (mArr_spec hn) g (okD_spec hok.1) (hN _ _ _ _ H)
      · cases H
    · cases H
  · cases H
theorem s1_baload (hx : p.tables.exec = Jvm.exec) (hb : c.code = cc) (hts : ∀ w ∈ lw_g, w.before args s = true) (hown : s.vm.findClass (RN oc) = some m.cls) (hml : c.maxLocals = nL) (hK : va_K D vwCl tys s) (hR : 1 ≤ Rm.frames ∧ 100 ≤ Rm.locals ∧ cells ≤ Rm.cells ∧ slots ≤ Rm.slots) (hA : Amb ct aC A s s.heap) (hct : ctOk ct)  (hN : ∀ j ls st h, N j ls st h = some res → Go (fun H locs pc la sv => W p l e Rm s m args below meth c H locs cells slots Q (F0 m pc la sv)) D A tys ad aC nL s pcs S r (j) (ls) (st) (h)) (hok : okI id cc pcs ixs oc rk maxL j (.baload, nx, lst) = true) (H : ex1 S r ct cl ret N (.baload, nx, lst) ls st h = some res) : Go (fun H locs pc la sv => W p l e Rm s m args below meth c H locs cells slots Q (F0 m pc la sv)) D A tys ad aC nL s pcs S r (j) (ls) (st) (h) := by
  unfold ex1 at H
  unfold okI at hok
  dsimp only at H hok
  simp only [Bool.and_eq_true] at hok
  split at H
  · split at H
    · next n hn =>
      split at H
      · next g => exact go_baload hx hb hK (mArr_spec hn) g (okD_spec hok.1) (hN _ _ _ _ H)
      · cases H
    · cases H
  · cases H
theorem s1_iastore (hx : p.tables.exec = Jvm.exec) (hb : c.code = cc) (hts : ∀ w ∈ lw_g, w.before args s = true) (hown : s.vm.findClass (RN oc) = some m.cls) (hml : c.maxLocals = nL) (hK : va_K D vwCl tys s) (hR : 1 ≤ Rm.frames ∧ 100 ≤ Rm.locals ∧ cells ≤ Rm.cells ∧ slots ≤ Rm.slots) (hA : Amb ct aC A s s.heap) (hct : ctOk ct)  (hN : ∀ j ls st h, N j ls st h = some res → Go (fun H locs pc la sv => W p l e Rm s m args below meth c H locs cells slots Q (F0 m pc la sv)) D A tys ad aC nL s pcs S r (j) (ls) (st) (h)) (hok : okI id cc pcs ixs oc rk maxL j (.iastore, nx, lst) = true) (H : ex1 S r ct cl ret N (.iastore, nx, lst) ls st h = some res) : Go (fun H locs pc la sv => W p l e Rm s m args below meth c H locs cells slots Q (F0 m pc la sv)) D A tys ad aC nL s pcs S r (j) (ls) (st) (h) := by
  unfold ex1 at H
  unfold okI at hok
  dsimp only at H hok
  simp only [Bool.and_eq_true] at hok
  split at H
  · split at H
    · next n hn =>
      split at H
      · next g => exact go_iastore hx hb hK (mArr_spec hn) g (okD_spec hok.1) (hN _ _ _ _ H)
      · cases H
    · cases H
  · cases H
theorem s1_lastore (hx : p.tables.exec = Jvm.exec) (hb : c.code = cc) (hts : ∀ w ∈ lw_g, w.before args s = true) (hown : s.vm.findClass (RN oc) = some m.cls) (hml : c.maxLocals = nL) (hK : va_K D vwCl tys s) (hR : 1 ≤ Rm.frames ∧ 100 ≤ Rm.locals ∧ cells ≤ Rm.cells ∧ slots ≤ Rm.slots) (hA : Amb ct aC A s s.heap) (hct : ctOk ct)  (hN : ∀ j ls st h, N j ls st h = some res → Go (fun H locs pc la sv => W p l e Rm s m args below meth c H locs cells slots Q (F0 m pc la sv)) D A tys ad aC nL s pcs S r (j) (ls) (st) (h)) (hok : okI id cc pcs ixs oc rk maxL j (.lastore, nx, lst) = true) (H : ex1 S r ct cl ret N (.lastore, nx, lst) ls st h = some res) : Go (fun H locs pc la sv => W p l e Rm s m args below meth c H locs cells slots Q (F0 m pc la sv)) D A tys ad aC nL s pcs S r (j) (ls) (st) (h) := by
  unfold ex1 at H
  unfold okI at hok
  dsimp only at H hok
  simp only [Bool.and_eq_true] at hok
  split at H
  · split at H
    · next n hn =>
      split at H
      · next g => exact go_lastore hx hb hK (mArr_spec hn) g (okD_spec hok.1) (hN _ _ _ _ H)
      · cases H
    · cases H
  · cases H
theorem s1_bastore (hx : p.tables.exec = Jvm.exec) (hb : c.code = cc) (hts : ∀ w ∈ lw_g, w.before args s = true) (hown : s.vm.findClass (RN oc) = some m.cls) (hml : c.maxLocals = nL) (hK : va_K D vwCl tys s) (hR : 1 ≤ Rm.frames ∧ 100 ≤ Rm.locals ∧ cells ≤ Rm.cells ∧ slots ≤ Rm.slots) (hA : Amb ct aC A s s.heap) (hct : ctOk ct)  (hN : ∀ j ls st h, N j ls st h = some res → Go (fun H locs pc la sv => W p l e Rm s m args below meth c H locs cells slots Q (F0 m pc la sv)) D A tys ad aC nL s pcs S r (j) (ls) (st) (h)) (hok : okI id cc pcs ixs oc rk maxL j (.bastore, nx, lst) = true) (H : ex1 S r ct cl ret N (.bastore, nx, lst) ls st h = some res) : Go (fun H locs pc la sv => W p l e Rm s m args below meth c H locs cells slots Q (F0 m pc la sv)) D A tys ad aC nL s pcs S r (j) (ls) (st) (h) := by
  unfold ex1 at H
  unfold okI at hok
  dsimp only at H hok
  simp only [Bool.and_eq_true] at hok
  split at H
  · split at H
    · next n hn =>
      split at H
      · next g =>
        split at H
        · next g2 => exact go_bastore hx hb hK (mArr_spec hn) g g2 (okD_spec hok.1) (hN _ _ _ _ H)
        · cases H
      · cases H
    · cases H
  · cases H
theorem s1_dadd (hx : p.tables.exec = Jvm.exec) (hb : c.code = cc) (hts : ∀ w ∈ lw_g, w.before args s = true) (hown : s.vm.findClass (RN oc) = some m.cls) (hml : c.maxLocals = nL) (hK : va_K D vwCl tys s) (hR : 1 ≤ Rm.frames ∧ 100 ≤ Rm.locals ∧ cells ≤ Rm.cells ∧ slots ≤ Rm.slots) (hA : Amb ct aC A s s.heap) (hct : ctOk ct)  (hN : ∀ j ls st h, N j ls st h = some res → Go (fun H locs pc la sv => W p l e Rm s m args below meth c H locs cells slots Q (F0 m pc la sv)) D A tys ad aC nL s pcs S r (j) (ls) (st) (h)) (hok : okI id cc pcs ixs oc rk maxL j (.dadd, nx, lst) = true) (H : ex1 S r ct cl ret N (.dadd, nx, lst) ls st h = some res) : Go (fun H locs pc la sv => W p l e Rm s m args below meth c H locs cells slots Q (F0 m pc la sv)) D A tys ad aC nL s pcs S r (j) (ls) (st) (h) := by
  unfold ex1 at H
  unfold okI at hok
  dsimp only at H hok
  simp only [Bool.and_eq_true] at hok
  split at H
  · obtain ⟨w8, H⟩ := few_spec H
    exact go_max hx hb hown (hts _ (JMl_ok (mem_elem hok.1))) (hts _ mathS_0) (hts _ mathI) (hts _ mathC_0) hml hR w8 (okD_spec hok.2) (hN _ _ _ _ H)
  · cases H
theorem s1_dsub (hx : p.tables.exec = Jvm.exec) (hb : c.code = cc) (hts : ∀ w ∈ lw_g, w.before args s = true) (hown : s.vm.findClass (RN oc) = some m.cls) (hml : c.maxLocals = nL) (hK : va_K D vwCl tys s) (hR : 1 ≤ Rm.frames ∧ 100 ≤ Rm.locals ∧ cells ≤ Rm.cells ∧ slots ≤ Rm.slots) (hA : Amb ct aC A s s.heap) (hct : ctOk ct)  (hN : ∀ j ls st h, N j ls st h = some res → Go (fun H locs pc la sv => W p l e Rm s m args below meth c H locs cells slots Q (F0 m pc la sv)) D A tys ad aC nL s pcs S r (j) (ls) (st) (h)) (hok : okI id cc pcs ixs oc rk maxL j (.dsub, nx, lst) = true) (H : ex1 S r ct cl ret N (.dsub, nx, lst) ls st h = some res) : Go (fun H locs pc la sv => W p l e Rm s m args below meth c H locs cells slots Q (F0 m pc la sv)) D A tys ad aC nL s pcs S r (j) (ls) (st) (h) := by
  unfold ex1 at H
  unfold okI at hok
  dsimp only at H hok
  simp only [Bool.and_eq_true] at hok
  split at H
  · obtain ⟨w8, H⟩ := few_spec H
    exact go_min hx hb hown (hts _ (JMl_ok (mem_elem hok.1))) (hts _ mathS_1) (hts _ mathI) (hts _ mathC_1) hml hR w8 (okD_spec hok.2) (hN _ _ _ _ H)
  · cases H
theorem s1_dmul (hx : p.tables.exec = Jvm.exec) (hb : c.code = cc) (hts : ∀ w ∈ lw_g, w.before args s = true) (hown : s.vm.findClass (RN oc) = some m.cls) (hml : c.maxLocals = nL) (hK : va_K D vwCl tys s) (hR : 1 ≤ Rm.frames ∧ 100 ≤ Rm.locals ∧ cells ≤ Rm.cells ∧ slots ≤ Rm.slots) (hA : Amb ct aC A s s.heap) (hct : ctOk ct)  (hN : ∀ j ls st h, N j ls st h = some res → Go (fun H locs pc la sv => W p l e Rm s m args below meth c H locs cells slots Q (F0 m pc la sv)) D A tys ad aC nL s pcs S r (j) (ls) (st) (h)) (hok : okI id cc pcs ixs oc rk maxL j (.dmul, nx, lst) = true) (H : ex1 S r ct cl ret N (.dmul, nx, lst) ls st h = some res) : Go (fun H locs pc la sv => W p l e Rm s m args below meth c H locs cells slots Q (F0 m pc la sv)) D A tys ad aC nL s pcs S r (j) (ls) (st) (h) := by
  unfold ex1 at H
  unfold okI at hok
  dsimp only at H hok
  simp only [Bool.and_eq_true] at hok
  split at H
  · obtain ⟨w8, H⟩ := few_spec H
    exact go_maxL hx hb hown (hts _ (JMl_ok (mem_elem hok.1))) (hts _ mathS_3) (hts _ mathI) (hts _ mathC_3) hml hR w8 (okD_spec hok.2) (hN _ _ _ _ H)
  · cases H
theorem s1_dneg (hx : p.tables.exec = Jvm.exec) (hb : c.code = cc) (hts : ∀ w ∈ lw_g, w.before args s = true) (hown : s.vm.findClass (RN oc) = some m.cls) (hml : c.maxLocals = nL) (hK : va_K D vwCl tys s) (hR : 1 ≤ Rm.frames ∧ 100 ≤ Rm.locals ∧ cells ≤ Rm.cells ∧ slots ≤ Rm.slots) (hA : Amb ct aC A s s.heap) (hct : ctOk ct)  (hN : ∀ j ls st h, N j ls st h = some res → Go (fun H locs pc la sv => W p l e Rm s m args below meth c H locs cells slots Q (F0 m pc la sv)) D A tys ad aC nL s pcs S r (j) (ls) (st) (h)) (hok : okI id cc pcs ixs oc rk maxL j (.dneg, nx, lst) = true) (H : ex1 S r ct cl ret N (.dneg, nx, lst) ls st h = some res) : Go (fun H locs pc la sv => W p l e Rm s m args below meth c H locs cells slots Q (F0 m pc la sv)) D A tys ad aC nL s pcs S r (j) (ls) (st) (h) := by
  unfold ex1 at H
  unfold okI at hok
  dsimp only at H hok
  simp only [Bool.and_eq_true] at hok
  split at H
  · obtain ⟨w8, H⟩ := few_spec H
    split at H
    · next g => exact go_abs hx hb hown (hts _ (JMl_ok (mem_elem hok.1))) (hts _ mathS_2) (hts _ mathI) (hts _ mathC_2) hml hR w8 g (okD_spec hok.2) (hN _ _ _ _ H)
    · cases H
  · cases H
end
end
section
theorem sysN : Cond.native arraycopyName ∈ lw_g := mem_g (by decide +kernel) rfl
theorem sysS : Cond.static arraycopyName ∈ lw_g := mem_g (by decide +kernel) rfl
theorem sysI : Cond.initialized "java/lang/System" ∈ lw_g := mem_g (by decide +kernel) rfl
/-! SIM 5: switches, rows of references, copies, texts; one small instruction as a whole -/
theorem pSw_spec {ρ : Type} {x : Int} {N : Nat → Option ρ} {d : Nat} {r : ρ} : ∀ {ts : List Nat} {lo : Int}, pSw x N d lo ts = some r → (∃ q t, nth ts q = some t ∧ x = lo + (q : Int) ∧ N t = some r) ∨ ((x < lo ∨ lo + (ts.length : Int) ≤ x) ∧ N d = some r)
  | [], lo, h => Or.inr ⟨by simp only [List.length_nil]; omega, h⟩
  | t :: ts, lo, h => by
    unfold pSw at h
    split at h
    · next e => exact Or.inl ⟨0, t, rfl, by omega, h⟩
    · next e =>
      rcases pSw_spec h with ⟨q, t', h1, h2, h3⟩ | ⟨h1, h2⟩
      · exact Or.inl ⟨q + 1, t', h1, by omega, h3⟩
      · exact Or.inr ⟨by simp only [List.length_cons]; omega, h2⟩
theorem all_nth {l : List Nat} {f : Nat → Bool} (h : l.all f = true) {q t : Nat} (ht : nth l q = some t) : f t = true := List.all_eq_true.mp h _ (nth_mem ht)
theorem k56 {k : Nat} (h : (Nat.ble 4 k).and (Nat.ble k 5) = true) : k + 1 = 5 ∨ k + 1 = 6 := by
  rw [Bool.and_eq_true] at h
  have h1 := Nat.le_of_ble_eq_true h.1
  have h2 := Nat.le_of_ble_eq_true h.2
  omega
section
variable {p : Program} {l : Launch} {e : Env} {Rm : Room} {s : State} {m : MethodId} {args : Array Value} {below : List Frame} {meth : Method} {c : Code} {cc : ByteArray} {D : va_G} {A : Nat → Prop} {tys : List (ClassId × FieldType)} {ad aC : Nat → Nat} {nL cells slots : Nat} {Q : State → Prop} {pcs : List Nat} {S : mSh} {r : mRf} {j nx : Nat} {ls st : List mv} {h : mM} {id oc rk maxL : Nat} {ixs lst : List Nat} {ct : Nat → List Int} {cl : Nat → Nat → List mv → mM → Option (List mv × mM)} {ρ : Type} {ret : List mv → mM → Option ρ} {N : Nat → List mv → List mv → mM → Option ρ} {res : ρ}
theorem go_table (hx : p.tables.exec = Jvm.exec) (hb : c.code = cc) {x lo : Int} {d len : Nat} {ts : List Nat} (hlo : inI lo) (hhi : inI (lo + (ts.length : Int))) (hhd : has pcs d = true) (hht : ts.all (has pcs) = true) (hd : Dc cc pcs j (.tableswitch (offT pcs j d) lo (lo + (ts.length : Int) - 1) (ts.map (offT pcs j)).toArray) len nx) (kd : (x < lo ∨ lo + (ts.length : Int) ≤ x) → Go (fun H locs pc la sv => W p l e Rm s m args below meth c H locs cells slots Q (F0 m pc la sv)) D A tys ad aC nL s pcs S r (d) (ls) (st) (h)) (kt : ∀ q t, nth ts q = some t → x = lo + (q : Int) → Go (fun H locs pc la sv => W p l e Rm s m args below meth c H locs cells slots Q (F0 m pc la sv)) D A tys ad aC nL s pcs S r (t) (ls) (st) (h)) : Go (fun H locs pc la sv => W p l e Rm s m args below meth c H locs cells slots Q (F0 m pc la sv)) D A tys ad aC nL s pcs S r (j) (ls) (mI x :: st) (h) := by
  intro ws H locs la pc hpc hL hl hs hm hw hP hD hS hv
  obtain ⟨pc0, h1, hdg, h2⟩ := hd
  cases hpc.symm.trans h1
  have hs9 : ∀ v ∈ st, vOk S.length v := fun v9 hv9 => hs _ (List.mem_cons_of_mem _ hv9)
  have hx9 : inI x := hs _ List.mem_cons_self
  by_cases hin : x < lo ∨ lo + (ts.length : Int) ≤ x
  · refine lv_tableOut hx hb hdg ?_ (offT_spec _ hpc) (kd hin ws H locs la _ (has_spec hhd) hL hl hs9 hm hw hP hD hS hv)
    rw [i32_of hx9]
    omega
  · obtain ⟨q, hq⟩ : ∃ q : Nat, x = lo + (q : Int) := ⟨(x - lo).toNat, by omega⟩
    have hql : q < ts.length := by omega
    obtain ⟨t, ht⟩ : ∃ t, nth ts q = some t := ⟨ts[q], by rw [nth_get]; exact List.getElem?_eq_getElem hql⟩
    refine lv_tableIn hx hb hdg (off := offT pcs j t) (by rw [i32_of hx9]; omega) (by rw [i32_of hx9]; omega) ?_ (offT_spec _ hpc) (kt q t ht hq ws H locs la _ (has_spec (all_nth hht ht)) hL hl hs9 hm hw hP hD hS hv)
    rw [i32_of hx9, show (x - lo).toNat = q by omega]
    rw [List.getElem?_toArray, List.getElem?_map, ← nth_get, ht]
    rfl
theorem s1_table (hx : p.tables.exec = Jvm.exec) (hb : c.code = cc) (hts : ∀ w ∈ lw_g, w.before args s = true) (hown : s.vm.findClass (RN oc) = some m.cls) (hml : c.maxLocals = nL) (hK : va_K D vwCl tys s) (hR : 1 ≤ Rm.frames ∧ 100 ≤ Rm.locals ∧ cells ≤ Rm.cells ∧ slots ≤ Rm.slots) (hA : Amb ct aC A s s.heap) (hct : ctOk ct) {lo d0 h0 : Int} {o0 : Array Int} (hN : ∀ j ls st h, N j ls st h = some res → Go (fun H locs pc la sv => W p l e Rm s m args below meth c H locs cells slots Q (F0 m pc la sv)) D A tys ad aC nL s pcs S r (j) (ls) (st) (h)) (hok : okI id cc pcs ixs oc rk maxL j (.tableswitch d0 lo h0 o0, nx, lst) = true) (H : ex1 S r ct cl ret N (.tableswitch d0 lo h0 o0, nx, lst) ls st h = some res) : Go (fun H locs pc la sv => W p l e Rm s m args below meth c H locs cells slots Q (F0 m pc la sv)) D A tys ad aC nL s pcs S r (j) (ls) (st) (h) := by
  unfold ex1 at H
  unfold okI at hok
  dsimp only at H hok
  split at H
  · next x rest d ts =>
    simp only [Bool.and_eq_true, decide_eq_true_eq] at hok
    obtain ⟨⟨⟨⟨h1, h2⟩, h3⟩, h4⟩, h5⟩ := hok
    refine go_table hx hb h3 h4 h1 h2 (okD_spec h5) (fun q => ?_) (fun q t ht hq => ?_)
    · rcases pSw_spec H with ⟨q', t', g1, g2, g3⟩ | ⟨g1, g2⟩
      · exfalso
        have := nth_lt g1
        omega
      · exact hN _ _ _ _ g2
    · rcases pSw_spec H with ⟨q', t', g1, g2, g3⟩ | ⟨g1, g2⟩
      · have e : q' = q := by omega
        subst e
        rw [ht] at g1
        cases g1
        exact hN _ _ _ _ g3
      · exfalso
        have := nth_lt ht
        omega
  · cases H
theorem go_lookup2 (hx : p.tables.exec = Jvm.exec) (hb : c.code = cc) {x : Int} {d k1 t1 k2 t2 len : Nat} (hk1 : k1 < k2) (hk2 : k2 < 1000) (h1d : has pcs d = true) (h1t : has pcs t1 = true) (h2t : has pcs t2 = true) (hd : Dc cc pcs j (.lookupswitch (offT pcs j d) #[((k1 : Int), offT pcs j t1), ((k2 : Int), offT pcs j t2)]) len nx) (kd : x ≠ (k1 : Int) → x ≠ (k2 : Int) → Go (fun H locs pc la sv => W p l e Rm s m args below meth c H locs cells slots Q (F0 m pc la sv)) D A tys ad aC nL s pcs S r (d) (ls) (st) (h)) (ka : x = (k1 : Int) → Go (fun H locs pc la sv => W p l e Rm s m args below meth c H locs cells slots Q (F0 m pc la sv)) D A tys ad aC nL s pcs S r (t1) (ls) (st) (h)) (kb : x ≠ (k1 : Int) → x = (k2 : Int) → Go (fun H locs pc la sv => W p l e Rm s m args below meth c H locs cells slots Q (F0 m pc la sv)) D A tys ad aC nL s pcs S r (t2) (ls) (st) (h)) : Go (fun H locs pc la sv => W p l e Rm s m args below meth c H locs cells slots Q (F0 m pc la sv)) D A tys ad aC nL s pcs S r (j) (ls) (mI x :: st) (h) := by
  intro ws H locs la pc hpc hL hl hs hm hw hP hD hS hv
  obtain ⟨pc0, h1, hdg, h2⟩ := hd
  cases hpc.symm.trans h1
  have hs9 : ∀ v ∈ st, vOk S.length v := fun v9 hv9 => hs _ (List.mem_cons_of_mem _ hv9)
  have hx9 : inI x := hs _ List.mem_cons_self
  have hp9 : (((#[((k1 : Int), offT pcs j t1), ((k2 : Int), offT pcs j t2)] : Array (Int × Int)).toList.zip ((#[((k1 : Int), offT pcs j t1), ((k2 : Int), offT pcs j t2)] : Array (Int × Int)).toList.drop 1)).all (fun (a, next) => a.1 < next.1)) = true := by
    simp
    omega
  by_cases e1 : x = (k1 : Int)
  · exact lv_lookup hx hb hdg hp9 (off := offT pcs j t1) (by rw [i32_of hx9]; simp [Op.lookupswitch.offset_cons, e1]) (offT_spec _ hpc) (ka e1 ws H locs la _ (has_spec h1t) hL hl hs9 hm hw hP hD hS hv)
  · by_cases e2 : x = (k2 : Int)
    · exact lv_lookup hx hb hdg hp9 (off := offT pcs j t2) (by rw [i32_of hx9]; simp only [Op.lookupswitch.offset_cons]; rw [if_neg (fun q => e1 q.symm), if_pos e2.symm]) (offT_spec _ hpc) (kb e1 e2 ws H locs la _ (has_spec h2t) hL hl hs9 hm hw hP hD hS hv)
    · exact lv_lookup hx hb hdg hp9 (off := offT pcs j d) (by rw [i32_of hx9]; simp only [Op.lookupswitch.offset_cons]; rw [if_neg (fun q => e1 q.symm), if_neg (fun q => e2 q.symm)]; rfl) (offT_spec _ hpc) (kd e1 e2 ws H locs la _ (has_spec h1d) hL hl hs9 hm hw hP hD hS hv)
theorem s1_lookup (hx : p.tables.exec = Jvm.exec) (hb : c.code = cc) (hts : ∀ w ∈ lw_g, w.before args s = true) (hown : s.vm.findClass (RN oc) = some m.cls) (hml : c.maxLocals = nL) (hK : va_K D vwCl tys s) (hR : 1 ≤ Rm.frames ∧ 100 ≤ Rm.locals ∧ cells ≤ Rm.cells ∧ slots ≤ Rm.slots) (hA : Amb ct aC A s s.heap) (hct : ctOk ct) {d0 : Int} {o0 : Array (Int × Int)} (hN : ∀ j ls st h, N j ls st h = some res → Go (fun H locs pc la sv => W p l e Rm s m args below meth c H locs cells slots Q (F0 m pc la sv)) D A tys ad aC nL s pcs S r (j) (ls) (st) (h)) (hok : okI id cc pcs ixs oc rk maxL j (.lookupswitch d0 o0, nx, lst) = true) (H : ex1 S r ct cl ret N (.lookupswitch d0 o0, nx, lst) ls st h = some res) : Go (fun H locs pc la sv => W p l e Rm s m args below meth c H locs cells slots Q (F0 m pc la sv)) D A tys ad aC nL s pcs S r (j) (ls) (st) (h) := by
  unfold ex1 at H
  unfold okI at hok
  dsimp only at H hok
  split at hok
  · next d k1 t1 k2 t2 =>
    split at H
    · next x rest d' ts' heq =>
      cases heq
      simp only [Bool.and_eq_true, Nat.blt_eq] at hok
      obtain ⟨⟨⟨⟨⟨h1, h2⟩, h3⟩, h4⟩, h5⟩, h6⟩ := hok
      simp only [pLk] at H
      exact go_lookup2 hx hb h4 h5 h1 h2 h3 (okD_spec h6) (fun q1 q2 => hN _ _ _ _ (by rw [if_neg q1, if_neg q2] at H; exact H)) (fun q1 => hN _ _ _ _ (by rw [if_pos q1] at H; exact H)) (fun q1 q2 => hN _ _ _ _ (by rw [if_neg q1, if_pos q2] at H; exact H))
    · cases H
  · cases hok
theorem go_aaloadJ (hx : p.tables.exec = Jvm.exec) (hb : c.code = cc) {x : Int} {a n b : Nat} (hK : va_K D vwCl tys s) (ho : nth S a = some (.inr (3, n))) (hb0 : rfAt r a x.toNat = some b) (g : inA x n) (hd : Dc cc pcs j .aaload 1 nx) (k : Go (fun H locs pc la sv => W p l e Rm s m args below meth c H locs cells slots Q (F0 m pc la sv)) D A tys ad aC nL s pcs S r (nx) (ls) (mR b :: st) (h)) : Go (fun H locs pc la sv => W p l e Rm s m args below meth c H locs cells slots Q (F0 m pc la sv)) D A tys ad aC nL s pcs S r (j) (ls) (mI x :: mR a :: st) (h) := by
  intro ws H locs la pc hpc hL hl hs hm hw hP hD hS hv
  obtain ⟨pc0, h1, hdg, h2⟩ := hd
  cases hpc.symm.trans h1
  obtain ⟨cA, t0, g1, g2, g3⟩ := hw.2.2.1 a _ _ ho
  obtain ⟨i1, i2⟩ := inA_in (hs _ List.mem_cons_self) g
  have k9 := k ws H locs la _ h2 hL hl (fun v9 hv9 => by rcases List.mem_cons.mp hv9 with rfl | hv9; exact (hw.2.2.2 a _ b hb0); exact hs _ (List.mem_cons_of_mem _ (List.mem_cons_of_mem _ hv9))) hm hw hP hD hS hv
  have hlt : (Int32.ofInt x).toNatClampNeg < n := Nat.not_le.mp fun q => i1 (Or.inr q)
  refine W.aald (v := .ref (ad b)) (ty := .array .long) hx hb (hP a _ g3) ((hK.2 t0 _ g1).1 n (fun j => va_rf ((rfAt r a j).map ad))) rfl (fun q => by cases q) (by show ¬ (_ ∨ (arrV _ _ _).slots.size ≤ _); rw [arrV_size]; exact i1) ?_ rfl rfl hdg k9
  show (arrV _ _ (fun j => va_rf ((rfAt r a j).map ad))).slots[_]? = _
  rw [arrV_read _ _ hlt, i2, hb0]
  rfl
theorem s1_aaload (hx : p.tables.exec = Jvm.exec) (hb : c.code = cc) (hts : ∀ w ∈ lw_g, w.before args s = true) (hown : s.vm.findClass (RN oc) = some m.cls) (hml : c.maxLocals = nL) (hK : va_K D vwCl tys s) (hR : 1 ≤ Rm.frames ∧ 100 ≤ Rm.locals ∧ cells ≤ Rm.cells ∧ slots ≤ Rm.slots) (hA : Amb ct aC A s s.heap) (hct : ctOk ct)  (hN : ∀ j ls st h, N j ls st h = some res → Go (fun H locs pc la sv => W p l e Rm s m args below meth c H locs cells slots Q (F0 m pc la sv)) D A tys ad aC nL s pcs S r (j) (ls) (st) (h)) (hok : okI id cc pcs ixs oc rk maxL j (.aaload, nx, lst) = true) (H : ex1 S r ct cl ret N (.aaload, nx, lst) ls st h = some res) : Go (fun H locs pc la sv => W p l e Rm s m args below meth c H locs cells slots Q (F0 m pc la sv)) D A tys ad aC nL s pcs S r (j) (ls) (st) (h) := by
  unfold ex1 at H
  unfold okI at hok
  dsimp only at H hok
  split at H
  · next x a rest ty =>
    simp only [Bool.and_eq_true, Nat.blt_eq] at hok
    obtain ⟨⟨h1, h2⟩, h3⟩ := hok
    split at H
    · next n hn =>
      split at H
      · next l hl =>
        split at H
        · next b hb9 =>
          split at H
          · next g =>
            have hb1 : rfAt r a x.toNat = some b := by unfold rfAt; rw [hl]; dsimp only; rw [hb9]
            by_cases e3 : ty = 3
            · subst e3
              exact go_aaloadJ hx hb hK (mArr_spec hn) hb1 g (okD_spec h1) (hN _ _ _ _ H)
            · have e4 : aty ty = .object (cnm (ty - 10)) := by
                unfold aty
                split <;> first | omega | rfl
              exact go_aaload hx hb hK e4 (by omega) (mArr_spec hn) hb1 g (okD_spec h1) (hN _ _ _ _ H)
          · cases H
        · cases H
      · cases H
    · cases H
  · cases H
theorem s1_arraylength (hx : p.tables.exec = Jvm.exec) (hb : c.code = cc) (hts : ∀ w ∈ lw_g, w.before args s = true) (hown : s.vm.findClass (RN oc) = some m.cls) (hml : c.maxLocals = nL) (hK : va_K D vwCl tys s) (hR : 1 ≤ Rm.frames ∧ 100 ≤ Rm.locals ∧ cells ≤ Rm.cells ∧ slots ≤ Rm.slots) (hA : Amb ct aC A s s.heap) (hct : ctOk ct) (hLen : ∀ {j nx i k0 : Nat} {ls st : List mv} {h : mM}, (k0 = 5 ∨ k0 = 6) → (oc, i, 1) ∈ CHl → wds st ≤ 8 → Dc cc pcs j (.invokevirtual i) 3 nx → Go (fun H locs pc la sv => W p l e Rm s m args below meth c H locs cells slots Q (F0 m pc la sv)) D A tys ad aC nL s pcs S r (nx) (ls) (mI ((ct k0).length : Int) :: st) (h) → Go (fun H locs pc la sv => W p l e Rm s m args below meth c H locs cells slots Q (F0 m pc la sv)) D A tys ad aC nL s pcs S r (j) (ls) (mC k0 :: st) (h)) (hChr : ∀ {j nx i k0 : Nat} {x : Int} {ls st : List mv} {h : mM}, (k0 = 5 ∨ k0 = 6) → (oc, i, 0) ∈ CHl → wds st ≤ 8 → inA x (ct k0).length → Dc cc pcs j (.invokevirtual i) 3 nx → Go (fun H locs pc la sv => W p l e Rm s m args below meth c H locs cells slots Q (F0 m pc la sv)) D A tys ad aC nL s pcs S r (nx) (ls) (mI ((nth (ct k0) x.toNat).getD 0) :: st) (h) → Go (fun H locs pc la sv => W p l e Rm s m args below meth c H locs cells slots Q (F0 m pc la sv)) D A tys ad aC nL s pcs S r (j) (ls) (mI x :: mC k0 :: st) (h)) (hN : ∀ j ls st h, N j ls st h = some res → Go (fun H locs pc la sv => W p l e Rm s m args below meth c H locs cells slots Q (F0 m pc la sv)) D A tys ad aC nL s pcs S r (j) (ls) (st) (h)) (hok : okI id cc pcs ixs oc rk maxL j (.arraylength, nx, lst) = true) (H : ex1 S r ct cl ret N (.arraylength, nx, lst) ls st h = some res) : Go (fun H locs pc la sv => W p l e Rm s m args below meth c H locs cells slots Q (F0 m pc la sv)) D A tys ad aC nL s pcs S r (j) (ls) (st) (h) := by
  unfold ex1 at H
  unfold okI at hok
  dsimp only at H hok
  split at hok
  · split at H
    · next k0 rest t heq =>
      cases heq
      split at H
      · split at H
        · next hk0 =>
          obtain ⟨w8, H⟩ := few_spec H
          exact go_clen hx hb (hA.1 _ (Nat.le_add_left _ _) (Nat.succ_le_succ (Nat.le_of_ble_eq_true hk0))) (hct _).2 (okD_spec hok) (hN _ _ _ _ H)
        · cases H
      · next q => exact absurd rfl q
    · cases H
  · split at H
    · next k0 rest t heq =>
      cases heq
      split at H
      · next q => cases q
      · split at H
        · next hk0 =>
          obtain ⟨w8, H⟩ := few_spec H
          rw [Bool.and_eq_true] at hok
          exact hLen (k56 hk0) (mem_elem hok.1) w8 (okD_spec hok.2) (hN _ _ _ _ H)
        · cases H
    · cases H
  · cases hok
theorem s1_caload (hx : p.tables.exec = Jvm.exec) (hb : c.code = cc) (hts : ∀ w ∈ lw_g, w.before args s = true) (hown : s.vm.findClass (RN oc) = some m.cls) (hml : c.maxLocals = nL) (hK : va_K D vwCl tys s) (hR : 1 ≤ Rm.frames ∧ 100 ≤ Rm.locals ∧ cells ≤ Rm.cells ∧ slots ≤ Rm.slots) (hA : Amb ct aC A s s.heap) (hct : ctOk ct) (hLen : ∀ {j nx i k0 : Nat} {ls st : List mv} {h : mM}, (k0 = 5 ∨ k0 = 6) → (oc, i, 1) ∈ CHl → wds st ≤ 8 → Dc cc pcs j (.invokevirtual i) 3 nx → Go (fun H locs pc la sv => W p l e Rm s m args below meth c H locs cells slots Q (F0 m pc la sv)) D A tys ad aC nL s pcs S r (nx) (ls) (mI ((ct k0).length : Int) :: st) (h) → Go (fun H locs pc la sv => W p l e Rm s m args below meth c H locs cells slots Q (F0 m pc la sv)) D A tys ad aC nL s pcs S r (j) (ls) (mC k0 :: st) (h)) (hChr : ∀ {j nx i k0 : Nat} {x : Int} {ls st : List mv} {h : mM}, (k0 = 5 ∨ k0 = 6) → (oc, i, 0) ∈ CHl → wds st ≤ 8 → inA x (ct k0).length → Dc cc pcs j (.invokevirtual i) 3 nx → Go (fun H locs pc la sv => W p l e Rm s m args below meth c H locs cells slots Q (F0 m pc la sv)) D A tys ad aC nL s pcs S r (nx) (ls) (mI ((nth (ct k0) x.toNat).getD 0) :: st) (h) → Go (fun H locs pc la sv => W p l e Rm s m args below meth c H locs cells slots Q (F0 m pc la sv)) D A tys ad aC nL s pcs S r (j) (ls) (mI x :: mC k0 :: st) (h)) (hN : ∀ j ls st h, N j ls st h = some res → Go (fun H locs pc la sv => W p l e Rm s m args below meth c H locs cells slots Q (F0 m pc la sv)) D A tys ad aC nL s pcs S r (j) (ls) (st) (h)) (hok : okI id cc pcs ixs oc rk maxL j (.caload, nx, lst) = true) (H : ex1 S r ct cl ret N (.caload, nx, lst) ls st h = some res) : Go (fun H locs pc la sv => W p l e Rm s m args below meth c H locs cells slots Q (F0 m pc la sv)) D A tys ad aC nL s pcs S r (j) (ls) (st) (h) := by
  unfold ex1 at H
  unfold okI at hok
  dsimp only at H hok
  simp only [Bool.and_eq_true] at hok
  split at H
  · next x k0 rest =>
    split at H
    · next hk0 =>
      obtain ⟨w8, H⟩ := few_spec H
      split at H
      · next g => exact hChr (k56 hk0) (mem_elem hok.1) w8 g (okD_spec hok.2) (hN _ _ _ _ H)
      · cases H
    · cases H
  · cases H
theorem s1_swap (hx : p.tables.exec = Jvm.exec) (hb : c.code = cc) (hts : ∀ w ∈ lw_g, w.before args s = true) (hown : s.vm.findClass (RN oc) = some m.cls) (hml : c.maxLocals = nL) (hK : va_K D vwCl tys s) (hR : 1 ≤ Rm.frames ∧ 100 ≤ Rm.locals ∧ cells ≤ Rm.cells ∧ slots ≤ Rm.slots) (hA : Amb ct aC A s s.heap) (hct : ctOk ct)  (hN : ∀ j ls st h, N j ls st h = some res → Go (fun H locs pc la sv => W p l e Rm s m args below meth c H locs cells slots Q (F0 m pc la sv)) D A tys ad aC nL s pcs S r (j) (ls) (st) (h)) (hok : okI id cc pcs ixs oc rk maxL j (.swap, nx, lst) = true) (H : ex1 S r ct cl ret N (.swap, nx, lst) ls st h = some res) : Go (fun H locs pc la sv => W p l e Rm s m args below meth c H locs cells slots Q (F0 m pc la sv)) D A tys ad aC nL s pcs S r (j) (ls) (st) (h) := by
  unfold ex1 at H
  unfold okI at hok
  dsimp only at H hok
  split at H
  · next n y b x a rest ty =>
    simp only [Bool.and_eq_true] at hok
    obtain ⟨⟨h1, h2⟩, h3⟩ := hok
    split at H
    · next na hna =>
      split at H
      · next nb hnb =>
        obtain ⟨w8, H⟩ := few_spec H
        split at H
        · next g =>
          split at h3
          · next q => cases q; exact go_copyI hx hb hown (hts _ (JMl_ok (mem_elem h1))) (hts _ sysN) (hts _ sysS) (hts _ sysI) hml hK hR w8 (mArr_spec hna) (mArr_spec hnb) g (okD_spec h2) (hN _ _ _ _ H)
          · next q => cases q; exact go_copyL hx hb hown (hts _ (JMl_ok (mem_elem h1))) (hts _ sysN) (hts _ sysS) (hts _ sysI) hml hK hR w8 (mArr_spec hna) (mArr_spec hnb) g (okD_spec h2) (hN _ _ _ _ H)
          · cases h3
        · cases H
      · cases H
    · cases H
  · next n y b x k0 rest _ =>
    simp only [Bool.and_eq_true] at hok
    obtain ⟨⟨h1, h2⟩, h3⟩ := hok
    split at H
    · next hk0 =>
      split at H
      · next nb hnb =>
        obtain ⟨w8, H⟩ := few_spec H
        split at H
        · next g => exact go_copyC hx hb hown (hts _ (JMl_ok (mem_elem h1))) (hts _ sysN) (hts _ sysS) (hts _ sysI) hml hK hR w8 (hA.1 _ (Nat.le_add_left _ _) (Nat.succ_le_succ (Nat.le_of_ble_eq_true hk0))) (hct _).1 (mArr_spec hnb) g (okD_spec h2) (hN _ _ _ _ H)
        · cases H
      · cases H
    · cases H
  · cases H
end
end
section
/-! SIM 6: one small instruction as a whole -/
section
variable {p : Program} {l : Launch} {e : Env} {Rm : Room} {s : State} {m : MethodId} {args : Array Value} {below : List Frame} {meth : Method} {c : Code} {cc : ByteArray} {D : va_G} {A : Nat → Prop} {tys : List (ClassId × FieldType)} {ad aC : Nat → Nat} {nL cells slots : Nat} {Q : State → Prop} {pcs : List Nat} {S : mSh} {r : mRf} {j nx : Nat} {ls st : List mv} {h : mM} {id oc rk maxL : Nat} {ixs lst : List Nat} {ct : Nat → List Int} {cl : Nat → Nat → List mv → mM → Option (List mv × mM)} {ρ : Type} {ret : List mv → mM → Option ρ} {N : Nat → List mv → List mv → mM → Option ρ} {res : ρ}
theorem s1_ireturn (hret : ∀ v h, ret v h = some res → RT cc pcs id j v → Go (fun H locs pc la sv => W p l e Rm s m args below meth c H locs cells slots Q (F0 m pc la sv)) D A tys ad aC nL s pcs S r (j) (ls) (v) (h)) (hok : okI id cc pcs ixs oc rk maxL j (.ireturn, nx, lst) = true) (H : ex1 S r ct cl ret N (.ireturn, nx, lst) ls st h = some res) : Go (fun H locs pc la sv => W p l e Rm s m args below meth c H locs cells slots Q (F0 m pc la sv)) D A tys ad aC nL s pcs S r (j) (ls) (st) (h) := by
  unfold ex1 at H
  unfold okI at hok
  dsimp only at H hok
  rw [Bool.and_eq_true] at hok
  obtain ⟨h1, h2⟩ := hok
  split at h2
  · next q =>
    split at H
    · next x ty heq =>
      cases heq
      split at H
      · exact hret _ _ H (Or.inr (Or.inl ⟨x, rfl, okE_spec h1, Or.inl q⟩))
      · next z => exact absurd rfl z
    · cases H
  · next q =>
    split at H
    · next x ty heq =>
      cases heq
      split at H
      · next z => cases z
      · split at H
        · next g => exact hret _ _ H (Or.inr (Or.inl ⟨x, rfl, okE_spec h1, Or.inr ⟨q, g⟩⟩))
        · cases H
    · cases H
  · cases h2
theorem s1_lreturn (hret : ∀ v h, ret v h = some res → RT cc pcs id j v → Go (fun H locs pc la sv => W p l e Rm s m args below meth c H locs cells slots Q (F0 m pc la sv)) D A tys ad aC nL s pcs S r (j) (ls) (v) (h)) (hok : okI id cc pcs ixs oc rk maxL j (.lreturn, nx, lst) = true) (H : ex1 S r ct cl ret N (.lreturn, nx, lst) ls st h = some res) : Go (fun H locs pc la sv => W p l e Rm s m args below meth c H locs cells slots Q (F0 m pc la sv)) D A tys ad aC nL s pcs S r (j) (ls) (st) (h) := by
  unfold ex1 at H
  unfold okI at hok
  dsimp only at H hok
  rw [Bool.and_eq_true] at hok
  obtain ⟨h1, h2⟩ := hok
  split at h2
  · next q =>
    split at H
    · next x => exact hret _ _ H (Or.inr (Or.inr (Or.inl ⟨x, rfl, okE_spec h1, q⟩)))
    · cases H
  · cases h2
theorem s1_areturn (hret : ∀ v h, ret v h = some res → RT cc pcs id j v → Go (fun H locs pc la sv => W p l e Rm s m args below meth c H locs cells slots Q (F0 m pc la sv)) D A tys ad aC nL s pcs S r (j) (ls) (v) (h)) (hok : okI id cc pcs ixs oc rk maxL j (.areturn, nx, lst) = true) (H : ex1 S r ct cl ret N (.areturn, nx, lst) ls st h = some res) : Go (fun H locs pc la sv => W p l e Rm s m args below meth c H locs cells slots Q (F0 m pc la sv)) D A tys ad aC nL s pcs S r (j) (ls) (st) (h) := by
  unfold ex1 at H
  unfold okI at hok
  dsimp only at H hok
  rw [Bool.and_eq_true] at hok
  obtain ⟨h1, h2⟩ := hok
  split at h2
  · next q =>
    split at H
    · next x => exact hret _ _ H (Or.inr (Or.inr (Or.inr ⟨x, _, rfl, okE_spec h1, q⟩)))
    · cases H
  · cases h2
theorem s1_return_ (hret : ∀ v h, ret v h = some res → RT cc pcs id j v → Go (fun H locs pc la sv => W p l e Rm s m args below meth c H locs cells slots Q (F0 m pc la sv)) D A tys ad aC nL s pcs S r (j) (ls) (v) (h)) (hok : okI id cc pcs ixs oc rk maxL j (.return_, nx, lst) = true) (H : ex1 S r ct cl ret N (.return_, nx, lst) ls st h = some res) : Go (fun H locs pc la sv => W p l e Rm s m args below meth c H locs cells slots Q (F0 m pc la sv)) D A tys ad aC nL s pcs S r (j) (ls) (st) (h) := by
  unfold ex1 at H
  unfold okI at hok
  dsimp only at H hok
  rw [Bool.and_eq_true] at hok
  obtain ⟨h1, h2⟩ := hok
  split at h2
  · next q =>
    split at H
    · exact hret _ _ H (Or.inl ⟨rfl, okE_spec h1, q⟩)
    · cases H
  · cases h2
theorem s1_all (hx : p.tables.exec = Jvm.exec) (hb : c.code = cc) (hts : ∀ w ∈ lw_g, w.before args s = true) (hown : s.vm.findClass (RN oc) = some m.cls) (hml : c.maxLocals = nL) (hK : va_K D vwCl tys s) (hR : 1 ≤ Rm.frames ∧ 100 ≤ Rm.locals ∧ cells ≤ Rm.cells ∧ slots ≤ Rm.slots) (hA : Amb ct aC A s s.heap) (hct : ctOk ct) (hLen : ∀ {j nx i k0 : Nat} {ls st : List mv} {h : mM}, (k0 = 5 ∨ k0 = 6) → (oc, i, 1) ∈ CHl → wds st ≤ 8 → Dc cc pcs j (.invokevirtual i) 3 nx → Go (fun H locs pc la sv => W p l e Rm s m args below meth c H locs cells slots Q (F0 m pc la sv)) D A tys ad aC nL s pcs S r (nx) (ls) (mI ((ct k0).length : Int) :: st) (h) → Go (fun H locs pc la sv => W p l e Rm s m args below meth c H locs cells slots Q (F0 m pc la sv)) D A tys ad aC nL s pcs S r (j) (ls) (mC k0 :: st) (h)) (hChr : ∀ {j nx i k0 : Nat} {x : Int} {ls st : List mv} {h : mM}, (k0 = 5 ∨ k0 = 6) → (oc, i, 0) ∈ CHl → wds st ≤ 8 → inA x (ct k0).length → Dc cc pcs j (.invokevirtual i) 3 nx → Go (fun H locs pc la sv => W p l e Rm s m args below meth c H locs cells slots Q (F0 m pc la sv)) D A tys ad aC nL s pcs S r (nx) (ls) (mI ((nth (ct k0) x.toNat).getD 0) :: st) (h) → Go (fun H locs pc la sv => W p l e Rm s m args below meth c H locs cells slots Q (F0 m pc la sv)) D A tys ad aC nL s pcs S r (j) (ls) (mI x :: mC k0 :: st) (h)) (hN : ∀ j ls st h, N j ls st h = some res → Go (fun H locs pc la sv => W p l e Rm s m args below meth c H locs cells slots Q (F0 m pc la sv)) D A tys ad aC nL s pcs S r (j) (ls) (st) (h)) (hret : ∀ v h, ret v h = some res → RT cc pcs id j v → Go (fun H locs pc la sv => W p l e Rm s m args below meth c H locs cells slots Q (F0 m pc la sv)) D A tys ad aC nL s pcs S r (j) (ls) (v) (h)) {i : mIn} (hni : ∀ id9, i.1 ≠ .invokestatic id9) (hok : okI id cc pcs ixs oc rk maxL j i = true) (H : ex1 S r ct cl ret N i ls st h = some res) : Go (fun H locs pc la sv => W p l e Rm s m args below meth c H locs cells slots Q (F0 m pc la sv)) D A tys ad aC nL s pcs S r (j) (ls) (st) (h) := by
  obtain ⟨o, nx, lst⟩ := i
  cases o
  case aaload => exact s1_aaload hx hb hts hown hml hK hR hA hct hN hok H
  case aload a0 => exact s1_aload hx hb hts hown hml hK hR hA hct hN hok H
  case arraylength => exact s1_arraylength hx hb hts hown hml hK hR hA hct hLen hChr hN hok H
  case astore a0 => exact s1_astore hx hb hts hown hml hK hR hA hct hN hok H
  case baload => exact s1_baload hx hb hts hown hml hK hR hA hct hN hok H
  case bastore => exact s1_bastore hx hb hts hown hml hK hR hA hct hN hok H
  case caload => exact s1_caload hx hb hts hown hml hK hR hA hct hLen hChr hN hok H
  case dadd => exact s1_dadd hx hb hts hown hml hK hR hA hct hN hok H
  case dmul => exact s1_dmul hx hb hts hown hml hK hR hA hct hN hok H
  case dneg => exact s1_dneg hx hb hts hown hml hK hR hA hct hN hok H
  case dsub => exact s1_dsub hx hb hts hown hml hK hR hA hct hN hok H
  case dup => exact s1_dup hx hb hts hown hml hK hR hA hct hN hok H
  case dup2 => exact s1_dup2 hx hb hts hown hml hK hR hA hct hN hok H
  case getfield a0 => exact s1_getfield hx hb hts hown hml hK hR hA hct hN hok H
  case goto a0 => exact s1_goto hx hb hts hown hml hK hR hA hct hN hok H
  case i2b => exact s1_i2b hx hb hts hown hml hK hR hA hct hN hok H
  case i2l => exact s1_i2l hx hb hts hown hml hK hR hA hct hN hok H
  case i2s => exact s1_i2s hx hb hts hown hml hK hR hA hct hN hok H
  case iadd => exact s1_iadd hx hb hts hown hml hK hR hA hct hN hok H
  case iaload => exact s1_iaload hx hb hts hown hml hK hR hA hct hN hok H
  case iand => exact s1_iand hx hb hts hown hml hK hR hA hct hN hok H
  case iastore => exact s1_iastore hx hb hts hown hml hK hR hA hct hN hok H
  case iconst a0 => exact s1_iconst hx hb hts hown hml hK hR hA hct hN hok H
  case idiv => exact s1_idiv hx hb hts hown hml hK hR hA hct hN hok H
  case ifCond a0 a1 => exact s1_ifCond hx hb hts hown hml hK hR hA hct hN hok H
  case if_icmp a0 a1 => exact s1_if_icmp hx hb hts hown hml hK hR hA hct hN hok H
  case iinc a0 a1 => exact s1_iinc hx hb hts hown hml hK hR hA hct hN hok H
  case iload a0 => exact s1_iload hx hb hts hown hml hK hR hA hct hN hok H
  case imul => exact s1_imul hx hb hts hown hml hK hR hA hct hN hok H
  case ior => exact s1_ior hx hb hts hown hml hK hR hA hct hN hok H
  case irem => exact s1_irem hx hb hts hown hml hK hR hA hct hN hok H
  case ishl => exact s1_ishl hx hb hts hown hml hK hR hA hct hN hok H
  case ishr => exact s1_ishr hx hb hts hown hml hK hR hA hct hN hok H
  case istore a0 => exact s1_istore hx hb hts hown hml hK hR hA hct hN hok H
  case isub => exact s1_isub hx hb hts hown hml hK hR hA hct hN hok H
  case iushr => exact s1_iushr hx hb hts hown hml hK hR hA hct hN hok H
  case ixor => exact s1_ixor hx hb hts hown hml hK hR hA hct hN hok H
  case l2i => exact s1_l2i hx hb hts hown hml hK hR hA hct hN hok H
  case ladd => exact s1_ladd hx hb hts hown hml hK hR hA hct hN hok H
  case laload => exact s1_laload hx hb hts hown hml hK hR hA hct hN hok H
  case land => exact s1_land hx hb hts hown hml hK hR hA hct hN hok H
  case lastore => exact s1_lastore hx hb hts hown hml hK hR hA hct hN hok H
  case lcmp => exact s1_lcmp hx hb hts hown hml hK hR hA hct hN hok H
  case sipush a0 => exact s1_lconst hx hb hts hown hml hK hR hA hct hN hok H
  case ldc a0 => exact s1_ldc hx hb hts hown hml hK hR hA hct hN hok H
  case ldiv => exact s1_ldiv hx hb hts hown hml hK hR hA hct hN hok H
  case lload a0 => exact s1_lload hx hb hts hown hml hK hR hA hct hN hok H
  case lmul => exact s1_lmul hx hb hts hown hml hK hR hA hct hN hok H
  case lookupswitch a0 a1 => exact s1_lookup hx hb hts hown hml hK hR hA hct hN hok H
  case lor => exact s1_lor hx hb hts hown hml hK hR hA hct hN hok H
  case lrem => exact s1_lrem hx hb hts hown hml hK hR hA hct hN hok H
  case lshl => exact s1_lshl hx hb hts hown hml hK hR hA hct hN hok H
  case lstore a0 => exact s1_lstore hx hb hts hown hml hK hR hA hct hN hok H
  case lsub => exact s1_lsub hx hb hts hown hml hK hR hA hct hN hok H
  case pop => exact s1_pop hx hb hts hown hml hK hR hA hct hN hok H
  case putfield a0 => exact s1_putfield hx hb hts hown hml hK hR hA hct hN hok H
  case swap => exact s1_swap hx hb hts hown hml hK hR hA hct hN hok H
  case tableswitch a0 a1 a2 a3 => exact s1_table hx hb hts hown hml hK hR hA hct hN hok H
  case ireturn => exact s1_ireturn hret hok H
  case lreturn => exact s1_lreturn hret hok H
  case areturn => exact s1_areturn hret hok H
  case return_ => exact s1_return_ hret hok H
  case invokestatic a0 => exact absurd rfl (hni a0)
  all_goals (exfalso; unfold ex1 at H; dsimp only at H; cases H)
end
end
section
/-! GROWTH: what the rich machine does to shapes and references -/
theorem nth_app {α : Type} {l k : List α} {a : Nat} : nth (l ++ k) a = if a < l.length then nth l a else nth k (a - l.length) := by
  rw [nth_get, nth_get, nth_get, List.getElem?_append]
theorem nth_some {α : Type} {l : List α} {a : Nat} (h : a < l.length) : ∃ x, nth l a = some x := ⟨l[a], by rw [nth_get]; exact List.getElem?_eq_getElem h⟩
theorem lset_len {α : Type} {b : α} : ∀ {l : List α} {k : Nat}, (lset l k b).length = l.length
  | [], k => by cases k <;> rfl
  | _ :: l, 0 => rfl
  | a :: l, k + 1 => by
    show (lset l k b).length + 1 = l.length + 1
    rw [lset_len]
theorem lset_nth {α : Type} {b : α} : ∀ {l : List α} {k j : Nat}, nth (lset l k b) j = if j = k ∧ k < l.length then some b else nth l j
  | [], k, j => by
    rw [if_neg (by simp)]
    cases k <;> rfl
  | a :: l, 0, j => by
    cases j with
    | zero => rw [if_pos ⟨rfl, by simp⟩]; rfl
    | succ j => rw [if_neg (by omega)]; rfl
  | a :: l, k + 1, j => by
    cases j with
    | zero => rw [if_neg (by omega)]; rfl
    | succ j =>
      show nth (lset l k b) j = _
      rw [lset_nth (l := l)]
      simp only [List.length_cons]
      by_cases q : j = k ∧ k < l.length
      · rw [if_pos q, if_pos ⟨by omega, by omega⟩]
      · rw [if_neg q, if_neg (by omega)]
        rfl
def rowOk (x : Nat ⊕ (Nat × Nat)) (l : List (Option Nat)) : Prop := match x with
  | .inl ci => ∀ f, nth FT ci = some f → l.length = f.length
  | .inr (t, n) => 10 ≤ t → l.length = n
def rOk (S : mSh) (r : mRf) : Prop := r.length = S.length ∧ ∀ a x l, nth S a = some x → nth r a = some l → rowOk x l
theorem rOk_app {S T : mSh} {r R : mRf} (h : rOk S r) (hl : R.length = T.length) (ht : ∀ a x l, nth T a = some x → nth R a = some l → rowOk x l) : rOk (S ++ T) (r ++ R) := by
  refine ⟨by rw [List.length_append, List.length_append, h.1, hl], fun a x l h1 h2 => ?_⟩
  rw [nth_app] at h1 h2
  rw [h.1] at h2
  by_cases q : a < S.length
  · rw [if_pos q] at h1 h2
    exact h.2 a x l h1 h2
  · rw [if_neg q] at h1 h2
    exact ht _ x l h1 h2
theorem rOk_one {S : mSh} {r : mRf} {x : Nat ⊕ (Nat × Nat)} {l : List (Option Nat)} (h : rOk S r) (hx : rowOk x l) : rOk (S ++ [x]) (r ++ [l]) := by
  refine rOk_app h rfl fun a y k h1 h2 => ?_
  have h0 : a = 0 := by have := nth_lt h1; simpa using this
  subst h0
  cases h1
  cases h2
  exact hx
theorem rset_nth {r : mRf} {a k v b : Nat} : nth (rset r a k v) b = if b = a then (nth r a).map (fun l => lset l k (some v)) else nth r b := by
  unfold rset
  cases q : nth r a with
  | none =>
    dsimp only
    by_cases hb : b = a
    · rw [if_pos hb, hb, q]; rfl
    · rw [if_neg hb]
  | some l =>
    dsimp only
    rw [lset_nth]
    by_cases hb : b = a
    · rw [if_pos ⟨hb, nth_lt q⟩, if_pos hb]; rfl
    · rw [if_neg (fun z => hb z.1), if_neg hb]
theorem rset_len {r : mRf} {a k v : Nat} : (rset r a k v).length = r.length := by
  unfold rset
  split
  · exact lset_len
  · rfl
theorem rOk_set {S : mSh} {r : mRf} {a k v : Nat} (h : rOk S r) : rOk S (rset r a k v) := by
  refine ⟨by rw [rset_len]; exact h.1, fun b x l h1 h2 => ?_⟩
  rw [rset_nth] at h2
  by_cases hb : b = a
  · rw [if_pos hb] at h2
    subst hb
    cases q : nth r b with
    | none => rw [q] at h2; cases h2
    | some l0 =>
      rw [q] at h2
      cases h2
      have := h.2 b x l0 h1 q
      unfold rowOk at this ⊢
      rw [lset_len]
      exact this
  · rw [if_neg hb] at h2
    exact h.2 b x l h1 h2
theorem nth_rep {α : Type} {n a : Nat} {x y : α} (h : nth (List.replicate n x) a = some y) : y = x := by
  rw [nth_get] at h
  have := List.getElem?_eq_some_iff.mp h
  obtain ⟨h1, h2⟩ := this
  rw [← h2, List.getElem_replicate]
theorem rOk_mna {S : mSh} {r : mRf} {n k : Nat} {f : Nat → Option Nat} (h : rOk S r) : rOk (S ++ (.inr (3, n) :: List.replicate n (.inr (1, k)))) (r ++ ((List.range n).map f :: List.replicate n [])) := by
  refine rOk_app h (by simp) fun a x l h1 h2 => ?_
  cases a with
  | zero =>
    cases h1
    intro q
    omega
  | succ a =>
    have e := nth_rep (show nth (List.replicate n (Sum.inr (1, k))) a = some x from h1)
    subst e
    intro q
    omega
section
variable {ρ : Type}
def Pp (P : ρ → Prop) (a : Option ρ) : Prop := ∀ r, a = some r → P r
theorem Pp.none' {P : ρ → Prop} : Pp P none := fun r h => by cases h
theorem Pp.ite {P : ρ → Prop} {c : Prop} [Decidable c] {a a' : Option ρ} (h : Pp P a) (h' : Pp P a') : Pp P (if c then a else a') := by
  by_cases q : c
  · rwa [if_pos q]
  · rwa [if_neg q]
theorem Pp.few {P : ρ → Prop} {st : List mv} {a : Option ρ} (h : Pp P a) : Pp P (few st a) := by
  unfold Jvm.Pilot.@@N@@.few
  split
  · exact h
  · exact Pp.none'
theorem Pp.pB {P : ρ → Prop} {c : Nat} {x y : Int} {a a' : Option ρ} (h : Pp P a) (h' : Pp P a') : Pp P (pB c x y a a') := by
  unfold Jvm.Pilot.@@N@@.pB
  split
  · exact Pp.ite h h'
  · exact Pp.ite h' h
  · exact Pp.ite h h'
  · exact Pp.ite h' h
  · exact Pp.ite h h'
  · exact Pp.ite h' h
theorem Pp.pSw {P : ρ → Prop} {x : Int} {d : Nat} {N : Nat → Option ρ} (h : ∀ t, Pp P (N t)) : ∀ (l : List Nat) (lo : Int), Pp P (pSw x N d lo l)
  | [], lo => h d
  | t :: ts, lo => Pp.ite (h t) (Pp.pSw h ts (lo + 1))
theorem Pp.pLk {P : ρ → Prop} {x : Int} {d : Nat} {N : Nat → Option ρ} (h : ∀ t, Pp P (N t)) : ∀ (l : List Nat), Pp P (pLk x N d l)
  | [] => h d
  | [_] => h d
  | _ :: t :: ts => Pp.ite (h t) (Pp.pLk h ts)
theorem Pp.stK {P : ρ → Prop} {v : mv} : ∀ (k : Nat) (ls : List mv) {K : List mv → Option ρ}, (∀ l, Pp P (K l)) → Pp P (stK v k ls K)
  | 0, [], _, _ => Pp.none'
  | 0, _ :: l, _, h => h _
  | 1, [], _, _ => Pp.none'
  | 1, [_], _, _ => Pp.none'
  | 1, a :: _ :: l, _, h => h _
  | k + 2, [], _, _ => Pp.none'
  | k + 2, a :: l, _, h => Pp.stK (k + 1) l (fun l => h (a :: l))
theorem Pp.stL {P : ρ → Prop} {v : mv} : ∀ (k : Nat) (ls : List mv) {K : List mv → Option ρ}, (∀ l, Pp P (K l)) → Pp P (stL v k ls K)
  | 0, [], _, _ => Pp.none'
  | 0, [_], _, _ => Pp.none'
  | 0, _ :: _ :: l, _, h => h _
  | 1, [], _, _ => Pp.none'
  | 1, [_], _, _ => Pp.none'
  | 1, [_, _], _, _ => Pp.none'
  | 1, a :: _ :: _ :: l, _, h => h _
  | k + 2, [], _, _ => Pp.none'
  | k + 2, a :: l, _, h => Pp.stL (k + 1) l (fun l => h (a :: l))
theorem ex1_pp (S : mSh) (R : List (List (Option Nat))) (ct : Nat → List Int) {P : ρ → Prop} {cl : Nat → Nat → List mv → mM → Option (List mv × mM)} {ret : List mv → mM → Option ρ} {N : Nat → List mv → List mv → mM → Option ρ}
    (hr : ∀ v h, Pp P (ret v h)) (hN : ∀ j ls st h, Pp P (N j ls st h)) (i : mIn) (hi : ∀ id, i.1 ≠ .invokestatic id) (ls st : List mv) (h : mM) :
    Pp P (ex1 S R ct cl ret N i ls st h) := by
  intro r H
  obtain ⟨o, nx, l⟩ := i
  unfold ex1 at H
  dsimp only at H
  split at H
  all_goals repeat' first
    | (cases H; done)
    | exact absurd rfl (hi _)
    | exact hN _ _ _ _ _ H
    | exact hr _ _ _ H
    | exact Pp.ite (hN _ _ _ _) Pp.none' _ H
    | exact Pp.ite (Pp.ite (hN _ _ _ _) Pp.none') Pp.none' _ H
    | exact Pp.ite (hr _ _) Pp.none' _ H
    | exact Pp.stK _ _ (fun l => hN _ _ _ _) _ H
    | exact Pp.stL _ _ (fun l => hN _ _ _ _) _ H
    | exact Pp.ite (Pp.stK _ _ (fun l => hN _ _ _ _)) Pp.none' _ H
    | exact Pp.few (hN _ _ _ _) _ H
    | exact Pp.few (Pp.ite (hN _ _ _ _) Pp.none') _ H
    | exact Pp.pB (hN _ _ _ _) (hN _ _ _ _) _ H
    | exact Pp.pSw (fun t => hN _ _ _ _) _ _ _ H
    | exact Pp.pLk (fun t => hN _ _ _ _) _ _ H
    | split at H
end
def Grow (S S' : mSh) : Prop := ∃ T, S' = S ++ T
theorem Grow.rf {S : mSh} : Grow S S := ⟨[], by simp⟩
theorem Grow.tr {A B C : mSh} (h : Grow A B) (k : Grow B C) : Grow A C := by
  obtain ⟨T, rfl⟩ := h
  obtain ⟨U, rfl⟩ := k
  exact ⟨T ++ U, by rw [List.append_assoc]⟩
theorem few_pp {ρ : Type} {P : ρ → Prop} {st : List mv} {a : Option ρ} (h : Pp P a) : Pp P (few st a) := Pp.few h
theorem ex2_grow {ct : Nat → List Int} {cl : Nat → Nat → List mv → mH → Option (List mv × mH)} {N : Nat → List mv → List mv → mH → Option (List mv × mH)} {g : mH} {P : List mv × mH → Prop} {i : mIn} {id oc rk maxL j : Nat} {cc : ByteArray} {pcs ixs : List Nat}
    (hg : rOk g.1 g.2.1) (hok : okI id cc pcs ixs oc rk maxL j i = true) (hcl : ∀ id fl a v g', cl id fl a g = some (v, g') → rOk g'.1 g'.2.1 ∧ Grow g.1 g'.1)
    (hN : ∀ j ls st g', rOk g'.1 g'.2.1 → Grow g.1 g'.1 → Pp P (N j ls st g')) (hr : ∀ v m, P (v, (g.1, g.2.1, m))) (ls st : List mv) : Pp P (ex2 ct cl N i ls st g) := by
  obtain ⟨o, nx, lst⟩ := i
  have h1 : (∀ id, o ≠ .invokestatic id) → Pp P (ex1 g.1 g.2.1 ct (fun _ _ _ _ => none) (fun v m => some (v, (g.1, g.2.1, m))) (fun j ls st m => N j ls st (g.1, g.2.1, m)) (o, nx, lst) ls st g.2.2) := fun hq => ex1_pp _ _ _ (fun (v : List mv) (m : mM) (r : List mv × mH) (e : some (v, (g.1, g.2.1, m)) = some r) => by cases e; exact hr _ _) (fun j ls st m => hN j ls st (g.1, g.2.1, m) hg Grow.rf) _ hq _ _ _
  unfold okI at hok
  intro r H
  unfold ex2 at H
  dsimp only at H hok
  split at H
  · next ci =>
    rw [Bool.and_eq_true] at hok
    obtain ⟨-, h2⟩ := hok
    split at H
    · next nf =>
      split at h2
      · next f q hf =>
        cases q
        rw [Nat.eq_of_beq_eq_true h2] at H
        exact hN _ _ _ (_, _, _) (rOk_one hg (show rowOk (.inl ci) (List.replicate f.length none) from fun f' hf' => by cases hf.symm.trans hf'; rw [List.length_replicate])) ⟨_, rfl⟩ _ H
      · cases h2
    · cases H
  · split at H
    · next n st ty =>
      have ht : ty < 3 := by
        rw [Bool.and_eq_true] at hok
        obtain ⟨h2, -⟩ := hok
        split at h2
        · next q => cases q; omega
        · next q => cases q; omega
        · next q => cases q; omega
        · cases h2
      exact Pp.ite (hN _ _ _ (_, _, _) (rOk_one hg (show rowOk (.inr (ty, _)) _ from fun q => by omega)) ⟨_, rfl⟩) Pp.none' _ H
    · cases H
  · split at H
    · exact Pp.ite (hN _ _ _ (_, _, _) (rOk_one hg (show rowOk (.inr (_, _)) (List.replicate _ none) from fun _ => by rw [List.length_replicate])) ⟨_, rfl⟩) Pp.none' _ H
    · cases H
  · split at H
    · exact Pp.ite (hN _ _ _ _ (rOk_mna hg) ⟨_, rfl⟩) Pp.none' _ H
    · cases H
  · split at H
    · split at H
      · split at H
        · exact Pp.ite (hN _ _ _ (_, _, _) (rOk_set hg) Grow.rf) Pp.none' _ H
        · cases H
      · cases H
    · cases H
  · split at H
    · exact Pp.few (hN _ _ _ _ hg Grow.rf) _ H
    · cases H
  · split at H
    · split at H
      · next args rest _ =>
        split at H
        · obtain ⟨-, H⟩ := few_spec H
          split at H
          · next ret g' hc =>
            obtain ⟨k1, k2⟩ := hcl _ _ _ _ _ hc
            split at H
            · exact hN _ _ _ _ k1 k2 _ H
            · exact hN _ _ _ _ k1 k2 _ H
            · exact hN _ _ _ _ k1 k2 _ H
            · exact hN _ _ _ _ k1 k2 _ H
            · cases H
          · cases H
        · cases H
      · cases H
    · cases H
  · split at H
    · split at H
      · exact hN _ _ _ (_, _, _) (rOk_set hg) Grow.rf _ H
      · cases H
    · exact h1 (fun id q => by cases q) _ H
  · next hq1 hq2 hq3 hq4 hq5 hq6 hq7 hq8 => exact h1 (fun id q => by first | exact hq1 _ q | exact hq2 _ q | exact hq3 _ q | exact hq4 _ q | exact hq6 _ q | exact hq7 _ q | exact hq8 _ q) _ H
/-- every method is checked -/
def Chk : Prop := ∀ id k i, nth (PP id).1 k = some i → okI id (mtB id) (mtP id) (mtX id) (mtO id) (mtK id) (PP id).2 k i = true
theorem exR_grow (hC : Chk) (ct : Nat → List Int) : ∀ (n d id j : Nat) (ls st : List mv) (g : mH), rOk g.1 g.2.1 → Pp (fun r => rOk r.2.1 r.2.2.1 ∧ Grow g.1 r.2.1) (exR PP ct n d (PP id).1 j ls st g) := by
  intro n
  induction n with
  | zero => intro d id j ls st g hg r H; cases H
  | succ n ih =>
    intro d id j ls st g hg r H
    rw [exR_succ] at H
    split at H
    · cases H
    · next i hi =>
      refine ex2_grow (P := fun r => rOk r.2.1 r.2.2.1 ∧ Grow g.1 r.2.1) hg (hC id j i hi) (fun id' fl a v g' hc => ?_) (fun j ls st g' k1 k2 r' H' => ?_) (fun v m => ⟨hg, Grow.rf⟩) ls st r H
      · cases fl with
        | zero => exact ih _ _ _ _ _ _ hg _ hc
        | succ fl => cases d with
          | zero => cases hc
          | succ d => exact ih _ _ _ _ _ _ hg _ hc
      · have := ih _ _ _ _ _ _ k1 _ H'
        exact ⟨this.1, k2.tr this.2⟩
end
section
/-! SIM 8: what makes cells, and what moves references, on the real machine -/
theorem rV_ag {ad ad' aC : Nat → Nat} {n : Nat} {v : mv} (hag : ∀ a, a < n → ad' a = ad a) (hv : vOk n v) : rV ad' aC v = rV ad aC v := by
  rcases v with x | x | a | k
  · rfl
  · rfl
  · show Value.ref _ = Value.ref _
    rw [hag a hv]
  · rfl
theorem asc_ag {ad ad' aC : Nat → Nat} {n : Nat} (hag : ∀ a, a < n → ad' a = ad a) : ∀ {ls : List mv} {i : Nat}, (∀ v ∈ ls, vOk n v) → asc ad' aC i ls = asc ad aC i ls
  | [], i, _ => rfl
  | v :: ls, i, h => by
    unfold asc
    rw [asc_ag hag (ls := ls) (fun u hu => h u (List.mem_cons_of_mem _ hu)), rV_ag hag (h v List.mem_cons_self)]
theorem map_ag {ad ad' aC : Nat → Nat} {n : Nat} (hag : ∀ a, a < n → ad' a = ad a) {st : List mv} (h : ∀ v ∈ st, vOk n v) : st.map (rV ad' aC) = st.map (rV ad aC) := List.map_congr_left fun v hv => rV_ag hag (h v hv)
theorem vOk_mono {n m : Nat} (hnm : n ≤ m) {v : mv} (h : vOk n v) : vOk m v := by
  rcases v with x | x | a | k
  · exact h
  · exact h
  · exact Nat.lt_of_lt_of_le h hnm
  · trivial
theorem rfAt_app {r R : mRf} {a k : Nat} : rfAt (r ++ R) a k = if a < r.length then rfAt r a k else rfAt R (a - r.length) k := by
  unfold rfAt
  rw [nth_app]
  by_cases q : a < r.length
  · rw [if_pos q, if_pos q]
  · rw [if_neg q, if_neg q]
theorem fvs_ag {ad ad' : Nat → Nat} {r r' : mRf} {h : mM} {a n : Nat} (hag : ∀ b, b < n → ad' b = ad b) (hr : ∀ k, rfAt r' a k = rfAt r a k) (hb : ∀ k b, rfAt r a k = some b → b < n) : ∀ {f : List Nat} {i : Nat}, fvs ad' r' h a i f = fvs ad r h a i f
  | [], i => rfl
  | t :: f, i => by
    show fvl ad' r' h a i t :: _ = fvl ad r h a i t :: _
    rw [fvs_ag hag hr hb (f := f)]
    congr 1
    unfold fvl
    split
    · rfl
    · rw [hr]
      cases q : rfAt r a i with
      | none => rfl
      | some b =>
        show va_rf (some (ad' b)) = va_rf (some (ad b))
        rw [hag b (hb _ _ q)]
    · rfl
theorem acn_ag {ad ad' : Nat → Nat} {r r' : mRf} {h : mM} {a n t : Nat} (hag : ∀ b, b < n → ad' b = ad b) (hr : ∀ k, rfAt r' a k = rfAt r a k) (hb : ∀ k b, rfAt r a k = some b → b < n) : acn ad' r' h a t = acn ad r h a t := by
  unfold acn
  split
  · rfl
  · rfl
  · rfl
  · congr 4
    funext j
    rw [hr]
    cases q : rfAt r a j with
    | none => rfl
    | some b =>
      show some (ad' b) = some (ad b)
      rw [hag b (hb _ _ q)]
theorem isL_app {S T : mSh} {a : Nat} {k : Int} (h : a < S.length) : isL (S ++ T) a k = isL S a k := by
  unfold isL
  rw [nth_app, if_pos h]
theorem mOk_app {S T : mSh} {h : mM} (hm : mOk S h) : mOk (S ++ T) h := by
  refine ⟨hm.1, fun a k hk => ?_, fun a k ha => hm.2.2 a k (by rw [List.length_append] at ha; omega)⟩
  by_cases q : a < S.length
  · exact hm.2.1 a k (by rw [← isL_app q]; exact hk)
  · rw [hm.2.2 a k (by omega)]
    exact ⟨by omega, by omega⟩
theorem Wld_app {tys ty : List (ClassId × FieldType)} {ws wt : va_W} {ad ad' : Nat → Nat} {S T : mSh} {r R : mRf} {h : mM} (hw : Wld tys ws ad S r h) (hrl : r.length = S.length) (hag : ∀ a, a < S.length → ad' a = ad a) (hl : wt.length = T.length)
    (h1 : ∀ i ci, nth T i = some (.inl ci) → ∃ f, nth FT ci = some f ∧ wt[i]? = some (ad' (S.length + i), .inr (ci, fvs ad' (r ++ R) h (S.length + i) 0 f)))
    (h2 : ∀ i t n, nth T i = some (.inr (t, n)) → ∃ cA t0 : Nat, (tys ++ ty)[t0]? = some (cA, aty t) ∧ n < 2147483648 ∧ wt[i]? = some (ad' (S.length + i), .inl (cA, n, acn ad' (r ++ R) h (S.length + i) t)))
    (h3 : ∀ i k b, rfAt R i k = some b → b < S.length + T.length) : Wld (tys ++ ty) (ws ++ wt) ad' (S ++ T) (r ++ R) h := by
  obtain ⟨w1, w2, w3, w4⟩ := hw
  have hr : ∀ a, a < S.length → ∀ k, rfAt (r ++ R) a k = rfAt r a k := fun a ha k => by rw [rfAt_app, if_pos (by omega)]
  refine ⟨by rw [List.length_append, List.length_append, w1, hl], fun a ci ha => ?_, fun a t n ha => ?_, fun a k b hb => ?_⟩
  · rw [nth_app] at ha
    by_cases q : a < S.length
    · rw [if_pos q] at ha
      obtain ⟨f, g1, g2⟩ := w2 a ci ha
      refine ⟨f, g1, ?_⟩
      rw [List.getElem?_append_left (by omega), g2, hag a q, fvs_ag hag (hr a q) (fun k b z => w4 a k b z)]
    · rw [if_neg q] at ha
      obtain ⟨f, g1, g2⟩ := h1 _ ci ha
      rw [show S.length + (a - S.length) = a by omega] at g2
      exact ⟨f, g1, by rw [List.getElem?_append_right (by omega), w1]; exact g2⟩
  · rw [nth_app] at ha
    by_cases q : a < S.length
    · rw [if_pos q] at ha
      obtain ⟨cA, t0, g1, g2, g3⟩ := w3 a t n ha
      refine ⟨cA, t0, ?_, g2, ?_⟩
      · rw [List.getElem?_append_left (List.getElem?_eq_some_iff.mp g1).1]
        exact g1
      · rw [List.getElem?_append_left (by omega), g3, hag a q, acn_ag hag (hr a q) (fun k b z => w4 a k b z)]
    · rw [if_neg q] at ha
      obtain ⟨cA, t0, g1, g2, g3⟩ := h2 _ t n ha
      rw [show S.length + (a - S.length) = a by omega] at g3
      exact ⟨cA, t0, g1, g2, by rw [List.getElem?_append_right (by omega), w1]; exact g3⟩
  · rw [List.length_append]
    rw [rfAt_app] at hb
    by_cases q : a < r.length
    · rw [if_pos q] at hb
      have := w4 a k b hb
      omega
    · rw [if_neg q] at hb
      exact h3 _ k b hb
/-- one more cell lies at q -/
def adU (ad : Nat → Nat) (n q : Nat) : Nat → Nat := fun a => if a = n then q else ad a
theorem adU_at {ad : Nat → Nat} {n q : Nat} : adU ad n q n = q := if_pos rfl
theorem adU_ag {ad : Nat → Nat} {n q a : Nat} (h : a < n) : adU ad n q a = ad a := if_neg (by omega)
theorem nth_one {α : Type} {x y : α} {i : Nat} (h : nth [x] i = some y) : i = 0 ∧ y = x := by
  cases i with
  | zero => cases h; exact ⟨rfl, rfl⟩
  | succ i => cases i <;> cases h
theorem rfAt_none {l : List (Option Nat)} (h : ∀ o ∈ l, o = none) {i k b : Nat} (hb : rfAt [l] i k = some b) : False := by
  unfold rfAt at hb
  cases i with
  | zero =>
    show False
    have hb : (match nth l k with | some o => o | none => none) = some b := hb
    cases q : nth l k with
    | none => rw [q] at hb; cases hb
    | some o =>
      rw [q] at hb
      rw [h o (nth_mem q)] at hb
      cases hb
  | succ i => cases i <;> cases hb
theorem rep_none {n : Nat} : ∀ o ∈ List.replicate n (none : Option Nat), o = none := fun o h => List.eq_of_mem_replicate h
theorem cls_ini {ci : Nat} {f : List Nat} (h : nth FT ci = some f) : Cond.initialized (cnm ci) ∈ lw_g ∧ Cond.instantiable (cnm ci) f.length ∈ lw_g := by
  have h13 : ci < 13 := nth_lt h
  have this : ci = 0 ∨ ci = 1 ∨ ci = 2 ∨ ci = 3 ∨ ci = 4 ∨ ci = 5 ∨ ci = 6 ∨ ci = 7 ∨ ci = 8 ∨ ci = 9 ∨ ci = 10 ∨ ci = 11 ∨ ci = 12 := by omega
  rcases this with rfl | rfl | rfl | rfl | rfl | rfl | rfl | rfl | rfl | rfl | rfl | rfl | rfl <;> (cases h; exact ⟨mem_g (by decide +kernel) rfl, mem_g (by decide +kernel) rfl⟩)
/-- a new cell's fields, as the table has them -/
theorem new_fs {ad : Nat → Nat} {r : mRf} {h : mM} {a : Nat} {f : List Nat} {T : u_T} {ty0 : Nat → FieldType} (h0 : ∀ k, h a k = 0) (hr : ∀ k, rfAt r a k = none) (hty : ∀ k t, nth f k = some t → tyC t (ty0 k) = true) : ∀ j, j < f.length → defaultValue (ty0 j) = vp_V (fvs ad r h a 0 f) j := by
  intro j hj
  obtain ⟨t, ht⟩ := nth_some hj
  unfold vp_V
  rw [List.getD_eq_getElem?_getD, fvs_get ht, Nat.zero_add]
  have h9 := hty j t ht
  show _ = fvl ad r h a j t
  unfold fvl
  rw [h0, hr]
  revert h9
  unfold tyC
  split <;> intro h9 <;> first
    | (cases h9; done)
    | (rename_i q; rw [q]; rfl)
    | rfl
theorem aty_obj {ci : Nat} : aty (10 + ci) = .object (cnm ci) := by
  unfold aty
  split <;> first
    | omega
    | (congr 2; omega)
theorem acn_obj {ad : Nat → Nat} {r : mRf} {h : mM} {a ci : Nat} : acn ad r h a (10 + ci) = .inr (.inr (.inr (.inr (fun j => (rfAt r a j).map ad)))) := by
  unfold acn
  split <;> first
    | omega
    | rfl
theorem ref_ty {ty : FieldType} (a : Nat) (h : tyC 2 ty = true) : narrow ty (.ref a) = .ref a ∧ fits ty (.ref a) = true := by
  cases ty <;> first
    | exact ⟨rfl, rfl⟩
    | (cases h; done)
theorem rfAt_set {r : mRf} {a k v b j : Nat} {l : List (Option Nat)} (hl : nth r a = some l) (hk : k < l.length) : rfAt (rset r a k v) b j = if b = a ∧ j = k then some v else rfAt r b j := by
  unfold rfAt
  rw [rset_nth, hl]
  by_cases hb : b = a
  · subst hb
    rw [if_pos rfl, hl]
    dsimp only [Option.map]
    rw [lset_nth]
    by_cases hj : j = k
    · rw [if_pos ⟨hj, hk⟩, if_pos ⟨rfl, hj⟩]
    · rw [if_neg (fun q => hj q.1), if_neg (fun q => hj q.2)]
  · rw [if_neg hb, if_neg (fun q => hb q.1)]
theorem row_obj {S : mSh} {r : mRf} {a ci : Nat} {f : List Nat} (h : rOk S r) (ho : nth S a = some (.inl ci)) (hf : nth FT ci = some f) : ∃ l, nth r a = some l ∧ l.length = f.length := by
  obtain ⟨l, hl⟩ := nth_some (l := r) (a := a) (by rw [h.1]; exact nth_lt ho)
  exact ⟨l, hl, h.2 a _ l ho hl f hf⟩
theorem row_arr {S : mSh} {r : mRf} {a ci n : Nat} (h : rOk S r) (ho : nth S a = some (.inr (10 + ci, n))) : ∃ l, nth r a = some l ∧ l.length = n := by
  obtain ⟨l, hl⟩ := nth_some (l := r) (a := a) (by rw [h.1]; exact nth_lt ho)
  exact ⟨l, hl, h.2 a _ l ho hl (by omega)⟩
theorem fvs_setR {ad : Nat → Nat} {S : mSh} {r : mRf} {h : mM} {a k b ci : Nat} {f : List Nat} (hr : rOk S r) (ho : nth S a = some (.inl ci)) (hf : nth FT ci = some f) (hk : nth f k = some 2) : fvs ad (rset r a k b) h a 0 f = (fvs ad r h a 0 f).set k (.ref (ad b)) := by
  obtain ⟨l, hl, hln⟩ := row_obj hr ho hf
  have hkl : k < l.length := by rw [hln]; exact nth_lt hk
  refine List.ext_getElem? fun j => ?_
  rw [List.getElem?_set]
  by_cases hj : j < f.length
  · obtain ⟨t, ht⟩ := nth_some hj
    rw [fvs_get ht, Nat.zero_add]
    by_cases e : k = j
    · subst e
      rw [if_pos rfl, if_pos (by rw [fvs_len]; exact hj)]
      cases hk.symm.trans ht
      show some (va_rf _) = _
      rw [rfAt_set hl hkl, if_pos ⟨rfl, rfl⟩]
      rfl
    · rw [if_neg e, fvs_get ht, Nat.zero_add]
      unfold fvl
      rw [rfAt_set hl hkl, if_neg (fun q => e q.2.symm)]
  · rw [List.getElem?_eq_none (by rw [fvs_len]; omega)]
    rw [if_neg (by have := nth_lt hk; omega), List.getElem?_eq_none (by rw [fvs_len]; omega)]
theorem rfAt_ne {r : mRf} {a k v b j : Nat} (hb : b ≠ a) : rfAt (rset r a k v) b j = rfAt r b j := by
  unfold rfAt
  rw [rset_nth, if_neg hb]
theorem rfAt_sub {r : mRf} {a k v b j c : Nat} (h : rfAt (rset r a k v) b j = some c) : c = v ∨ rfAt r b j = some c := by
  by_cases hb : b = a
  · unfold rfAt at h ⊢
    rw [rset_nth, if_pos hb] at h
    subst hb
    cases q : nth r b with
    | none => rw [q] at h; cases h
    | some l =>
      rw [q] at h
      dsimp only [Option.map] at h ⊢
      rw [lset_nth] at h
      by_cases e : j = k ∧ k < l.length
      · rw [if_pos e] at h
        cases h
        exact Or.inl rfl
      · rw [if_neg e] at h
        exact Or.inr h
  · rw [rfAt_ne hb] at h
    exact Or.inr h
theorem Wld_setR {tys : List (ClassId × FieldType)} {ws : va_W} {ad : Nat → Nat} {S : mSh} {r : mRf} {h : mM} {a ci k b : Nat} {f : List Nat} (hw : Wld tys ws ad S r h) (hr : rOk S r) (ha : nth S a = some (.inl ci)) (hf : nth FT ci = some f) (hb : b < S.length) : Wld tys (ws.set a (ad a, .inr (ci, fvs ad (rset r a k b) h a 0 f))) ad S (rset r a k b) h := by
  obtain ⟨h1, h2, h3, h4⟩ := hw
  have hl : a < ws.length := by rw [h1]; exact nth_lt ha
  refine ⟨by rw [List.length_set]; exact h1, fun c ci' hc => ?_, fun c t' n' hc => ?_, fun c j d hd => ?_⟩
  · by_cases hne : c = a
    · subst hne
      rw [ha] at hc
      cases hc
      exact ⟨f, hf, by rw [List.getElem?_set_self hl]⟩
    · obtain ⟨f', hf', hq⟩ := h2 c ci' hc
      exact ⟨f', hf', by rw [List.getElem?_set_ne (Ne.symm hne), hq, fvs_ag (ad' := ad) (r' := rset r a k b) (n := S.length) (fun _ _ => rfl) (fun j => rfAt_ne hne) (fun j d hd => h4 c j d hd)]⟩
  · have hne : c ≠ a := fun q => by subst q; rw [ha] at hc; cases hc
    obtain ⟨cA', t0, g1, g2, g3⟩ := h3 c t' n' hc
    exact ⟨cA', t0, g1, g2, by rw [List.getElem?_set_ne (Ne.symm hne), g3, acn_ag (ad' := ad) (r' := rset r a k b) (n := S.length) (fun _ _ => rfl) (fun j => rfAt_ne hne) (fun j d hd => h4 c j d hd)]⟩
  · rcases rfAt_sub hd with rfl | hd
    · exact hb
    · exact h4 c j d hd
theorem acn_setR {ad : Nat → Nat} {S : mSh} {r : mRf} {h : mM} {a n ci v : Nat} {x : Int} (hr : rOk S r) (ho : nth S a = some (.inr (10 + ci, n))) (g : inA x n) : acn ad (rset r a x.toNat v) h a (10 + ci) = .inr (.inr (.inr (.inr (va_up (fun j => (rfAt r a j).map ad) x.toNat (some (ad v)))))) := by
  obtain ⟨l, hl, hln⟩ := row_arr hr ho
  rw [acn_obj]
  congr 4
  funext j
  unfold va_up
  rw [rfAt_set hl (by rw [hln]; have := g.2; have := g.1; omega)]
  by_cases e : j = x.toNat
  · rw [if_pos ⟨rfl, e⟩, if_pos e]
    rfl
  · rw [if_neg (fun q => e q.2), if_neg e]
theorem Wld_setA {tys : List (ClassId × FieldType)} {ws : va_W} {ad : Nat → Nat} {S : mSh} {r : mRf} {h : mM} {a t n k v cA : Nat} (hw : Wld tys ws ad S r h) (hr : rOk S r) (ha : nth S a = some (.inr (t, n))) (hcl : ws[a]? = some (ad a, .inl (cA, n, acn ad r h a t))) (hv : v < S.length) : Wld tys (ws.set a (ad a, .inl (cA, n, acn ad (rset r a k v) h a t))) ad S (rset r a k v) h := by
  obtain ⟨h1, h2, h3, h4⟩ := hw
  have hl := (List.getElem?_eq_some_iff.mp hcl).1
  refine ⟨by rw [List.length_set]; exact h1, fun c ci' hc => ?_, fun c t' n' hc => ?_, fun c j d hd => ?_⟩
  · have hne : c ≠ a := fun q => by subst q; rw [ha] at hc; cases hc
    obtain ⟨f', hf', hq⟩ := h2 c ci' hc
    exact ⟨f', hf', by rw [List.getElem?_set_ne (Ne.symm hne), hq, fvs_ag (ad' := ad) (r' := rset r a k v) (n := S.length) (fun _ _ => rfl) (fun j => rfAt_ne hne) (fun j d hd => h4 c j d hd)]⟩
  · by_cases hne : c = a
    · subst hne
      rw [ha] at hc
      cases hc
      obtain ⟨cA', t0, g1, g2, g3⟩ := h3 c _ _ ha
      rw [hcl] at g3
      cases g3
      exact ⟨_, t0, g1, g2, by rw [List.getElem?_set_self hl]⟩
    · obtain ⟨cA', t0, g1, g2, g3⟩ := h3 c t' n' hc
      exact ⟨cA', t0, g1, g2, by rw [List.getElem?_set_ne (Ne.symm hne), g3, acn_ag (ad' := ad) (r' := rset r a k v) (n := S.length) (fun _ _ => rfl) (fun j => rfAt_ne hne) (fun j d hd => h4 c j d hd)]⟩
  · rcases rfAt_sub hd with rfl | hd
    · exact hv
    · exact h4 c j d hd
theorem obj_inst : Cond.instanceMethod Lib.objectInit ∈ lw_g := mem_g (by decide +kernel) rfl
theorem obj_code : Cond.code Lib.objectInit ⟨#[0xb1]⟩ 1 none ∈ lw_g := mem_g (by decide +kernel) rfl
theorem inner_c (c : ClassId) (k : Nat) : Jvm.Free.Multi.innerC c k (.long 0) = vp_cell c (k, .inr (.inl (fun _ => Int64.ofInt 0))) := arrV_new _ _ _
/-- a row of rows lies at q, its rows at rr -/
def adM (ad : Nat → Nat) (n q : Nat) (rr : Nat → Nat) : Nat → Nat := fun a => if a = n then q else if n < a then rr (a - n - 1) else ad a
theorem adM_ag {ad : Nat → Nat} {n q a : Nat} {rr : Nat → Nat} (h : a < n) : adM ad n q rr a = ad a := by
  unfold adM
  rw [if_neg (by omega), if_neg (by omega)]
theorem adM_at {ad : Nat → Nat} {n q : Nat} {rr : Nat → Nat} : adM ad n q rr n = q := if_pos rfl
theorem adM_in {ad : Nat → Nat} {n q i : Nat} {rr : Nat → Nat} : adM ad n q rr (n + (i + 1)) = rr i := by
  unfold adM
  rw [if_neg (by omega), if_pos (by omega), show n + (i + 1) - n - 1 = i by omega]
theorem Wld_mna {tys : List (ClassId × FieldType)} {ws : va_W} {ad rr : Nat → Nat} {S : mSh} {r : mRf} {h : mM} {q cA cy : Nat} {n k : Int} (hw : Wld tys ws ad S r h) (hrl : r.length = S.length) (hn : n ≤ 100) (hk : k ≤ 100) (h0 : ∀ a k, S.length ≤ a → h a k = 0) :
    Wld (tys ++ ([(cA, .array .long)] ++ [(cy, .long)])) (ws ++ ([(q, .inl (cA, n.toNat, .inr (.inr (.inr (.inr (fun i => if i < n.toNat then some (rr i) else none))))))] ++ va_pl ((List.range n.toNat).map rr) (vr_up (fun _ => .inr (0, [])) ((List.range n.toNat).map rr) (.inl (cy, k.toNat, .inr (.inl (fun _ => Int64.ofInt 0))))))) (adM ad S.length q rr) (S ++ (.inr (3, n.toNat) :: List.replicate n.toNat (.inr (1, k.toNat)))) (r ++ ((List.range n.toNat).map (fun q => some (S.length + 1 + q)) :: List.replicate n.toNat [])) h := by
  have row0 : ∀ j, nth ((List.range n.toNat).map (fun q => some (S.length + 1 + q))) j = if j < n.toNat then some (some (S.length + 1 + j)) else none := by
    intro j
    rw [nth_get, List.getElem?_map]
    by_cases hj : j < n.toNat
    · rw [if_pos hj, List.getElem?_range hj]; rfl
    · rw [if_neg hj, List.getElem?_eq_none (by simpa using hj)]; rfl
  have rows : ∀ i j, rfAt ((List.range n.toNat).map (fun q => some (S.length + 1 + q)) :: List.replicate n.toNat []) i j = if i = 0 ∧ j < n.toNat then some (S.length + 1 + j) else none := by
    intro i j
    unfold rfAt
    cases i with
    | zero =>
      show (match nth ((List.range n.toNat).map (fun q => some (S.length + 1 + q))) j with | some o => o | none => none) = _
      rw [row0]
      by_cases hj : j < n.toNat
      · rw [if_pos hj, if_pos ⟨rfl, hj⟩]
      · rw [if_neg hj, if_neg (fun z => hj z.2)]
    | succ i =>
      rw [if_neg (fun z => by omega)]
      show (match nth (List.replicate n.toNat ([] : List (Option Nat))) i with | some l => (match nth l j with | some o => o | none => none) | none => none) = none
      cases e : nth (List.replicate n.toNat ([] : List (Option Nat))) i with
      | none => rfl
      | some l =>
        rw [nth_rep e]
        rfl
  refine Wld_app hw hrl (fun a ha => adM_ag ha) (by simp [va_pl]) (fun i ci hi => ?_) (fun i t n9 hi => ?_) (fun i j b hb => ?_)
  · exfalso
    cases i with
    | zero => cases hi
    | succ i => cases nth_rep (show nth (List.replicate n.toNat (Sum.inr (1, k.toNat))) i = some (Sum.inl ci) from hi)
  · cases i with
    | zero =>
      cases hi
      refine ⟨cA, tys.length, by rw [List.getElem?_append_right (Nat.le_refl _), Nat.sub_self]; rfl, by omega, ?_⟩
      rw [Nat.add_zero, adM_at]
      show some (q, _) = some (q, Sum.inl (cA, n.toNat, acn _ _ _ _ 3))
      unfold acn
      congr 9
      funext j
      rw [rfAt_app, if_neg (show ¬ S.length < r.length by omega), hrl, Nat.sub_self, rows]
      by_cases hj : j < n.toNat
      · rw [if_pos hj, if_pos ⟨rfl, hj⟩]
        show some (rr j) = some (adM ad S.length q rr (S.length + 1 + j))
        rw [show S.length + 1 + j = S.length + (j + 1) by omega, adM_in]
      · rw [if_neg hj, if_neg (fun z => hj z.2)]
        rfl
    | succ i =>
      have hi9 : nth (List.replicate n.toNat (Sum.inr (1, k.toNat))) i = some (Sum.inr (t, n9)) := hi
      have hil : i < n.toNat := by have := nth_lt hi9; simpa using this
      cases nth_rep hi9
      refine ⟨cy, tys.length + 1, by rw [List.getElem?_append_right (by omega), show tys.length + 1 - tys.length = 1 by omega]; rfl, by omega, ?_⟩
      rw [adM_in]
      show (va_pl ((List.range n.toNat).map rr) _)[i]? = _
      unfold va_pl
      rw [List.getElem?_map, List.getElem?_map, List.getElem?_range hil]
      show some (rr i, vr_up _ _ _ (rr i)) = some (rr i, Sum.inl (cy, k.toNat, acn _ _ _ _ 1))
      rw [vr_up_in (List.mem_map.mpr ⟨i, List.mem_range.mpr hil, rfl⟩)]
      unfold acn
      simp only [h0 (S.length + (i + 1)) _ (by omega)]
  · rw [rows] at hb
    by_cases e : i = 0 ∧ j < n.toNat
    · rw [if_pos e] at hb
      cases hb
      simp only [List.length_cons, List.length_replicate]
      omega
    · rw [if_neg e] at hb
      cases hb
section
variable {p : Program} {l : Launch} {e : Env} {Rm : Room} {s : State} {m : MethodId} {args : Array Value} {below : List Frame} {meth : Method} {c : Code} {cc : ByteArray} {D : va_G} {A : Nat → Prop} {tys : List (ClassId × FieldType)} {ad aC : Nat → Nat} {nL cells slots : Nat} {Q : State → Prop} {pcs : List Nat} {S : mSh} {r : mRf} {j nx : Nat} {ls st : List mv} {h : mM}
theorem go_new (hx : p.tables.exec = Jvm.exec) (hb : c.code = cc) {own : String} {i ci : Nat} {f : List Nat} (hts : ∀ w ∈ lw_g, w.before args s = true) (hown : s.vm.findClass own = some m.cls) (hK : va_K D vwCl tys s) (hf : nth FT ci = some f) (hcl : (Cond.classLink own i (cnm ci)).before args s = true) (hA0 : ∀ q, s.heap.size ≤ q → A q) (hrO : r.length = S.length) (hcells : cells + 1 ≤ Rm.cells) (hslots : slots + f.length ≤ Rm.slots) (hd : Dc cc pcs j (.new i) 3 nx) (k : ∀ ad9 : Nat → Nat, (∀ a, a < S.length → ad9 a = ad a) → Go (fun H locs pc la sv => W p l e Rm s m args below meth c H locs (cells + 1) (slots + f.length) Q (F0 m pc la sv)) D A tys ad9 aC nL s pcs (S ++ [.inl ci]) (r ++ [List.replicate f.length none]) (nx) (ls) (mR S.length :: st) (h)) : Go (fun H locs pc la sv => W p l e Rm s m args below meth c H locs cells slots Q (F0 m pc la sv)) D A tys ad aC nL s pcs S r (j) (ls) (st) (h) := by
  intro ws H locs la pc hpc hL hl hs hm hw hP hD hS hv
  obtain ⟨pc0, h1, hdg, h2⟩ := hd
  cases hpc.symm.trans h1
  obtain ⟨C, N, hc, hfl, hin, ⟨ty0, hty, hty2⟩, hnm⟩ := vwT_facts hf
  have hcn : cnm ci = C := by unfold cnm; rw [nth_get, hc]
  obtain ⟨hi1, hi2⟩ := cls_ini hf
  rw [hcn] at hcl hi1 hi2
  rw [hfl] at hslots hi2
  have hR : ∀ k, rfAt (r ++ [List.replicate f.length none]) S.length k = none := fun k => by
    rw [rfAt_app, if_neg (by omega), hrO, Nat.sub_self]
    cases q : rfAt [List.replicate f.length none] 0 k with
    | none => rfl
    | some b => exact (rfAt_none rep_none q).elim
  have hr0 : ∀ q, fvs (adU ad S.length q) (r ++ [List.replicate f.length none]) h S.length 0 f = fvs ad (r ++ [List.replicate f.length none]) h S.length 0 f := fun q => fvs_ag (n := S.length) (fun a ha => adU_ag ha) (fun _ => rfl) (fun k b z => by rw [hR] at z; cases z)
  refine va_new hx hb hts hin ty0 hty hown hcl (hts _ hi2) (hts _ hi1) hK hP hD hS hA0 hc (fs := fvs ad (r ++ [List.replicate f.length none]) h S.length 0 f) (fun j hj => new_fs (T := vwT ci) (hm.2.2 S.length · (Nat.le_refl _)) hR hty2 j (by omega)) hcells hslots hdg (fun q H1 hP1 hD1 hS1 => ?_)
  have hw9 : Wld tys (ws ++ [(q, .inr (ci, fvs ad (r ++ [List.replicate f.length none]) h S.length 0 f))]) (adU ad S.length q) (S ++ [.inl ci]) (r ++ [List.replicate f.length none]) h := by
    have z := Wld_app (ty := []) (wt := [(q, .inr (ci, fvs ad (r ++ [List.replicate f.length none]) h S.length 0 f))]) (T := [.inl ci]) (R := [List.replicate f.length none]) hw hrO (fun a ha => adU_ag (q := q) ha) rfl (fun i c2 hi => ?_) (fun i t n hi => by cases (nth_one hi).2) (fun i k b hb => (rfAt_none rep_none hb).elim)
    · rwa [List.append_nil] at z
    · obtain ⟨e1, e2⟩ := nth_one hi
      cases e2
      subst e1
      exact ⟨f, hf, by rw [Nat.add_zero, adU_at, hr0]; rfl⟩
  rw [← hfl] at *
  have hv9 : lv_has la nL (asc (adU ad S.length q) aC 0 ls) := by rw [asc_ag (fun a ha => adU_ag ha) hl]; exact hv
  have hs9 : ∀ v ∈ st, vOk S.length v := fun v9 hv9 => hs _ hv9
  have k9 := k (adU ad S.length q) (fun a ha => adU_ag ha)  _ H1 locs la _ h2 hL (fun v9 hv9 => vOk_mono (by simp) (hl _ hv9)) (fun v9 hv9 => by rcases List.mem_cons.mp hv9 with rfl | hv9; exact (show S.length < _ by simp); exact vOk_mono (by simp) (hs9 _ hv9)) (mOk_app hm) hw9 hP1 hD1 hS1 hv9
  rw [List.map_cons, map_ag (fun a ha => adU_ag ha) hs9, show rV (adU ad S.length q) aC (mR S.length) = .ref q by show Value.ref (adU ad S.length q S.length) = _; rw [adU_at]] at k9
  exact k9
theorem go_newI (hx : p.tables.exec = Jvm.exec) (hb : c.code = cc) {n : Int} (hts : ∀ w ∈ lw_g, w.before args s = true) (hK : va_K D vwCl tys s) (hA0 : ∀ q, s.heap.size ≤ q → A q) (hrO : r.length = S.length) (g : 0 ≤ n ∧ n ≤ 10000) (hcells : cells + 1 ≤ Rm.cells) (hslots : slots + n.toNat ≤ Rm.slots) (hd : Dc cc pcs j (.newarray .int) 2 nx) (k : ∀ ad9 : Nat → Nat, (∀ a, a < S.length → ad9 a = ad a) → ∀ tys9, va_K D vwCl tys9 s → Go (fun H locs pc la sv => W p l e Rm s m args below meth c H locs (cells + 1) (slots + n.toNat) Q (F0 m pc la sv)) D A tys9 ad9 aC nL s pcs (S ++ [.inr (0, n.toNat)]) (r ++ [[]]) (nx) (ls) (mR S.length :: st) (h)) : Go (fun H locs pc la sv => W p l e Rm s m args below meth c H locs cells slots Q (F0 m pc la sv)) D A tys ad aC nL s pcs S r (j) (ls) (mI n :: st) (h) := by
  intro ws H locs la pc hpc hL hl hs hm hw hP hD hS hv
  obtain ⟨pc0, h1, hdg, h2⟩ := hd
  cases hpc.symm.trans h1
  have hn9 : inI n := hs _ List.mem_cons_self
  refine va_newa hx hb (atype := .int) (ty := .int) (hts (Cond.arrayClass .int) (mem_g (by decide +kernel) rfl)) rfl hK hP hD hS hA0 (a0 := (n.toNat, .inl (fun _ => Int32.ofInt 0))) (fun cA => rfl) (nneg hn9 g.1) (clampN hn9) (by show n.toNat * 4 ≤ _; omega) hcells hslots hdg (fun q cA H1 hK1 hP1 hD1 hS1 => ?_)
  have hw9 : Wld (tys ++ [(cA, .int)]) (ws ++ [(q, .inl (cA, (n.toNat, .inl (fun _ => Int32.ofInt 0))))]) (adU ad S.length q) (S ++ [.inr (0, n.toNat)]) (r ++ [[]]) h := by
    refine Wld_app hw hrO (fun a ha => adU_ag (q := q) ha) rfl (fun i c2 hi => by cases (nth_one hi).2) (fun i t n9 hi => ?_) (fun i k b hb => (rfAt_none (l := []) (fun o ho => by cases ho) hb).elim)
    obtain ⟨e1, e2⟩ := nth_one hi
    cases e2
    subst e1
    refine ⟨cA, tys.length, by rw [List.getElem?_append_right (Nat.le_refl _), Nat.sub_self]; rfl, by omega, ?_⟩
    rw [Nat.add_zero, adU_at]
    show some (q, _) = some (q, Sum.inl (cA, n.toNat, acn _ _ _ _ 0))
    unfold acn
    simp only [hm.2.2 S.length _ (Nat.le_refl _)]
  have hv9 : lv_has la nL (asc (adU ad S.length q) aC 0 ls) := by rw [asc_ag (fun a ha => adU_ag ha) hl]; exact hv
  have hs9 : ∀ v ∈ st, vOk S.length v := fun v9 hv9 => hs _ (List.mem_cons_of_mem _ hv9)
  have k9 := k (adU ad S.length q) (fun a ha => adU_ag ha) _ hK1 _ H1 locs la _ h2 hL (fun v9 hv9 => vOk_mono (by simp) (hl _ hv9)) (fun v9 hv9 => by rcases List.mem_cons.mp hv9 with rfl | hv9; exact (show S.length < _ by simp); exact vOk_mono (by simp) (hs9 _ hv9)) (mOk_app hm) hw9 hP1 hD1 hS1 hv9
  rw [List.map_cons, map_ag (fun a ha => adU_ag ha) hs9, show rV (adU ad S.length q) aC (mR S.length) = .ref q by show Value.ref (adU ad S.length q S.length) = _; rw [adU_at]] at k9
  exact k9
theorem go_newL (hx : p.tables.exec = Jvm.exec) (hb : c.code = cc) {n : Int} (hts : ∀ w ∈ lw_g, w.before args s = true) (hK : va_K D vwCl tys s) (hA0 : ∀ q, s.heap.size ≤ q → A q) (hrO : r.length = S.length) (g : 0 ≤ n ∧ n ≤ 10000) (hcells : cells + 1 ≤ Rm.cells) (hslots : slots + n.toNat ≤ Rm.slots) (hd : Dc cc pcs j (.newarray .long) 2 nx) (k : ∀ ad9 : Nat → Nat, (∀ a, a < S.length → ad9 a = ad a) → ∀ tys9, va_K D vwCl tys9 s → Go (fun H locs pc la sv => W p l e Rm s m args below meth c H locs (cells + 1) (slots + n.toNat) Q (F0 m pc la sv)) D A tys9 ad9 aC nL s pcs (S ++ [.inr (1, n.toNat)]) (r ++ [[]]) (nx) (ls) (mR S.length :: st) (h)) : Go (fun H locs pc la sv => W p l e Rm s m args below meth c H locs cells slots Q (F0 m pc la sv)) D A tys ad aC nL s pcs S r (j) (ls) (mI n :: st) (h) := by
  intro ws H locs la pc hpc hL hl hs hm hw hP hD hS hv
  obtain ⟨pc0, h1, hdg, h2⟩ := hd
  cases hpc.symm.trans h1
  have hn9 : inI n := hs _ List.mem_cons_self
  refine va_newa hx hb (atype := .long) (ty := .long) (hts (Cond.arrayClass .long) (mem_g (by decide +kernel) rfl)) rfl hK hP hD hS hA0 (a0 := (n.toNat, .inr (.inl (fun _ => Int64.ofInt 0)))) (fun cA => rfl) (nneg hn9 g.1) (clampN hn9) (by show n.toNat * 8 ≤ _; omega) hcells hslots hdg (fun q cA H1 hK1 hP1 hD1 hS1 => ?_)
  have hw9 : Wld (tys ++ [(cA, .long)]) (ws ++ [(q, .inl (cA, (n.toNat, .inr (.inl (fun _ => Int64.ofInt 0)))))]) (adU ad S.length q) (S ++ [.inr (1, n.toNat)]) (r ++ [[]]) h := by
    refine Wld_app hw hrO (fun a ha => adU_ag (q := q) ha) rfl (fun i c2 hi => by cases (nth_one hi).2) (fun i t n9 hi => ?_) (fun i k b hb => (rfAt_none (l := []) (fun o ho => by cases ho) hb).elim)
    obtain ⟨e1, e2⟩ := nth_one hi
    cases e2
    subst e1
    refine ⟨cA, tys.length, by rw [List.getElem?_append_right (Nat.le_refl _), Nat.sub_self]; rfl, by omega, ?_⟩
    rw [Nat.add_zero, adU_at]
    show some (q, _) = some (q, Sum.inl (cA, n.toNat, acn _ _ _ _ 1))
    unfold acn
    simp only [hm.2.2 S.length _ (Nat.le_refl _)]
  have hv9 : lv_has la nL (asc (adU ad S.length q) aC 0 ls) := by rw [asc_ag (fun a ha => adU_ag ha) hl]; exact hv
  have hs9 : ∀ v ∈ st, vOk S.length v := fun v9 hv9 => hs _ (List.mem_cons_of_mem _ hv9)
  have k9 := k (adU ad S.length q) (fun a ha => adU_ag ha) _ hK1 _ H1 locs la _ h2 hL (fun v9 hv9 => vOk_mono (by simp) (hl _ hv9)) (fun v9 hv9 => by rcases List.mem_cons.mp hv9 with rfl | hv9; exact (show S.length < _ by simp); exact vOk_mono (by simp) (hs9 _ hv9)) (mOk_app hm) hw9 hP1 hD1 hS1 hv9
  rw [List.map_cons, map_ag (fun a ha => adU_ag ha) hs9, show rV (adU ad S.length q) aC (mR S.length) = .ref q by show Value.ref (adU ad S.length q S.length) = _; rw [adU_at]] at k9
  exact k9
theorem go_newB (hx : p.tables.exec = Jvm.exec) (hb : c.code = cc) {n : Int} (hts : ∀ w ∈ lw_g, w.before args s = true) (hK : va_K D vwCl tys s) (hA0 : ∀ q, s.heap.size ≤ q → A q) (hrO : r.length = S.length) (g : 0 ≤ n ∧ n ≤ 10000) (hcells : cells + 1 ≤ Rm.cells) (hslots : slots + n.toNat ≤ Rm.slots) (hd : Dc cc pcs j (.newarray .byte) 2 nx) (k : ∀ ad9 : Nat → Nat, (∀ a, a < S.length → ad9 a = ad a) → ∀ tys9, va_K D vwCl tys9 s → Go (fun H locs pc la sv => W p l e Rm s m args below meth c H locs (cells + 1) (slots + n.toNat) Q (F0 m pc la sv)) D A tys9 ad9 aC nL s pcs (S ++ [.inr (2, n.toNat)]) (r ++ [[]]) (nx) (ls) (mR S.length :: st) (h)) : Go (fun H locs pc la sv => W p l e Rm s m args below meth c H locs cells slots Q (F0 m pc la sv)) D A tys ad aC nL s pcs S r (j) (ls) (mI n :: st) (h) := by
  intro ws H locs la pc hpc hL hl hs hm hw hP hD hS hv
  obtain ⟨pc0, h1, hdg, h2⟩ := hd
  cases hpc.symm.trans h1
  have hn9 : inI n := hs _ List.mem_cons_self
  refine va_newa hx hb (atype := .byte) (ty := .byte) (hts (Cond.arrayClass .byte) (mem_g (by decide +kernel) rfl)) rfl hK hP hD hS hA0 (a0 := (n.toNat, .inl (fun _ => Int32.ofInt 0))) (fun cA => rfl) (nneg hn9 g.1) (clampN hn9) (by show n.toNat * 1 ≤ _; omega) hcells hslots hdg (fun q cA H1 hK1 hP1 hD1 hS1 => ?_)
  have hw9 : Wld (tys ++ [(cA, .byte)]) (ws ++ [(q, .inl (cA, (n.toNat, .inl (fun _ => Int32.ofInt 0))))]) (adU ad S.length q) (S ++ [.inr (2, n.toNat)]) (r ++ [[]]) h := by
    refine Wld_app hw hrO (fun a ha => adU_ag (q := q) ha) rfl (fun i c2 hi => by cases (nth_one hi).2) (fun i t n9 hi => ?_) (fun i k b hb => (rfAt_none (l := []) (fun o ho => by cases ho) hb).elim)
    obtain ⟨e1, e2⟩ := nth_one hi
    cases e2
    subst e1
    refine ⟨cA, tys.length, by rw [List.getElem?_append_right (Nat.le_refl _), Nat.sub_self]; rfl, by omega, ?_⟩
    rw [Nat.add_zero, adU_at]
    show some (q, _) = some (q, Sum.inl (cA, n.toNat, acn _ _ _ _ 2))
    unfold acn
    simp only [hm.2.2 S.length _ (Nat.le_refl _)]
  have hv9 : lv_has la nL (asc (adU ad S.length q) aC 0 ls) := by rw [asc_ag (fun a ha => adU_ag ha) hl]; exact hv
  have hs9 : ∀ v ∈ st, vOk S.length v := fun v9 hv9 => hs _ (List.mem_cons_of_mem _ hv9)
  have k9 := k (adU ad S.length q) (fun a ha => adU_ag ha) _ hK1 _ H1 locs la _ h2 hL (fun v9 hv9 => vOk_mono (by simp) (hl _ hv9)) (fun v9 hv9 => by rcases List.mem_cons.mp hv9 with rfl | hv9; exact (show S.length < _ by simp); exact vOk_mono (by simp) (hs9 _ hv9)) (mOk_app hm) hw9 hP1 hD1 hS1 hv9
  rw [List.map_cons, map_ag (fun a ha => adU_ag ha) hs9, show rV (adU ad S.length q) aC (mR S.length) = .ref q by show Value.ref (adU ad S.length q S.length) = _; rw [adU_at]] at k9
  exact k9
theorem go_newq (hx : p.tables.exec = Jvm.exec) (hb : c.code = cc) {own : String} {i ci : Nat} {n : Int} (hts : ∀ w ∈ lw_g, w.before args s = true) (hown : s.vm.findClass own = some m.cls) (hK : va_K D vwCl tys s) (hcl : (Cond.classLink own i (cnm ci)).before args s = true) (hAO : va_AO (cnm ci) s) (hA0 : ∀ q, s.heap.size ≤ q → A q) (hrO : r.length = S.length) (g : 0 ≤ n ∧ n ≤ 10000) (hcells : cells + 1 ≤ Rm.cells) (hslots : slots + n.toNat ≤ Rm.slots) (hd : Dc cc pcs j (.anewarray i) 3 nx) (k : ∀ ad9 : Nat → Nat, (∀ a, a < S.length → ad9 a = ad a) → ∀ tys9, va_K D vwCl tys9 s → Go (fun H locs pc la sv => W p l e Rm s m args below meth c H locs (cells + 1) (slots + n.toNat) Q (F0 m pc la sv)) D A tys9 ad9 aC nL s pcs (S ++ [.inr (10 + ci, n.toNat)]) (r ++ [List.replicate n.toNat none]) (nx) (ls) (mR S.length :: st) (h)) : Go (fun H locs pc la sv => W p l e Rm s m args below meth c H locs cells slots Q (F0 m pc la sv)) D A tys ad aC nL s pcs S r (j) (ls) (mI n :: st) (h) := by
  intro ws H locs la pc hpc hL hl hs hm hw hP hD hS hv
  obtain ⟨pc0, h1, hdg, h2⟩ := hd
  cases hpc.symm.trans h1
  have hn9 : inI n := hs _ List.mem_cons_self
  have hR : ∀ k, rfAt (r ++ [List.replicate n.toNat none]) S.length k = none := fun k => by
    rw [rfAt_app, if_neg (by omega), hrO, Nat.sub_self]
    cases q : rfAt [List.replicate n.toNat none] 0 k with
    | none => rfl
    | some b => exact (rfAt_none rep_none q).elim
  refine va_newq hx hb hown hcl hAO hK hP hD hS hA0 (nneg hn9 g.1) (clampN hn9) (by omega) hcells hslots hdg (fun q cA H1 hK1 hP1 hD1 hS1 => ?_)
  have hw9 : Wld (tys ++ [(cA, .object (cnm ci))]) (ws ++ [(q, .inl (cA, n.toNat, .inr (.inr (.inr (.inr (fun _ => none))))))]) (adU ad S.length q) (S ++ [.inr (10 + ci, n.toNat)]) (r ++ [List.replicate n.toNat none]) h := by
    refine Wld_app hw hrO (fun a ha => adU_ag (q := q) ha) rfl (fun i c2 hi => by cases (nth_one hi).2) (fun i t n9 hi => ?_) (fun i k b hb => (rfAt_none rep_none hb).elim)
    obtain ⟨e1, e2⟩ := nth_one hi
    cases e2
    subst e1
    refine ⟨cA, tys.length, by rw [List.getElem?_append_right (Nat.le_refl _), Nat.sub_self]; show some (cA, _) = some (cA, aty (10 + ci)); rw [aty_obj], by omega, ?_⟩
    rw [Nat.add_zero, adU_at]
    show some (q, _) = some (q, Sum.inl (cA, n.toNat, acn _ _ _ _ (10 + ci)))
    rw [acn_obj]
    simp only [hR]
    rfl
  have hv9 : lv_has la nL (asc (adU ad S.length q) aC 0 ls) := by rw [asc_ag (fun a ha => adU_ag ha) hl]; exact hv
  have hs9 : ∀ v ∈ st, vOk S.length v := fun v9 hv9 => hs _ (List.mem_cons_of_mem _ hv9)
  have k9 := k (adU ad S.length q) (fun a ha => adU_ag ha) _ hK1 _ H1 locs la _ h2 hL (fun v9 hv9 => vOk_mono (by simp) (hl _ hv9)) (fun v9 hv9 => by rcases List.mem_cons.mp hv9 with rfl | hv9; exact (show S.length < _ by simp); exact vOk_mono (by simp) (hs9 _ hv9)) (mOk_app hm) hw9 hP1 hD1 hS1 hv9
  rw [List.map_cons, map_ag (fun a ha => adU_ag ha) hs9, show rV (adU ad S.length q) aC (mR S.length) = .ref q by show Value.ref (adU ad S.length q S.length) = _; rw [adU_at]] at k9
  exact k9
theorem go_putR (hx : p.tables.exec = Jvm.exec) (hb : c.code = cc) {own ref C : String} {T : u_T} {N ci i kf b : Nat} {f : List Nat} {a : Nat} (hts : ∀ w ∈ lw_g, w.before args s = true) (hin : ∀ w ∈ u_ws C T N, w ∈ lw_g) (hown : s.vm.findClass own = some m.cls) (hK : va_K D vwCl tys s) (hc : vwCl[ci]? = some (C, T, N)) (hf : nth FT ci = some f) (ht : nth f kf = some 2) (hkN : kf < N) (hlink : (Cond.fieldLink own i ref (T kf).2.1 (T kf).2.2.1).before args s = true) (hsame : ref = (T kf).1) (ho : nth S a = some (.inl ci)) (ty0 : Nat → FieldType) (hty : ∀ k, k < N → parseFieldDescriptor (T k).2.2.1 = some (ty0 k)) (hnm : ∀ a, a < N → ∀ b, b < N → a ≠ b → (T a).2.1 ≠ (T b).2.1) (h00 : tyC 2 (ty0 kf) = true) (hrO : rOk S r) (hfin : (T kf).2.2.2 = false) (hd : Dc cc pcs j (.putfield i) 3 nx) (k : Go (fun H locs pc la sv => W p l e Rm s m args below meth c H locs (cells) (slots) Q (F0 m pc la sv)) D A tys ad aC nL s pcs (S) (rset r a kf b) (nx) (ls) (st) (h)) : Go (fun H locs pc la sv => W p l e Rm s m args below meth c H locs cells slots Q (F0 m pc la sv)) D A tys ad aC nL s pcs S r (j) (ls) (mR b :: mR a :: st) (h) := by
  intro ws H locs la pc hpc hL hl hs hm hw hP hD hS hv
  obtain ⟨pc0, h1, hdg, h2⟩ := hd
  cases hpc.symm.trans h1
  obtain ⟨f9, hf9, hc9⟩ := hw.2.1 a ci ho
  cases hf.symm.trans hf9
  have hb9 : b < S.length := hs _ List.mem_cons_self
  obtain ⟨nr, nf⟩ := ref_ty (ad b) h00
  refine va_put (D := D) (v := .ref (ad b)) (ty := ty0 kf) hx hb hts hin ty0 hty hnm hown hK hP hD hS a hc9 hc kf hkN hlink (fun x q => by rw [hsame]; exact q) hfin (hty kf hkN) nr nf (by rw [fvs_len]; exact nth_lt ht) hdg (fun H1 locs1 hP1 hD1 hS1 => ?_)
  rw [← fvs_setR hrO ho hf ht] at hP1 hD1
  exact k _ H1 locs1 la _ h2 hL hl (fun v9 hv9 => hs _ (List.mem_cons_of_mem _ (List.mem_cons_of_mem _ hv9))) hm (Wld_setR hw hrO ho hf hb9) hP1 hD1 hS1 hv
theorem go_putRF (hx : p.tables.exec = Jvm.exec) (hb : c.code = cc) {own ref C : String} {T : u_T} {N ci i kf b : Nat} {f : List Nat} {a : Nat} (hts : ∀ w ∈ lw_g, w.before args s = true) (hin : ∀ w ∈ u_ws C T N, w ∈ lw_g) (hown : s.vm.findClass own = some m.cls) (hK : va_K D vwCl tys s) (hc : vwCl[ci]? = some (C, T, N)) (hf : nth FT ci = some f) (ht : nth f kf = some 2) (hkN : kf < N) (hlink : (Cond.fieldLink own i ref (T kf).2.1 (T kf).2.2.1).before args s = true) (hsame : ref = (T kf).1) (ho : nth S a = some (.inl ci)) (ty0 : Nat → FieldType) (hty : ∀ k, k < N → parseFieldDescriptor (T k).2.2.1 = some (ty0 k)) (hnm : ∀ a, a < N → ∀ b, b < N → a ≠ b → (T a).2.1 ≠ (T b).2.1) (h00 : tyC 2 (ty0 kf) = true) (hrO : rOk S r) (hfin : (T kf).2.2.2 = true) (hin2 : meth.name = "<init>") (hdecl : (T kf).1 = own) (hd : Dc cc pcs j (.putfield i) 3 nx) (k : Go (fun H locs pc la sv => W p l e Rm s m args below meth c H locs (cells) (slots) Q (F0 m pc la sv)) D A tys ad aC nL s pcs (S) (rset r a kf b) (nx) (ls) (st) (h)) : Go (fun H locs pc la sv => W p l e Rm s m args below meth c H locs cells slots Q (F0 m pc la sv)) D A tys ad aC nL s pcs S r (j) (ls) (mR b :: mR a :: st) (h) := by
  intro ws H locs la pc hpc hL hl hs hm hw hP hD hS hv
  obtain ⟨pc0, h1, hdg, h2⟩ := hd
  cases hpc.symm.trans h1
  obtain ⟨f9, hf9, hc9⟩ := hw.2.1 a ci ho
  cases hf.symm.trans hf9
  have hb9 : b < S.length := hs _ List.mem_cons_self
  obtain ⟨nr, nf⟩ := ref_ty (ad b) h00
  refine va_putF (D := D) (v := .ref (ad b)) (ty := ty0 kf) hx hb hts hin ty0 hty hnm hown hK hP hD hS a hc9 hc kf hkN hlink (fun x q => by rw [hsame]; exact q) hfin hin2 hdecl (hty kf hkN) nr nf (by rw [fvs_len]; exact nth_lt ht) hdg (fun H1 locs1 hP1 hD1 hS1 => ?_)
  rw [← fvs_setR hrO ho hf ht] at hP1 hD1
  exact k _ H1 locs1 la _ h2 hL hl (fun v9 hv9 => hs _ (List.mem_cons_of_mem _ (List.mem_cons_of_mem _ hv9))) hm (Wld_setR hw hrO ho hf hb9) hP1 hD1 hS1 hv
theorem go_astq (hx : p.tables.exec = Jvm.exec) (hb : c.code = cc) {a v n ci : Nat} {x : Int} {f : List Nat} (hK : va_K D vwCl tys s) (ho : nth S a = some (.inr (10 + ci, n))) (hvo : nth S v = some (.inl ci)) (g : inA x n) (hrO : rOk S r) (hd : Dc cc pcs j .aastore 1 nx) (k : Go (fun H locs pc la sv => W p l e Rm s m args below meth c H locs (cells) (slots) Q (F0 m pc la sv)) D A tys ad aC nL s pcs (S) (rset r a x.toNat v) (nx) (ls) (st) (h)) : Go (fun H locs pc la sv => W p l e Rm s m args below meth c H locs cells slots Q (F0 m pc la sv)) D A tys ad aC nL s pcs S r (j) (ls) (mR v :: mI x :: mR a :: st) (h) := by
  intro ws H locs la pc hpc hL hl hs hm hw hP hD hS hv
  obtain ⟨pc0, h1, hdg, h2⟩ := hd
  cases hpc.symm.trans h1
  obtain ⟨cA, t0, g1, g2, g3⟩ := hw.2.2.1 a _ _ ho
  obtain ⟨f9, hf9, hc9⟩ := hw.2.1 v ci hvo
  obtain ⟨C, N, hc, -, -, -, -⟩ := vwT_facts hf9
  have hcn : cnm ci = C := by unfold cnm; rw [nth_get, hc]
  obtain ⟨i1, i2⟩ := inA_in (hs _ (List.mem_cons_of_mem _ List.mem_cons_self)) g
  have hv9 : v < S.length := nth_lt hvo
  rw [aty_obj, hcn] at g1
  rw [acn_obj] at g3
  refine va_astq hx hb hK hP hD hS a t0 v ci g3 g1 hc9 hc i1 hdg (fun H1 locs1 hP1 hD1 hS1 => ?_)
  rw [i2] at hP1 hD1
  have e9 := acn_setR (ad := ad) (h := h) (v := v) hrO ho g
  rw [← e9] at hP1 hD1
  exact k _ H1 locs1 la _ h2 hL hl (fun v9 hv9 => hs _ (List.mem_cons_of_mem _ (List.mem_cons_of_mem _ (List.mem_cons_of_mem _ hv9)))) hm (Wld_setA hw hrO ho (by rw [acn_obj]; exact g3) hv9) hP1 hD1 hS1 hv
theorem go_objI (hx : p.tables.exec = Jvm.exec) (hb : c.code = cc) {own : String} {i a : Nat} (hts : ∀ w ∈ lw_g, w.before args s = true) (hown : s.vm.findClass own = some m.cls) (hlink : (Cond.methodLink own i Lib.objectInit).before args s = true) (hml : c.maxLocals = nL) (hR : 1 ≤ Rm.frames ∧ 100 ≤ Rm.locals) (hw8 : wds st ≤ 8) (hd : Dc cc pcs j (.invokespecial i) 3 nx) (k : Go (fun H locs pc la sv => W p l e Rm s m args below meth c H locs (cells) (slots) Q (F0 m pc la sv)) D A tys ad aC nL s pcs (S) (r) (nx) (ls) (st) (h)) : Go (fun H locs pc la sv => W p l e Rm s m args below meth c H locs cells slots Q (F0 m pc la sv)) D A tys ad aC nL s pcs S r (j) (ls) (mR a :: st) (h) := by
  intro ws H locs la pc hpc hL hl hs hm hw hP hD hS hv
  obtain ⟨pc0, h1, hdg, h2⟩ := hd
  cases hpc.symm.trans h1
  refine W.objInit hx hb hown hlink (hts _ obj_inst) (hts _ obj_code) rfl (by rw [hml]; exact hv.1) rfl hdg hR.1 (by
    have q := wds_ok (ad := ad) (aC := aC) st
    show 2 * 0 + ((st.map (rV ad aC)).map fun v => v.category).sum + 12 ≤ _
    rw [q]
    omega) ?_
  exact k _ H locs la _ h2 hL hl (fun v9 hv9 => hs _ (List.mem_cons_of_mem _ hv9)) hm hw hP hD hS hv
theorem go_mna (hx : p.tables.exec = Jvm.exec) (hb : c.code = cc) {own : String} {i : Nat} {n k0 : Int} (hts : ∀ w ∈ lw_g, w.before args s = true) (hown : s.vm.findClass own = some m.cls) (hK : va_K D vwCl tys s) (hcl : (Cond.classLink own i "[[J").before args s = true) (hAO : sm_AOA .long s) (hA0 : ∀ q, s.heap.size ≤ q → A q) (hrO : r.length = S.length) (g : (0 ≤ n ∧ n ≤ 100) ∧ 0 ≤ k0 ∧ k0 ≤ 100) (hcells : cells + (1 + n.toNat) ≤ Rm.cells) (hslots : slots + (n.toNat + n.toNat * k0.toNat) ≤ Rm.slots) (hd : Dc cc pcs j (.multianewarray i 2) 4 nx) (k : ∀ ad9 : Nat → Nat, (∀ a, a < S.length → ad9 a = ad a) → ∀ tys9, va_K D vwCl tys9 s → Go (fun H locs pc la sv => W p l e Rm s m args below meth c H locs (cells + 1 + n.toNat) (slots + n.toNat + n.toNat * k0.toNat) Q (F0 m pc la sv)) D A tys9 ad9 aC nL s pcs (S ++ (.inr (3, n.toNat) :: List.replicate n.toNat (.inr (1, k0.toNat)))) (r ++ ((List.range n.toNat).map (fun q => some (S.length + 1 + q)) :: List.replicate n.toNat [])) (nx) (ls) (mR S.length :: st) (h)) : Go (fun H locs pc la sv => W p l e Rm s m args below meth c H locs cells slots Q (F0 m pc la sv)) D A tys ad aC nL s pcs S r (j) (ls) (mI k0 :: mI n :: st) (h) := by
  intro ws H locs la pc hpc hL hl hs hm hw hP hD hS hv
  obtain ⟨pc0, h1, hdg, h2⟩ := hd
  cases hpc.symm.trans h1
  have hk9 : inI k0 := hs _ List.mem_cons_self
  have hn9 : inI n := hs _ (List.mem_cons_of_mem _ List.mem_cons_self)
  have harr : (Cond.arrayClass .long).before args s = true := hts _ (mem_g (by decide +kernel) rfl)
  obtain ⟨cy, kA, comp, hcy, hky, hkind⟩ := Cond.arrayClass_spec harr
  have hKc : va_K D vwCl [(cy, .long)] s := ⟨hK.1, fun k x hx => by
    have hz : k < 1 := (List.getElem?_eq_some_iff.mp hx).1
    rw [show k = 0 by omega] at hx
    cases hx
    exact ⟨fun N z => ⟨fun k h => (by cases h), kA, hky, comp, hkind⟩, hcy⟩⟩
  refine va_mna (X := ws) (L := []) (f := fun _ => .inr (0, [])) (ty := .long) (cy := cy) (z := (k0.toNat, .inr (.inl (fun _ => Int64.ofInt 0)))) hx hb hown hcl hAO harr hcy hK (by rw [show ws ++ va_pl [] _ = ws from List.append_nil ws]; exact hP) (by rw [show ws ++ va_pl [] _ = ws from List.append_nil ws]; exact hD) hS hA0 (nneg hn9 g.1.1) (nneg hk9 g.2.1) (clampN hn9) (clampN hk9) (by omega) (by show k0.toNat * 8 ≤ _; omega) (by omega) rfl rfl hcells hslots (fun c => inner_c c _) hdg (fun q rr cA H1 hinj _ hK1 hP1 hD1 hS1 => ?_)
  rw [List.nil_append, List.append_assoc] at hP1 hD1
  have hK9 := va_K.app hK1 hKc
  rw [List.append_assoc] at hK9
  have hs9 : ∀ v ∈ st, vOk S.length v := fun v9 hv9 => hs _ (List.mem_cons_of_mem _ (List.mem_cons_of_mem _ hv9))
  have k9 := k (adM ad S.length q rr) (fun a ha => adM_ag ha) _ hK9 _ H1 locs la _ h2 hL (fun v9 hv9 => vOk_mono (by simp) (hl _ hv9)) (fun v9 hv9 => by rcases List.mem_cons.mp hv9 with rfl | hv9; exact (show S.length < _ by simp); exact vOk_mono (by simp) (hs _ (List.mem_cons_of_mem _ (List.mem_cons_of_mem _ hv9)))) (mOk_app hm) (Wld_mna hw hrO g.1.2 g.2.2 (hm.2.2 · · ·)) hP1 hD1 hS1 (by rw [asc_ag (fun a ha => adM_ag ha) hl]; exact hv)
  rw [List.map_cons, map_ag (fun a ha => adM_ag ha) hs9, show rV (adM ad S.length q rr) aC (mR S.length) = .ref q by show Value.ref (adM ad S.length q rr S.length) = _; rw [adM_at]] at k9
  exact k9
end
end
section
/-! WORDS OF CALLS -/
def tblQ {α : Type} (f : α → Cond) (q : α × Nat) : Bool := decide (lw_tbl[q.2]? = some (f q.1)) && goodWord (f q.1)
theorem zip_tbl {α : Type} {f : α → Cond} {l : List α} {ps : List Nat} (hl9 : Nat.beq l.length ps.length = true) (h : (l.zip ps).all (tblQ f) = true) {q : α} (hq : q ∈ l) : f q ∈ lw_g := by
  have hl := Nat.eq_of_beq_eq_true hl9
  obtain ⟨i, hi⟩ := List.getElem?_of_mem hq
  have hi2 : i < l.length := (List.getElem?_eq_some_iff.mp hi).1
  obtain ⟨n, hn⟩ : ∃ n, ps[i]? = some n := ⟨ps[i], List.getElem?_eq_getElem (by omega)⟩
  have hz : (l.zip ps)[i]? = some (q, n) := by rw [List.getElem?_zip_eq_some]; exact ⟨hi, hn⟩
  have h2 := List.all_eq_true.mp h _ (List.mem_of_getElem? hz)
  unfold tblQ at h2
  rw [Bool.and_eq_true] at h2
  exact mem_g (List.mem_of_getElem? (of_decide_eq_true h2.1)) h2.2
def beqL : List UInt8 → List UInt8 → Bool
  | [], [] => true
  | a :: l, b :: k => Nat.beq a.toNat b.toNat && beqL l k
  | _, _ => false
theorem beqL_eq : ∀ {l k : List UInt8}, beqL l k = true → l = k
  | [], [], _ => rfl
  | a :: l, b :: k, h => by
    unfold beqL at h
    rw [Bool.and_eq_true] at h
    rw [beqL_eq h.2, UInt8.toNat_inj.mp (Nat.eq_of_beq_eq_true h.1)]
  | [], _ :: _, h => by cases h
  | _ :: _, [], h => by cases h
def beqB (a b : ByteArray) : Bool := beqL a.data.toList b.data.toList
theorem beqB_eq {a b : ByteArray} (h : beqB a b = true) : a = b := ByteArray.ext (Array.ext' (beqL_eq h))
def cdQ (q : Nat × Nat) : Bool := match tables_1[q.2]? with
  | some (.code y b n r) => decide (y = mtY q.1) && beqB b (mtB q.1) && Nat.beq n (PP q.1).2 && decide (r = mtR q.1)
  | _ => false
theorem cdQ_ok {q : Nat × Nat} (h : cdQ q = true) : Cond.code (mtY q.1) (mtB q.1) (PP q.1).2 (mtR q.1) ∈ lw_g := by
  unfold cdQ at h
  split at h
  · next y b n r e =>
    simp only [Bool.and_eq_true, decide_eq_true_eq] at h
    obtain ⟨⟨⟨h1, h2⟩, h3⟩, h4⟩ := h
    refine mem_g (List.mem_append_right _ (List.mem_of_getElem? (i := q.2) ?_)) rfl
    rw [e, h1, beqB_eq h2, Nat.eq_of_beq_eq_true h3, h4]
  · cases h
def CDl_p : List Nat := [984, 25, 480, 484, 488, 492, 519, 542, 554, 523, 558, 575, 591, 730, 793, 805, 830, 858, 863, 875, 894, 904, 908, 912, 916, 924, 930, 936, 941, 945, 953, 957, 973, 949, 961, 969, 977, 991, 999, 1011, 1016, 1029, 1043, 1047, 1051, 1097, 1109, 1127, 1055, 1063, 1059, 1141, 1157, 1161, 1188, 1145, 1152, 1165, 1192, 1228, 1236, 1240, 1244, 1298, 1302, 1306, 1320, 726, 546, 515, 507, 1117, 1120, 920, 503, 850, 1333, 1338, 1481, 1485, 1489, 1500, 1560, 1640, 1933, 1496, 1511, 1493, 1508, 1504, 1515, 1520, 1736, 1524, 1528, 1548, 1551, 1554, 1544, 1622, 1569, 1575, 1540, 1618, 1602, 1606, 1590, 1598, 1594, 1532, 1636, 1586, 1579, 1614, 1610, 1629, 1632, 1583, 1626, 1564, 1536, 1656, 1660, 1652, 1648, 1644, 1696, 1782, 1884, 1676, 1684, 1708, 1712, 1704, 1672, 1668, 1680, 1700, 1688, 1664, 1692, 1716, 1728, 1724, 1720, 1748, 1744, 1740, 1732, 1756, 1752, 1765, 1760, 1769, 1773, 1778, 1786, 1790, 1997, 1811, 1819, 1799, 1794, 1803, 1815, 1807, 1823, 1835, 1831, 1827, 1839, 1847, 1843, 1851, 1859, 1855, 1863, 1871, 1867, 1881, 1876, 1888, 1896, 1892, 1904, 1913, 1921, 1917, 1909, 1900, 1925, 1929, 1941, 1937, 1949, 1955, 1945, 1959, 1977, 1972, 1969, 1963, 1981, 2001, 1994, 1990, 1985, 2005, 2009, 2013, 2046, 2034, 2030, 2038, 2042, 2026, 2051, 2055, 2022, 2017, 2059, 2063, 2071, 2067, 2075, 156, 599, 718, 834, 676, 688, 680, 706, 844, 839, 813, 809, 817, 854, 822, 826, 965, 867, 871, 879, 887, 883, 898, 981, 995, 1007, 1003, 1020, 1025, 1033, 1038, 389, 1224, 1232, 1196, 1202, 1218, 1209, 1214, 410, 1169, 1182, 1174, 1178, 330, 1248, 1253, 1257, 1261, 1268, 1274, 1279, 1283, 1287, 1293, 269, 714, 595, 642, 646, 672, 693, 697, 308, 1310, 1324, 1314, 1328, 53, 587, 797, 801, 579, 583, 710, 603, 638, 776, 780, 664, 650, 684, 668, 659, 701, 610, 620, 631, 624, 106, 613, 616, 627, 634, 219, 722, 751, 788, 287, 784, 734, 741, 745, 768, 757, 772, 762, 33, 496, 500, 527, 531, 562, 566, 511, 550, 535, 570, 538, 367, 1067, 1072, 1076, 1080, 1089, 1085, 1093, 1113, 1101, 1105, 1131, 1135]
def cdA (id : Nat) : Bool := cdQ (id, (nth CDl_p id).getD 0)
set_option maxRecDepth 100000 in
theorem CD_0 : (List.range' 0 60).all cdA = true := by decide +kernel
set_option maxRecDepth 100000 in
theorem CD_60 : (List.range' 60 60).all cdA = true := by decide +kernel
set_option maxRecDepth 100000 in
theorem CD_120 : (List.range' 120 60).all cdA = true := by decide +kernel
set_option maxRecDepth 100000 in
theorem CD_180 : (List.range' 180 60).all cdA = true := by decide +kernel
set_option maxRecDepth 100000 in
theorem CD_240 : (List.range' 240 60).all cdA = true := by decide +kernel
set_option maxRecDepth 100000 in
theorem CD_300 : (List.range' 300 57).all cdA = true := by decide +kernel
theorem CD_all {id : Nat} (h : id < 357) : Cond.code (mtY id) (mtB id) (PP id).2 (mtR id) ∈ lw_g := by
  by_cases h0 : id < 60
  · exact cdQ_ok (q := (id, _)) (List.all_eq_true.mp CD_0 id (List.mem_range'_1.mpr ⟨by omega, by omega⟩))
  by_cases h60 : id < 120
  · exact cdQ_ok (q := (id, _)) (List.all_eq_true.mp CD_60 id (List.mem_range'_1.mpr ⟨by omega, by omega⟩))
  by_cases h120 : id < 180
  · exact cdQ_ok (q := (id, _)) (List.all_eq_true.mp CD_120 id (List.mem_range'_1.mpr ⟨by omega, by omega⟩))
  by_cases h180 : id < 240
  · exact cdQ_ok (q := (id, _)) (List.all_eq_true.mp CD_180 id (List.mem_range'_1.mpr ⟨by omega, by omega⟩))
  by_cases h240 : id < 300
  · exact cdQ_ok (q := (id, _)) (List.all_eq_true.mp CD_240 id (List.mem_range'_1.mpr ⟨by omega, by omega⟩))
  by_cases h300 : id < 357
  · exact cdQ_ok (q := (id, _)) (List.all_eq_true.mp CD_300 id (List.mem_range'_1.mpr ⟨by omega, by omega⟩))
  exact absurd h (by omega)
def IMl : List Nat := [1, 2, 3, 4, 5, 6, 7, 8, 9, 10, 11, 12, 13, 14, 15, 16, 17, 18, 19, 20, 21, 22, 23, 24, 25, 26, 27, 28, 29, 30, 31, 32, 33, 34, 35, 36, 37, 38, 39, 40, 41, 42, 43, 44, 45, 46, 47, 48, 49, 50, 51, 52, 53, 54, 55, 56, 57, 58, 59, 60, 61, 62, 63, 64, 65, 66, 67, 68, 69, 70, 71, 73, 76, 77, 78, 79, 80, 81, 82, 83, 84, 87, 88, 89, 90, 91, 93, 94, 95, 98, 99, 100, 101, 102, 103, 104, 105, 106, 107, 108, 109, 110, 112, 113, 114, 117, 118, 119, 120, 121, 122, 123, 124, 125, 126, 127, 129, 130, 131, 133, 134, 135, 136, 137, 138, 139, 140, 141, 142, 143, 144, 145, 146, 147, 148, 149, 150, 151, 152, 153, 154, 155, 156, 157, 159, 160, 161, 162, 163, 164, 165, 166, 167, 168, 169, 170, 171, 172, 173, 174, 175, 176, 177, 178, 179, 180, 181, 182, 183, 184, 185, 186, 187, 188, 189, 190, 191, 192, 193, 194, 195, 196, 197, 198, 200, 201, 202, 203, 204, 205, 206, 207, 208, 209, 210, 211, 212, 213, 214, 215, 216, 217, 218, 219, 220, 221, 222, 223, 224, 225, 226, 227, 228, 229, 230, 231, 232, 233, 234, 235, 236, 237, 238, 239, 240, 241, 242, 243, 244, 245, 246, 247, 248, 249, 250, 251, 252, 253, 254, 255, 256, 257, 258, 259, 260, 261, 262, 263, 264, 265, 266, 267, 268, 269, 270, 271, 272, 273, 274, 275, 276, 277, 278, 279, 280, 281, 282, 283, 284, 285, 286, 287, 288, 289, 290, 291, 292, 293, 294, 295, 296, 297, 298, 299, 300, 301, 302, 303, 304, 305, 306, 307, 308, 309, 310, 311, 312, 313, 319, 320, 321, 322, 323, 324, 325, 326, 327, 328, 329, 330, 331, 332, 333, 334, 335, 336, 337, 338, 339, 340, 341, 342, 344, 345, 346, 347, 348, 349, 350, 351, 352, 353, 354, 355, 356]
def IMl_p : List Nat := [24, 478, 482, 486, 490, 517, 540, 552, 522, 557, 573, 589, 728, 791, 803, 828, 856, 861, 873, 892, 902, 906, 910, 914, 922, 928, 934, 939, 943, 951, 955, 971, 948, 960, 968, 975, 989, 997, 1009, 1014, 1027, 1041, 1045, 1049, 1095, 1107, 1125, 1054, 1062, 1058, 1139, 1155, 1159, 1186, 1144, 1151, 1164, 1190, 1226, 1234, 1238, 1242, 1296, 1300, 1304, 1318, 725, 545, 514, 506, 1116, 919, 1332, 1337, 1479, 1483, 1487, 1499, 1559, 1639, 1932, 1491, 1507, 1502, 1513, 1518, 1522, 1527, 1547, 1543, 1621, 1568, 1574, 1539, 1617, 1601, 1605, 1589, 1597, 1593, 1530, 1635, 1578, 1613, 1609, 1582, 1625, 1563, 1534, 1655, 1659, 1651, 1647, 1642, 1695, 1781, 1675, 1683, 1707, 1703, 1671, 1667, 1679, 1699, 1687, 1662, 1690, 1714, 1727, 1723, 1718, 1747, 1743, 1739, 1730, 1755, 1750, 1764, 1758, 1767, 1771, 1776, 1784, 1788, 1810, 1818, 1798, 1792, 1801, 1814, 1805, 1821, 1834, 1830, 1825, 1837, 1846, 1841, 1849, 1858, 1853, 1861, 1870, 1865, 1880, 1874, 1886, 1895, 1890, 1903, 1912, 1920, 1916, 1908, 1898, 1923, 1927, 1940, 1935, 1948, 1954, 1943, 1957, 1976, 1968, 1961, 1979, 2000, 1993, 1989, 1983, 2003, 2007, 2011, 2045, 2033, 2029, 2037, 2041, 2025, 2050, 2054, 2021, 2015, 2057, 2061, 2070, 2065, 2073, 155, 597, 716, 832, 674, 686, 678, 704, 842, 837, 811, 807, 815, 852, 820, 824, 963, 865, 869, 877, 885, 881, 896, 979, 993, 1005, 1001, 1018, 1024, 1031, 1037, 388, 1222, 1230, 1194, 1201, 1217, 1208, 1213, 409, 1167, 1180, 1172, 1176, 329, 1246, 1252, 1256, 1260, 1267, 1273, 1278, 1282, 1286, 1292, 268, 712, 593, 641, 645, 671, 692, 696, 307, 1308, 1322, 1312, 1326, 52, 585, 795, 799, 577, 581, 708, 601, 636, 774, 778, 662, 648, 682, 666, 657, 699, 608, 619, 630, 623, 218, 720, 749, 786, 286, 782, 732, 740, 744, 767, 756, 771, 761, 32, 494, 498, 525, 529, 560, 564, 509, 548, 533, 568, 366, 1065, 1070, 1074, 1079, 1088, 1084, 1091, 1111, 1099, 1104, 1129, 1134]
def IMl_f (id : Nat) : Cond := Cond.instanceMethod (mtY id)
set_option maxRecDepth 100000 in
theorem IMl_d : (IMl.zip IMl_p).all (tabQ IMl_f) = true := by decide +kernel
set_option maxRecDepth 100000 in
theorem IMl_l : Nat.beq IMl.length IMl_p.length = true := by decide +kernel
theorem IMl_ok {id : Nat} (h : id ∈ IMl) : IMl_f id ∈ lw_g := zip_tab IMl_l IMl_d h
def SMl : List Nat := [0, 72, 74, 75, 85, 86, 92, 96, 97, 111, 115, 116, 128, 132, 158, 199, 314, 315, 316, 317, 318, 343]
def SMl_p : List Nat := [983, 1119, 502, 849, 1495, 1510, 1735, 1550, 1553, 1585, 1628, 1631, 1883, 1711, 1996, 1971, 105, 612, 615, 626, 633, 537]
def SMl_f (id : Nat) : Cond := Cond.static (mtY id)
set_option maxRecDepth 100000 in
theorem SMl_d : (SMl.zip SMl_p).all (tabQ SMl_f) = true := by decide +kernel
set_option maxRecDepth 100000 in
theorem SMl_l : Nat.beq SMl.length SMl_p.length = true := by decide +kernel
theorem SMl_ok {id : Nat} (h : id ∈ SMl) : SMl_f id ∈ lw_g := zip_tab SMl_l SMl_d h
def SEl : List Nat := [2, 3, 4, 5, 6, 7, 8, 9, 10, 11, 12, 13, 14, 15, 16, 17, 18, 19, 20, 21, 22, 23, 24, 25, 26, 27, 28, 29, 30, 31, 32, 33, 34, 35, 36, 37, 38, 39, 40, 41, 42, 43, 44, 45, 46, 47, 48, 49, 50, 51, 52, 53, 54, 55, 56, 57, 58, 59, 60, 61, 62, 63, 64, 65, 66, 67, 68, 69, 70, 71, 73, 77, 78, 79, 80, 81, 82, 83, 84, 87, 88, 89, 90, 91, 93, 94, 95, 98, 99, 100, 101, 102, 103, 104, 105, 106, 107, 108, 109, 110, 112, 113, 114, 117, 118, 119, 120, 121, 122, 123, 124, 125, 126, 127, 129, 130, 131, 133, 134, 135, 136, 137, 138, 139, 140, 141, 142, 143, 144, 145, 146, 147, 148, 149, 150, 151, 152, 153, 154, 155, 156, 157, 159, 160, 161, 162, 163, 164, 165, 166, 167, 168, 169, 170, 171, 172, 173, 174, 175, 176, 177, 178, 179, 180, 181, 182, 183, 184, 185, 186, 187, 188, 189, 190, 191, 192, 193, 194, 195, 196, 197, 198, 200, 201, 202, 203, 204, 205, 206, 207, 208, 209, 210, 211, 212, 213, 214, 215, 216, 217, 218, 219, 220, 221, 222, 223, 224, 226, 227, 228, 229, 230, 231, 232, 233, 234, 235, 236, 237, 238, 239, 240, 241, 242, 243, 244, 245, 246, 247, 248, 249, 250, 251, 252, 253, 254, 255, 257, 258, 259, 260, 261, 262, 263, 265, 266, 267, 268, 270, 271, 272, 273, 274, 275, 276, 277, 278, 279, 281, 282, 283, 284, 285, 286, 287, 289, 290, 291, 292, 294, 295, 296, 297, 298, 299, 300, 301, 302, 303, 304, 305, 306, 307, 308, 309, 310, 311, 312, 313, 320, 321, 322, 324, 325, 326, 327, 328, 329, 330, 331, 333, 334, 335, 336, 337, 338, 339, 340, 341, 342, 345, 346, 347, 348, 349, 350, 351, 352, 353, 354, 355, 356]
def SEl_p : List Nat := [612, 616, 620, 624, 651, 674, 686, 2, 4, 707, 723, 862, 925, 937, 962, 990, 995, 1007, 1026, 1036, 1040, 1044, 1048, 1056, 1062, 1068, 1073, 1077, 1085, 1089, 1105, 21, 22, 23, 1109, 1123, 1131, 1143, 1148, 1161, 1175, 1179, 1183, 1229, 1241, 1259, 26, 28, 27, 1273, 1289, 1293, 1320, 35, 36, 37, 1324, 1360, 1368, 1372, 1376, 1430, 1434, 1438, 1452, 13, 3, 1, 0, 33, 20, 51, 1613, 1617, 1621, 52, 58, 75, 114, 1625, 53, 1636, 1647, 1652, 1656, 54, 57, 56, 72, 60, 61, 55, 71, 67, 68, 64, 66, 65, 1664, 74, 62, 70, 69, 63, 73, 59, 1668, 78, 79, 77, 76, 1776, 86, 97, 82, 84, 89, 88, 81, 80, 83, 87, 85, 1796, 1824, 1848, 91, 90, 1852, 94, 93, 92, 1864, 95, 1884, 96, 1892, 1901, 1905, 1910, 1918, 1922, 99, 101, 98, 1926, 1935, 100, 1939, 1955, 103, 102, 1959, 1971, 104, 1975, 1983, 105, 1987, 1995, 106, 1999, 107, 2008, 2020, 108, 2024, 109, 111, 113, 112, 110, 2032, 2057, 2061, 115, 2069, 116, 117, 2077, 2091, 119, 118, 2095, 2113, 122, 121, 120, 2117, 2137, 2141, 2145, 129, 126, 125, 127, 128, 124, 130, 131, 123, 2149, 2191, 2195, 132, 2199, 2207, 731, 850, 966, 808, 820, 812, 838, 976, 971, 945, 941, 949, 986, 954, 958, 1097, 999, 1003, 1011, 1019, 1015, 1030, 1113, 1127, 1139, 1135, 1152, 24, 1165, 25, 1356, 1364, 1328, 38, 41, 39, 40, 1301, 1314, 1306, 1310, 1380, 42, 43, 44, 45, 46, 47, 48, 49, 50, 846, 727, 8, 9, 10, 11, 12, 1442, 1456, 1446, 1460, 719, 929, 933, 711, 715, 842, 735, 770, 908, 912, 796, 782, 816, 800, 791, 833, 742, 5, 7, 6, 854, 883, 920, 916, 866, 14, 15, 18, 16, 19, 17, 628, 632, 659, 663, 694, 698, 643, 682, 667, 702, 1199, 1204, 1208, 29, 31, 30, 1225, 1245, 1233, 32, 1263, 34]
def SEl_f (id : Nat) : Cond := Cond.selects (mtY id).cls (mtY id) (mtY id)
set_option maxRecDepth 100000 in
theorem SEl_d : (SEl.zip SEl_p).all (tblQ SEl_f) = true := by decide +kernel
set_option maxRecDepth 100000 in
theorem SEl_l : Nat.beq SEl.length SEl_p.length = true := by decide +kernel
theorem SEl_ok {id : Nat} (h : id ∈ SEl) : SEl_f id ∈ lw_g := zip_tbl SEl_l SEl_d h
theorem VLl_q : VLl.all (fun q => SEl.elem q.2.2 && IMl.elem q.2.2) = true := by decide +kernel
theorem SLl_q : (SLl ++ NSl).all (fun q => SMl.elem q.2.2) = true := by decide +kernel
theorem ILl_q : (ILl ++ NIl).all (fun q => IMl.elem q.2.2 && decide ((mtY q.2.2).name = "<init>") && decide (mtR q.2.2 = none)) = true := by decide +kernel
theorem NVl_q : NVl = [] := rfl
theorem LNl_q : (VLl ++ (SLl ++ NSl) ++ (ILl ++ NIl)).all (fun q => Nat.blt q.2.2 357) = true := by decide +kernel
def okN (id : Nat) : Bool := true && plainName (mtY id).cls && decide ((mtY id).cls ≠ "java/lang/invoke/MethodHandle") && decide ((mtY id).cls ≠ "java/lang/invoke/VarHandle") && Nat.ble (PP id).2 40 && Nat.ble (mtK id) 38
set_option maxRecDepth 100000 in
theorem okN_all : (List.range 357).all okN = true := by decide +kernel
def INl : List Nat := [0, 1, 2, 3, 4, 5, 6, 7, 8, 9, 10, 11, 12, 14]
def INl_f (oc : Nat) : Cond := Cond.initialized (RN oc)
def INl_p : List Nat := [8, 16, 17, 14, 11, 13, 3, 10, 12, 2, 15, 1, 18, 20]
theorem INl_d : (INl.zip INl_p).all (tabQ INl_f) = true := by decide +kernel
theorem INl_l : Nat.beq INl.length INl_p.length = true := by decide +kernel
theorem INl_ok {oc : Nat} (h : oc ∈ INl) : INl_f oc ∈ lw_g := zip_tab INl_l INl_d h
set_option maxRecDepth 100000 in
theorem okO_all : (List.range 357).all (fun id => INl.elem (mtO id) && decide ((mtY id).cls = RN (mtO id))) = true := by decide +kernel
/-- what is so of every method but the law's -/
theorem mt_facts {id : Nat} (h : id < 357) : Cond.code (mtY id) (mtB id) (PP id).2 (mtR id) ∈ lw_g ∧ plainName (mtY id).cls = true ∧ (mtY id).cls ≠ "java/lang/invoke/MethodHandle" ∧ (mtY id).cls ≠ "java/lang/invoke/VarHandle" ∧ (PP id).2 ≤ 40 ∧ mtK id ≤ 38 ∧ (mtY id).cls = RN (mtO id) ∧ Cond.initialized (mtY id).cls ∈ lw_g := by
  have h1 := List.all_eq_true.mp okN_all id (List.mem_range.mpr h)
  have h2 := List.all_eq_true.mp okO_all id (List.mem_range.mpr h)
  unfold okN at h1
  simp only [Bool.and_eq_true, decide_eq_true_eq] at h1 h2
  obtain ⟨⟨⟨⟨⟨a, b⟩, c⟩, d⟩, e⟩, f⟩ := h1
  refine ⟨CD_all h, b, c, d, Nat.le_of_ble_eq_true e, Nat.le_of_ble_eq_true f, h2.2, ?_⟩
  rw [h2.2]
  exact INl_ok (mem_elem h2.1)
end
section
/-! CALLS: what is given, where a method begins -/
theorem sm_AOA.moved {ty : FieldType} {u U : State} (hvm : u.vm.Alike U.vm) (h : sm_AOA ty u) : sm_AOA ty U := by
  unfold sm_AOA Cond.before Cond.holds at h ⊢
  simp only [Cond.value, beq_iff_eq] at h ⊢
  cases hc : u.vm.findClass (FieldType.array ty).toString with
  | none => simp [hc] at h
  | some comp =>
    simp only [hc, Option.bind_some, Option.bind_eq_some_iff, Option.map_eq_some_iff] at h
    obtain ⟨c, hi, k, hk, hb⟩ := h
    obtain ⟨k', hk', he⟩ := hvm.2.2 _ _ hk
    have hb9 : U.vm.bare = u.vm.bare := by first | exact hvm.bare_eq | exact hvm.bare_eq.symm
    have hi : (U.vm.classes.findIdx? fun (x : Class) => match x.kind with | .array component _ => component == comp | _ => false) = some c := (va_idx_bare U.vm comp).symm.trans ((congrArg (fun b : Vm => b.classes.findIdx? fun (x : Class) => match x.kind with | .array component _ => component == comp | _ => false) hb9).trans ((va_idx_bare u.vm comp).trans hi))
    rw [hvm.findClass, hc, Option.bind_some]
    refine (congrArg (fun o : Option Nat => (o.bind (fun c => (U.vm.classes[c]?).map fun (k : Class) => match k.kind with | .array _ ty9 => decide (ty9 = FieldType.array ty) && decide (U.vm.findClass ("[" ++ (FieldType.array ty).toString) = some c) | _ => false))) hi).trans ?_
    rw [Option.bind_some, hk', Option.map_some, he, hvm.findClass]
    exact congrArg some hb
theorem Amb.same {ct : Nat → List Int} {aC : Nat → Nat} {A : Nat → Prop} {u U : State} {H : Heap} (hv : u.vm = U.vm) (h : Amb ct aC A u H) : Amb ct aC A U H := by
  have hal : u.vm.Alike U.vm := by rw [hv]; exact Vm.Alike.refl U.vm
  obtain ⟨h1, h2, h3, h4, h5, h6, h7, h8, ⟨adK, adV, h9, e5, e6⟩, h10, h11⟩ := h
  exact ⟨fun k a b => va_T.moved hal (h1 k a b), fun k a b => va_Z.moved hal (h2 k a b), fun q hq => va_Nw.same rfl hv (h3 q hq), fun q hq => va_Nw.same rfl hv (h4 q hq), fun q hq => (h5 q hq).imp fun tx z => vk_R.same hv.symm z, va_AO.moved hal h6, va_AO.moved hal h7, sm_AOA.moved hal h8, ⟨adK, adV, vk_S.moved hal h9, e5, e6⟩, va_Z.moved hal h10, va_Zq.moved hal h11⟩
theorem Amb.warm {ct : Nat → List Int} {aC : Nat → Nat} {A : Nat → Prop} {s U : State} {H : Heap} (hW : s.WarmedH U.vm) (h : Amb ct aC A s H) : Amb ct aC A U H := by
  have hal : s.vm.Alike U.vm := hW.alike
  obtain ⟨h1, h2, h3, h4, h5, h6, h7, h8, ⟨adK, adV, h9, e5, e6⟩, h10, h11⟩ := h
  exact ⟨fun k a b => va_T.moved hal (h1 k a b), fun k a b => va_Z.moved hal (h2 k a b), fun q hq => va_Nw.warmF hW (h3 q hq), fun q hq => va_Nw.warmM hW (h4 q hq), fun q hq => (h5 q hq).imp fun tx z => vk_R.warm hW z, va_AO.moved hal h6, va_AO.moved hal h7, sm_AOA.moved hal h8, ⟨adK, adV, vk_S.moved hal h9, e5, e6⟩, va_Z.moved hal h10, va_Zq.moved hal h11⟩
theorem Amb.kept {ct : Nat → List Int} {aC : Nat → Nat} {A : Nat → Prop} {s : State} {H H1 : Heap} (h : Amb ct aC A s H) (hq : ∀ a : Nat, a < H.size → ¬ A a → H1[a]? = H[a]?) : Amb ct aC A s H1 := by
  obtain ⟨h1, h2, h3, h4, h5, h6, h7, h8, ⟨adK, adV, h9, e5, e6⟩, h10, h11⟩ := h
  exact ⟨fun k a b => (h1 k a b).kept hq, fun k a b => (h2 k a b).kept hq, h3, h4, h5, h6, h7, h8, ⟨adK, adV, h9.kept hq, e5, e6⟩, h10.kept hq, h11.kept hq⟩
theorem Amb.narrow {ct : Nat → List Int} {aC : Nat → Nat} {A B : Nat → Prop} {s : State} {H : Heap} (h : Amb ct aC A s H) (hAB : ∀ q, B q → A q) : Amb ct aC B s H := by
  obtain ⟨h1, h2, h3, h4, h5, h6, h7, h8, ⟨adK, adV, h9, e5, e6⟩, h10, h11⟩ := h
  exact ⟨fun k a b => (h1 k a b).narrow hAB, fun k a b => (h2 k a b).narrow hAB, h3, h4, h5, h6, h7, h8, ⟨adK, adV, h9.narrow hAB, e5, e6⟩, h10.narrow hAB, h11.narrow hAB⟩
end
