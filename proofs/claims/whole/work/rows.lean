section
-- ===== PART A: goes FIRST, ahead of the names: the tables' words, and 'selects' of the private methods out of them =====
/-- a private method of a class that the tables say can be made, by its rows of tables_1 -/
def lw_okq (q : MethodName × Nat) : Prop := (q.1.cls ≠ "java/lang/invoke/MethodHandle" ∧ q.1.cls ≠ "java/lang/invoke/VarHandle") ∧ Cond.instantiable q.1.cls q.2 ∈ tables_1 ∧ Cond.privateMethod q.1 ∈ tables_1 ∧ Cond.instanceMethod q.1 ∈ tables_1
theorem lw_p0 : lw_okq (⟨"ToastMap", "deny", "(I)Z"⟩, 19) := ⟨⟨by decide +kernel, by decide +kernel⟩, List.mem_of_getElem? (i := 22) (by decide +kernel), List.mem_of_getElem? (i := 505) (by decide +kernel), List.mem_of_getElem? (i := 506) (by decide +kernel)⟩
theorem lw_p1 : lw_okq (⟨"ToastMap", "grant", "()Z"⟩, 19) := ⟨⟨by decide +kernel, by decide +kernel⟩, List.mem_of_getElem? (i := 22) (by decide +kernel), List.mem_of_getElem? (i := 513) (by decide +kernel), List.mem_of_getElem? (i := 514) (by decide +kernel)⟩
theorem lw_p2 : lw_okq (⟨"ToastMap", "placeStatus", "(II)I"⟩, 19) := ⟨⟨by decide +kernel, by decide +kernel⟩, List.mem_of_getElem? (i := 22) (by decide +kernel), List.mem_of_getElem? (i := 521) (by decide +kernel), List.mem_of_getElem? (i := 522) (by decide +kernel)⟩
theorem lw_p3 : lw_okq (⟨"ToastMap", "refuse", "(I)I"⟩, 19) := ⟨⟨by decide +kernel, by decide +kernel⟩, List.mem_of_getElem? (i := 22) (by decide +kernel), List.mem_of_getElem? (i := 544) (by decide +kernel), List.mem_of_getElem? (i := 545) (by decide +kernel)⟩
theorem lw_p4 : lw_okq (⟨"ToastMap", "pourStatus", "(IIIII)I"⟩, 19) := ⟨⟨by decide +kernel, by decide +kernel⟩, List.mem_of_getElem? (i := 22) (by decide +kernel), List.mem_of_getElem? (i := 556) (by decide +kernel), List.mem_of_getElem? (i := 557) (by decide +kernel)⟩
theorem lw_p5 : lw_okq (⟨"ToastMap$Tape", "stepWord", "()V"⟩, 13) := ⟨⟨by decide +kernel, by decide +kernel⟩, List.mem_of_getElem? (i := 50) (by decide +kernel), List.mem_of_getElem? (i := 618) (by decide +kernel), List.mem_of_getElem? (i := 619) (by decide +kernel)⟩
theorem lw_p6 : lw_okq (⟨"ToastMap$Tape", "wordOf", "(J)I"⟩, 13) := ⟨⟨by decide +kernel, by decide +kernel⟩, List.mem_of_getElem? (i := 50) (by decide +kernel), List.mem_of_getElem? (i := 622) (by decide +kernel), List.mem_of_getElem? (i := 623) (by decide +kernel)⟩
theorem lw_p7 : lw_okq (⟨"ToastMap$Tape", "stepNumber", "()V"⟩, 13) := ⟨⟨by decide +kernel, by decide +kernel⟩, List.mem_of_getElem? (i := 50) (by decide +kernel), List.mem_of_getElem? (i := 629) (by decide +kernel), List.mem_of_getElem? (i := 630) (by decide +kernel)⟩
theorem lw_p8 : lw_okq (⟨"ToastMap$MapReader", "readPart", "()Z"⟩, 3) := ⟨⟨by decide +kernel, by decide +kernel⟩, List.mem_of_getElem? (i := 266) (by decide +kernel), List.mem_of_getElem? (i := 640) (by decide +kernel), List.mem_of_getElem? (i := 641) (by decide +kernel)⟩
theorem lw_p9 : lw_okq (⟨"ToastMap$MapReader", "readRule", "(I)Z"⟩, 3) := ⟨⟨by decide +kernel, by decide +kernel⟩, List.mem_of_getElem? (i := 266) (by decide +kernel), List.mem_of_getElem? (i := 644) (by decide +kernel), List.mem_of_getElem? (i := 645) (by decide +kernel)⟩
theorem lw_p10 : lw_okq (⟨"ToastMap$MapReader", "readPerson", "()Z"⟩, 3) := ⟨⟨by decide +kernel, by decide +kernel⟩, List.mem_of_getElem? (i := 266) (by decide +kernel), List.mem_of_getElem? (i := 670) (by decide +kernel), List.mem_of_getElem? (i := 671) (by decide +kernel)⟩
theorem lw_p11 : lw_okq (⟨"ToastMap$MapReader", "readPerhaps", "(I[III)Z"⟩, 3) := ⟨⟨by decide +kernel, by decide +kernel⟩, List.mem_of_getElem? (i := 266) (by decide +kernel), List.mem_of_getElem? (i := 691) (by decide +kernel), List.mem_of_getElem? (i := 692) (by decide +kernel)⟩
theorem lw_p12 : lw_okq (⟨"ToastMap$MapReader", "readToast", "()Z"⟩, 3) := ⟨⟨by decide +kernel, by decide +kernel⟩, List.mem_of_getElem? (i := 266) (by decide +kernel), List.mem_of_getElem? (i := 695) (by decide +kernel), List.mem_of_getElem? (i := 696) (by decide +kernel)⟩
theorem lw_p13 : lw_okq (⟨"ToastMap", "answer", "(I)I"⟩, 19) := ⟨⟨by decide +kernel, by decide +kernel⟩, List.mem_of_getElem? (i := 22) (by decide +kernel), List.mem_of_getElem? (i := 724) (by decide +kernel), List.mem_of_getElem? (i := 725) (by decide +kernel)⟩
theorem lw_p14 : lw_okq (⟨"ToastMap$TimesReader", "readStep", "(LToastMap$Company;)Z"⟩, 4) := ⟨⟨by decide +kernel, by decide +kernel⟩, List.mem_of_getElem? (i := 284) (by decide +kernel), List.mem_of_getElem? (i := 739) (by decide +kernel), List.mem_of_getElem? (i := 740) (by decide +kernel)⟩
theorem lw_p15 : lw_okq (⟨"ToastMap$TimesReader", "readEnd", "()Z"⟩, 4) := ⟨⟨by decide +kernel, by decide +kernel⟩, List.mem_of_getElem? (i := 284) (by decide +kernel), List.mem_of_getElem? (i := 743) (by decide +kernel), List.mem_of_getElem? (i := 744) (by decide +kernel)⟩
def lw_privs_1 : List (MethodName × Nat) := [(⟨"ToastMap", "deny", "(I)Z"⟩, 19), (⟨"ToastMap", "grant", "()Z"⟩, 19), (⟨"ToastMap", "placeStatus", "(II)I"⟩, 19), (⟨"ToastMap", "refuse", "(I)I"⟩, 19), (⟨"ToastMap", "pourStatus", "(IIIII)I"⟩, 19), (⟨"ToastMap$Tape", "stepWord", "()V"⟩, 13), (⟨"ToastMap$Tape", "wordOf", "(J)I"⟩, 13), (⟨"ToastMap$Tape", "stepNumber", "()V"⟩, 13), (⟨"ToastMap$MapReader", "readPart", "()Z"⟩, 3), (⟨"ToastMap$MapReader", "readRule", "(I)Z"⟩, 3), (⟨"ToastMap$MapReader", "readPerson", "()Z"⟩, 3), (⟨"ToastMap$MapReader", "readPerhaps", "(I[III)Z"⟩, 3), (⟨"ToastMap$MapReader", "readToast", "()Z"⟩, 3), (⟨"ToastMap", "answer", "(I)I"⟩, 19), (⟨"ToastMap$TimesReader", "readStep", "(LToastMap$Company;)Z"⟩, 4), (⟨"ToastMap$TimesReader", "readEnd", "()Z"⟩, 4)]
theorem lw_r1 : ∀ q ∈ lw_privs_1, lw_okq q := List.forall_mem_cons.mpr ⟨lw_p0, List.forall_mem_cons.mpr ⟨lw_p1, List.forall_mem_cons.mpr ⟨lw_p2, List.forall_mem_cons.mpr ⟨lw_p3, List.forall_mem_cons.mpr ⟨lw_p4, List.forall_mem_cons.mpr ⟨lw_p5, List.forall_mem_cons.mpr ⟨lw_p6, List.forall_mem_cons.mpr ⟨lw_p7, List.forall_mem_cons.mpr ⟨lw_p8, List.forall_mem_cons.mpr ⟨lw_p9, List.forall_mem_cons.mpr ⟨lw_p10, List.forall_mem_cons.mpr ⟨lw_p11, List.forall_mem_cons.mpr ⟨lw_p12, List.forall_mem_cons.mpr ⟨lw_p13, List.forall_mem_cons.mpr ⟨lw_p14, List.forall_mem_cons.mpr ⟨lw_p15, fun _ h => absurd h List.not_mem_nil⟩⟩⟩⟩⟩⟩⟩⟩⟩⟩⟩⟩⟩⟩⟩⟩
theorem lw_p16 : lw_okq (⟨"ToastMap$TimesReader", "readWho", "(ILToastMap$Company;)Z"⟩, 4) := ⟨⟨by decide +kernel, by decide +kernel⟩, List.mem_of_getElem? (i := 284) (by decide +kernel), List.mem_of_getElem? (i := 755) (by decide +kernel), List.mem_of_getElem? (i := 756) (by decide +kernel)⟩
theorem lw_p17 : lw_okq (⟨"ToastMap$TimesReader", "readAmount", "(III)Z"⟩, 4) := ⟨⟨by decide +kernel, by decide +kernel⟩, List.mem_of_getElem? (i := 284) (by decide +kernel), List.mem_of_getElem? (i := 760) (by decide +kernel), List.mem_of_getElem? (i := 761) (by decide +kernel)⟩
theorem lw_p18 : lw_okq (⟨"ToastMap$TimesReader", "readTest", "(ILToastMap$Company;)Z"⟩, 4) := ⟨⟨by decide +kernel, by decide +kernel⟩, List.mem_of_getElem? (i := 284) (by decide +kernel), List.mem_of_getElem? (i := 766) (by decide +kernel), List.mem_of_getElem? (i := 767) (by decide +kernel)⟩
theorem lw_p19 : lw_okq (⟨"ToastMap$TimesReader", "readCompares", "(I)Z"⟩, 4) := ⟨⟨by decide +kernel, by decide +kernel⟩, List.mem_of_getElem? (i := 284) (by decide +kernel), List.mem_of_getElem? (i := 770) (by decide +kernel), List.mem_of_getElem? (i := 771) (by decide +kernel)⟩
theorem lw_p20 : lw_okq (⟨"ToastMap", "isCouple", "(II)Z"⟩, 19) := ⟨⟨by decide +kernel, by decide +kernel⟩, List.mem_of_getElem? (i := 22) (by decide +kernel), List.mem_of_getElem? (i := 918) (by decide +kernel), List.mem_of_getElem? (i := 919) (by decide +kernel)⟩
theorem lw_p21 : lw_okq (⟨"ToastMap", "lookAhead", "(I)V"⟩, 19) := ⟨⟨by decide +kernel, by decide +kernel⟩, List.mem_of_getElem? (i := 22) (by decide +kernel), List.mem_of_getElem? (i := 947) (by decide +kernel), List.mem_of_getElem? (i := 948) (by decide +kernel)⟩
theorem lw_p22 : lw_okq (⟨"ToastMap", "findPeriod", "()I"⟩, 19) := ⟨⟨by decide +kernel, by decide +kernel⟩, List.mem_of_getElem? (i := 22) (by decide +kernel), List.mem_of_getElem? (i := 959) (by decide +kernel), List.mem_of_getElem? (i := 960) (by decide +kernel)⟩
theorem lw_p23 : lw_okq (⟨"ToastMap", "firstSettled", "(I)I"⟩, 19) := ⟨⟨by decide +kernel, by decide +kernel⟩, List.mem_of_getElem? (i := 22) (by decide +kernel), List.mem_of_getElem? (i := 967) (by decide +kernel), List.mem_of_getElem? (i := 968) (by decide +kernel)⟩
theorem lw_p24 : lw_okq (⟨"ToastMap$Company", "warmestOf", "(I)I"⟩, 10) := ⟨⟨by decide +kernel, by decide +kernel⟩, List.mem_of_getElem? (i := 153) (by decide +kernel), List.mem_of_getElem? (i := 1023) (by decide +kernel), List.mem_of_getElem? (i := 1024) (by decide +kernel)⟩
theorem lw_p25 : lw_okq (⟨"ToastMap$Company", "canAllBeLit", "(II)Z"⟩, 10) := ⟨⟨by decide +kernel, by decide +kernel⟩, List.mem_of_getElem? (i := 153) (by decide +kernel), List.mem_of_getElem? (i := 1036) (by decide +kernel), List.mem_of_getElem? (i := 1037) (by decide +kernel)⟩
theorem lw_p26 : lw_okq (⟨"ToastMap", "waysStatus", "(II)I"⟩, 19) := ⟨⟨by decide +kernel, by decide +kernel⟩, List.mem_of_getElem? (i := 22) (by decide +kernel), List.mem_of_getElem? (i := 1053) (by decide +kernel), List.mem_of_getElem? (i := 1054) (by decide +kernel)⟩
theorem lw_p27 : lw_okq (⟨"ToastMap", "rowsStatus", "(IIII)I"⟩, 19) := ⟨⟨by decide +kernel, by decide +kernel⟩, List.mem_of_getElem? (i := 22) (by decide +kernel), List.mem_of_getElem? (i := 1057) (by decide +kernel), List.mem_of_getElem? (i := 1058) (by decide +kernel)⟩
theorem lw_p28 : lw_okq (⟨"ToastMap", "findWays", "(II)V"⟩, 19) := ⟨⟨by decide +kernel, by decide +kernel⟩, List.mem_of_getElem? (i := 22) (by decide +kernel), List.mem_of_getElem? (i := 1061) (by decide +kernel), List.mem_of_getElem? (i := 1062) (by decide +kernel)⟩
theorem lw_p29 : lw_okq (⟨"ToastMap$Ways", "spread", "(I)V"⟩, 5) := ⟨⟨by decide +kernel, by decide +kernel⟩, List.mem_of_getElem? (i := 364) (by decide +kernel), List.mem_of_getElem? (i := 1078) (by decide +kernel), List.mem_of_getElem? (i := 1079) (by decide +kernel)⟩
theorem lw_p30 : lw_okq (⟨"ToastMap$Ways", "isOpen", "(III)Z"⟩, 5) := ⟨⟨by decide +kernel, by decide +kernel⟩, List.mem_of_getElem? (i := 364) (by decide +kernel), List.mem_of_getElem? (i := 1083) (by decide +kernel), List.mem_of_getElem? (i := 1084) (by decide +kernel)⟩
theorem lw_p31 : lw_okq (⟨"ToastMap$Ways", "gather", "(I)V"⟩, 5) := ⟨⟨by decide +kernel, by decide +kernel⟩, List.mem_of_getElem? (i := 364) (by decide +kernel), List.mem_of_getElem? (i := 1087) (by decide +kernel), List.mem_of_getElem? (i := 1088) (by decide +kernel)⟩
def lw_privs_2 : List (MethodName × Nat) := [(⟨"ToastMap$TimesReader", "readWho", "(ILToastMap$Company;)Z"⟩, 4), (⟨"ToastMap$TimesReader", "readAmount", "(III)Z"⟩, 4), (⟨"ToastMap$TimesReader", "readTest", "(ILToastMap$Company;)Z"⟩, 4), (⟨"ToastMap$TimesReader", "readCompares", "(I)Z"⟩, 4), (⟨"ToastMap", "isCouple", "(II)Z"⟩, 19), (⟨"ToastMap", "lookAhead", "(I)V"⟩, 19), (⟨"ToastMap", "findPeriod", "()I"⟩, 19), (⟨"ToastMap", "firstSettled", "(I)I"⟩, 19), (⟨"ToastMap$Company", "warmestOf", "(I)I"⟩, 10), (⟨"ToastMap$Company", "canAllBeLit", "(II)Z"⟩, 10), (⟨"ToastMap", "waysStatus", "(II)I"⟩, 19), (⟨"ToastMap", "rowsStatus", "(IIII)I"⟩, 19), (⟨"ToastMap", "findWays", "(II)V"⟩, 19), (⟨"ToastMap$Ways", "spread", "(I)V"⟩, 5), (⟨"ToastMap$Ways", "isOpen", "(III)Z"⟩, 5), (⟨"ToastMap$Ways", "gather", "(I)V"⟩, 5)]
theorem lw_r2 : ∀ q ∈ lw_privs_2, lw_okq q := List.forall_mem_cons.mpr ⟨lw_p16, List.forall_mem_cons.mpr ⟨lw_p17, List.forall_mem_cons.mpr ⟨lw_p18, List.forall_mem_cons.mpr ⟨lw_p19, List.forall_mem_cons.mpr ⟨lw_p20, List.forall_mem_cons.mpr ⟨lw_p21, List.forall_mem_cons.mpr ⟨lw_p22, List.forall_mem_cons.mpr ⟨lw_p23, List.forall_mem_cons.mpr ⟨lw_p24, List.forall_mem_cons.mpr ⟨lw_p25, List.forall_mem_cons.mpr ⟨lw_p26, List.forall_mem_cons.mpr ⟨lw_p27, List.forall_mem_cons.mpr ⟨lw_p28, List.forall_mem_cons.mpr ⟨lw_p29, List.forall_mem_cons.mpr ⟨lw_p30, List.forall_mem_cons.mpr ⟨lw_p31, fun _ h => absurd h List.not_mem_nil⟩⟩⟩⟩⟩⟩⟩⟩⟩⟩⟩⟩⟩⟩⟩⟩
theorem lw_p32 : lw_okq (⟨"ToastMap$Ways", "firstOpen", "(II)I"⟩, 5) := ⟨⟨by decide +kernel, by decide +kernel⟩, List.mem_of_getElem? (i := 364) (by decide +kernel), List.mem_of_getElem? (i := 1103) (by decide +kernel), List.mem_of_getElem? (i := 1104) (by decide +kernel)⟩
theorem lw_p33 : lw_okq (⟨"ToastMap", "tell", "(JJ)Z"⟩, 19) := ⟨⟨by decide +kernel, by decide +kernel⟩, List.mem_of_getElem? (i := 22) (by decide +kernel), List.mem_of_getElem? (i := 1115) (by decide +kernel), List.mem_of_getElem? (i := 1116) (by decide +kernel)⟩
theorem lw_p34 : lw_okq (⟨"ToastMap$Ways", "mostThrough", "(I)I"⟩, 5) := ⟨⟨by decide +kernel, by decide +kernel⟩, List.mem_of_getElem? (i := 364) (by decide +kernel), List.mem_of_getElem? (i := 1133) (by decide +kernel), List.mem_of_getElem? (i := 1134) (by decide +kernel)⟩
theorem lw_p35 : lw_okq (⟨"ToastMap", "lawStatus", "(II)I"⟩, 19) := ⟨⟨by decide +kernel, by decide +kernel⟩, List.mem_of_getElem? (i := 22) (by decide +kernel), List.mem_of_getElem? (i := 1143) (by decide +kernel), List.mem_of_getElem? (i := 1144) (by decide +kernel)⟩
theorem lw_p36 : lw_okq (⟨"ToastMap", "isLaw", "(IIII)Z"⟩, 19) := ⟨⟨by decide +kernel, by decide +kernel⟩, List.mem_of_getElem? (i := 22) (by decide +kernel), List.mem_of_getElem? (i := 1150) (by decide +kernel), List.mem_of_getElem? (i := 1151) (by decide +kernel)⟩
theorem lw_p37 : lw_okq (⟨"ToastMap", "tasteBoth", "(I)V"⟩, 19) := ⟨⟨by decide +kernel, by decide +kernel⟩, List.mem_of_getElem? (i := 22) (by decide +kernel), List.mem_of_getElem? (i := 1163) (by decide +kernel), List.mem_of_getElem? (i := 1164) (by decide +kernel)⟩
theorem lw_p38 : lw_okq (⟨"ToastMap$Game", "litCount", "()I"⟩, 4) := ⟨⟨by decide +kernel, by decide +kernel⟩, List.mem_of_getElem? (i := 386) (by decide +kernel), List.mem_of_getElem? (i := 1200) (by decide +kernel), List.mem_of_getElem? (i := 1201) (by decide +kernel)⟩
theorem lw_p39 : lw_okq (⟨"ToastMap$Game", "behindDrink", "(IIII)I"⟩, 4) := ⟨⟨by decide +kernel, by decide +kernel⟩, List.mem_of_getElem? (i := 386) (by decide +kernel), List.mem_of_getElem? (i := 1207) (by decide +kernel), List.mem_of_getElem? (i := 1208) (by decide +kernel)⟩
theorem lw_p40 : lw_okq (⟨"ToastMap$Game", "draught", "(III)I"⟩, 4) := ⟨⟨by decide +kernel, by decide +kernel⟩, List.mem_of_getElem? (i := 386) (by decide +kernel), List.mem_of_getElem? (i := 1212) (by decide +kernel), List.mem_of_getElem? (i := 1213) (by decide +kernel)⟩
theorem lw_p41 : lw_okq (⟨"ToastMap$Game", "butler", "(III)I"⟩, 4) := ⟨⟨by decide +kernel, by decide +kernel⟩, List.mem_of_getElem? (i := 386) (by decide +kernel), List.mem_of_getElem? (i := 1216) (by decide +kernel), List.mem_of_getElem? (i := 1217) (by decide +kernel)⟩
theorem lw_p42 : lw_okq (⟨"ToastMap$Living", "behindEnd", "(LToastMap$Times;I)I"⟩, 8) := ⟨⟨by decide +kernel, by decide +kernel⟩, List.mem_of_getElem? (i := 327) (by decide +kernel), List.mem_of_getElem? (i := 1251) (by decide +kernel), List.mem_of_getElem? (i := 1252) (by decide +kernel)⟩
theorem lw_p43 : lw_okq (⟨"ToastMap$Living", "behindStep", "(LToastMap$Company;LToastMap$Times;I)I"⟩, 8) := ⟨⟨by decide +kernel, by decide +kernel⟩, List.mem_of_getElem? (i := 327) (by decide +kernel), List.mem_of_getElem? (i := 1255) (by decide +kernel), List.mem_of_getElem? (i := 1256) (by decide +kernel)⟩
theorem lw_p44 : lw_okq (⟨"ToastMap$Living", "liveDrink", "(LToastMap$Company;I)V"⟩, 8) := ⟨⟨by decide +kernel, by decide +kernel⟩, List.mem_of_getElem? (i := 327) (by decide +kernel), List.mem_of_getElem? (i := 1259) (by decide +kernel), List.mem_of_getElem? (i := 1260) (by decide +kernel)⟩
theorem lw_p45 : lw_okq (⟨"ToastMap$Living", "liveNights", "(LToastMap$Company;I)V"⟩, 8) := ⟨⟨by decide +kernel, by decide +kernel⟩, List.mem_of_getElem? (i := 327) (by decide +kernel), List.mem_of_getElem? (i := 1266) (by decide +kernel), List.mem_of_getElem? (i := 1267) (by decide +kernel)⟩
theorem lw_p46 : lw_okq (⟨"ToastMap$Living", "liveEvening", "(LToastMap$Company;)V"⟩, 8) := ⟨⟨by decide +kernel, by decide +kernel⟩, List.mem_of_getElem? (i := 327) (by decide +kernel), List.mem_of_getElem? (i := 1272) (by decide +kernel), List.mem_of_getElem? (i := 1273) (by decide +kernel)⟩
theorem lw_p47 : lw_okq (⟨"ToastMap$Living", "liveFill", "(LToastMap$Company;II)V"⟩, 8) := ⟨⟨by decide +kernel, by decide +kernel⟩, List.mem_of_getElem? (i := 327) (by decide +kernel), List.mem_of_getElem? (i := 1277) (by decide +kernel), List.mem_of_getElem? (i := 1278) (by decide +kernel)⟩
def lw_privs_3 : List (MethodName × Nat) := [(⟨"ToastMap$Ways", "firstOpen", "(II)I"⟩, 5), (⟨"ToastMap", "tell", "(JJ)Z"⟩, 19), (⟨"ToastMap$Ways", "mostThrough", "(I)I"⟩, 5), (⟨"ToastMap", "lawStatus", "(II)I"⟩, 19), (⟨"ToastMap", "isLaw", "(IIII)Z"⟩, 19), (⟨"ToastMap", "tasteBoth", "(I)V"⟩, 19), (⟨"ToastMap$Game", "litCount", "()I"⟩, 4), (⟨"ToastMap$Game", "behindDrink", "(IIII)I"⟩, 4), (⟨"ToastMap$Game", "draught", "(III)I"⟩, 4), (⟨"ToastMap$Game", "butler", "(III)I"⟩, 4), (⟨"ToastMap$Living", "behindEnd", "(LToastMap$Times;I)I"⟩, 8), (⟨"ToastMap$Living", "behindStep", "(LToastMap$Company;LToastMap$Times;I)I"⟩, 8), (⟨"ToastMap$Living", "liveDrink", "(LToastMap$Company;I)V"⟩, 8), (⟨"ToastMap$Living", "liveNights", "(LToastMap$Company;I)V"⟩, 8), (⟨"ToastMap$Living", "liveEvening", "(LToastMap$Company;)V"⟩, 8), (⟨"ToastMap$Living", "liveFill", "(LToastMap$Company;II)V"⟩, 8)]
theorem lw_r3 : ∀ q ∈ lw_privs_3, lw_okq q := List.forall_mem_cons.mpr ⟨lw_p32, List.forall_mem_cons.mpr ⟨lw_p33, List.forall_mem_cons.mpr ⟨lw_p34, List.forall_mem_cons.mpr ⟨lw_p35, List.forall_mem_cons.mpr ⟨lw_p36, List.forall_mem_cons.mpr ⟨lw_p37, List.forall_mem_cons.mpr ⟨lw_p38, List.forall_mem_cons.mpr ⟨lw_p39, List.forall_mem_cons.mpr ⟨lw_p40, List.forall_mem_cons.mpr ⟨lw_p41, List.forall_mem_cons.mpr ⟨lw_p42, List.forall_mem_cons.mpr ⟨lw_p43, List.forall_mem_cons.mpr ⟨lw_p44, List.forall_mem_cons.mpr ⟨lw_p45, List.forall_mem_cons.mpr ⟨lw_p46, List.forall_mem_cons.mpr ⟨lw_p47, fun _ h => absurd h List.not_mem_nil⟩⟩⟩⟩⟩⟩⟩⟩⟩⟩⟩⟩⟩⟩⟩⟩
theorem lw_p48 : lw_okq (⟨"ToastMap$Living", "liveAny", "(LToastMap$Company;)V"⟩, 8) := ⟨⟨by decide +kernel, by decide +kernel⟩, List.mem_of_getElem? (i := 327) (by decide +kernel), List.mem_of_getElem? (i := 1281) (by decide +kernel), List.mem_of_getElem? (i := 1282) (by decide +kernel)⟩
theorem lw_p49 : lw_okq (⟨"ToastMap$Living", "drawBy", "(I)I"⟩, 8) := ⟨⟨by decide +kernel, by decide +kernel⟩, List.mem_of_getElem? (i := 327) (by decide +kernel), List.mem_of_getElem? (i := 1285) (by decide +kernel), List.mem_of_getElem? (i := 1286) (by decide +kernel)⟩
theorem lw_p50 : lw_okq (⟨"ToastMap$Living", "holds", "(LToastMap$Company;LToastMap$Times;I)Z"⟩, 8) := ⟨⟨by decide +kernel, by decide +kernel⟩, List.mem_of_getElem? (i := 327) (by decide +kernel), List.mem_of_getElem? (i := 1291) (by decide +kernel), List.mem_of_getElem? (i := 1292) (by decide +kernel)⟩
theorem lw_p51 : lw_okq (⟨"ToastMapModel", "plain", "(I)V"⟩, 46) := ⟨⟨by decide +kernel, by decide +kernel⟩, List.mem_of_getElem? (i := 1330) (by decide +kernel), List.mem_of_getElem? (i := 1336) (by decide +kernel), List.mem_of_getElem? (i := 1337) (by decide +kernel)⟩
theorem lw_p52 : lw_okq (⟨"ToastMapModel", "is", "(I)Z"⟩, 46) := ⟨⟨by decide +kernel, by decide +kernel⟩, List.mem_of_getElem? (i := 1330) (by decide +kernel), List.mem_of_getElem? (i := 1498) (by decide +kernel), List.mem_of_getElem? (i := 1499) (by decide +kernel)⟩
theorem lw_p53 : lw_okq (⟨"ToastMapModel", "wrongPlace", "(II)I"⟩, 46) := ⟨⟨by decide +kernel, by decide +kernel⟩, List.mem_of_getElem? (i := 1330) (by decide +kernel), List.mem_of_getElem? (i := 1506) (by decide +kernel), List.mem_of_getElem? (i := 1507) (by decide +kernel)⟩
theorem lw_p54 : lw_okq (⟨"ToastMapModel", "four", "(I)V"⟩, 46) := ⟨⟨by decide +kernel, by decide +kernel⟩, List.mem_of_getElem? (i := 1330) (by decide +kernel), List.mem_of_getElem? (i := 1526) (by decide +kernel), List.mem_of_getElem? (i := 1527) (by decide +kernel)⟩
theorem lw_p55 : lw_okq (⟨"ToastMapModel", "begins", "(II)Z"⟩, 46) := ⟨⟨by decide +kernel, by decide +kernel⟩, List.mem_of_getElem? (i := 1330) (by decide +kernel), List.mem_of_getElem? (i := 1538) (by decide +kernel), List.mem_of_getElem? (i := 1539) (by decide +kernel)⟩
theorem lw_p56 : lw_okq (⟨"ToastMapModel", "ahead", "()V"⟩, 46) := ⟨⟨by decide +kernel, by decide +kernel⟩, List.mem_of_getElem? (i := 1330) (by decide +kernel), List.mem_of_getElem? (i := 1542) (by decide +kernel), List.mem_of_getElem? (i := 1543) (by decide +kernel)⟩
theorem lw_p57 : lw_okq (⟨"ToastMapModel", "byteAt", "(I)I"⟩, 46) := ⟨⟨by decide +kernel, by decide +kernel⟩, List.mem_of_getElem? (i := 1330) (by decide +kernel), List.mem_of_getElem? (i := 1546) (by decide +kernel), List.mem_of_getElem? (i := 1547) (by decide +kernel)⟩
theorem lw_p58 : lw_okq (⟨"ToastMapModel", "refuse", "(I)I"⟩, 46) := ⟨⟨by decide +kernel, by decide +kernel⟩, List.mem_of_getElem? (i := 1330) (by decide +kernel), List.mem_of_getElem? (i := 1558) (by decide +kernel), List.mem_of_getElem? (i := 1559) (by decide +kernel)⟩
theorem lw_p59 : lw_okq (⟨"ToastMapModel", "mapPart", "()Z"⟩, 46) := ⟨⟨by decide +kernel, by decide +kernel⟩, List.mem_of_getElem? (i := 1330) (by decide +kernel), List.mem_of_getElem? (i := 1562) (by decide +kernel), List.mem_of_getElem? (i := 1563) (by decide +kernel)⟩
theorem lw_p60 : lw_okq (⟨"ToastMapModel", "inWords", "(Ljava/lang/String;)I"⟩, 46) := ⟨⟨by decide +kernel, by decide +kernel⟩, List.mem_of_getElem? (i := 1330) (by decide +kernel), List.mem_of_getElem? (i := 1567) (by decide +kernel), List.mem_of_getElem? (i := 1568) (by decide +kernel)⟩
theorem lw_p61 : lw_okq (⟨"ToastMapModel", "fails", "(I)Z"⟩, 46) := ⟨⟨by decide +kernel, by decide +kernel⟩, List.mem_of_getElem? (i := 1330) (by decide +kernel), List.mem_of_getElem? (i := 1573) (by decide +kernel), List.mem_of_getElem? (i := 1574) (by decide +kernel)⟩
theorem lw_p62 : lw_okq (⟨"ToastMapModel", "isIn", "(II)Z"⟩, 46) := ⟨⟨by decide +kernel, by decide +kernel⟩, List.mem_of_getElem? (i := 1330) (by decide +kernel), List.mem_of_getElem? (i := 1577) (by decide +kernel), List.mem_of_getElem? (i := 1578) (by decide +kernel)⟩
theorem lw_p63 : lw_okq (⟨"ToastMapModel", "aPerson", "()Z"⟩, 46) := ⟨⟨by decide +kernel, by decide +kernel⟩, List.mem_of_getElem? (i := 1330) (by decide +kernel), List.mem_of_getElem? (i := 1581) (by decide +kernel), List.mem_of_getElem? (i := 1582) (by decide +kernel)⟩
def lw_privs_4 : List (MethodName × Nat) := [(⟨"ToastMap$Living", "liveAny", "(LToastMap$Company;)V"⟩, 8), (⟨"ToastMap$Living", "drawBy", "(I)I"⟩, 8), (⟨"ToastMap$Living", "holds", "(LToastMap$Company;LToastMap$Times;I)Z"⟩, 8), (⟨"ToastMapModel", "plain", "(I)V"⟩, 46), (⟨"ToastMapModel", "is", "(I)Z"⟩, 46), (⟨"ToastMapModel", "wrongPlace", "(II)I"⟩, 46), (⟨"ToastMapModel", "four", "(I)V"⟩, 46), (⟨"ToastMapModel", "begins", "(II)Z"⟩, 46), (⟨"ToastMapModel", "ahead", "()V"⟩, 46), (⟨"ToastMapModel", "byteAt", "(I)I"⟩, 46), (⟨"ToastMapModel", "refuse", "(I)I"⟩, 46), (⟨"ToastMapModel", "mapPart", "()Z"⟩, 46), (⟨"ToastMapModel", "inWords", "(Ljava/lang/String;)I"⟩, 46), (⟨"ToastMapModel", "fails", "(I)Z"⟩, 46), (⟨"ToastMapModel", "isIn", "(II)Z"⟩, 46), (⟨"ToastMapModel", "aPerson", "()Z"⟩, 46)]
theorem lw_r4 : ∀ q ∈ lw_privs_4, lw_okq q := List.forall_mem_cons.mpr ⟨lw_p48, List.forall_mem_cons.mpr ⟨lw_p49, List.forall_mem_cons.mpr ⟨lw_p50, List.forall_mem_cons.mpr ⟨lw_p51, List.forall_mem_cons.mpr ⟨lw_p52, List.forall_mem_cons.mpr ⟨lw_p53, List.forall_mem_cons.mpr ⟨lw_p54, List.forall_mem_cons.mpr ⟨lw_p55, List.forall_mem_cons.mpr ⟨lw_p56, List.forall_mem_cons.mpr ⟨lw_p57, List.forall_mem_cons.mpr ⟨lw_p58, List.forall_mem_cons.mpr ⟨lw_p59, List.forall_mem_cons.mpr ⟨lw_p60, List.forall_mem_cons.mpr ⟨lw_p61, List.forall_mem_cons.mpr ⟨lw_p62, List.forall_mem_cons.mpr ⟨lw_p63, fun _ h => absurd h List.not_mem_nil⟩⟩⟩⟩⟩⟩⟩⟩⟩⟩⟩⟩⟩⟩⟩⟩
theorem lw_p64 : lw_okq (⟨"ToastMapModel", "isName", "(Ljava/lang/String;)Z"⟩, 46) := ⟨⟨by decide +kernel, by decide +kernel⟩, List.mem_of_getElem? (i := 1330) (by decide +kernel), List.mem_of_getElem? (i := 1588) (by decide +kernel), List.mem_of_getElem? (i := 1589) (by decide +kernel)⟩
theorem lw_p65 : lw_okq (⟨"ToastMapModel", "findHere", "(II)I"⟩, 46) := ⟨⟨by decide +kernel, by decide +kernel⟩, List.mem_of_getElem? (i := 1330) (by decide +kernel), List.mem_of_getElem? (i := 1592) (by decide +kernel), List.mem_of_getElem? (i := 1593) (by decide +kernel)⟩
theorem lw_p66 : lw_okq (⟨"ToastMapModel", "nameHere", "()J"⟩, 46) := ⟨⟨by decide +kernel, by decide +kernel⟩, List.mem_of_getElem? (i := 1330) (by decide +kernel), List.mem_of_getElem? (i := 1596) (by decide +kernel), List.mem_of_getElem? (i := 1597) (by decide +kernel)⟩
theorem lw_p67 : lw_okq (⟨"ToastMapModel", "wantWord", "(Ljava/lang/String;I)Z"⟩, 46) := ⟨⟨by decide +kernel, by decide +kernel⟩, List.mem_of_getElem? (i := 1330) (by decide +kernel), List.mem_of_getElem? (i := 1600) (by decide +kernel), List.mem_of_getElem? (i := 1601) (by decide +kernel)⟩
theorem lw_p68 : lw_okq (⟨"ToastMapModel", "number", "(III)Z"⟩, 46) := ⟨⟨by decide +kernel, by decide +kernel⟩, List.mem_of_getElem? (i := 1330) (by decide +kernel), List.mem_of_getElem? (i := 1604) (by decide +kernel), List.mem_of_getElem? (i := 1605) (by decide +kernel)⟩
theorem lw_p69 : lw_okq (⟨"ToastMapModel", "perhaps", "(IIIII)Z"⟩, 46) := ⟨⟨by decide +kernel, by decide +kernel⟩, List.mem_of_getElem? (i := 1330) (by decide +kernel), List.mem_of_getElem? (i := 1608) (by decide +kernel), List.mem_of_getElem? (i := 1609) (by decide +kernel)⟩
theorem lw_p70 : lw_okq (⟨"ToastMapModel", "isThere", "(I)Z"⟩, 46) := ⟨⟨by decide +kernel, by decide +kernel⟩, List.mem_of_getElem? (i := 1330) (by decide +kernel), List.mem_of_getElem? (i := 1612) (by decide +kernel), List.mem_of_getElem? (i := 1613) (by decide +kernel)⟩
theorem lw_p71 : lw_okq (⟨"ToastMapModel", "wantSign", "(I)Z"⟩, 46) := ⟨⟨by decide +kernel, by decide +kernel⟩, List.mem_of_getElem? (i := 1330) (by decide +kernel), List.mem_of_getElem? (i := 1616) (by decide +kernel), List.mem_of_getElem? (i := 1617) (by decide +kernel)⟩
theorem lw_p72 : lw_okq (⟨"ToastMapModel", "isSign", "(I)Z"⟩, 46) := ⟨⟨by decide +kernel, by decide +kernel⟩, List.mem_of_getElem? (i := 1330) (by decide +kernel), List.mem_of_getElem? (i := 1620) (by decide +kernel), List.mem_of_getElem? (i := 1621) (by decide +kernel)⟩
theorem lw_p73 : lw_okq (⟨"ToastMapModel", "aToast", "()Z"⟩, 46) := ⟨⟨by decide +kernel, by decide +kernel⟩, List.mem_of_getElem? (i := 1330) (by decide +kernel), List.mem_of_getElem? (i := 1624) (by decide +kernel), List.mem_of_getElem? (i := 1625) (by decide +kernel)⟩
theorem lw_p74 : lw_okq (⟨"ToastMapModel", "taken", "(I)I"⟩, 46) := ⟨⟨by decide +kernel, by decide +kernel⟩, List.mem_of_getElem? (i := 1330) (by decide +kernel), List.mem_of_getElem? (i := 1634) (by decide +kernel), List.mem_of_getElem? (i := 1635) (by decide +kernel)⟩
theorem lw_p75 : lw_okq (⟨"ToastMapModel", "gives", "(I)I"⟩, 46) := ⟨⟨by decide +kernel, by decide +kernel⟩, List.mem_of_getElem? (i := 1330) (by decide +kernel), List.mem_of_getElem? (i := 1638) (by decide +kernel), List.mem_of_getElem? (i := 1639) (by decide +kernel)⟩
theorem lw_p76 : lw_okq (⟨"ToastMapModel", "timeStep", "()Z"⟩, 46) := ⟨⟨by decide +kernel, by decide +kernel⟩, List.mem_of_getElem? (i := 1330) (by decide +kernel), List.mem_of_getElem? (i := 1646) (by decide +kernel), List.mem_of_getElem? (i := 1647) (by decide +kernel)⟩
theorem lw_p77 : lw_okq (⟨"ToastMapModel", "timeOrder", "(II)Z"⟩, 46) := ⟨⟨by decide +kernel, by decide +kernel⟩, List.mem_of_getElem? (i := 1330) (by decide +kernel), List.mem_of_getElem? (i := 1650) (by decide +kernel), List.mem_of_getElem? (i := 1651) (by decide +kernel)⟩
theorem lw_p78 : lw_okq (⟨"ToastMapModel", "personTo", "(I)Z"⟩, 46) := ⟨⟨by decide +kernel, by decide +kernel⟩, List.mem_of_getElem? (i := 1330) (by decide +kernel), List.mem_of_getElem? (i := 1654) (by decide +kernel), List.mem_of_getElem? (i := 1655) (by decide +kernel)⟩
theorem lw_p79 : lw_okq (⟨"ToastMapModel", "test", "(I)Z"⟩, 46) := ⟨⟨by decide +kernel, by decide +kernel⟩, List.mem_of_getElem? (i := 1330) (by decide +kernel), List.mem_of_getElem? (i := 1658) (by decide +kernel), List.mem_of_getElem? (i := 1659) (by decide +kernel)⟩
def lw_privs_5 : List (MethodName × Nat) := [(⟨"ToastMapModel", "isName", "(Ljava/lang/String;)Z"⟩, 46), (⟨"ToastMapModel", "findHere", "(II)I"⟩, 46), (⟨"ToastMapModel", "nameHere", "()J"⟩, 46), (⟨"ToastMapModel", "wantWord", "(Ljava/lang/String;I)Z"⟩, 46), (⟨"ToastMapModel", "number", "(III)Z"⟩, 46), (⟨"ToastMapModel", "perhaps", "(IIIII)Z"⟩, 46), (⟨"ToastMapModel", "isThere", "(I)Z"⟩, 46), (⟨"ToastMapModel", "wantSign", "(I)Z"⟩, 46), (⟨"ToastMapModel", "isSign", "(I)Z"⟩, 46), (⟨"ToastMapModel", "aToast", "()Z"⟩, 46), (⟨"ToastMapModel", "taken", "(I)I"⟩, 46), (⟨"ToastMapModel", "gives", "(I)I"⟩, 46), (⟨"ToastMapModel", "timeStep", "()Z"⟩, 46), (⟨"ToastMapModel", "timeOrder", "(II)Z"⟩, 46), (⟨"ToastMapModel", "personTo", "(I)Z"⟩, 46), (⟨"ToastMapModel", "test", "(I)Z"⟩, 46)]
theorem lw_r5 : ∀ q ∈ lw_privs_5, lw_okq q := List.forall_mem_cons.mpr ⟨lw_p64, List.forall_mem_cons.mpr ⟨lw_p65, List.forall_mem_cons.mpr ⟨lw_p66, List.forall_mem_cons.mpr ⟨lw_p67, List.forall_mem_cons.mpr ⟨lw_p68, List.forall_mem_cons.mpr ⟨lw_p69, List.forall_mem_cons.mpr ⟨lw_p70, List.forall_mem_cons.mpr ⟨lw_p71, List.forall_mem_cons.mpr ⟨lw_p72, List.forall_mem_cons.mpr ⟨lw_p73, List.forall_mem_cons.mpr ⟨lw_p74, List.forall_mem_cons.mpr ⟨lw_p75, List.forall_mem_cons.mpr ⟨lw_p76, List.forall_mem_cons.mpr ⟨lw_p77, List.forall_mem_cons.mpr ⟨lw_p78, List.forall_mem_cons.mpr ⟨lw_p79, fun _ h => absurd h List.not_mem_nil⟩⟩⟩⟩⟩⟩⟩⟩⟩⟩⟩⟩⟩⟩⟩⟩
theorem lw_p80 : lw_okq (⟨"ToastMapModel", "areLit", "()I"⟩, 46) := ⟨⟨by decide +kernel, by decide +kernel⟩, List.mem_of_getElem? (i := 1330) (by decide +kernel), List.mem_of_getElem? (i := 1666) (by decide +kernel), List.mem_of_getElem? (i := 1667) (by decide +kernel)⟩
theorem lw_p81 : lw_okq (⟨"ToastMapModel", "isLit", "(I)Z"⟩, 46) := ⟨⟨by decide +kernel, by decide +kernel⟩, List.mem_of_getElem? (i := 1330) (by decide +kernel), List.mem_of_getElem? (i := 1670) (by decide +kernel), List.mem_of_getElem? (i := 1671) (by decide +kernel)⟩
theorem lw_p82 : lw_okq (⟨"ToastMapModel", "personOf", "(II)I"⟩, 46) := ⟨⟨by decide +kernel, by decide +kernel⟩, List.mem_of_getElem? (i := 1330) (by decide +kernel), List.mem_of_getElem? (i := 1674) (by decide +kernel), List.mem_of_getElem? (i := 1675) (by decide +kernel)⟩
theorem lw_p83 : lw_okq (⟨"ToastMapModel", "haveWhom", "()I"⟩, 46) := ⟨⟨by decide +kernel, by decide +kernel⟩, List.mem_of_getElem? (i := 1330) (by decide +kernel), List.mem_of_getElem? (i := 1678) (by decide +kernel), List.mem_of_getElem? (i := 1679) (by decide +kernel)⟩
theorem lw_p84 : lw_okq (⟨"ToastMapModel", "whomOf", "(I)I"⟩, 46) := ⟨⟨by decide +kernel, by decide +kernel⟩, List.mem_of_getElem? (i := 1330) (by decide +kernel), List.mem_of_getElem? (i := 1682) (by decide +kernel), List.mem_of_getElem? (i := 1683) (by decide +kernel)⟩
theorem lw_p85 : lw_okq (⟨"ToastMapModel", "together", "(I)I"⟩, 46) := ⟨⟨by decide +kernel, by decide +kernel⟩, List.mem_of_getElem? (i := 1330) (by decide +kernel), List.mem_of_getElem? (i := 1686) (by decide +kernel), List.mem_of_getElem? (i := 1687) (by decide +kernel)⟩
theorem lw_p86 : lw_okq (⟨"ToastMapModel", "isPerson", "(I)Z"⟩, 46) := ⟨⟨by decide +kernel, by decide +kernel⟩, List.mem_of_getElem? (i := 1330) (by decide +kernel), List.mem_of_getElem? (i := 1694) (by decide +kernel), List.mem_of_getElem? (i := 1695) (by decide +kernel)⟩
theorem lw_p87 : lw_okq (⟨"ToastMapModel", "warmersOf", "(I)I"⟩, 46) := ⟨⟨by decide +kernel, by decide +kernel⟩, List.mem_of_getElem? (i := 1330) (by decide +kernel), List.mem_of_getElem? (i := 1698) (by decide +kernel), List.mem_of_getElem? (i := 1699) (by decide +kernel)⟩
theorem lw_p88 : lw_okq (⟨"ToastMapModel", "warmOf", "(I)I"⟩, 46) := ⟨⟨by decide +kernel, by decide +kernel⟩, List.mem_of_getElem? (i := 1330) (by decide +kernel), List.mem_of_getElem? (i := 1702) (by decide +kernel), List.mem_of_getElem? (i := 1703) (by decide +kernel)⟩
theorem lw_p89 : lw_okq (⟨"ToastMapModel", "farBetween", "(II)I"⟩, 46) := ⟨⟨by decide +kernel, by decide +kernel⟩, List.mem_of_getElem? (i := 1330) (by decide +kernel), List.mem_of_getElem? (i := 1706) (by decide +kernel), List.mem_of_getElem? (i := 1707) (by decide +kernel)⟩
theorem lw_p90 : lw_okq (⟨"ToastMapModel", "drinks", "(I)Z"⟩, 46) := ⟨⟨by decide +kernel, by decide +kernel⟩, List.mem_of_getElem? (i := 1330) (by decide +kernel), List.mem_of_getElem? (i := 1722) (by decide +kernel), List.mem_of_getElem? (i := 1723) (by decide +kernel)⟩
theorem lw_p91 : lw_okq (⟨"ToastMapModel", "warms", "(II)V"⟩, 46) := ⟨⟨by decide +kernel, by decide +kernel⟩, List.mem_of_getElem? (i := 1330) (by decide +kernel), List.mem_of_getElem? (i := 1726) (by decide +kernel), List.mem_of_getElem? (i := 1727) (by decide +kernel)⟩
theorem lw_p92 : lw_okq (⟨"ToastMapModel", "nightsGo", "(I)V"⟩, 46) := ⟨⟨by decide +kernel, by decide +kernel⟩, List.mem_of_getElem? (i := 1330) (by decide +kernel), List.mem_of_getElem? (i := 1738) (by decide +kernel), List.mem_of_getElem? (i := 1739) (by decide +kernel)⟩
theorem lw_p93 : lw_okq (⟨"ToastMapModel", "nightGoes", "()V"⟩, 46) := ⟨⟨by decide +kernel, by decide +kernel⟩, List.mem_of_getElem? (i := 1330) (by decide +kernel), List.mem_of_getElem? (i := 1742) (by decide +kernel), List.mem_of_getElem? (i := 1743) (by decide +kernel)⟩
theorem lw_p94 : lw_okq (⟨"ToastMapModel", "cools", "(I)V"⟩, 46) := ⟨⟨by decide +kernel, by decide +kernel⟩, List.mem_of_getElem? (i := 1330) (by decide +kernel), List.mem_of_getElem? (i := 1746) (by decide +kernel), List.mem_of_getElem? (i := 1747) (by decide +kernel)⟩
theorem lw_p95 : lw_okq (⟨"ToastMapModel", "eveningGoes", "(I)I"⟩, 46) := ⟨⟨by decide +kernel, by decide +kernel⟩, List.mem_of_getElem? (i := 1330) (by decide +kernel), List.mem_of_getElem? (i := 1754) (by decide +kernel), List.mem_of_getElem? (i := 1755) (by decide +kernel)⟩
def lw_privs_6 : List (MethodName × Nat) := [(⟨"ToastMapModel", "areLit", "()I"⟩, 46), (⟨"ToastMapModel", "isLit", "(I)Z"⟩, 46), (⟨"ToastMapModel", "personOf", "(II)I"⟩, 46), (⟨"ToastMapModel", "haveWhom", "()I"⟩, 46), (⟨"ToastMapModel", "whomOf", "(I)I"⟩, 46), (⟨"ToastMapModel", "together", "(I)I"⟩, 46), (⟨"ToastMapModel", "isPerson", "(I)Z"⟩, 46), (⟨"ToastMapModel", "warmersOf", "(I)I"⟩, 46), (⟨"ToastMapModel", "warmOf", "(I)I"⟩, 46), (⟨"ToastMapModel", "farBetween", "(II)I"⟩, 46), (⟨"ToastMapModel", "drinks", "(I)Z"⟩, 46), (⟨"ToastMapModel", "warms", "(II)V"⟩, 46), (⟨"ToastMapModel", "nightsGo", "(I)V"⟩, 46), (⟨"ToastMapModel", "nightGoes", "()V"⟩, 46), (⟨"ToastMapModel", "cools", "(I)V"⟩, 46), (⟨"ToastMapModel", "eveningGoes", "(I)I"⟩, 46)]
theorem lw_r6 : ∀ q ∈ lw_privs_6, lw_okq q := List.forall_mem_cons.mpr ⟨lw_p80, List.forall_mem_cons.mpr ⟨lw_p81, List.forall_mem_cons.mpr ⟨lw_p82, List.forall_mem_cons.mpr ⟨lw_p83, List.forall_mem_cons.mpr ⟨lw_p84, List.forall_mem_cons.mpr ⟨lw_p85, List.forall_mem_cons.mpr ⟨lw_p86, List.forall_mem_cons.mpr ⟨lw_p87, List.forall_mem_cons.mpr ⟨lw_p88, List.forall_mem_cons.mpr ⟨lw_p89, List.forall_mem_cons.mpr ⟨lw_p90, List.forall_mem_cons.mpr ⟨lw_p91, List.forall_mem_cons.mpr ⟨lw_p92, List.forall_mem_cons.mpr ⟨lw_p93, List.forall_mem_cons.mpr ⟨lw_p94, List.forall_mem_cons.mpr ⟨lw_p95, fun _ h => absurd h List.not_mem_nil⟩⟩⟩⟩⟩⟩⟩⟩⟩⟩⟩⟩⟩⟩⟩⟩
theorem lw_p96 : lw_okq (⟨"ToastMapModel", "fills", "(II)Z"⟩, 46) := ⟨⟨by decide +kernel, by decide +kernel⟩, List.mem_of_getElem? (i := 1330) (by decide +kernel), List.mem_of_getElem? (i := 1763) (by decide +kernel), List.mem_of_getElem? (i := 1764) (by decide +kernel)⟩
theorem lw_p97 : lw_okq (⟨"ToastMapModel", "areTwo", "(II)Z"⟩, 46) := ⟨⟨by decide +kernel, by decide +kernel⟩, List.mem_of_getElem? (i := 1330) (by decide +kernel), List.mem_of_getElem? (i := 1780) (by decide +kernel), List.mem_of_getElem? (i := 1781) (by decide +kernel)⟩
theorem lw_p98 : lw_okq (⟨"ToastMapModel", "cooled", "(II)I"⟩, 46) := ⟨⟨by decide +kernel, by decide +kernel⟩, List.mem_of_getElem? (i := 1330) (by decide +kernel), List.mem_of_getElem? (i := 1797) (by decide +kernel), List.mem_of_getElem? (i := 1798) (by decide +kernel)⟩
theorem lw_p99 : lw_okq (⟨"ToastMapModel", "keeps", "(I)V"⟩, 46) := ⟨⟨by decide +kernel, by decide +kernel⟩, List.mem_of_getElem? (i := 1330) (by decide +kernel), List.mem_of_getElem? (i := 1809) (by decide +kernel), List.mem_of_getElem? (i := 1810) (by decide +kernel)⟩
theorem lw_p100 : lw_okq (⟨"ToastMapModel", "eveningsGo", "(I)V"⟩, 46) := ⟨⟨by decide +kernel, by decide +kernel⟩, List.mem_of_getElem? (i := 1330) (by decide +kernel), List.mem_of_getElem? (i := 1813) (by decide +kernel), List.mem_of_getElem? (i := 1814) (by decide +kernel)⟩
theorem lw_p101 : lw_okq (⟨"ToastMapModel", "restores", "(I)V"⟩, 46) := ⟨⟨by decide +kernel, by decide +kernel⟩, List.mem_of_getElem? (i := 1330) (by decide +kernel), List.mem_of_getElem? (i := 1817) (by decide +kernel), List.mem_of_getElem? (i := 1818) (by decide +kernel)⟩
theorem lw_p102 : lw_okq (⟨"ToastMapModel", "laysSettled", "()Z"⟩, 46) := ⟨⟨by decide +kernel, by decide +kernel⟩, List.mem_of_getElem? (i := 1330) (by decide +kernel), List.mem_of_getElem? (i := 1829) (by decide +kernel), List.mem_of_getElem? (i := 1830) (by decide +kernel)⟩
theorem lw_p103 : lw_okq (⟨"ToastMapModel", "isAlike", "(II)Z"⟩, 46) := ⟨⟨by decide +kernel, by decide +kernel⟩, List.mem_of_getElem? (i := 1330) (by decide +kernel), List.mem_of_getElem? (i := 1833) (by decide +kernel), List.mem_of_getElem? (i := 1834) (by decide +kernel)⟩
theorem lw_p104 : lw_okq (⟨"ToastMapModel", "laysChain", "(I)V"⟩, 46) := ⟨⟨by decide +kernel, by decide +kernel⟩, List.mem_of_getElem? (i := 1330) (by decide +kernel), List.mem_of_getElem? (i := 1845) (by decide +kernel), List.mem_of_getElem? (i := 1846) (by decide +kernel)⟩
theorem lw_p105 : lw_okq (⟨"ToastMapModel", "ringOf", "(I)I"⟩, 46) := ⟨⟨by decide +kernel, by decide +kernel⟩, List.mem_of_getElem? (i := 1330) (by decide +kernel), List.mem_of_getElem? (i := 1857) (by decide +kernel), List.mem_of_getElem? (i := 1858) (by decide +kernel)⟩
theorem lw_p106 : lw_okq (⟨"ToastMapModel", "needsOf", "(I)I"⟩, 46) := ⟨⟨by decide +kernel, by decide +kernel⟩, List.mem_of_getElem? (i := 1330) (by decide +kernel), List.mem_of_getElem? (i := 1869) (by decide +kernel), List.mem_of_getElem? (i := 1870) (by decide +kernel)⟩
theorem lw_p107 : lw_okq (⟨"ToastMapModel", "mostOfAll", "(I)I"⟩, 46) := ⟨⟨by decide +kernel, by decide +kernel⟩, List.mem_of_getElem? (i := 1330) (by decide +kernel), List.mem_of_getElem? (i := 1879) (by decide +kernel), List.mem_of_getElem? (i := 1880) (by decide +kernel)⟩
theorem lw_p108 : lw_okq (⟨"ToastMapModel", "litBehind", "(I)I"⟩, 46) := ⟨⟨by decide +kernel, by decide +kernel⟩, List.mem_of_getElem? (i := 1330) (by decide +kernel), List.mem_of_getElem? (i := 1894) (by decide +kernel), List.mem_of_getElem? (i := 1895) (by decide +kernel)⟩
theorem lw_p109 : lw_okq (⟨"ToastMapModel", "wrongSeen", "(II)I"⟩, 46) := ⟨⟨by decide +kernel, by decide +kernel⟩, List.mem_of_getElem? (i := 1330) (by decide +kernel), List.mem_of_getElem? (i := 1902) (by decide +kernel), List.mem_of_getElem? (i := 1903) (by decide +kernel)⟩
theorem lw_p110 : lw_okq (⟨"ToastMapModel", "laysWays", "(II)V"⟩, 46) := ⟨⟨by decide +kernel, by decide +kernel⟩, List.mem_of_getElem? (i := 1330) (by decide +kernel), List.mem_of_getElem? (i := 1907) (by decide +kernel), List.mem_of_getElem? (i := 1908) (by decide +kernel)⟩
theorem lw_p111 : lw_okq (⟨"ToastMapModel", "isWay", "(II)Z"⟩, 46) := ⟨⟨by decide +kernel, by decide +kernel⟩, List.mem_of_getElem? (i := 1330) (by decide +kernel), List.mem_of_getElem? (i := 1911) (by decide +kernel), List.mem_of_getElem? (i := 1912) (by decide +kernel)⟩
def lw_privs_7 : List (MethodName × Nat) := [(⟨"ToastMapModel", "fills", "(II)Z"⟩, 46), (⟨"ToastMapModel", "areTwo", "(II)Z"⟩, 46), (⟨"ToastMapModel", "cooled", "(II)I"⟩, 46), (⟨"ToastMapModel", "keeps", "(I)V"⟩, 46), (⟨"ToastMapModel", "eveningsGo", "(I)V"⟩, 46), (⟨"ToastMapModel", "restores", "(I)V"⟩, 46), (⟨"ToastMapModel", "laysSettled", "()Z"⟩, 46), (⟨"ToastMapModel", "isAlike", "(II)Z"⟩, 46), (⟨"ToastMapModel", "laysChain", "(I)V"⟩, 46), (⟨"ToastMapModel", "ringOf", "(I)I"⟩, 46), (⟨"ToastMapModel", "needsOf", "(I)I"⟩, 46), (⟨"ToastMapModel", "mostOfAll", "(I)I"⟩, 46), (⟨"ToastMapModel", "litBehind", "(I)I"⟩, 46), (⟨"ToastMapModel", "wrongSeen", "(II)I"⟩, 46), (⟨"ToastMapModel", "laysWays", "(II)V"⟩, 46), (⟨"ToastMapModel", "isWay", "(II)Z"⟩, 46)]
theorem lw_r7 : ∀ q ∈ lw_privs_7, lw_okq q := List.forall_mem_cons.mpr ⟨lw_p96, List.forall_mem_cons.mpr ⟨lw_p97, List.forall_mem_cons.mpr ⟨lw_p98, List.forall_mem_cons.mpr ⟨lw_p99, List.forall_mem_cons.mpr ⟨lw_p100, List.forall_mem_cons.mpr ⟨lw_p101, List.forall_mem_cons.mpr ⟨lw_p102, List.forall_mem_cons.mpr ⟨lw_p103, List.forall_mem_cons.mpr ⟨lw_p104, List.forall_mem_cons.mpr ⟨lw_p105, List.forall_mem_cons.mpr ⟨lw_p106, List.forall_mem_cons.mpr ⟨lw_p107, List.forall_mem_cons.mpr ⟨lw_p108, List.forall_mem_cons.mpr ⟨lw_p109, List.forall_mem_cons.mpr ⟨lw_p110, List.forall_mem_cons.mpr ⟨lw_p111, fun _ h => absurd h List.not_mem_nil⟩⟩⟩⟩⟩⟩⟩⟩⟩⟩⟩⟩⟩⟩⟩⟩
theorem lw_p112 : lw_okq (⟨"ToastMapModel", "mayHave", "(II)Z"⟩, 46) := ⟨⟨by decide +kernel, by decide +kernel⟩, List.mem_of_getElem? (i := 1330) (by decide +kernel), List.mem_of_getElem? (i := 1915) (by decide +kernel), List.mem_of_getElem? (i := 1916) (by decide +kernel)⟩
theorem lw_p113 : lw_okq (⟨"ToastMapModel", "counts", "()V"⟩, 46) := ⟨⟨by decide +kernel, by decide +kernel⟩, List.mem_of_getElem? (i := 1330) (by decide +kernel), List.mem_of_getElem? (i := 1919) (by decide +kernel), List.mem_of_getElem? (i := 1920) (by decide +kernel)⟩
theorem lw_p114 : lw_okq (⟨"ToastMapModel", "tellsBy", "(JJ)Z"⟩, 46) := ⟨⟨by decide +kernel, by decide +kernel⟩, List.mem_of_getElem? (i := 1330) (by decide +kernel), List.mem_of_getElem? (i := 1931) (by decide +kernel), List.mem_of_getElem? (i := 1932) (by decide +kernel)⟩
theorem lw_p115 : lw_okq (⟨"ToastMapModel", "mostAlike", "(I)I"⟩, 46) := ⟨⟨by decide +kernel, by decide +kernel⟩, List.mem_of_getElem? (i := 1330) (by decide +kernel), List.mem_of_getElem? (i := 1939) (by decide +kernel), List.mem_of_getElem? (i := 1940) (by decide +kernel)⟩
theorem lw_p116 : lw_okq (⟨"ToastMapModel", "wrongLaw", "(II)I"⟩, 46) := ⟨⟨by decide +kernel, by decide +kernel⟩, List.mem_of_getElem? (i := 1330) (by decide +kernel), List.mem_of_getElem? (i := 1947) (by decide +kernel), List.mem_of_getElem? (i := 1948) (by decide +kernel)⟩
theorem lw_p117 : lw_okq (⟨"ToastMapModel", "isLaw", "(III)Z"⟩, 46) := ⟨⟨by decide +kernel, by decide +kernel⟩, List.mem_of_getElem? (i := 1330) (by decide +kernel), List.mem_of_getElem? (i := 1953) (by decide +kernel), List.mem_of_getElem? (i := 1954) (by decide +kernel)⟩
theorem lw_p118 : lw_okq (⟨"ToastMapModel", "errorOf", "(III)J"⟩, 46) := ⟨⟨by decide +kernel, by decide +kernel⟩, List.mem_of_getElem? (i := 1330) (by decide +kernel), List.mem_of_getElem? (i := 1967) (by decide +kernel), List.mem_of_getElem? (i := 1968) (by decide +kernel)⟩
theorem lw_p119 : lw_okq (⟨"ToastMapModel", "atLeast", "(III)J"⟩, 46) := ⟨⟨by decide +kernel, by decide +kernel⟩, List.mem_of_getElem? (i := 1330) (by decide +kernel), List.mem_of_getElem? (i := 1975) (by decide +kernel), List.mem_of_getElem? (i := 1976) (by decide +kernel)⟩
theorem lw_p120 : lw_okq (⟨"ToastMapModel", "playing", "(I)I"⟩, 46) := ⟨⟨by decide +kernel, by decide +kernel⟩, List.mem_of_getElem? (i := 1330) (by decide +kernel), List.mem_of_getElem? (i := 1988) (by decide +kernel), List.mem_of_getElem? (i := 1989) (by decide +kernel)⟩
theorem lw_p121 : lw_okq (⟨"ToastMapModel", "beginsAt", "(I)V"⟩, 46) := ⟨⟨by decide +kernel, by decide +kernel⟩, List.mem_of_getElem? (i := 1330) (by decide +kernel), List.mem_of_getElem? (i := 1992) (by decide +kernel), List.mem_of_getElem? (i := 1993) (by decide +kernel)⟩
theorem lw_p122 : lw_okq (⟨"ToastMapModel", "settlesAt", "(II)V"⟩, 46) := ⟨⟨by decide +kernel, by decide +kernel⟩, List.mem_of_getElem? (i := 1330) (by decide +kernel), List.mem_of_getElem? (i := 1999) (by decide +kernel), List.mem_of_getElem? (i := 2000) (by decide +kernel)⟩
theorem lw_p123 : lw_okq (⟨"ToastMapModel", "lives", "(I)V"⟩, 46) := ⟨⟨by decide +kernel, by decide +kernel⟩, List.mem_of_getElem? (i := 1330) (by decide +kernel), List.mem_of_getElem? (i := 2020) (by decide +kernel), List.mem_of_getElem? (i := 2021) (by decide +kernel)⟩
theorem lw_p124 : lw_okq (⟨"ToastMapModel", "does", "(I)Z"⟩, 46) := ⟨⟨by decide +kernel, by decide +kernel⟩, List.mem_of_getElem? (i := 1330) (by decide +kernel), List.mem_of_getElem? (i := 2024) (by decide +kernel), List.mem_of_getElem? (i := 2025) (by decide +kernel)⟩
theorem lw_p125 : lw_okq (⟨"ToastMapModel", "drinksBy", "(I)Z"⟩, 46) := ⟨⟨by decide +kernel, by decide +kernel⟩, List.mem_of_getElem? (i := 1330) (by decide +kernel), List.mem_of_getElem? (i := 2028) (by decide +kernel), List.mem_of_getElem? (i := 2029) (by decide +kernel)⟩
theorem lw_p126 : lw_okq (⟨"ToastMapModel", "nightsBy", "(I)Z"⟩, 46) := ⟨⟨by decide +kernel, by decide +kernel⟩, List.mem_of_getElem? (i := 1330) (by decide +kernel), List.mem_of_getElem? (i := 2032) (by decide +kernel), List.mem_of_getElem? (i := 2033) (by decide +kernel)⟩
theorem lw_p127 : lw_okq (⟨"ToastMapModel", "eveningsBy", "()Z"⟩, 46) := ⟨⟨by decide +kernel, by decide +kernel⟩, List.mem_of_getElem? (i := 1330) (by decide +kernel), List.mem_of_getElem? (i := 2036) (by decide +kernel), List.mem_of_getElem? (i := 2037) (by decide +kernel)⟩
def lw_privs_8 : List (MethodName × Nat) := [(⟨"ToastMapModel", "mayHave", "(II)Z"⟩, 46), (⟨"ToastMapModel", "counts", "()V"⟩, 46), (⟨"ToastMapModel", "tellsBy", "(JJ)Z"⟩, 46), (⟨"ToastMapModel", "mostAlike", "(I)I"⟩, 46), (⟨"ToastMapModel", "wrongLaw", "(II)I"⟩, 46), (⟨"ToastMapModel", "isLaw", "(III)Z"⟩, 46), (⟨"ToastMapModel", "errorOf", "(III)J"⟩, 46), (⟨"ToastMapModel", "atLeast", "(III)J"⟩, 46), (⟨"ToastMapModel", "playing", "(I)I"⟩, 46), (⟨"ToastMapModel", "beginsAt", "(I)V"⟩, 46), (⟨"ToastMapModel", "settlesAt", "(II)V"⟩, 46), (⟨"ToastMapModel", "lives", "(I)V"⟩, 46), (⟨"ToastMapModel", "does", "(I)Z"⟩, 46), (⟨"ToastMapModel", "drinksBy", "(I)Z"⟩, 46), (⟨"ToastMapModel", "nightsBy", "(I)Z"⟩, 46), (⟨"ToastMapModel", "eveningsBy", "()Z"⟩, 46)]
theorem lw_r8 : ∀ q ∈ lw_privs_8, lw_okq q := List.forall_mem_cons.mpr ⟨lw_p112, List.forall_mem_cons.mpr ⟨lw_p113, List.forall_mem_cons.mpr ⟨lw_p114, List.forall_mem_cons.mpr ⟨lw_p115, List.forall_mem_cons.mpr ⟨lw_p116, List.forall_mem_cons.mpr ⟨lw_p117, List.forall_mem_cons.mpr ⟨lw_p118, List.forall_mem_cons.mpr ⟨lw_p119, List.forall_mem_cons.mpr ⟨lw_p120, List.forall_mem_cons.mpr ⟨lw_p121, List.forall_mem_cons.mpr ⟨lw_p122, List.forall_mem_cons.mpr ⟨lw_p123, List.forall_mem_cons.mpr ⟨lw_p124, List.forall_mem_cons.mpr ⟨lw_p125, List.forall_mem_cons.mpr ⟨lw_p126, List.forall_mem_cons.mpr ⟨lw_p127, fun _ h => absurd h List.not_mem_nil⟩⟩⟩⟩⟩⟩⟩⟩⟩⟩⟩⟩⟩⟩⟩⟩
theorem lw_p128 : lw_okq (⟨"ToastMapModel", "doesAny", "()Z"⟩, 46) := ⟨⟨by decide +kernel, by decide +kernel⟩, List.mem_of_getElem? (i := 1330) (by decide +kernel), List.mem_of_getElem? (i := 2040) (by decide +kernel), List.mem_of_getElem? (i := 2041) (by decide +kernel)⟩
theorem lw_p129 : lw_okq (⟨"ToastMapModel", "draw", "(I)I"⟩, 46) := ⟨⟨by decide +kernel, by decide +kernel⟩, List.mem_of_getElem? (i := 1330) (by decide +kernel), List.mem_of_getElem? (i := 2044) (by decide +kernel), List.mem_of_getElem? (i := 2045) (by decide +kernel)⟩
theorem lw_p130 : lw_okq (⟨"ToastMapModel", "holds", "(I)Z"⟩, 46) := ⟨⟨by decide +kernel, by decide +kernel⟩, List.mem_of_getElem? (i := 1330) (by decide +kernel), List.mem_of_getElem? (i := 2049) (by decide +kernel), List.mem_of_getElem? (i := 2050) (by decide +kernel)⟩
theorem lw_p131 : lw_okq (⟨"ToastMapModel", "behindEnds", "(I)I"⟩, 46) := ⟨⟨by decide +kernel, by decide +kernel⟩, List.mem_of_getElem? (i := 1330) (by decide +kernel), List.mem_of_getElem? (i := 2053) (by decide +kernel), List.mem_of_getElem? (i := 2054) (by decide +kernel)⟩
theorem lw_p132 : lw_okq (⟨"ToastMapModel", "copies", "(II)V"⟩, 46) := ⟨⟨by decide +kernel, by decide +kernel⟩, List.mem_of_getElem? (i := 1330) (by decide +kernel), List.mem_of_getElem? (i := 2069) (by decide +kernel), List.mem_of_getElem? (i := 2070) (by decide +kernel)⟩
def lw_privs_9 : List (MethodName × Nat) := [(⟨"ToastMapModel", "doesAny", "()Z"⟩, 46), (⟨"ToastMapModel", "draw", "(I)I"⟩, 46), (⟨"ToastMapModel", "holds", "(I)Z"⟩, 46), (⟨"ToastMapModel", "behindEnds", "(I)I"⟩, 46), (⟨"ToastMapModel", "copies", "(II)V"⟩, 46)]
theorem lw_r9 : ∀ q ∈ lw_privs_9, lw_okq q := List.forall_mem_cons.mpr ⟨lw_p128, List.forall_mem_cons.mpr ⟨lw_p129, List.forall_mem_cons.mpr ⟨lw_p130, List.forall_mem_cons.mpr ⟨lw_p131, List.forall_mem_cons.mpr ⟨lw_p132, fun _ h => absurd h List.not_mem_nil⟩⟩⟩⟩⟩
def lw_privs : List (MethodName × Nat) := lw_privs_1 ++ (lw_privs_2 ++ (lw_privs_3 ++ (lw_privs_4 ++ (lw_privs_5 ++ (lw_privs_6 ++ (lw_privs_7 ++ (lw_privs_8 ++ (lw_privs_9))))))))
def lw_tbl : List Cond := k2_sels lw_privs ++ tables_1
theorem lw_privs_ok : ∀ q ∈ lw_privs, lw_okq q := by
  show ∀ q ∈ lw_privs_1 ++ (lw_privs_2 ++ (lw_privs_3 ++ (lw_privs_4 ++ (lw_privs_5 ++ (lw_privs_6 ++ (lw_privs_7 ++ (lw_privs_8 ++ (lw_privs_9)))))))), lw_okq q
  exact List.forall_mem_append.mpr ⟨lw_r1, List.forall_mem_append.mpr ⟨lw_r2, List.forall_mem_append.mpr ⟨lw_r3, List.forall_mem_append.mpr ⟨lw_r4, List.forall_mem_append.mpr ⟨lw_r5, List.forall_mem_append.mpr ⟨lw_r6, List.forall_mem_append.mpr ⟨lw_r7, List.forall_mem_append.mpr ⟨lw_r8, lw_r9⟩⟩⟩⟩⟩⟩⟩⟩

def sm_AOA (ty : FieldType) (U : State) : Prop := (Cond.arrayOver (.array ty)).before #[] U = true
theorem sm_AOA.use {ty : FieldType} {A : Array Value} {U : State} (h : sm_AOA ty U) : (Cond.arrayOver (.array ty)).before A U = true := h
/-! ===== BEGIN new T[n][m]: the outer array a place, the inner ones among the pooled ===== -/
/-- f, but v at every address of l -/
def vr_up {α : Type} (f : Nat → α) (l : List Nat) (v : α) : Nat → α := fun a => if a ∈ l then v else f a
theorem vr_up_in {α : Type} {f : Nat → α} {l : List Nat} {v : α} {a : Nat} (h : a ∈ l) : vr_up f l v a = v := if_pos h
theorem vr_up_ne {α : Type} {f : Nat → α} {l : List Nat} {v : α} {a : Nat} (h : a ∉ l) : vr_up f l v a = f a := if_neg h
theorem vr_rows {L l : List Nat} {f : Nat → va_E} {e : va_E} (h : ∀ a, a ∈ l → a ∉ L) : va_pl L f ++ l.map (fun a => (a, e)) = va_pl (L ++ l) (vr_up f l e) := by
  unfold va_pl
  rw [List.map_append]
  congr 1
  · apply List.map_congr_left
    intro a ha
    rw [vr_up_ne (fun q => h a q ha)]
  · apply List.map_congr_left
    intro a ha
    rw [vr_up_in ha]
theorem vr_lay {X rows : va_W} {x : Nat × va_E} {pl : va_W} {D : va_G} {cl : List vw_C} {H : Heap} (hP : va_P D cl (((X ++ pl) ++ [x]) ++ rows) H) : va_P D cl ((X ++ [x]) ++ (pl ++ rows)) H := by
  rw [List.append_assoc (X ++ pl)] at hP
  have h := va_P.swap hP
  rw [← List.append_assoc X] at h
  have h2 := va_P.swap h
  rw [List.append_assoc (X ++ [x])] at h2
  exact h2
theorem vr_layD {X rows : va_W} {x : Nat × va_E} {pl : va_W} {A : Nat → Prop} (hD : va_D A (((X ++ pl) ++ [x]) ++ rows)) : va_D A ((X ++ [x]) ++ (pl ++ rows)) := by
  rw [List.append_assoc (X ++ pl)] at hD
  have h := va_D.swap hD
  rw [← List.append_assoc X] at h
  have h2 := va_D.swap h
  rw [List.append_assoc (X ++ [x])] at h2
  exact h2
theorem vr_outer (c : ClassId) (N h0 : Nat) : ∀ i : Nat, Jvm.Free.Multi.outerC c N h0 i = arrV c N (fun j => va_rf (if j < i then some (h0 + 1 + j) else none))
  | 0 => by
    show ({ cls := c, slots := Array.replicate N .null, vm := .none } : Cell) = _
    rw [arrV_new]
    refine congrArg (arrV c N) (funext fun j => ?_)
    simp [va_rf]
  | i + 1 => by
    show (Jvm.Free.Multi.outerC c N h0 i).setSlot i (.ref (h0 + 1 + i)) = _
    rw [vr_outer c N h0 i, arrV_store]
    refine congrArg (arrV c N) (funext fun j => ?_)
    by_cases e : j = i
    · subst e
      simp [updV, va_rf]
    · by_cases h : j < i
      · simp [updV, e, h, Nat.lt_succ_of_lt h]
      · simp [updV, e, h, show ¬ j < i + 1 by omega]
section VGM
variable {p : Program} {l : Launch} {e : Env} {R : Room} {s : State} {m : MethodId} {args : Array Value} {below : List Frame} {meth : Method} {c : Code} {H : Heap} {locs : List Loc} {cells slots : Nat} {Q : State → Prop}
variable {cc : ByteArray} {pc : Nat} {ls : Array Slot} {rest : List Value} {D : va_G} {cl : List vw_C} {A : Nat → Prop} {a : Nat} {tys : List (ClassId × FieldType)} {ws : va_W} {H0 : Heap}
theorem va_mna {X : va_W} {L : List Nat} {f : Nat → va_E} {cc : ByteArray} (hexec : p.tables.exec = Jvm.exec) (hb : c.code = cc) {own : String} {index : Nat} {ty : FieldType} {cy : ClassId} (hown : s.vm.findClass own = some m.cls) (hclink : (Cond.classLink own index ("[" ++ (FieldType.array ty).toString)).before args s = true) (hover : sm_AOA ty s) (harr : (Cond.arrayClass ty).before args s = true) (hcy : s.vm.findClass (FieldType.array ty).toString = some cy)
    (hK : va_K D cl tys s) (hP : va_P D cl (X ++ va_pl L f) H) (hD : va_D A (X ++ va_pl L f)) (hS : va_S A H0 H locs) (hA : ∀ q, H0.size ≤ q → A q) {n k : Int32} {N' K' : Nat} {z : vp_A} (hn : ¬ n < 0) (hk : ¬ k < 0) (hN : n.toNatClampNeg = N') (hM : k.toNatClampNeg = K')
    (hb1 : N' * 4 ≤ 536870912) (hb2 : K' * componentBytes ty ≤ 536870912) (hb3 : K' ≤ 536870912) (hdf : fits ty (defaultValue ty) = true) (hdd : (defaultValue ty).isDefault = true) (hcells : cells + (1 + N') ≤ R.cells) (hslots : slots + (N' + N' * K') ≤ R.slots) (hz : ∀ c : ClassId, Jvm.Free.Multi.innerC c K' (defaultValue ty) = vp_cell c z) (hdg : decode cc pc = .ok (.multianewarray index 2, 4))
    (kk : ∀ (q : Nat) (r : Nat → Nat) (cA : ClassId) (H1 : Heap), (∀ i j : Nat, i < N' → j < N' → r i = r j → i = j) → (∀ i : Nat, i < N' → r i ∉ L) → va_K D cl (tys ++ [(cA, .array ty)]) s →
      va_P D cl ((X ++ [(q, .inl (cA, N', .inr (.inr (.inr (.inr (fun i => if i < N' then some (r i) else none))))))]) ++ va_pl (L ++ (List.range N').map r) (vr_up f ((List.range N').map r) (.inl (cy, z)))) H1 → va_D A ((X ++ [(q, .inl (cA, N', .inr (.inr (.inr (.inr (fun i => if i < N' then some (r i) else none))))))]) ++ va_pl (L ++ (List.range N').map r) (vr_up f ((List.range N').map r) (.inl (cy, z)))) → va_S A H0 H1 locs →
      W p l e R s m args below meth c H1 locs (cells + 1 + N') (slots + N' + N' * K') Q (F0 m (pc + 4) ls (.ref q :: rest))) : W p l e R s m args below meth c H locs cells slots Q (F0 m pc ls (.int k :: .int n :: rest)) := by
  subst hN
  subst hM
  intro T hT Xs
  obtain ⟨vm₁, cA, comp, -, fA, fC, hO, -, X', step⟩ := Xs.multianewarray2F hexec hown hclink (sm_AOA.use hover) harr (g := F0 m pc ls (.int k :: .int n :: rest)) rfl (by rw [hb]; exact hdg) rfl hn hk hb1 hb2 hb3 hdf hdd hcells hslots
  have ec : some cy = some comp := hcy.symm.trans fC
  cases ec
  generalize hF : Jvm.Free.Multi.fill (T.setVm vm₁) cA cy n.toNatClampNeg k.toNatClampNeg (defaultValue ty) n.toNatClampNeg = F at X' step
  have hTh : (T.setVm vm₁).heap = H := hT
  obtain ⟨f1, f2, -, -⟩ := Jvm.Free.Multi.fill_facts (T.setVm vm₁) cA cy n.toNatClampNeg k.toNatClampNeg (defaultValue ty) n.toNatClampNeg
  rw [hF, hTh] at f1 f2
  have hold : ∀ x : Nat, x < H.size → F.heap[x]? = H[x]? := fun x hx => by
    have := Jvm.Free.Multi.fill_old (T.setVm vm₁) cA cy n.toNatClampNeg k.toNatClampNeg (defaultValue ty) (a := x) (by rw [hTh]; exact hx) n.toNatClampNeg
    rw [hF, hTh] at this
    exact this
  have hrow : ∀ j : Nat, j < n.toNatClampNeg → F.heap[H.size + 1 + j]? = some (vp_cell cy z) := fun j hj => by
    have := Jvm.Free.Multi.fill_inner (T.setVm vm₁) cA cy n.toNatClampNeg k.toNatClampNeg (defaultValue ty) n.toNatClampNeg j hj
    rw [hF, hTh, hz] at this
    exact this
  have hout : Jvm.Free.Multi.outerC cA n.toNatClampNeg H.size n.toNatClampNeg = vp_cell cA (n.toNatClampNeg, .inr (.inr (.inr (.inr (fun i => if i < n.toNatClampNeg then some (H.size + 1 + i) else none))))) := by
    rw [vp_cell_q]
    exact vr_outer cA n.toNatClampNeg H.size n.toNatClampNeg
  rw [hout] at f2
  have hlt : ∀ a, a ∈ L → a < H.size := fun a ha => by
    obtain ⟨k9, hk9⟩ := va_pl_get (X := X) (f := f) ha
    exact (hP k9 _ hk9).lt
  have hnl : ∀ i : Nat, i < n.toNatClampNeg → H.size + 1 + i ∉ L := fun i _ h => by
    have := hlt _ h
    omega
  have hnm : ∀ a, a ∈ (List.range n.toNatClampNeg).map (fun i => H.size + 1 + i) → a ∉ L := fun a ha h => by
    obtain ⟨i, -, rfl⟩ := List.mem_map.mp ha
    have := hlt _ h
    omega
  have hP0 : va_P D cl (X ++ va_pl L f) F.heap := hP.kept (fun k9 x hx => hold x.1 ((hP k9 x hx).lt))
  have hP1 : va_P D cl ((X ++ va_pl L f) ++ [(H.size, .inl (cA, n.toNatClampNeg, .inr (.inr (.inr (.inr (fun i => if i < n.toNatClampNeg then some (H.size + 1 + i) else none))))))]) F.heap := hP0.app (fun k9 x hx => by
    have h0 : k9 < 1 := (List.getElem?_eq_some_iff.mp hx).1
    rw [show k9 = 0 by omega] at hx
    cases hx
    exact f2)
  have hP2 : va_P D cl (((X ++ va_pl L f) ++ [(H.size, .inl (cA, n.toNatClampNeg, .inr (.inr (.inr (.inr (fun i => if i < n.toNatClampNeg then some (H.size + 1 + i) else none))))))]) ++ ((List.range n.toNatClampNeg).map (fun i => H.size + 1 + i)).map (fun a => (a, .inl (cy, z)))) F.heap := hP1.app (fun k9 x hx => by
    obtain ⟨a, ha, rfl⟩ := List.mem_map.mp (List.mem_of_getElem? hx)
    obtain ⟨i, hi, rfl⟩ := List.mem_map.mp ha
    exact hrow i (List.mem_range.mp hi))
  have hD2 : va_D A (((X ++ va_pl L f) ++ [(H.size, .inl (cA, n.toNatClampNeg, .inr (.inr (.inr (.inr (fun i => if i < n.toNatClampNeg then some (H.size + 1 + i) else none))))))]) ++ ((List.range n.toNatClampNeg).map (fun i => H.size + 1 + i)).map (fun a => (a, .inl (cy, z)))) := by
    have hD1 := hD.push (e := .inl (cA, n.toNatClampNeg, .inr (.inr (.inr (.inr (fun i => if i < n.toNatClampNeg then some (H.size + 1 + i) else none)))))) hP rfl (hA _ hS.1)
    generalize hW1 : (X ++ va_pl L f) ++ [(H.size, .inl (cA, n.toNatClampNeg, .inr (.inr (.inr (.inr (fun i => if i < n.toNatClampNeg then some (H.size + 1 + i) else none))))))] = W1 at hD1 hP1 ⊢
    have hle : ∀ (k9 : Nat) (x : Nat × va_E), W1[k9]? = some x → x.1 ≤ H.size := fun k9 x hx => by
      rw [← hW1] at hx
      by_cases hl : k9 < (X ++ va_pl L f).length
      · rw [List.getElem?_append_left hl] at hx
        exact Nat.le_of_lt ((hP k9 x hx).lt)
      · rw [List.getElem?_append_right (by omega)] at hx
        have h0 : k9 - (X ++ va_pl L f).length < 1 := (List.getElem?_eq_some_iff.mp hx).1
        rw [show k9 - (X ++ va_pl L f).length = 0 by omega] at hx
        cases hx
        exact Nat.le_refl _
    have hr : ∀ (k9 : Nat) (x : Nat × va_E), (((List.range n.toNatClampNeg).map (fun i => H.size + 1 + i)).map (fun a => ((a, .inl (cy, z)) : Nat × va_E)))[k9]? = some x → x.1 = H.size + 1 + k9 := fun k9 x hx => by
      rw [List.getElem?_map, List.getElem?_map] at hx
      by_cases h9 : k9 < n.toNatClampNeg
      · rw [List.getElem?_range h9] at hx
        cases hx
        rfl
      · have hn0 : (List.range n.toNatClampNeg)[k9]? = none := List.getElem?_eq_none (by rw [List.length_range]; omega)
        rw [hn0] at hx
        cases hx
    refine ⟨fun i j x y hi hj hxy => ?_, fun k9 x hx => ?_⟩
    · by_cases h1 : i < W1.length <;> by_cases h2 : j < W1.length
      · rw [List.getElem?_append_left h1] at hi
        rw [List.getElem?_append_left h2] at hj
        exact hD1.1 i j x y hi hj hxy
      · rw [List.getElem?_append_left h1] at hi
        rw [List.getElem?_append_right (by omega)] at hj
        have := hle _ _ hi
        have := hr _ _ hj
        omega
      · rw [List.getElem?_append_right (by omega)] at hi
        rw [List.getElem?_append_left h2] at hj
        have := hle _ _ hj
        have := hr _ _ hi
        omega
      · rw [List.getElem?_append_right (by omega)] at hi hj
        have := hr _ _ hi
        have := hr _ _ hj
        omega
    · by_cases h1 : k9 < W1.length
      · rw [List.getElem?_append_left h1] at hx
        exact hD1.2 k9 x hx
      · rw [List.getElem?_append_right (by omega)] at hx
        have := hr _ _ hx
        exact hA _ (by have := hS.1; omega)
  have hAr : ArrOfT s cA (.array ty) := fun N9 z9 => by
    obtain ⟨-, k9, hk9, cm9, hkk9⟩ := (hO 0 0 0).1
    exact ⟨(fun q hq => by cases hq), k9, hk9, cm9, hkk9⟩
  have hK2 : va_K D cl (tys ++ [(cA, .array ty)]) s := ⟨hK.1, fun k9 x hx => by
    by_cases hl : k9 < tys.length
    · rw [List.getElem?_append_left hl] at hx
      exact hK.2 k9 x hx
    · rw [List.getElem?_append_right (by omega)] at hx
      have h0 : k9 - tys.length < 1 := (List.getElem?_eq_some_iff.mp hx).1
      rw [show k9 - tys.length = 0 by omega] at hx
      cases hx
      exact ⟨hAr, fA⟩⟩
  obtain ⟨t, a1, b1⟩ := kk H.size (fun i => H.size + 1 + i) cA F.heap (fun i j _ _ h => by have h9 : H.size + 1 + i = H.size + 1 + j := h; omega) hnl hK2 (by rw [← vr_rows hnm]; exact vr_lay hP2) (by rw [← vr_rows hnm]; exact vr_layD hD2) ⟨by rw [f1]; have := hS.1; omega, fun x h1 h2 => (hold x (Nat.lt_of_lt_of_le h1 hS.1)).trans (hS.2.1 x h1 h2), hS.2.2⟩ F rfl X'
  refine ⟨t, step t ?_, b1⟩
  have e : T.heap.size = H.size := by rw [hT]
  rw [e]
  exact a1
end VGM
/-! ===== END ===== -/
def RX0 : String := "ToastMap$Company"
def TX0 : u_T := fun k => match k with
  | 0 => ("ToastMap$Company", "count", "I", false)
  | 1 => ("ToastMap$Company", "night", "I", false)
  | 2 => ("ToastMap$Company", "rules", "[I", true)
  | 3 => ("ToastMap$Company", "place", "[I", true)
  | 4 => ("ToastMap$Company", "meant", "[I", true)
  | 5 => ("ToastMap$Company", "warmth", "[I", true)
  | 6 => ("ToastMap$Company", "glasses", "[I", true)
  | 7 => ("ToastMap$Company", "whom", "[I", true)
  | 8 => ("ToastMap$Company", "names", "[J", true)
  | _ => ("ToastMap$Company", "sums", "[I", true)
def tyX0 : Nat → FieldType := fun k => match k with
  | 0 => .int
  | 1 => .int
  | 2 => .array .int
  | 3 => .array .int
  | 4 => .array .int
  | 5 => .array .int
  | 6 => .array .int
  | 7 => .array .int
  | 8 => .array .long
  | _ => .array .int
abbrev wsX00 : List Cond := u_ws RX0 TX0 10
theorem nmX0 : ∀ a, a < 10 → ∀ b, b < 10 → a ≠ b → (TX0 a).2.1 ≠ (TX0 b).2.1 := by decide +kernel
theorem tyX0_ok : ∀ k, k < 10 → parseFieldDescriptor (TX0 k).2.2.1 = some (tyX0 k) := by decide +kernel
abbrev cX0_init : ByteArray := prog_2_method_1_code
def yX0_init : MethodName := ⟨RX0, "<init>", "()V"⟩
abbrev cX0_clear : ByteArray := prog_2_method_2_code
def yX0_clear : MethodName := ⟨RX0, "clear", "()V"⟩
abbrev cX0_takeFrom : ByteArray := prog_2_method_3_code
def yX0_takeFrom : MethodName := ⟨RX0, "takeFrom", "(LToastMap$Company;)V"⟩
abbrev cX0_has : ByteArray := prog_2_method_4_code
def yX0_has : MethodName := ⟨RX0, "has", "(I)Z"⟩
abbrev cX0_isFull : ByteArray := prog_2_method_5_code
def yX0_isFull : MethodName := ⟨RX0, "isFull", "()Z"⟩
abbrev cX0_add : ByteArray := prog_2_method_6_code
def yX0_add : MethodName := ⟨RX0, "add", "(IJ)I"⟩
abbrev cX0_named : ByteArray := prog_2_method_7_code
def yX0_named : MethodName := ⟨RX0, "named", "(J)I"⟩
abbrev cX0_hasWhom : ByteArray := prog_2_method_8_code
def yX0_hasWhom : MethodName := ⟨RX0, "hasWhom", "(I)Z"⟩
abbrev cX0_apart : ByteArray := prog_2_method_9_code
def yX0_apart : MethodName := ⟨RX0, "apart", "(II)I"⟩
abbrev cX0_warmOf : ByteArray := prog_2_method_10_code
def yX0_warmOf : MethodName := ⟨RX0, "warmOf", "(I)I"⟩
abbrev cX0_isLit : ByteArray := prog_2_method_11_code
def yX0_isLit : MethodName := ⟨RX0, "isLit", "(I)Z"⟩
abbrev cX0_litSet : ByteArray := prog_2_method_12_code
def yX0_litSet : MethodName := ⟨RX0, "litSet", "()I"⟩
abbrev cX0_toastingSet : ByteArray := prog_2_method_13_code
def yX0_toastingSet : MethodName := ⟨RX0, "toastingSet", "()I"⟩
abbrev cX0_warmersOf : ByteArray := prog_2_method_14_code
def yX0_warmersOf : MethodName := ⟨RX0, "warmersOf", "(I)I"⟩
abbrev cX0_allWarmth : ByteArray := prog_2_method_15_code
def yX0_allWarmth : MethodName := ⟨RX0, "allWarmth", "()I"⟩
abbrev cX0_allGlasses : ByteArray := prog_2_method_16_code
def yX0_allGlasses : MethodName := ⟨RX0, "allGlasses", "()I"⟩
abbrev cX0_warmthAsOne : ByteArray := prog_2_method_17_code
def yX0_warmthAsOne : MethodName := ⟨RX0, "warmthAsOne", "()J"⟩
abbrev cX0_canDrink : ByteArray := prog_2_method_18_code
def yX0_canDrink : MethodName := ⟨RX0, "canDrink", "(I)Z"⟩
abbrev cX0_letDrink : ByteArray := prog_2_method_19_code
def yX0_letDrink : MethodName := ⟨RX0, "letDrink", "(I)I"⟩
abbrev cX0_hasNights : ByteArray := prog_2_method_20_code
def yX0_hasNights : MethodName := ⟨RX0, "hasNights", "(I)Z"⟩
abbrev cX0_warmthIn : ByteArray := prog_2_method_21_code
def yX0_warmthIn : MethodName := ⟨RX0, "warmthIn", "(II)I"⟩
abbrev cX0_passNights : ByteArray := prog_2_method_22_code
def yX0_passNights : MethodName := ⟨RX0, "passNights", "(I)V"⟩
abbrev cX0_passEvening : ByteArray := prog_2_method_23_code
def yX0_passEvening : MethodName := ⟨RX0, "passEvening", "(I)I"⟩
abbrev cX0_chainLength : ByteArray := prog_2_method_24_code
def yX0_chainLength : MethodName := ⟨RX0, "chainLength", "(I)I"⟩
abbrev cX0_alongChain : ByteArray := prog_2_method_25_code
def yX0_alongChain : MethodName := ⟨RX0, "alongChain", "(II)I"⟩
abbrev cX0_isInRing : ByteArray := prog_2_method_26_code
def yX0_isInRing : MethodName := ⟨RX0, "isInRing", "(I)Z"⟩
abbrev cX0_leadsRing : ByteArray := prog_2_method_27_code
def yX0_leadsRing : MethodName := ⟨RX0, "leadsRing", "(I)Z"⟩
abbrev cX0_drinksTo : ByteArray := prog_2_method_28_code
def yX0_drinksTo : MethodName := ⟨RX0, "drinksTo", "(I)I"⟩
abbrev cX0_warmestOf : ByteArray := prog_2_method_29_code
def yX0_warmestOf : MethodName := ⟨RX0, "warmestOf", "(I)I"⟩
abbrev cX0_mostLit : ByteArray := prog_2_method_30_code
def yX0_mostLit : MethodName := ⟨RX0, "mostLit", "(I)I"⟩
abbrev cX0_canAllBeLit : ByteArray := prog_2_method_31_code
def yX0_canAllBeLit : MethodName := ⟨RX0, "canAllBeLit", "(II)Z"⟩
def RX1 : String := "ToastMap$Game"
def TX1 : u_T := fun k => match k with
  | 0 => ("ToastMap$Game", "table", "LToastMap$Company;", true)
  | 1 => ("ToastMap$Game", "turns", "I", false)
  | 2 => ("ToastMap$Game", "worth", "I", false)
  | _ => ("ToastMap$Game", "move", "I", false)
def tyX1 : Nat → FieldType := fun k => match k with
  | 0 => .object "ToastMap$Company"
  | 1 => .int
  | 2 => .int
  | _ => .int
abbrev wsX10 : List Cond := u_ws RX1 TX1 4
theorem nmX1 : ∀ a, a < 4 → ∀ b, b < 4 → a ≠ b → (TX1 a).2.1 ≠ (TX1 b).2.1 := by decide +kernel
theorem tyX1_ok : ∀ k, k < 4 → parseFieldDescriptor (TX1 k).2.2.1 = some (tyX1 k) := by decide +kernel
abbrev cX1_init : ByteArray := prog_3_method_1_code
def yX1_init : MethodName := ⟨RX1, "<init>", "()V"⟩
abbrev cX1_worth : ByteArray := prog_3_method_2_code
def yX1_worth : MethodName := ⟨RX1, "worth", "()I"⟩
abbrev cX1_firstMove : ByteArray := prog_3_method_3_code
def yX1_firstMove : MethodName := ⟨RX1, "firstMove", "()I"⟩
abbrev cX1_playOut : ByteArray := prog_3_method_4_code
def yX1_playOut : MethodName := ⟨RX1, "playOut", "(LToastMap$Company;I)V"⟩
abbrev cX1_litCount : ByteArray := prog_3_method_5_code
def yX1_litCount : MethodName := ⟨RX1, "litCount", "()I"⟩
abbrev cX1_butler : ByteArray := prog_3_method_6_code
def yX1_butler : MethodName := ⟨RX1, "butler", "(III)I"⟩
abbrev cX1_behindDrink : ByteArray := prog_3_method_7_code
def yX1_behindDrink : MethodName := ⟨RX1, "behindDrink", "(IIII)I"⟩
abbrev cX1_draught : ByteArray := prog_3_method_8_code
def yX1_draught : MethodName := ⟨RX1, "draught", "(III)I"⟩
def RX2 : String := "ToastMap$Glasses"
def TX2 : u_T := fun k => match k with
  | 0 => ("ToastMap$Glasses", "counts", "[J", true)
  | _ => ("ToastMap$Glasses", "glasses", "I", false)
def tyX2 : Nat → FieldType := fun k => match k with
  | 0 => .array .long
  | _ => .int
abbrev wsX20 : List Cond := u_ws RX2 TX2 2
theorem nmX2 : ∀ a, a < 2 → ∀ b, b < 2 → a ≠ b → (TX2 a).2.1 ≠ (TX2 b).2.1 := by decide +kernel
theorem tyX2_ok : ∀ k, k < 2 → parseFieldDescriptor (TX2 k).2.2.1 = some (tyX2 k) := by decide +kernel
abbrev cX2_init : ByteArray := prog_4_method_1_code
def yX2_init : MethodName := ⟨RX2, "<init>", "()V"⟩
abbrev cX2_taste : ByteArray := prog_4_method_2_code
def yX2_taste : MethodName := ⟨RX2, "taste", "(II)V"⟩
abbrev cX2_all : ByteArray := prog_4_method_3_code
def yX2_all : MethodName := ⟨RX2, "all", "()J"⟩
abbrev cX2_below : ByteArray := prog_4_method_4_code
def yX2_below : MethodName := ⟨RX2, "below", "(I)J"⟩
abbrev cX2_from : ByteArray := prog_4_method_5_code
def yX2_from : MethodName := ⟨RX2, "from", "(I)J"⟩
def RX3 : String := "ToastMap$Living"
def TX3 : u_T := fun k => match k with
  | 0 => ("ToastMap$Living", "turnsLeft", "[I", true)
  | 1 => ("ToastMap$Living", "drawn", "I", false)
  | 2 => ("ToastMap$Living", "stepsDone", "I", false)
  | 3 => ("ToastMap$Living", "missed", "I", false)
  | 4 => ("ToastMap$Living", "nights", "I", false)
  | 5 => ("ToastMap$Living", "drinks", "I", false)
  | 6 => ("ToastMap$Living", "evenings", "I", false)
  | _ => ("ToastMap$Living", "wasCut", "Z", false)
def tyX3 : Nat → FieldType := fun k => match k with
  | 0 => .array .int
  | 1 => .int
  | 2 => .int
  | 3 => .int
  | 4 => .int
  | 5 => .int
  | 6 => .int
  | _ => .boolean
abbrev wsX30 : List Cond := u_ws RX3 TX3 8
theorem nmX3 : ∀ a, a < 8 → ∀ b, b < 8 → a ≠ b → (TX3 a).2.1 ≠ (TX3 b).2.1 := by decide +kernel
theorem tyX3_ok : ∀ k, k < 8 → parseFieldDescriptor (TX3 k).2.2.1 = some (tyX3 k) := by decide +kernel
abbrev cX3_init : ByteArray := prog_5_method_1_code
def yX3_init : MethodName := ⟨RX3, "<init>", "()V"⟩
abbrev cX3_runThrough : ByteArray := prog_5_method_2_code
def yX3_runThrough : MethodName := ⟨RX3, "runThrough", "(LToastMap$Company;LToastMap$Times;I)V"⟩
abbrev cX3_behindEnd : ByteArray := prog_5_method_3_code
def yX3_behindEnd : MethodName := ⟨RX3, "behindEnd", "(LToastMap$Times;I)I"⟩
abbrev cX3_behindStep : ByteArray := prog_5_method_4_code
def yX3_behindStep : MethodName := ⟨RX3, "behindStep", "(LToastMap$Company;LToastMap$Times;I)I"⟩
abbrev cX3_liveDrink : ByteArray := prog_5_method_5_code
def yX3_liveDrink : MethodName := ⟨RX3, "liveDrink", "(LToastMap$Company;I)V"⟩
abbrev cX3_liveNights : ByteArray := prog_5_method_6_code
def yX3_liveNights : MethodName := ⟨RX3, "liveNights", "(LToastMap$Company;I)V"⟩
abbrev cX3_liveEvening : ByteArray := prog_5_method_7_code
def yX3_liveEvening : MethodName := ⟨RX3, "liveEvening", "(LToastMap$Company;)V"⟩
abbrev cX3_liveFill : ByteArray := prog_5_method_8_code
def yX3_liveFill : MethodName := ⟨RX3, "liveFill", "(LToastMap$Company;II)V"⟩
abbrev cX3_liveAny : ByteArray := prog_5_method_9_code
def yX3_liveAny : MethodName := ⟨RX3, "liveAny", "(LToastMap$Company;)V"⟩
abbrev cX3_drawBy : ByteArray := prog_5_method_10_code
def yX3_drawBy : MethodName := ⟨RX3, "drawBy", "(I)I"⟩
abbrev cX3_holds : ByteArray := prog_5_method_11_code
def yX3_holds : MethodName := ⟨RX3, "holds", "(LToastMap$Company;LToastMap$Times;I)Z"⟩
def RX4 : String := "ToastMap$MapReader"
def TX4 : u_T := fun k => match k with
  | 0 => ("ToastMap$MapReader", "tape", "LToastMap$Tape;", true)
  | 1 => ("ToastMap$MapReader", "company", "LToastMap$Company;", true)
  | _ => ("ToastMap$MapReader", "rulesTold", "I", false)
def tyX4 : Nat → FieldType := fun k => match k with
  | 0 => .object "ToastMap$Tape"
  | 1 => .object "ToastMap$Company"
  | _ => .int
abbrev wsX40 : List Cond := u_ws RX4 TX4 3
theorem nmX4 : ∀ a, a < 3 → ∀ b, b < 3 → a ≠ b → (TX4 a).2.1 ≠ (TX4 b).2.1 := by decide +kernel
theorem tyX4_ok : ∀ k, k < 3 → parseFieldDescriptor (TX4 k).2.2.1 = some (tyX4 k) := by decide +kernel
abbrev cX4_init : ByteArray := prog_6_method_1_code
def yX4_init : MethodName := ⟨RX4, "<init>", "(LToastMap$Tape;)V"⟩
abbrev cX4_draft : ByteArray := prog_6_method_2_code
def yX4_draft : MethodName := ⟨RX4, "draft", "()LToastMap$Company;"⟩
abbrev cX4_readMap : ByteArray := prog_6_method_3_code
def yX4_readMap : MethodName := ⟨RX4, "readMap", "(I)Z"⟩
abbrev cX4_readPart : ByteArray := prog_6_method_4_code
def yX4_readPart : MethodName := ⟨RX4, "readPart", "()Z"⟩
abbrev cX4_readRule : ByteArray := prog_6_method_5_code
def yX4_readRule : MethodName := ⟨RX4, "readRule", "(I)Z"⟩
abbrev cX4_readPerson : ByteArray := prog_6_method_6_code
def yX4_readPerson : MethodName := ⟨RX4, "readPerson", "()Z"⟩
abbrev cX4_readPerhaps : ByteArray := prog_6_method_7_code
def yX4_readPerhaps : MethodName := ⟨RX4, "readPerhaps", "(I[III)Z"⟩
abbrev cX4_readToast : ByteArray := prog_6_method_8_code
def yX4_readToast : MethodName := ⟨RX4, "readToast", "()Z"⟩
def RX5 : String := "ToastMap$Marks"
def TX5 : u_T := fun k => match k with
  | 0 => ("ToastMap$Marks", "companies", "[LToastMap$Company;", true)
  | 1 => ("ToastMap$Marks", "times", "[LToastMap$Times;", true)
  | _ => ("ToastMap$Marks", "count", "I", false)
def tyX5 : Nat → FieldType := fun k => match k with
  | 0 => .array (.object "ToastMap$Company")
  | 1 => .array (.object "ToastMap$Times")
  | _ => .int
abbrev wsX50 : List Cond := u_ws RX5 TX5 3
theorem nmX5 : ∀ a, a < 3 → ∀ b, b < 3 → a ≠ b → (TX5 a).2.1 ≠ (TX5 b).2.1 := by decide +kernel
theorem tyX5_ok : ∀ k, k < 3 → parseFieldDescriptor (TX5 k).2.2.1 = some (tyX5 k) := by decide +kernel
abbrev cX5_init : ByteArray := prog_7_method_1_code
def yX5_init : MethodName := ⟨RX5, "<init>", "()V"⟩
abbrev cX5_isFull : ByteArray := prog_7_method_2_code
def yX5_isFull : MethodName := ⟨RX5, "isFull", "()Z"⟩
abbrev cX5_isEmpty : ByteArray := prog_7_method_3_code
def yX5_isEmpty : MethodName := ⟨RX5, "isEmpty", "()Z"⟩
abbrev cX5_keep : ByteArray := prog_7_method_4_code
def yX5_keep : MethodName := ⟨RX5, "keep", "(LToastMap$Company;LToastMap$Times;)I"⟩
abbrev cX5_giveBack : ByteArray := prog_7_method_5_code
def yX5_giveBack : MethodName := ⟨RX5, "giveBack", "(LToastMap$Company;LToastMap$Times;)I"⟩
def RX6 : String := "ToastMap$Tape"
def TX6 : u_T := fun k => match k with
  | 0 => ("ToastMap$Tape", "bytes", "[B", true)
  | 1 => ("ToastMap$Tape", "words", "[J", true)
  | 2 => ("ToastMap$Tape", "many", "I", false)
  | 3 => ("ToastMap$Tape", "textLength", "I", false)
  | 4 => ("ToastMap$Tape", "next", "I", false)
  | 5 => ("ToastMap$Tape", "kind", "I", false)
  | 6 => ("ToastMap$Tape", "start", "I", false)
  | 7 => ("ToastMap$Tape", "number", "I", false)
  | 8 => ("ToastMap$Tape", "sign", "I", false)
  | 9 => ("ToastMap$Tape", "word", "I", false)
  | 10 => ("ToastMap$Tape", "letters", "J", false)
  | 11 => ("ToastMap$Tape", "faultKind", "I", false)
  | _ => ("ToastMap$Tape", "faultPlace", "I", false)
def tyX6 : Nat → FieldType := fun k => match k with
  | 0 => .array .byte
  | 1 => .array .long
  | 2 => .int
  | 3 => .int
  | 4 => .int
  | 5 => .int
  | 6 => .int
  | 7 => .int
  | 8 => .int
  | 9 => .int
  | 10 => .long
  | 11 => .int
  | _ => .int
abbrev wsX60 : List Cond := u_ws RX6 TX6 13
theorem nmX6 : ∀ a, a < 13 → ∀ b, b < 13 → a ≠ b → (TX6 a).2.1 ≠ (TX6 b).2.1 := by decide +kernel
theorem tyX6_ok : ∀ k, k < 13 → parseFieldDescriptor (TX6 k).2.2.1 = some (tyX6 k) := by decide +kernel
abbrev cX6_init : ByteArray := prog_8_method_1_code
def yX6_init : MethodName := ⟨RX6, "<init>", "()V"⟩
abbrev cX6_length : ByteArray := prog_8_method_2_code
def yX6_length : MethodName := ⟨RX6, "length", "()I"⟩
abbrev cX6_faultKind : ByteArray := prog_8_method_3_code
def yX6_faultKind : MethodName := ⟨RX6, "faultKind", "()I"⟩
abbrev cX6_faultPlace : ByteArray := prog_8_method_4_code
def yX6_faultPlace : MethodName := ⟨RX6, "faultPlace", "()I"⟩
abbrev cX6_hasRoom : ByteArray := prog_8_method_5_code
def yX6_hasRoom : MethodName := ⟨RX6, "hasRoom", "(I)Z"⟩
abbrev cX6_append : ByteArray := prog_8_method_6_code
def yX6_append : MethodName := ⟨RX6, "append", "(I)V"⟩
abbrev cX6_empty : ByteArray := prog_8_method_7_code
def yX6_empty : MethodName := ⟨RX6, "empty", "()V"⟩
abbrev cX6_begin : ByteArray := prog_8_method_8_code
def yX6_begin : MethodName := ⟨RX6, "begin", "(I)V"⟩
abbrev cX6_isAtEnd : ByteArray := prog_8_method_9_code
def yX6_isAtEnd : MethodName := ⟨RX6, "isAtEnd", "()Z"⟩
abbrev cX6_isAtCompares : ByteArray := prog_8_method_10_code
def yX6_isAtCompares : MethodName := ⟨RX6, "isAtCompares", "()Z"⟩
abbrev cX6_sign : ByteArray := prog_8_method_11_code
def yX6_sign : MethodName := ⟨RX6, "sign", "()I"⟩
abbrev cX6_number : ByteArray := prog_8_method_12_code
def yX6_number : MethodName := ⟨RX6, "number", "()I"⟩
abbrev cX6_object : ByteArray := prog_8_method_13_code
def yX6_object : MethodName := ⟨RX6, "object", "(I)Z"⟩
abbrev cX6_passWord : ByteArray := prog_8_method_14_code
def yX6_passWord : MethodName := ⟨RX6, "passWord", "(I)Z"⟩
abbrev cX6_passSemicolon : ByteArray := prog_8_method_15_code
def yX6_passSemicolon : MethodName := ⟨RX6, "passSemicolon", "()Z"⟩
abbrev cX6_isNumber : ByteArray := prog_8_method_16_code
def yX6_isNumber : MethodName := ⟨RX6, "isNumber", "(II)Z"⟩
abbrev cX6_whoIsNamed : ByteArray := prog_8_method_17_code
def yX6_whoIsNamed : MethodName := ⟨RX6, "whoIsNamed", "(LToastMap$Company;)I"⟩
abbrev cX6_step : ByteArray := prog_8_method_18_code
def yX6_step : MethodName := ⟨RX6, "step", "()V"⟩
abbrev cX6_stepWord : ByteArray := prog_8_method_19_code
def yX6_stepWord : MethodName := ⟨RX6, "stepWord", "()V"⟩
abbrev cX6_stepNumber : ByteArray := prog_8_method_20_code
def yX6_stepNumber : MethodName := ⟨RX6, "stepNumber", "()V"⟩
abbrev cX6_wordOf : ByteArray := prog_8_method_21_code
def yX6_wordOf : MethodName := ⟨RX6, "wordOf", "(J)I"⟩
abbrev cX6_withLetter : ByteArray := prog_8_method_22_code
def yX6_withLetter : MethodName := ⟨RX6, "withLetter", "(JI)J"⟩
abbrev cX6_isBlank : ByteArray := prog_8_method_23_code
def yX6_isBlank : MethodName := ⟨RX6, "isBlank", "(B)Z"⟩
abbrev cX6_isLetter : ByteArray := prog_8_method_24_code
def yX6_isLetter : MethodName := ⟨RX6, "isLetter", "(B)Z"⟩
abbrev cX6_isDigit : ByteArray := prog_8_method_25_code
def yX6_isDigit : MethodName := ⟨RX6, "isDigit", "(B)Z"⟩
abbrev cX6_isSign : ByteArray := prog_8_method_26_code
def yX6_isSign : MethodName := ⟨RX6, "isSign", "(B)Z"⟩
def RX7 : String := "ToastMap$Times"
def TX7 : u_T := fun k => match k with
  | 0 => ("ToastMap$Times", "words", "[I", true)
  | 1 => ("ToastMap$Times", "people", "[I", true)
  | 2 => ("ToastMap$Times", "tests", "[I", true)
  | 3 => ("ToastMap$Times", "signs", "[I", true)
  | 4 => ("ToastMap$Times", "numbers", "[I", true)
  | 5 => ("ToastMap$Times", "partners", "[I", true)
  | 6 => ("ToastMap$Times", "rowCount", "I", false)
  | 7 => ("ToastMap$Times", "stepCount", "I", false)
  | _ => ("ToastMap$Times", "isThere", "Z", false)
def tyX7 : Nat → FieldType := fun k => match k with
  | 0 => .array .int
  | 1 => .array .int
  | 2 => .array .int
  | 3 => .array .int
  | 4 => .array .int
  | 5 => .array .int
  | 6 => .int
  | 7 => .int
  | _ => .boolean
abbrev wsX70 : List Cond := u_ws RX7 TX7 9
theorem nmX7 : ∀ a, a < 9 → ∀ b, b < 9 → a ≠ b → (TX7 a).2.1 ≠ (TX7 b).2.1 := by decide +kernel
theorem tyX7_ok : ∀ k, k < 9 → parseFieldDescriptor (TX7 k).2.2.1 = some (tyX7 k) := by decide +kernel
abbrev cX7_init : ByteArray := prog_9_method_1_code
def yX7_init : MethodName := ⟨RX7, "<init>", "()V"⟩
abbrev cX7_forget : ByteArray := prog_9_method_2_code
def yX7_forget : MethodName := ⟨RX7, "forget", "()V"⟩
abbrev cX7_add : ByteArray := prog_9_method_3_code
def yX7_add : MethodName := ⟨RX7, "add", "(I)I"⟩
abbrev cX7_takeFrom : ByteArray := prog_9_method_4_code
def yX7_takeFrom : MethodName := ⟨RX7, "takeFrom", "(LToastMap$Times;)V"⟩
def RX8 : String := "ToastMap$TimesReader"
def TX8 : u_T := fun k => match k with
  | 0 => ("ToastMap$TimesReader", "tape", "LToastMap$Tape;", true)
  | 1 => ("ToastMap$TimesReader", "times", "LToastMap$Times;", true)
  | 2 => ("ToastMap$TimesReader", "open", "[I", true)
  | _ => ("ToastMap$TimesReader", "depth", "I", false)
def tyX8 : Nat → FieldType := fun k => match k with
  | 0 => .object "ToastMap$Tape"
  | 1 => .object "ToastMap$Times"
  | 2 => .array .int
  | _ => .int
abbrev wsX80 : List Cond := u_ws RX8 TX8 4
theorem nmX8 : ∀ a, a < 4 → ∀ b, b < 4 → a ≠ b → (TX8 a).2.1 ≠ (TX8 b).2.1 := by decide +kernel
theorem tyX8_ok : ∀ k, k < 4 → parseFieldDescriptor (TX8 k).2.2.1 = some (tyX8 k) := by decide +kernel
abbrev cX8_init : ByteArray := prog_10_method_1_code
def yX8_init : MethodName := ⟨RX8, "<init>", "(LToastMap$Tape;)V"⟩
abbrev cX8_draft : ByteArray := prog_10_method_2_code
def yX8_draft : MethodName := ⟨RX8, "draft", "()LToastMap$Times;"⟩
abbrev cX8_readTimes : ByteArray := prog_10_method_3_code
def yX8_readTimes : MethodName := ⟨RX8, "readTimes", "(ILToastMap$Company;)Z"⟩
abbrev cX8_readStep : ByteArray := prog_10_method_4_code
def yX8_readStep : MethodName := ⟨RX8, "readStep", "(LToastMap$Company;)Z"⟩
abbrev cX8_readEnd : ByteArray := prog_10_method_5_code
def yX8_readEnd : MethodName := ⟨RX8, "readEnd", "()Z"⟩
abbrev cX8_readTest : ByteArray := prog_10_method_6_code
def yX8_readTest : MethodName := ⟨RX8, "readTest", "(ILToastMap$Company;)Z"⟩
abbrev cX8_readWho : ByteArray := prog_10_method_7_code
def yX8_readWho : MethodName := ⟨RX8, "readWho", "(ILToastMap$Company;)Z"⟩
abbrev cX8_readCompares : ByteArray := prog_10_method_8_code
def yX8_readCompares : MethodName := ⟨RX8, "readCompares", "(I)Z"⟩
abbrev cX8_readAmount : ByteArray := prog_10_method_9_code
def yX8_readAmount : MethodName := ⟨RX8, "readAmount", "(III)Z"⟩
def RX9 : String := "ToastMap$Trays"
def TX9 : u_T := fun k => match k with
  | 0 => ("ToastMap$Trays", "rows", "[[J", true)
  | 1 => ("ToastMap$Trays", "sorts", "[I", true)
  | _ => ("ToastMap$Trays", "lengths", "[I", true)
def tyX9 : Nat → FieldType := fun k => match k with
  | 0 => .array (.array .long)
  | 1 => .array .int
  | _ => .array .int
abbrev wsX90 : List Cond := u_ws RX9 TX9 3
theorem nmX9 : ∀ a, a < 3 → ∀ b, b < 3 → a ≠ b → (TX9 a).2.1 ≠ (TX9 b).2.1 := by decide +kernel
theorem tyX9_ok : ∀ k, k < 3 → parseFieldDescriptor (TX9 k).2.2.1 = some (tyX9 k) := by decide +kernel
abbrev cX9_init : ByteArray := prog_11_method_1_code
def yX9_init : MethodName := ⟨RX9, "<init>", "()V"⟩
abbrev cX9_isTray : ByteArray := prog_11_method_2_code
def yX9_isTray : MethodName := ⟨RX9, "isTray", "(I)Z"⟩
abbrev cX9_isSort : ByteArray := prog_11_method_3_code
def yX9_isSort : MethodName := ⟨RX9, "isSort", "(I)Z"⟩
abbrev cX9_isMissing : ByteArray := prog_11_method_4_code
def yX9_isMissing : MethodName := ⟨RX9, "isMissing", "(I)Z"⟩
abbrev cX9_length : ByteArray := prog_11_method_5_code
def yX9_length : MethodName := ⟨RX9, "length", "(I)I"⟩
abbrev cX9_sort : ByteArray := prog_11_method_6_code
def yX9_sort : MethodName := ⟨RX9, "sort", "(I)I"⟩
abbrev cX9_has : ByteArray := prog_11_method_7_code
def yX9_has : MethodName := ⟨RX9, "has", "(III)Z"⟩
abbrev cX9_lay : ByteArray := prog_11_method_8_code
def yX9_lay : MethodName := ⟨RX9, "lay", "(III)V"⟩
abbrev cX9_at : ByteArray := prog_11_method_9_code
def yX9_at : MethodName := ⟨RX9, "at", "(II)J"⟩
abbrev cX9_put : ByteArray := prog_11_method_10_code
def yX9_put : MethodName := ⟨RX9, "put", "(IIJ)V"⟩
abbrev cX9_copy : ByteArray := prog_11_method_11_code
def yX9_copy : MethodName := ⟨RX9, "copy", "(IIIII)V"⟩
abbrev cX9_cutTo : ByteArray := prog_11_method_12_code
def yX9_cutTo : MethodName := ⟨RX9, "cutTo", "(IJ)J"⟩
def RX10 : String := "ToastMap$Ways"
def TX10 : u_T := fun k => match k with
  | 0 => ("ToastMap$Ways", "allowed", "[I", true)
  | 1 => ("ToastMap$Ways", "ahead", "[I", true)
  | 2 => ("ToastMap$Ways", "behind", "[I", true)
  | 3 => ("ToastMap$Ways", "count", "I", false)
  | _ => ("ToastMap$Ways", "full", "I", false)
def tyX10 : Nat → FieldType := fun k => match k with
  | 0 => .array .int
  | 1 => .array .int
  | 2 => .array .int
  | 3 => .int
  | _ => .int
abbrev wsX100 : List Cond := u_ws RX10 TX10 5
theorem nmX10 : ∀ a, a < 5 → ∀ b, b < 5 → a ≠ b → (TX10 a).2.1 ≠ (TX10 b).2.1 := by decide +kernel
theorem tyX10_ok : ∀ k, k < 5 → parseFieldDescriptor (TX10 k).2.2.1 = some (tyX10 k) := by decide +kernel
abbrev cX10_init : ByteArray := prog_12_method_1_code
def yX10_init : MethodName := ⟨RX10, "<init>", "()V"⟩
abbrev cX10_begin : ByteArray := prog_12_method_2_code
def yX10_begin : MethodName := ⟨RX10, "begin", "(I)V"⟩
abbrev cX10_seen : ByteArray := prog_12_method_3_code
def yX10_seen : MethodName := ⟨RX10, "seen", "(II)V"⟩
abbrev cX10_countAll : ByteArray := prog_12_method_4_code
def yX10_countAll : MethodName := ⟨RX10, "countAll", "()V"⟩
abbrev cX10_spread : ByteArray := prog_12_method_5_code
def yX10_spread : MethodName := ⟨RX10, "spread", "(I)V"⟩
abbrev cX10_gather : ByteArray := prog_12_method_6_code
def yX10_gather : MethodName := ⟨RX10, "gather", "(I)V"⟩
abbrev cX10_isOpen : ByteArray := prog_12_method_7_code
def yX10_isOpen : MethodName := ⟨RX10, "isOpen", "(III)Z"⟩
abbrev cX10_all : ByteArray := prog_12_method_8_code
def yX10_all : MethodName := ⟨RX10, "all", "()I"⟩
abbrev cX10_through : ByteArray := prog_12_method_9_code
def yX10_through : MethodName := ⟨RX10, "through", "(II)I"⟩
abbrev cX10_firstWhom : ByteArray := prog_12_method_10_code
def yX10_firstWhom : MethodName := ⟨RX10, "firstWhom", "(I)I"⟩
abbrev cX10_firstOpen : ByteArray := prog_12_method_11_code
def yX10_firstOpen : MethodName := ⟨RX10, "firstOpen", "(II)I"⟩
abbrev cX10_bestAsked : ByteArray := prog_12_method_12_code
def yX10_bestAsked : MethodName := ⟨RX10, "bestAsked", "()I"⟩
abbrev cX10_mostThrough : ByteArray := prog_12_method_13_code
def yX10_mostThrough : MethodName := ⟨RX10, "mostThrough", "(I)I"⟩
def RX11 : String := "ToastMap"
def TX11 : u_T := fun k => match k with
  | 0 => ("ToastMap", "status", "I", false)
  | 1 => ("ToastMap", "fractionTop", "J", false)
  | 2 => ("ToastMap", "fractionBottom", "J", false)
  | 3 => ("ToastMap", "everLived", "Z", false)
  | 4 => ("ToastMap", "trays", "LToastMap$Trays;", true)
  | 5 => ("ToastMap", "tape", "LToastMap$Tape;", true)
  | 6 => ("ToastMap", "now", "LToastMap$Company;", true)
  | 7 => ("ToastMap", "spare", "LToastMap$Company;", true)
  | 8 => ("ToastMap", "steps", "LToastMap$Times;", true)
  | 9 => ("ToastMap", "mapReader", "LToastMap$MapReader;", true)
  | 10 => ("ToastMap", "timesReader", "LToastMap$TimesReader;", true)
  | 11 => ("ToastMap", "marks", "LToastMap$Marks;", true)
  | 12 => ("ToastMap", "latest", "LToastMap$Living;", true)
  | 13 => ("ToastMap", "trial", "LToastMap$Living;", true)
  | 14 => ("ToastMap", "ways", "LToastMap$Ways;", true)
  | 15 => ("ToastMap", "play", "LToastMap$Game;", true)
  | 16 => ("ToastMap", "honest", "LToastMap$Glasses;", true)
  | 17 => ("ToastMap", "shams", "LToastMap$Glasses;", true)
  | _ => ("ToastMap", "states", "[J", true)
def tyX11 : Nat → FieldType := fun k => match k with
  | 0 => .int
  | 1 => .long
  | 2 => .long
  | 3 => .boolean
  | 4 => .object "ToastMap$Trays"
  | 5 => .object "ToastMap$Tape"
  | 6 => .object "ToastMap$Company"
  | 7 => .object "ToastMap$Company"
  | 8 => .object "ToastMap$Times"
  | 9 => .object "ToastMap$MapReader"
  | 10 => .object "ToastMap$TimesReader"
  | 11 => .object "ToastMap$Marks"
  | 12 => .object "ToastMap$Living"
  | 13 => .object "ToastMap$Living"
  | 14 => .object "ToastMap$Ways"
  | 15 => .object "ToastMap$Game"
  | 16 => .object "ToastMap$Glasses"
  | 17 => .object "ToastMap$Glasses"
  | _ => .array .long
abbrev wsX110 : List Cond := u_ws RX11 TX11 19
theorem nmX11 : ∀ a, a < 19 → ∀ b, b < 19 → a ≠ b → (TX11 a).2.1 ≠ (TX11 b).2.1 := by decide +kernel
theorem tyX11_ok : ∀ k, k < 19 → parseFieldDescriptor (TX11 k).2.2.1 = some (tyX11 k) := by decide +kernel
abbrev cX11_init : ByteArray := prog_1_method_1_code
def yX11_init : MethodName := ⟨RX11, "<init>", "()V"⟩
abbrev cX11_status : ByteArray := prog_1_method_2_code
def yX11_status : MethodName := ⟨RX11, "status", "()I"⟩
abbrev cX11_top : ByteArray := prog_1_method_3_code
def yX11_top : MethodName := ⟨RX11, "top", "()J"⟩
abbrev cX11_bottom : ByteArray := prog_1_method_4_code
def yX11_bottom : MethodName := ⟨RX11, "bottom", "()J"⟩
abbrev cX11_tray : ByteArray := prog_1_method_5_code
def yX11_tray : MethodName := ⟨RX11, "tray", "(III)Z"⟩
abbrev cX11_write : ByteArray := prog_1_method_6_code
def yX11_write : MethodName := ⟨RX11, "write", "(IIJ)Z"⟩
abbrev cX11_read : ByteArray := prog_1_method_7_code
def yX11_read : MethodName := ⟨RX11, "read", "(II)J"⟩
abbrev cX11_pour : ByteArray := prog_1_method_8_code
def yX11_pour : MethodName := ⟨RX11, "pour", "(IIIII)Z"⟩
abbrev cX11_placeStatus : ByteArray := prog_1_method_9_code
def yX11_placeStatus : MethodName := ⟨RX11, "placeStatus", "(II)I"⟩
abbrev cX11_pourStatus : ByteArray := prog_1_method_10_code
def yX11_pourStatus : MethodName := ⟨RX11, "pourStatus", "(IIIII)I"⟩
abbrev cX11_feed : ByteArray := prog_1_method_11_code
def yX11_feed : MethodName := ⟨RX11, "feed", "(IIIII)I"⟩
abbrev cX11_map : ByteArray := prog_1_method_12_code
def yX11_map : MethodName := ⟨RX11, "map", "(I)I"⟩
abbrev cX11_times : ByteArray := prog_1_method_13_code
def yX11_times : MethodName := ⟨RX11, "times", "(I)I"⟩
abbrev cX11_fault : ByteArray := prog_1_method_14_code
def yX11_fault : MethodName := ⟨RX11, "fault", "(I)I"⟩
abbrev cX11_told : ByteArray := prog_1_method_15_code
def yX11_told : MethodName := ⟨RX11, "told", "(I)I"⟩
abbrev cX11_person : ByteArray := prog_1_method_16_code
def yX11_person : MethodName := ⟨RX11, "person", "(II)I"⟩
abbrev cX11_far : ByteArray := prog_1_method_17_code
def yX11_far : MethodName := ⟨RX11, "far", "(II)I"⟩
abbrev cX11_drink : ByteArray := prog_1_method_18_code
def yX11_drink : MethodName := ⟨RX11, "drink", "(I)I"⟩
abbrev cX11_night : ByteArray := prog_1_method_19_code
def yX11_night : MethodName := ⟨RX11, "night", "(I)I"⟩
abbrev cX11_evening : ByteArray := prog_1_method_20_code
def yX11_evening : MethodName := ⟨RX11, "evening", "()I"⟩
abbrev cX11_fill : ByteArray := prog_1_method_21_code
def yX11_fill : MethodName := ⟨RX11, "fill", "(II)I"⟩
abbrev cX11_means : ByteArray := prog_1_method_22_code
def yX11_means : MethodName := ⟨RX11, "means", "(II)I"⟩
abbrev cX11_move : ByteArray := prog_1_method_23_code
def yX11_move : MethodName := ⟨RX11, "move", "(II)I"⟩
abbrev cX11_aim : ByteArray := prog_1_method_24_code
def yX11_aim : MethodName := ⟨RX11, "aim", "(II)I"⟩
abbrev cX11_come : ByteArray := prog_1_method_25_code
def yX11_come : MethodName := ⟨RX11, "come", "(I)I"⟩
abbrev cX11_rule : ByteArray := prog_1_method_26_code
def yX11_rule : MethodName := ⟨RX11, "rule", "(II)Z"⟩
abbrev cX11_warmIn : ByteArray := prog_1_method_27_code
def yX11_warmIn : MethodName := ⟨RX11, "warmIn", "(II)I"⟩
abbrev cX11_darkIn : ByteArray := prog_1_method_28_code
def yX11_darkIn : MethodName := ⟨RX11, "darkIn", "(I)I"⟩
abbrev cX11_eveningIn : ByteArray := prog_1_method_29_code
def yX11_eveningIn : MethodName := ⟨RX11, "eveningIn", "(II)I"⟩
abbrev cX11_litIn : ByteArray := prog_1_method_30_code
def yX11_litIn : MethodName := ⟨RX11, "litIn", "(I)I"⟩
abbrev cX11_settles : ByteArray := prog_1_method_31_code
def yX11_settles : MethodName := ⟨RX11, "settles", "()I"⟩
abbrev cX11_period : ByteArray := prog_1_method_32_code
def yX11_period : MethodName := ⟨RX11, "period", "()I"⟩
abbrev cX11_lookAhead : ByteArray := prog_1_method_33_code
def yX11_lookAhead : MethodName := ⟨RX11, "lookAhead", "(I)V"⟩
abbrev cX11_findPeriod : ByteArray := prog_1_method_34_code
def yX11_findPeriod : MethodName := ⟨RX11, "findPeriod", "()I"⟩
abbrev cX11_firstSettled : ByteArray := prog_1_method_35_code
def yX11_firstSettled : MethodName := ⟨RX11, "firstSettled", "(I)I"⟩
abbrev cX11_chain : ByteArray := prog_1_method_36_code
def yX11_chain : MethodName := ⟨RX11, "chain", "(I)I"⟩
abbrev cX11_chainAt : ByteArray := prog_1_method_37_code
def yX11_chainAt : MethodName := ⟨RX11, "chainAt", "(II)I"⟩
abbrev cX11_rings : ByteArray := prog_1_method_38_code
def yX11_rings : MethodName := ⟨RX11, "rings", "()I"⟩
abbrev cX11_inRings : ByteArray := prog_1_method_39_code
def yX11_inRings : MethodName := ⟨RX11, "inRings", "()I"⟩
abbrev cX11_needs : ByteArray := prog_1_method_40_code
def yX11_needs : MethodName := ⟨RX11, "needs", "(I)I"⟩
abbrev cX11_most : ByteArray := prog_1_method_41_code
def yX11_most : MethodName := ⟨RX11, "most", "(I)I"⟩
abbrev cX11_mostSet : ByteArray := prog_1_method_42_code
def yX11_mostSet : MethodName := ⟨RX11, "mostSet", "(I)I"⟩
abbrev cX11_misses : ByteArray := prog_1_method_43_code
def yX11_misses : MethodName := ⟨RX11, "misses", "(I)I"⟩
abbrev cX11_fits : ByteArray := prog_1_method_44_code
def yX11_fits : MethodName := ⟨RX11, "fits", "(II)I"⟩
abbrev cX11_firstOf : ByteArray := prog_1_method_45_code
def yX11_firstOf : MethodName := ⟨RX11, "firstOf", "(III)I"⟩
abbrev cX11_oddsThat : ByteArray := prog_1_method_46_code
def yX11_oddsThat : MethodName := ⟨RX11, "oddsThat", "(IIII)Z"⟩
abbrev cX11_ask : ByteArray := prog_1_method_47_code
def yX11_ask : MethodName := ⟨RX11, "ask", "(II)I"⟩
abbrev cX11_waysStatus : ByteArray := prog_1_method_48_code
def yX11_waysStatus : MethodName := ⟨RX11, "waysStatus", "(II)I"⟩
abbrev cX11_findWays : ByteArray := prog_1_method_49_code
def yX11_findWays : MethodName := ⟨RX11, "findWays", "(II)V"⟩
abbrev cX11_rowsStatus : ByteArray := prog_1_method_50_code
def yX11_rowsStatus : MethodName := ⟨RX11, "rowsStatus", "(IIII)I"⟩
abbrev cX11_laws : ByteArray := prog_1_method_51_code
def yX11_laws : MethodName := ⟨RX11, "laws", "(II)I"⟩
abbrev cX11_lawOf : ByteArray := prog_1_method_52_code
def yX11_lawOf : MethodName := ⟨RX11, "lawOf", "(III)I"⟩
abbrev cX11_error : ByteArray := prog_1_method_53_code
def yX11_error : MethodName := ⟨RX11, "error", "(III)Z"⟩
abbrev cX11_cut : ByteArray := prog_1_method_54_code
def yX11_cut : MethodName := ⟨RX11, "cut", "(I)I"⟩
abbrev cX11_lawStatus : ByteArray := prog_1_method_55_code
def yX11_lawStatus : MethodName := ⟨RX11, "lawStatus", "(II)I"⟩
abbrev cX11_isLaw : ByteArray := prog_1_method_56_code
def yX11_isLaw : MethodName := ⟨RX11, "isLaw", "(IIII)Z"⟩
abbrev cX11_tasteBoth : ByteArray := prog_1_method_57_code
def yX11_tasteBoth : MethodName := ⟨RX11, "tasteBoth", "(I)V"⟩
abbrev cX11_game : ByteArray := prog_1_method_58_code
def yX11_game : MethodName := ⟨RX11, "game", "(I)I"⟩
abbrev cX11_moveOf : ByteArray := prog_1_method_59_code
def yX11_moveOf : MethodName := ⟨RX11, "moveOf", "(I)I"⟩
abbrev cX11_share : ByteArray := prog_1_method_60_code
def yX11_share : MethodName := ⟨RX11, "share", "(I)Z"⟩
abbrev cX11_copyWarmth : ByteArray := prog_1_method_61_code
def yX11_copyWarmth : MethodName := ⟨RX11, "copyWarmth", "(I)I"⟩
abbrev cX11_live : ByteArray := prog_1_method_62_code
def yX11_live : MethodName := ⟨RX11, "live", "(I)I"⟩
abbrev cX11_lived : ByteArray := prog_1_method_63_code
def yX11_lived : MethodName := ⟨RX11, "lived", "(I)I"⟩
abbrev cX11_mean : ByteArray := prog_1_method_64_code
def yX11_mean : MethodName := ⟨RX11, "mean", "(II)Z"⟩
abbrev cX11_mark : ByteArray := prog_1_method_65_code
def yX11_mark : MethodName := ⟨RX11, "mark", "()I"⟩
abbrev cX11_undo : ByteArray := prog_1_method_66_code
def yX11_undo : MethodName := ⟨RX11, "undo", "()I"⟩
abbrev cX11_answer : ByteArray := prog_1_method_67_code
def yX11_answer : MethodName := ⟨RX11, "answer", "(I)I"⟩
abbrev cX11_refuse : ByteArray := prog_1_method_68_code
def yX11_refuse : MethodName := ⟨RX11, "refuse", "(I)I"⟩
abbrev cX11_grant : ByteArray := prog_1_method_69_code
def yX11_grant : MethodName := ⟨RX11, "grant", "()Z"⟩
abbrev cX11_deny : ByteArray := prog_1_method_70_code
def yX11_deny : MethodName := ⟨RX11, "deny", "(I)Z"⟩
abbrev cX11_tell : ByteArray := prog_1_method_71_code
def yX11_tell : MethodName := ⟨RX11, "tell", "(JJ)Z"⟩
abbrev cX11_commonDivisor : ByteArray := prog_1_method_72_code
def yX11_commonDivisor : MethodName := ⟨RX11, "commonDivisor", "(JJ)J"⟩
abbrev cX11_isCouple : ByteArray := prog_1_method_73_code
def yX11_isCouple : MethodName := ⟨RX11, "isCouple", "(II)Z"⟩
abbrev cX11_within : ByteArray := prog_1_method_74_code
def yX11_within : MethodName := ⟨RX11, "within", "(III)Z"⟩
abbrev cX11_warmBy : ByteArray := prog_1_method_75_code
def yX11_warmBy : MethodName := ⟨RX11, "warmBy", "(IIII)I"⟩
def RX12 : String := "ToastMapModel"
def TX12 : u_T := fun k => match k with
  | 0 => ("ToastMapModel", "at", "[I", true)
  | 1 => ("ToastMapModel", "names", "[J", true)
  | 2 => ("ToastMapModel", "status", "I", false)
  | 3 => ("ToastMapModel", "top", "J", false)
  | 4 => ("ToastMapModel", "bottom", "J", false)
  | 5 => ("ToastMapModel", "sort", "[I", true)
  | 6 => ("ToastMapModel", "trayMany", "[I", true)
  | 7 => ("ToastMapModel", "trays", "[J", true)
  | 8 => ("ToastMapModel", "tape", "[B", true)
  | 9 => ("ToastMapModel", "text", "[B", true)
  | 10 => ("ToastMapModel", "taped", "I", false)
  | 11 => ("ToastMapModel", "size", "I", false)
  | 12 => ("ToastMapModel", "token", "I", false)
  | 13 => ("ToastMapModel", "from", "I", false)
  | 14 => ("ToastMapModel", "end", "I", false)
  | 15 => ("ToastMapModel", "value", "I", false)
  | 16 => ("ToastMapModel", "faultKind", "I", false)
  | 17 => ("ToastMapModel", "faultPlace", "I", false)
  | 18 => ("ToastMapModel", "faults", "I", false)
  | 19 => ("ToastMapModel", "seen", "I", false)
  | 20 => ("ToastMapModel", "toldParts", "I", false)
  | 21 => ("ToastMapModel", "opened", "[I", true)
  | 22 => ("ToastMapModel", "depth", "I", false)
  | 23 => ("ToastMapModel", "counted", "I", false)
  | 24 => ("ToastMapModel", "comesBy", "[I", true)
  | 25 => ("ToastMapModel", "eveningBy", "[I", true)
  | 26 => ("ToastMapModel", "settledAt", "I", false)
  | 27 => ("ToastMapModel", "settledFor", "I", false)
  | 28 => ("ToastMapModel", "chainBy", "[I", true)
  | 29 => ("ToastMapModel", "chainMany", "I", false)
  | 30 => ("ToastMapModel", "needBy", "[I", true)
  | 31 => ("ToastMapModel", "hasBy", "[I", true)
  | 32 => ("ToastMapModel", "firstBy", "[I", true)
  | 33 => ("ToastMapModel", "warmsBy", "[I", true)
  | 34 => ("ToastMapModel", "wayMany", "I", false)
  | 35 => ("ToastMapModel", "testBy", "[J", true)
  | 36 => ("ToastMapModel", "doneAt", "[I", true)
  | 37 => ("ToastMapModel", "gotAt", "[I", true)
  | 38 => ("ToastMapModel", "bestDeed", "[I", true)
  | 39 => ("ToastMapModel", "drawn", "I", false)
  | 40 => ("ToastMapModel", "ranSteps", "I", false)
  | 41 => ("ToastMapModel", "loops", "[I", true)
  | 42 => ("ToastMapModel", "ran", "[I", true)
  | 43 => ("ToastMapModel", "told1", "[I", true)
  | 44 => ("ToastMapModel", "isTold", "Z", false)
  | _ => ("ToastMapModel", "marks", "I", false)
def tyX12 : Nat → FieldType := fun k => match k with
  | 0 => .array .int
  | 1 => .array .long
  | 2 => .int
  | 3 => .long
  | 4 => .long
  | 5 => .array .int
  | 6 => .array .int
  | 7 => .array .long
  | 8 => .array .byte
  | 9 => .array .byte
  | 10 => .int
  | 11 => .int
  | 12 => .int
  | 13 => .int
  | 14 => .int
  | 15 => .int
  | 16 => .int
  | 17 => .int
  | 18 => .int
  | 19 => .int
  | 20 => .int
  | 21 => .array .int
  | 22 => .int
  | 23 => .int
  | 24 => .array .int
  | 25 => .array .int
  | 26 => .int
  | 27 => .int
  | 28 => .array .int
  | 29 => .int
  | 30 => .array .int
  | 31 => .array .int
  | 32 => .array .int
  | 33 => .array .int
  | 34 => .int
  | 35 => .array .long
  | 36 => .array .int
  | 37 => .array .int
  | 38 => .array .int
  | 39 => .int
  | 40 => .int
  | 41 => .array .int
  | 42 => .array .int
  | 43 => .array .int
  | 44 => .boolean
  | _ => .int
abbrev wsX120 : List Cond := u_ws RX12 TX12 46
theorem nmX12 : ∀ a, a < 46 → ∀ b, b < 46 → a ≠ b → (TX12 a).2.1 ≠ (TX12 b).2.1 := by decide +kernel
theorem tyX12_ok : ∀ k, k < 46 → parseFieldDescriptor (TX12 k).2.2.1 = some (tyX12 k) := by decide +kernel
abbrev cX12_init : ByteArray := prog_14_method_1_code
def yX12_init : MethodName := ⟨RX12, "<init>", "()V"⟩
abbrev cX12_plain : ByteArray := prog_14_method_2_code
def yX12_plain : MethodName := ⟨RX12, "plain", "(I)V"⟩
abbrev cX12_status : ByteArray := prog_14_method_3_code
def yX12_status : MethodName := ⟨RX12, "status", "()I"⟩
abbrev cX12_top : ByteArray := prog_14_method_4_code
def yX12_top : MethodName := ⟨RX12, "top", "()J"⟩
abbrev cX12_bottom : ByteArray := prog_14_method_5_code
def yX12_bottom : MethodName := ⟨RX12, "bottom", "()J"⟩
abbrev cX12_is : ByteArray := prog_14_method_6_code
def yX12_is : MethodName := ⟨RX12, "is", "(I)Z"⟩
abbrev cX12_refuse : ByteArray := prog_14_method_7_code
def yX12_refuse : MethodName := ⟨RX12, "refuse", "(I)I"⟩
abbrev cX12_gives : ByteArray := prog_14_method_8_code
def yX12_gives : MethodName := ⟨RX12, "gives", "(I)I"⟩
abbrev cX12_tellsBy : ByteArray := prog_14_method_10_code
def yX12_tellsBy : MethodName := ⟨RX12, "tellsBy", "(JJ)Z"⟩
abbrev cX12_isTray : ByteArray := prog_14_method_11_code
def yX12_isTray : MethodName := ⟨RX12, "isTray", "(I)Z"⟩
abbrev cX12_shrunk : ByteArray := prog_14_method_12_code
def yX12_shrunk : MethodName := ⟨RX12, "shrunk", "(JI)J"⟩
abbrev cX12_tray : ByteArray := prog_14_method_13_code
def yX12_tray : MethodName := ⟨RX12, "tray", "(III)Z"⟩
abbrev cX12_wrongPlace : ByteArray := prog_14_method_14_code
def yX12_wrongPlace : MethodName := ⟨RX12, "wrongPlace", "(II)I"⟩
abbrev cX12_write : ByteArray := prog_14_method_15_code
def yX12_write : MethodName := ⟨RX12, "write", "(IIJ)Z"⟩
abbrev cX12_read : ByteArray := prog_14_method_16_code
def yX12_read : MethodName := ⟨RX12, "read", "(II)J"⟩
abbrev cX12_pour : ByteArray := prog_14_method_17_code
def yX12_pour : MethodName := ⟨RX12, "pour", "(IIIII)Z"⟩
abbrev cX12_isFrom : ByteArray := prog_14_method_18_code
def yX12_isFrom : MethodName := ⟨RX12, "isFrom", "(JJJ)Z"⟩
abbrev cX12_feed : ByteArray := prog_14_method_19_code
def yX12_feed : MethodName := ⟨RX12, "feed", "(IIIII)I"⟩
abbrev cX12_four : ByteArray := prog_14_method_20_code
def yX12_four : MethodName := ⟨RX12, "four", "(I)V"⟩
abbrev cX12_byteAt : ByteArray := prog_14_method_21_code
def yX12_byteAt : MethodName := ⟨RX12, "byteAt", "(I)I"⟩
abbrev cX12_isSmall : ByteArray := prog_14_method_22_code
def yX12_isSmall : MethodName := ⟨RX12, "isSmall", "(I)Z"⟩
abbrev cX12_isDigit : ByteArray := prog_14_method_23_code
def yX12_isDigit : MethodName := ⟨RX12, "isDigit", "(I)Z"⟩
abbrev cX12_ahead : ByteArray := prog_14_method_24_code
def yX12_ahead : MethodName := ⟨RX12, "ahead", "()V"⟩
abbrev cX12_isSign : ByteArray := prog_14_method_25_code
def yX12_isSign : MethodName := ⟨RX12, "isSign", "(I)Z"⟩
abbrev cX12_inWords : ByteArray := prog_14_method_26_code
def yX12_inWords : MethodName := ⟨RX12, "inWords", "(Ljava/lang/String;)I"⟩
abbrev cX12_fails : ByteArray := prog_14_method_27_code
def yX12_fails : MethodName := ⟨RX12, "fails", "(I)Z"⟩
abbrev cX12_begins : ByteArray := prog_14_method_28_code
def yX12_begins : MethodName := ⟨RX12, "begins", "(II)Z"⟩
abbrev cX12_wantSign : ByteArray := prog_14_method_29_code
def yX12_wantSign : MethodName := ⟨RX12, "wantSign", "(I)Z"⟩
abbrev cX12_wantWord : ByteArray := prog_14_method_30_code
def yX12_wantWord : MethodName := ⟨RX12, "wantWord", "(Ljava/lang/String;I)Z"⟩
abbrev cX12_number : ByteArray := prog_14_method_31_code
def yX12_number : MethodName := ⟨RX12, "number", "(III)Z"⟩
abbrev cX12_isName : ByteArray := prog_14_method_32_code
def yX12_isName : MethodName := ⟨RX12, "isName", "(Ljava/lang/String;)Z"⟩
abbrev cX12_nameHere : ByteArray := prog_14_method_33_code
def yX12_nameHere : MethodName := ⟨RX12, "nameHere", "()J"⟩
abbrev cX12_findHere : ByteArray := prog_14_method_34_code
def yX12_findHere : MethodName := ⟨RX12, "findHere", "(II)I"⟩
abbrev cX12_fault : ByteArray := prog_14_method_35_code
def yX12_fault : MethodName := ⟨RX12, "fault", "(I)I"⟩
abbrev cX12_taken : ByteArray := prog_14_method_36_code
def yX12_taken : MethodName := ⟨RX12, "taken", "(I)I"⟩
abbrev cX12_personRow : ByteArray := prog_14_method_37_code
def yX12_personRow : MethodName := ⟨RX12, "personRow", "(I)I"⟩
abbrev cX12_isIn : ByteArray := prog_14_method_38_code
def yX12_isIn : MethodName := ⟨RX12, "isIn", "(II)Z"⟩
abbrev cX12_isThere : ByteArray := prog_14_method_39_code
def yX12_isThere : MethodName := ⟨RX12, "isThere", "(I)Z"⟩
abbrev cX12_perhaps : ByteArray := prog_14_method_40_code
def yX12_perhaps : MethodName := ⟨RX12, "perhaps", "(IIIII)Z"⟩
abbrev cX12_leastOf : ByteArray := prog_14_method_41_code
def yX12_leastOf : MethodName := ⟨RX12, "leastOf", "(I)I"⟩
abbrev cX12_mostOf : ByteArray := prog_14_method_42_code
def yX12_mostOf : MethodName := ⟨RX12, "mostOf", "(I)I"⟩
abbrev cX12_aPerson : ByteArray := prog_14_method_43_code
def yX12_aPerson : MethodName := ⟨RX12, "aPerson", "()Z"⟩
abbrev cX12_aToast : ByteArray := prog_14_method_44_code
def yX12_aToast : MethodName := ⟨RX12, "aToast", "()Z"⟩
abbrev cX12_mapPart : ByteArray := prog_14_method_45_code
def yX12_mapPart : MethodName := ⟨RX12, "mapPart", "()Z"⟩
abbrev cX12_map : ByteArray := prog_14_method_46_code
def yX12_map : MethodName := ⟨RX12, "map", "(I)I"⟩
abbrev cX12_personTo : ByteArray := prog_14_method_47_code
def yX12_personTo : MethodName := ⟨RX12, "personTo", "(I)Z"⟩
abbrev cX12_test : ByteArray := prog_14_method_48_code
def yX12_test : MethodName := ⟨RX12, "test", "(I)Z"⟩
abbrev cX12_timeOrder : ByteArray := prog_14_method_49_code
def yX12_timeOrder : MethodName := ⟨RX12, "timeOrder", "(II)Z"⟩
abbrev cX12_timeStep : ByteArray := prog_14_method_50_code
def yX12_timeStep : MethodName := ⟨RX12, "timeStep", "()Z"⟩
abbrev cX12_times : ByteArray := prog_14_method_51_code
def yX12_times : MethodName := ⟨RX12, "times", "(I)I"⟩
abbrev cX12_isPerson : ByteArray := prog_14_method_52_code
def yX12_isPerson : MethodName := ⟨RX12, "isPerson", "(I)Z"⟩
abbrev cX12_areTwo : ByteArray := prog_14_method_53_code
def yX12_areTwo : MethodName := ⟨RX12, "areTwo", "(II)Z"⟩
abbrev cX12_bits : ByteArray := prog_14_method_54_code
def yX12_bits : MethodName := ⟨RX12, "bits", "(I)I"⟩
abbrev cX12_personOf : ByteArray := prog_14_method_55_code
def yX12_personOf : MethodName := ⟨RX12, "personOf", "(II)I"⟩
abbrev cX12_whomOf : ByteArray := prog_14_method_56_code
def yX12_whomOf : MethodName := ⟨RX12, "whomOf", "(I)I"⟩
abbrev cX12_farBetween : ByteArray := prog_14_method_57_code
def yX12_farBetween : MethodName := ⟨RX12, "farBetween", "(II)I"⟩
abbrev cX12_warmBy : ByteArray := prog_14_method_58_code
def yX12_warmBy : MethodName := ⟨RX12, "warmBy", "(IIII)I"⟩
abbrev cX12_warmOf : ByteArray := prog_14_method_59_code
def yX12_warmOf : MethodName := ⟨RX12, "warmOf", "(I)I"⟩
abbrev cX12_isLit : ByteArray := prog_14_method_60_code
def yX12_isLit : MethodName := ⟨RX12, "isLit", "(I)Z"⟩
abbrev cX12_areLit : ByteArray := prog_14_method_61_code
def yX12_areLit : MethodName := ⟨RX12, "areLit", "()I"⟩
abbrev cX12_haveWhom : ByteArray := prog_14_method_62_code
def yX12_haveWhom : MethodName := ⟨RX12, "haveWhom", "()I"⟩
abbrev cX12_warmersOf : ByteArray := prog_14_method_63_code
def yX12_warmersOf : MethodName := ⟨RX12, "warmersOf", "(I)I"⟩
abbrev cX12_together : ByteArray := prog_14_method_64_code
def yX12_together : MethodName := ⟨RX12, "together", "(I)I"⟩
abbrev cX12_told : ByteArray := prog_14_method_65_code
def yX12_told : MethodName := ⟨RX12, "told", "(I)I"⟩
abbrev cX12_person : ByteArray := prog_14_method_66_code
def yX12_person : MethodName := ⟨RX12, "person", "(II)I"⟩
abbrev cX12_far : ByteArray := prog_14_method_67_code
def yX12_far : MethodName := ⟨RX12, "far", "(II)I"⟩
abbrev cX12_warms : ByteArray := prog_14_method_68_code
def yX12_warms : MethodName := ⟨RX12, "warms", "(II)V"⟩
abbrev cX12_drinks : ByteArray := prog_14_method_69_code
def yX12_drinks : MethodName := ⟨RX12, "drinks", "(I)Z"⟩
abbrev cX12_drink : ByteArray := prog_14_method_70_code
def yX12_drink : MethodName := ⟨RX12, "drink", "(I)I"⟩
abbrev cX12_cools : ByteArray := prog_14_method_71_code
def yX12_cools : MethodName := ⟨RX12, "cools", "(I)V"⟩
abbrev cX12_nightGoes : ByteArray := prog_14_method_72_code
def yX12_nightGoes : MethodName := ⟨RX12, "nightGoes", "()V"⟩
abbrev cX12_nightsGo : ByteArray := prog_14_method_73_code
def yX12_nightsGo : MethodName := ⟨RX12, "nightsGo", "(I)V"⟩
abbrev cX12_night : ByteArray := prog_14_method_74_code
def yX12_night : MethodName := ⟨RX12, "night", "(I)I"⟩
abbrev cX12_eveningGoes : ByteArray := prog_14_method_75_code
def yX12_eveningGoes : MethodName := ⟨RX12, "eveningGoes", "(I)I"⟩
abbrev cX12_evening : ByteArray := prog_14_method_76_code
def yX12_evening : MethodName := ⟨RX12, "evening", "()I"⟩
abbrev cX12_fills : ByteArray := prog_14_method_77_code
def yX12_fills : MethodName := ⟨RX12, "fills", "(II)Z"⟩
abbrev cX12_fill : ByteArray := prog_14_method_78_code
def yX12_fill : MethodName := ⟨RX12, "fill", "(II)I"⟩
abbrev cX12_means : ByteArray := prog_14_method_79_code
def yX12_means : MethodName := ⟨RX12, "means", "(II)I"⟩
abbrev cX12_move : ByteArray := prog_14_method_80_code
def yX12_move : MethodName := ⟨RX12, "move", "(II)I"⟩
abbrev cX12_aim : ByteArray := prog_14_method_81_code
def yX12_aim : MethodName := ⟨RX12, "aim", "(II)I"⟩
abbrev cX12_come : ByteArray := prog_14_method_82_code
def yX12_come : MethodName := ⟨RX12, "come", "(I)I"⟩
abbrev cX12_rule : ByteArray := prog_14_method_83_code
def yX12_rule : MethodName := ⟨RX12, "rule", "(II)Z"⟩
abbrev cX12_levelAt : ByteArray := prog_14_method_84_code
def yX12_levelAt : MethodName := ⟨RX12, "levelAt", "(I)I"⟩
abbrev cX12_keeps : ByteArray := prog_14_method_85_code
def yX12_keeps : MethodName := ⟨RX12, "keeps", "(I)V"⟩
abbrev cX12_restores : ByteArray := prog_14_method_86_code
def yX12_restores : MethodName := ⟨RX12, "restores", "(I)V"⟩
abbrev cX12_cooled : ByteArray := prog_14_method_87_code
def yX12_cooled : MethodName := ⟨RX12, "cooled", "(II)I"⟩
abbrev cX12_warmIn : ByteArray := prog_14_method_88_code
def yX12_warmIn : MethodName := ⟨RX12, "warmIn", "(II)I"⟩
abbrev cX12_darkIn : ByteArray := prog_14_method_89_code
def yX12_darkIn : MethodName := ⟨RX12, "darkIn", "(I)I"⟩
abbrev cX12_eveningsGo : ByteArray := prog_14_method_90_code
def yX12_eveningsGo : MethodName := ⟨RX12, "eveningsGo", "(I)V"⟩
abbrev cX12_eveningIn : ByteArray := prog_14_method_91_code
def yX12_eveningIn : MethodName := ⟨RX12, "eveningIn", "(II)I"⟩
abbrev cX12_litIn : ByteArray := prog_14_method_92_code
def yX12_litIn : MethodName := ⟨RX12, "litIn", "(I)I"⟩
abbrev cX12_isAlike : ByteArray := prog_14_method_93_code
def yX12_isAlike : MethodName := ⟨RX12, "isAlike", "(II)Z"⟩
abbrev cX12_laysSettled : ByteArray := prog_14_method_94_code
def yX12_laysSettled : MethodName := ⟨RX12, "laysSettled", "()Z"⟩
abbrev cX12_settles : ByteArray := prog_14_method_95_code
def yX12_settles : MethodName := ⟨RX12, "settles", "()I"⟩
abbrev cX12_period : ByteArray := prog_14_method_96_code
def yX12_period : MethodName := ⟨RX12, "period", "()I"⟩
abbrev cX12_laysChain : ByteArray := prog_14_method_97_code
def yX12_laysChain : MethodName := ⟨RX12, "laysChain", "(I)V"⟩
abbrev cX12_chain : ByteArray := prog_14_method_98_code
def yX12_chain : MethodName := ⟨RX12, "chain", "(I)I"⟩
abbrev cX12_chainAt : ByteArray := prog_14_method_99_code
def yX12_chainAt : MethodName := ⟨RX12, "chainAt", "(II)I"⟩
abbrev cX12_ringOf : ByteArray := prog_14_method_100_code
def yX12_ringOf : MethodName := ⟨RX12, "ringOf", "(I)I"⟩
abbrev cX12_rings : ByteArray := prog_14_method_101_code
def yX12_rings : MethodName := ⟨RX12, "rings", "()I"⟩
abbrev cX12_inRings : ByteArray := prog_14_method_102_code
def yX12_inRings : MethodName := ⟨RX12, "inRings", "()I"⟩
abbrev cX12_needsOf : ByteArray := prog_14_method_103_code
def yX12_needsOf : MethodName := ⟨RX12, "needsOf", "(I)I"⟩
abbrev cX12_needs : ByteArray := prog_14_method_104_code
def yX12_needs : MethodName := ⟨RX12, "needs", "(I)I"⟩
abbrev cX12_mostOfAll : ByteArray := prog_14_method_105_code
def yX12_mostOfAll : MethodName := ⟨RX12, "mostOfAll", "(I)I"⟩
abbrev cX12_most : ByteArray := prog_14_method_106_code
def yX12_most : MethodName := ⟨RX12, "most", "(I)I"⟩
abbrev cX12_mostSet : ByteArray := prog_14_method_107_code
def yX12_mostSet : MethodName := ⟨RX12, "mostSet", "(I)I"⟩
abbrev cX12_litBehind : ByteArray := prog_14_method_108_code
def yX12_litBehind : MethodName := ⟨RX12, "litBehind", "(I)I"⟩
abbrev cX12_misses : ByteArray := prog_14_method_109_code
def yX12_misses : MethodName := ⟨RX12, "misses", "(I)I"⟩
abbrev cX12_wrongSeen : ByteArray := prog_14_method_110_code
def yX12_wrongSeen : MethodName := ⟨RX12, "wrongSeen", "(II)I"⟩
abbrev cX12_isWay : ByteArray := prog_14_method_111_code
def yX12_isWay : MethodName := ⟨RX12, "isWay", "(II)Z"⟩
abbrev cX12_counts : ByteArray := prog_14_method_112_code
def yX12_counts : MethodName := ⟨RX12, "counts", "()V"⟩
abbrev cX12_mayHave : ByteArray := prog_14_method_113_code
def yX12_mayHave : MethodName := ⟨RX12, "mayHave", "(II)Z"⟩
abbrev cX12_laysWays : ByteArray := prog_14_method_114_code
def yX12_laysWays : MethodName := ⟨RX12, "laysWays", "(II)V"⟩
abbrev cX12_fits : ByteArray := prog_14_method_115_code
def yX12_fits : MethodName := ⟨RX12, "fits", "(II)I"⟩
abbrev cX12_firstOf : ByteArray := prog_14_method_116_code
def yX12_firstOf : MethodName := ⟨RX12, "firstOf", "(III)I"⟩
abbrev cX12_oddsThat : ByteArray := prog_14_method_117_code
def yX12_oddsThat : MethodName := ⟨RX12, "oddsThat", "(IIII)Z"⟩
abbrev cX12_mostAlike : ByteArray := prog_14_method_118_code
def yX12_mostAlike : MethodName := ⟨RX12, "mostAlike", "(I)I"⟩
abbrev cX12_ask : ByteArray := prog_14_method_119_code
def yX12_ask : MethodName := ⟨RX12, "ask", "(II)I"⟩
abbrev cX12_wrongLaw : ByteArray := prog_14_method_120_code
def yX12_wrongLaw : MethodName := ⟨RX12, "wrongLaw", "(II)I"⟩
abbrev cX12_isLaw : ByteArray := prog_14_method_121_code
def yX12_isLaw : MethodName := ⟨RX12, "isLaw", "(III)Z"⟩
abbrev cX12_laws : ByteArray := prog_14_method_122_code
def yX12_laws : MethodName := ⟨RX12, "laws", "(II)I"⟩
abbrev cX12_lawOf : ByteArray := prog_14_method_123_code
def yX12_lawOf : MethodName := ⟨RX12, "lawOf", "(III)I"⟩
abbrev cX12_atLeast : ByteArray := prog_14_method_124_code
def yX12_atLeast : MethodName := ⟨RX12, "atLeast", "(III)J"⟩
abbrev cX12_waysOf : ByteArray := prog_14_method_125_code
def yX12_waysOf : MethodName := ⟨RX12, "waysOf", "(I)J"⟩
abbrev cX12_errorOf : ByteArray := prog_14_method_126_code
def yX12_errorOf : MethodName := ⟨RX12, "errorOf", "(III)J"⟩
abbrev cX12_error : ByteArray := prog_14_method_127_code
def yX12_error : MethodName := ⟨RX12, "error", "(III)Z"⟩
abbrev cX12_cut : ByteArray := prog_14_method_128_code
def yX12_cut : MethodName := ⟨RX12, "cut", "(I)I"⟩
abbrev cX12_settlesAt : ByteArray := prog_14_method_129_code
def yX12_settlesAt : MethodName := ⟨RX12, "settlesAt", "(II)V"⟩
abbrev cX12_beginsAt : ByteArray := prog_14_method_130_code
def yX12_beginsAt : MethodName := ⟨RX12, "beginsAt", "(I)V"⟩
abbrev cX12_playing : ByteArray := prog_14_method_131_code
def yX12_playing : MethodName := ⟨RX12, "playing", "(I)I"⟩
abbrev cX12_game : ByteArray := prog_14_method_132_code
def yX12_game : MethodName := ⟨RX12, "game", "(I)I"⟩
abbrev cX12_moveOf : ByteArray := prog_14_method_133_code
def yX12_moveOf : MethodName := ⟨RX12, "moveOf", "(I)I"⟩
abbrev cX12_share : ByteArray := prog_14_method_134_code
def yX12_share : MethodName := ⟨RX12, "share", "(I)Z"⟩
abbrev cX12_copyWarmth : ByteArray := prog_14_method_135_code
def yX12_copyWarmth : MethodName := ⟨RX12, "copyWarmth", "(I)I"⟩
abbrev cX12_draw : ByteArray := prog_14_method_136_code
def yX12_draw : MethodName := ⟨RX12, "draw", "(I)I"⟩
abbrev cX12_nightsBy : ByteArray := prog_14_method_137_code
def yX12_nightsBy : MethodName := ⟨RX12, "nightsBy", "(I)Z"⟩
abbrev cX12_drinksBy : ByteArray := prog_14_method_138_code
def yX12_drinksBy : MethodName := ⟨RX12, "drinksBy", "(I)Z"⟩
abbrev cX12_eveningsBy : ByteArray := prog_14_method_139_code
def yX12_eveningsBy : MethodName := ⟨RX12, "eveningsBy", "()Z"⟩
abbrev cX12_doesAny : ByteArray := prog_14_method_140_code
def yX12_doesAny : MethodName := ⟨RX12, "doesAny", "()Z"⟩
abbrev cX12_does : ByteArray := prog_14_method_141_code
def yX12_does : MethodName := ⟨RX12, "does", "(I)Z"⟩
abbrev cX12_holds : ByteArray := prog_14_method_142_code
def yX12_holds : MethodName := ⟨RX12, "holds", "(I)Z"⟩
abbrev cX12_behindEnds : ByteArray := prog_14_method_143_code
def yX12_behindEnds : MethodName := ⟨RX12, "behindEnds", "(I)I"⟩
abbrev cX12_lives : ByteArray := prog_14_method_144_code
def yX12_lives : MethodName := ⟨RX12, "lives", "(I)V"⟩
abbrev cX12_live : ByteArray := prog_14_method_145_code
def yX12_live : MethodName := ⟨RX12, "live", "(I)I"⟩
abbrev cX12_lived : ByteArray := prog_14_method_146_code
def yX12_lived : MethodName := ⟨RX12, "lived", "(I)I"⟩
abbrev cX12_mean : ByteArray := prog_14_method_147_code
def yX12_mean : MethodName := ⟨RX12, "mean", "(II)Z"⟩
abbrev cX12_copies : ByteArray := prog_14_method_148_code
def yX12_copies : MethodName := ⟨RX12, "copies", "(II)V"⟩
abbrev cX12_mark : ByteArray := prog_14_method_149_code
def yX12_mark : MethodName := ⟨RX12, "mark", "()I"⟩
abbrev cX12_undo : ByteArray := prog_14_method_150_code
def yX12_undo : MethodName := ⟨RX12, "undo", "()I"⟩
def RJ6 : String := "java/lang/Integer"
def TJ6 : u_T := fun k => match k with
  | _ => ("", "", "", false)
def tyJ6 : Nat → FieldType := fun k => match k with
  | _ => .int
abbrev wsJ60 : List Cond := u_ws RJ6 TJ6 0
theorem nmJ6 : ∀ a, a < 0 → ∀ b, b < 0 → a ≠ b → (TJ6 a).2.1 ≠ (TJ6 b).2.1 := by decide +kernel
theorem tyJ6_ok : ∀ k, k < 0 → parseFieldDescriptor (TJ6 k).2.2.1 = some (tyJ6 k) := by decide +kernel
abbrev cJ6_bitCount_0f7a4 : ByteArray := prog_15_method_49_code
def yJ6_bitCount_0f7a4 : MethodName := ⟨RJ6, "bitCount", "(I)I"⟩
def RJ9 : String := "java/lang/Math"
def TJ9 : u_T := fun k => match k with
  | _ => ("", "", "", false)
def tyJ9 : Nat → FieldType := fun k => match k with
  | _ => .int
abbrev wsJ90 : List Cond := u_ws RJ9 TJ9 0
theorem nmJ9 : ∀ a, a < 0 → ∀ b, b < 0 → a ≠ b → (TJ9 a).2.1 ≠ (TJ9 b).2.1 := by decide +kernel
theorem tyJ9_ok : ∀ k, k < 0 → parseFieldDescriptor (TJ9 k).2.2.1 = some (tyJ9 k) := by decide +kernel
abbrev cJ9_abs_0f7a4 : ByteArray := prog_16_method_59_code
def yJ9_abs_0f7a4 : MethodName := ⟨RJ9, "abs", "(I)I"⟩
abbrev cJ9_max_7cf53 : ByteArray := prog_16_method_65_code
def yJ9_max_7cf53 : MethodName := ⟨RJ9, "max", "(II)I"⟩
abbrev cJ9_max_f86c9 : ByteArray := prog_16_method_66_code
def yJ9_max_f86c9 : MethodName := ⟨RJ9, "max", "(JJ)J"⟩
abbrev cJ9_min_7cf53 : ByteArray := prog_16_method_69_code
def yJ9_min_7cf53 : MethodName := ⟨RJ9, "min", "(II)I"⟩
def RJ0 : String := "java/lang/String"
def TJ0 : u_T := fun k => match k with
  | _ => ("", "", "", false)
def tyJ0 : Nat → FieldType := fun k => match k with
  | _ => .int
abbrev wsJ00 : List Cond := u_ws RJ0 TJ0 0
theorem nmJ0 : ∀ a, a < 0 → ∀ b, b < 0 → a ≠ b → (TJ0 a).2.1 ≠ (TJ0 b).2.1 := by decide +kernel
theorem tyJ0_ok : ∀ k, k < 0 → parseFieldDescriptor (TJ0 k).2.2.1 = some (tyJ0 k) := by decide +kernel
abbrev cJ0_length_8abf5 : ByteArray := prog_17_method_54_code
def yJ0_length_8abf5 : MethodName := ⟨RJ0, "length", "()I"⟩
abbrev cJ0_charAt_5068e : ByteArray := prog_17_method_56_code
def yJ0_charAt_5068e : MethodName := ⟨RJ0, "charAt", "(I)C"⟩
abbrev cJ0_coder_7d493 : ByteArray := prog_17_method_152_code
def yJ0_coder_7d493 : MethodName := ⟨RJ0, "coder", "()B"⟩
abbrev cJ0_isLatin1_aae02 : ByteArray := prog_17_method_154_code
def yJ0_isLatin1_aae02 : MethodName := ⟨RJ0, "isLatin1", "()Z"⟩
abbrev cJ0_checkIndex_df160 : ByteArray := prog_17_method_155_code
def yJ0_checkIndex_df160 : MethodName := ⟨RJ0, "checkIndex", "(II)V"⟩
def RJ1 : String := "java/lang/StringLatin1"
def TJ1 : u_T := fun k => match k with
  | _ => ("", "", "", false)
def tyJ1 : Nat → FieldType := fun k => match k with
  | _ => .int
abbrev wsJ10 : List Cond := u_ws RJ1 TJ1 0
theorem nmJ1 : ∀ a, a < 0 → ∀ b, b < 0 → a ≠ b → (TJ1 a).2.1 ≠ (TJ1 b).2.1 := by decide +kernel
theorem tyJ1_ok : ∀ k, k < 0 → parseFieldDescriptor (TJ1 k).2.2.1 = some (tyJ1 k) := by decide +kernel
abbrev cJ1_charAt_3b067 : ByteArray := prog_18_method_2_code
def yJ1_charAt_3b067 : MethodName := ⟨RJ1, "charAt", "([BI)C"⟩
def RJ2 : String := "java/lang/StringUTF16"
def TJ2 : u_T := fun k => match k with
  | _ => ("", "", "", false)
def tyJ2 : Nat → FieldType := fun k => match k with
  | _ => .int
abbrev wsJ20 : List Cond := u_ws RJ2 TJ2 0
theorem nmJ2 : ∀ a, a < 0 → ∀ b, b < 0 → a ≠ b → (TJ2 a).2.1 ≠ (TJ2 b).2.1 := by decide +kernel
theorem tyJ2_ok : ∀ k, k < 0 → parseFieldDescriptor (TJ2 k).2.2.1 = some (tyJ2 k) := by decide +kernel
abbrev cJ2_getChar_3b067 : ByteArray := prog_19_method_5_code
def yJ2_getChar_3b067 : MethodName := ⟨RJ2, "getChar", "([BI)C"⟩
abbrev cJ2_length_9d52b : ByteArray := prog_19_method_6_code
def yJ2_length_9d52b : MethodName := ⟨RJ2, "length", "([B)I"⟩
abbrev cJ2_charAt_3b067 : ByteArray := prog_19_method_83_code
def yJ2_charAt_3b067 : MethodName := ⟨RJ2, "charAt", "([BI)C"⟩
abbrev cJ2_checkIndex_2214a : ByteArray := prog_19_method_91_code
def yJ2_checkIndex_2214a : MethodName := ⟨RJ2, "checkIndex", "(I[B)V"⟩
def RJ10 : String := "java/lang/System"
def TJ10 : u_T := fun k => match k with
  | _ => ("", "", "", false)
def tyJ10 : Nat → FieldType := fun k => match k with
  | _ => .int
abbrev wsJ100 : List Cond := u_ws RJ10 TJ10 0
theorem nmJ10 : ∀ a, a < 0 → ∀ b, b < 0 → a ≠ b → (TJ10 a).2.1 ≠ (TJ10 b).2.1 := by decide +kernel
theorem tyJ10_ok : ∀ k, k < 0 → parseFieldDescriptor (TJ10 k).2.2.1 = some (tyJ10 k) := by decide +kernel
def RJ3 : String := "jdk/internal/util/Preconditions"
def TJ3 : u_T := fun k => match k with
  | _ => ("", "", "", false)
def tyJ3 : Nat → FieldType := fun k => match k with
  | _ => .int
abbrev wsJ30 : List Cond := u_ws RJ3 TJ3 0
theorem nmJ3 : ∀ a, a < 0 → ∀ b, b < 0 → a ≠ b → (TJ3 a).2.1 ≠ (TJ3 b).2.1 := by decide +kernel
theorem tyJ3_ok : ∀ k, k < 0 → parseFieldDescriptor (TJ3 k).2.2.1 = some (tyJ3 k) := by decide +kernel
abbrev cJ3_checkIndex_8e157 : ByteArray := prog_21_method_11_code
def yJ3_checkIndex_8e157 : MethodName := ⟨RJ3, "checkIndex", "(IILjava/util/function/BiFunction;)I"⟩
def RL : String := "ToastMapLaw"
abbrev cL_law : ByteArray := code
def yL_law : MethodName := ⟨RL, "law", "([I)Z"⟩
abbrev vwCl : List vw_C := [(RX0, TX0, 10), (RX1, TX1, 4), (RX2, TX2, 2), (RX3, TX3, 8), (RX4, TX4, 3), (RX5, TX5, 3), (RX6, TX6, 13), (RX7, TX7, 9), (RX8, TX8, 4), (RX9, TX9, 3), (RX10, TX10, 5), (RX11, TX11, 19), (RX12, TX12, 46)]
set_option maxRecDepth 20000 in
theorem inX0 : ∀ w ∈ wsX00, w ∈ lw_tbl := by decide +kernel
set_option maxRecDepth 20000 in
theorem inX1 : ∀ w ∈ wsX10, w ∈ lw_tbl := by decide +kernel
set_option maxRecDepth 20000 in
theorem inX2 : ∀ w ∈ wsX20, w ∈ lw_tbl := by decide +kernel
set_option maxRecDepth 20000 in
theorem inX3 : ∀ w ∈ wsX30, w ∈ lw_tbl := by decide +kernel
set_option maxRecDepth 20000 in
theorem inX4 : ∀ w ∈ wsX40, w ∈ lw_tbl := by decide +kernel
set_option maxRecDepth 20000 in
theorem inX5 : ∀ w ∈ wsX50, w ∈ lw_tbl := by decide +kernel
set_option maxRecDepth 20000 in
theorem inX6 : ∀ w ∈ wsX60, w ∈ lw_tbl := by decide +kernel
set_option maxRecDepth 20000 in
theorem inX7 : ∀ w ∈ wsX70, w ∈ lw_tbl := by decide +kernel
set_option maxRecDepth 20000 in
theorem inX8 : ∀ w ∈ wsX80, w ∈ lw_tbl := by decide +kernel
set_option maxRecDepth 20000 in
theorem inX9 : ∀ w ∈ wsX90, w ∈ lw_tbl := by decide +kernel
set_option maxRecDepth 20000 in
theorem inX10 : ∀ w ∈ wsX100, w ∈ lw_tbl := by decide +kernel
set_option maxRecDepth 20000 in
theorem inX11 : ∀ w ∈ wsX110, w ∈ lw_tbl := by decide +kernel
set_option maxRecDepth 20000 in
theorem inX12 : ∀ w ∈ wsX120, w ∈ lw_tbl := by decide +kernel
theorem inJ6 : ∀ w ∈ wsJ60, w ∈ lw_tbl := by decide +kernel
theorem inJ9 : ∀ w ∈ wsJ90, w ∈ lw_tbl := by decide +kernel
theorem inJ0 : ∀ w ∈ wsJ00, w ∈ lw_tbl := by decide +kernel
theorem inJ1 : ∀ w ∈ wsJ10, w ∈ lw_tbl := by decide +kernel
theorem inJ2 : ∀ w ∈ wsJ20, w ∈ lw_tbl := by decide +kernel
theorem inJ10 : ∀ w ∈ wsJ100, w ∈ lw_tbl := by decide +kernel
theorem inJ3 : ∀ w ∈ wsJ30, w ∈ lw_tbl := by decide +kernel
end
section
/-! A SMALL MACHINE: values are whole numbers (int, long), the number of a cell, or a constant's number; a heap is shapes, references, numbers -/
abbrev mv := Int ⊕ Int ⊕ Nat ⊕ Nat
abbrev mI (x : Int) : mv := Sum.inl x
abbrev mL (x : Int) : mv := Sum.inr (Sum.inl x)
abbrev mR (a : Nat) : mv := Sum.inr (Sum.inr (Sum.inl a))
abbrev mC (a : Nat) : mv := Sum.inr (Sum.inr (Sum.inr a))
/-- a cell's shape: a class's number, or an array's kind (0 int, 1 long, 2 byte, 3 row of longs, 10 + c: of class c) and length -/
abbrev mSh := List (Nat ⊕ (Nat × Nat))
abbrev mRf := List (List (Option Nat))
abbrev mM := Nat → Int → Int
abbrev mH := mSh × mRf × mM
abbrev mOut := Option (List mv × mH)
/-- an instruction, the place behind it, what it names -/
abbrev mIn := Instr × Nat × List Nat
abbrev mCode := List mIn
def nth {α : Type} : List α → Nat → Option α
  | [], _ => none
  | a :: _, 0 => some a
  | _ :: l, n + 1 => nth l n
def lset {α : Type} : List α → Nat → α → List α
  | [], _, _ => []
  | _ :: l, 0, b => b :: l
  | a :: l, n + 1, b => a :: lset l n b
def upM (h : mM) (a : Nat) (i : Int) (v : Int) : mM := fun a' i' => if a' = a ∧ i' = i then v else h a' i'
abbrev inI (x : Int) : Prop := -2147483648 ≤ x ∧ x ≤ 2147483647
abbrev inL (x : Int) : Prop := -9223372036854775808 ≤ x ∧ x ≤ 9223372036854775807
abbrev inB (x : Int) : Prop := -128 ≤ x ∧ x ≤ 127
abbrev inA (i : Int) (n : Nat) : Prop := 0 ≤ i ∧ i < (n : Int)
def fAnd (x y : Int) : Int := (Int32.ofInt x &&& Int32.ofInt y).toInt
def fOr (x y : Int) : Int := (Int32.ofInt x ||| Int32.ofInt y).toInt
def fXor (x y : Int) : Int := (Int32.ofInt x ^^^ Int32.ofInt y).toInt
def fShl (x y : Int) : Int := (Int32.ofInt x <<< (Int32.ofInt y &&& 31)).toInt
def fShr (x y : Int) : Int := (Int32.ofInt x >>> (Int32.ofInt y &&& 31)).toInt
def fUshr (x y : Int) : Int := ((Int32.ofInt x).toUInt32 >>> ((Int32.ofInt y).toUInt32 &&& Int32.toUInt32 31)).toInt32.toInt
def fLand (x y : Int) : Int := (Int64.ofInt x &&& Int64.ofInt y).toInt
def fLor (x y : Int) : Int := (Int64.ofInt x ||| Int64.ofInt y).toInt
def fLshl (x y : Int) : Int := (Int64.ofInt x <<< ((Int32.ofInt y).toInt64 &&& 63)).toInt
def fL2i (x : Int) : Int := (Int64.ofInt x).toInt32.toInt
def fI2b (x : Int) : Int := (Int32.ofInt x).toInt8.toInt32.toInt
def fI2s (x : Int) : Int := (Int32.ofInt x).toInt16.toInt32.toInt
/-- what stays of a value whose second half a store covers -/
def kl (a : mv) : mv := match a with
  | .inr (.inl _) => mC 0
  | a => a
/-- a store to a place: a long that lay one ahead is gone -/
def stK {ρ : Type} (v : mv) : Nat → List mv → (List mv → Option ρ) → Option ρ
  | 0, _ :: l, K => K (v :: l)
  | 1, a :: _ :: l, K => K (kl a :: v :: l)
  | k + 2, a :: l, K => stK v (k + 1) l (fun l => K (a :: l))
  | _, _, _ => none
/-- a store of a long to a place and the next -/
def stL {ρ : Type} (v : mv) : Nat → List mv → (List mv → Option ρ) → Option ρ
  | 0, _ :: _ :: l, K => K (v :: mC 0 :: l)
  | 1, a :: _ :: _ :: l, K => K (kl a :: v :: mC 0 :: l)
  | k + 2, a :: l, K => stL v (k + 1) l (fun l => K (a :: l))
  | _, _, _ => none
def mEntry : List mv → List mv
  | [] => []
  | .inr (.inl x) :: r => mL x :: mC 0 :: mEntry r
  | v :: r => v :: mEntry r
def mPad : Nat → List mv → List mv
  | 0, _ => []
  | n + 1, [] => mC 0 :: mPad n []
  | n + 1, v :: r => v :: mPad n r
def mObj (s : mSh) (a ci : Nat) : Bool := match nth s a with
  | some (.inl c) => Nat.beq c ci
  | _ => false
/-- an array's length, if it is of that kind -/
def mArr (s : mSh) (a ty : Nat) : Option Nat := match nth s a with
  | some (.inr (t, n)) => match Nat.beq t ty with
    | true => some n
    | false => none
  | _ => none
/-- n cells of a shape more -/
def mTake : Nat → List mv → List mv → Option (List mv × List mv)
  | 0, acc, st => some (acc, st)
  | n + 1, acc, v :: st => mTake n (v :: acc) st
  | _ + 1, _, [] => none
def mCpy (h : mM) (a : Nat) (i : Int) (b : Nat) (j n : Int) : mM := fun a' k => if a' = b ∧ j ≤ k ∧ k < j + n then h a (i + (k - j)) else h a' k
def mCpyC (h : mM) (l : List Int) (i : Int) (b : Nat) (j n : Int) : mM := fun a' k => if a' = b ∧ j ≤ k ∧ k < j + n then (nth l (i + (k - j)).toNat).getD 0 else h a' k
/-- how many words lie on the stack -/
def wds : List mv → Nat
  | [] => 0
  | .inr (.inl _) :: r => wds r + 2
  | _ :: r => wds r + 1
/-- the receiver is an object of that class (0: none is asked) -/
def rcv (S : mSh) : Nat → List mv → Bool
  | 0, _ => true
  | c + 1, .inr (.inr (.inl a)) :: _ => mObj S a c
  | _ + 1, _ => false
/-- few words -/
def few {ρ : Type} (st : List mv) (k : Option ρ) : Option ρ := match Nat.ble (wds st) 8 with
  | true => k
  | false => none
/-- behind a call: what came back -/
def cV {ρ : Type} (o : Option (List mv × mM)) (K : mM → Option ρ) : Option ρ := match o with
  | some ([], h) => K h
  | _ => none
def cI {ρ : Type} (o : Option (List mv × mM)) (K : Int → mM → Option ρ) : Option ρ := match o with
  | some ([.inl v], h) => K v h
  | _ => none
def cL {ρ : Type} (o : Option (List mv × mM)) (K : Int → mM → Option ρ) : Option ρ := match o with
  | some ([.inr (.inl v)], h) => K v h
  | _ => none
def cR {ρ : Type} (o : Option (List mv × mM)) (K : Nat → mM → Option ρ) : Option ρ := match o with
  | some ([.inr (.inr (.inl v))], h) => K v h
  | _ => none
section
variable {ρ : Type}
def pB (c : Nat) (x y : Int) (A B : Option ρ) : Option ρ := match c with
  | 0 => if x = y then A else B
  | 1 => if x = y then B else A
  | 2 => if x < y then A else B
  | 3 => if x < y then B else A
  | 4 => if y < x then A else B
  | _ => if y < x then B else A
def pSw (x : Int) (N : Nat → Option ρ) (d : Nat) : Int → List Nat → Option ρ
  | _, [] => N d
  | lo, t :: ts => if x = lo then N t else pSw x N d (lo + 1) ts
def pLk (x : Int) (N : Nat → Option ρ) (d : Nat) : List Nat → Option ρ
  | k :: t :: r => if x = (k : Int) then N t else pLk x N d r
  | _ => N d
/-- ONE INSTRUCTION that makes no cell and moves no reference -/
def ex1 (S : mSh) (R : List (List (Option Nat))) (ct : Nat → List Int) (cl : Nat → Nat → List mv → mM → Option (List mv × mM)) (ret : List mv → mM → Option ρ) (N : Nat → List mv → List mv → mM → Option ρ) (i : mIn) (ls st : List mv) (h : mM) : Option ρ :=
  match i.1 with
  | .iconst n => N i.2.1 ls (mI n :: st) h
  | .sipush n => N i.2.1 ls (mL n :: st) h
  | .ldc k => N i.2.1 ls (mC k :: st) h
  | .iload k => match nth ls k with
    | some (.inl x) => N i.2.1 ls (mI x :: st) h
    | _ => none
  | .lload k => match nth ls k with
    | some (.inr (.inl x)) => N i.2.1 ls (mL x :: st) h
    | _ => none
  | .aload k => match nth ls k with
    | some (.inr (.inr (.inl a))) => N i.2.1 ls (mR a :: st) h
    | some (.inr (.inr (.inr (a + 1)))) => N i.2.1 ls (mC (a + 1) :: st) h
    | _ => none
  | .istore k => match st with
    | .inl x :: st => stK (mI x) k ls (fun ls => N i.2.1 ls st h)
    | _ => none
  | .lstore k => match st with
    | .inr (.inl x) :: st => stL (mL x) k ls (fun ls => N i.2.1 ls st h)
    | _ => none
  | .astore k => match st with
    | .inr (.inr (.inl a)) :: st => stK (mR a) k ls (fun ls => N i.2.1 ls st h)
    | _ => none
  | .iinc k n => match nth ls k with
    | some (.inl x) => if inI (x + n) then stK (mI (x + n)) k ls (fun ls => N i.2.1 ls st h) else none
    | _ => none
  | .iadd => match st with
    | .inl y :: .inl x :: st => if inI (x + y) then N i.2.1 ls (mI (x + y) :: st) h else none
    | _ => none
  | .isub => match st with
    | .inl y :: .inl x :: st => if inI (x - y) then N i.2.1 ls (mI (x - y) :: st) h else none
    | _ => none
  | .imul => match st with
    | .inl y :: .inl x :: st => if inI (x * y) then N i.2.1 ls (mI (x * y) :: st) h else none
    | _ => none
  | .idiv => match st with
    | .inl y :: .inl x :: st => if 0 ≤ x ∧ 0 < y then N i.2.1 ls (mI (x / y) :: st) h else none
    | _ => none
  | .irem => match st with
    | .inl y :: .inl x :: st => if 0 ≤ x ∧ 0 < y then N i.2.1 ls (mI (x % y) :: st) h else none
    | _ => none
  | .ladd => match st with
    | .inr (.inl y) :: .inr (.inl x) :: st => if inL (x + y) then N i.2.1 ls (mL (x + y) :: st) h else none
    | _ => none
  | .lsub => match st with
    | .inr (.inl y) :: .inr (.inl x) :: st => if inL (x - y) then N i.2.1 ls (mL (x - y) :: st) h else none
    | _ => none
  | .lmul => match st with
    | .inr (.inl y) :: .inr (.inl x) :: st => if inL (x * y) then N i.2.1 ls (mL (x * y) :: st) h else none
    | _ => none
  | .ldiv => match st with
    | .inr (.inl y) :: .inr (.inl x) :: st => if 0 ≤ x ∧ 0 < y then N i.2.1 ls (mL (x / y) :: st) h else none
    | _ => none
  | .lrem => match st with
    | .inr (.inl y) :: .inr (.inl x) :: st => if 0 ≤ x ∧ 0 < y then N i.2.1 ls (mL (x % y) :: st) h else none
    | _ => none
  | .iand => match st with
    | .inl y :: .inl x :: st => N i.2.1 ls (mI (fAnd x y) :: st) h
    | _ => none
  | .ior => match st with
    | .inl y :: .inl x :: st => N i.2.1 ls (mI (fOr x y) :: st) h
    | _ => none
  | .ixor => match st with
    | .inl y :: .inl x :: st => N i.2.1 ls (mI (fXor x y) :: st) h
    | _ => none
  | .ishl => match st with
    | .inl y :: .inl x :: st => N i.2.1 ls (mI (fShl x y) :: st) h
    | _ => none
  | .ishr => match st with
    | .inl y :: .inl x :: st => N i.2.1 ls (mI (fShr x y) :: st) h
    | _ => none
  | .iushr => match st with
    | .inl y :: .inl x :: st => N i.2.1 ls (mI (fUshr x y) :: st) h
    | _ => none
  | .land => match st with
    | .inr (.inl y) :: .inr (.inl x) :: st => N i.2.1 ls (mL (fLand x y) :: st) h
    | _ => none
  | .lor => match st with
    | .inr (.inl y) :: .inr (.inl x) :: st => N i.2.1 ls (mL (fLor x y) :: st) h
    | _ => none
  | .lshl => match st with
    | .inl y :: .inr (.inl x) :: st => N i.2.1 ls (mL (fLshl x y) :: st) h
    | _ => none
  | .i2l => match st with
    | .inl x :: st => N i.2.1 ls (mL x :: st) h
    | _ => none
  | .l2i => match st with
    | .inr (.inl x) :: st => N i.2.1 ls (mI (fL2i x) :: st) h
    | _ => none
  | .i2b => match st with
    | .inl x :: st => N i.2.1 ls (mI (fI2b x) :: st) h
    | _ => none
  | .i2s => match st with
    | .inl x :: st => N i.2.1 ls (mI (fI2s x) :: st) h
    | _ => none
  | .dup => match st with
    | .inl x :: st => N i.2.1 ls (mI x :: mI x :: st) h
    | .inr (.inr v) :: st => N i.2.1 ls (.inr (.inr v) :: .inr (.inr v) :: st) h
    | _ => none
  | .dup2 => match st with
    | .inr (.inl x) :: st => N i.2.1 ls (mL x :: mL x :: st) h
    | .inl y :: .inl x :: st => N i.2.1 ls (mI y :: mI x :: mI y :: mI x :: st) h
    | .inl y :: .inr (.inr x) :: st => N i.2.1 ls (mI y :: .inr (.inr x) :: mI y :: .inr (.inr x) :: st) h
    | _ => none
  | .pop => match st with
    | .inl _ :: st => N i.2.1 ls st h
    | _ => none
  | .ifCond _ _ => match st, i.2.2 with
    | .inl x :: st, [c, t] => pB c x 0 (N t ls st h) (N i.2.1 ls st h)
    | _, _ => none
  | .if_icmp _ _ => match st, i.2.2 with
    | .inl y :: .inl x :: st, [c, t] => pB c x y (N t ls st h) (N i.2.1 ls st h)
    | _, _ => none
  | .lcmp => match st, i.2.2 with
    | .inr (.inl y) :: .inr (.inl x) :: st, [c, t] => pB c x y (N t ls st h) (N i.2.1 ls st h)
    | _, _ => none
  | .goto _ => match i.2.2 with
    | [t] => N t ls st h
    | _ => none
  | .tableswitch _ lo _ _ => match st, i.2.2 with
    | .inl x :: st, d :: ts => pSw x (fun t => N t ls st h) d lo ts
    | _, _ => none
  | .lookupswitch _ _ => match st, i.2.2 with
    | .inl x :: st, d :: ts => pLk x (fun t => N t ls st h) d ts
    | _, _ => none
  | .getfield k => match st, i.2.2 with
    | .inr (.inr (.inl a)) :: st, [ci, ty] => match mObj S a ci with
      | true => match ty with
        | 0 => N i.2.1 ls (mI (h a (k : Int)) :: st) h
        | 1 => N i.2.1 ls (mL (h a (k : Int)) :: st) h
        | 2 => match nth R a with
          | some l => match nth l k with
            | some (some b) => N i.2.1 ls (mR b :: st) h
            | _ => none
          | none => none
        | _ => none
      | false => none
    | _, _ => none
  | .putfield k => match i.2.2 with
    | [ci, ty] => match ty with
      | 0 => match st with
        | .inl x :: .inr (.inr (.inl a)) :: st => match mObj S a ci with
          | true => N i.2.1 ls st (upM h a (k : Int) x)
          | false => none
        | _ => none
      | 1 => match st with
        | .inr (.inl x) :: .inr (.inr (.inl a)) :: st => match mObj S a ci with
          | true => N i.2.1 ls st (upM h a (k : Int) x)
          | false => none
        | _ => none
      | 3 => match st with
        | .inl x :: .inr (.inr (.inl a)) :: st => match mObj S a ci with
          | true => if 0 ≤ x ∧ x ≤ 1 then N i.2.1 ls st (upM h a (k : Int) x) else none
          | false => none
        | _ => none
      | _ => none
    | _ => none
  | .iaload => match st with
    | .inl x :: .inr (.inr (.inl a)) :: st => match mArr S a 0 with
      | some n => if inA x n then N i.2.1 ls (mI (h a x) :: st) h else none
      | none => none
    | .inl x :: .inr (.inr (.inr (k + 1))) :: st => match Nat.ble k 3 with
      | true => if inA x (ct (k + 1)).length then N i.2.1 ls (mI ((nth (ct (k + 1)) x.toNat).getD 0) :: st) h else none
      | false => none
    | _ => none
  | .laload => match st with
    | .inl x :: .inr (.inr (.inl a)) :: st => match mArr S a 1 with
      | some n => if inA x n then N i.2.1 ls (mL (h a x) :: st) h else none
      | none => none
    | _ => none
  | .baload => match st with
    | .inl x :: .inr (.inr (.inl a)) :: st => match mArr S a 2 with
      | some n => if inA x n then N i.2.1 ls (mI (h a x) :: st) h else none
      | none => none
    | _ => none
  | .aaload => match st, i.2.2 with
    | .inl x :: .inr (.inr (.inl a)) :: st, [ty] => match mArr S a ty with
      | some n => match nth R a with
        | some l => match nth l x.toNat with
          | some (some b) => if inA x n then N i.2.1 ls (mR b :: st) h else none
          | _ => none
        | none => none
      | none => none
    | _, _ => none
  | .iastore => match st with
    | .inl v :: .inl x :: .inr (.inr (.inl a)) :: st => match mArr S a 0 with
      | some n => if inA x n then N i.2.1 ls st (upM h a x v) else none
      | none => none
    | _ => none
  | .lastore => match st with
    | .inr (.inl v) :: .inl x :: .inr (.inr (.inl a)) :: st => match mArr S a 1 with
      | some n => if inA x n then N i.2.1 ls st (upM h a x v) else none
      | none => none
    | _ => none
  | .bastore => match st with
    | .inl v :: .inl x :: .inr (.inr (.inl a)) :: st => match mArr S a 2 with
      | some n => if inA x n then if inB v then N i.2.1 ls st (upM h a x v) else none else none
      | none => none
    | _ => none
  | .arraylength => match st, i.2.2 with
    | .inr (.inr (.inr (k + 1))) :: st, [t] => match t with
      | 0 => match Nat.ble k 3 with
        | true => few st (N i.2.1 ls (mI ((ct (k + 1)).length : Int) :: st) h)
        | false => none
      | _ => match (Nat.ble 4 k).and (Nat.ble k 5) with
        | true => few st (N i.2.1 ls (mI ((ct (k + 1)).length : Int) :: st) h)
        | false => none
    | _, _ => none
  | .caload => match st with
    | .inl x :: .inr (.inr (.inr (k + 1))) :: st => match (Nat.ble 4 k).and (Nat.ble k 5) with
      | true => few st (if inA x (ct (k + 1)).length then N i.2.1 ls (mI ((nth (ct (k + 1)) x.toNat).getD 0) :: st) h else none)
      | false => none
    | _ => none
  | .dadd => match st with
    | .inl y :: .inl x :: st => few st (N i.2.1 ls (mI (max x y) :: st) h)
    | _ => none
  | .dsub => match st with
    | .inl y :: .inl x :: st => few st (N i.2.1 ls (mI (min x y) :: st) h)
    | _ => none
  | .dneg => match st with
    | .inl x :: st => few st (if inI (-x) then N i.2.1 ls (mI (if x < 0 then -x else x) :: st) h else none)
    | _ => none
  | .dmul => match st with
    | .inr (.inl y) :: .inr (.inl x) :: st => few st (N i.2.1 ls (mL (max x y) :: st) h)
    | _ => none
  | .swap => match st, i.2.2 with
    | .inl n :: .inl y :: .inr (.inr (.inl b)) :: .inl x :: .inr (.inr (.inl a)) :: st, [ty] => match mArr S a ty with
      | some na => match mArr S b ty with
        | some nb => few st (if (0 ≤ n ∧ 0 ≤ x ∧ 0 ≤ y) ∧ x + n ≤ (na : Int) ∧ y + n ≤ (nb : Int) then N i.2.1 ls st (mCpy h a x b y n) else none)
        | none => none
      | none => none
    | .inl n :: .inl y :: .inr (.inr (.inl b)) :: .inl x :: .inr (.inr (.inr (k + 1))) :: st, [_] => match Nat.ble k 3 with
      | true => match mArr S b 0 with
        | some nb => few st (if (0 ≤ n ∧ 0 ≤ x ∧ 0 ≤ y) ∧ x + n ≤ ((ct (k + 1)).length : Int) ∧ y + n ≤ (nb : Int) then N i.2.1 ls st (mCpyC h (ct (k + 1)) x b y n) else none)
        | none => none
      | false => none
    | _, _ => none
  | .invokestatic id => match i.2.2 with
    | [na, fl, kd, w, rc] => match mTake na [] st with
      | some (args, rest) => match (Nat.ble (wds args) w).and (rcv S rc args) with
        | true => few rest (match kd with
          | 0 => cV (cl id fl args h) (fun h' => N i.2.1 ls rest h')
          | 1 => cI (cl id fl args h) (fun v h' => N i.2.1 ls (mI v :: rest) h')
          | 2 => cL (cl id fl args h) (fun v h' => N i.2.1 ls (mL v :: rest) h')
          | 3 => cR (cl id fl args h) (fun v h' => N i.2.1 ls (mR v :: rest) h')
          | _ => none)
        | false => none
      | none => none
    | _ => none
  | .ireturn => match st, i.2.2 with
    | [.inl x], [ty] => match ty with
      | 0 => ret [mI x] h
      | _ => if 0 ≤ x ∧ x ≤ 1 then ret [mI x] h else none
    | _, _ => none
  | .lreturn => match st with
    | [.inr (.inl x)] => ret [mL x] h
    | _ => none
  | .areturn => match st with
    | [.inr (.inr (.inl a))] => ret [mR a] h
    | _ => none
  | .return_ => match st with
    | [] => ret [] h
    | _ => none
  | _ => none
end
/-- a program: of a method's number its code and how many locals it has -/
abbrev mPr := Nat → mCode × Nat
section
variable (P : mPr) (S : mSh) (R : List (List (Option Nat))) (ct : Nat → List Int)
/-- so many steps at most, so deep at most -/
def exN : Nat → Nat → mCode → Nat → List mv → List mv → mM → Option (List mv × mM)
  | 0, _, _, _, _, _, _ => none
  | n + 1, d, c, j, ls, st, h => match nth c j with
    | none => none
    | some i => ex1 S R ct (fun id fl args h => match fl, d with
        | 0, d => exN n d (P id).1 0 (mPad (P id).2 (mEntry args)) [] h
        | _, d + 1 => exN n d (P id).1 0 (mPad (P id).2 (mEntry args)) [] h
        | _, 0 => none) (fun v h => some (v, h)) (exN n d c) i ls st h
/-- where it comes to, however many steps it takes -/
noncomputable def Ex (d : Nat) (c : mCode) (j : Nat) (ls st : List mv) (h : mM) : Option (List mv × mM) :=
  @dite _ (∃ r n, exN P S R ct n d c j ls st h = some r) (Classical.propDecidable _) (fun q => some (Classical.choose q)) (fun _ => none)
noncomputable def Cl (d : Nat) (id fl : Nat) (args : List mv) (h : mM) : Option (List mv × mM) := match fl, d with
  | 0, d => Ex P S R ct d (P id).1 0 (mPad (P id).2 (mEntry args)) [] h
  | _, d + 1 => Ex P S R ct d (P id).1 0 (mPad (P id).2 (mEntry args)) [] h
  | _, 0 => none
end
end
section
section
variable {ρ : Type}
/-- what a comes to, b n comes to from some n on -/
def Tr (a : Option ρ) (b : Nat → Option ρ) : Prop := ∀ r, a = some r → ∃ n0, ∀ n, n0 ≤ n → b n = some r
theorem Tr.none' {b : Nat → Option ρ} : Tr none b := fun r h => by cases h
theorem Tr.same (a : Option ρ) : Tr a (fun _ => a) := fun r h => ⟨0, fun _ _ => h⟩
theorem Tr.ite {c : Prop} [Decidable c] {a a' : Option ρ} {b b' : Nat → Option ρ} (h : Tr a b) (h' : Tr a' b') : Tr (if c then a else a') (fun n => if c then b n else b' n) := by
  by_cases q : c
  · simpa only [if_pos q] using h
  · simpa only [if_neg q] using h'
theorem Tr.pB {c : Nat} {x y : Int} {a a' : Option ρ} {b b' : Nat → Option ρ} (h : Tr a b) (h' : Tr a' b') : Tr (pB c x y a a') (fun n => pB c x y (b n) (b' n)) := by
  unfold Jvm.Pilot.@@N@@.pB
  split
  · exact Tr.ite h h'
  · exact Tr.ite h' h
  · exact Tr.ite h h'
  · exact Tr.ite h' h
  · exact Tr.ite h h'
  · exact Tr.ite h' h
theorem Tr.pSw {x : Int} {d : Nat} {N : Nat → Option ρ} {M : Nat → Nat → Option ρ} (h : ∀ t, Tr (N t) (fun n => M n t)) : ∀ (l : List Nat) (lo : Int), Tr (pSw x N d lo l) (fun n => pSw x (M n) d lo l)
  | [], lo => h d
  | t :: ts, lo => Tr.ite (h t) (Tr.pSw h ts (lo + 1))
theorem Tr.pLk {x : Int} {d : Nat} {N : Nat → Option ρ} {M : Nat → Nat → Option ρ} (h : ∀ t, Tr (N t) (fun n => M n t)) : ∀ (l : List Nat), Tr (pLk x N d l) (fun n => pLk x (M n) d l)
  | [] => h d
  | [_] => h d
  | _ :: t :: ts => Tr.ite (h t) (Tr.pLk h ts)
theorem Tr.cV {o : Option (List mv × mM)} {p : Nat → Option (List mv × mM)} {K : mM → Option ρ} {L : Nat → mM → Option ρ} (ho : Tr o p) (h : ∀ m, Tr (K m) (fun n => L n m)) : Tr (cV o K) (fun n => cV (p n) (L n)) := by
  intro r H
  unfold Jvm.Pilot.@@N@@.cV at H
  split at H
  · next m =>
    obtain ⟨n1, h1⟩ := ho _ rfl
    obtain ⟨n2, h2⟩ := h _ r H
    refine ⟨max n1 n2, fun n hn => ?_⟩
    (try dsimp only)
    (try dsimp only)
    rw [h1 n (by omega)]
    exact h2 n (by omega)
  · cases H
theorem Tr.cI {o : Option (List mv × mM)} {p : Nat → Option (List mv × mM)} {K : Int → mM → Option ρ} {L : Nat → Int → mM → Option ρ} (ho : Tr o p) (h : ∀ v m, Tr (K v m) (fun n => L n v m)) : Tr (cI o K) (fun n => cI (p n) (L n)) := by
  intro r H
  unfold Jvm.Pilot.@@N@@.cI at H
  split at H
  · next v m =>
    obtain ⟨n1, h1⟩ := ho _ rfl
    obtain ⟨n2, h2⟩ := h _ _ r H
    refine ⟨max n1 n2, fun n hn => ?_⟩
    (try dsimp only)
    rw [h1 n (by omega)]
    exact h2 n (by omega)
  · cases H
theorem Tr.cL {o : Option (List mv × mM)} {p : Nat → Option (List mv × mM)} {K : Int → mM → Option ρ} {L : Nat → Int → mM → Option ρ} (ho : Tr o p) (h : ∀ v m, Tr (K v m) (fun n => L n v m)) : Tr (cL o K) (fun n => cL (p n) (L n)) := by
  intro r H
  unfold Jvm.Pilot.@@N@@.cL at H
  split at H
  · next v m =>
    obtain ⟨n1, h1⟩ := ho _ rfl
    obtain ⟨n2, h2⟩ := h _ _ r H
    refine ⟨max n1 n2, fun n hn => ?_⟩
    (try dsimp only)
    rw [h1 n (by omega)]
    exact h2 n (by omega)
  · cases H
theorem Tr.cR {o : Option (List mv × mM)} {p : Nat → Option (List mv × mM)} {K : Nat → mM → Option ρ} {L : Nat → Nat → mM → Option ρ} (ho : Tr o p) (h : ∀ v m, Tr (K v m) (fun n => L n v m)) : Tr (cR o K) (fun n => cR (p n) (L n)) := by
  intro r H
  unfold Jvm.Pilot.@@N@@.cR at H
  split at H
  · next v m =>
    obtain ⟨n1, h1⟩ := ho _ rfl
    obtain ⟨n2, h2⟩ := h _ _ r H
    refine ⟨max n1 n2, fun n hn => ?_⟩
    (try dsimp only)
    rw [h1 n (by omega)]
    exact h2 n (by omega)
  · cases H
theorem Tr.few {st : List mv} {a : Option ρ} {b : Nat → Option ρ} (h : Tr a b) : Tr (few st a) (fun n => few st (b n)) := by
  unfold Jvm.Pilot.@@N@@.few
  split
  · exact h
  · exact Tr.none'
theorem Tr.stK {v : mv} : ∀ (k : Nat) (ls : List mv) {K : List mv → Option ρ} {L : Nat → List mv → Option ρ}, (∀ l, Tr (K l) (fun n => L n l)) → Tr (stK v k ls K) (fun n => stK v k ls (L n))
  | 0, [], _, _, _ => Tr.none'
  | 0, _ :: l, _, _, h => h _
  | 1, [], _, _, _ => Tr.none'
  | 1, [_], _, _, _ => Tr.none'
  | 1, a :: _ :: l, _, _, h => h _
  | k + 2, [], _, _, _ => Tr.none'
  | k + 2, a :: l, _, _, h => Tr.stK (k + 1) l (fun l => h (a :: l))
theorem Tr.stL {v : mv} : ∀ (k : Nat) (ls : List mv) {K : List mv → Option ρ} {L : Nat → List mv → Option ρ}, (∀ l, Tr (K l) (fun n => L n l)) → Tr (stL v k ls K) (fun n => stL v k ls (L n))
  | 0, [], _, _, _ => Tr.none'
  | 0, [_], _, _, _ => Tr.none'
  | 0, _ :: _ :: l, _, _, h => h _
  | 1, [], _, _, _ => Tr.none'
  | 1, [_], _, _, _ => Tr.none'
  | 1, [_, _], _, _, _ => Tr.none'
  | 1, a :: _ :: _ :: l, _, _, h => h _
  | k + 2, [], _, _, _ => Tr.none'
  | k + 2, a :: l, _, _, h => Tr.stL (k + 1) l (fun l => h (a :: l))
theorem ex1_tr (S : mSh) (R : List (List (Option Nat))) (ct : Nat → List Int) {cl : Nat → Nat → List mv → mM → Option (List mv × mM)} {cl' : Nat → Nat → Nat → List mv → mM → Option (List mv × mM)} {ret : List mv → mM → Option ρ} {N : Nat → List mv → List mv → mM → Option ρ} {N' : Nat → Nat → List mv → List mv → mM → Option ρ}
    (hcl : ∀ id fl a h, Tr (cl id fl a h) (fun n => cl' n id fl a h)) (hN : ∀ j ls st h, Tr (N j ls st h) (fun n => N' n j ls st h)) (i : mIn) (ls st : List mv) (h : mM) :
    Tr (ex1 S R ct cl ret N i ls st h) (fun n => ex1 S R ct (cl' n) ret (N' n) i ls st h) := by
  intro r H
  obtain ⟨o, nx, l⟩ := i
  unfold ex1 at H ⊢
  dsimp only at H ⊢
  split at H
  all_goals repeat' first
    | (cases H; done)
    | exact hN _ _ _ _ _ H
    | exact ⟨0, fun _ _ => H⟩
    | (revert H; exact Tr.ite (hN _ _ _ _) Tr.none' _)
    | (revert H; exact Tr.ite (Tr.ite (hN _ _ _ _) Tr.none') Tr.none' _)
    | (revert H; exact Tr.ite (Tr.same _) Tr.none' _)
    | (revert H; exact Tr.stK _ _ (fun l => hN _ _ _ _) _)
    | (revert H; exact Tr.stL _ _ (fun l => hN _ _ _ _) _)
    | (revert H; exact Tr.ite (Tr.stK _ _ (fun l => hN _ _ _ _)) Tr.none' _)
    | (revert H; exact Tr.few (hN _ _ _ _) _)
    | (revert H; exact Tr.few (Tr.ite (hN _ _ _ _) Tr.none') _)
    | (unfold few at H ⊢; split at H)
    | (revert H; exact Tr.pB (hN _ _ _ _) (hN _ _ _ _) _)
    | (revert H; exact Tr.pSw (fun t => hN _ _ _ _) _ _ _)
    | (revert H; exact Tr.pLk (fun t => hN _ _ _ _) _ _)
    | (revert H; exact Tr.cV (hcl _ _ _ _) (fun m => hN _ _ _ _) _)
    | (revert H; exact Tr.cI (hcl _ _ _ _) (fun v m => hN _ _ _ _) _)
    | (revert H; exact Tr.cL (hcl _ _ _ _) (fun v m => hN _ _ _ _) _)
    | (revert H; exact Tr.cR (hcl _ _ _ _) (fun v m => hN _ _ _ _) _)
    | split at H
end
section
variable (P : mPr) (S : mSh) (R : List (List (Option Nat))) (ct : Nat → List Int)
def clN (n d : Nat) (id fl : Nat) (args : List mv) (h : mM) : Option (List mv × mM) := match fl, d with
  | 0, d => exN P S R ct n d (P id).1 0 (mPad (P id).2 (mEntry args)) [] h
  | _, d + 1 => exN P S R ct n d (P id).1 0 (mPad (P id).2 (mEntry args)) [] h
  | _, 0 => none
theorem exN_succ (n d : Nat) (c : mCode) (j : Nat) (ls st : List mv) (h : mM) : exN P S R ct (n + 1) d c j ls st h = match nth c j with
    | none => none
    | some i => ex1 S R ct (clN P S R ct n d) (fun v h => some (v, h)) (exN P S R ct n d c) i ls st h := by
  rw [exN]
  rfl
theorem exN_ev : ∀ (n d : Nat) (c : mCode) (j : Nat) (ls st : List mv) (h : mM), Tr (exN P S R ct n d c j ls st h) (fun k => exN P S R ct k d c j ls st h) := by
  intro n
  induction n with
  | zero => intro d c j ls st h r H; cases H
  | succ n ih =>
    intro d c j ls st h r H
    rw [exN_succ] at H
    split at H
    · cases H
    · next i hi =>
      have hcl : ∀ id fl a h, Tr (clN P S R ct n d id fl a h) (fun k => clN P S R ct k d id fl a h) := by
        intro id fl a h
        cases fl with
        | zero => exact ih _ _ _ _ _ _
        | succ fl => cases d with
          | zero => exact Tr.none'
          | succ d => exact ih _ _ _ _ _ _
      obtain ⟨n0, h0⟩ := ex1_tr S R ct hcl (fun j ls st h => ih d c j ls st h) i ls st h r H
      refine ⟨n0 + 1, fun k hk => ?_⟩
      obtain ⟨k, rfl⟩ : ∃ q, k = q + 1 := ⟨k - 1, by omega⟩
      show exN P S R ct (k + 1) d c j ls st h = some r
      rw [exN_succ, hi]
      exact h0 k (by omega)
theorem Ex_iff {d : Nat} {c : mCode} {j : Nat} {ls st : List mv} {h : mM} {r : List mv × mM} : Ex P S R ct d c j ls st h = some r ↔ ∃ n, exN P S R ct n d c j ls st h = some r := by
  unfold Ex
  constructor
  · intro H
    split at H
    · next q =>
      cases H
      exact Classical.choose_spec q
    · cases H
  · rintro ⟨n, hn⟩
    have q : ∃ r n, exN P S R ct n d c j ls st h = some r := ⟨r, n, hn⟩
    rw [dif_pos q]
    obtain ⟨m, hm⟩ := Classical.choose_spec q
    obtain ⟨n1, h1⟩ := exN_ev P S R ct n d c j ls st h r hn
    obtain ⟨n2, h2⟩ := exN_ev P S R ct m d c j ls st h _ hm
    have e := (h1 (max n1 n2) (by omega)).symm.trans (h2 (max n1 n2) (by omega))
    exact e.symm
theorem Ex_tr (d : Nat) (c : mCode) (j : Nat) (ls st : List mv) (h : mM) : Tr (Ex P S R ct d c j ls st h) (fun k => exN P S R ct k d c j ls st h) := by
  intro r H
  obtain ⟨n, hn⟩ := (Ex_iff P S R ct).mp H
  exact exN_ev P S R ct n d c j ls st h r hn
theorem Cl_tr (d id fl : Nat) (a : List mv) (h : mM) : Tr (Cl P S R ct d id fl a h) (fun k => clN P S R ct k d id fl a h) := by
  cases fl with
  | zero => exact Ex_tr P S R ct _ _ _ _ _ _
  | succ fl => cases d with
    | zero => exact Tr.none'
    | succ d => exact Ex_tr P S R ct _ _ _ _ _ _
theorem Cl_of (n d id fl : Nat) (a : List mv) (h : mM) : Tr (clN P S R ct n d id fl a h) (fun _ => Cl P S R ct d id fl a h) := by
  cases fl with
  | zero => exact fun r H => ⟨0, fun _ _ => (Ex_iff P S R ct).mpr ⟨n, H⟩⟩
  | succ fl => cases d with
    | zero => exact Tr.none'
    | succ d => exact fun r H => ⟨0, fun _ _ => (Ex_iff P S R ct).mpr ⟨n, H⟩⟩
/-- one instruction on -/
theorem Ex_step {d : Nat} {c : mCode} {j : Nat} {i : mIn} (hi : nth c j = some i) (ls st : List mv) (h : mM) : Ex P S R ct d c j ls st h = ex1 S R ct (Cl P S R ct d) (fun v h => some (v, h)) (Ex P S R ct d c) i ls st h := by
  refine Option.ext fun r => ⟨fun H => ?_, fun H => ?_⟩
  · obtain ⟨n, hn⟩ := (Ex_iff P S R ct).mp H
    cases n with
    | zero => cases hn
    | succ n =>
      rw [exN_succ, hi] at hn
      obtain ⟨n0, h0⟩ := ex1_tr S R ct (fun id fl a h => Cl_of P S R ct n d id fl a h) (N' := fun _ => Ex P S R ct d c) (fun j ls st h r H => ⟨0, fun _ _ => (Ex_iff P S R ct).mpr ⟨n, H⟩⟩) i ls st h r hn
      exact h0 n0 (Nat.le_refl _)
  · obtain ⟨n0, h0⟩ := ex1_tr S R ct (fun id fl a h => Cl_tr P S R ct d id fl a h) (fun j ls st h => Ex_tr P S R ct d c j ls st h) i ls st h r H
    refine (Ex_iff P S R ct).mpr ⟨n0 + 1, ?_⟩
    rw [exN_succ, hi]
    exact h0 n0 (Nat.le_refl _)
theorem Ex_off {d : Nat} {c : mCode} {j : Nat} (hi : nth c j = none) (ls st : List mv) (h : mM) : Ex P S R ct d c j ls st h = none := by
  refine Option.ext fun r => ⟨fun H => ?_, fun H => by cases H⟩
  obtain ⟨n, hn⟩ := (Ex_iff P S R ct).mp H
  cases n with
  | zero => cases hn
  | succ n => rw [exN_succ, hi] at hn; cases hn
/-- so many instructions on, but to the stops -/
noncomputable def blk (d : Nat) (c : mCode) (stop : List Nat) : Nat → Nat → List mv → List mv → mM → Option (List mv × mM)
  | 0, j, ls, st, h => Ex P S R ct d c j ls st h
  | n + 1, j, ls, st, h => match nth c j with
    | none => none
    | some i => ex1 S R ct (Cl P S R ct d) (fun v h => some (v, h)) (fun j ls st h => match stop.elem j with
      | true => Ex P S R ct d c j ls st h
      | false => blk d c stop n j ls st h) i ls st h
theorem Ex_blk (d : Nat) (c : mCode) (stop : List Nat) : ∀ (n : Nat) (j : Nat) (ls st : List mv) (h : mM), Ex P S R ct d c j ls st h = blk P S R ct d c stop n j ls st h := by
  intro n
  induction n with
  | zero => intro j ls st h; rfl
  | succ n ih =>
    intro j ls st h
    show _ = (match nth c j with | none => none | some i => _)
    cases hi : nth c j with
    | none => exact Ex_off P S R ct hi ls st h
    | some i =>
      rw [Ex_step P S R ct hi]
      have e : (fun j ls st h => match stop.elem j with
        | true => Ex P S R ct d c j ls st h
        | false => blk P S R ct d c stop n j ls st h) = Ex P S R ct d c := by
        funext j ls st h
        split
        · rfl
        · exact (ih j ls st h).symm
      show _ = ex1 S R ct _ _ (fun j ls st h => match stop.elem j with
        | true => Ex P S R ct d c j ls st h
        | false => blk P S R ct d c stop n j ls st h) i ls st h
      rw [e]
end
end
section
/-! the program, by program out of javap's listing -/
def k_J_bitCount : mCode := [(.iload 0, 1, []), (.iload 0, 2, []), (.iconst (1), 3, []), (.iushr, 4, []), (.iconst (1431655765), 5, []), (.iand, 6, []), (.isub, 7, []), (.istore 0, 8, []), (.iload 0, 9, []), (.iconst (858993459), 10, []), (.iand, 11, []), (.iload 0, 12, []), (.iconst (2), 13, []), (.iushr, 14, []), (.iconst (858993459), 15, []), (.iand, 16, []), (.iadd, 17, []), (.istore 0, 18, []), (.iload 0, 19, []), (.iload 0, 20, []), (.iconst (4), 21, []), (.iushr, 22, []), (.iadd, 23, []), (.iconst (252645135), 24, []), (.iand, 25, []), (.istore 0, 26, []), (.iload 0, 27, []), (.iload 0, 28, []), (.iconst (8), 29, []), (.iushr, 30, []), (.iadd, 31, []), (.istore 0, 32, []), (.iload 0, 33, []), (.iload 0, 34, []), (.iconst (16), 35, []), (.iushr, 36, []), (.iadd, 37, []), (.istore 0, 38, []), (.iload 0, 39, []), (.iconst (63), 40, []), (.iand, 41, []), (.ireturn, 42, [0])]
def k_T_init : mCode := [(.aload 0, 1, []), (.invokespecial 0, 2, []), (.aload 0, 3, []), (.iconst (0), 4, []), (.putfield 0, 5, [11, 0]), (.aload 0, 6, []), (.sipush (0), 7, []), (.putfield 1, 8, [11, 1]), (.aload 0, 9, []), (.sipush (1), 10, []), (.putfield 2, 11, [11, 1]), (.aload 0, 12, []), (.iconst (0), 13, []), (.putfield 3, 14, [11, 3]), (.aload 0, 15, []), (.new 9, 16, [3]), (.dup, 17, []), (.invokestatic 332, 18, [1, 0, 0, 1, 10]), (.putfield 4, 19, [11, 2]), (.aload 0, 20, []), (.new 6, 21, [13]), (.dup, 22, []), (.invokestatic 293, 23, [1, 0, 0, 6, 7]), (.putfield 5, 24, [11, 2]), (.aload 0, 25, []), (.new 0, 26, [10]), (.dup, 27, []), (.invokestatic 225, 28, [1, 0, 0, 1, 1]), (.putfield 6, 29, [11, 2]), (.aload 0, 30, []), (.new 0, 31, [10]), (.dup, 32, []), (.invokestatic 225, 33, [1, 0, 0, 1, 1]), (.putfield 7, 34, [11, 2]), (.aload 0, 35, []), (.new 7, 36, [9]), (.dup, 37, []), (.invokestatic 319, 38, [1, 0, 0, 1, 8]), (.putfield 8, 39, [11, 2]), (.aload 0, 40, []), (.new 4, 41, [3]), (.dup, 42, []), (.aload 0, 43, []), (.getfield 5, 44, [11, 2]), (.invokestatic 280, 45, [2, 0, 0, 2, 5]), (.putfield 9, 46, [11, 2]), (.aload 0, 47, []), (.new 8, 48, [4]), (.dup, 49, []), (.aload 0, 50, []), (.getfield 5, 51, [11, 2]), (.invokestatic 323, 52, [2, 0, 0, 2, 9]), (.putfield 10, 53, [11, 2]), (.aload 0, 54, []), (.new 5, 55, [3]), (.dup, 56, []), (.invokestatic 288, 57, [1, 0, 0, 2, 6]), (.putfield 11, 58, [11, 2]), (.aload 0, 59, []), (.new 3, 60, [8]), (.dup, 61, []), (.invokestatic 269, 62, [1, 0, 0, 1, 4]), (.putfield 12, 63, [11, 2]), (.aload 0, 64, []), (.new 3, 65, [8]), (.dup, 66, []), (.invokestatic 269, 67, [1, 0, 0, 1, 4]), (.putfield 13, 68, [11, 2]), (.aload 0, 69, []), (.new 10, 70, [5]), (.dup, 71, []), (.invokestatic 344, 72, [1, 0, 0, 1, 11]), (.putfield 14, 73, [11, 2]), (.aload 0, 74, []), (.new 1, 75, [4]), (.dup, 76, []), (.invokestatic 256, 77, [1, 0, 0, 1, 2]), (.putfield 15, 78, [11, 2]), (.aload 0, 79, []), (.new 2, 80, [2]), (.dup, 81, []), (.invokestatic 264, 82, [1, 0, 0, 1, 3]), (.putfield 16, 83, [11, 2]), (.aload 0, 84, []), (.new 2, 85, [2]), (.dup, 86, []), (.invokestatic 264, 87, [1, 0, 0, 1, 3]), (.putfield 17, 88, [11, 2]), (.aload 0, 89, []), (.iconst (201), 90, []), (.newarray .long, 91, [1]), (.putfield 18, 92, [11, 2]), (.return_, 93, [])]
def k_T_status : mCode := [(.aload 0, 1, []), (.getfield 0, 2, [11, 0]), (.ireturn, 3, [0])]
def k_T_top : mCode := [(.aload 0, 1, []), (.getfield 1, 2, [11, 1]), (.lreturn, 3, [])]
def k_T_bottom : mCode := [(.aload 0, 1, []), (.getfield 2, 2, [11, 1]), (.lreturn, 3, [])]
def k_T_tray : mCode := [(.aload 0, 1, []), (.getfield 4, 2, [11, 2]), (.iload 1, 3, []), (.invokestatic 333, 4, [2, 0, 1, 2, 10]), (.ifCond .eq 0, 5, [0, 15]), (.aload 0, 6, []), (.getfield 4, 7, [11, 2]), (.iload 2, 8, []), (.invokestatic 334, 9, [2, 0, 1, 2, 10]), (.ifCond .eq 0, 10, [0, 15]), (.iload 3, 11, []), (.iconst (0), 12, []), (.iconst (60), 13, []), (.invokestatic 74, 14, [3, 0, 1, 3, 0]), (.ifCond .eq 0, 15, [1, 19]), (.aload 0, 16, []), (.iconst (1), 17, []), (.invokestatic 70, 18, [2, 0, 1, 2, 12]), (.ireturn, 19, [3]), (.aload 0, 20, []), (.getfield 4, 21, [11, 2]), (.iload 1, 22, []), (.iload 2, 23, []), (.iload 3, 24, []), (.invokestatic 339, 25, [4, 0, 0, 5, 10]), (.aload 0, 26, []), (.invokestatic 69, 27, [1, 0, 1, 1, 12]), (.ireturn, 28, [3])]
def k_T_write : mCode := [(.aload 0, 1, []), (.iload 1, 2, []), (.iload 2, 3, []), (.invokestatic 9, 4, [3, 0, 1, 3, 12]), (.istore 5, 5, []), (.iload 5, 6, []), (.ifCond .eq 0, 7, [0, 11]), (.aload 0, 8, []), (.iload 5, 9, []), (.invokestatic 70, 10, [2, 0, 1, 2, 12]), (.ireturn, 11, [3]), (.aload 0, 12, []), (.getfield 4, 13, [11, 2]), (.iload 1, 14, []), (.iload 2, 15, []), (.lload 3, 16, []), (.invokestatic 341, 17, [4, 0, 0, 5, 10]), (.aload 0, 18, []), (.invokestatic 69, 19, [1, 0, 1, 1, 12]), (.ireturn, 20, [3])]
def k_T_read : mCode := [(.aload 0, 1, []), (.iload 1, 2, []), (.iload 2, 3, []), (.invokestatic 9, 4, [3, 0, 1, 3, 12]), (.istore 3, 5, []), (.iload 3, 6, []), (.ifCond .eq 0, 7, [0, 12]), (.aload 0, 8, []), (.iload 3, 9, []), (.invokestatic 68, 10, [2, 0, 1, 2, 12]), (.i2l, 11, []), (.lreturn, 12, []), (.aload 0, 13, []), (.iconst (0), 14, []), (.putfield 0, 15, [11, 0]), (.aload 0, 16, []), (.getfield 4, 17, [11, 2]), (.iload 1, 18, []), (.iload 2, 19, []), (.invokestatic 340, 20, [3, 0, 2, 3, 10]), (.lreturn, 21, [])]
def k_T_pour : mCode := [(.aload 0, 1, []), (.iload 1, 2, []), (.iload 2, 3, []), (.iload 3, 4, []), (.iload 4, 5, []), (.iload 5, 6, []), (.invokestatic 10, 7, [6, 0, 1, 6, 12]), (.istore 6, 8, []), (.iload 6, 9, []), (.ifCond .eq 0, 10, [0, 14]), (.aload 0, 11, []), (.iload 6, 12, []), (.invokestatic 70, 13, [2, 0, 1, 2, 12]), (.ireturn, 14, [3]), (.aload 0, 15, []), (.getfield 4, 16, [11, 2]), (.iload 1, 17, []), (.iload 2, 18, []), (.iload 3, 19, []), (.iload 4, 20, []), (.iload 5, 21, []), (.invokestatic 342, 22, [6, 0, 0, 6, 10]), (.aload 0, 23, []), (.invokestatic 69, 24, [1, 0, 1, 1, 12]), (.ireturn, 25, [3])]
def k_T_placeStatus : mCode := [(.aload 0, 1, []), (.getfield 4, 2, [11, 2]), (.iload 1, 3, []), (.invokestatic 333, 4, [2, 0, 1, 2, 10]), (.ifCond .eq 0, 5, [1, 7]), (.iconst (1), 6, []), (.ireturn, 7, [0]), (.aload 0, 8, []), (.getfield 4, 9, [11, 2]), (.iload 1, 10, []), (.invokestatic 335, 11, [2, 0, 1, 2, 10]), (.ifCond .eq 0, 12, [0, 14]), (.iconst (2), 13, []), (.ireturn, 14, [0]), (.iload 2, 15, []), (.iconst (0), 16, []), (.aload 0, 17, []), (.getfield 4, 18, [11, 2]), (.iload 1, 19, []), (.invokestatic 336, 20, [2, 0, 1, 2, 10]), (.iconst (1), 21, []), (.isub, 22, []), (.invokestatic 74, 23, [3, 0, 1, 3, 0]), (.ifCond .eq 0, 24, [0, 26]), (.iconst (0), 25, []), (.goto 0, 26, [27]), (.iconst (3), 27, []), (.ireturn, 28, [0])]
def k_T_pourStatus : mCode := [(.aload 0, 1, []), (.getfield 4, 2, [11, 2]), (.iload 1, 3, []), (.invokestatic 333, 4, [2, 0, 1, 2, 10]), (.ifCond .eq 0, 5, [0, 16]), (.aload 0, 6, []), (.getfield 4, 7, [11, 2]), (.iload 3, 8, []), (.invokestatic 333, 9, [2, 0, 1, 2, 10]), (.ifCond .eq 0, 10, [0, 16]), (.iload 2, 11, []), (.ifCond .eq 0, 12, [2, 16]), (.iload 4, 13, []), (.ifCond .eq 0, 14, [2, 16]), (.iload 5, 15, []), (.ifCond .eq 0, 16, [3, 18]), (.iconst (1), 17, []), (.ireturn, 18, [0]), (.aload 0, 19, []), (.getfield 4, 20, [11, 2]), (.iload 1, 21, []), (.invokestatic 335, 22, [2, 0, 1, 2, 10]), (.ifCond .eq 0, 23, [1, 28]), (.aload 0, 24, []), (.getfield 4, 25, [11, 2]), (.iload 3, 26, []), (.invokestatic 335, 27, [2, 0, 1, 2, 10]), (.ifCond .eq 0, 28, [0, 30]), (.iconst (2), 29, []), (.ireturn, 30, [0]), (.aload 0, 31, []), (.getfield 4, 32, [11, 2]), (.iload 1, 33, []), (.invokestatic 337, 34, [2, 0, 1, 2, 10]), (.aload 0, 35, []), (.getfield 4, 36, [11, 2]), (.iload 3, 37, []), (.invokestatic 337, 38, [2, 0, 1, 2, 10]), (.if_icmp .eq 0, 39, [0, 41]), (.iconst (8), 40, []), (.ireturn, 41, [0]), (.aload 0, 42, []), (.getfield 4, 43, [11, 2]), (.iload 1, 44, []), (.iload 2, 45, []), (.iload 5, 46, []), (.invokestatic 338, 47, [4, 0, 1, 4, 10]), (.ifCond .eq 0, 48, [0, 57]), (.aload 0, 49, []), (.getfield 4, 50, [11, 2]), (.iload 3, 51, []), (.iload 4, 52, []), (.iload 5, 53, []), (.invokestatic 338, 54, [4, 0, 1, 4, 10]), (.ifCond .eq 0, 55, [0, 57]), (.iconst (0), 56, []), (.goto 0, 57, [58]), (.iconst (3), 58, []), (.ireturn, 59, [0])]
def k_T_feed : mCode := [(.aload 0, 1, []), (.getfield 5, 2, [11, 2]), (.iconst (20), 3, []), (.invokestatic 297, 4, [2, 0, 1, 2, 7]), (.ifCond .eq 0, 5, [1, 7]), (.iconst (-1), 6, []), (.ireturn, 7, [0]), (.aload 0, 8, []), (.getfield 5, 9, [11, 2]), (.iload 1, 10, []), (.invokestatic 298, 11, [2, 0, 0, 3, 7]), (.aload 0, 12, []), (.getfield 5, 13, [11, 2]), (.iload 2, 14, []), (.invokestatic 298, 15, [2, 0, 0, 3, 7]), (.aload 0, 16, []), (.getfield 5, 17, [11, 2]), (.iload 3, 18, []), (.invokestatic 298, 19, [2, 0, 0, 3, 7]), (.aload 0, 20, []), (.getfield 5, 21, [11, 2]), (.iload 4, 22, []), (.invokestatic 298, 23, [2, 0, 0, 3, 7]), (.aload 0, 24, []), (.getfield 5, 25, [11, 2]), (.iload 5, 26, []), (.invokestatic 298, 27, [2, 0, 0, 3, 7]), (.aload 0, 28, []), (.getfield 5, 29, [11, 2]), (.invokestatic 294, 30, [1, 0, 1, 1, 7]), (.ireturn, 31, [0])]
def k_T_map : mCode := [(.iload 1, 1, []), (.iconst (0), 2, []), (.aload 0, 3, []), (.getfield 5, 4, [11, 2]), (.invokestatic 294, 5, [1, 0, 1, 1, 7]), (.invokestatic 74, 6, [3, 0, 1, 3, 0]), (.ifCond .eq 0, 7, [1, 11]), (.aload 0, 8, []), (.iconst (1), 9, []), (.invokestatic 68, 10, [2, 0, 1, 2, 12]), (.ireturn, 11, [0]), (.aload 0, 12, []), (.getfield 9, 13, [11, 2]), (.iload 1, 14, []), (.invokestatic 282, 15, [2, 0, 1, 3, 5]), (.istore 2, 16, []), (.aload 0, 17, []), (.getfield 5, 18, [11, 2]), (.invokestatic 299, 19, [1, 0, 0, 1, 7]), (.iload 2, 20, []), (.ifCond .eq 0, 21, [1, 25]), (.aload 0, 22, []), (.iconst (9), 23, []), (.invokestatic 68, 24, [2, 0, 1, 2, 12]), (.ireturn, 25, [0]), (.aload 0, 26, []), (.getfield 6, 27, [11, 2]), (.aload 0, 28, []), (.getfield 9, 29, [11, 2]), (.invokestatic 281, 30, [1, 0, 3, 1, 5]), (.invokestatic 227, 31, [2, 0, 0, 2, 1]), (.aload 0, 32, []), (.getfield 8, 33, [11, 2]), (.invokestatic 320, 34, [1, 0, 0, 1, 8]), (.aload 0, 35, []), (.aload 0, 36, []), (.getfield 6, 37, [11, 2]), (.getfield 0, 38, [0, 0]), (.invokestatic 67, 39, [2, 0, 1, 2, 12]), (.ireturn, 40, [0])]
def k_T_times : mCode := [(.iload 1, 1, []), (.iconst (0), 2, []), (.aload 0, 3, []), (.getfield 5, 4, [11, 2]), (.invokestatic 294, 5, [1, 0, 1, 1, 7]), (.invokestatic 74, 6, [3, 0, 1, 3, 0]), (.ifCond .eq 0, 7, [0, 10]), (.iload 1, 8, []), (.iconst (300), 9, []), (.if_icmp .eq 0, 10, [5, 14]), (.aload 0, 11, []), (.iconst (1), 12, []), (.invokestatic 68, 13, [2, 0, 1, 2, 12]), (.ireturn, 14, [0]), (.aload 0, 15, []), (.getfield 10, 16, [11, 2]), (.iload 1, 17, []), (.aload 0, 18, []), (.getfield 6, 19, [11, 2]), (.invokestatic 325, 20, [3, 0, 1, 4, 9]), (.istore 2, 21, []), (.aload 0, 22, []), (.getfield 5, 23, [11, 2]), (.invokestatic 299, 24, [1, 0, 0, 1, 7]), (.iload 2, 25, []), (.ifCond .eq 0, 26, [1, 30]), (.aload 0, 27, []), (.iconst (9), 28, []), (.invokestatic 68, 29, [2, 0, 1, 2, 12]), (.ireturn, 30, [0]), (.aload 0, 31, []), (.getfield 8, 32, [11, 2]), (.aload 0, 33, []), (.getfield 10, 34, [11, 2]), (.invokestatic 324, 35, [1, 0, 3, 1, 9]), (.invokestatic 322, 36, [2, 0, 0, 2, 8]), (.aload 0, 37, []), (.aload 0, 38, []), (.getfield 8, 39, [11, 2]), (.getfield 7, 40, [7, 0]), (.invokestatic 67, 41, [2, 0, 1, 2, 12]), (.ireturn, 42, [0])]
def k_T_fault : mCode := [(.iload 1, 1, []), (.ifCond .eq 0, 2, [1, 6]), (.aload 0, 3, []), (.getfield 5, 4, [11, 2]), (.invokestatic 295, 5, [1, 0, 1, 1, 7]), (.ireturn, 6, [0]), (.iload 1, 7, []), (.iconst (1), 8, []), (.if_icmp .eq 0, 9, [1, 13]), (.aload 0, 10, []), (.getfield 5, 11, [11, 2]), (.invokestatic 296, 12, [1, 0, 1, 1, 7]), (.goto 0, 13, [14]), (.iconst (-1), 14, []), (.ireturn, 15, [0])]
def k_T_told : mCode := [(.iload 1, 1, []), (.iconst (1), 2, []), (.if_icmp .eq 0, 3, [2, 14]), (.iload 1, 4, []), (.iconst (6), 5, []), (.if_icmp .eq 0, 6, [4, 14]), (.aload 0, 7, []), (.aload 0, 8, []), (.getfield 6, 9, [11, 2]), (.getfield 2, 10, [0, 2]), (.iload 1, 11, []), (.iaload, 12, []), (.invokestatic 67, 13, [2, 0, 1, 2, 12]), (.ireturn, 14, [0]), (.iload 1, 15, []), (.tableswitch 0 (0) 0 #[], 16, [52, 16, 52, 52, 52, 52, 52, 52, 22, 28, 34, 40, 46]), (.aload 0, 17, []), (.aload 0, 18, []), (.getfield 6, 19, [11, 2]), (.getfield 0, 20, [0, 0]), (.invokestatic 67, 21, [2, 0, 1, 2, 12]), (.ireturn, 22, [0]), (.aload 0, 23, []), (.aload 0, 24, []), (.getfield 6, 25, [11, 2]), (.getfield 1, 26, [0, 0]), (.invokestatic 67, 27, [2, 0, 1, 2, 12]), (.ireturn, 28, [0]), (.aload 0, 29, []), (.aload 0, 30, []), (.getfield 6, 31, [11, 2]), (.invokestatic 236, 32, [1, 0, 1, 3, 1]), (.invokestatic 67, 33, [2, 0, 1, 2, 12]), (.ireturn, 34, [0]), (.aload 0, 35, []), (.aload 0, 36, []), (.getfield 6, 37, [11, 2]), (.invokestatic 237, 38, [1, 0, 1, 3, 1]), (.invokestatic 67, 39, [2, 0, 1, 2, 12]), (.ireturn, 40, [0]), (.aload 0, 41, []), (.aload 0, 42, []), (.getfield 6, 43, [11, 2]), (.invokestatic 239, 44, [1, 0, 1, 3, 1]), (.invokestatic 67, 45, [2, 0, 1, 2, 12]), (.ireturn, 46, [0]), (.aload 0, 47, []), (.aload 0, 48, []), (.getfield 6, 49, [11, 2]), (.invokestatic 240, 50, [1, 0, 1, 3, 1]), (.invokestatic 67, 51, [2, 0, 1, 2, 12]), (.ireturn, 52, [0]), (.aload 0, 53, []), (.iconst (1), 54, []), (.invokestatic 68, 55, [2, 0, 1, 2, 12]), (.ireturn, 56, [0])]
def k_T_person : mCode := [(.aload 0, 1, []), (.getfield 6, 2, [11, 2]), (.iload 1, 3, []), (.invokestatic 228, 4, [2, 0, 1, 2, 1]), (.ifCond .eq 0, 5, [0, 10]), (.iload 2, 6, []), (.iconst (0), 7, []), (.iconst (6), 8, []), (.invokestatic 74, 9, [3, 0, 1, 3, 0]), (.ifCond .eq 0, 10, [1, 14]), (.aload 0, 11, []), (.iconst (1), 12, []), (.invokestatic 68, 13, [2, 0, 1, 2, 12]), (.ireturn, 14, [0]), (.iload 2, 15, []), (.iconst (4), 16, []), (.if_icmp .eq 0, 17, [0, 20]), (.iload 2, 18, []), (.iconst (5), 19, []), (.if_icmp .eq 0, 20, [1, 22]), (.iconst (1), 21, []), (.goto 0, 22, [23]), (.iconst (0), 23, []), (.istore 3, 24, []), (.iload 3, 25, []), (.ifCond .eq 0, 26, [0, 35]), (.aload 0, 27, []), (.getfield 6, 28, [11, 2]), (.iload 1, 29, []), (.invokestatic 232, 30, [2, 0, 1, 2, 1]), (.ifCond .eq 0, 31, [1, 35]), (.aload 0, 32, []), (.iconst (6), 33, []), (.invokestatic 68, 34, [2, 0, 1, 2, 12]), (.ireturn, 35, [0]), (.iload 2, 36, []), (.tableswitch 0 (0) 0 #[], 37, [84, 37, 45, 53, 61, 69, 77]), (.aload 0, 38, []), (.aload 0, 39, []), (.getfield 6, 40, [11, 2]), (.getfield 3, 41, [0, 2]), (.iload 1, 42, []), (.iaload, 43, []), (.invokestatic 67, 44, [2, 0, 1, 2, 12]), (.ireturn, 45, [0]), (.aload 0, 46, []), (.aload 0, 47, []), (.getfield 6, 48, [11, 2]), (.getfield 4, 49, [0, 2]), (.iload 1, 50, []), (.iaload, 51, []), (.invokestatic 67, 52, [2, 0, 1, 2, 12]), (.ireturn, 53, [0]), (.aload 0, 54, []), (.aload 0, 55, []), (.getfield 6, 56, [11, 2]), (.getfield 5, 57, [0, 2]), (.iload 1, 58, []), (.iaload, 59, []), (.invokestatic 67, 60, [2, 0, 1, 2, 12]), (.ireturn, 61, [0]), (.aload 0, 62, []), (.aload 0, 63, []), (.getfield 6, 64, [11, 2]), (.getfield 6, 65, [0, 2]), (.iload 1, 66, []), (.iaload, 67, []), (.invokestatic 67, 68, [2, 0, 1, 2, 12]), (.ireturn, 69, [0]), (.aload 0, 70, []), (.aload 0, 71, []), (.getfield 6, 72, [11, 2]), (.getfield 7, 73, [0, 2]), (.iload 1, 74, []), (.iaload, 75, []), (.invokestatic 67, 76, [2, 0, 1, 2, 12]), (.ireturn, 77, [0]), (.aload 0, 78, []), (.aload 0, 79, []), (.getfield 6, 80, [11, 2]), (.iload 1, 81, []), (.invokestatic 234, 82, [2, 0, 1, 3, 1]), (.invokestatic 67, 83, [2, 0, 1, 2, 12]), (.ireturn, 84, [0]), (.aload 0, 85, []), (.aload 0, 86, []), (.getfield 6, 87, [11, 2]), (.iload 1, 88, []), (.invokestatic 238, 89, [2, 0, 1, 4, 1]), (.invokestatic 67, 90, [2, 0, 1, 2, 12]), (.ireturn, 91, [0])]
def k_T_far : mCode := [(.aload 0, 1, []), (.getfield 6, 2, [11, 2]), (.iload 1, 3, []), (.invokestatic 228, 4, [2, 0, 1, 2, 1]), (.ifCond .eq 0, 5, [0, 10]), (.aload 0, 6, []), (.getfield 6, 7, [11, 2]), (.iload 2, 8, []), (.invokestatic 228, 9, [2, 0, 1, 2, 1]), (.ifCond .eq 0, 10, [1, 14]), (.aload 0, 11, []), (.iconst (1), 12, []), (.invokestatic 68, 13, [2, 0, 1, 2, 12]), (.ireturn, 14, [0]), (.aload 0, 15, []), (.aload 0, 16, []), (.getfield 6, 17, [11, 2]), (.iload 1, 18, []), (.iload 2, 19, []), (.invokestatic 233, 20, [3, 0, 1, 3, 1]), (.invokestatic 67, 21, [2, 0, 1, 2, 12]), (.ireturn, 22, [0])]
def k_T_drink : mCode := [(.aload 0, 1, []), (.getfield 6, 2, [11, 2]), (.iload 1, 3, []), (.invokestatic 228, 4, [2, 0, 1, 2, 1]), (.ifCond .eq 0, 5, [1, 9]), (.aload 0, 6, []), (.iconst (1), 7, []), (.invokestatic 68, 8, [2, 0, 1, 2, 12]), (.ireturn, 9, [0]), (.aload 0, 10, []), (.getfield 6, 11, [11, 2]), (.iload 1, 12, []), (.invokestatic 242, 13, [2, 0, 1, 2, 1]), (.ifCond .eq 0, 14, [1, 18]), (.aload 0, 15, []), (.iconst (7), 16, []), (.invokestatic 68, 17, [2, 0, 1, 2, 12]), (.ireturn, 18, [0]), (.aload 0, 19, []), (.aload 0, 20, []), (.getfield 6, 21, [11, 2]), (.iload 1, 22, []), (.invokestatic 243, 23, [2, 0, 1, 4, 1]), (.invokestatic 67, 24, [2, 0, 1, 2, 12]), (.ireturn, 25, [0])]
def k_T_night : mCode := [(.iload 1, 1, []), (.iconst (1), 2, []), (.iconst (99), 3, []), (.invokestatic 74, 4, [3, 0, 1, 3, 0]), (.ifCond .eq 0, 5, [1, 9]), (.aload 0, 6, []), (.iconst (1), 7, []), (.invokestatic 68, 8, [2, 0, 1, 2, 12]), (.ireturn, 9, [0]), (.aload 0, 10, []), (.getfield 6, 11, [11, 2]), (.iload 1, 12, []), (.invokestatic 244, 13, [2, 0, 1, 2, 1]), (.ifCond .eq 0, 14, [1, 18]), (.aload 0, 15, []), (.iconst (4), 16, []), (.invokestatic 68, 17, [2, 0, 1, 2, 12]), (.ireturn, 18, [0]), (.aload 0, 19, []), (.getfield 6, 20, [11, 2]), (.iload 1, 21, []), (.invokestatic 246, 22, [2, 0, 0, 3, 1]), (.aload 0, 23, []), (.aload 0, 24, []), (.getfield 6, 25, [11, 2]), (.invokestatic 236, 26, [1, 0, 1, 3, 1]), (.invokestatic 67, 27, [2, 0, 1, 2, 12]), (.ireturn, 28, [0])]
def k_T_evening : mCode := [(.aload 0, 1, []), (.getfield 6, 2, [11, 2]), (.iconst (1), 3, []), (.invokestatic 244, 4, [2, 0, 1, 2, 1]), (.ifCond .eq 0, 5, [1, 9]), (.aload 0, 6, []), (.iconst (4), 7, []), (.invokestatic 68, 8, [2, 0, 1, 2, 12]), (.ireturn, 9, [0]), (.aload 0, 10, []), (.aload 0, 11, []), (.getfield 6, 12, [11, 2]), (.iconst (-1), 13, []), (.invokestatic 247, 14, [2, 0, 1, 4, 1]), (.invokestatic 67, 15, [2, 0, 1, 2, 12]), (.ireturn, 16, [0])]
def k_T_fill : mCode := [(.aload 0, 1, []), (.getfield 6, 2, [11, 2]), (.iload 1, 3, []), (.invokestatic 228, 4, [2, 0, 1, 2, 1]), (.ifCond .eq 0, 5, [0, 10]), (.iload 2, 6, []), (.iconst (0), 7, []), (.iconst (9), 8, []), (.invokestatic 74, 9, [3, 0, 1, 3, 0]), (.ifCond .eq 0, 10, [1, 14]), (.aload 0, 11, []), (.iconst (1), 12, []), (.invokestatic 68, 13, [2, 0, 1, 2, 12]), (.ireturn, 14, [0]), (.aload 0, 15, []), (.getfield 6, 16, [11, 2]), (.getfield 6, 17, [0, 2]), (.iload 1, 18, []), (.iaload, 19, []), (.istore 3, 20, []), (.aload 0, 21, []), (.getfield 6, 22, [11, 2]), (.getfield 6, 23, [0, 2]), (.iload 1, 24, []), (.iload 2, 25, []), (.iastore, 26, []), (.aload 0, 27, []), (.iload 3, 28, []), (.invokestatic 67, 29, [2, 0, 1, 2, 12]), (.ireturn, 30, [0])]
def k_T_means : mCode := [(.aload 0, 1, []), (.getfield 6, 2, [11, 2]), (.iload 1, 3, []), (.invokestatic 228, 4, [2, 0, 1, 2, 1]), (.ifCond .eq 0, 5, [0, 10]), (.iload 2, 6, []), (.iconst (0), 7, []), (.iconst (9), 8, []), (.invokestatic 74, 9, [3, 0, 1, 3, 0]), (.ifCond .eq 0, 10, [1, 14]), (.aload 0, 11, []), (.iconst (1), 12, []), (.invokestatic 68, 13, [2, 0, 1, 2, 12]), (.ireturn, 14, [0]), (.aload 0, 15, []), (.getfield 6, 16, [11, 2]), (.getfield 4, 17, [0, 2]), (.iload 1, 18, []), (.iaload, 19, []), (.istore 3, 20, []), (.aload 0, 21, []), (.getfield 6, 22, [11, 2]), (.getfield 4, 23, [0, 2]), (.iload 1, 24, []), (.iload 2, 25, []), (.iastore, 26, []), (.aload 0, 27, []), (.iload 3, 28, []), (.invokestatic 67, 29, [2, 0, 1, 2, 12]), (.ireturn, 30, [0])]
def k_T_move : mCode := [(.aload 0, 1, []), (.getfield 6, 2, [11, 2]), (.iload 1, 3, []), (.invokestatic 228, 4, [2, 0, 1, 2, 1]), (.ifCond .eq 0, 5, [0, 10]), (.iload 2, 6, []), (.iconst (0), 7, []), (.iconst (59), 8, []), (.invokestatic 74, 9, [3, 0, 1, 3, 0]), (.ifCond .eq 0, 10, [1, 14]), (.aload 0, 11, []), (.iconst (1), 12, []), (.invokestatic 68, 13, [2, 0, 1, 2, 12]), (.ireturn, 14, [0]), (.aload 0, 15, []), (.getfield 6, 16, [11, 2]), (.getfield 3, 17, [0, 2]), (.iload 1, 18, []), (.iaload, 19, []), (.istore 3, 20, []), (.aload 0, 21, []), (.getfield 6, 22, [11, 2]), (.getfield 3, 23, [0, 2]), (.iload 1, 24, []), (.iload 2, 25, []), (.iastore, 26, []), (.aload 0, 27, []), (.iload 3, 28, []), (.invokestatic 67, 29, [2, 0, 1, 2, 12]), (.ireturn, 30, [0])]
def k_T_aim : mCode := [(.aload 0, 1, []), (.iload 1, 2, []), (.iload 2, 3, []), (.invokestatic 73, 4, [3, 0, 1, 3, 12]), (.ifCond .eq 0, 5, [1, 9]), (.aload 0, 6, []), (.iconst (1), 7, []), (.invokestatic 68, 8, [2, 0, 1, 2, 12]), (.ireturn, 9, [0]), (.aload 0, 10, []), (.getfield 6, 11, [11, 2]), (.getfield 7, 12, [0, 2]), (.iload 1, 13, []), (.iaload, 14, []), (.istore 3, 15, []), (.iload 3, 16, []), (.iload 2, 17, []), (.if_icmp .eq 0, 18, [1, 22]), (.aload 0, 19, []), (.iconst (7), 20, []), (.invokestatic 68, 21, [2, 0, 1, 2, 12]), (.ireturn, 22, [0]), (.aload 0, 23, []), (.getfield 6, 24, [11, 2]), (.getfield 7, 25, [0, 2]), (.iload 1, 26, []), (.iload 2, 27, []), (.iastore, 28, []), (.aload 0, 29, []), (.iload 3, 30, []), (.iconst (-1), 31, []), (.if_icmp .eq 0, 32, [1, 36]), (.aload 0, 33, []), (.getfield 6, 34, [11, 2]), (.getfield 0, 35, [0, 0]), (.goto 0, 36, [37]), (.iload 3, 37, []), (.invokestatic 67, 38, [2, 0, 1, 2, 12]), (.ireturn, 39, [0])]
def k_T_come : mCode := [(.iload 1, 1, []), (.iconst (0), 2, []), (.iconst (59), 3, []), (.invokestatic 74, 4, [3, 0, 1, 3, 0]), (.ifCond .eq 0, 5, [1, 9]), (.aload 0, 6, []), (.iconst (1), 7, []), (.invokestatic 68, 8, [2, 0, 1, 2, 12]), (.ireturn, 9, [0]), (.aload 0, 10, []), (.getfield 6, 11, [11, 2]), (.invokestatic 229, 12, [1, 0, 1, 1, 1]), (.ifCond .eq 0, 13, [0, 17]), (.aload 0, 14, []), (.iconst (4), 15, []), (.invokestatic 68, 16, [2, 0, 1, 2, 12]), (.ireturn, 17, [0]), (.aload 0, 18, []), (.aload 0, 19, []), (.getfield 6, 20, [11, 2]), (.iload 1, 21, []), (.sipush (0), 22, []), (.invokestatic 230, 23, [3, 0, 1, 5, 1]), (.invokestatic 67, 24, [2, 0, 1, 2, 12]), (.ireturn, 25, [0])]
def k_T_rule : mCode := [(.iload 1, 1, []), (.iconst (1), 2, []), (.iconst (6), 3, []), (.invokestatic 74, 4, [3, 0, 1, 3, 0]), (.ifCond .eq 0, 5, [0, 14]), (.iload 2, 6, []), (.ldc 2, 7, []), (.iload 1, 8, []), (.iaload, 9, []), (.ldc 3, 10, []), (.iload 1, 11, []), (.iaload, 12, []), (.invokestatic 74, 13, [3, 0, 1, 3, 0]), (.ifCond .eq 0, 14, [1, 18]), (.aload 0, 15, []), (.iconst (1), 16, []), (.invokestatic 70, 17, [2, 0, 1, 2, 12]), (.ireturn, 18, [3]), (.aload 0, 19, []), (.getfield 6, 20, [11, 2]), (.getfield 2, 21, [0, 2]), (.iload 1, 22, []), (.iload 2, 23, []), (.iastore, 24, []), (.aload 0, 25, []), (.invokestatic 69, 26, [1, 0, 1, 1, 12]), (.ireturn, 27, [3])]
def k_T_warmIn : mCode := [(.aload 0, 1, []), (.getfield 6, 2, [11, 2]), (.iload 1, 3, []), (.invokestatic 228, 4, [2, 0, 1, 2, 1]), (.ifCond .eq 0, 5, [0, 10]), (.iload 2, 6, []), (.iconst (0), 7, []), (.iconst (60), 8, []), (.invokestatic 74, 9, [3, 0, 1, 3, 0]), (.ifCond .eq 0, 10, [1, 14]), (.aload 0, 11, []), (.iconst (1), 12, []), (.invokestatic 68, 13, [2, 0, 1, 2, 12]), (.ireturn, 14, [0]), (.aload 0, 15, []), (.aload 0, 16, []), (.getfield 6, 17, [11, 2]), (.iload 1, 18, []), (.iload 2, 19, []), (.invokestatic 245, 20, [3, 0, 1, 3, 1]), (.invokestatic 67, 21, [2, 0, 1, 2, 12]), (.ireturn, 22, [0])]
def k_T_darkIn : mCode := [(.aload 0, 1, []), (.getfield 6, 2, [11, 2]), (.iload 1, 3, []), (.invokestatic 228, 4, [2, 0, 1, 2, 1]), (.ifCond .eq 0, 5, [1, 9]), (.aload 0, 6, []), (.iconst (1), 7, []), (.invokestatic 68, 8, [2, 0, 1, 2, 12]), (.ireturn, 9, [0]), (.iconst (0), 10, []), (.istore 2, 11, []), (.iload 2, 12, []), (.iconst (99), 13, []), (.if_icmp .eq 0, 14, [4, 31]), (.aload 0, 15, []), (.getfield 6, 16, [11, 2]), (.iload 1, 17, []), (.iload 2, 18, []), (.invokestatic 245, 19, [3, 0, 1, 3, 1]), (.aload 0, 20, []), (.getfield 6, 21, [11, 2]), (.getfield 2, 22, [0, 2]), (.iconst (3), 23, []), (.iaload, 24, []), (.if_icmp .eq 0, 25, [3, 29]), (.aload 0, 26, []), (.iload 2, 27, []), (.invokestatic 67, 28, [2, 0, 1, 2, 12]), (.ireturn, 29, [0]), (.iinc 2 (1), 30, []), (.goto 0, 31, [11]), (.aload 0, 32, []), (.iconst (6), 33, []), (.invokestatic 68, 34, [2, 0, 1, 2, 12]), (.ireturn, 35, [0])]
def k_T_eveningIn : mCode := [(.aload 0, 1, []), (.getfield 6, 2, [11, 2]), (.iload 1, 3, []), (.invokestatic 228, 4, [2, 0, 1, 2, 1]), (.ifCond .eq 0, 5, [0, 10]), (.iload 2, 6, []), (.iconst (0), 7, []), (.iconst (60), 8, []), (.invokestatic 74, 9, [3, 0, 1, 3, 0]), (.ifCond .eq 0, 10, [1, 14]), (.aload 0, 11, []), (.iconst (1), 12, []), (.invokestatic 68, 13, [2, 0, 1, 2, 12]), (.ireturn, 14, [0]), (.aload 0, 15, []), (.iload 2, 16, []), (.invokestatic 33, 17, [2, 0, 0, 3, 12]), (.aload 0, 18, []), (.aload 0, 19, []), (.getfield 7, 20, [11, 2]), (.getfield 5, 21, [0, 2]), (.iload 1, 22, []), (.iaload, 23, []), (.invokestatic 67, 24, [2, 0, 1, 2, 12]), (.ireturn, 25, [0])]
def k_T_litIn : mCode := [(.iload 1, 1, []), (.iconst (0), 2, []), (.iconst (60), 3, []), (.invokestatic 74, 4, [3, 0, 1, 3, 0]), (.ifCond .eq 0, 5, [1, 9]), (.aload 0, 6, []), (.iconst (1), 7, []), (.invokestatic 68, 8, [2, 0, 1, 2, 12]), (.ireturn, 9, [0]), (.aload 0, 10, []), (.iload 1, 11, []), (.invokestatic 33, 12, [2, 0, 0, 3, 12]), (.aload 0, 13, []), (.aload 0, 14, []), (.getfield 7, 15, [11, 2]), (.invokestatic 236, 16, [1, 0, 1, 3, 1]), (.invokestatic 67, 17, [2, 0, 1, 2, 12]), (.ireturn, 18, [0])]
def k_T_settles : mCode := [(.aload 0, 1, []), (.invokestatic 34, 2, [1, 0, 1, 2, 12]), (.istore 1, 3, []), (.iload 1, 4, []), (.iconst (-1), 5, []), (.if_icmp .eq 0, 6, [1, 10]), (.aload 0, 7, []), (.iconst (6), 8, []), (.invokestatic 68, 9, [2, 0, 1, 2, 12]), (.goto 0, 10, [15]), (.aload 0, 11, []), (.aload 0, 12, []), (.iload 1, 13, []), (.invokestatic 35, 14, [2, 0, 1, 3, 12]), (.invokestatic 67, 15, [2, 0, 1, 2, 12]), (.ireturn, 16, [0])]
def k_T_period : mCode := [(.aload 0, 1, []), (.invokestatic 34, 2, [1, 0, 1, 2, 12]), (.istore 1, 3, []), (.iload 1, 4, []), (.iconst (-1), 5, []), (.if_icmp .eq 0, 6, [1, 10]), (.aload 0, 7, []), (.iconst (6), 8, []), (.invokestatic 68, 9, [2, 0, 1, 2, 12]), (.goto 0, 10, [13]), (.aload 0, 11, []), (.iload 1, 12, []), (.invokestatic 67, 13, [2, 0, 1, 2, 12]), (.ireturn, 14, [0])]
def k_T_lookAhead : mCode := [(.aload 0, 1, []), (.getfield 7, 2, [11, 2]), (.aload 0, 3, []), (.getfield 6, 4, [11, 2]), (.invokestatic 227, 5, [2, 0, 0, 2, 1]), (.iconst (0), 6, []), (.istore 2, 7, []), (.iload 2, 8, []), (.iload 1, 9, []), (.if_icmp .eq 0, 10, [3, 17]), (.aload 0, 11, []), (.getfield 7, 12, [11, 2]), (.iconst (-1), 13, []), (.invokestatic 247, 14, [2, 0, 1, 4, 1]), (.pop, 15, []), (.iinc 2 (1), 16, []), (.goto 0, 17, [7]), (.return_, 18, [])]
def k_T_findPeriod : mCode := [(.aload 0, 1, []), (.getfield 7, 2, [11, 2]), (.aload 0, 3, []), (.getfield 6, 4, [11, 2]), (.invokestatic 227, 5, [2, 0, 0, 2, 1]), (.aload 0, 6, []), (.getfield 18, 7, [11, 2]), (.iconst (0), 8, []), (.aload 0, 9, []), (.getfield 7, 10, [11, 2]), (.invokestatic 241, 11, [1, 0, 2, 4, 1]), (.lastore, 12, []), (.iconst (1), 13, []), (.istore 1, 14, []), (.iload 1, 15, []), (.iconst (200), 16, []), (.if_icmp .eq 0, 17, [4, 31]), (.aload 0, 18, []), (.getfield 7, 19, [11, 2]), (.iconst (-1), 20, []), (.invokestatic 247, 21, [2, 0, 1, 4, 1]), (.pop, 22, []), (.aload 0, 23, []), (.getfield 18, 24, [11, 2]), (.iload 1, 25, []), (.aload 0, 26, []), (.getfield 7, 27, [11, 2]), (.invokestatic 241, 28, [1, 0, 2, 4, 1]), (.lastore, 29, []), (.iinc 1 (1), 30, []), (.goto 0, 31, [14]), (.iconst (199), 32, []), (.istore 1, 33, []), (.iload 1, 34, []), (.ifCond .eq 0, 35, [2, 51]), (.aload 0, 36, []), (.getfield 18, 37, [11, 2]), (.iload 1, 38, []), (.laload, 39, []), (.aload 0, 40, []), (.getfield 18, 41, [11, 2]), (.iconst (200), 42, []), (.laload, 43, []), (.lcmp, 45, [1, 49]), (.ifCond .eq 0, 45, [1, 49]), (.iconst (200), 46, []), (.iload 1, 47, []), (.isub, 48, []), (.ireturn, 49, [0]), (.iinc 1 (-1), 50, []), (.goto 0, 51, [33]), (.iconst (-1), 52, []), (.ireturn, 53, [0])]
def k_T_firstSettled : mCode := [(.iconst (0), 1, []), (.istore 2, 2, []), (.iload 2, 3, []), (.iload 1, 4, []), (.iadd, 5, []), (.iconst (200), 6, []), (.if_icmp .eq 0, 7, [3, 21]), (.aload 0, 8, []), (.getfield 18, 9, [11, 2]), (.iload 2, 10, []), (.laload, 11, []), (.aload 0, 12, []), (.getfield 18, 13, [11, 2]), (.iload 2, 14, []), (.iload 1, 15, []), (.iadd, 16, []), (.laload, 17, []), (.lcmp, 19, [0, 21]), (.ifCond .eq 0, 19, [0, 21]), (.iinc 2 (1), 20, []), (.goto 0, 21, [2]), (.iload 2, 22, []), (.ireturn, 23, [0])]
def k_T_chain : mCode := [(.aload 0, 1, []), (.getfield 6, 2, [11, 2]), (.iload 1, 3, []), (.invokestatic 228, 4, [2, 0, 1, 2, 1]), (.ifCond .eq 0, 5, [1, 9]), (.aload 0, 6, []), (.iconst (1), 7, []), (.invokestatic 68, 8, [2, 0, 1, 2, 12]), (.ireturn, 9, [0]), (.aload 0, 10, []), (.aload 0, 11, []), (.getfield 6, 12, [11, 2]), (.iload 1, 13, []), (.invokestatic 248, 14, [2, 0, 1, 5, 1]), (.invokestatic 67, 15, [2, 0, 1, 2, 12]), (.ireturn, 16, [0])]
def k_T_chainAt : mCode := [(.aload 0, 1, []), (.getfield 6, 2, [11, 2]), (.iload 1, 3, []), (.invokestatic 228, 4, [2, 0, 1, 2, 1]), (.ifCond .eq 0, 5, [0, 7]), (.iload 2, 6, []), (.ifCond .eq 0, 7, [3, 11]), (.aload 0, 8, []), (.iconst (1), 9, []), (.invokestatic 68, 10, [2, 0, 1, 2, 12]), (.ireturn, 11, [0]), (.iload 2, 12, []), (.aload 0, 13, []), (.getfield 6, 14, [11, 2]), (.iload 1, 15, []), (.invokestatic 248, 16, [2, 0, 1, 5, 1]), (.if_icmp .eq 0, 17, [2, 21]), (.aload 0, 18, []), (.iconst (6), 19, []), (.invokestatic 68, 20, [2, 0, 1, 2, 12]), (.ireturn, 21, [0]), (.aload 0, 22, []), (.aload 0, 23, []), (.getfield 6, 24, [11, 2]), (.iload 1, 25, []), (.iload 2, 26, []), (.invokestatic 249, 27, [3, 0, 1, 5, 1]), (.invokestatic 67, 28, [2, 0, 1, 2, 12]), (.ireturn, 29, [0])]
def k_T_rings : mCode := [(.iconst (0), 1, []), (.istore 1, 2, []), (.iconst (0), 3, []), (.istore 2, 4, []), (.iload 2, 5, []), (.aload 0, 6, []), (.getfield 6, 7, [11, 2]), (.getfield 0, 8, [0, 0]), (.if_icmp .eq 0, 9, [3, 17]), (.aload 0, 10, []), (.getfield 6, 11, [11, 2]), (.iload 2, 12, []), (.invokestatic 251, 13, [2, 0, 1, 4, 1]), (.ifCond .eq 0, 14, [0, 15]), (.iinc 1 (1), 15, []), (.iinc 2 (1), 16, []), (.goto 0, 17, [4]), (.aload 0, 18, []), (.iload 1, 19, []), (.invokestatic 67, 20, [2, 0, 1, 2, 12]), (.ireturn, 21, [0])]
def k_T_inRings : mCode := [(.iconst (0), 1, []), (.istore 1, 2, []), (.iconst (0), 3, []), (.istore 2, 4, []), (.iload 2, 5, []), (.aload 0, 6, []), (.getfield 6, 7, [11, 2]), (.getfield 0, 8, [0, 0]), (.if_icmp .eq 0, 9, [3, 22]), (.aload 0, 10, []), (.getfield 6, 11, [11, 2]), (.iload 2, 12, []), (.invokestatic 250, 13, [2, 0, 1, 4, 1]), (.ifCond .eq 0, 14, [0, 20]), (.iload 1, 15, []), (.iconst (1), 16, []), (.iload 2, 17, []), (.ishl, 18, []), (.ior, 19, []), (.istore 1, 20, []), (.iinc 2 (1), 21, []), (.goto 0, 22, [4]), (.aload 0, 23, []), (.iload 1, 24, []), (.invokestatic 67, 25, [2, 0, 1, 2, 12]), (.ireturn, 26, [0])]
def k_T_needs : mCode := [(.aload 0, 1, []), (.getfield 6, 2, [11, 2]), (.iload 1, 3, []), (.invokestatic 228, 4, [2, 0, 1, 2, 1]), (.ifCond .eq 0, 5, [1, 9]), (.aload 0, 6, []), (.iconst (1), 7, []), (.invokestatic 68, 8, [2, 0, 1, 2, 12]), (.ireturn, 9, [0]), (.aload 0, 10, []), (.getfield 6, 11, [11, 2]), (.iload 1, 12, []), (.invokestatic 252, 13, [2, 0, 1, 9, 1]), (.istore 2, 14, []), (.iload 2, 15, []), (.iconst (-1), 16, []), (.if_icmp .eq 0, 17, [1, 21]), (.aload 0, 18, []), (.iconst (6), 19, []), (.invokestatic 68, 20, [2, 0, 1, 2, 12]), (.goto 0, 21, [24]), (.aload 0, 22, []), (.iload 2, 23, []), (.invokestatic 67, 24, [2, 0, 1, 2, 12]), (.ireturn, 25, [0])]
def k_T_most : mCode := [(.iload 1, 1, []), (.iconst (0), 2, []), (.iconst (20), 3, []), (.invokestatic 74, 4, [3, 0, 1, 3, 0]), (.ifCond .eq 0, 5, [1, 9]), (.aload 0, 6, []), (.iconst (1), 7, []), (.invokestatic 68, 8, [2, 0, 1, 2, 12]), (.ireturn, 9, [0]), (.aload 0, 10, []), (.aload 0, 11, []), (.getfield 6, 12, [11, 2]), (.iload 1, 13, []), (.invokestatic 254, 14, [2, 0, 1, 4, 1]), (.invokestatic 0, 15, [1, 0, 1, 1, 0]), (.invokestatic 67, 16, [2, 0, 1, 2, 12]), (.ireturn, 17, [0])]
def k_T_mostSet : mCode := [(.iload 1, 1, []), (.iconst (0), 2, []), (.iconst (20), 3, []), (.invokestatic 74, 4, [3, 0, 1, 3, 0]), (.ifCond .eq 0, 5, [1, 9]), (.aload 0, 6, []), (.iconst (1), 7, []), (.invokestatic 68, 8, [2, 0, 1, 2, 12]), (.ireturn, 9, [0]), (.aload 0, 10, []), (.aload 0, 11, []), (.getfield 6, 12, [11, 2]), (.iload 1, 13, []), (.invokestatic 254, 14, [2, 0, 1, 4, 1]), (.invokestatic 67, 15, [2, 0, 1, 2, 12]), (.ireturn, 16, [0])]
def k_T_misses : mCode := [(.aload 0, 1, []), (.getfield 6, 2, [11, 2]), (.iload 1, 3, []), (.invokestatic 228, 4, [2, 0, 1, 2, 1]), (.ifCond .eq 0, 5, [1, 9]), (.aload 0, 6, []), (.iconst (1), 7, []), (.invokestatic 68, 8, [2, 0, 1, 2, 12]), (.ireturn, 9, [0]), (.aload 0, 10, []), (.iconst (1), 11, []), (.invokestatic 33, 12, [2, 0, 0, 3, 12]), (.aload 0, 13, []), (.getfield 7, 14, [11, 2]), (.invokestatic 236, 15, [1, 0, 1, 3, 1]), (.istore 2, 16, []), (.aload 0, 17, []), (.getfield 7, 18, [11, 2]), (.aload 0, 19, []), (.getfield 6, 20, [11, 2]), (.invokestatic 227, 21, [2, 0, 0, 2, 1]), (.aload 0, 22, []), (.getfield 7, 23, [11, 2]), (.iload 1, 24, []), (.invokestatic 247, 25, [2, 0, 1, 4, 1]), (.pop, 26, []), (.aload 0, 27, []), (.iload 2, 28, []), (.aload 0, 29, []), (.getfield 7, 30, [11, 2]), (.invokestatic 236, 31, [1, 0, 1, 3, 1]), (.iconst (-1), 32, []), (.ixor, 33, []), (.iand, 34, []), (.invokestatic 67, 35, [2, 0, 1, 2, 12]), (.ireturn, 36, [0])]
def k_T_fits : mCode := [(.aload 0, 1, []), (.iload 1, 2, []), (.iload 2, 3, []), (.invokestatic 48, 4, [3, 0, 1, 8, 12]), (.istore 3, 5, []), (.iload 3, 6, []), (.ifCond .eq 0, 7, [0, 11]), (.aload 0, 8, []), (.iload 3, 9, []), (.invokestatic 68, 10, [2, 0, 1, 2, 12]), (.ireturn, 11, [0]), (.aload 0, 12, []), (.iload 1, 13, []), (.iload 2, 14, []), (.invokestatic 49, 15, [3, 0, 0, 4, 12]), (.aload 0, 16, []), (.aload 0, 17, []), (.getfield 14, 18, [11, 2]), (.invokestatic 351, 19, [1, 0, 1, 1, 11]), (.invokestatic 67, 20, [2, 0, 1, 2, 12]), (.ireturn, 21, [0])]
def k_T_firstOf : mCode := [(.aload 0, 1, []), (.getfield 6, 2, [11, 2]), (.iload 3, 3, []), (.invokestatic 228, 4, [2, 0, 1, 2, 1]), (.ifCond .eq 0, 5, [0, 10]), (.aload 0, 6, []), (.iload 1, 7, []), (.iload 2, 8, []), (.invokestatic 48, 9, [3, 0, 1, 8, 12]), (.goto 0, 10, [11]), (.iconst (1), 11, []), (.istore 4, 12, []), (.iload 4, 13, []), (.ifCond .eq 0, 14, [0, 18]), (.aload 0, 15, []), (.iload 4, 16, []), (.invokestatic 68, 17, [2, 0, 1, 2, 12]), (.ireturn, 18, [0]), (.aload 0, 19, []), (.iload 1, 20, []), (.iload 2, 21, []), (.invokestatic 49, 22, [3, 0, 0, 4, 12]), (.aload 0, 23, []), (.getfield 14, 24, [11, 2]), (.invokestatic 351, 25, [1, 0, 1, 1, 11]), (.ifCond .eq 0, 26, [1, 30]), (.aload 0, 27, []), (.iconst (6), 28, []), (.invokestatic 68, 29, [2, 0, 1, 2, 12]), (.goto 0, 30, [36]), (.aload 0, 31, []), (.aload 0, 32, []), (.getfield 14, 33, [11, 2]), (.iload 3, 34, []), (.invokestatic 353, 35, [2, 0, 1, 5, 11]), (.invokestatic 67, 36, [2, 0, 1, 2, 12]), (.ireturn, 37, [0])]
def k_T_oddsThat : mCode := [(.aload 0, 1, []), (.iload 3, 2, []), (.iload 4, 3, []), (.invokestatic 73, 4, [3, 0, 1, 3, 12]), (.ifCond .eq 0, 5, [0, 10]), (.aload 0, 6, []), (.iload 1, 7, []), (.iload 2, 8, []), (.invokestatic 48, 9, [3, 0, 1, 8, 12]), (.goto 0, 10, [11]), (.iconst (1), 11, []), (.istore 5, 12, []), (.iload 5, 13, []), (.ifCond .eq 0, 14, [0, 18]), (.aload 0, 15, []), (.iload 5, 16, []), (.invokestatic 70, 17, [2, 0, 1, 2, 12]), (.ireturn, 18, [3]), (.aload 0, 19, []), (.iload 1, 20, []), (.iload 2, 21, []), (.invokestatic 49, 22, [3, 0, 0, 4, 12]), (.aload 0, 23, []), (.getfield 14, 24, [11, 2]), (.invokestatic 351, 25, [1, 0, 1, 1, 11]), (.ifCond .eq 0, 26, [1, 30]), (.aload 0, 27, []), (.iconst (6), 28, []), (.invokestatic 70, 29, [2, 0, 1, 2, 12]), (.ireturn, 30, [3]), (.aload 0, 31, []), (.aload 0, 32, []), (.getfield 14, 33, [11, 2]), (.iload 3, 34, []), (.iload 4, 35, []), (.invokestatic 352, 36, [3, 0, 1, 5, 11]), (.i2l, 37, []), (.aload 0, 38, []), (.getfield 14, 39, [11, 2]), (.invokestatic 351, 40, [1, 0, 1, 1, 11]), (.i2l, 41, []), (.invokestatic 71, 42, [3, 0, 1, 7, 12]), (.ireturn, 43, [3])]
def k_T_ask : mCode := [(.aload 0, 1, []), (.iload 1, 2, []), (.iload 2, 3, []), (.invokestatic 48, 4, [3, 0, 1, 8, 12]), (.istore 3, 5, []), (.iload 3, 6, []), (.ifCond .eq 0, 7, [0, 11]), (.aload 0, 8, []), (.iload 3, 9, []), (.invokestatic 68, 10, [2, 0, 1, 2, 12]), (.ireturn, 11, [0]), (.aload 0, 12, []), (.iload 1, 13, []), (.iload 2, 14, []), (.invokestatic 49, 15, [3, 0, 0, 4, 12]), (.aload 0, 16, []), (.getfield 14, 17, [11, 2]), (.invokestatic 351, 18, [1, 0, 1, 1, 11]), (.iconst (2), 19, []), (.if_icmp .eq 0, 20, [3, 24]), (.aload 0, 21, []), (.iconst (6), 22, []), (.invokestatic 68, 23, [2, 0, 1, 2, 12]), (.goto 0, 24, [29]), (.aload 0, 25, []), (.aload 0, 26, []), (.getfield 14, 27, [11, 2]), (.invokestatic 355, 28, [1, 0, 1, 5, 11]), (.invokestatic 67, 29, [2, 0, 1, 2, 12]), (.ireturn, 30, [0])]
def k_T_waysStatus : mCode := [(.aload 0, 1, []), (.iload 1, 2, []), (.iload 2, 3, []), (.iconst (10), 4, []), (.iconst (2), 5, []), (.invokestatic 50, 6, [5, 0, 1, 5, 12]), (.istore 3, 7, []), (.iload 3, 8, []), (.ifCond .eq 0, 9, [0, 11]), (.iload 3, 10, []), (.ireturn, 11, [0]), (.iconst (1), 12, []), (.aload 0, 13, []), (.getfield 6, 14, [11, 2]), (.getfield 0, 15, [0, 0]), (.ishl, 16, []), (.istore 4, 17, []), (.iconst (0), 18, []), (.istore 5, 19, []), (.iload 5, 20, []), (.iconst (2), 21, []), (.iload 2, 22, []), (.imul, 23, []), (.if_icmp .eq 0, 24, [3, 43]), (.aload 0, 25, []), (.getfield 4, 26, [11, 2]), (.iload 1, 27, []), (.iload 5, 28, []), (.invokestatic 340, 29, [3, 0, 2, 3, 10]), (.lstore 6, 30, []), (.lload 6, 31, []), (.sipush (0), 32, []), (.lcmp, 34, [2, 39]), (.ifCond .eq 0, 34, [2, 39]), (.lload 6, 35, []), (.iload 4, 36, []), (.i2l, 37, []), (.lcmp, 39, [2, 41]), (.ifCond .eq 0, 39, [2, 41]), (.iconst (5), 40, []), (.ireturn, 41, [0]), (.iinc 5 (1), 42, []), (.goto 0, 43, [19]), (.iconst (0), 44, []), (.ireturn, 45, [0])]
def k_T_findWays : mCode := [(.aload 0, 1, []), (.getfield 14, 2, [11, 2]), (.aload 0, 3, []), (.getfield 6, 4, [11, 2]), (.getfield 0, 5, [0, 0]), (.invokestatic 345, 6, [2, 0, 0, 3, 11]), (.iconst (0), 7, []), (.istore 3, 8, []), (.iload 3, 9, []), (.iload 2, 10, []), (.if_icmp .eq 0, 11, [3, 34]), (.aload 0, 12, []), (.getfield 14, 13, [11, 2]), (.aload 0, 14, []), (.getfield 4, 15, [11, 2]), (.iload 1, 16, []), (.iconst (2), 17, []), (.iload 3, 18, []), (.imul, 19, []), (.invokestatic 340, 20, [3, 0, 2, 3, 10]), (.l2i, 21, []), (.aload 0, 22, []), (.getfield 4, 23, [11, 2]), (.iload 1, 24, []), (.iconst (2), 25, []), (.iload 3, 26, []), (.imul, 27, []), (.iconst (1), 28, []), (.iadd, 29, []), (.invokestatic 340, 30, [3, 0, 2, 3, 10]), (.l2i, 31, []), (.invokestatic 346, 32, [3, 0, 0, 4, 11]), (.iinc 3 (1), 33, []), (.goto 0, 34, [8]), (.aload 0, 35, []), (.getfield 14, 36, [11, 2]), (.invokestatic 347, 37, [1, 0, 0, 2, 11]), (.return_, 38, [])]
def k_T_rowsStatus : mCode := [(.aload 0, 1, []), (.getfield 4, 2, [11, 2]), (.iload 1, 3, []), (.invokestatic 333, 4, [2, 0, 1, 2, 10]), (.ifCond .eq 0, 5, [0, 10]), (.iload 2, 6, []), (.iconst (0), 7, []), (.iload 3, 8, []), (.invokestatic 74, 9, [3, 0, 1, 3, 0]), (.ifCond .eq 0, 10, [1, 12]), (.iconst (1), 11, []), (.ireturn, 12, [0]), (.aload 0, 13, []), (.getfield 4, 14, [11, 2]), (.iload 1, 15, []), (.invokestatic 335, 16, [2, 0, 1, 2, 10]), (.ifCond .eq 0, 17, [0, 19]), (.iconst (2), 18, []), (.ireturn, 19, [0]), (.iload 2, 20, []), (.iload 4, 21, []), (.imul, 22, []), (.aload 0, 23, []), (.getfield 4, 24, [11, 2]), (.iload 1, 25, []), (.invokestatic 336, 26, [2, 0, 1, 2, 10]), (.if_icmp .eq 0, 27, [5, 29]), (.iconst (3), 28, []), (.goto 0, 29, [30]), (.iconst (0), 30, []), (.ireturn, 31, [0])]
def k_T_laws : mCode := [(.aload 0, 1, []), (.iload 1, 2, []), (.iload 2, 3, []), (.invokestatic 55, 4, [3, 0, 1, 11, 12]), (.istore 3, 5, []), (.iload 3, 6, []), (.ifCond .eq 0, 7, [0, 11]), (.aload 0, 8, []), (.iload 3, 9, []), (.invokestatic 68, 10, [2, 0, 1, 2, 12]), (.ireturn, 11, [0]), (.iconst (0), 12, []), (.istore 4, 13, []), (.iconst (1), 14, []), (.istore 5, 15, []), (.iload 5, 16, []), (.ldc 3, 17, []), (.iconst (5), 18, []), (.iaload, 19, []), (.if_icmp .eq 0, 20, [4, 39]), (.iconst (1), 21, []), (.istore 6, 22, []), (.iload 6, 23, []), (.ldc 3, 24, []), (.iconst (6), 25, []), (.iaload, 26, []), (.if_icmp .eq 0, 27, [4, 37]), (.aload 0, 28, []), (.iload 1, 29, []), (.iload 2, 30, []), (.iload 5, 31, []), (.iload 6, 32, []), (.invokestatic 56, 33, [5, 0, 1, 8, 12]), (.ifCond .eq 0, 34, [0, 35]), (.iinc 4 (1), 35, []), (.iinc 6 (1), 36, []), (.goto 0, 37, [22]), (.iinc 5 (1), 38, []), (.goto 0, 39, [15]), (.aload 0, 40, []), (.iload 4, 41, []), (.invokestatic 67, 42, [2, 0, 1, 2, 12]), (.ireturn, 43, [0])]
def k_T_lawOf : mCode := [(.iload 3, 1, []), (.iconst (0), 2, []), (.iconst (1), 3, []), (.invokestatic 74, 4, [3, 0, 1, 3, 0]), (.ifCond .eq 0, 5, [0, 10]), (.aload 0, 6, []), (.iload 1, 7, []), (.iload 2, 8, []), (.invokestatic 55, 9, [3, 0, 1, 11, 12]), (.goto 0, 10, [11]), (.iconst (1), 11, []), (.istore 4, 12, []), (.iload 4, 13, []), (.ifCond .eq 0, 14, [0, 18]), (.aload 0, 15, []), (.iload 4, 16, []), (.invokestatic 68, 17, [2, 0, 1, 2, 12]), (.ireturn, 18, [0]), (.iconst (1), 19, []), (.istore 5, 20, []), (.iload 5, 21, []), (.ldc 3, 22, []), (.iconst (5), 23, []), (.iaload, 24, []), (.if_icmp .eq 0, 25, [4, 51]), (.iconst (1), 26, []), (.istore 6, 27, []), (.iload 6, 28, []), (.ldc 3, 29, []), (.iconst (6), 30, []), (.iaload, 31, []), (.if_icmp .eq 0, 32, [4, 49]), (.aload 0, 33, []), (.iload 1, 34, []), (.iload 2, 35, []), (.iload 5, 36, []), (.iload 6, 37, []), (.invokestatic 56, 38, [5, 0, 1, 8, 12]), (.ifCond .eq 0, 39, [0, 47]), (.aload 0, 40, []), (.iload 3, 41, []), (.ifCond .eq 0, 42, [1, 44]), (.iload 5, 43, []), (.goto 0, 44, [45]), (.iload 6, 45, []), (.invokestatic 67, 46, [2, 0, 1, 2, 12]), (.ireturn, 47, [0]), (.iinc 6 (1), 48, []), (.goto 0, 49, [27]), (.iinc 5 (1), 50, []), (.goto 0, 51, [20]), (.aload 0, 52, []), (.iconst (6), 53, []), (.invokestatic 68, 54, [2, 0, 1, 2, 12]), (.ireturn, 55, [0])]
def k_T_error : mCode := [(.iload 1, 1, []), (.iconst (0), 2, []), (.iconst (12), 3, []), (.invokestatic 74, 4, [3, 0, 1, 3, 0]), (.ifCond .eq 0, 5, [0, 15]), (.iload 2, 6, []), (.iconst (0), 7, []), (.iconst (13), 8, []), (.invokestatic 74, 9, [3, 0, 1, 3, 0]), (.ifCond .eq 0, 10, [0, 15]), (.iload 3, 11, []), (.iconst (0), 12, []), (.iconst (1), 13, []), (.invokestatic 74, 14, [3, 0, 1, 3, 0]), (.ifCond .eq 0, 15, [1, 19]), (.aload 0, 16, []), (.iconst (1), 17, []), (.invokestatic 70, 18, [2, 0, 1, 2, 12]), (.ireturn, 19, [3]), (.aload 0, 20, []), (.iload 1, 21, []), (.invokestatic 57, 22, [2, 0, 0, 2, 12]), (.aload 0, 23, []), (.iload 3, 24, []), (.ifCond .eq 0, 25, [1, 30]), (.aload 0, 26, []), (.getfield 16, 27, [11, 2]), (.iload 2, 28, []), (.invokestatic 267, 29, [2, 0, 2, 5, 3]), (.goto 0, 30, [34]), (.aload 0, 31, []), (.getfield 17, 32, [11, 2]), (.iload 2, 33, []), (.invokestatic 268, 34, [2, 0, 2, 2, 3]), (.aload 0, 35, []), (.getfield 16, 36, [11, 2]), (.invokestatic 266, 37, [1, 0, 2, 1, 3]), (.invokestatic 71, 38, [3, 0, 1, 7, 12]), (.ireturn, 39, [3])]
def k_T_cut : mCode := [(.iload 1, 1, []), (.iconst (0), 2, []), (.iconst (12), 3, []), (.invokestatic 74, 4, [3, 0, 1, 3, 0]), (.ifCond .eq 0, 5, [1, 9]), (.aload 0, 6, []), (.iconst (1), 7, []), (.invokestatic 68, 8, [2, 0, 1, 2, 12]), (.ireturn, 9, [0]), (.aload 0, 10, []), (.iload 1, 11, []), (.invokestatic 57, 12, [2, 0, 0, 2, 12]), (.iconst (0), 13, []), (.istore 2, 14, []), (.aload 0, 15, []), (.getfield 16, 16, [11, 2]), (.iconst (0), 17, []), (.invokestatic 267, 18, [2, 0, 2, 5, 3]), (.aload 0, 19, []), (.getfield 17, 20, [11, 2]), (.iconst (0), 21, []), (.invokestatic 268, 22, [2, 0, 2, 2, 3]), (.ladd, 23, []), (.lstore 3, 24, []), (.iconst (1), 25, []), (.istore 5, 26, []), (.iload 5, 27, []), (.iconst (13), 28, []), (.if_icmp .eq 0, 29, [4, 49]), (.aload 0, 30, []), (.getfield 16, 31, [11, 2]), (.iload 5, 32, []), (.invokestatic 267, 33, [2, 0, 2, 5, 3]), (.aload 0, 34, []), (.getfield 17, 35, [11, 2]), (.iload 5, 36, []), (.invokestatic 268, 37, [2, 0, 2, 2, 3]), (.ladd, 38, []), (.lstore 6, 39, []), (.lload 6, 40, []), (.lload 3, 41, []), (.lcmp, 43, [3, 47]), (.ifCond .eq 0, 43, [3, 47]), (.lload 6, 44, []), (.lstore 3, 45, []), (.iload 5, 46, []), (.istore 2, 47, []), (.iinc 5 (1), 48, []), (.goto 0, 49, [26]), (.aload 0, 50, []), (.iload 2, 51, []), (.invokestatic 67, 52, [2, 0, 1, 2, 12]), (.ireturn, 53, [0])]
def k_T_lawStatus : mCode := [(.aload 0, 1, []), (.iload 1, 2, []), (.iload 2, 3, []), (.iconst (15), 4, []), (.iconst (3), 5, []), (.invokestatic 50, 6, [5, 0, 1, 5, 12]), (.istore 3, 7, []), (.iload 3, 8, []), (.ifCond .eq 0, 9, [0, 11]), (.iload 3, 10, []), (.ireturn, 11, [0]), (.iconst (0), 12, []), (.istore 4, 13, []), (.iload 4, 14, []), (.iload 2, 15, []), (.if_icmp .eq 0, 16, [3, 72]), (.aload 0, 17, []), (.getfield 4, 18, [11, 2]), (.iload 1, 19, []), (.iconst (3), 20, []), (.iload 4, 21, []), (.imul, 22, []), (.invokestatic 340, 23, [3, 0, 2, 3, 10]), (.lstore 5, 24, []), (.aload 0, 25, []), (.getfield 4, 26, [11, 2]), (.iload 1, 27, []), (.iconst (3), 28, []), (.iload 4, 29, []), (.imul, 30, []), (.iconst (1), 31, []), (.iadd, 32, []), (.invokestatic 340, 33, [3, 0, 2, 3, 10]), (.lstore 7, 34, []), (.aload 0, 35, []), (.getfield 4, 36, [11, 2]), (.iload 1, 37, []), (.iconst (3), 38, []), (.iload 4, 39, []), (.imul, 40, []), (.iconst (2), 41, []), (.iadd, 42, []), (.invokestatic 340, 43, [3, 0, 2, 3, 10]), (.lstore 9, 44, []), (.lload 5, 45, []), (.sipush (0), 46, []), (.lcmp, 48, [2, 68]), (.ifCond .eq 0, 48, [2, 68]), (.lload 5, 49, []), (.sipush (9), 50, []), (.lcmp, 52, [4, 68]), (.ifCond .eq 0, 52, [4, 68]), (.lload 7, 53, []), (.sipush (0), 54, []), (.lcmp, 56, [2, 68]), (.ifCond .eq 0, 56, [2, 68]), (.lload 7, 57, []), (.sipush (59), 58, []), (.lcmp, 60, [4, 68]), (.ifCond .eq 0, 60, [4, 68]), (.lload 9, 61, []), (.sipush (0), 62, []), (.lcmp, 64, [2, 68]), (.ifCond .eq 0, 64, [2, 68]), (.lload 9, 65, []), (.sipush (200), 66, []), (.lcmp, 68, [5, 70]), (.ifCond .eq 0, 68, [5, 70]), (.iconst (5), 69, []), (.ireturn, 70, [0]), (.iinc 4 (1), 71, []), (.goto 0, 72, [13]), (.iconst (0), 73, []), (.ireturn, 74, [0])]
def k_T_isLaw : mCode := [(.iconst (0), 1, []), (.istore 5, 2, []), (.iload 5, 3, []), (.iload 2, 4, []), (.if_icmp .eq 0, 5, [3, 46]), (.aload 0, 6, []), (.getfield 4, 7, [11, 2]), (.iload 1, 8, []), (.iconst (3), 9, []), (.iload 5, 10, []), (.imul, 11, []), (.invokestatic 340, 12, [3, 0, 2, 3, 10]), (.l2i, 13, []), (.istore 6, 14, []), (.aload 0, 15, []), (.getfield 4, 16, [11, 2]), (.iload 1, 17, []), (.iconst (3), 18, []), (.iload 5, 19, []), (.imul, 20, []), (.iconst (1), 21, []), (.iadd, 22, []), (.invokestatic 340, 23, [3, 0, 2, 3, 10]), (.l2i, 24, []), (.istore 7, 25, []), (.iload 3, 26, []), (.iload 6, 27, []), (.iload 7, 28, []), (.iload 4, 29, []), (.invokestatic 75, 30, [4, 0, 1, 5, 0]), (.i2l, 31, []), (.aload 0, 32, []), (.getfield 4, 33, [11, 2]), (.iload 1, 34, []), (.iconst (3), 35, []), (.iload 5, 36, []), (.imul, 37, []), (.iconst (2), 38, []), (.iadd, 39, []), (.invokestatic 340, 40, [3, 0, 2, 3, 10]), (.lcmp, 42, [0, 44]), (.ifCond .eq 0, 42, [0, 44]), (.iconst (0), 43, []), (.ireturn, 44, [3]), (.iinc 5 (1), 45, []), (.goto 0, 46, [2]), (.iconst (1), 47, []), (.ireturn, 48, [3])]
def k_T_tasteBoth : mCode := [(.aload 0, 1, []), (.getfield 16, 2, [11, 2]), (.iload 1, 3, []), (.aload 0, 4, []), (.getfield 6, 5, [11, 2]), (.getfield 2, 6, [0, 2]), (.iconst (1), 7, []), (.iaload, 8, []), (.invokestatic 265, 9, [3, 0, 0, 5, 3]), (.aload 0, 10, []), (.getfield 17, 11, [11, 2]), (.iload 1, 12, []), (.aload 0, 13, []), (.getfield 6, 14, [11, 2]), (.getfield 2, 15, [0, 2]), (.iconst (2), 16, []), (.iaload, 17, []), (.invokestatic 265, 18, [3, 0, 0, 5, 3]), (.return_, 19, [])]
def k_T_game : mCode := [(.iload 1, 1, []), (.iconst (0), 2, []), (.iconst (4), 3, []), (.invokestatic 74, 4, [3, 0, 1, 3, 0]), (.ifCond .eq 0, 5, [1, 9]), (.aload 0, 6, []), (.iconst (1), 7, []), (.invokestatic 68, 8, [2, 0, 1, 2, 12]), (.ireturn, 9, [0]), (.aload 0, 10, []), (.getfield 15, 11, [11, 2]), (.aload 0, 12, []), (.getfield 6, 13, [11, 2]), (.iload 1, 14, []), (.invokestatic 259, 15, [3, 0, 0, 6, 2]), (.aload 0, 16, []), (.aload 0, 17, []), (.getfield 15, 18, [11, 2]), (.invokestatic 257, 19, [1, 0, 1, 1, 2]), (.invokestatic 67, 20, [2, 0, 1, 2, 12]), (.ireturn, 21, [0])]
def k_T_moveOf : mCode := [(.iload 1, 1, []), (.iconst (1), 2, []), (.iconst (4), 3, []), (.invokestatic 74, 4, [3, 0, 1, 3, 0]), (.ifCond .eq 0, 5, [1, 9]), (.aload 0, 6, []), (.iconst (1), 7, []), (.invokestatic 68, 8, [2, 0, 1, 2, 12]), (.ireturn, 9, [0]), (.aload 0, 10, []), (.getfield 15, 11, [11, 2]), (.aload 0, 12, []), (.getfield 6, 13, [11, 2]), (.iload 1, 14, []), (.invokestatic 259, 15, [3, 0, 0, 6, 2]), (.aload 0, 16, []), (.getfield 15, 17, [11, 2]), (.invokestatic 258, 18, [1, 0, 1, 1, 2]), (.iconst (-1), 19, []), (.if_icmp .eq 0, 20, [1, 24]), (.aload 0, 21, []), (.iconst (6), 22, []), (.invokestatic 68, 23, [2, 0, 1, 2, 12]), (.goto 0, 24, [29]), (.aload 0, 25, []), (.aload 0, 26, []), (.getfield 15, 27, [11, 2]), (.invokestatic 258, 28, [1, 0, 1, 1, 2]), (.invokestatic 67, 29, [2, 0, 1, 2, 12]), (.ireturn, 30, [0])]
def k_T_share : mCode := [(.aload 0, 1, []), (.getfield 6, 2, [11, 2]), (.iload 1, 3, []), (.invokestatic 228, 4, [2, 0, 1, 2, 1]), (.ifCond .eq 0, 5, [1, 9]), (.aload 0, 6, []), (.iconst (1), 7, []), (.invokestatic 70, 8, [2, 0, 1, 2, 12]), (.ireturn, 9, [3]), (.aload 0, 10, []), (.getfield 6, 11, [11, 2]), (.invokestatic 239, 12, [1, 0, 1, 3, 1]), (.istore 2, 13, []), (.iload 2, 14, []), (.ifCond .eq 0, 15, [1, 19]), (.aload 0, 16, []), (.iconst (6), 17, []), (.invokestatic 70, 18, [2, 0, 1, 2, 12]), (.goto 0, 19, [29]), (.aload 0, 20, []), (.aload 0, 21, []), (.getfield 6, 22, [11, 2]), (.getfield 5, 23, [0, 2]), (.iload 1, 24, []), (.iaload, 25, []), (.i2l, 26, []), (.iload 2, 27, []), (.i2l, 28, []), (.invokestatic 71, 29, [3, 0, 1, 7, 12]), (.ireturn, 30, [3])]
def k_T_copyWarmth : mCode := [(.aload 0, 1, []), (.getfield 4, 2, [11, 2]), (.iload 1, 3, []), (.invokestatic 333, 4, [2, 0, 1, 2, 10]), (.ifCond .eq 0, 5, [1, 9]), (.aload 0, 6, []), (.iconst (1), 7, []), (.invokestatic 68, 8, [2, 0, 1, 2, 12]), (.ireturn, 9, [0]), (.aload 0, 10, []), (.getfield 4, 11, [11, 2]), (.iload 1, 12, []), (.invokestatic 335, 13, [2, 0, 1, 2, 10]), (.ifCond .eq 0, 14, [0, 18]), (.aload 0, 15, []), (.iconst (2), 16, []), (.invokestatic 68, 17, [2, 0, 1, 2, 12]), (.ireturn, 18, [0]), (.aload 0, 19, []), (.getfield 4, 20, [11, 2]), (.iload 1, 21, []), (.iconst (0), 22, []), (.aload 0, 23, []), (.getfield 6, 24, [11, 2]), (.getfield 0, 25, [0, 0]), (.invokestatic 338, 26, [4, 0, 1, 4, 10]), (.ifCond .eq 0, 27, [1, 31]), (.aload 0, 28, []), (.iconst (3), 29, []), (.invokestatic 68, 30, [2, 0, 1, 2, 12]), (.ireturn, 31, [0]), (.iconst (0), 32, []), (.istore 2, 33, []), (.iload 2, 34, []), (.aload 0, 35, []), (.getfield 6, 36, [11, 2]), (.getfield 0, 37, [0, 0]), (.if_icmp .eq 0, 38, [3, 51]), (.aload 0, 39, []), (.getfield 4, 40, [11, 2]), (.iload 1, 41, []), (.iload 2, 42, []), (.aload 0, 43, []), (.getfield 6, 44, [11, 2]), (.getfield 5, 45, [0, 2]), (.iload 2, 46, []), (.iaload, 47, []), (.i2l, 48, []), (.invokestatic 341, 49, [4, 0, 0, 5, 10]), (.iinc 2 (1), 50, []), (.goto 0, 51, [33]), (.aload 0, 52, []), (.aload 0, 53, []), (.getfield 6, 54, [11, 2]), (.getfield 0, 55, [0, 0]), (.invokestatic 67, 56, [2, 0, 1, 2, 12]), (.ireturn, 57, [0])]
def k_T_live : mCode := [(.iload 1, 1, []), (.iconst (0), 2, []), (.iconst (9999), 3, []), (.invokestatic 74, 4, [3, 0, 1, 3, 0]), (.ifCond .eq 0, 5, [1, 9]), (.aload 0, 6, []), (.iconst (1), 7, []), (.invokestatic 68, 8, [2, 0, 1, 2, 12]), (.ireturn, 9, [0]), (.aload 0, 10, []), (.getfield 8, 11, [11, 2]), (.getfield 8, 12, [7, 0]), (.ifCond .eq 0, 13, [1, 17]), (.aload 0, 14, []), (.iconst (6), 15, []), (.invokestatic 68, 16, [2, 0, 1, 2, 12]), (.ireturn, 17, [0]), (.aload 0, 18, []), (.getfield 12, 19, [11, 2]), (.aload 0, 20, []), (.getfield 6, 21, [11, 2]), (.aload 0, 22, []), (.getfield 8, 23, [11, 2]), (.iload 1, 24, []), (.invokestatic 270, 25, [4, 0, 0, 6, 4]), (.aload 0, 26, []), (.iconst (1), 27, []), (.putfield 3, 28, [11, 3]), (.aload 0, 29, []), (.aload 0, 30, []), (.getfield 12, 31, [11, 2]), (.getfield 2, 32, [3, 0]), (.invokestatic 67, 33, [2, 0, 1, 2, 12]), (.ireturn, 34, [0])]
def k_T_lived : mCode := [(.iload 1, 1, []), (.iconst (0), 2, []), (.iconst (4), 3, []), (.invokestatic 74, 4, [3, 0, 1, 3, 0]), (.ifCond .eq 0, 5, [1, 9]), (.aload 0, 6, []), (.iconst (1), 7, []), (.invokestatic 68, 8, [2, 0, 1, 2, 12]), (.ireturn, 9, [0]), (.aload 0, 10, []), (.getfield 3, 11, [11, 0]), (.ifCond .eq 0, 12, [1, 16]), (.aload 0, 13, []), (.iconst (6), 14, []), (.invokestatic 68, 15, [2, 0, 1, 2, 12]), (.ireturn, 16, [0]), (.iload 1, 17, []), (.tableswitch 0 (0) 0 #[], 18, [42, 18, 24, 30, 36]), (.aload 0, 19, []), (.aload 0, 20, []), (.getfield 12, 21, [11, 2]), (.getfield 3, 22, [3, 0]), (.invokestatic 67, 23, [2, 0, 1, 2, 12]), (.ireturn, 24, [0]), (.aload 0, 25, []), (.aload 0, 26, []), (.getfield 12, 27, [11, 2]), (.getfield 4, 28, [3, 0]), (.invokestatic 67, 29, [2, 0, 1, 2, 12]), (.ireturn, 30, [0]), (.aload 0, 31, []), (.aload 0, 32, []), (.getfield 12, 33, [11, 2]), (.getfield 5, 34, [3, 0]), (.invokestatic 67, 35, [2, 0, 1, 2, 12]), (.ireturn, 36, [0]), (.aload 0, 37, []), (.aload 0, 38, []), (.getfield 12, 39, [11, 2]), (.getfield 6, 40, [3, 0]), (.invokestatic 67, 41, [2, 0, 1, 2, 12]), (.ireturn, 42, [0]), (.aload 0, 43, []), (.aload 0, 44, []), (.getfield 12, 45, [11, 2]), (.getfield 7, 46, [3, 0]), (.ifCond .eq 0, 47, [0, 49]), (.iconst (1), 48, []), (.goto 0, 49, [50]), (.iconst (0), 50, []), (.invokestatic 67, 51, [2, 0, 1, 2, 12]), (.ireturn, 52, [0])]
def k_T_mean : mCode := [(.iload 1, 1, []), (.iconst (0), 2, []), (.iconst (9999), 3, []), (.invokestatic 74, 4, [3, 0, 1, 3, 0]), (.ifCond .eq 0, 5, [0, 17]), (.iload 2, 6, []), (.iconst (1), 7, []), (.iconst (20), 8, []), (.invokestatic 74, 9, [3, 0, 1, 3, 0]), (.ifCond .eq 0, 10, [0, 17]), (.iload 1, 11, []), (.iload 2, 12, []), (.iadd, 13, []), (.iconst (1), 14, []), (.isub, 15, []), (.iconst (9999), 16, []), (.if_icmp .eq 0, 17, [5, 21]), (.aload 0, 18, []), (.iconst (1), 19, []), (.invokestatic 70, 20, [2, 0, 1, 2, 12]), (.ireturn, 21, [3]), (.aload 0, 22, []), (.getfield 8, 23, [11, 2]), (.getfield 8, 24, [7, 0]), (.ifCond .eq 0, 25, [1, 29]), (.aload 0, 26, []), (.iconst (6), 27, []), (.invokestatic 70, 28, [2, 0, 1, 2, 12]), (.ireturn, 29, [3]), (.iconst (0), 30, []), (.istore 3, 31, []), (.iconst (0), 32, []), (.istore 4, 33, []), (.iload 4, 34, []), (.iload 2, 35, []), (.if_icmp .eq 0, 36, [3, 59]), (.aload 0, 37, []), (.getfield 7, 38, [11, 2]), (.aload 0, 39, []), (.getfield 6, 40, [11, 2]), (.invokestatic 227, 41, [2, 0, 0, 2, 1]), (.aload 0, 42, []), (.getfield 13, 43, [11, 2]), (.aload 0, 44, []), (.getfield 7, 45, [11, 2]), (.aload 0, 46, []), (.getfield 8, 47, [11, 2]), (.iload 1, 48, []), (.iload 4, 49, []), (.iadd, 50, []), (.invokestatic 270, 51, [4, 0, 0, 6, 4]), (.iload 3, 52, []), (.aload 0, 53, []), (.getfield 7, 54, [11, 2]), (.invokestatic 239, 55, [1, 0, 1, 3, 1]), (.iadd, 56, []), (.istore 3, 57, []), (.iinc 4 (1), 58, []), (.goto 0, 59, [33]), (.aload 0, 60, []), (.iload 3, 61, []), (.i2l, 62, []), (.iload 2, 63, []), (.i2l, 64, []), (.invokestatic 71, 65, [3, 0, 1, 7, 12]), (.ireturn, 66, [3])]
def k_T_mark : mCode := [(.aload 0, 1, []), (.getfield 11, 2, [11, 2]), (.invokestatic 289, 3, [1, 0, 1, 1, 6]), (.ifCond .eq 0, 4, [0, 8]), (.aload 0, 5, []), (.iconst (4), 6, []), (.invokestatic 68, 7, [2, 0, 1, 2, 12]), (.ireturn, 8, [0]), (.aload 0, 9, []), (.aload 0, 10, []), (.getfield 11, 11, [11, 2]), (.aload 0, 12, []), (.getfield 6, 13, [11, 2]), (.aload 0, 14, []), (.getfield 8, 15, [11, 2]), (.invokestatic 291, 16, [3, 0, 1, 3, 6]), (.invokestatic 67, 17, [2, 0, 1, 2, 12]), (.ireturn, 18, [0])]
def k_T_undo : mCode := [(.aload 0, 1, []), (.getfield 11, 2, [11, 2]), (.invokestatic 290, 3, [1, 0, 1, 1, 6]), (.ifCond .eq 0, 4, [0, 8]), (.aload 0, 5, []), (.iconst (6), 6, []), (.invokestatic 68, 7, [2, 0, 1, 2, 12]), (.ireturn, 8, [0]), (.aload 0, 9, []), (.aload 0, 10, []), (.getfield 11, 11, [11, 2]), (.aload 0, 12, []), (.getfield 6, 13, [11, 2]), (.aload 0, 14, []), (.getfield 8, 15, [11, 2]), (.invokestatic 292, 16, [3, 0, 1, 3, 6]), (.invokestatic 67, 17, [2, 0, 1, 2, 12]), (.ireturn, 18, [0])]
def k_T_answer : mCode := [(.aload 0, 1, []), (.iconst (0), 2, []), (.putfield 0, 3, [11, 0]), (.iload 1, 4, []), (.ireturn, 5, [0])]
def k_T_refuse : mCode := [(.aload 0, 1, []), (.iload 1, 2, []), (.putfield 0, 3, [11, 0]), (.iconst (-1), 4, []), (.ireturn, 5, [0])]
def k_T_grant : mCode := [(.aload 0, 1, []), (.iconst (0), 2, []), (.putfield 0, 3, [11, 0]), (.iconst (1), 4, []), (.ireturn, 5, [3])]
def k_T_deny : mCode := [(.aload 0, 1, []), (.iload 1, 2, []), (.putfield 0, 3, [11, 0]), (.iconst (0), 4, []), (.ireturn, 5, [3])]
def k_T_tell : mCode := [(.sipush (1), 1, []), (.lload 1, 2, []), (.lload 3, 3, []), (.invokestatic 72, 4, [2, 0, 2, 11, 0]), (.dmul, 5, []), (.lstore 5, 6, []), (.aload 0, 7, []), (.lload 1, 8, []), (.lload 5, 9, []), (.ldiv, 10, []), (.putfield 1, 11, [11, 1]), (.aload 0, 12, []), (.lload 3, 13, []), (.lload 5, 14, []), (.ldiv, 15, []), (.putfield 2, 16, [11, 1]), (.aload 0, 17, []), (.invokestatic 69, 18, [1, 0, 1, 1, 12]), (.ireturn, 19, [3])]
def k_T_commonDivisor : mCode := [(.lload 2, 1, []), (.lstore 4, 2, []), (.lload 0, 3, []), (.lstore 6, 4, []), (.iconst (0), 5, []), (.istore 8, 6, []), (.iload 8, 7, []), (.iconst (200), 8, []), (.if_icmp .eq 0, 9, [3, 23]), (.lload 6, 10, []), (.sipush (0), 11, []), (.lcmp, 13, [0, 23]), (.ifCond .eq 0, 13, [0, 23]), (.lload 4, 14, []), (.lload 6, 15, []), (.lrem, 16, []), (.lstore 9, 17, []), (.lload 6, 18, []), (.lstore 4, 19, []), (.lload 9, 20, []), (.lstore 6, 21, []), (.iinc 8 (1), 22, []), (.goto 0, 23, [6]), (.lload 4, 24, []), (.lreturn, 25, [])]
def k_T_isCouple : mCode := [(.aload 0, 1, []), (.getfield 6, 2, [11, 2]), (.iload 1, 3, []), (.invokestatic 228, 4, [2, 0, 1, 2, 1]), (.ifCond .eq 0, 5, [0, 15]), (.aload 0, 6, []), (.getfield 6, 7, [11, 2]), (.iload 2, 8, []), (.invokestatic 228, 9, [2, 0, 1, 2, 1]), (.ifCond .eq 0, 10, [0, 15]), (.iload 1, 11, []), (.iload 2, 12, []), (.if_icmp .eq 0, 13, [0, 15]), (.iconst (1), 14, []), (.goto 0, 15, [16]), (.iconst (0), 16, []), (.ireturn, 17, [3])]
def k_T_within : mCode := [(.iload 0, 1, []), (.iload 1, 2, []), (.if_icmp .eq 0, 3, [2, 8]), (.iload 0, 4, []), (.iload 2, 5, []), (.if_icmp .eq 0, 6, [4, 8]), (.iconst (1), 7, []), (.goto 0, 8, [9]), (.iconst (0), 9, []), (.ireturn, 10, [3])]
def k_T_warmBy : mCode := [(.iload 0, 1, []), (.iload 1, 2, []), (.imul, 3, []), (.iload 3, 4, []), (.ifCond .eq 0, 5, [5, 9]), (.iload 2, 6, []), (.iload 3, 7, []), (.idiv, 8, []), (.goto 0, 9, [10]), (.iload 2, 10, []), (.isub, 11, []), (.istore 4, 12, []), (.iload 4, 13, []), (.ifCond .eq 0, 14, [5, 16]), (.iload 4, 15, []), (.goto 0, 16, [17]), (.iconst (0), 17, []), (.ireturn, 18, [0])]
def k_M_init : mCode := [(.aload 0, 1, []), (.invokespecial 0, 2, []), (.aload 0, 3, []), (.iconst (2346), 4, []), (.newarray .int, 5, [0]), (.putfield 0, 6, [12, 2]), (.aload 0, 7, []), (.iconst (42), 8, []), (.newarray .long, 9, [1]), (.putfield 1, 10, [12, 2]), (.aload 0, 11, []), (.sipush (1), 12, []), (.putfield 4, 13, [12, 1]), (.aload 0, 14, []), (.iconst (4), 15, []), (.newarray .int, 16, [0]), (.putfield 5, 17, [12, 2]), (.aload 0, 18, []), (.iconst (4), 19, []), (.newarray .int, 20, [0]), (.dup, 21, []), (.iconst (0), 22, []), (.iconst (-1), 23, []), (.iastore, 24, []), (.dup, 25, []), (.iconst (1), 26, []), (.iconst (-1), 27, []), (.iastore, 28, []), (.dup, 29, []), (.iconst (2), 30, []), (.iconst (-1), 31, []), (.iastore, 32, []), (.dup, 33, []), (.iconst (3), 34, []), (.iconst (-1), 35, []), (.iastore, 36, []), (.putfield 6, 37, [12, 2]), (.aload 0, 38, []), (.iconst (240), 39, []), (.newarray .long, 40, [1]), (.putfield 7, 41, [12, 2]), (.aload 0, 42, []), (.iconst (900), 43, []), (.newarray .byte, 44, [2]), (.putfield 8, 45, [12, 2]), (.aload 0, 46, []), (.iconst (900), 47, []), (.newarray .byte, 48, [2]), (.putfield 9, 49, [12, 2]), (.aload 0, 50, []), (.iconst (-1), 51, []), (.putfield 16, 52, [12, 0]), (.aload 0, 53, []), (.iconst (-1), 54, []), (.putfield 17, 55, [12, 0]), (.aload 0, 56, []), (.iconst (3), 57, []), (.newarray .int, 58, [0]), (.putfield 21, 59, [12, 2]), (.aload 0, 60, []), (.iconst (7), 61, []), (.newarray .int, 62, [0]), (.putfield 24, 63, [12, 2]), (.aload 0, 64, []), (.iconst (1407), 65, []), (.newarray .int, 66, [0]), (.putfield 25, 67, [12, 2]), (.aload 0, 68, []), (.iconst (7), 69, []), (.newarray .int, 70, [0]), (.putfield 28, 71, [12, 2]), (.aload 0, 72, []), (.iconst (7), 73, []), (.newarray .int, 74, [0]), (.putfield 30, 75, [12, 2]), (.aload 0, 76, []), (.iconst (7), 77, []), (.newarray .int, 78, [0]), (.putfield 31, 79, [12, 2]), (.aload 0, 80, []), (.iconst (7), 81, []), (.newarray .int, 82, [0]), (.putfield 32, 83, [12, 2]), (.aload 0, 84, []), (.iconst (49), 85, []), (.newarray .int, 86, [0]), (.putfield 33, 87, [12, 2]), (.aload 0, 88, []), (.iconst (13), 89, []), (.newarray .long, 90, [1]), (.putfield 35, 91, [12, 2]), (.aload 0, 92, []), (.iconst (5), 93, []), (.newarray .int, 94, [0]), (.putfield 36, 95, [12, 2]), (.aload 0, 96, []), (.iconst (5), 97, []), (.newarray .int, 98, [0]), (.putfield 37, 99, [12, 2]), (.aload 0, 100, []), (.iconst (5), 101, []), (.newarray .int, 102, [0]), (.putfield 38, 103, [12, 2]), (.aload 0, 104, []), (.iconst (80), 105, []), (.newarray .int, 106, [0]), (.putfield 41, 107, [12, 2]), (.aload 0, 108, []), (.iconst (5), 109, []), (.newarray .int, 110, [0]), (.putfield 42, 111, [12, 2]), (.aload 0, 112, []), (.iconst (5), 113, []), (.newarray .int, 114, [0]), (.putfield 43, 115, [12, 2]), (.aload 0, 116, []), (.iconst (0), 117, []), (.invokestatic 77, 118, [2, 0, 0, 3, 13]), (.return_, 119, [])]
def k_M_plain : mCode := [(.iconst (0), 1, []), (.istore 2, 2, []), (.iload 2, 3, []), (.iconst (414), 4, []), (.if_icmp .eq 0, 5, [3, 14]), (.aload 0, 6, []), (.getfield 0, 7, [12, 2]), (.iload 1, 8, []), (.iload 2, 9, []), (.iadd, 10, []), (.iconst (0), 11, []), (.iastore, 12, []), (.iinc 2 (1), 13, []), (.goto 0, 14, [2]), (.aload 0, 15, []), (.getfield 0, 16, [12, 2]), (.iload 1, 17, []), (.iconst (1), 18, []), (.iadd, 19, []), (.iconst (12), 20, []), (.iastore, 21, []), (.aload 0, 22, []), (.getfield 0, 23, [12, 2]), (.iload 1, 24, []), (.iconst (2), 25, []), (.iadd, 26, []), (.iconst (4), 27, []), (.iastore, 28, []), (.aload 0, 29, []), (.getfield 0, 30, [12, 2]), (.iload 1, 31, []), (.iconst (3), 32, []), (.iadd, 33, []), (.iconst (20), 34, []), (.iastore, 35, []), (.aload 0, 36, []), (.getfield 0, 37, [12, 2]), (.iload 1, 38, []), (.iconst (4), 39, []), (.iadd, 40, []), (.iconst (5), 41, []), (.iastore, 42, []), (.aload 0, 43, []), (.getfield 0, 44, [12, 2]), (.iload 1, 45, []), (.iconst (5), 46, []), (.iadd, 47, []), (.iconst (10), 48, []), (.iastore, 49, []), (.aload 0, 50, []), (.getfield 0, 51, [12, 2]), (.iload 1, 52, []), (.iconst (6), 53, []), (.iadd, 54, []), (.iconst (1), 55, []), (.iastore, 56, []), (.aload 0, 57, []), (.getfield 0, 58, [12, 2]), (.iload 1, 59, []), (.iconst (8), 60, []), (.iadd, 61, []), (.iconst (-1), 62, []), (.iastore, 63, []), (.return_, 64, [])]
def k_M_status : mCode := [(.aload 0, 1, []), (.getfield 2, 2, [12, 0]), (.ireturn, 3, [0])]
def k_M_top : mCode := [(.aload 0, 1, []), (.getfield 3, 2, [12, 1]), (.lreturn, 3, [])]
def k_M_bottom : mCode := [(.aload 0, 1, []), (.getfield 4, 2, [12, 1]), (.lreturn, 3, [])]
def k_M_is : mCode := [(.aload 0, 1, []), (.iload 1, 2, []), (.putfield 2, 3, [12, 0]), (.iload 1, 4, []), (.ifCond .eq 0, 5, [1, 7]), (.iconst (1), 6, []), (.goto 0, 7, [8]), (.iconst (0), 8, []), (.ireturn, 9, [3])]
def k_M_refuse : mCode := [(.aload 0, 1, []), (.iload 1, 2, []), (.putfield 2, 3, [12, 0]), (.iconst (-1), 4, []), (.ireturn, 5, [0])]
def k_M_gives : mCode := [(.aload 0, 1, []), (.iconst (0), 2, []), (.putfield 2, 3, [12, 0]), (.iload 1, 4, []), (.ireturn, 5, [0])]
def k_M_tellsBy : mCode := [(.lload 1, 1, []), (.lstore 5, 2, []), (.lload 3, 3, []), (.lstore 7, 4, []), (.lload 7, 5, []), (.sipush (0), 6, []), (.lcmp, 8, [0, 17]), (.ifCond .eq 0, 8, [0, 17]), (.lload 5, 9, []), (.lload 7, 10, []), (.lrem, 11, []), (.lstore 9, 12, []), (.lload 7, 13, []), (.lstore 5, 14, []), (.lload 9, 15, []), (.lstore 7, 16, []), (.goto 0, 17, [4]), (.aload 0, 18, []), (.lload 1, 19, []), (.lload 5, 20, []), (.ldiv, 21, []), (.putfield 3, 22, [12, 1]), (.aload 0, 23, []), (.lload 3, 24, []), (.lload 5, 25, []), (.ldiv, 26, []), (.putfield 4, 27, [12, 1]), (.aload 0, 28, []), (.iconst (0), 29, []), (.invokestatic 81, 30, [2, 0, 1, 2, 13]), (.ireturn, 31, [3])]
def k_M_isTray : mCode := [(.iload 0, 1, []), (.ifCond .eq 0, 2, [2, 7]), (.iload 0, 3, []), (.iconst (4), 4, []), (.if_icmp .eq 0, 5, [3, 7]), (.iconst (1), 6, []), (.goto 0, 7, [8]), (.iconst (0), 8, []), (.ireturn, 9, [3])]
def k_M_shrunk : mCode := [(.iload 2, 1, []), (.ifCond .eq 0, 2, [1, 7]), (.lload 0, 3, []), (.l2i, 4, []), (.i2b, 5, []), (.i2l, 6, []), (.goto 0, 7, [23]), (.iload 2, 8, []), (.iconst (1), 9, []), (.if_icmp .eq 0, 10, [1, 15]), (.lload 0, 11, []), (.l2i, 12, []), (.i2s, 13, []), (.i2l, 14, []), (.goto 0, 15, [23]), (.iload 2, 16, []), (.iconst (2), 17, []), (.if_icmp .eq 0, 18, [1, 22]), (.lload 0, 19, []), (.l2i, 20, []), (.i2l, 21, []), (.goto 0, 22, [23]), (.lload 0, 23, []), (.lreturn, 24, [])]
def k_M_tray : mCode := [(.iload 1, 1, []), (.invokestatic 85, 2, [1, 0, 1, 1, 0]), (.ifCond .eq 0, 3, [0, 13]), (.iload 2, 4, []), (.ifCond .eq 0, 5, [2, 13]), (.iload 2, 6, []), (.iconst (3), 7, []), (.if_icmp .eq 0, 8, [4, 13]), (.iload 3, 9, []), (.ifCond .eq 0, 10, [2, 13]), (.iload 3, 11, []), (.iconst (60), 12, []), (.if_icmp .eq 0, 13, [5, 17]), (.aload 0, 14, []), (.iconst (1), 15, []), (.invokestatic 81, 16, [2, 0, 1, 2, 13]), (.ireturn, 17, [3]), (.aload 0, 18, []), (.getfield 5, 19, [12, 2]), (.iload 1, 20, []), (.iload 2, 21, []), (.iastore, 22, []), (.aload 0, 23, []), (.getfield 6, 24, [12, 2]), (.iload 1, 25, []), (.iload 3, 26, []), (.iastore, 27, []), (.iconst (0), 28, []), (.istore 4, 29, []), (.iload 4, 30, []), (.iload 3, 31, []), (.if_icmp .eq 0, 32, [3, 43]), (.aload 0, 33, []), (.getfield 7, 34, [12, 2]), (.iconst (60), 35, []), (.iload 1, 36, []), (.imul, 37, []), (.iload 4, 38, []), (.iadd, 39, []), (.sipush (0), 40, []), (.lastore, 41, []), (.iinc 4 (1), 42, []), (.goto 0, 43, [29]), (.aload 0, 44, []), (.iconst (0), 45, []), (.invokestatic 81, 46, [2, 0, 1, 2, 13]), (.ireturn, 47, [3])]
def k_M_wrongPlace : mCode := [(.iload 1, 1, []), (.invokestatic 85, 2, [1, 0, 1, 1, 0]), (.ifCond .eq 0, 3, [1, 5]), (.iconst (1), 4, []), (.goto 0, 5, [24]), (.aload 0, 6, []), (.getfield 6, 7, [12, 2]), (.iload 1, 8, []), (.iaload, 9, []), (.iconst (-1), 10, []), (.if_icmp .eq 0, 11, [1, 13]), (.iconst (2), 12, []), (.goto 0, 13, [24]), (.iload 2, 14, []), (.ifCond .eq 0, 15, [2, 21]), (.iload 2, 16, []), (.aload 0, 17, []), (.getfield 6, 18, [12, 2]), (.iload 1, 19, []), (.iaload, 20, []), (.if_icmp .eq 0, 21, [2, 23]), (.iconst (3), 22, []), (.goto 0, 23, [24]), (.iconst (0), 24, []), (.ireturn, 25, [0])]
def k_M_write : mCode := [(.aload 0, 1, []), (.iload 1, 2, []), (.iload 2, 3, []), (.invokestatic 88, 4, [3, 0, 1, 3, 13]), (.istore 5, 5, []), (.iload 5, 6, []), (.ifCond .eq 0, 7, [1, 21]), (.aload 0, 8, []), (.getfield 7, 9, [12, 2]), (.iconst (60), 10, []), (.iload 1, 11, []), (.imul, 12, []), (.iload 2, 13, []), (.iadd, 14, []), (.lload 3, 15, []), (.aload 0, 16, []), (.getfield 5, 17, [12, 2]), (.iload 1, 18, []), (.iaload, 19, []), (.invokestatic 86, 20, [2, 0, 2, 3, 0]), (.lastore, 21, []), (.aload 0, 22, []), (.iload 5, 23, []), (.invokestatic 81, 24, [2, 0, 1, 2, 13]), (.ireturn, 25, [3])]
def k_M_read : mCode := [(.aload 0, 1, []), (.aload 0, 2, []), (.iload 1, 3, []), (.iload 2, 4, []), (.invokestatic 88, 5, [3, 0, 1, 3, 13]), (.putfield 2, 6, [12, 0]), (.aload 0, 7, []), (.getfield 2, 8, [12, 0]), (.ifCond .eq 0, 9, [5, 11]), (.sipush (-1), 10, []), (.goto 0, 11, [19]), (.aload 0, 12, []), (.getfield 7, 13, [12, 2]), (.iconst (60), 14, []), (.iload 1, 15, []), (.imul, 16, []), (.iload 2, 17, []), (.iadd, 18, []), (.laload, 19, []), (.lreturn, 20, [])]
def k_M_pour : mCode := [(.iload 1, 1, []), (.invokestatic 85, 2, [1, 0, 1, 1, 0]), (.ifCond .eq 0, 3, [0, 12]), (.iload 3, 4, []), (.invokestatic 85, 5, [1, 0, 1, 1, 0]), (.ifCond .eq 0, 6, [0, 12]), (.iload 2, 7, []), (.ifCond .eq 0, 8, [2, 12]), (.iload 4, 9, []), (.ifCond .eq 0, 10, [2, 12]), (.iload 5, 11, []), (.ifCond .eq 0, 12, [3, 16]), (.aload 0, 13, []), (.iconst (1), 14, []), (.invokestatic 81, 15, [2, 0, 1, 2, 13]), (.ireturn, 16, [3]), (.aload 0, 17, []), (.getfield 6, 18, [12, 2]), (.iload 1, 19, []), (.iaload, 20, []), (.iconst (-1), 21, []), (.if_icmp .eq 0, 22, [0, 28]), (.aload 0, 23, []), (.getfield 6, 24, [12, 2]), (.iload 3, 25, []), (.iaload, 26, []), (.iconst (-1), 27, []), (.if_icmp .eq 0, 28, [1, 32]), (.aload 0, 29, []), (.iconst (2), 30, []), (.invokestatic 81, 31, [2, 0, 1, 2, 13]), (.ireturn, 32, [3]), (.aload 0, 33, []), (.getfield 5, 34, [12, 2]), (.iload 1, 35, []), (.iaload, 36, []), (.aload 0, 37, []), (.getfield 5, 38, [12, 2]), (.iload 3, 39, []), (.iaload, 40, []), (.if_icmp .eq 0, 41, [0, 45]), (.aload 0, 42, []), (.iconst (8), 43, []), (.invokestatic 81, 44, [2, 0, 1, 2, 13]), (.ireturn, 45, [3]), (.iload 5, 46, []), (.aload 0, 47, []), (.getfield 6, 48, [12, 2]), (.iload 1, 49, []), (.iaload, 50, []), (.iload 2, 51, []), (.isub, 52, []), (.if_icmp .eq 0, 53, [4, 61]), (.iload 5, 54, []), (.aload 0, 55, []), (.getfield 6, 56, [12, 2]), (.iload 3, 57, []), (.iaload, 58, []), (.iload 4, 59, []), (.isub, 60, []), (.if_icmp .eq 0, 61, [5, 65]), (.aload 0, 62, []), (.iconst (3), 63, []), (.invokestatic 81, 64, [2, 0, 1, 2, 13]), (.ireturn, 65, [3]), (.iconst (0), 66, []), (.istore 6, 67, []), (.iload 6, 68, []), (.iload 5, 69, []), (.if_icmp .eq 0, 70, [3, 103]), (.iload 2, 71, []), (.iload 4, 72, []), (.if_icmp .eq 0, 73, [3, 79]), (.iload 5, 74, []), (.iconst (1), 75, []), (.isub, 76, []), (.iload 6, 77, []), (.isub, 78, []), (.goto 0, 79, [80]), (.iload 6, 80, []), (.istore 7, 81, []), (.aload 0, 82, []), (.getfield 7, 83, [12, 2]), (.iconst (60), 84, []), (.iload 3, 85, []), (.imul, 86, []), (.iload 4, 87, []), (.iadd, 88, []), (.iload 7, 89, []), (.iadd, 90, []), (.aload 0, 91, []), (.getfield 7, 92, [12, 2]), (.iconst (60), 93, []), (.iload 1, 94, []), (.imul, 95, []), (.iload 2, 96, []), (.iadd, 97, []), (.iload 7, 98, []), (.iadd, 99, []), (.laload, 100, []), (.lastore, 101, []), (.iinc 6 (1), 102, []), (.goto 0, 103, [67]), (.aload 0, 104, []), (.iconst (0), 105, []), (.invokestatic 81, 106, [2, 0, 1, 2, 13]), (.ireturn, 107, [3])]
def k_M_isFrom : mCode := [(.lload 0, 1, []), (.lload 2, 2, []), (.lcmp, 4, [2, 10]), (.ifCond .eq 0, 4, [2, 10]), (.lload 0, 5, []), (.lload 4, 6, []), (.lcmp, 8, [4, 10]), (.ifCond .eq 0, 8, [4, 10]), (.iconst (1), 9, []), (.goto 0, 10, [11]), (.iconst (0), 11, []), (.ireturn, 12, [3])]
def k_M_feed : mCode := [(.aload 0, 1, []), (.getfield 10, 2, [12, 0]), (.iconst (20), 3, []), (.iadd, 4, []), (.iconst (900), 5, []), (.if_icmp .eq 0, 6, [5, 8]), (.iconst (-1), 7, []), (.ireturn, 8, [0]), (.aload 0, 9, []), (.iload 1, 10, []), (.invokestatic 94, 11, [2, 0, 0, 3, 13]), (.aload 0, 12, []), (.iload 2, 13, []), (.invokestatic 94, 14, [2, 0, 0, 3, 13]), (.aload 0, 15, []), (.iload 3, 16, []), (.invokestatic 94, 17, [2, 0, 0, 3, 13]), (.aload 0, 18, []), (.iload 4, 19, []), (.invokestatic 94, 20, [2, 0, 0, 3, 13]), (.aload 0, 21, []), (.iload 5, 22, []), (.invokestatic 94, 23, [2, 0, 0, 3, 13]), (.aload 0, 24, []), (.getfield 10, 25, [12, 0]), (.ireturn, 26, [0])]
def k_M_four : mCode := [(.iconst (24), 1, []), (.istore 2, 2, []), (.iload 2, 3, []), (.ifCond .eq 0, 4, [2, 21]), (.aload 0, 5, []), (.getfield 8, 6, [12, 2]), (.aload 0, 7, []), (.getfield 10, 8, [12, 0]), (.iload 1, 9, []), (.iload 2, 10, []), (.ishr, 11, []), (.i2b, 12, []), (.bastore, 13, []), (.aload 0, 14, []), (.dup, 15, []), (.getfield 10, 16, [12, 0]), (.iconst (1), 17, []), (.iadd, 18, []), (.putfield 10, 19, [12, 0]), (.iinc 2 (-8), 20, []), (.goto 0, 21, [2]), (.return_, 22, [])]
def k_M_byteAt : mCode := [(.iload 1, 1, []), (.aload 0, 2, []), (.getfield 11, 3, [12, 0]), (.if_icmp .eq 0, 4, [3, 11]), (.aload 0, 5, []), (.getfield 9, 6, [12, 2]), (.iload 1, 7, []), (.baload, 8, []), (.iconst (255), 9, []), (.iand, 10, []), (.goto 0, 11, [12]), (.iconst (-1), 12, []), (.ireturn, 13, [0])]
def k_M_isSmall : mCode := [(.iload 0, 1, []), (.iconst (97), 2, []), (.if_icmp .eq 0, 3, [2, 8]), (.iload 0, 4, []), (.iconst (122), 5, []), (.if_icmp .eq 0, 6, [4, 8]), (.iconst (1), 7, []), (.goto 0, 8, [9]), (.iconst (0), 9, []), (.ireturn, 10, [3])]
def k_M_isDigit : mCode := [(.iload 0, 1, []), (.iconst (48), 2, []), (.if_icmp .eq 0, 3, [2, 8]), (.iload 0, 4, []), (.iconst (57), 5, []), (.if_icmp .eq 0, 6, [4, 8]), (.iconst (1), 7, []), (.goto 0, 8, [9]), (.iconst (0), 9, []), (.ireturn, 10, [3])]
def k_M_ahead : mCode := [(.aload 0, 1, []), (.aload 0, 2, []), (.getfield 14, 3, [12, 0]), (.invokestatic 95, 4, [2, 0, 1, 2, 13]), (.iconst (32), 5, []), (.if_icmp .eq 0, 6, [0, 12]), (.aload 0, 7, []), (.aload 0, 8, []), (.getfield 14, 9, [12, 0]), (.invokestatic 95, 10, [2, 0, 1, 2, 13]), (.iconst (10), 11, []), (.if_icmp .eq 0, 12, [1, 19]), (.aload 0, 13, []), (.dup, 14, []), (.getfield 14, 15, [12, 0]), (.iconst (1), 16, []), (.iadd, 17, []), (.putfield 14, 18, [12, 0]), (.goto 0, 19, [0]), (.aload 0, 20, []), (.aload 0, 21, []), (.getfield 14, 22, [12, 0]), (.putfield 13, 23, [12, 0]), (.aload 0, 24, []), (.aload 0, 25, []), (.getfield 14, 26, [12, 0]), (.invokestatic 95, 27, [2, 0, 1, 2, 13]), (.istore 1, 28, []), (.aload 0, 29, []), (.iload 1, 30, []), (.putfield 15, 31, [12, 0]), (.iload 1, 32, []), (.iconst (-1), 33, []), (.if_icmp .eq 0, 34, [1, 38]), (.aload 0, 35, []), (.iconst (0), 36, []), (.putfield 12, 37, [12, 0]), (.goto 0, 38, [128]), (.iload 1, 39, []), (.invokestatic 96, 40, [1, 0, 1, 1, 0]), (.ifCond .eq 0, 41, [0, 58]), (.aload 0, 42, []), (.aload 0, 43, []), (.getfield 14, 44, [12, 0]), (.invokestatic 95, 45, [2, 0, 1, 2, 13]), (.invokestatic 96, 46, [1, 0, 1, 1, 0]), (.ifCond .eq 0, 47, [0, 54]), (.aload 0, 48, []), (.dup, 49, []), (.getfield 14, 50, [12, 0]), (.iconst (1), 51, []), (.iadd, 52, []), (.putfield 14, 53, [12, 0]), (.goto 0, 54, [41]), (.aload 0, 55, []), (.iconst (2), 56, []), (.putfield 12, 57, [12, 0]), (.goto 0, 58, [128]), (.iload 1, 59, []), (.invokestatic 97, 60, [1, 0, 1, 1, 0]), (.ifCond .eq 0, 61, [0, 105]), (.aload 0, 62, []), (.iconst (0), 63, []), (.putfield 15, 64, [12, 0]), (.aload 0, 65, []), (.aload 0, 66, []), (.getfield 14, 67, [12, 0]), (.invokestatic 95, 68, [2, 0, 1, 2, 13]), (.invokestatic 97, 69, [1, 0, 1, 1, 0]), (.ifCond .eq 0, 70, [0, 92]), (.aload 0, 71, []), (.iconst (100000), 72, []), (.iconst (10), 73, []), (.aload 0, 74, []), (.getfield 15, 75, [12, 0]), (.imul, 76, []), (.aload 0, 77, []), (.aload 0, 78, []), (.getfield 14, 79, [12, 0]), (.invokestatic 95, 80, [2, 0, 1, 2, 13]), (.iadd, 81, []), (.iconst (48), 82, []), (.isub, 83, []), (.dsub, 84, []), (.putfield 15, 85, [12, 0]), (.aload 0, 86, []), (.dup, 87, []), (.getfield 14, 88, [12, 0]), (.iconst (1), 89, []), (.iadd, 90, []), (.putfield 14, 91, [12, 0]), (.goto 0, 92, [64]), (.aload 0, 93, []), (.aload 0, 94, []), (.getfield 14, 95, [12, 0]), (.aload 0, 96, []), (.getfield 13, 97, [12, 0]), (.isub, 98, []), (.iconst (4), 99, []), (.if_icmp .eq 0, 100, [5, 102]), (.iconst (1), 101, []), (.goto 0, 102, [103]), (.iconst (3), 103, []), (.putfield 12, 104, [12, 0]), (.goto 0, 105, [128]), (.aload 0, 106, []), (.dup, 107, []), (.getfield 14, 108, [12, 0]), (.iconst (1), 109, []), (.iadd, 110, []), (.putfield 14, 111, [12, 0]), (.aload 0, 112, []), (.iload 1, 113, []), (.iconst (59), 114, []), (.if_icmp .eq 0, 115, [0, 124]), (.iload 1, 116, []), (.iconst (60), 117, []), (.if_icmp .eq 0, 118, [0, 124]), (.iload 1, 119, []), (.iconst (62), 120, []), (.if_icmp .eq 0, 121, [0, 124]), (.iload 1, 122, []), (.iconst (61), 123, []), (.if_icmp .eq 0, 124, [1, 126]), (.iconst (4), 125, []), (.goto 0, 126, [127]), (.iconst (1), 127, []), (.putfield 12, 128, [12, 0]), (.return_, 129, [])]
def k_M_isSign : mCode := [(.aload 0, 1, []), (.getfield 12, 2, [12, 0]), (.iconst (4), 3, []), (.if_icmp .eq 0, 4, [1, 10]), (.aload 0, 5, []), (.getfield 15, 6, [12, 0]), (.iload 1, 7, []), (.if_icmp .eq 0, 8, [1, 10]), (.iconst (1), 9, []), (.goto 0, 10, [11]), (.iconst (0), 11, []), (.ireturn, 12, [3])]
def k_M_inWords : mCode := [(.aload 0, 1, []), (.getfield 12, 2, [12, 0]), (.iconst (2), 3, []), (.if_icmp .eq 0, 4, [0, 6]), (.iconst (-1), 5, []), (.ireturn, 6, [0]), (.iconst (0), 7, []), (.istore 2, 8, []), (.iconst (1), 9, []), (.istore 3, 10, []), (.iload 3, 11, []), (.aload 1, 12, []), (.arraylength, 13, [1]), (.if_icmp .eq 0, 14, [3, 71]), (.iload 3, 15, []), (.istore 4, 16, []), (.aload 1, 17, []), (.iload 4, 18, []), (.caload, 19, []), (.iconst (32), 20, []), (.if_icmp .eq 0, 21, [0, 23]), (.iinc 4 (1), 22, []), (.goto 0, 23, [16]), (.iload 4, 24, []), (.iload 3, 25, []), (.isub, 26, []), (.aload 0, 27, []), (.getfield 14, 28, [12, 0]), (.aload 0, 29, []), (.getfield 13, 30, [12, 0]), (.isub, 31, []), (.if_icmp .eq 0, 32, [1, 34]), (.iconst (1), 33, []), (.goto 0, 34, [35]), (.iconst (0), 35, []), (.istore 5, 36, []), (.iload 3, 37, []), (.istore 6, 38, []), (.iload 6, 39, []), (.iload 4, 40, []), (.if_icmp .eq 0, 41, [3, 61]), (.iload 5, 42, []), (.ifCond .eq 0, 43, [0, 61]), (.aload 1, 44, []), (.iload 6, 45, []), (.caload, 46, []), (.aload 0, 47, []), (.aload 0, 48, []), (.getfield 13, 49, [12, 0]), (.iload 6, 50, []), (.iadd, 51, []), (.iload 3, 52, []), (.isub, 53, []), (.invokestatic 95, 54, [2, 0, 1, 2, 13]), (.if_icmp .eq 0, 55, [1, 57]), (.iconst (1), 56, []), (.goto 0, 57, [58]), (.iconst (0), 58, []), (.istore 5, 59, []), (.iinc 6 (1), 60, []), (.goto 0, 61, [38]), (.iload 5, 62, []), (.ifCond .eq 0, 63, [0, 65]), (.iload 2, 64, []), (.ireturn, 65, [0]), (.iinc 2 (1), 66, []), (.iload 4, 67, []), (.iconst (1), 68, []), (.iadd, 69, []), (.istore 3, 70, []), (.goto 0, 71, [10]), (.iconst (-1), 72, []), (.ireturn, 73, [0])]
def k_M_fails : mCode := [(.aload 0, 1, []), (.getfield 18, 2, [12, 0]), (.ifCond .eq 0, 3, [1, 16]), (.aload 0, 4, []), (.aload 0, 5, []), (.getfield 12, 6, [12, 0]), (.iconst (1), 7, []), (.if_icmp .eq 0, 8, [1, 10]), (.iconst (1), 9, []), (.goto 0, 10, [11]), (.iload 1, 11, []), (.putfield 18, 12, [12, 0]), (.aload 0, 13, []), (.aload 0, 14, []), (.getfield 13, 15, [12, 0]), (.putfield 17, 16, [12, 0]), (.iconst (0), 17, []), (.ireturn, 18, [3])]
def k_M_begins : mCode := [(.iload 1, 1, []), (.ifCond .eq 0, 2, [2, 9]), (.iload 1, 3, []), (.aload 0, 4, []), (.getfield 10, 5, [12, 0]), (.if_icmp .eq 0, 6, [4, 9]), (.iload 1, 7, []), (.iload 2, 8, []), (.if_icmp .eq 0, 9, [5, 11]), (.iconst (0), 10, []), (.ireturn, 11, [3]), (.aload 0, 12, []), (.iload 1, 13, []), (.putfield 11, 14, [12, 0]), (.iconst (0), 15, []), (.istore 3, 16, []), (.iload 3, 17, []), (.iload 1, 18, []), (.if_icmp .eq 0, 19, [3, 29]), (.aload 0, 20, []), (.getfield 9, 21, [12, 2]), (.iload 3, 22, []), (.aload 0, 23, []), (.getfield 8, 24, [12, 2]), (.iload 3, 25, []), (.baload, 26, []), (.bastore, 27, []), (.iinc 3 (1), 28, []), (.goto 0, 29, [16]), (.aload 0, 30, []), (.iconst (0), 31, []), (.putfield 10, 32, [12, 0]), (.aload 0, 33, []), (.iconst (0), 34, []), (.putfield 18, 35, [12, 0]), (.aload 0, 36, []), (.iconst (-1), 37, []), (.putfield 17, 38, [12, 0]), (.aload 0, 39, []), (.iconst (0), 40, []), (.putfield 14, 41, [12, 0]), (.aload 0, 42, []), (.iconst (0), 43, []), (.putfield 19, 44, [12, 0]), (.aload 0, 45, []), (.invokestatic 98, 46, [1, 0, 0, 2, 13]), (.iconst (1), 47, []), (.ireturn, 48, [3])]
def k_M_wantSign : mCode := [(.aload 0, 1, []), (.iload 1, 2, []), (.invokestatic 99, 3, [2, 0, 1, 2, 13]), (.ifCond .eq 0, 4, [1, 8]), (.aload 0, 5, []), (.iconst (2), 6, []), (.invokestatic 101, 7, [2, 0, 1, 2, 13]), (.ireturn, 8, [3]), (.aload 0, 9, []), (.invokestatic 98, 10, [1, 0, 0, 2, 13]), (.iconst (1), 11, []), (.ireturn, 12, [3])]
def k_M_wantWord : mCode := [(.aload 0, 1, []), (.aload 1, 2, []), (.invokestatic 100, 3, [2, 0, 1, 7, 13]), (.iload 2, 4, []), (.if_icmp .eq 0, 5, [0, 9]), (.aload 0, 6, []), (.iconst (2), 7, []), (.invokestatic 101, 8, [2, 0, 1, 2, 13]), (.ireturn, 9, [3]), (.aload 0, 10, []), (.invokestatic 98, 11, [1, 0, 0, 2, 13]), (.iconst (1), 12, []), (.ireturn, 13, [3])]
def k_M_number : mCode := [(.aload 0, 1, []), (.getfield 12, 2, [12, 0]), (.iconst (3), 3, []), (.if_icmp .eq 0, 4, [0, 8]), (.aload 0, 5, []), (.iconst (2), 6, []), (.invokestatic 101, 7, [2, 0, 1, 2, 13]), (.ireturn, 8, [3]), (.aload 0, 9, []), (.getfield 15, 10, [12, 0]), (.iload 2, 11, []), (.if_icmp .eq 0, 12, [2, 16]), (.aload 0, 13, []), (.getfield 15, 14, [12, 0]), (.iload 3, 15, []), (.if_icmp .eq 0, 16, [5, 20]), (.aload 0, 17, []), (.iconst (4), 18, []), (.invokestatic 101, 19, [2, 0, 1, 2, 13]), (.ireturn, 20, [3]), (.aload 0, 21, []), (.getfield 0, 22, [12, 2]), (.iload 1, 23, []), (.aload 0, 24, []), (.getfield 15, 25, [12, 0]), (.iastore, 26, []), (.aload 0, 27, []), (.invokestatic 98, 28, [1, 0, 0, 2, 13]), (.iconst (1), 29, []), (.ireturn, 30, [3])]
def k_M_isName : mCode := [(.aload 0, 1, []), (.getfield 12, 2, [12, 0]), (.iconst (2), 3, []), (.if_icmp .eq 0, 4, [1, 18]), (.aload 0, 5, []), (.getfield 14, 6, [12, 0]), (.aload 0, 7, []), (.getfield 13, 8, [12, 0]), (.isub, 9, []), (.iconst (8), 10, []), (.if_icmp .eq 0, 11, [4, 18]), (.aload 0, 12, []), (.aload 1, 13, []), (.invokestatic 100, 14, [2, 0, 1, 7, 13]), (.iconst (-1), 15, []), (.if_icmp .eq 0, 16, [1, 18]), (.iconst (1), 17, []), (.goto 0, 18, [19]), (.iconst (0), 19, []), (.ireturn, 20, [3])]
def k_M_nameHere : mCode := [(.sipush (0), 1, []), (.lstore 1, 2, []), (.aload 0, 3, []), (.getfield 13, 4, [12, 0]), (.istore 3, 5, []), (.iload 3, 6, []), (.aload 0, 7, []), (.getfield 14, 8, [12, 0]), (.if_icmp .eq 0, 9, [3, 20]), (.lload 1, 10, []), (.iconst (8), 11, []), (.lshl, 12, []), (.aload 0, 13, []), (.iload 3, 14, []), (.invokestatic 95, 15, [2, 0, 1, 2, 13]), (.i2l, 16, []), (.lor, 17, []), (.lstore 1, 18, []), (.iinc 3 (1), 19, []), (.goto 0, 20, [5]), (.lload 1, 21, []), (.lreturn, 22, [])]
def k_M_findHere : mCode := [(.iconst (0), 1, []), (.istore 3, 2, []), (.iload 3, 3, []), (.iload 2, 4, []), (.if_icmp .eq 0, 5, [3, 19]), (.aload 0, 6, []), (.getfield 1, 7, [12, 2]), (.iload 1, 8, []), (.iload 3, 9, []), (.iadd, 10, []), (.laload, 11, []), (.aload 0, 12, []), (.invokestatic 107, 13, [1, 0, 2, 4, 13]), (.lcmp, 15, [1, 17]), (.ifCond .eq 0, 15, [1, 17]), (.iload 3, 16, []), (.ireturn, 17, [0]), (.iinc 3 (1), 18, []), (.goto 0, 19, [2]), (.iconst (-1), 20, []), (.ireturn, 21, [0])]
def k_M_fault : mCode := [(.iload 1, 1, []), (.ifCond .eq 0, 2, [1, 5]), (.aload 0, 3, []), (.getfield 16, 4, [12, 0]), (.goto 0, 5, [12]), (.iload 1, 6, []), (.iconst (1), 7, []), (.if_icmp .eq 0, 8, [1, 11]), (.aload 0, 9, []), (.getfield 17, 10, [12, 0]), (.goto 0, 11, [12]), (.iconst (-1), 12, []), (.ireturn, 13, [0])]
def k_M_taken : mCode := [(.aload 0, 1, []), (.aload 0, 2, []), (.getfield 18, 3, [12, 0]), (.putfield 16, 4, [12, 0]), (.aload 0, 5, []), (.getfield 18, 6, [12, 0]), (.ifCond .eq 0, 7, [5, 11]), (.aload 0, 8, []), (.iconst (9), 9, []), (.invokestatic 82, 10, [2, 0, 1, 2, 13]), (.goto 0, 11, [14]), (.aload 0, 12, []), (.iload 1, 13, []), (.invokestatic 83, 14, [2, 0, 1, 2, 13]), (.ireturn, 15, [0])]
def k_M_personRow : mCode := [(.iconst (10), 1, []), (.iconst (5), 2, []), (.iload 0, 3, []), (.imul, 4, []), (.iadd, 5, []), (.ireturn, 6, [0])]
def k_M_isIn : mCode := [(.iload 1, 1, []), (.iload 2, 2, []), (.ishr, 3, []), (.iconst (1), 4, []), (.iand, 5, []), (.iconst (1), 6, []), (.if_icmp .eq 0, 7, [1, 9]), (.iconst (1), 8, []), (.goto 0, 9, [10]), (.iconst (0), 10, []), (.ireturn, 11, [3])]
def k_M_isThere : mCode := [(.aload 0, 1, []), (.ldc 6, 2, []), (.invokestatic 100, 3, [2, 0, 1, 7, 13]), (.iload 1, 4, []), (.if_icmp .eq 0, 5, [0, 7]), (.iconst (0), 6, []), (.ireturn, 7, [3]), (.aload 0, 8, []), (.invokestatic 98, 9, [1, 0, 0, 2, 13]), (.iconst (1), 10, []), (.ireturn, 11, [3])]
def k_M_perhaps : mCode := [(.aload 0, 1, []), (.iload 1, 2, []), (.invokestatic 113, 3, [2, 0, 1, 2, 13]), (.ifCond .eq 0, 4, [0, 10]), (.aload 0, 5, []), (.iload 2, 6, []), (.iload 3, 7, []), (.iload 4, 8, []), (.invokestatic 105, 9, [4, 0, 1, 4, 13]), (.ireturn, 10, [3]), (.aload 0, 11, []), (.getfield 0, 12, [12, 2]), (.iload 2, 13, []), (.iload 5, 14, []), (.iastore, 15, []), (.iconst (1), 16, []), (.ireturn, 17, [3])]
def k_M_leastOf : mCode := [(.iload 0, 1, []), (.iconst (3), 2, []), (.if_icmp .eq 0, 3, [0, 6]), (.iload 0, 4, []), (.iconst (5), 5, []), (.if_icmp .eq 0, 6, [2, 8]), (.iconst (1), 7, []), (.goto 0, 8, [9]), (.iconst (0), 9, []), (.ireturn, 10, [0])]
def k_M_mostOf : mCode := [(.iload 0, 1, []), (.tableswitch 0 (1) 0 #[], 2, [10, 2, 2, 4, 6, 8]), (.iconst (16), 3, []), (.ireturn, 4, [0]), (.iconst (99), 5, []), (.ireturn, 6, [0]), (.iconst (30), 7, []), (.ireturn, 8, [0]), (.iconst (20), 9, []), (.ireturn, 10, [0]), (.iconst (9), 11, []), (.ireturn, 12, [0])]
def k_M_aPerson : mCode := [(.aload 0, 1, []), (.getfield 0, 2, [12, 2]), (.iconst (1656), 3, []), (.iaload, 4, []), (.istore 1, 5, []), (.iconst (1656), 6, []), (.iload 1, 7, []), (.invokestatic 111, 8, [1, 0, 1, 1, 0]), (.iadd, 9, []), (.istore 2, 10, []), (.iload 1, 11, []), (.iconst (7), 12, []), (.if_icmp .eq 0, 13, [1, 17]), (.aload 0, 14, []), (.iconst (6), 15, []), (.invokestatic 101, 16, [2, 0, 1, 2, 13]), (.ireturn, 17, [3]), (.aload 0, 18, []), (.invokestatic 98, 19, [1, 0, 0, 2, 13]), (.aload 0, 20, []), (.ldc 6, 21, []), (.invokestatic 106, 22, [2, 0, 1, 2, 13]), (.ifCond .eq 0, 23, [1, 27]), (.aload 0, 24, []), (.iconst (2), 25, []), (.invokestatic 101, 26, [2, 0, 1, 2, 13]), (.ireturn, 27, [3]), (.aload 0, 28, []), (.iconst (28), 29, []), (.iload 1, 30, []), (.invokestatic 108, 31, [3, 0, 1, 4, 13]), (.iconst (-1), 32, []), (.if_icmp .eq 0, 33, [0, 37]), (.aload 0, 34, []), (.iconst (3), 35, []), (.invokestatic 101, 36, [2, 0, 1, 2, 13]), (.ireturn, 37, [3]), (.aload 0, 38, []), (.getfield 1, 39, [12, 2]), (.iconst (28), 40, []), (.iload 1, 41, []), (.iadd, 42, []), (.aload 0, 43, []), (.invokestatic 107, 44, [1, 0, 2, 4, 13]), (.lastore, 45, []), (.aload 0, 46, []), (.invokestatic 98, 47, [1, 0, 0, 2, 13]), (.aload 0, 48, []), (.ldc 6, 49, []), (.iconst (8), 50, []), (.invokestatic 104, 51, [3, 0, 1, 3, 13]), (.ifCond .eq 0, 52, [0, 68]), (.aload 0, 53, []), (.iload 2, 54, []), (.iconst (0), 55, []), (.iconst (59), 56, []), (.invokestatic 105, 57, [4, 0, 1, 4, 13]), (.ifCond .eq 0, 58, [0, 68]), (.aload 0, 59, []), (.iconst (9), 60, []), (.iload 2, 61, []), (.iconst (1), 62, []), (.iadd, 63, []), (.iconst (0), 64, []), (.iconst (9), 65, []), (.iconst (1), 66, []), (.invokestatic 114, 67, [6, 0, 1, 6, 13]), (.ifCond .eq 0, 68, [1, 70]), (.iconst (0), 69, []), (.ireturn, 70, [3]), (.aload 0, 71, []), (.iconst (10), 72, []), (.iload 2, 73, []), (.iconst (2), 74, []), (.iadd, 75, []), (.iconst (0), 76, []), (.iconst (99), 77, []), (.iconst (0), 78, []), (.invokestatic 114, 79, [6, 0, 1, 6, 13]), (.ifCond .eq 0, 80, [0, 90]), (.aload 0, 81, []), (.iconst (11), 82, []), (.iload 2, 83, []), (.iconst (3), 84, []), (.iadd, 85, []), (.iconst (0), 86, []), (.iconst (9), 87, []), (.iconst (2), 88, []), (.invokestatic 114, 89, [6, 0, 1, 6, 13]), (.ifCond .eq 0, 90, [1, 92]), (.iconst (0), 91, []), (.ireturn, 92, [3]), (.aload 0, 93, []), (.getfield 0, 94, [12, 2]), (.iload 2, 95, []), (.iconst (4), 96, []), (.iadd, 97, []), (.iconst (-1), 98, []), (.iastore, 99, []), (.aload 0, 100, []), (.getfield 0, 101, [12, 2]), (.iconst (1656), 102, []), (.dup2, 103, []), (.iaload, 104, []), (.iconst (1), 105, []), (.iadd, 106, []), (.iastore, 107, []), (.iconst (1), 108, []), (.ireturn, 109, [3])]
def k_M_aToast : mCode := [(.iconst (2062), 1, []), (.istore 1, 2, []), (.aload 0, 3, []), (.invokestatic 98, 4, [1, 0, 0, 2, 13]), (.aload 0, 5, []), (.ldc 6, 6, []), (.invokestatic 106, 7, [2, 0, 1, 2, 13]), (.ifCond .eq 0, 8, [1, 12]), (.aload 0, 9, []), (.iconst (2), 10, []), (.invokestatic 101, 11, [2, 0, 1, 2, 13]), (.ireturn, 12, [3]), (.aload 0, 13, []), (.iconst (28), 14, []), (.aload 0, 15, []), (.getfield 0, 16, [12, 2]), (.iconst (1656), 17, []), (.iaload, 18, []), (.invokestatic 108, 19, [3, 0, 1, 4, 13]), (.istore 2, 20, []), (.iload 2, 21, []), (.iconst (-1), 22, []), (.if_icmp .eq 0, 23, [1, 27]), (.aload 0, 24, []), (.iconst (3), 25, []), (.invokestatic 101, 26, [2, 0, 1, 2, 13]), (.ireturn, 27, [3]), (.aload 0, 28, []), (.getfield 0, 29, [12, 2]), (.iconst (1656), 30, []), (.iload 2, 31, []), (.invokestatic 111, 32, [1, 0, 1, 1, 0]), (.iadd, 33, []), (.iconst (4), 34, []), (.iadd, 35, []), (.iaload, 36, []), (.iconst (-1), 37, []), (.if_icmp .eq 0, 38, [0, 42]), (.aload 0, 39, []), (.iconst (5), 40, []), (.invokestatic 101, 41, [2, 0, 1, 2, 13]), (.ireturn, 42, [3]), (.aload 0, 43, []), (.invokestatic 98, 44, [1, 0, 0, 2, 13]), (.aload 0, 45, []), (.ldc 6, 46, []), (.iconst (12), 47, []), (.invokestatic 104, 48, [3, 0, 1, 3, 13]), (.ifCond .eq 0, 49, [1, 51]), (.iconst (0), 50, []), (.ireturn, 51, [3]), (.aload 0, 52, []), (.ldc 6, 53, []), (.invokestatic 106, 54, [2, 0, 1, 2, 13]), (.ifCond .eq 0, 55, [1, 59]), (.aload 0, 56, []), (.iconst (2), 57, []), (.invokestatic 101, 58, [2, 0, 1, 2, 13]), (.ireturn, 59, [3]), (.aload 0, 60, []), (.getfield 0, 61, [12, 2]), (.iload 1, 62, []), (.aload 0, 63, []), (.iconst (28), 64, []), (.aload 0, 65, []), (.getfield 0, 66, [12, 2]), (.iconst (1656), 67, []), (.iaload, 68, []), (.invokestatic 108, 69, [3, 0, 1, 4, 13]), (.iastore, 70, []), (.aload 0, 71, []), (.getfield 0, 72, [12, 2]), (.iload 1, 73, []), (.iaload, 74, []), (.iconst (-1), 75, []), (.if_icmp .eq 0, 76, [1, 80]), (.aload 0, 77, []), (.iconst (3), 78, []), (.invokestatic 101, 79, [2, 0, 1, 2, 13]), (.ireturn, 80, [3]), (.aload 0, 81, []), (.getfield 0, 82, [12, 2]), (.iload 1, 83, []), (.iaload, 84, []), (.iload 2, 85, []), (.if_icmp .eq 0, 86, [1, 90]), (.aload 0, 87, []), (.iconst (5), 88, []), (.invokestatic 101, 89, [2, 0, 1, 2, 13]), (.ireturn, 90, [3]), (.aload 0, 91, []), (.getfield 0, 92, [12, 2]), (.iconst (1656), 93, []), (.iload 2, 94, []), (.invokestatic 111, 95, [1, 0, 1, 1, 0]), (.iadd, 96, []), (.iconst (4), 97, []), (.iadd, 98, []), (.aload 0, 99, []), (.getfield 0, 100, [12, 2]), (.iload 1, 101, []), (.iaload, 102, []), (.iastore, 103, []), (.aload 0, 104, []), (.invokestatic 98, 105, [1, 0, 0, 2, 13]), (.iconst (1), 106, []), (.ireturn, 107, [3])]
def k_M_mapPart : mCode := [(.aload 0, 1, []), (.ldc 6, 2, []), (.invokestatic 100, 3, [2, 0, 1, 7, 13]), (.istore 1, 4, []), (.iload 1, 5, []), (.ifCond .eq 0, 6, [2, 9]), (.iload 1, 7, []), (.iconst (7), 8, []), (.if_icmp .eq 0, 9, [5, 13]), (.aload 0, 10, []), (.iconst (2), 11, []), (.invokestatic 101, 12, [2, 0, 1, 2, 13]), (.ireturn, 13, [3]), (.iload 1, 14, []), (.iconst (5), 15, []), (.if_icmp .eq 0, 16, [4, 26]), (.aload 0, 17, []), (.aload 0, 18, []), (.getfield 20, 19, [12, 0]), (.iload 1, 20, []), (.invokestatic 112, 21, [3, 0, 1, 3, 13]), (.ifCond .eq 0, 22, [0, 26]), (.aload 0, 23, []), (.iconst (5), 24, []), (.invokestatic 101, 25, [2, 0, 1, 2, 13]), (.ireturn, 26, [3]), (.iload 1, 27, []), (.iconst (6), 28, []), (.if_icmp .eq 0, 29, [1, 40]), (.aload 0, 30, []), (.invokestatic 117, 31, [1, 0, 1, 3, 13]), (.ifCond .eq 0, 32, [0, 38]), (.aload 0, 33, []), (.iconst (59), 34, []), (.invokestatic 103, 35, [2, 0, 1, 2, 13]), (.ifCond .eq 0, 36, [0, 38]), (.iconst (1), 37, []), (.goto 0, 38, [39]), (.iconst (0), 39, []), (.ireturn, 40, [3]), (.iload 1, 41, []), (.iconst (6), 42, []), (.if_icmp .eq 0, 43, [5, 54]), (.aload 0, 44, []), (.invokestatic 118, 45, [1, 0, 1, 3, 13]), (.ifCond .eq 0, 46, [0, 52]), (.aload 0, 47, []), (.iconst (59), 48, []), (.invokestatic 103, 49, [2, 0, 1, 2, 13]), (.ifCond .eq 0, 50, [0, 52]), (.iconst (1), 51, []), (.goto 0, 52, [53]), (.iconst (0), 53, []), (.ireturn, 54, [3]), (.aload 0, 55, []), (.dup, 56, []), (.getfield 20, 57, [12, 0]), (.iconst (1), 58, []), (.iload 1, 59, []), (.ishl, 60, []), (.ior, 61, []), (.putfield 20, 62, [12, 0]), (.aload 0, 63, []), (.invokestatic 98, 64, [1, 0, 0, 2, 13]), (.aload 0, 65, []), (.iconst (1656), 66, []), (.iload 1, 67, []), (.iadd, 68, []), (.iconst (1), 69, []), (.iadd, 70, []), (.iload 1, 71, []), (.iconst (1), 72, []), (.iadd, 73, []), (.invokestatic 115, 74, [1, 0, 1, 1, 0]), (.iload 1, 75, []), (.iconst (1), 76, []), (.iadd, 77, []), (.invokestatic 116, 78, [1, 0, 1, 1, 0]), (.invokestatic 105, 79, [4, 0, 1, 4, 13]), (.ifCond .eq 0, 80, [0, 86]), (.aload 0, 81, []), (.iconst (59), 82, []), (.invokestatic 103, 83, [2, 0, 1, 2, 13]), (.ifCond .eq 0, 84, [0, 86]), (.iconst (1), 85, []), (.goto 0, 86, [87]), (.iconst (0), 87, []), (.ireturn, 88, [3])]
def k_M_map : mCode := [(.aload 0, 1, []), (.iload 1, 2, []), (.iconst (900), 3, []), (.invokestatic 102, 4, [3, 0, 1, 4, 13]), (.ifCond .eq 0, 5, [1, 9]), (.aload 0, 6, []), (.iconst (1), 7, []), (.invokestatic 82, 8, [2, 0, 1, 2, 13]), (.ireturn, 9, [0]), (.aload 0, 10, []), (.iconst (1656), 11, []), (.invokestatic 77, 12, [2, 0, 0, 3, 13]), (.aload 0, 13, []), (.iconst (0), 14, []), (.putfield 20, 15, [12, 0]), (.iconst (1), 16, []), (.istore 2, 17, []), (.iload 2, 18, []), (.ifCond .eq 0, 19, [0, 26]), (.aload 0, 20, []), (.getfield 12, 21, [12, 0]), (.ifCond .eq 0, 22, [0, 26]), (.aload 0, 23, []), (.invokestatic 119, 24, [1, 0, 1, 2, 13]), (.istore 2, 25, []), (.goto 0, 26, [17]), (.aload 0, 27, []), (.getfield 18, 28, [12, 0]), (.ifCond .eq 0, 29, [1, 63]), (.iconst (0), 30, []), (.istore 3, 31, []), (.iload 3, 32, []), (.iconst (414), 33, []), (.if_icmp .eq 0, 34, [3, 46]), (.aload 0, 35, []), (.getfield 0, 36, [12, 2]), (.iload 3, 37, []), (.aload 0, 38, []), (.getfield 0, 39, [12, 2]), (.iconst (1656), 40, []), (.iload 3, 41, []), (.iadd, 42, []), (.iaload, 43, []), (.iastore, 44, []), (.iinc 3 (1), 45, []), (.goto 0, 46, [31]), (.iconst (0), 47, []), (.istore 3, 48, []), (.iload 3, 49, []), (.iconst (7), 50, []), (.if_icmp .eq 0, 51, [3, 63]), (.aload 0, 52, []), (.getfield 1, 53, [12, 2]), (.iload 3, 54, []), (.aload 0, 55, []), (.getfield 1, 56, [12, 2]), (.iconst (28), 57, []), (.iload 3, 58, []), (.iadd, 59, []), (.laload, 60, []), (.lastore, 61, []), (.iinc 3 (1), 62, []), (.goto 0, 63, [48]), (.aload 0, 64, []), (.aload 0, 65, []), (.getfield 0, 66, [12, 2]), (.iconst (0), 67, []), (.iaload, 68, []), (.invokestatic 110, 69, [2, 0, 1, 2, 13]), (.ireturn, 70, [0])]
def k_M_personTo : mCode := [(.aload 0, 1, []), (.ldc 6, 2, []), (.invokestatic 106, 3, [2, 0, 1, 2, 13]), (.ifCond .eq 0, 4, [1, 8]), (.aload 0, 5, []), (.iconst (2), 6, []), (.invokestatic 101, 7, [2, 0, 1, 2, 13]), (.ireturn, 8, [3]), (.aload 0, 9, []), (.getfield 0, 10, [12, 2]), (.iload 1, 11, []), (.aload 0, 12, []), (.iconst (0), 13, []), (.aload 0, 14, []), (.getfield 0, 15, [12, 2]), (.iconst (0), 16, []), (.iaload, 17, []), (.invokestatic 108, 18, [3, 0, 1, 4, 13]), (.iastore, 19, []), (.aload 0, 20, []), (.getfield 0, 21, [12, 2]), (.iload 1, 22, []), (.iaload, 23, []), (.iconst (-1), 24, []), (.if_icmp .eq 0, 25, [1, 29]), (.aload 0, 26, []), (.iconst (3), 27, []), (.invokestatic 101, 28, [2, 0, 1, 2, 13]), (.ireturn, 29, [3]), (.aload 0, 30, []), (.invokestatic 98, 31, [1, 0, 0, 2, 13]), (.iconst (1), 32, []), (.ireturn, 33, [3])]
def k_M_test : mCode := [(.aload 0, 1, []), (.ldc 6, 2, []), (.invokestatic 100, 3, [2, 0, 1, 7, 13]), (.istore 2, 4, []), (.iload 2, 5, []), (.iconst (22), 6, []), (.if_icmp .eq 0, 7, [0, 17]), (.iload 2, 8, []), (.iconst (10), 9, []), (.if_icmp .eq 0, 10, [0, 17]), (.iload 2, 11, []), (.iconst (11), 12, []), (.if_icmp .eq 0, 13, [0, 17]), (.aload 0, 14, []), (.iconst (2), 15, []), (.invokestatic 101, 16, [2, 0, 1, 2, 13]), (.ireturn, 17, [3]), (.aload 0, 18, []), (.getfield 0, 19, [12, 2]), (.iload 1, 20, []), (.iconst (1800), 21, []), (.iload 2, 22, []), (.iadd, 23, []), (.iastore, 24, []), (.aload 0, 25, []), (.invokestatic 98, 26, [1, 0, 0, 2, 13]), (.aload 0, 27, []), (.iload 1, 28, []), (.iconst (1), 29, []), (.iadd, 30, []), (.invokestatic 121, 31, [2, 0, 1, 2, 13]), (.ifCond .eq 0, 32, [1, 34]), (.iconst (0), 33, []), (.ireturn, 34, [3]), (.iload 2, 35, []), (.iconst (22), 36, []), (.if_icmp .eq 0, 37, [1, 39]), (.iconst (1), 38, []), (.ireturn, 39, [3]), (.aload 0, 40, []), (.iconst (60), 41, []), (.invokestatic 99, 42, [2, 0, 1, 2, 13]), (.ifCond .eq 0, 43, [1, 55]), (.aload 0, 44, []), (.iconst (62), 45, []), (.invokestatic 99, 46, [2, 0, 1, 2, 13]), (.ifCond .eq 0, 47, [1, 55]), (.aload 0, 48, []), (.iconst (61), 49, []), (.invokestatic 99, 50, [2, 0, 1, 2, 13]), (.ifCond .eq 0, 51, [1, 55]), (.aload 0, 52, []), (.iconst (2), 53, []), (.invokestatic 101, 54, [2, 0, 1, 2, 13]), (.ireturn, 55, [3]), (.aload 0, 56, []), (.getfield 0, 57, [12, 2]), (.iload 1, 58, []), (.iconst (5), 59, []), (.iadd, 60, []), (.aload 0, 61, []), (.getfield 15, 62, [12, 0]), (.iastore, 63, []), (.aload 0, 64, []), (.invokestatic 98, 65, [1, 0, 0, 2, 13]), (.aload 0, 66, []), (.iload 1, 67, []), (.iconst (2), 68, []), (.iadd, 69, []), (.iconst (0), 70, []), (.iload 2, 71, []), (.iconst (10), 72, []), (.if_icmp .eq 0, 73, [1, 75]), (.iconst (99), 74, []), (.goto 0, 75, [76]), (.iconst (9), 76, []), (.invokestatic 105, 77, [4, 0, 1, 4, 13]), (.ireturn, 78, [3])]
def k_M_timeOrder : mCode := [(.iload 1, 1, []), (.tableswitch 0 (13) 0 #[], 2, [46, 2, 8, 46, 16, 46, 42, 34]), (.aload 0, 3, []), (.iload 2, 4, []), (.iconst (1), 5, []), (.iadd, 6, []), (.invokestatic 121, 7, [2, 0, 1, 2, 13]), (.ireturn, 8, [3]), (.aload 0, 9, []), (.iload 2, 10, []), (.iconst (1), 11, []), (.iadd, 12, []), (.iconst (1), 13, []), (.iconst (20), 14, []), (.invokestatic 105, 15, [4, 0, 1, 4, 13]), (.ireturn, 16, [3]), (.aload 0, 17, []), (.iload 2, 18, []), (.iconst (1), 19, []), (.iadd, 20, []), (.invokestatic 121, 21, [2, 0, 1, 2, 13]), (.ifCond .eq 0, 22, [0, 32]), (.aload 0, 23, []), (.iload 2, 24, []), (.iconst (2), 25, []), (.iadd, 26, []), (.iconst (0), 27, []), (.iconst (9), 28, []), (.invokestatic 105, 29, [4, 0, 1, 4, 13]), (.ifCond .eq 0, 30, [0, 32]), (.iconst (1), 31, []), (.goto 0, 32, [33]), (.iconst (0), 33, []), (.ireturn, 34, [3]), (.aload 0, 35, []), (.iload 2, 36, []), (.iconst (1), 37, []), (.iadd, 38, []), (.iconst (1), 39, []), (.iconst (99), 40, []), (.invokestatic 105, 41, [4, 0, 1, 4, 13]), (.ireturn, 42, [3]), (.aload 0, 43, []), (.iload 2, 44, []), (.invokestatic 122, 45, [2, 0, 1, 3, 13]), (.ireturn, 46, [3]), (.iconst (1), 47, []), (.ireturn, 48, [3])]
def k_M_timeStep : mCode := [(.aload 0, 1, []), (.ldc 6, 2, []), (.invokestatic 100, 3, [2, 0, 1, 7, 13]), (.istore 1, 4, []), (.aload 0, 5, []), (.getfield 0, 6, [12, 2]), (.iconst (1664), 7, []), (.iaload, 8, []), (.istore 2, 9, []), (.iconst (1702), 10, []), (.iconst (6), 11, []), (.iload 2, 12, []), (.imul, 13, []), (.iadd, 14, []), (.istore 3, 15, []), (.iload 1, 16, []), (.iconst (18), 17, []), (.if_icmp .eq 0, 18, [0, 21]), (.iload 1, 19, []), (.iconst (19), 20, []), (.if_icmp .eq 0, 21, [1, 23]), (.iconst (1), 22, []), (.goto 0, 23, [24]), (.iconst (0), 24, []), (.istore 4, 25, []), (.iload 1, 26, []), (.iconst (13), 27, []), (.if_icmp .eq 0, 28, [2, 37]), (.iload 1, 29, []), (.iconst (21), 30, []), (.if_icmp .eq 0, 31, [4, 37]), (.iload 1, 32, []), (.iconst (20), 33, []), (.if_icmp .eq 0, 34, [1, 41]), (.aload 0, 35, []), (.getfield 22, 36, [12, 0]), (.ifCond .eq 0, 37, [1, 41]), (.aload 0, 38, []), (.iconst (2), 39, []), (.invokestatic 101, 40, [2, 0, 1, 2, 13]), (.ireturn, 41, [3]), (.iload 1, 42, []), (.iconst (20), 43, []), (.if_icmp .eq 0, 44, [0, 52]), (.aload 0, 45, []), (.getfield 23, 46, [12, 0]), (.iconst (30), 47, []), (.if_icmp .eq 0, 48, [1, 52]), (.aload 0, 49, []), (.iconst (6), 50, []), (.invokestatic 101, 51, [2, 0, 1, 2, 13]), (.ireturn, 52, [3]), (.iload 4, 53, []), (.ifCond .eq 0, 54, [0, 62]), (.aload 0, 55, []), (.getfield 22, 56, [12, 0]), (.iconst (3), 57, []), (.if_icmp .eq 0, 58, [1, 62]), (.aload 0, 59, []), (.iconst (7), 60, []), (.invokestatic 101, 61, [2, 0, 1, 2, 13]), (.ireturn, 62, [3]), (.aload 0, 63, []), (.dup, 64, []), (.getfield 23, 65, [12, 0]), (.iload 1, 66, []), (.iconst (20), 67, []), (.if_icmp .eq 0, 68, [1, 70]), (.iconst (0), 69, []), (.goto 0, 70, [71]), (.iconst (1), 71, []), (.iadd, 72, []), (.putfield 23, 73, [12, 0]), (.aload 0, 74, []), (.getfield 0, 75, [12, 2]), (.iload 3, 76, []), (.iload 1, 77, []), (.iastore, 78, []), (.iconst (1), 79, []), (.istore 5, 80, []), (.iload 5, 81, []), (.iconst (6), 82, []), (.if_icmp .eq 0, 83, [3, 92]), (.aload 0, 84, []), (.getfield 0, 85, [12, 2]), (.iload 3, 86, []), (.iload 5, 87, []), (.iadd, 88, []), (.iconst (0), 89, []), (.iastore, 90, []), (.iinc 5 (1), 91, []), (.goto 0, 92, [80]), (.aload 0, 93, []), (.getfield 0, 94, [12, 2]), (.iconst (1664), 95, []), (.dup2, 96, []), (.iaload, 97, []), (.iconst (1), 98, []), (.iadd, 99, []), (.iastore, 100, []), (.aload 0, 101, []), (.invokestatic 98, 102, [1, 0, 0, 2, 13]), (.aload 0, 103, []), (.iload 1, 104, []), (.iload 3, 105, []), (.invokestatic 123, 106, [3, 0, 1, 3, 13]), (.ifCond .eq 0, 107, [1, 109]), (.iconst (0), 108, []), (.ireturn, 109, [3]), (.iload 4, 110, []), (.ifCond .eq 0, 111, [0, 123]), (.aload 0, 112, []), (.getfield 21, 113, [12, 2]), (.aload 0, 114, []), (.getfield 22, 115, [12, 0]), (.iload 2, 116, []), (.iastore, 117, []), (.aload 0, 118, []), (.dup, 119, []), (.getfield 22, 120, [12, 0]), (.iconst (1), 121, []), (.iadd, 122, []), (.putfield 22, 123, [12, 0]), (.iload 1, 124, []), (.iconst (20), 125, []), (.if_icmp .eq 0, 126, [1, 158]), (.aload 0, 127, []), (.dup, 128, []), (.getfield 22, 129, [12, 0]), (.iconst (1), 130, []), (.isub, 131, []), (.putfield 22, 132, [12, 0]), (.aload 0, 133, []), (.getfield 0, 134, [12, 2]), (.iload 3, 135, []), (.iconst (4), 136, []), (.iadd, 137, []), (.aload 0, 138, []), (.getfield 21, 139, [12, 2]), (.aload 0, 140, []), (.getfield 22, 141, [12, 0]), (.iaload, 142, []), (.iastore, 143, []), (.aload 0, 144, []), (.getfield 0, 145, [12, 2]), (.iconst (1702), 146, []), (.iconst (6), 147, []), (.aload 0, 148, []), (.getfield 21, 149, [12, 2]), (.aload 0, 150, []), (.getfield 22, 151, [12, 0]), (.iaload, 152, []), (.imul, 153, []), (.iadd, 154, []), (.iconst (4), 155, []), (.iadd, 156, []), (.iload 2, 157, []), (.iastore, 158, []), (.aload 0, 159, []), (.iconst (59), 160, []), (.invokestatic 103, 161, [2, 0, 1, 2, 13]), (.ireturn, 162, [3])]
def k_M_times : mCode := [(.aload 0, 1, []), (.iload 1, 2, []), (.iconst (300), 3, []), (.invokestatic 102, 4, [3, 0, 1, 4, 13]), (.ifCond .eq 0, 5, [1, 9]), (.aload 0, 6, []), (.iconst (1), 7, []), (.invokestatic 82, 8, [2, 0, 1, 2, 13]), (.ireturn, 9, [0]), (.aload 0, 10, []), (.getfield 0, 11, [12, 2]), (.iconst (1664), 12, []), (.iconst (0), 13, []), (.iastore, 14, []), (.aload 0, 15, []), (.iconst (0), 16, []), (.putfield 22, 17, [12, 0]), (.aload 0, 18, []), (.iconst (0), 19, []), (.putfield 23, 20, [12, 0]), (.iconst (1), 21, []), (.istore 2, 22, []), (.iload 2, 23, []), (.ifCond .eq 0, 24, [0, 31]), (.aload 0, 25, []), (.getfield 12, 26, [12, 0]), (.ifCond .eq 0, 27, [0, 31]), (.aload 0, 28, []), (.invokestatic 124, 29, [1, 0, 1, 6, 13]), (.istore 2, 30, []), (.goto 0, 31, [22]), (.aload 0, 32, []), (.getfield 18, 33, [12, 0]), (.ifCond .eq 0, 34, [1, 41]), (.aload 0, 35, []), (.getfield 22, 36, [12, 0]), (.ifCond .eq 0, 37, [5, 41]), (.aload 0, 38, []), (.iconst (2), 39, []), (.invokestatic 101, 40, [2, 0, 1, 2, 13]), (.pop, 41, []), (.aload 0, 42, []), (.getfield 18, 43, [12, 0]), (.ifCond .eq 0, 44, [1, 69]), (.aload 0, 45, []), (.getfield 0, 46, [12, 2]), (.iconst (8), 47, []), (.aload 0, 48, []), (.getfield 0, 49, [12, 2]), (.iconst (1664), 50, []), (.iaload, 51, []), (.iastore, 52, []), (.iconst (46), 53, []), (.istore 3, 54, []), (.iload 3, 55, []), (.iconst (406), 56, []), (.if_icmp .eq 0, 57, [3, 69]), (.aload 0, 58, []), (.getfield 0, 59, [12, 2]), (.iload 3, 60, []), (.aload 0, 61, []), (.getfield 0, 62, [12, 2]), (.iconst (1656), 63, []), (.iload 3, 64, []), (.iadd, 65, []), (.iaload, 66, []), (.iastore, 67, []), (.iinc 3 (1), 68, []), (.goto 0, 69, [54]), (.aload 0, 70, []), (.aload 0, 71, []), (.getfield 23, 72, [12, 0]), (.invokestatic 110, 73, [2, 0, 1, 2, 13]), (.ireturn, 74, [0])]
def k_M_isPerson : mCode := [(.iload 1, 1, []), (.ifCond .eq 0, 2, [2, 10]), (.iload 1, 3, []), (.aload 0, 4, []), (.getfield 0, 5, [12, 2]), (.iconst (0), 6, []), (.iaload, 7, []), (.if_icmp .eq 0, 8, [3, 10]), (.iconst (1), 9, []), (.goto 0, 10, [11]), (.iconst (0), 11, []), (.ireturn, 12, [3])]
def k_M_areTwo : mCode := [(.aload 0, 1, []), (.iload 1, 2, []), (.invokestatic 126, 3, [2, 0, 1, 2, 13]), (.ifCond .eq 0, 4, [0, 13]), (.aload 0, 5, []), (.iload 2, 6, []), (.invokestatic 126, 7, [2, 0, 1, 2, 13]), (.ifCond .eq 0, 8, [0, 13]), (.iload 1, 9, []), (.iload 2, 10, []), (.if_icmp .eq 0, 11, [0, 13]), (.iconst (1), 12, []), (.goto 0, 13, [14]), (.iconst (0), 14, []), (.ireturn, 15, [3])]
def k_M_bits : mCode := [(.iconst (0), 1, []), (.istore 1, 2, []), (.iload 0, 3, []), (.istore 2, 4, []), (.iload 2, 5, []), (.ifCond .eq 0, 6, [0, 14]), (.iinc 1 (1), 7, []), (.iload 2, 8, []), (.iload 2, 9, []), (.iconst (1), 10, []), (.isub, 11, []), (.iand, 12, []), (.istore 2, 13, []), (.goto 0, 14, [4]), (.iload 1, 15, []), (.ireturn, 16, [0])]
def k_M_personOf : mCode := [(.aload 0, 1, []), (.getfield 0, 2, [12, 2]), (.iload 1, 3, []), (.invokestatic 111, 4, [1, 0, 1, 1, 0]), (.iload 2, 5, []), (.iadd, 6, []), (.iaload, 7, []), (.ireturn, 8, [0])]
def k_M_whomOf : mCode := [(.aload 0, 1, []), (.iload 1, 2, []), (.iconst (4), 3, []), (.invokestatic 129, 4, [3, 0, 1, 3, 13]), (.ireturn, 5, [0])]
def k_M_farBetween : mCode := [(.aload 0, 1, []), (.iload 1, 2, []), (.iconst (0), 3, []), (.invokestatic 129, 4, [3, 0, 1, 3, 13]), (.aload 0, 5, []), (.iload 2, 6, []), (.iconst (0), 7, []), (.invokestatic 129, 8, [3, 0, 1, 3, 13]), (.isub, 9, []), (.aload 0, 10, []), (.iload 2, 11, []), (.iconst (0), 12, []), (.invokestatic 129, 13, [3, 0, 1, 3, 13]), (.aload 0, 14, []), (.iload 1, 15, []), (.iconst (0), 16, []), (.invokestatic 129, 17, [3, 0, 1, 3, 13]), (.isub, 18, []), (.dadd, 19, []), (.ireturn, 20, [0])]
def k_M_warmBy : mCode := [(.iconst (0), 1, []), (.iload 0, 2, []), (.iload 1, 3, []), (.imul, 4, []), (.iload 2, 5, []), (.iload 3, 6, []), (.idiv, 7, []), (.isub, 8, []), (.dadd, 9, []), (.ireturn, 10, [0])]
def k_M_warmOf : mCode := [(.aload 0, 1, []), (.getfield 0, 2, [12, 2]), (.iconst (5), 3, []), (.iaload, 4, []), (.aload 0, 5, []), (.iload 1, 6, []), (.iconst (1), 7, []), (.invokestatic 129, 8, [3, 0, 1, 3, 13]), (.aload 0, 9, []), (.iload 1, 10, []), (.aload 0, 11, []), (.iload 1, 12, []), (.invokestatic 130, 13, [2, 0, 1, 2, 13]), (.invokestatic 131, 14, [3, 0, 1, 3, 13]), (.aload 0, 15, []), (.getfield 0, 16, [12, 2]), (.iconst (6), 17, []), (.iaload, 18, []), (.invokestatic 132, 19, [4, 0, 1, 4, 0]), (.ireturn, 20, [0])]
def k_M_isLit : mCode := [(.aload 0, 1, []), (.iload 1, 2, []), (.iconst (2), 3, []), (.invokestatic 129, 4, [3, 0, 1, 3, 13]), (.aload 0, 5, []), (.getfield 0, 6, [12, 2]), (.iconst (3), 7, []), (.iaload, 8, []), (.if_icmp .eq 0, 9, [2, 11]), (.iconst (1), 10, []), (.goto 0, 11, [12]), (.iconst (0), 12, []), (.ireturn, 13, [3])]
def k_M_areLit : mCode := [(.iconst (0), 1, []), (.istore 1, 2, []), (.iconst (0), 3, []), (.istore 2, 4, []), (.iload 2, 5, []), (.aload 0, 6, []), (.getfield 0, 7, [12, 2]), (.iconst (0), 8, []), (.iaload, 9, []), (.if_icmp .eq 0, 10, [3, 24]), (.iload 1, 11, []), (.aload 0, 12, []), (.iload 2, 13, []), (.invokestatic 134, 14, [2, 0, 1, 2, 13]), (.ifCond .eq 0, 15, [0, 19]), (.iconst (1), 16, []), (.iload 2, 17, []), (.ishl, 18, []), (.goto 0, 19, [20]), (.iconst (0), 20, []), (.ior, 21, []), (.istore 1, 22, []), (.iinc 2 (1), 23, []), (.goto 0, 24, [4]), (.iload 1, 25, []), (.ireturn, 26, [0])]
def k_M_haveWhom : mCode := [(.iconst (0), 1, []), (.istore 1, 2, []), (.iconst (0), 3, []), (.istore 2, 4, []), (.iload 2, 5, []), (.aload 0, 6, []), (.getfield 0, 7, [12, 2]), (.iconst (0), 8, []), (.iaload, 9, []), (.if_icmp .eq 0, 10, [3, 25]), (.iload 1, 11, []), (.aload 0, 12, []), (.iload 2, 13, []), (.invokestatic 130, 14, [2, 0, 1, 2, 13]), (.iconst (-1), 15, []), (.if_icmp .eq 0, 16, [0, 20]), (.iconst (1), 17, []), (.iload 2, 18, []), (.ishl, 19, []), (.goto 0, 20, [21]), (.iconst (0), 21, []), (.ior, 22, []), (.istore 1, 23, []), (.iinc 2 (1), 24, []), (.goto 0, 25, [4]), (.iload 1, 26, []), (.ireturn, 27, [0])]
def k_M_warmersOf : mCode := [(.iconst (0), 1, []), (.istore 2, 2, []), (.iconst (0), 3, []), (.istore 3, 4, []), (.iload 3, 5, []), (.aload 0, 6, []), (.getfield 0, 7, [12, 2]), (.iconst (0), 8, []), (.iaload, 9, []), (.if_icmp .eq 0, 10, [3, 25]), (.iload 2, 11, []), (.aload 0, 12, []), (.iload 3, 13, []), (.invokestatic 130, 14, [2, 0, 1, 2, 13]), (.iload 1, 15, []), (.if_icmp .eq 0, 16, [1, 20]), (.iconst (1), 17, []), (.iload 3, 18, []), (.ishl, 19, []), (.goto 0, 20, [21]), (.iconst (0), 21, []), (.ior, 22, []), (.istore 2, 23, []), (.iinc 3 (1), 24, []), (.goto 0, 25, [4]), (.iload 2, 26, []), (.ireturn, 27, [0])]
def k_M_together : mCode := [(.iconst (0), 1, []), (.istore 2, 2, []), (.iconst (0), 3, []), (.istore 3, 4, []), (.iload 3, 5, []), (.aload 0, 6, []), (.getfield 0, 7, [12, 2]), (.iconst (0), 8, []), (.iaload, 9, []), (.if_icmp .eq 0, 10, [3, 19]), (.iload 2, 11, []), (.aload 0, 12, []), (.iload 3, 13, []), (.iload 1, 14, []), (.invokestatic 129, 15, [3, 0, 1, 3, 13]), (.iadd, 16, []), (.istore 2, 17, []), (.iinc 3 (1), 18, []), (.goto 0, 19, [4]), (.iload 2, 20, []), (.ireturn, 21, [0])]
def k_M_told : mCode := [(.iload 1, 1, []), (.ifCond .eq 0, 2, [2, 5]), (.iload 1, 3, []), (.iconst (11), 4, []), (.if_icmp .eq 0, 5, [5, 9]), (.aload 0, 6, []), (.iconst (1), 7, []), (.invokestatic 82, 8, [2, 0, 1, 2, 13]), (.ireturn, 9, [0]), (.iload 1, 10, []), (.iconst (8), 11, []), (.if_icmp .eq 0, 12, [3, 19]), (.aload 0, 13, []), (.aload 0, 14, []), (.getfield 0, 15, [12, 2]), (.iload 1, 16, []), (.iaload, 17, []), (.invokestatic 83, 18, [2, 0, 1, 2, 13]), (.ireturn, 19, [0]), (.iload 1, 20, []), (.tableswitch 0 (8) 0 #[], 21, [37, 21, 26, 31]), (.aload 0, 22, []), (.aload 0, 23, []), (.invokestatic 135, 24, [1, 0, 1, 3, 13]), (.invokestatic 83, 25, [2, 0, 1, 2, 13]), (.ireturn, 26, [0]), (.aload 0, 27, []), (.aload 0, 28, []), (.invokestatic 136, 29, [1, 0, 1, 3, 13]), (.invokestatic 83, 30, [2, 0, 1, 2, 13]), (.ireturn, 31, [0]), (.aload 0, 32, []), (.aload 0, 33, []), (.iconst (2), 34, []), (.invokestatic 138, 35, [2, 0, 1, 4, 13]), (.invokestatic 83, 36, [2, 0, 1, 2, 13]), (.ireturn, 37, [0]), (.aload 0, 38, []), (.aload 0, 39, []), (.iconst (3), 40, []), (.invokestatic 138, 41, [2, 0, 1, 4, 13]), (.invokestatic 83, 42, [2, 0, 1, 2, 13]), (.ireturn, 43, [0])]
def k_M_person : mCode := [(.aload 0, 1, []), (.iload 1, 2, []), (.invokestatic 126, 3, [2, 0, 1, 2, 13]), (.ifCond .eq 0, 4, [0, 9]), (.iload 2, 5, []), (.ifCond .eq 0, 6, [2, 9]), (.iload 2, 7, []), (.iconst (6), 8, []), (.if_icmp .eq 0, 9, [5, 13]), (.aload 0, 10, []), (.iconst (1), 11, []), (.invokestatic 82, 12, [2, 0, 1, 2, 13]), (.ireturn, 13, [0]), (.iload 2, 14, []), (.iconst (4), 15, []), (.if_icmp .eq 0, 16, [3, 23]), (.aload 0, 17, []), (.aload 0, 18, []), (.iload 1, 19, []), (.iload 2, 20, []), (.invokestatic 129, 21, [3, 0, 1, 3, 13]), (.invokestatic 83, 22, [2, 0, 1, 2, 13]), (.ireturn, 23, [0]), (.iload 2, 24, []), (.iconst (6), 25, []), (.if_icmp .eq 0, 26, [1, 32]), (.aload 0, 27, []), (.aload 0, 28, []), (.iload 1, 29, []), (.invokestatic 137, 30, [2, 0, 1, 4, 13]), (.invokestatic 83, 31, [2, 0, 1, 2, 13]), (.ireturn, 32, [0]), (.aload 0, 33, []), (.iload 1, 34, []), (.invokestatic 130, 35, [2, 0, 1, 2, 13]), (.iconst (-1), 36, []), (.if_icmp .eq 0, 37, [1, 41]), (.aload 0, 38, []), (.iconst (6), 39, []), (.invokestatic 82, 40, [2, 0, 1, 2, 13]), (.ireturn, 41, [0]), (.aload 0, 42, []), (.iload 2, 43, []), (.iconst (4), 44, []), (.if_icmp .eq 0, 45, [1, 49]), (.aload 0, 46, []), (.iload 1, 47, []), (.invokestatic 130, 48, [2, 0, 1, 2, 13]), (.goto 0, 49, [52]), (.aload 0, 50, []), (.iload 1, 51, []), (.invokestatic 133, 52, [2, 0, 1, 2, 13]), (.invokestatic 83, 53, [2, 0, 1, 2, 13]), (.ireturn, 54, [0])]
def k_M_far : mCode := [(.aload 0, 1, []), (.iload 1, 2, []), (.invokestatic 126, 3, [2, 0, 1, 2, 13]), (.ifCond .eq 0, 4, [0, 8]), (.aload 0, 5, []), (.iload 2, 6, []), (.invokestatic 126, 7, [2, 0, 1, 2, 13]), (.ifCond .eq 0, 8, [1, 12]), (.aload 0, 9, []), (.iconst (1), 10, []), (.invokestatic 82, 11, [2, 0, 1, 2, 13]), (.ireturn, 12, [0]), (.aload 0, 13, []), (.aload 0, 14, []), (.iload 1, 15, []), (.iload 2, 16, []), (.invokestatic 131, 17, [3, 0, 1, 3, 13]), (.invokestatic 83, 18, [2, 0, 1, 2, 13]), (.ireturn, 19, [0])]
def k_M_warms : mCode := [(.aload 0, 1, []), (.getfield 0, 2, [12, 2]), (.iload 1, 3, []), (.invokestatic 111, 4, [1, 0, 1, 1, 0]), (.iconst (2), 5, []), (.iadd, 6, []), (.iconst (99), 7, []), (.aload 0, 8, []), (.iload 1, 9, []), (.iconst (2), 10, []), (.invokestatic 129, 11, [3, 0, 1, 3, 13]), (.iload 2, 12, []), (.iadd, 13, []), (.dsub, 14, []), (.iastore, 15, []), (.return_, 16, [])]
def k_M_drinks : mCode := [(.iload 1, 1, []), (.invokestatic 111, 2, [1, 0, 1, 1, 0]), (.istore 2, 3, []), (.aload 0, 4, []), (.iload 1, 5, []), (.invokestatic 130, 6, [2, 0, 1, 2, 13]), (.iconst (-1), 7, []), (.if_icmp .eq 0, 8, [0, 15]), (.aload 0, 9, []), (.getfield 0, 10, [12, 2]), (.iload 2, 11, []), (.iconst (3), 12, []), (.iadd, 13, []), (.iaload, 14, []), (.ifCond .eq 0, 15, [1, 17]), (.iconst (0), 16, []), (.ireturn, 17, [3]), (.aload 0, 18, []), (.getfield 0, 19, [12, 2]), (.iload 2, 20, []), (.iconst (3), 21, []), (.iadd, 22, []), (.dup2, 23, []), (.iaload, 24, []), (.iconst (1), 25, []), (.isub, 26, []), (.iastore, 27, []), (.aload 0, 28, []), (.aload 0, 29, []), (.iload 1, 30, []), (.invokestatic 130, 31, [2, 0, 1, 2, 13]), (.aload 0, 32, []), (.iload 1, 33, []), (.invokestatic 133, 34, [2, 0, 1, 2, 13]), (.invokestatic 142, 35, [3, 0, 0, 3, 13]), (.iconst (1), 36, []), (.ireturn, 37, [3])]
def k_M_drink : mCode := [(.aload 0, 1, []), (.iload 1, 2, []), (.invokestatic 126, 3, [2, 0, 1, 2, 13]), (.ifCond .eq 0, 4, [1, 8]), (.aload 0, 5, []), (.iconst (1), 6, []), (.invokestatic 82, 7, [2, 0, 1, 2, 13]), (.ireturn, 8, [0]), (.aload 0, 9, []), (.iload 1, 10, []), (.invokestatic 143, 11, [2, 0, 1, 3, 13]), (.ifCond .eq 0, 12, [0, 21]), (.aload 0, 13, []), (.aload 0, 14, []), (.aload 0, 15, []), (.iload 1, 16, []), (.invokestatic 130, 17, [2, 0, 1, 2, 13]), (.iconst (2), 18, []), (.invokestatic 129, 19, [3, 0, 1, 3, 13]), (.invokestatic 83, 20, [2, 0, 1, 2, 13]), (.goto 0, 21, [24]), (.aload 0, 22, []), (.iconst (7), 23, []), (.invokestatic 82, 24, [2, 0, 1, 2, 13]), (.ireturn, 25, [0])]
def k_M_cools : mCode := [(.aload 0, 1, []), (.getfield 0, 2, [12, 2]), (.iload 1, 3, []), (.invokestatic 111, 4, [1, 0, 1, 1, 0]), (.iconst (2), 5, []), (.iadd, 6, []), (.iconst (0), 7, []), (.aload 0, 8, []), (.iload 1, 9, []), (.iconst (2), 10, []), (.invokestatic 129, 11, [3, 0, 1, 3, 13]), (.aload 0, 12, []), (.getfield 0, 13, [12, 2]), (.iconst (4), 14, []), (.iaload, 15, []), (.isub, 16, []), (.dadd, 17, []), (.iastore, 18, []), (.return_, 19, [])]
def k_M_nightGoes : mCode := [(.iconst (0), 1, []), (.istore 1, 2, []), (.iload 1, 3, []), (.aload 0, 4, []), (.getfield 0, 5, [12, 2]), (.iconst (0), 6, []), (.iaload, 7, []), (.if_icmp .eq 0, 8, [3, 13]), (.aload 0, 9, []), (.iload 1, 10, []), (.invokestatic 145, 11, [2, 0, 0, 2, 13]), (.iinc 1 (1), 12, []), (.goto 0, 13, [2]), (.aload 0, 14, []), (.getfield 0, 15, [12, 2]), (.iconst (7), 16, []), (.dup2, 17, []), (.iaload, 18, []), (.iconst (1), 19, []), (.iadd, 20, []), (.iastore, 21, []), (.return_, 22, [])]
def k_M_nightsGo : mCode := [(.iconst (0), 1, []), (.istore 2, 2, []), (.iload 2, 3, []), (.iload 1, 4, []), (.if_icmp .eq 0, 5, [3, 9]), (.aload 0, 6, []), (.invokestatic 146, 7, [1, 0, 0, 2, 13]), (.iinc 2 (1), 8, []), (.goto 0, 9, [2]), (.return_, 10, [])]
def k_M_night : mCode := [(.iload 1, 1, []), (.i2l, 2, []), (.sipush (1), 3, []), (.sipush (99), 4, []), (.invokestatic 92, 5, [3, 0, 1, 6, 0]), (.ifCond .eq 0, 6, [1, 10]), (.aload 0, 7, []), (.iconst (1), 8, []), (.invokestatic 82, 9, [2, 0, 1, 2, 13]), (.ireturn, 10, [0]), (.aload 0, 11, []), (.getfield 0, 12, [12, 2]), (.iconst (7), 13, []), (.iaload, 14, []), (.iload 1, 15, []), (.iadd, 16, []), (.iconst (9999), 17, []), (.if_icmp .eq 0, 18, [5, 22]), (.aload 0, 19, []), (.iconst (4), 20, []), (.invokestatic 82, 21, [2, 0, 1, 2, 13]), (.ireturn, 22, [0]), (.aload 0, 23, []), (.iload 1, 24, []), (.invokestatic 147, 25, [2, 0, 0, 3, 13]), (.aload 0, 26, []), (.aload 0, 27, []), (.invokestatic 135, 28, [1, 0, 1, 3, 13]), (.invokestatic 83, 29, [2, 0, 1, 2, 13]), (.ireturn, 30, [0])]
def k_M_eveningGoes : mCode := [(.aload 0, 1, []), (.invokestatic 135, 2, [1, 0, 1, 3, 13]), (.aload 0, 3, []), (.invokestatic 136, 4, [1, 0, 1, 3, 13]), (.iand, 5, []), (.istore 2, 6, []), (.iload 1, 7, []), (.iconst (-1), 8, []), (.if_icmp .eq 0, 9, [0, 17]), (.iload 2, 10, []), (.iconst (1), 11, []), (.iload 1, 12, []), (.ishl, 13, []), (.iconst (-1), 14, []), (.ixor, 15, []), (.iand, 16, []), (.istore 2, 17, []), (.iconst (0), 18, []), (.istore 3, 19, []), (.iload 3, 20, []), (.iconst (7), 21, []), (.if_icmp .eq 0, 22, [3, 29]), (.aload 0, 23, []), (.getfield 24, 24, [12, 2]), (.iload 3, 25, []), (.iconst (0), 26, []), (.iastore, 27, []), (.iinc 3 (1), 28, []), (.goto 0, 29, [19]), (.iconst (0), 30, []), (.istore 3, 31, []), (.iload 3, 32, []), (.aload 0, 33, []), (.getfield 0, 34, [12, 2]), (.iconst (0), 35, []), (.iaload, 36, []), (.if_icmp .eq 0, 37, [3, 56]), (.aload 0, 38, []), (.iload 2, 39, []), (.iload 3, 40, []), (.invokestatic 112, 41, [3, 0, 1, 3, 13]), (.ifCond .eq 0, 42, [0, 54]), (.aload 0, 43, []), (.getfield 24, 44, [12, 2]), (.aload 0, 45, []), (.iload 3, 46, []), (.invokestatic 130, 47, [2, 0, 1, 2, 13]), (.dup2, 48, []), (.iaload, 49, []), (.aload 0, 50, []), (.iload 3, 51, []), (.invokestatic 133, 52, [2, 0, 1, 2, 13]), (.iadd, 53, []), (.iastore, 54, []), (.iinc 3 (1), 55, []), (.goto 0, 56, [31]), (.iconst (0), 57, []), (.istore 3, 58, []), (.iload 3, 59, []), (.aload 0, 60, []), (.getfield 0, 61, [12, 2]), (.iconst (0), 62, []), (.iaload, 63, []), (.if_icmp .eq 0, 64, [3, 73]), (.aload 0, 65, []), (.iload 3, 66, []), (.aload 0, 67, []), (.getfield 24, 68, [12, 2]), (.iload 3, 69, []), (.iaload, 70, []), (.invokestatic 142, 71, [3, 0, 0, 3, 13]), (.iinc 3 (1), 72, []), (.goto 0, 73, [58]), (.aload 0, 74, []), (.invokestatic 146, 75, [1, 0, 0, 2, 13]), (.iload 2, 76, []), (.ireturn, 77, [0])]
def k_M_evening : mCode := [(.aload 0, 1, []), (.getfield 0, 2, [12, 2]), (.iconst (7), 3, []), (.iaload, 4, []), (.iconst (9999), 5, []), (.if_icmp .eq 0, 6, [1, 10]), (.aload 0, 7, []), (.iconst (4), 8, []), (.invokestatic 82, 9, [2, 0, 1, 2, 13]), (.goto 0, 10, [15]), (.aload 0, 11, []), (.aload 0, 12, []), (.iconst (-1), 13, []), (.invokestatic 149, 14, [2, 0, 1, 4, 13]), (.invokestatic 83, 15, [2, 0, 1, 2, 13]), (.ireturn, 16, [0])]
def k_M_fills : mCode := [(.aload 0, 1, []), (.iload 1, 2, []), (.iconst (3), 3, []), (.invokestatic 129, 4, [3, 0, 1, 3, 13]), (.iload 2, 5, []), (.if_icmp .eq 0, 6, [0, 8]), (.iconst (1), 7, []), (.goto 0, 8, [9]), (.iconst (0), 9, []), (.istore 3, 10, []), (.aload 0, 11, []), (.getfield 0, 12, [12, 2]), (.iload 1, 13, []), (.invokestatic 111, 14, [1, 0, 1, 1, 0]), (.iconst (3), 15, []), (.iadd, 16, []), (.iload 2, 17, []), (.iastore, 18, []), (.iload 3, 19, []), (.ireturn, 20, [3])]
def k_M_fill : mCode := [(.aload 0, 1, []), (.iload 1, 2, []), (.invokestatic 126, 3, [2, 0, 1, 2, 13]), (.ifCond .eq 0, 4, [0, 10]), (.iload 2, 5, []), (.i2l, 6, []), (.sipush (0), 7, []), (.sipush (9), 8, []), (.invokestatic 92, 9, [3, 0, 1, 6, 0]), (.ifCond .eq 0, 10, [1, 14]), (.aload 0, 11, []), (.iconst (1), 12, []), (.invokestatic 82, 13, [2, 0, 1, 2, 13]), (.ireturn, 14, [0]), (.aload 0, 15, []), (.iload 1, 16, []), (.iconst (3), 17, []), (.invokestatic 129, 18, [3, 0, 1, 3, 13]), (.istore 3, 19, []), (.aload 0, 20, []), (.iload 1, 21, []), (.iload 2, 22, []), (.invokestatic 151, 23, [3, 0, 1, 4, 13]), (.pop, 24, []), (.aload 0, 25, []), (.iload 3, 26, []), (.invokestatic 83, 27, [2, 0, 1, 2, 13]), (.ireturn, 28, [0])]
def k_M_means : mCode := [(.aload 0, 1, []), (.iload 1, 2, []), (.invokestatic 126, 3, [2, 0, 1, 2, 13]), (.ifCond .eq 0, 4, [0, 10]), (.iload 2, 5, []), (.i2l, 6, []), (.sipush (0), 7, []), (.sipush (9), 8, []), (.invokestatic 92, 9, [3, 0, 1, 6, 0]), (.ifCond .eq 0, 10, [1, 14]), (.aload 0, 11, []), (.iconst (1), 12, []), (.invokestatic 82, 13, [2, 0, 1, 2, 13]), (.ireturn, 14, [0]), (.aload 0, 15, []), (.iload 1, 16, []), (.iconst (1), 17, []), (.invokestatic 129, 18, [3, 0, 1, 3, 13]), (.istore 3, 19, []), (.aload 0, 20, []), (.getfield 0, 21, [12, 2]), (.iload 1, 22, []), (.invokestatic 111, 23, [1, 0, 1, 1, 0]), (.iconst (1), 24, []), (.iadd, 25, []), (.iload 2, 26, []), (.iastore, 27, []), (.aload 0, 28, []), (.iload 3, 29, []), (.invokestatic 83, 30, [2, 0, 1, 2, 13]), (.ireturn, 31, [0])]
def k_M_move : mCode := [(.aload 0, 1, []), (.iload 1, 2, []), (.invokestatic 126, 3, [2, 0, 1, 2, 13]), (.ifCond .eq 0, 4, [0, 10]), (.iload 2, 5, []), (.i2l, 6, []), (.sipush (0), 7, []), (.sipush (59), 8, []), (.invokestatic 92, 9, [3, 0, 1, 6, 0]), (.ifCond .eq 0, 10, [1, 14]), (.aload 0, 11, []), (.iconst (1), 12, []), (.invokestatic 82, 13, [2, 0, 1, 2, 13]), (.ireturn, 14, [0]), (.aload 0, 15, []), (.iload 1, 16, []), (.iconst (0), 17, []), (.invokestatic 129, 18, [3, 0, 1, 3, 13]), (.istore 3, 19, []), (.aload 0, 20, []), (.getfield 0, 21, [12, 2]), (.iload 1, 22, []), (.invokestatic 111, 23, [1, 0, 1, 1, 0]), (.iload 2, 24, []), (.iastore, 25, []), (.aload 0, 26, []), (.iload 3, 27, []), (.invokestatic 83, 28, [2, 0, 1, 2, 13]), (.ireturn, 29, [0])]
def k_M_aim : mCode := [(.aload 0, 1, []), (.iload 1, 2, []), (.iload 2, 3, []), (.invokestatic 127, 4, [3, 0, 1, 3, 13]), (.ifCond .eq 0, 5, [1, 9]), (.aload 0, 6, []), (.iconst (1), 7, []), (.invokestatic 82, 8, [2, 0, 1, 2, 13]), (.ireturn, 9, [0]), (.aload 0, 10, []), (.iload 1, 11, []), (.invokestatic 130, 12, [2, 0, 1, 2, 13]), (.istore 3, 13, []), (.iload 3, 14, []), (.iload 2, 15, []), (.if_icmp .eq 0, 16, [1, 20]), (.aload 0, 17, []), (.iconst (7), 18, []), (.invokestatic 82, 19, [2, 0, 1, 2, 13]), (.ireturn, 20, [0]), (.aload 0, 21, []), (.getfield 0, 22, [12, 2]), (.iload 1, 23, []), (.invokestatic 111, 24, [1, 0, 1, 1, 0]), (.iconst (4), 25, []), (.iadd, 26, []), (.iload 2, 27, []), (.iastore, 28, []), (.aload 0, 29, []), (.iload 3, 30, []), (.iconst (-1), 31, []), (.if_icmp .eq 0, 32, [1, 37]), (.aload 0, 33, []), (.getfield 0, 34, [12, 2]), (.iconst (0), 35, []), (.iaload, 36, []), (.goto 0, 37, [38]), (.iload 3, 38, []), (.invokestatic 83, 39, [2, 0, 1, 2, 13]), (.ireturn, 40, [0])]
def k_M_come : mCode := [(.iload 1, 1, []), (.i2l, 2, []), (.sipush (0), 3, []), (.sipush (59), 4, []), (.invokestatic 92, 5, [3, 0, 1, 6, 0]), (.ifCond .eq 0, 6, [1, 10]), (.aload 0, 7, []), (.iconst (1), 8, []), (.invokestatic 82, 9, [2, 0, 1, 2, 13]), (.ireturn, 10, [0]), (.aload 0, 11, []), (.getfield 0, 12, [12, 2]), (.iconst (0), 13, []), (.iaload, 14, []), (.istore 2, 15, []), (.iload 2, 16, []), (.iconst (7), 17, []), (.if_icmp .eq 0, 18, [1, 22]), (.aload 0, 19, []), (.iconst (4), 20, []), (.invokestatic 82, 21, [2, 0, 1, 2, 13]), (.ireturn, 22, [0]), (.iload 2, 23, []), (.invokestatic 111, 24, [1, 0, 1, 1, 0]), (.istore 3, 25, []), (.aload 0, 26, []), (.getfield 0, 27, [12, 2]), (.iconst (0), 28, []), (.dup2, 29, []), (.iaload, 30, []), (.iconst (1), 31, []), (.iadd, 32, []), (.iastore, 33, []), (.aload 0, 34, []), (.getfield 0, 35, [12, 2]), (.iload 3, 36, []), (.iload 1, 37, []), (.iastore, 38, []), (.aload 0, 39, []), (.getfield 0, 40, [12, 2]), (.iload 3, 41, []), (.iconst (1), 42, []), (.iadd, 43, []), (.iconst (1), 44, []), (.iastore, 45, []), (.aload 0, 46, []), (.getfield 0, 47, [12, 2]), (.iload 3, 48, []), (.iconst (2), 49, []), (.iadd, 50, []), (.iconst (0), 51, []), (.iastore, 52, []), (.aload 0, 53, []), (.getfield 0, 54, [12, 2]), (.iload 3, 55, []), (.iconst (3), 56, []), (.iadd, 57, []), (.iconst (2), 58, []), (.iastore, 59, []), (.aload 0, 60, []), (.getfield 0, 61, [12, 2]), (.iload 3, 62, []), (.iconst (4), 63, []), (.iadd, 64, []), (.iconst (-1), 65, []), (.iastore, 66, []), (.aload 0, 67, []), (.getfield 1, 68, [12, 2]), (.iload 2, 69, []), (.sipush (0), 70, []), (.lastore, 71, []), (.aload 0, 72, []), (.iload 2, 73, []), (.invokestatic 83, 74, [2, 0, 1, 2, 13]), (.ireturn, 75, [0])]
def k_M_rule : mCode := [(.iload 1, 1, []), (.iconst (1), 2, []), (.if_icmp .eq 0, 3, [2, 16]), (.iload 1, 4, []), (.iconst (6), 5, []), (.if_icmp .eq 0, 6, [4, 16]), (.iload 2, 7, []), (.i2l, 8, []), (.iload 1, 9, []), (.invokestatic 115, 10, [1, 0, 1, 1, 0]), (.i2l, 11, []), (.iload 1, 12, []), (.invokestatic 116, 13, [1, 0, 1, 1, 0]), (.i2l, 14, []), (.invokestatic 92, 15, [3, 0, 1, 6, 0]), (.ifCond .eq 0, 16, [1, 20]), (.aload 0, 17, []), (.iconst (1), 18, []), (.invokestatic 81, 19, [2, 0, 1, 2, 13]), (.ireturn, 20, [3]), (.aload 0, 21, []), (.getfield 0, 22, [12, 2]), (.iload 1, 23, []), (.iload 2, 24, []), (.iastore, 25, []), (.aload 0, 26, []), (.iconst (0), 27, []), (.invokestatic 81, 28, [2, 0, 1, 2, 13]), (.ireturn, 29, [3])]
def k_M_levelAt : mCode := [(.iconst (2116), 1, []), (.iconst (46), 2, []), (.iload 0, 3, []), (.imul, 4, []), (.iadd, 5, []), (.ireturn, 6, [0])]
def k_M_keeps : mCode := [(.iconst (0), 1, []), (.istore 2, 2, []), (.iload 2, 3, []), (.iconst (46), 4, []), (.if_icmp .eq 0, 5, [3, 17]), (.aload 0, 6, []), (.getfield 0, 7, [12, 2]), (.iload 1, 8, []), (.iload 2, 9, []), (.iadd, 10, []), (.aload 0, 11, []), (.getfield 0, 12, [12, 2]), (.iload 2, 13, []), (.iaload, 14, []), (.iastore, 15, []), (.iinc 2 (1), 16, []), (.goto 0, 17, [2]), (.return_, 18, [])]
def k_M_restores : mCode := [(.iconst (0), 1, []), (.istore 2, 2, []), (.iload 2, 3, []), (.iconst (46), 4, []), (.if_icmp .eq 0, 5, [3, 17]), (.aload 0, 6, []), (.getfield 0, 7, [12, 2]), (.iload 2, 8, []), (.aload 0, 9, []), (.getfield 0, 10, [12, 2]), (.iload 1, 11, []), (.iload 2, 12, []), (.iadd, 13, []), (.iaload, 14, []), (.iastore, 15, []), (.iinc 2 (1), 16, []), (.goto 0, 17, [2]), (.return_, 18, [])]
def k_M_cooled : mCode := [(.iconst (0), 1, []), (.aload 0, 2, []), (.iload 1, 3, []), (.iconst (2), 4, []), (.invokestatic 129, 5, [3, 0, 1, 3, 13]), (.iload 2, 6, []), (.aload 0, 7, []), (.getfield 0, 8, [12, 2]), (.iconst (4), 9, []), (.iaload, 10, []), (.imul, 11, []), (.isub, 12, []), (.dadd, 13, []), (.ireturn, 14, [0])]
def k_M_warmIn : mCode := [(.aload 0, 1, []), (.iload 1, 2, []), (.invokestatic 126, 3, [2, 0, 1, 2, 13]), (.ifCond .eq 0, 4, [0, 10]), (.iload 2, 5, []), (.i2l, 6, []), (.sipush (0), 7, []), (.sipush (60), 8, []), (.invokestatic 92, 9, [3, 0, 1, 6, 0]), (.ifCond .eq 0, 10, [1, 14]), (.aload 0, 11, []), (.iconst (1), 12, []), (.invokestatic 82, 13, [2, 0, 1, 2, 13]), (.ireturn, 14, [0]), (.aload 0, 15, []), (.aload 0, 16, []), (.iload 1, 17, []), (.iload 2, 18, []), (.invokestatic 161, 19, [3, 0, 1, 3, 13]), (.invokestatic 83, 20, [2, 0, 1, 2, 13]), (.ireturn, 21, [0])]
def k_M_darkIn : mCode := [(.aload 0, 1, []), (.iload 1, 2, []), (.invokestatic 126, 3, [2, 0, 1, 2, 13]), (.ifCond .eq 0, 4, [1, 8]), (.aload 0, 5, []), (.iconst (1), 6, []), (.invokestatic 82, 7, [2, 0, 1, 2, 13]), (.ireturn, 8, [0]), (.iconst (0), 9, []), (.istore 2, 10, []), (.iload 2, 11, []), (.iconst (99), 12, []), (.if_icmp .eq 0, 13, [4, 28]), (.aload 0, 14, []), (.iload 1, 15, []), (.iload 2, 16, []), (.invokestatic 161, 17, [3, 0, 1, 3, 13]), (.aload 0, 18, []), (.getfield 0, 19, [12, 2]), (.iconst (3), 20, []), (.iaload, 21, []), (.if_icmp .eq 0, 22, [3, 26]), (.aload 0, 23, []), (.iload 2, 24, []), (.invokestatic 83, 25, [2, 0, 1, 2, 13]), (.ireturn, 26, [0]), (.iinc 2 (1), 27, []), (.goto 0, 28, [10]), (.aload 0, 29, []), (.iconst (6), 30, []), (.invokestatic 82, 31, [2, 0, 1, 2, 13]), (.ireturn, 32, [0])]
def k_M_eveningsGo : mCode := [(.iconst (0), 1, []), (.istore 2, 2, []), (.iload 2, 3, []), (.iload 1, 4, []), (.if_icmp .eq 0, 5, [3, 11]), (.aload 0, 6, []), (.iconst (-1), 7, []), (.invokestatic 149, 8, [2, 0, 1, 4, 13]), (.pop, 9, []), (.iinc 2 (1), 10, []), (.goto 0, 11, [2]), (.return_, 12, [])]
def k_M_eveningIn : mCode := [(.aload 0, 1, []), (.iload 1, 2, []), (.invokestatic 126, 3, [2, 0, 1, 2, 13]), (.ifCond .eq 0, 4, [0, 10]), (.iload 2, 5, []), (.i2l, 6, []), (.sipush (0), 7, []), (.sipush (60), 8, []), (.invokestatic 92, 9, [3, 0, 1, 6, 0]), (.ifCond .eq 0, 10, [1, 14]), (.aload 0, 11, []), (.iconst (1), 12, []), (.invokestatic 82, 13, [2, 0, 1, 2, 13]), (.ireturn, 14, [0]), (.aload 0, 15, []), (.iconst (2070), 16, []), (.invokestatic 159, 17, [2, 0, 0, 3, 13]), (.aload 0, 18, []), (.iload 2, 19, []), (.invokestatic 164, 20, [2, 0, 0, 3, 13]), (.aload 0, 21, []), (.iload 1, 22, []), (.iconst (2), 23, []), (.invokestatic 129, 24, [3, 0, 1, 3, 13]), (.istore 3, 25, []), (.aload 0, 26, []), (.iconst (2070), 27, []), (.invokestatic 160, 28, [2, 0, 0, 3, 13]), (.aload 0, 29, []), (.iload 3, 30, []), (.invokestatic 83, 31, [2, 0, 1, 2, 13]), (.ireturn, 32, [0])]
def k_M_litIn : mCode := [(.iload 1, 1, []), (.i2l, 2, []), (.sipush (0), 3, []), (.sipush (60), 4, []), (.invokestatic 92, 5, [3, 0, 1, 6, 0]), (.ifCond .eq 0, 6, [1, 10]), (.aload 0, 7, []), (.iconst (1), 8, []), (.invokestatic 82, 9, [2, 0, 1, 2, 13]), (.ireturn, 10, [0]), (.aload 0, 11, []), (.iconst (2070), 12, []), (.invokestatic 159, 13, [2, 0, 0, 3, 13]), (.aload 0, 14, []), (.iload 1, 15, []), (.invokestatic 164, 16, [2, 0, 0, 3, 13]), (.aload 0, 17, []), (.invokestatic 135, 18, [1, 0, 1, 3, 13]), (.istore 2, 19, []), (.aload 0, 20, []), (.iconst (2070), 21, []), (.invokestatic 160, 22, [2, 0, 0, 3, 13]), (.aload 0, 23, []), (.iload 2, 24, []), (.invokestatic 83, 25, [2, 0, 1, 2, 13]), (.ireturn, 26, [0])]
def k_M_isAlike : mCode := [(.iconst (0), 1, []), (.istore 3, 2, []), (.iload 3, 3, []), (.aload 0, 4, []), (.getfield 0, 5, [12, 2]), (.iconst (0), 6, []), (.iaload, 7, []), (.if_icmp .eq 0, 8, [3, 29]), (.aload 0, 9, []), (.getfield 25, 10, [12, 2]), (.iconst (7), 11, []), (.iload 1, 12, []), (.imul, 13, []), (.iload 3, 14, []), (.iadd, 15, []), (.iaload, 16, []), (.aload 0, 17, []), (.getfield 25, 18, [12, 2]), (.iconst (7), 19, []), (.iload 2, 20, []), (.imul, 21, []), (.iload 3, 22, []), (.iadd, 23, []), (.iaload, 24, []), (.if_icmp .eq 0, 25, [0, 27]), (.iconst (0), 26, []), (.ireturn, 27, [3]), (.iinc 3 (1), 28, []), (.goto 0, 29, [2]), (.iconst (1), 30, []), (.ireturn, 31, [3])]
def k_M_laysSettled : mCode := [(.aload 0, 1, []), (.iconst (2070), 2, []), (.invokestatic 159, 3, [2, 0, 0, 3, 13]), (.iconst (0), 4, []), (.istore 1, 5, []), (.iload 1, 6, []), (.iconst (200), 7, []), (.if_icmp .eq 0, 8, [4, 36]), (.iconst (0), 9, []), (.istore 2, 10, []), (.iload 2, 11, []), (.aload 0, 12, []), (.getfield 0, 13, [12, 2]), (.iconst (0), 14, []), (.iaload, 15, []), (.if_icmp .eq 0, 16, [3, 30]), (.aload 0, 17, []), (.getfield 25, 18, [12, 2]), (.iconst (7), 19, []), (.iload 1, 20, []), (.imul, 21, []), (.iload 2, 22, []), (.iadd, 23, []), (.aload 0, 24, []), (.iload 2, 25, []), (.iconst (2), 26, []), (.invokestatic 129, 27, [3, 0, 1, 3, 13]), (.iastore, 28, []), (.iinc 2 (1), 29, []), (.goto 0, 30, [10]), (.aload 0, 31, []), (.iconst (-1), 32, []), (.invokestatic 149, 33, [2, 0, 1, 4, 13]), (.pop, 34, []), (.iinc 1 (1), 35, []), (.goto 0, 36, [5]), (.aload 0, 37, []), (.iconst (2070), 38, []), (.invokestatic 160, 39, [2, 0, 0, 3, 13]), (.iconst (0), 40, []), (.istore 1, 41, []), (.iload 1, 42, []), (.iconst (200), 43, []), (.if_icmp .eq 0, 44, [3, 71]), (.iconst (1), 45, []), (.istore 2, 46, []), (.iload 1, 47, []), (.iload 2, 48, []), (.iadd, 49, []), (.iconst (200), 50, []), (.if_icmp .eq 0, 51, [4, 69]), (.aload 0, 52, []), (.iload 1, 53, []), (.iload 1, 54, []), (.iload 2, 55, []), (.iadd, 56, []), (.invokestatic 167, 57, [3, 0, 1, 4, 13]), (.ifCond .eq 0, 58, [1, 59]), (.goto 0, 59, [67]), (.aload 0, 60, []), (.iload 1, 61, []), (.putfield 26, 62, [12, 0]), (.aload 0, 63, []), (.iload 2, 64, []), (.putfield 27, 65, [12, 0]), (.iconst (1), 66, []), (.ireturn, 67, [3]), (.iinc 2 (1), 68, []), (.goto 0, 69, [46]), (.iinc 1 (1), 70, []), (.goto 0, 71, [41]), (.iconst (0), 72, []), (.ireturn, 73, [3])]
def k_M_settles : mCode := [(.aload 0, 1, []), (.invokestatic 168, 2, [1, 0, 1, 3, 13]), (.ifCond .eq 0, 3, [0, 8]), (.aload 0, 4, []), (.aload 0, 5, []), (.getfield 26, 6, [12, 0]), (.invokestatic 83, 7, [2, 0, 1, 2, 13]), (.goto 0, 8, [11]), (.aload 0, 9, []), (.iconst (6), 10, []), (.invokestatic 82, 11, [2, 0, 1, 2, 13]), (.ireturn, 12, [0])]
def k_M_period : mCode := [(.aload 0, 1, []), (.invokestatic 168, 2, [1, 0, 1, 3, 13]), (.ifCond .eq 0, 3, [0, 8]), (.aload 0, 4, []), (.aload 0, 5, []), (.getfield 27, 6, [12, 0]), (.invokestatic 83, 7, [2, 0, 1, 2, 13]), (.goto 0, 8, [11]), (.aload 0, 9, []), (.iconst (6), 10, []), (.invokestatic 82, 11, [2, 0, 1, 2, 13]), (.ireturn, 12, [0])]
def k_M_laysChain : mCode := [(.iconst (0), 1, []), (.istore 2, 2, []), (.aload 0, 3, []), (.iconst (0), 4, []), (.putfield 29, 5, [12, 0]), (.iload 1, 6, []), (.istore 3, 7, []), (.iload 3, 8, []), (.iconst (-1), 9, []), (.if_icmp .eq 0, 10, [0, 38]), (.aload 0, 11, []), (.iload 2, 12, []), (.iload 3, 13, []), (.invokestatic 112, 14, [3, 0, 1, 3, 13]), (.ifCond .eq 0, 15, [1, 38]), (.iload 2, 16, []), (.iconst (1), 17, []), (.iload 3, 18, []), (.ishl, 19, []), (.ior, 20, []), (.istore 2, 21, []), (.aload 0, 22, []), (.getfield 28, 23, [12, 2]), (.aload 0, 24, []), (.getfield 29, 25, [12, 0]), (.iload 3, 26, []), (.iastore, 27, []), (.aload 0, 28, []), (.dup, 29, []), (.getfield 29, 30, [12, 0]), (.iconst (1), 31, []), (.iadd, 32, []), (.putfield 29, 33, [12, 0]), (.aload 0, 34, []), (.iload 3, 35, []), (.invokestatic 130, 36, [2, 0, 1, 2, 13]), (.istore 3, 37, []), (.goto 0, 38, [7]), (.return_, 39, [])]
def k_M_chain : mCode := [(.aload 0, 1, []), (.iload 1, 2, []), (.invokestatic 126, 3, [2, 0, 1, 2, 13]), (.ifCond .eq 0, 4, [1, 8]), (.aload 0, 5, []), (.iconst (1), 6, []), (.invokestatic 82, 7, [2, 0, 1, 2, 13]), (.ireturn, 8, [0]), (.aload 0, 9, []), (.iload 1, 10, []), (.invokestatic 171, 11, [2, 0, 0, 4, 13]), (.aload 0, 12, []), (.aload 0, 13, []), (.getfield 29, 14, [12, 0]), (.invokestatic 83, 15, [2, 0, 1, 2, 13]), (.ireturn, 16, [0])]
def k_M_chainAt : mCode := [(.aload 0, 1, []), (.iload 1, 2, []), (.invokestatic 126, 3, [2, 0, 1, 2, 13]), (.ifCond .eq 0, 4, [0, 6]), (.iload 2, 5, []), (.ifCond .eq 0, 6, [3, 10]), (.aload 0, 7, []), (.iconst (1), 8, []), (.invokestatic 82, 9, [2, 0, 1, 2, 13]), (.ireturn, 10, [0]), (.aload 0, 11, []), (.iload 1, 12, []), (.invokestatic 171, 13, [2, 0, 0, 4, 13]), (.iload 2, 14, []), (.aload 0, 15, []), (.getfield 29, 16, [12, 0]), (.if_icmp .eq 0, 17, [2, 21]), (.aload 0, 18, []), (.iconst (6), 19, []), (.invokestatic 82, 20, [2, 0, 1, 2, 13]), (.goto 0, 21, [27]), (.aload 0, 22, []), (.aload 0, 23, []), (.getfield 28, 24, [12, 2]), (.iload 2, 25, []), (.iaload, 26, []), (.invokestatic 83, 27, [2, 0, 1, 2, 13]), (.ireturn, 28, [0])]
def k_M_ringOf : mCode := [(.aload 0, 1, []), (.iload 1, 2, []), (.invokestatic 171, 3, [2, 0, 0, 4, 13]), (.aload 0, 4, []), (.aload 0, 5, []), (.getfield 28, 6, [12, 2]), (.aload 0, 7, []), (.getfield 29, 8, [12, 0]), (.iconst (1), 9, []), (.isub, 10, []), (.iaload, 11, []), (.invokestatic 130, 12, [2, 0, 1, 2, 13]), (.iload 1, 13, []), (.if_icmp .eq 0, 14, [0, 16]), (.iconst (0), 15, []), (.ireturn, 16, [0]), (.iconst (0), 17, []), (.istore 2, 18, []), (.iconst (0), 19, []), (.istore 3, 20, []), (.iload 3, 21, []), (.aload 0, 22, []), (.getfield 29, 23, [12, 0]), (.if_icmp .eq 0, 24, [3, 35]), (.iload 2, 25, []), (.iconst (1), 26, []), (.aload 0, 27, []), (.getfield 28, 28, [12, 2]), (.iload 3, 29, []), (.iaload, 30, []), (.ishl, 31, []), (.ior, 32, []), (.istore 2, 33, []), (.iinc 3 (1), 34, []), (.goto 0, 35, [20]), (.iload 2, 36, []), (.ireturn, 37, [0])]
def k_M_rings : mCode := [(.iconst (0), 1, []), (.istore 1, 2, []), (.iconst (0), 3, []), (.istore 2, 4, []), (.iload 2, 5, []), (.aload 0, 6, []), (.getfield 0, 7, [12, 2]), (.iconst (0), 8, []), (.iaload, 9, []), (.if_icmp .eq 0, 10, [3, 38]), (.aload 0, 11, []), (.iload 2, 12, []), (.invokestatic 174, 13, [2, 0, 1, 4, 13]), (.istore 3, 14, []), (.iload 3, 15, []), (.ifCond .eq 0, 16, [0, 26]), (.iload 3, 17, []), (.iconst (1), 18, []), (.iload 2, 19, []), (.ishl, 20, []), (.iconst (1), 21, []), (.isub, 22, []), (.iand, 23, []), (.ifCond .eq 0, 24, [1, 26]), (.iconst (1), 25, []), (.goto 0, 26, [27]), (.iconst (0), 27, []), (.istore 4, 28, []), (.iload 1, 29, []), (.iload 4, 30, []), (.ifCond .eq 0, 31, [0, 33]), (.iconst (1), 32, []), (.goto 0, 33, [34]), (.iconst (0), 34, []), (.iadd, 35, []), (.istore 1, 36, []), (.iinc 2 (1), 37, []), (.goto 0, 38, [4]), (.aload 0, 39, []), (.iload 1, 40, []), (.invokestatic 83, 41, [2, 0, 1, 2, 13]), (.ireturn, 42, [0])]
def k_M_inRings : mCode := [(.iconst (0), 1, []), (.istore 1, 2, []), (.iconst (0), 3, []), (.istore 2, 4, []), (.iload 2, 5, []), (.aload 0, 6, []), (.getfield 0, 7, [12, 2]), (.iconst (0), 8, []), (.iaload, 9, []), (.if_icmp .eq 0, 10, [3, 18]), (.iload 1, 11, []), (.aload 0, 12, []), (.iload 2, 13, []), (.invokestatic 174, 14, [2, 0, 1, 4, 13]), (.ior, 15, []), (.istore 1, 16, []), (.iinc 2 (1), 17, []), (.goto 0, 18, [4]), (.aload 0, 19, []), (.iload 1, 20, []), (.invokestatic 83, 21, [2, 0, 1, 2, 13]), (.ireturn, 22, [0])]
def k_M_needsOf : mCode := [(.aload 0, 1, []), (.iload 1, 2, []), (.iconst (2), 3, []), (.invokestatic 129, 4, [3, 0, 1, 3, 13]), (.istore 2, 5, []), (.iconst (0), 6, []), (.istore 3, 7, []), (.iconst (180), 8, []), (.istore 4, 9, []), (.iload 4, 10, []), (.ifCond .eq 0, 11, [5, 55]), (.iconst (0), 12, []), (.istore 5, 13, []), (.iload 5, 14, []), (.aload 0, 15, []), (.getfield 0, 16, [12, 2]), (.iconst (0), 17, []), (.iaload, 18, []), (.if_icmp .eq 0, 19, [3, 53]), (.aload 0, 20, []), (.iload 5, 21, []), (.invokestatic 130, 22, [2, 0, 1, 2, 13]), (.iload 1, 23, []), (.if_icmp .eq 0, 24, [1, 51]), (.aload 0, 25, []), (.iload 5, 26, []), (.invokestatic 133, 27, [2, 0, 1, 2, 13]), (.iload 4, 28, []), (.if_icmp .eq 0, 29, [0, 30]), (.goto 0, 30, [51]), (.iconst (0), 31, []), (.istore 6, 32, []), (.iload 6, 33, []), (.aload 0, 34, []), (.iload 5, 35, []), (.iconst (3), 36, []), (.invokestatic 129, 37, [3, 0, 1, 3, 13]), (.if_icmp .eq 0, 38, [3, 51]), (.iload 2, 39, []), (.aload 0, 40, []), (.getfield 0, 41, [12, 2]), (.iconst (3), 42, []), (.iaload, 43, []), (.if_icmp .eq 0, 44, [3, 51]), (.iload 2, 45, []), (.iload 4, 46, []), (.iadd, 47, []), (.istore 2, 48, []), (.iinc 3 (1), 49, []), (.iinc 6 (1), 50, []), (.goto 0, 51, [32]), (.iinc 5 (1), 52, []), (.goto 0, 53, [13]), (.iinc 4 (-1), 54, []), (.goto 0, 55, [9]), (.iload 2, 56, []), (.aload 0, 57, []), (.getfield 0, 58, [12, 2]), (.iconst (3), 59, []), (.iaload, 60, []), (.if_icmp .eq 0, 61, [3, 63]), (.iconst (1000000), 62, []), (.goto 0, 63, [64]), (.iload 3, 64, []), (.ireturn, 65, [0])]
def k_M_needs : mCode := [(.aload 0, 1, []), (.iload 1, 2, []), (.invokestatic 126, 3, [2, 0, 1, 2, 13]), (.ifCond .eq 0, 4, [1, 8]), (.aload 0, 5, []), (.iconst (1), 6, []), (.invokestatic 82, 7, [2, 0, 1, 2, 13]), (.ireturn, 8, [0]), (.aload 0, 9, []), (.iload 1, 10, []), (.invokestatic 177, 11, [2, 0, 1, 7, 13]), (.istore 2, 12, []), (.iload 2, 13, []), (.iconst (1000000), 14, []), (.if_icmp .eq 0, 15, [2, 19]), (.aload 0, 16, []), (.iconst (6), 17, []), (.invokestatic 82, 18, [2, 0, 1, 2, 13]), (.goto 0, 19, [22]), (.aload 0, 20, []), (.iload 2, 21, []), (.invokestatic 83, 22, [2, 0, 1, 2, 13]), (.ireturn, 23, [0])]
def k_M_mostOfAll : mCode := [(.iconst (0), 1, []), (.istore 2, 2, []), (.iload 2, 3, []), (.aload 0, 4, []), (.getfield 0, 5, [12, 2]), (.iconst (0), 6, []), (.iaload, 7, []), (.if_icmp .eq 0, 8, [3, 17]), (.aload 0, 9, []), (.getfield 30, 10, [12, 2]), (.iload 2, 11, []), (.aload 0, 12, []), (.iload 2, 13, []), (.invokestatic 177, 14, [2, 0, 1, 7, 13]), (.iastore, 15, []), (.iinc 2 (1), 16, []), (.goto 0, 17, [2]), (.iconst (0), 18, []), (.istore 2, 19, []), (.iconst (1), 20, []), (.istore 3, 21, []), (.iload 3, 22, []), (.iconst (1), 23, []), (.aload 0, 24, []), (.getfield 0, 25, [12, 2]), (.iconst (0), 26, []), (.iaload, 27, []), (.ishl, 28, []), (.if_icmp .eq 0, 29, [3, 67]), (.iconst (0), 30, []), (.istore 4, 31, []), (.iconst (0), 32, []), (.istore 5, 33, []), (.iload 5, 34, []), (.aload 0, 35, []), (.getfield 0, 36, [12, 2]), (.iconst (0), 37, []), (.iaload, 38, []), (.if_icmp .eq 0, 39, [3, 55]), (.iload 4, 40, []), (.aload 0, 41, []), (.iload 3, 42, []), (.iload 5, 43, []), (.invokestatic 112, 44, [3, 0, 1, 3, 13]), (.ifCond .eq 0, 45, [0, 50]), (.aload 0, 46, []), (.getfield 30, 47, [12, 2]), (.iload 5, 48, []), (.iaload, 49, []), (.goto 0, 50, [51]), (.iconst (0), 51, []), (.iadd, 52, []), (.istore 4, 53, []), (.iinc 5 (1), 54, []), (.goto 0, 55, [33]), (.iload 4, 56, []), (.iload 1, 57, []), (.if_icmp .eq 0, 58, [4, 65]), (.iload 3, 59, []), (.invokestatic 128, 60, [1, 0, 1, 3, 0]), (.iload 2, 61, []), (.invokestatic 128, 62, [1, 0, 1, 3, 0]), (.if_icmp .eq 0, 63, [5, 65]), (.iload 3, 64, []), (.istore 2, 65, []), (.iinc 3 (1), 66, []), (.goto 0, 67, [21]), (.iload 2, 68, []), (.ireturn, 69, [0])]
def k_M_most : mCode := [(.iload 1, 1, []), (.i2l, 2, []), (.sipush (0), 3, []), (.sipush (20), 4, []), (.invokestatic 92, 5, [3, 0, 1, 6, 0]), (.ifCond .eq 0, 6, [1, 10]), (.aload 0, 7, []), (.iconst (1), 8, []), (.invokestatic 82, 9, [2, 0, 1, 2, 13]), (.ireturn, 10, [0]), (.aload 0, 11, []), (.aload 0, 12, []), (.iload 1, 13, []), (.invokestatic 179, 14, [2, 0, 1, 6, 13]), (.invokestatic 128, 15, [1, 0, 1, 3, 0]), (.invokestatic 83, 16, [2, 0, 1, 2, 13]), (.ireturn, 17, [0])]
def k_M_mostSet : mCode := [(.iload 1, 1, []), (.i2l, 2, []), (.sipush (0), 3, []), (.sipush (20), 4, []), (.invokestatic 92, 5, [3, 0, 1, 6, 0]), (.ifCond .eq 0, 6, [1, 10]), (.aload 0, 7, []), (.iconst (1), 8, []), (.invokestatic 82, 9, [2, 0, 1, 2, 13]), (.ireturn, 10, [0]), (.aload 0, 11, []), (.aload 0, 12, []), (.iload 1, 13, []), (.invokestatic 179, 14, [2, 0, 1, 6, 13]), (.invokestatic 83, 15, [2, 0, 1, 2, 13]), (.ireturn, 16, [0])]
def k_M_litBehind : mCode := [(.aload 0, 1, []), (.iconst (2070), 2, []), (.invokestatic 159, 3, [2, 0, 0, 3, 13]), (.aload 0, 4, []), (.iload 1, 5, []), (.invokestatic 149, 6, [2, 0, 1, 4, 13]), (.pop, 7, []), (.aload 0, 8, []), (.invokestatic 135, 9, [1, 0, 1, 3, 13]), (.istore 2, 10, []), (.aload 0, 11, []), (.iconst (2070), 12, []), (.invokestatic 160, 13, [2, 0, 0, 3, 13]), (.iload 2, 14, []), (.ireturn, 15, [0])]
def k_M_misses : mCode := [(.aload 0, 1, []), (.iload 1, 2, []), (.invokestatic 126, 3, [2, 0, 1, 2, 13]), (.ifCond .eq 0, 4, [1, 8]), (.aload 0, 5, []), (.iconst (1), 6, []), (.invokestatic 82, 7, [2, 0, 1, 2, 13]), (.ireturn, 8, [0]), (.aload 0, 9, []), (.aload 0, 10, []), (.iconst (-1), 11, []), (.invokestatic 182, 12, [2, 0, 1, 3, 13]), (.aload 0, 13, []), (.iload 1, 14, []), (.invokestatic 182, 15, [2, 0, 1, 3, 13]), (.iconst (-1), 16, []), (.ixor, 17, []), (.iand, 18, []), (.invokestatic 83, 19, [2, 0, 1, 2, 13]), (.ireturn, 20, [0])]
def k_M_wrongSeen : mCode := [(.iload 1, 1, []), (.invokestatic 85, 2, [1, 0, 1, 1, 0]), (.ifCond .eq 0, 3, [0, 9]), (.iload 2, 4, []), (.i2l, 5, []), (.sipush (0), 6, []), (.sipush (10), 7, []), (.invokestatic 92, 8, [3, 0, 1, 6, 0]), (.ifCond .eq 0, 9, [1, 11]), (.iconst (1), 10, []), (.ireturn, 11, [0]), (.aload 0, 12, []), (.getfield 6, 13, [12, 2]), (.iload 1, 14, []), (.iaload, 15, []), (.iconst (-1), 16, []), (.if_icmp .eq 0, 17, [1, 19]), (.iconst (2), 18, []), (.ireturn, 19, [0]), (.aload 0, 20, []), (.getfield 6, 21, [12, 2]), (.iload 1, 22, []), (.iaload, 23, []), (.iconst (2), 24, []), (.iload 2, 25, []), (.imul, 26, []), (.if_icmp .eq 0, 27, [3, 29]), (.iconst (3), 28, []), (.ireturn, 29, [0]), (.iconst (0), 30, []), (.istore 3, 31, []), (.iload 3, 32, []), (.iconst (2), 33, []), (.iload 2, 34, []), (.imul, 35, []), (.if_icmp .eq 0, 36, [3, 59]), (.aload 0, 37, []), (.getfield 7, 38, [12, 2]), (.iconst (60), 39, []), (.iload 1, 40, []), (.imul, 41, []), (.iload 3, 42, []), (.iadd, 43, []), (.laload, 44, []), (.sipush (0), 45, []), (.sipush (1), 46, []), (.aload 0, 47, []), (.getfield 0, 48, [12, 2]), (.iconst (0), 49, []), (.iaload, 50, []), (.lshl, 51, []), (.sipush (1), 52, []), (.lsub, 53, []), (.invokestatic 92, 54, [3, 0, 1, 6, 0]), (.ifCond .eq 0, 55, [1, 57]), (.iconst (5), 56, []), (.ireturn, 57, [0]), (.iinc 3 (1), 58, []), (.goto 0, 59, [31]), (.iconst (0), 60, []), (.ireturn, 61, [0])]
def k_M_isWay : mCode := [(.iconst (0), 1, []), (.istore 3, 2, []), (.iload 3, 3, []), (.iload 2, 4, []), (.if_icmp .eq 0, 5, [3, 65]), (.aload 0, 6, []), (.getfield 7, 7, [12, 2]), (.iconst (60), 8, []), (.iload 1, 9, []), (.imul, 10, []), (.iconst (2), 11, []), (.iload 3, 12, []), (.imul, 13, []), (.iadd, 14, []), (.laload, 15, []), (.l2i, 16, []), (.istore 4, 17, []), (.iconst (0), 18, []), (.istore 5, 19, []), (.iconst (0), 20, []), (.istore 6, 21, []), (.iload 6, 22, []), (.aload 0, 23, []), (.getfield 0, 24, [12, 2]), (.iconst (0), 25, []), (.iaload, 26, []), (.if_icmp .eq 0, 27, [3, 45]), (.iload 5, 28, []), (.aload 0, 29, []), (.iload 4, 30, []), (.iload 6, 31, []), (.invokestatic 112, 32, [3, 0, 1, 3, 13]), (.ifCond .eq 0, 33, [0, 40]), (.iconst (1), 34, []), (.aload 0, 35, []), (.getfield 31, 36, [12, 2]), (.iload 6, 37, []), (.iaload, 38, []), (.ishl, 39, []), (.goto 0, 40, [41]), (.iconst (0), 41, []), (.ior, 42, []), (.istore 5, 43, []), (.iinc 6 (1), 44, []), (.goto 0, 45, [21]), (.iload 5, 46, []), (.i2l, 47, []), (.aload 0, 48, []), (.getfield 7, 49, [12, 2]), (.iconst (60), 50, []), (.iload 1, 51, []), (.imul, 52, []), (.iconst (2), 53, []), (.iload 3, 54, []), (.imul, 55, []), (.iadd, 56, []), (.iconst (1), 57, []), (.iadd, 58, []), (.laload, 59, []), (.lcmp, 61, [0, 63]), (.ifCond .eq 0, 61, [0, 63]), (.iconst (0), 62, []), (.ireturn, 63, [3]), (.iinc 3 (1), 64, []), (.goto 0, 65, [2]), (.iconst (1), 66, []), (.ireturn, 67, [3])]
def k_M_counts : mCode := [(.iconst (0), 1, []), (.istore 1, 2, []), (.iload 1, 3, []), (.aload 0, 4, []), (.getfield 0, 5, [12, 2]), (.iconst (0), 6, []), (.iaload, 7, []), (.if_icmp .eq 0, 8, [3, 36]), (.aload 0, 9, []), (.getfield 34, 10, [12, 0]), (.ifCond .eq 0, 11, [1, 19]), (.aload 0, 12, []), (.getfield 32, 13, [12, 2]), (.iload 1, 14, []), (.aload 0, 15, []), (.getfield 31, 16, [12, 2]), (.iload 1, 17, []), (.iaload, 18, []), (.iastore, 19, []), (.aload 0, 20, []), (.getfield 33, 21, [12, 2]), (.iconst (7), 22, []), (.iload 1, 23, []), (.imul, 24, []), (.aload 0, 25, []), (.getfield 31, 26, [12, 2]), (.iload 1, 27, []), (.iaload, 28, []), (.iadd, 29, []), (.dup2, 30, []), (.iaload, 31, []), (.iconst (1), 32, []), (.iadd, 33, []), (.iastore, 34, []), (.iinc 1 (1), 35, []), (.goto 0, 36, [2]), (.aload 0, 37, []), (.dup, 38, []), (.getfield 34, 39, [12, 0]), (.iconst (1), 40, []), (.iadd, 41, []), (.putfield 34, 42, [12, 0]), (.return_, 43, [])]
def k_M_mayHave : mCode := [(.iload 1, 1, []), (.iload 2, 2, []), (.if_icmp .eq 0, 3, [0, 5]), (.iconst (1), 4, []), (.goto 0, 5, [6]), (.iconst (0), 6, []), (.istore 3, 7, []), (.iconst (0), 8, []), (.istore 4, 9, []), (.iload 4, 10, []), (.iload 1, 11, []), (.if_icmp .eq 0, 12, [3, 26]), (.iload 3, 13, []), (.ifCond .eq 0, 14, [0, 22]), (.aload 0, 15, []), (.getfield 31, 16, [12, 2]), (.iload 4, 17, []), (.iaload, 18, []), (.iload 2, 19, []), (.if_icmp .eq 0, 20, [0, 22]), (.iconst (1), 21, []), (.goto 0, 22, [23]), (.iconst (0), 23, []), (.istore 3, 24, []), (.iinc 4 (1), 25, []), (.goto 0, 26, [9]), (.iload 3, 27, []), (.ireturn, 28, [3])]
def k_M_laysWays : mCode := [(.aload 0, 1, []), (.getfield 0, 2, [12, 2]), (.iconst (0), 3, []), (.iaload, 4, []), (.istore 3, 5, []), (.aload 0, 6, []), (.iconst (0), 7, []), (.putfield 34, 8, [12, 0]), (.iconst (0), 9, []), (.istore 4, 10, []), (.iload 4, 11, []), (.iconst (49), 12, []), (.if_icmp .eq 0, 13, [3, 20]), (.aload 0, 14, []), (.getfield 33, 15, [12, 2]), (.iload 4, 16, []), (.iconst (0), 17, []), (.iastore, 18, []), (.iinc 4 (1), 19, []), (.goto 0, 20, [10]), (.iload 3, 21, []), (.ifCond .eq 0, 22, [1, 33]), (.aload 0, 23, []), (.aload 0, 24, []), (.iload 1, 25, []), (.iload 2, 26, []), (.invokestatic 185, 27, [3, 0, 1, 7, 13]), (.ifCond .eq 0, 28, [0, 30]), (.iconst (1), 29, []), (.goto 0, 30, [31]), (.iconst (0), 31, []), (.putfield 34, 32, [12, 0]), (.return_, 33, []), (.iconst (0), 34, []), (.istore 4, 35, []), (.aload 0, 36, []), (.getfield 31, 37, [12, 2]), (.iconst (0), 38, []), (.iconst (-1), 39, []), (.iastore, 40, []), (.iload 4, 41, []), (.ifCond .eq 0, 42, [2, 87]), (.aload 0, 43, []), (.getfield 31, 44, [12, 2]), (.iload 4, 45, []), (.dup2, 46, []), (.iaload, 47, []), (.iconst (1), 48, []), (.iadd, 49, []), (.iastore, 50, []), (.aload 0, 51, []), (.getfield 31, 52, [12, 2]), (.iload 4, 53, []), (.iaload, 54, []), (.iload 3, 55, []), (.if_icmp .eq 0, 56, [1, 58]), (.iinc 4 (-1), 57, []), (.goto 0, 58, [40]), (.aload 0, 59, []), (.iload 4, 60, []), (.aload 0, 61, []), (.getfield 31, 62, [12, 2]), (.iload 4, 63, []), (.iaload, 64, []), (.invokestatic 187, 65, [3, 0, 1, 5, 13]), (.ifCond .eq 0, 66, [1, 67]), (.goto 0, 67, [40]), (.iload 4, 68, []), (.iconst (1), 69, []), (.iadd, 70, []), (.iload 3, 71, []), (.if_icmp .eq 0, 72, [1, 80]), (.aload 0, 73, []), (.iload 1, 74, []), (.iload 2, 75, []), (.invokestatic 185, 76, [3, 0, 1, 7, 13]), (.ifCond .eq 0, 77, [0, 40]), (.aload 0, 78, []), (.invokestatic 186, 79, [1, 0, 0, 2, 13]), (.goto 0, 80, [40]), (.iinc 4 (1), 81, []), (.aload 0, 82, []), (.getfield 31, 83, [12, 2]), (.iload 4, 84, []), (.iconst (-1), 85, []), (.iastore, 86, []), (.goto 0, 87, [40]), (.return_, 88, [])]
def k_M_fits : mCode := [(.aload 0, 1, []), (.iload 1, 2, []), (.iload 2, 3, []), (.invokestatic 184, 4, [3, 0, 1, 4, 13]), (.istore 3, 5, []), (.iload 3, 6, []), (.ifCond .eq 0, 7, [5, 11]), (.aload 0, 8, []), (.iload 3, 9, []), (.invokestatic 82, 10, [2, 0, 1, 2, 13]), (.ireturn, 11, [0]), (.aload 0, 12, []), (.iload 1, 13, []), (.iload 2, 14, []), (.invokestatic 188, 15, [3, 0, 0, 5, 13]), (.aload 0, 16, []), (.aload 0, 17, []), (.getfield 34, 18, [12, 0]), (.invokestatic 83, 19, [2, 0, 1, 2, 13]), (.ireturn, 20, [0])]
def k_M_firstOf : mCode := [(.aload 0, 1, []), (.iload 3, 2, []), (.invokestatic 126, 3, [2, 0, 1, 2, 13]), (.ifCond .eq 0, 4, [0, 9]), (.aload 0, 5, []), (.iload 1, 6, []), (.iload 2, 7, []), (.invokestatic 184, 8, [3, 0, 1, 4, 13]), (.goto 0, 9, [10]), (.iconst (1), 10, []), (.istore 4, 11, []), (.iload 4, 12, []), (.ifCond .eq 0, 13, [5, 17]), (.aload 0, 14, []), (.iload 4, 15, []), (.invokestatic 82, 16, [2, 0, 1, 2, 13]), (.ireturn, 17, [0]), (.aload 0, 18, []), (.iload 1, 19, []), (.iload 2, 20, []), (.invokestatic 188, 21, [3, 0, 0, 5, 13]), (.aload 0, 22, []), (.getfield 34, 23, [12, 0]), (.ifCond .eq 0, 24, [1, 28]), (.aload 0, 25, []), (.iconst (6), 26, []), (.invokestatic 82, 27, [2, 0, 1, 2, 13]), (.goto 0, 28, [34]), (.aload 0, 29, []), (.aload 0, 30, []), (.getfield 32, 31, [12, 2]), (.iload 3, 32, []), (.iaload, 33, []), (.invokestatic 83, 34, [2, 0, 1, 2, 13]), (.ireturn, 35, [0])]
def k_M_oddsThat : mCode := [(.aload 0, 1, []), (.iload 3, 2, []), (.iload 4, 3, []), (.invokestatic 127, 4, [3, 0, 1, 3, 13]), (.ifCond .eq 0, 5, [0, 10]), (.aload 0, 6, []), (.iload 1, 7, []), (.iload 2, 8, []), (.invokestatic 184, 9, [3, 0, 1, 4, 13]), (.goto 0, 10, [11]), (.iconst (1), 11, []), (.istore 5, 12, []), (.iload 5, 13, []), (.ifCond .eq 0, 14, [5, 18]), (.aload 0, 15, []), (.iload 5, 16, []), (.invokestatic 81, 17, [2, 0, 1, 2, 13]), (.ireturn, 18, [3]), (.aload 0, 19, []), (.iload 1, 20, []), (.iload 2, 21, []), (.invokestatic 188, 22, [3, 0, 0, 5, 13]), (.aload 0, 23, []), (.getfield 34, 24, [12, 0]), (.ifCond .eq 0, 25, [1, 29]), (.aload 0, 26, []), (.iconst (6), 27, []), (.invokestatic 81, 28, [2, 0, 1, 2, 13]), (.goto 0, 29, [43]), (.aload 0, 30, []), (.aload 0, 31, []), (.getfield 33, 32, [12, 2]), (.iconst (7), 33, []), (.iload 3, 34, []), (.imul, 35, []), (.iload 4, 36, []), (.iadd, 37, []), (.iaload, 38, []), (.i2l, 39, []), (.aload 0, 40, []), (.getfield 34, 41, [12, 0]), (.i2l, 42, []), (.invokestatic 84, 43, [3, 0, 1, 11, 13]), (.ireturn, 44, [3])]
def k_M_mostAlike : mCode := [(.iconst (0), 1, []), (.istore 2, 2, []), (.iconst (0), 3, []), (.istore 3, 4, []), (.iload 3, 5, []), (.aload 0, 6, []), (.getfield 0, 7, [12, 2]), (.iconst (0), 8, []), (.iaload, 9, []), (.if_icmp .eq 0, 10, [3, 23]), (.iload 2, 11, []), (.aload 0, 12, []), (.getfield 33, 13, [12, 2]), (.iconst (7), 14, []), (.iload 1, 15, []), (.imul, 16, []), (.iload 3, 17, []), (.iadd, 18, []), (.iaload, 19, []), (.dadd, 20, []), (.istore 2, 21, []), (.iinc 3 (1), 22, []), (.goto 0, 23, [4]), (.iload 2, 24, []), (.ireturn, 25, [0])]
def k_M_ask : mCode := [(.aload 0, 1, []), (.iload 1, 2, []), (.iload 2, 3, []), (.invokestatic 184, 4, [3, 0, 1, 4, 13]), (.istore 3, 5, []), (.iload 3, 6, []), (.ifCond .eq 0, 7, [5, 11]), (.aload 0, 8, []), (.iload 3, 9, []), (.invokestatic 82, 10, [2, 0, 1, 2, 13]), (.ireturn, 11, [0]), (.aload 0, 12, []), (.iload 1, 13, []), (.iload 2, 14, []), (.invokestatic 188, 15, [3, 0, 0, 5, 13]), (.aload 0, 16, []), (.getfield 34, 17, [12, 0]), (.iconst (2), 18, []), (.if_icmp .eq 0, 19, [3, 23]), (.aload 0, 20, []), (.iconst (6), 21, []), (.invokestatic 82, 22, [2, 0, 1, 2, 13]), (.ireturn, 23, [0]), (.iconst (0), 24, []), (.istore 4, 25, []), (.iconst (1), 26, []), (.istore 5, 27, []), (.iload 5, 28, []), (.aload 0, 29, []), (.getfield 0, 30, [12, 2]), (.iconst (0), 31, []), (.iaload, 32, []), (.if_icmp .eq 0, 33, [3, 44]), (.aload 0, 34, []), (.iload 5, 35, []), (.invokestatic 192, 36, [2, 0, 1, 4, 13]), (.aload 0, 37, []), (.iload 4, 38, []), (.invokestatic 192, 39, [2, 0, 1, 4, 13]), (.if_icmp .eq 0, 40, [3, 42]), (.iload 5, 41, []), (.istore 4, 42, []), (.iinc 5 (1), 43, []), (.goto 0, 44, [27]), (.aload 0, 45, []), (.iload 4, 46, []), (.invokestatic 83, 47, [2, 0, 1, 2, 13]), (.ireturn, 48, [0])]
def k_M_wrongLaw : mCode := [(.iload 1, 1, []), (.invokestatic 85, 2, [1, 0, 1, 1, 0]), (.ifCond .eq 0, 3, [0, 9]), (.iload 2, 4, []), (.i2l, 5, []), (.sipush (0), 6, []), (.sipush (15), 7, []), (.invokestatic 92, 8, [3, 0, 1, 6, 0]), (.ifCond .eq 0, 9, [1, 11]), (.iconst (1), 10, []), (.ireturn, 11, [0]), (.aload 0, 12, []), (.getfield 6, 13, [12, 2]), (.iload 1, 14, []), (.iaload, 15, []), (.iconst (-1), 16, []), (.if_icmp .eq 0, 17, [1, 19]), (.iconst (2), 18, []), (.ireturn, 19, [0]), (.aload 0, 20, []), (.getfield 6, 21, [12, 2]), (.iload 1, 22, []), (.iaload, 23, []), (.iconst (3), 24, []), (.iload 2, 25, []), (.imul, 26, []), (.if_icmp .eq 0, 27, [3, 29]), (.iconst (3), 28, []), (.ireturn, 29, [0]), (.iconst (0), 30, []), (.istore 3, 31, []), (.iload 3, 32, []), (.iload 2, 33, []), (.if_icmp .eq 0, 34, [3, 74]), (.iconst (60), 35, []), (.iload 1, 36, []), (.imul, 37, []), (.iconst (3), 38, []), (.iload 3, 39, []), (.imul, 40, []), (.iadd, 41, []), (.istore 4, 42, []), (.aload 0, 43, []), (.getfield 7, 44, [12, 2]), (.iload 4, 45, []), (.laload, 46, []), (.sipush (0), 47, []), (.sipush (9), 48, []), (.invokestatic 92, 49, [3, 0, 1, 6, 0]), (.ifCond .eq 0, 50, [0, 70]), (.aload 0, 51, []), (.getfield 7, 52, [12, 2]), (.iload 4, 53, []), (.iconst (1), 54, []), (.iadd, 55, []), (.laload, 56, []), (.sipush (0), 57, []), (.sipush (59), 58, []), (.invokestatic 92, 59, [3, 0, 1, 6, 0]), (.ifCond .eq 0, 60, [0, 70]), (.aload 0, 61, []), (.getfield 7, 62, [12, 2]), (.iload 4, 63, []), (.iconst (2), 64, []), (.iadd, 65, []), (.laload, 66, []), (.sipush (0), 67, []), (.sipush (200), 68, []), (.invokestatic 92, 69, [3, 0, 1, 6, 0]), (.ifCond .eq 0, 70, [1, 72]), (.iconst (5), 71, []), (.ireturn, 72, [0]), (.iinc 3 (1), 73, []), (.goto 0, 74, [31]), (.iconst (0), 75, []), (.ireturn, 76, [0])]
def k_M_isLaw : mCode := [(.iconst (0), 1, []), (.istore 4, 2, []), (.iload 4, 3, []), (.iload 3, 4, []), (.if_icmp .eq 0, 5, [3, 45]), (.iconst (60), 6, []), (.iload 2, 7, []), (.imul, 8, []), (.iconst (3), 9, []), (.iload 4, 10, []), (.imul, 11, []), (.iadd, 12, []), (.istore 5, 13, []), (.iload 1, 14, []), (.iconst (10), 15, []), (.idiv, 16, []), (.aload 0, 17, []), (.getfield 7, 18, [12, 2]), (.iload 5, 19, []), (.laload, 20, []), (.l2i, 21, []), (.aload 0, 22, []), (.getfield 7, 23, [12, 2]), (.iload 5, 24, []), (.iconst (1), 25, []), (.iadd, 26, []), (.laload, 27, []), (.l2i, 28, []), (.iload 1, 29, []), (.iconst (10), 30, []), (.irem, 31, []), (.invokestatic 132, 32, [4, 0, 1, 4, 0]), (.i2l, 33, []), (.aload 0, 34, []), (.getfield 7, 35, [12, 2]), (.iload 5, 36, []), (.iconst (2), 37, []), (.iadd, 38, []), (.laload, 39, []), (.lcmp, 41, [0, 43]), (.ifCond .eq 0, 41, [0, 43]), (.iconst (0), 42, []), (.ireturn, 43, [3]), (.iinc 4 (1), 44, []), (.goto 0, 45, [2]), (.iload 1, 46, []), (.iconst (10), 47, []), (.irem, 48, []), (.ifCond .eq 0, 49, [5, 51]), (.iconst (1), 50, []), (.goto 0, 51, [52]), (.iconst (0), 52, []), (.ireturn, 53, [3])]
def k_M_laws : mCode := [(.aload 0, 1, []), (.iload 1, 2, []), (.iload 2, 3, []), (.invokestatic 194, 4, [3, 0, 1, 5, 13]), (.istore 3, 5, []), (.iload 3, 6, []), (.ifCond .eq 0, 7, [5, 11]), (.aload 0, 8, []), (.iload 3, 9, []), (.invokestatic 82, 10, [2, 0, 1, 2, 13]), (.ireturn, 11, [0]), (.iconst (0), 12, []), (.istore 4, 13, []), (.iconst (11), 14, []), (.istore 5, 15, []), (.iload 5, 16, []), (.iconst (210), 17, []), (.if_icmp .eq 0, 18, [3, 36]), (.iload 4, 19, []), (.iload 5, 20, []), (.iconst (10), 21, []), (.irem, 22, []), (.ifCond .eq 0, 23, [5, 31]), (.aload 0, 24, []), (.iload 5, 25, []), (.iload 1, 26, []), (.iload 2, 27, []), (.invokestatic 195, 28, [4, 0, 1, 6, 13]), (.ifCond .eq 0, 29, [0, 31]), (.iconst (1), 30, []), (.goto 0, 31, [32]), (.iconst (0), 32, []), (.iadd, 33, []), (.istore 4, 34, []), (.iinc 5 (1), 35, []), (.goto 0, 36, [15]), (.aload 0, 37, []), (.iload 4, 38, []), (.invokestatic 83, 39, [2, 0, 1, 2, 13]), (.ireturn, 40, [0])]
def k_M_lawOf : mCode := [(.iload 3, 1, []), (.ifCond .eq 0, 2, [2, 5]), (.iload 3, 3, []), (.iconst (1), 4, []), (.if_icmp .eq 0, 5, [5, 7]), (.iconst (1), 6, []), (.goto 0, 7, [11]), (.aload 0, 8, []), (.iload 1, 9, []), (.iload 2, 10, []), (.invokestatic 194, 11, [3, 0, 1, 5, 13]), (.istore 4, 12, []), (.iload 4, 13, []), (.ifCond .eq 0, 14, [5, 18]), (.aload 0, 15, []), (.iload 4, 16, []), (.invokestatic 82, 17, [2, 0, 1, 2, 13]), (.ireturn, 18, [0]), (.iconst (11), 19, []), (.istore 5, 20, []), (.iload 5, 21, []), (.iconst (210), 22, []), (.if_icmp .eq 0, 23, [3, 47]), (.iload 5, 24, []), (.iconst (10), 25, []), (.irem, 26, []), (.ifCond .eq 0, 27, [5, 45]), (.aload 0, 28, []), (.iload 5, 29, []), (.iload 1, 30, []), (.iload 2, 31, []), (.invokestatic 195, 32, [4, 0, 1, 6, 13]), (.ifCond .eq 0, 33, [0, 45]), (.aload 0, 34, []), (.iload 3, 35, []), (.ifCond .eq 0, 36, [1, 40]), (.iload 5, 37, []), (.iconst (10), 38, []), (.idiv, 39, []), (.goto 0, 40, [43]), (.iload 5, 41, []), (.iconst (10), 42, []), (.irem, 43, []), (.invokestatic 83, 44, [2, 0, 1, 2, 13]), (.ireturn, 45, [0]), (.iinc 5 (1), 46, []), (.goto 0, 47, [20]), (.aload 0, 48, []), (.iconst (6), 49, []), (.invokestatic 82, 50, [2, 0, 1, 2, 13]), (.ireturn, 51, [0])]
def k_M_atLeast : mCode := [(.iconst (0), 1, []), (.istore 4, 2, []), (.iload 4, 3, []), (.iconst (13), 4, []), (.if_icmp .eq 0, 5, [3, 16]), (.aload 0, 6, []), (.getfield 35, 7, [12, 2]), (.iload 4, 8, []), (.iload 4, 9, []), (.ifCond .eq 0, 10, [1, 12]), (.sipush (1), 11, []), (.goto 0, 12, [13]), (.sipush (0), 13, []), (.lastore, 14, []), (.iinc 4 (1), 15, []), (.goto 0, 16, [2]), (.iconst (0), 17, []), (.istore 4, 18, []), (.iload 4, 19, []), (.iload 1, 20, []), (.if_icmp .eq 0, 21, [3, 56]), (.iconst (12), 22, []), (.istore 5, 23, []), (.iload 5, 24, []), (.ifCond .eq 0, 25, [2, 54]), (.aload 0, 26, []), (.getfield 35, 27, [12, 2]), (.iload 5, 28, []), (.aload 0, 29, []), (.getfield 35, 30, [12, 2]), (.iload 5, 31, []), (.laload, 32, []), (.iconst (16), 33, []), (.iload 3, 34, []), (.isub, 35, []), (.i2l, 36, []), (.lmul, 37, []), (.iload 5, 38, []), (.ifCond .eq 0, 39, [1, 41]), (.sipush (0), 40, []), (.goto 0, 41, [50]), (.aload 0, 42, []), (.getfield 35, 43, [12, 2]), (.iload 5, 44, []), (.iconst (1), 45, []), (.isub, 46, []), (.laload, 47, []), (.iload 3, 48, []), (.i2l, 49, []), (.lmul, 50, []), (.ladd, 51, []), (.lastore, 52, []), (.iinc 5 (-1), 53, []), (.goto 0, 54, [23]), (.iinc 4 (1), 55, []), (.goto 0, 56, [18]), (.sipush (0), 57, []), (.lstore 4, 58, []), (.iload 2, 59, []), (.istore 6, 60, []), (.iload 6, 61, []), (.iconst (13), 62, []), (.if_icmp .eq 0, 63, [3, 72]), (.lload 4, 64, []), (.aload 0, 65, []), (.getfield 35, 66, [12, 2]), (.iload 6, 67, []), (.laload, 68, []), (.ladd, 69, []), (.lstore 4, 70, []), (.iinc 6 (1), 71, []), (.goto 0, 72, [60]), (.lload 4, 73, []), (.lreturn, 74, [])]
def k_M_waysOf : mCode := [(.sipush (1), 1, []), (.lstore 1, 2, []), (.iconst (0), 3, []), (.istore 3, 4, []), (.iload 3, 5, []), (.iload 0, 6, []), (.if_icmp .eq 0, 7, [3, 13]), (.lload 1, 8, []), (.sipush (16), 9, []), (.lmul, 10, []), (.lstore 1, 11, []), (.iinc 3 (1), 12, []), (.goto 0, 13, [4]), (.lload 1, 14, []), (.lreturn, 15, [])]
def k_M_errorOf : mCode := [(.iload 3, 1, []), (.ifCond .eq 0, 2, [1, 14]), (.iload 1, 3, []), (.invokestatic 199, 4, [1, 0, 2, 4, 0]), (.aload 0, 5, []), (.iload 1, 6, []), (.iload 2, 7, []), (.aload 0, 8, []), (.getfield 0, 9, [12, 2]), (.iconst (1), 10, []), (.iaload, 11, []), (.invokestatic 198, 12, [4, 0, 2, 7, 13]), (.lsub, 13, []), (.goto 0, 14, [22]), (.aload 0, 15, []), (.iload 1, 16, []), (.iload 2, 17, []), (.aload 0, 18, []), (.getfield 0, 19, [12, 2]), (.iconst (2), 20, []), (.iaload, 21, []), (.invokestatic 198, 22, [4, 0, 2, 7, 13]), (.lreturn, 23, [])]
def k_M_error : mCode := [(.iload 1, 1, []), (.i2l, 2, []), (.sipush (0), 3, []), (.sipush (12), 4, []), (.invokestatic 92, 5, [3, 0, 1, 6, 0]), (.ifCond .eq 0, 6, [0, 17]), (.iload 2, 7, []), (.i2l, 8, []), (.sipush (0), 9, []), (.sipush (13), 10, []), (.invokestatic 92, 11, [3, 0, 1, 6, 0]), (.ifCond .eq 0, 12, [0, 17]), (.iload 3, 13, []), (.ifCond .eq 0, 14, [2, 17]), (.iload 3, 15, []), (.iconst (1), 16, []), (.if_icmp .eq 0, 17, [5, 21]), (.aload 0, 18, []), (.iconst (1), 19, []), (.invokestatic 81, 20, [2, 0, 1, 2, 13]), (.ireturn, 21, [3]), (.aload 0, 22, []), (.aload 0, 23, []), (.iload 1, 24, []), (.iload 2, 25, []), (.iload 3, 26, []), (.invokestatic 200, 27, [4, 0, 2, 4, 13]), (.iload 1, 28, []), (.invokestatic 199, 29, [1, 0, 2, 4, 0]), (.invokestatic 84, 30, [3, 0, 1, 11, 13]), (.ireturn, 31, [3])]
def k_M_cut : mCode := [(.iload 1, 1, []), (.i2l, 2, []), (.sipush (0), 3, []), (.sipush (12), 4, []), (.invokestatic 92, 5, [3, 0, 1, 6, 0]), (.ifCond .eq 0, 6, [1, 10]), (.aload 0, 7, []), (.iconst (1), 8, []), (.invokestatic 82, 9, [2, 0, 1, 2, 13]), (.ireturn, 10, [0]), (.iconst (0), 11, []), (.istore 2, 12, []), (.aload 0, 13, []), (.iload 1, 14, []), (.iconst (0), 15, []), (.iconst (0), 16, []), (.invokestatic 200, 17, [4, 0, 2, 4, 13]), (.aload 0, 18, []), (.iload 1, 19, []), (.iconst (0), 20, []), (.iconst (1), 21, []), (.invokestatic 200, 22, [4, 0, 2, 4, 13]), (.ladd, 23, []), (.lstore 3, 24, []), (.iconst (1), 25, []), (.istore 5, 26, []), (.iload 5, 27, []), (.iconst (13), 28, []), (.if_icmp .eq 0, 29, [4, 52]), (.aload 0, 30, []), (.iload 1, 31, []), (.iload 5, 32, []), (.iconst (0), 33, []), (.invokestatic 200, 34, [4, 0, 2, 4, 13]), (.aload 0, 35, []), (.iload 1, 36, []), (.iload 5, 37, []), (.iconst (1), 38, []), (.invokestatic 200, 39, [4, 0, 2, 4, 13]), (.ladd, 40, []), (.lstore 6, 41, []), (.lload 6, 42, []), (.lload 3, 43, []), (.lcmp, 45, [2, 46]), (.ifCond .eq 0, 45, [2, 46]), (.goto 0, 46, [50]), (.lload 6, 47, []), (.lstore 3, 48, []), (.iload 5, 49, []), (.istore 2, 50, []), (.iinc 5 (1), 51, []), (.goto 0, 52, [26]), (.aload 0, 53, []), (.iload 2, 54, []), (.invokestatic 83, 55, [2, 0, 1, 2, 13]), (.ireturn, 56, [0])]
def k_M_settlesAt : mCode := [(.aload 0, 1, []), (.getfield 38, 2, [12, 2]), (.iload 1, 3, []), (.iaload, 4, []), (.iconst (-1), 5, []), (.if_icmp .eq 0, 6, [1, 8]), (.iconst (1), 7, []), (.goto 0, 8, [9]), (.iconst (0), 9, []), (.istore 3, 10, []), (.iload 3, 11, []), (.ifCond .eq 0, 12, [1, 30]), (.iload 1, 13, []), (.iconst (2), 14, []), (.irem, 15, []), (.ifCond .eq 0, 16, [1, 23]), (.iload 2, 17, []), (.aload 0, 18, []), (.getfield 37, 19, [12, 2]), (.iload 1, 20, []), (.iaload, 21, []), (.if_icmp .eq 0, 22, [4, 30]), (.goto 0, 23, [29]), (.iload 2, 24, []), (.aload 0, 25, []), (.getfield 37, 26, [12, 2]), (.iload 1, 27, []), (.iaload, 28, []), (.if_icmp .eq 0, 29, [2, 30]), (.return_, 30, []), (.aload 0, 31, []), (.getfield 37, 32, [12, 2]), (.iload 1, 33, []), (.iload 2, 34, []), (.iastore, 35, []), (.aload 0, 36, []), (.getfield 38, 37, [12, 2]), (.iload 1, 38, []), (.aload 0, 39, []), (.getfield 36, 40, [12, 2]), (.iload 1, 41, []), (.iaload, 42, []), (.iastore, 43, []), (.return_, 44, [])]
def k_M_beginsAt : mCode := [(.aload 0, 1, []), (.iload 1, 2, []), (.invokestatic 158, 3, [1, 0, 1, 1, 0]), (.invokestatic 159, 4, [2, 0, 0, 3, 13]), (.aload 0, 5, []), (.getfield 36, 6, [12, 2]), (.iload 1, 7, []), (.iconst (-1), 8, []), (.iastore, 9, []), (.aload 0, 10, []), (.getfield 38, 11, [12, 2]), (.iload 1, 12, []), (.iconst (-1), 13, []), (.iastore, 14, []), (.return_, 15, [])]
def k_M_playing : mCode := [(.iload 1, 1, []), (.ifCond .eq 0, 2, [1, 6]), (.aload 0, 3, []), (.invokestatic 135, 4, [1, 0, 1, 3, 13]), (.invokestatic 128, 5, [1, 0, 1, 3, 0]), (.ireturn, 6, [0]), (.iconst (0), 7, []), (.istore 2, 8, []), (.aload 0, 9, []), (.iconst (0), 10, []), (.invokestatic 204, 11, [2, 0, 0, 2, 13]), (.aload 0, 12, []), (.iload 2, 13, []), (.invokestatic 158, 14, [1, 0, 1, 1, 0]), (.invokestatic 160, 15, [2, 0, 0, 3, 13]), (.aload 0, 16, []), (.getfield 36, 17, [12, 2]), (.iload 2, 18, []), (.dup2, 19, []), (.iaload, 20, []), (.iconst (1), 21, []), (.iadd, 22, []), (.iastore, 23, []), (.aload 0, 24, []), (.getfield 36, 25, [12, 2]), (.iload 2, 26, []), (.iaload, 27, []), (.istore 3, 28, []), (.iload 3, 29, []), (.aload 0, 30, []), (.getfield 0, 31, [12, 2]), (.iconst (0), 32, []), (.iaload, 33, []), (.if_icmp .eq 0, 34, [5, 48]), (.iload 2, 35, []), (.ifCond .eq 0, 36, [1, 37]), (.goto 0, 37, [96]), (.iinc 2 (-1), 38, []), (.aload 0, 39, []), (.iload 2, 40, []), (.aload 0, 41, []), (.getfield 37, 42, [12, 2]), (.iload 2, 43, []), (.iconst (1), 44, []), (.iadd, 45, []), (.iaload, 46, []), (.invokestatic 203, 47, [3, 0, 0, 4, 13]), (.goto 0, 48, [11]), (.iload 3, 49, []), (.aload 0, 50, []), (.getfield 0, 51, [12, 2]), (.iconst (0), 52, []), (.iaload, 53, []), (.if_icmp .eq 0, 54, [3, 56]), (.iconst (1), 55, []), (.goto 0, 56, [57]), (.iconst (0), 57, []), (.istore 4, 58, []), (.iload 4, 59, []), (.ifCond .eq 0, 60, [0, 69]), (.iload 2, 61, []), (.iconst (2), 62, []), (.irem, 63, []), (.ifCond .eq 0, 64, [1, 69]), (.aload 0, 65, []), (.iload 3, 66, []), (.invokestatic 143, 67, [2, 0, 1, 3, 13]), (.ifCond .eq 0, 68, [1, 69]), (.goto 0, 69, [11]), (.iload 4, 70, []), (.ifCond .eq 0, 71, [0, 79]), (.iload 2, 72, []), (.iconst (2), 73, []), (.irem, 74, []), (.iconst (1), 75, []), (.if_icmp .eq 0, 76, [1, 79]), (.aload 0, 77, []), (.iload 3, 78, []), (.invokestatic 145, 79, [2, 0, 0, 2, 13]), (.iload 2, 80, []), (.iconst (1), 81, []), (.iadd, 82, []), (.iload 1, 83, []), (.if_icmp .eq 0, 84, [1, 91]), (.aload 0, 85, []), (.iload 2, 86, []), (.aload 0, 87, []), (.invokestatic 135, 88, [1, 0, 1, 3, 13]), (.invokestatic 128, 89, [1, 0, 1, 3, 0]), (.invokestatic 203, 90, [3, 0, 0, 4, 13]), (.goto 0, 91, [95]), (.iinc 2 (1), 92, []), (.aload 0, 93, []), (.iload 2, 94, []), (.invokestatic 204, 95, [2, 0, 0, 2, 13]), (.goto 0, 96, [11]), (.aload 0, 97, []), (.iconst (0), 98, []), (.invokestatic 158, 99, [1, 0, 1, 1, 0]), (.invokestatic 160, 100, [2, 0, 0, 3, 13]), (.aload 0, 101, []), (.getfield 37, 102, [12, 2]), (.iconst (0), 103, []), (.iaload, 104, []), (.ireturn, 105, [0])]
def k_M_game : mCode := [(.iload 1, 1, []), (.i2l, 2, []), (.sipush (0), 3, []), (.sipush (4), 4, []), (.invokestatic 92, 5, [3, 0, 1, 6, 0]), (.ifCond .eq 0, 6, [1, 10]), (.aload 0, 7, []), (.iconst (1), 8, []), (.invokestatic 82, 9, [2, 0, 1, 2, 13]), (.ireturn, 10, [0]), (.aload 0, 11, []), (.aload 0, 12, []), (.iload 1, 13, []), (.invokestatic 205, 14, [2, 0, 1, 5, 13]), (.invokestatic 83, 15, [2, 0, 1, 2, 13]), (.ireturn, 16, [0])]
def k_M_moveOf : mCode := [(.iload 1, 1, []), (.i2l, 2, []), (.sipush (1), 3, []), (.sipush (4), 4, []), (.invokestatic 92, 5, [3, 0, 1, 6, 0]), (.ifCond .eq 0, 6, [1, 10]), (.aload 0, 7, []), (.iconst (1), 8, []), (.invokestatic 82, 9, [2, 0, 1, 2, 13]), (.ireturn, 10, [0]), (.aload 0, 11, []), (.iload 1, 12, []), (.invokestatic 205, 13, [2, 0, 1, 5, 13]), (.pop, 14, []), (.aload 0, 15, []), (.getfield 38, 16, [12, 2]), (.iconst (0), 17, []), (.iaload, 18, []), (.aload 0, 19, []), (.getfield 0, 20, [12, 2]), (.iconst (0), 21, []), (.iaload, 22, []), (.if_icmp .eq 0, 23, [1, 27]), (.aload 0, 24, []), (.iconst (6), 25, []), (.invokestatic 82, 26, [2, 0, 1, 2, 13]), (.goto 0, 27, [33]), (.aload 0, 28, []), (.aload 0, 29, []), (.getfield 38, 30, [12, 2]), (.iconst (0), 31, []), (.iaload, 32, []), (.invokestatic 83, 33, [2, 0, 1, 2, 13]), (.ireturn, 34, [0])]
def k_M_share : mCode := [(.aload 0, 1, []), (.iload 1, 2, []), (.invokestatic 126, 3, [2, 0, 1, 2, 13]), (.ifCond .eq 0, 4, [1, 8]), (.aload 0, 5, []), (.iconst (1), 6, []), (.invokestatic 81, 7, [2, 0, 1, 2, 13]), (.ireturn, 8, [3]), (.aload 0, 9, []), (.iconst (2), 10, []), (.invokestatic 138, 11, [2, 0, 1, 4, 13]), (.ifCond .eq 0, 12, [1, 16]), (.aload 0, 13, []), (.iconst (6), 14, []), (.invokestatic 81, 15, [2, 0, 1, 2, 13]), (.goto 0, 16, [27]), (.aload 0, 17, []), (.aload 0, 18, []), (.iload 1, 19, []), (.iconst (2), 20, []), (.invokestatic 129, 21, [3, 0, 1, 3, 13]), (.i2l, 22, []), (.aload 0, 23, []), (.iconst (2), 24, []), (.invokestatic 138, 25, [2, 0, 1, 4, 13]), (.i2l, 26, []), (.invokestatic 84, 27, [3, 0, 1, 11, 13]), (.ireturn, 28, [3])]
def k_M_copyWarmth : mCode := [(.iload 1, 1, []), (.invokestatic 85, 2, [1, 0, 1, 1, 0]), (.ifCond .eq 0, 3, [1, 7]), (.aload 0, 4, []), (.iconst (1), 5, []), (.invokestatic 82, 6, [2, 0, 1, 2, 13]), (.ireturn, 7, [0]), (.aload 0, 8, []), (.getfield 6, 9, [12, 2]), (.iload 1, 10, []), (.iaload, 11, []), (.iconst (-1), 12, []), (.if_icmp .eq 0, 13, [1, 17]), (.aload 0, 14, []), (.iconst (2), 15, []), (.invokestatic 82, 16, [2, 0, 1, 2, 13]), (.ireturn, 17, [0]), (.aload 0, 18, []), (.getfield 6, 19, [12, 2]), (.iload 1, 20, []), (.iaload, 21, []), (.aload 0, 22, []), (.getfield 0, 23, [12, 2]), (.iconst (0), 24, []), (.iaload, 25, []), (.if_icmp .eq 0, 26, [3, 30]), (.aload 0, 27, []), (.iconst (3), 28, []), (.invokestatic 82, 29, [2, 0, 1, 2, 13]), (.ireturn, 30, [0]), (.iconst (0), 31, []), (.istore 2, 32, []), (.iload 2, 33, []), (.aload 0, 34, []), (.getfield 0, 35, [12, 2]), (.iconst (0), 36, []), (.iaload, 37, []), (.if_icmp .eq 0, 38, [3, 58]), (.aload 0, 39, []), (.getfield 7, 40, [12, 2]), (.iconst (60), 41, []), (.iload 1, 42, []), (.imul, 43, []), (.iload 2, 44, []), (.iadd, 45, []), (.aload 0, 46, []), (.iload 2, 47, []), (.iconst (2), 48, []), (.invokestatic 129, 49, [3, 0, 1, 3, 13]), (.i2l, 50, []), (.aload 0, 51, []), (.getfield 5, 52, [12, 2]), (.iload 1, 53, []), (.iaload, 54, []), (.invokestatic 86, 55, [2, 0, 2, 3, 0]), (.lastore, 56, []), (.iinc 2 (1), 57, []), (.goto 0, 58, [32]), (.aload 0, 59, []), (.aload 0, 60, []), (.getfield 0, 61, [12, 2]), (.iconst (0), 62, []), (.iaload, 63, []), (.invokestatic 83, 64, [2, 0, 1, 2, 13]), (.ireturn, 65, [0])]
def k_M_draw : mCode := [(.aload 0, 1, []), (.aload 0, 2, []), (.getfield 39, 3, [12, 0]), (.iconst (3261), 4, []), (.imul, 5, []), (.iconst (11491), 6, []), (.iadd, 7, []), (.iconst (65536), 8, []), (.irem, 9, []), (.putfield 39, 10, [12, 0]), (.aload 0, 11, []), (.getfield 39, 12, [12, 0]), (.iconst (8), 13, []), (.idiv, 14, []), (.iload 1, 15, []), (.irem, 16, []), (.ireturn, 17, [0])]
def k_M_nightsBy : mCode := [(.aload 0, 1, []), (.getfield 0, 2, [12, 2]), (.iconst (7), 3, []), (.iaload, 4, []), (.iload 1, 5, []), (.iadd, 6, []), (.iconst (9999), 7, []), (.if_icmp .eq 0, 8, [5, 10]), (.iconst (0), 9, []), (.ireturn, 10, [3]), (.aload 0, 11, []), (.iload 1, 12, []), (.invokestatic 147, 13, [2, 0, 0, 3, 13]), (.aload 0, 14, []), (.getfield 42, 15, [12, 2]), (.iconst (1), 16, []), (.dup2, 17, []), (.iaload, 18, []), (.iload 1, 19, []), (.iadd, 20, []), (.iastore, 21, []), (.iconst (1), 22, []), (.ireturn, 23, [3])]
def k_M_drinksBy : mCode := [(.aload 0, 1, []), (.iload 1, 2, []), (.invokestatic 143, 3, [2, 0, 1, 3, 13]), (.ifCond .eq 0, 4, [1, 6]), (.iconst (0), 5, []), (.ireturn, 6, [3]), (.aload 0, 7, []), (.getfield 42, 8, [12, 2]), (.iconst (2), 9, []), (.dup2, 10, []), (.iaload, 11, []), (.iconst (1), 12, []), (.iadd, 13, []), (.iastore, 14, []), (.iconst (1), 15, []), (.ireturn, 16, [3])]
def k_M_eveningsBy : mCode := [(.aload 0, 1, []), (.getfield 0, 2, [12, 2]), (.iconst (7), 3, []), (.iaload, 4, []), (.iconst (9999), 5, []), (.if_icmp .eq 0, 6, [1, 8]), (.iconst (0), 7, []), (.ireturn, 8, [3]), (.aload 0, 9, []), (.iconst (-1), 10, []), (.invokestatic 149, 11, [2, 0, 1, 4, 13]), (.pop, 12, []), (.aload 0, 13, []), (.getfield 42, 14, [12, 2]), (.iconst (1), 15, []), (.dup2, 16, []), (.iaload, 17, []), (.iconst (1), 18, []), (.iadd, 19, []), (.iastore, 20, []), (.aload 0, 21, []), (.getfield 42, 22, [12, 2]), (.iconst (3), 23, []), (.dup2, 24, []), (.iaload, 25, []), (.iconst (1), 26, []), (.iadd, 27, []), (.iastore, 28, []), (.iconst (1), 29, []), (.ireturn, 30, [3])]
def k_M_doesAny : mCode := [(.aload 0, 1, []), (.getfield 0, 2, [12, 2]), (.iconst (0), 3, []), (.iaload, 4, []), (.ifCond .eq 0, 5, [1, 7]), (.iconst (0), 6, []), (.ireturn, 7, [3]), (.aload 0, 8, []), (.aload 0, 9, []), (.getfield 0, 10, [12, 2]), (.iconst (0), 11, []), (.iaload, 12, []), (.invokestatic 210, 13, [2, 0, 1, 2, 13]), (.istore 1, 14, []), (.aload 0, 15, []), (.iconst (16), 16, []), (.invokestatic 210, 17, [2, 0, 1, 2, 13]), (.aload 0, 18, []), (.getfield 0, 19, [12, 2]), (.iconst (1), 20, []), (.iaload, 21, []), (.if_icmp .eq 0, 22, [3, 26]), (.aload 0, 23, []), (.iload 1, 24, []), (.invokestatic 212, 25, [2, 0, 1, 2, 13]), (.goto 0, 26, [29]), (.aload 0, 27, []), (.iconst (1), 28, []), (.invokestatic 211, 29, [2, 0, 1, 2, 13]), (.ireturn, 30, [3])]
def k_M_does : mCode := [(.aload 0, 1, []), (.getfield 0, 2, [12, 2]), (.iload 1, 3, []), (.iconst (1), 4, []), (.iadd, 5, []), (.iaload, 6, []), (.istore 2, 7, []), (.aload 0, 8, []), (.getfield 0, 9, [12, 2]), (.iload 1, 10, []), (.iaload, 11, []), (.tableswitch 0 (13) 0 #[], 12, [36, 12, 16, 20, 23, 33]), (.aload 0, 13, []), (.iload 2, 14, []), (.invokestatic 212, 15, [2, 0, 1, 2, 13]), (.ireturn, 16, [3]), (.aload 0, 17, []), (.iload 2, 18, []), (.invokestatic 211, 19, [2, 0, 1, 2, 13]), (.ireturn, 20, [3]), (.aload 0, 21, []), (.invokestatic 213, 22, [1, 0, 1, 1, 13]), (.ireturn, 23, [3]), (.aload 0, 24, []), (.iload 2, 25, []), (.aload 0, 26, []), (.getfield 0, 27, [12, 2]), (.iload 1, 28, []), (.iconst (2), 29, []), (.iadd, 30, []), (.iaload, 31, []), (.invokestatic 151, 32, [3, 0, 1, 4, 13]), (.ireturn, 33, [3]), (.aload 0, 34, []), (.invokestatic 214, 35, [1, 0, 1, 2, 13]), (.ireturn, 36, [3]), (.iconst (1), 37, []), (.ireturn, 38, [3])]
def k_M_holds : mCode := [(.aload 0, 1, []), (.getfield 0, 2, [12, 2]), (.iload 1, 3, []), (.iaload, 4, []), (.iconst (1800), 5, []), (.isub, 6, []), (.istore 2, 7, []), (.aload 0, 8, []), (.getfield 0, 9, [12, 2]), (.iload 1, 10, []), (.iconst (1), 11, []), (.iadd, 12, []), (.iaload, 13, []), (.istore 3, 14, []), (.iload 2, 15, []), (.iconst (22), 16, []), (.if_icmp .eq 0, 17, [1, 21]), (.aload 0, 18, []), (.iload 3, 19, []), (.invokestatic 134, 20, [2, 0, 1, 2, 13]), (.ireturn, 21, [3]), (.aload 0, 22, []), (.iload 3, 23, []), (.iload 2, 24, []), (.iconst (10), 25, []), (.if_icmp .eq 0, 26, [1, 28]), (.iconst (2), 27, []), (.goto 0, 28, [29]), (.iconst (3), 29, []), (.invokestatic 129, 30, [3, 0, 1, 3, 13]), (.istore 4, 31, []), (.aload 0, 32, []), (.getfield 0, 33, [12, 2]), (.iload 1, 34, []), (.iconst (5), 35, []), (.iadd, 36, []), (.iaload, 37, []), (.iconst (60), 38, []), (.if_icmp .eq 0, 39, [1, 51]), (.iload 4, 40, []), (.aload 0, 41, []), (.getfield 0, 42, [12, 2]), (.iload 1, 43, []), (.iconst (2), 44, []), (.iadd, 45, []), (.iaload, 46, []), (.if_icmp .eq 0, 47, [3, 49]), (.iconst (1), 48, []), (.goto 0, 49, [82]), (.iconst (0), 50, []), (.goto 0, 51, [82]), (.aload 0, 52, []), (.getfield 0, 53, [12, 2]), (.iload 1, 54, []), (.iconst (5), 55, []), (.iadd, 56, []), (.iaload, 57, []), (.iconst (62), 58, []), (.if_icmp .eq 0, 59, [1, 71]), (.iload 4, 60, []), (.aload 0, 61, []), (.getfield 0, 62, [12, 2]), (.iload 1, 63, []), (.iconst (2), 64, []), (.iadd, 65, []), (.iaload, 66, []), (.if_icmp .eq 0, 67, [5, 69]), (.iconst (1), 68, []), (.goto 0, 69, [82]), (.iconst (0), 70, []), (.goto 0, 71, [82]), (.iload 4, 72, []), (.aload 0, 73, []), (.getfield 0, 74, [12, 2]), (.iload 1, 75, []), (.iconst (2), 76, []), (.iadd, 77, []), (.iaload, 78, []), (.if_icmp .eq 0, 79, [1, 81]), (.iconst (1), 80, []), (.goto 0, 81, [82]), (.iconst (0), 82, []), (.ireturn, 83, [3])]
def k_M_behindEnds : mCode := [(.iload 1, 1, []), (.istore 2, 2, []), (.iload 2, 3, []), (.aload 0, 4, []), (.getfield 0, 5, [12, 2]), (.iconst (8), 6, []), (.iaload, 7, []), (.if_icmp .eq 0, 8, [3, 71]), (.aload 0, 9, []), (.getfield 0, 10, [12, 2]), (.iconst (46), 11, []), (.iconst (6), 12, []), (.iload 2, 13, []), (.imul, 14, []), (.iadd, 15, []), (.iaload, 16, []), (.iconst (20), 17, []), (.if_icmp .eq 0, 18, [1, 71]), (.aload 0, 19, []), (.getfield 0, 20, [12, 2]), (.iconst (46), 21, []), (.iconst (6), 22, []), (.iload 2, 23, []), (.imul, 24, []), (.iadd, 25, []), (.iconst (4), 26, []), (.iadd, 27, []), (.iaload, 28, []), (.istore 3, 29, []), (.aload 0, 30, []), (.getfield 0, 31, [12, 2]), (.iconst (46), 32, []), (.iconst (6), 33, []), (.iload 3, 34, []), (.imul, 35, []), (.iadd, 36, []), (.iaload, 37, []), (.iconst (19), 38, []), (.if_icmp .eq 0, 39, [1, 46]), (.aload 0, 40, []), (.getfield 41, 41, [12, 2]), (.iload 3, 42, []), (.iaload, 43, []), (.ifCond .eq 0, 44, [5, 46]), (.iconst (1), 45, []), (.goto 0, 46, [47]), (.iconst (0), 47, []), (.istore 4, 48, []), (.aload 0, 49, []), (.getfield 41, 50, [12, 2]), (.iload 3, 51, []), (.dup2, 52, []), (.iaload, 53, []), (.iload 4, 54, []), (.ifCond .eq 0, 55, [0, 57]), (.iconst (1), 56, []), (.goto 0, 57, [58]), (.iconst (0), 58, []), (.isub, 59, []), (.iastore, 60, []), (.iload 4, 61, []), (.ifCond .eq 0, 62, [0, 66]), (.iload 3, 63, []), (.iconst (1), 64, []), (.iadd, 65, []), (.goto 0, 66, [69]), (.iload 2, 67, []), (.iconst (1), 68, []), (.iadd, 69, []), (.istore 2, 70, []), (.goto 0, 71, [2]), (.iload 2, 72, []), (.ireturn, 73, [0])]
def k_M_lives : mCode := [(.aload 0, 1, []), (.iload 1, 2, []), (.putfield 39, 3, [12, 0]), (.aload 0, 4, []), (.iconst (0), 5, []), (.putfield 40, 6, [12, 0]), (.iconst (0), 7, []), (.istore 2, 8, []), (.iload 2, 9, []), (.iconst (5), 10, []), (.if_icmp .eq 0, 11, [3, 18]), (.aload 0, 12, []), (.getfield 42, 13, [12, 2]), (.iload 2, 14, []), (.iconst (0), 15, []), (.iastore, 16, []), (.iinc 2 (1), 17, []), (.goto 0, 18, [8]), (.iconst (0), 19, []), (.istore 2, 20, []), (.iload 2, 21, []), (.aload 0, 22, []), (.getfield 0, 23, [12, 2]), (.iconst (8), 24, []), (.iaload, 25, []), (.if_icmp .eq 0, 26, [3, 113]), (.aload 0, 27, []), (.getfield 40, 28, [12, 0]), (.iconst (300), 29, []), (.if_icmp .eq 0, 30, [1, 36]), (.aload 0, 31, []), (.getfield 42, 32, [12, 2]), (.iconst (4), 33, []), (.iconst (1), 34, []), (.iastore, 35, []), (.return_, 36, []), (.iconst (46), 37, []), (.iconst (6), 38, []), (.iload 2, 39, []), (.imul, 40, []), (.iadd, 41, []), (.istore 3, 42, []), (.aload 0, 43, []), (.dup, 44, []), (.getfield 40, 45, [12, 0]), (.iconst (1), 46, []), (.iadd, 47, []), (.putfield 40, 48, [12, 0]), (.aload 0, 49, []), (.getfield 0, 50, [12, 2]), (.iload 3, 51, []), (.iaload, 52, []), (.iconst (21), 53, []), (.if_icmp .eq 0, 54, [1, 55]), (.return_, 55, []), (.aload 0, 56, []), (.getfield 42, 57, [12, 2]), (.iconst (0), 58, []), (.dup2, 59, []), (.iaload, 60, []), (.aload 0, 61, []), (.iload 3, 62, []), (.invokestatic 215, 63, [2, 0, 1, 3, 13]), (.ifCond .eq 0, 64, [0, 66]), (.iconst (0), 65, []), (.goto 0, 66, [67]), (.iconst (1), 67, []), (.iadd, 68, []), (.iastore, 69, []), (.aload 0, 70, []), (.getfield 0, 71, [12, 2]), (.iload 3, 72, []), (.iaload, 73, []), (.iconst (19), 74, []), (.if_icmp .eq 0, 75, [1, 87]), (.aload 0, 76, []), (.getfield 41, 77, [12, 2]), (.iload 2, 78, []), (.aload 0, 79, []), (.getfield 0, 80, [12, 2]), (.iload 3, 81, []), (.iconst (1), 82, []), (.iadd, 83, []), (.iaload, 84, []), (.iconst (1), 85, []), (.isub, 86, []), (.iastore, 87, []), (.aload 0, 88, []), (.aload 0, 89, []), (.getfield 0, 90, [12, 2]), (.iload 3, 91, []), (.iaload, 92, []), (.iconst (1800), 93, []), (.if_icmp .eq 0, 94, [2, 107]), (.aload 0, 95, []), (.iload 3, 96, []), (.invokestatic 216, 97, [2, 0, 1, 5, 13]), (.ifCond .eq 0, 98, [1, 107]), (.aload 0, 99, []), (.getfield 0, 100, [12, 2]), (.iload 3, 101, []), (.iconst (4), 102, []), (.iadd, 103, []), (.iaload, 104, []), (.iconst (1), 105, []), (.iadd, 106, []), (.goto 0, 107, [110]), (.iload 2, 108, []), (.iconst (1), 109, []), (.iadd, 110, []), (.invokestatic 217, 111, [2, 0, 1, 5, 13]), (.istore 2, 112, []), (.goto 0, 113, [20]), (.return_, 114, [])]
def k_M_live : mCode := [(.iload 1, 1, []), (.i2l, 2, []), (.sipush (0), 3, []), (.sipush (9999), 4, []), (.invokestatic 92, 5, [3, 0, 1, 6, 0]), (.ifCond .eq 0, 6, [1, 10]), (.aload 0, 7, []), (.iconst (1), 8, []), (.invokestatic 82, 9, [2, 0, 1, 2, 13]), (.ireturn, 10, [0]), (.aload 0, 11, []), (.getfield 0, 12, [12, 2]), (.iconst (8), 13, []), (.iaload, 14, []), (.iconst (-1), 15, []), (.if_icmp .eq 0, 16, [1, 20]), (.aload 0, 17, []), (.iconst (6), 18, []), (.invokestatic 82, 19, [2, 0, 1, 2, 13]), (.ireturn, 20, [0]), (.aload 0, 21, []), (.iload 1, 22, []), (.invokestatic 218, 23, [2, 0, 0, 4, 13]), (.iconst (0), 24, []), (.istore 2, 25, []), (.iload 2, 26, []), (.iconst (5), 27, []), (.if_icmp .eq 0, 28, [3, 38]), (.aload 0, 29, []), (.getfield 43, 30, [12, 2]), (.iload 2, 31, []), (.aload 0, 32, []), (.getfield 42, 33, [12, 2]), (.iload 2, 34, []), (.iaload, 35, []), (.iastore, 36, []), (.iinc 2 (1), 37, []), (.goto 0, 38, [25]), (.aload 0, 39, []), (.iconst (1), 40, []), (.putfield 44, 41, [12, 3]), (.aload 0, 42, []), (.aload 0, 43, []), (.getfield 40, 44, [12, 0]), (.invokestatic 83, 45, [2, 0, 1, 2, 13]), (.ireturn, 46, [0])]
def k_M_lived : mCode := [(.iload 1, 1, []), (.ifCond .eq 0, 2, [2, 5]), (.iload 1, 3, []), (.iconst (4), 4, []), (.if_icmp .eq 0, 5, [5, 9]), (.aload 0, 6, []), (.iconst (1), 7, []), (.invokestatic 82, 8, [2, 0, 1, 2, 13]), (.ireturn, 9, [0]), (.aload 0, 10, []), (.getfield 44, 11, [12, 0]), (.ifCond .eq 0, 12, [0, 19]), (.aload 0, 13, []), (.aload 0, 14, []), (.getfield 43, 15, [12, 2]), (.iload 1, 16, []), (.iaload, 17, []), (.invokestatic 83, 18, [2, 0, 1, 2, 13]), (.goto 0, 19, [22]), (.aload 0, 20, []), (.iconst (6), 21, []), (.invokestatic 82, 22, [2, 0, 1, 2, 13]), (.ireturn, 23, [0])]
def k_M_mean : mCode := [(.iload 1, 1, []), (.i2l, 2, []), (.sipush (0), 3, []), (.sipush (9999), 4, []), (.invokestatic 92, 5, [3, 0, 1, 6, 0]), (.ifCond .eq 0, 6, [0, 19]), (.iload 2, 7, []), (.i2l, 8, []), (.sipush (1), 9, []), (.sipush (20), 10, []), (.invokestatic 92, 11, [3, 0, 1, 6, 0]), (.ifCond .eq 0, 12, [0, 19]), (.iload 1, 13, []), (.iload 2, 14, []), (.iadd, 15, []), (.iconst (1), 16, []), (.isub, 17, []), (.iconst (9999), 18, []), (.if_icmp .eq 0, 19, [5, 23]), (.aload 0, 20, []), (.iconst (1), 21, []), (.invokestatic 81, 22, [2, 0, 1, 2, 13]), (.ireturn, 23, [3]), (.aload 0, 24, []), (.getfield 0, 25, [12, 2]), (.iconst (8), 26, []), (.iaload, 27, []), (.iconst (-1), 28, []), (.if_icmp .eq 0, 29, [1, 33]), (.aload 0, 30, []), (.iconst (6), 31, []), (.invokestatic 81, 32, [2, 0, 1, 2, 13]), (.ireturn, 33, [3]), (.aload 0, 34, []), (.iconst (2070), 35, []), (.invokestatic 159, 36, [2, 0, 0, 3, 13]), (.sipush (0), 37, []), (.lstore 3, 38, []), (.iconst (0), 39, []), (.istore 5, 40, []), (.iload 5, 41, []), (.iload 2, 42, []), (.if_icmp .eq 0, 43, [3, 60]), (.aload 0, 44, []), (.iload 1, 45, []), (.iload 5, 46, []), (.iadd, 47, []), (.invokestatic 218, 48, [2, 0, 0, 4, 13]), (.lload 3, 49, []), (.aload 0, 50, []), (.iconst (2), 51, []), (.invokestatic 138, 52, [2, 0, 1, 4, 13]), (.i2l, 53, []), (.ladd, 54, []), (.lstore 3, 55, []), (.aload 0, 56, []), (.iconst (2070), 57, []), (.invokestatic 160, 58, [2, 0, 0, 3, 13]), (.iinc 5 (1), 59, []), (.goto 0, 60, [40]), (.aload 0, 61, []), (.lload 3, 62, []), (.iload 2, 63, []), (.i2l, 64, []), (.invokestatic 84, 65, [3, 0, 1, 11, 13]), (.ireturn, 66, [3])]
def k_M_copies : mCode := [(.iconst (0), 1, []), (.istore 3, 2, []), (.iload 3, 3, []), (.iconst (414), 4, []), (.if_icmp .eq 0, 5, [3, 23]), (.aload 0, 6, []), (.getfield 0, 7, [12, 2]), (.iconst (414), 8, []), (.iload 2, 9, []), (.imul, 10, []), (.iload 3, 11, []), (.iadd, 12, []), (.aload 0, 13, []), (.getfield 0, 14, [12, 2]), (.iconst (414), 15, []), (.iload 1, 16, []), (.imul, 17, []), (.iload 3, 18, []), (.iadd, 19, []), (.iaload, 20, []), (.iastore, 21, []), (.iinc 3 (1), 22, []), (.goto 0, 23, [2]), (.iconst (0), 24, []), (.istore 3, 25, []), (.iload 3, 26, []), (.iconst (7), 27, []), (.if_icmp .eq 0, 28, [3, 46]), (.aload 0, 29, []), (.getfield 1, 30, [12, 2]), (.iconst (7), 31, []), (.iload 2, 32, []), (.imul, 33, []), (.iload 3, 34, []), (.iadd, 35, []), (.aload 0, 36, []), (.getfield 1, 37, [12, 2]), (.iconst (7), 38, []), (.iload 1, 39, []), (.imul, 40, []), (.iload 3, 41, []), (.iadd, 42, []), (.laload, 43, []), (.lastore, 44, []), (.iinc 3 (1), 45, []), (.goto 0, 46, [25]), (.return_, 47, [])]
def k_M_mark : mCode := [(.aload 0, 1, []), (.getfield 45, 2, [12, 0]), (.iconst (3), 3, []), (.if_icmp .eq 0, 4, [1, 8]), (.aload 0, 5, []), (.iconst (4), 6, []), (.invokestatic 82, 7, [2, 0, 1, 2, 13]), (.ireturn, 8, [0]), (.aload 0, 9, []), (.dup, 10, []), (.getfield 45, 11, [12, 0]), (.iconst (1), 12, []), (.iadd, 13, []), (.putfield 45, 14, [12, 0]), (.aload 0, 15, []), (.iconst (0), 16, []), (.aload 0, 17, []), (.getfield 45, 18, [12, 0]), (.invokestatic 222, 19, [3, 0, 0, 4, 13]), (.aload 0, 20, []), (.aload 0, 21, []), (.getfield 45, 22, [12, 0]), (.invokestatic 83, 23, [2, 0, 1, 2, 13]), (.ireturn, 24, [0])]
def k_M_undo : mCode := [(.aload 0, 1, []), (.getfield 45, 2, [12, 0]), (.ifCond .eq 0, 3, [1, 7]), (.aload 0, 4, []), (.iconst (6), 5, []), (.invokestatic 82, 6, [2, 0, 1, 2, 13]), (.ireturn, 7, [0]), (.aload 0, 8, []), (.aload 0, 9, []), (.getfield 45, 10, [12, 0]), (.iconst (0), 11, []), (.invokestatic 222, 12, [3, 0, 0, 4, 13]), (.aload 0, 13, []), (.dup, 14, []), (.getfield 45, 15, [12, 0]), (.iconst (1), 16, []), (.isub, 17, []), (.putfield 45, 18, [12, 0]), (.aload 0, 19, []), (.aload 0, 20, []), (.getfield 45, 21, [12, 0]), (.invokestatic 83, 22, [2, 0, 1, 2, 13]), (.ireturn, 23, [0])]
def k_Co_init : mCode := [(.aload 0, 1, []), (.invokespecial 0, 2, []), (.aload 0, 3, []), (.iconst (0), 4, []), (.putfield 0, 5, [0, 0]), (.aload 0, 6, []), (.iconst (0), 7, []), (.putfield 1, 8, [0, 0]), (.aload 0, 9, []), (.iconst (7), 10, []), (.newarray .int, 11, [0]), (.putfield 2, 12, [0, 2]), (.aload 0, 13, []), (.iconst (7), 14, []), (.newarray .int, 15, [0]), (.putfield 3, 16, [0, 2]), (.aload 0, 17, []), (.iconst (7), 18, []), (.newarray .int, 19, [0]), (.putfield 4, 20, [0, 2]), (.aload 0, 21, []), (.iconst (7), 22, []), (.newarray .int, 23, [0]), (.putfield 5, 24, [0, 2]), (.aload 0, 25, []), (.iconst (7), 26, []), (.newarray .int, 27, [0]), (.putfield 6, 28, [0, 2]), (.aload 0, 29, []), (.iconst (7), 30, []), (.newarray .int, 31, [0]), (.putfield 7, 32, [0, 2]), (.aload 0, 33, []), (.iconst (7), 34, []), (.newarray .long, 35, [1]), (.putfield 8, 36, [0, 2]), (.aload 0, 37, []), (.iconst (7), 38, []), (.newarray .int, 39, [0]), (.putfield 9, 40, [0, 2]), (.ldc 4, 41, []), (.iconst (0), 42, []), (.aload 0, 43, []), (.getfield 2, 44, [0, 2]), (.iconst (0), 45, []), (.iconst (7), 46, []), (.swap, 47, [0]), (.return_, 48, [])]
def k_Co_clear : mCode := [(.aload 0, 1, []), (.iconst (0), 2, []), (.putfield 0, 3, [0, 0]), (.aload 0, 4, []), (.iconst (0), 5, []), (.putfield 1, 6, [0, 0]), (.ldc 4, 7, []), (.iconst (0), 8, []), (.aload 0, 9, []), (.getfield 2, 10, [0, 2]), (.iconst (0), 11, []), (.iconst (7), 12, []), (.swap, 13, [0]), (.return_, 14, [])]
def k_Co_takeFrom : mCode := [(.aload 0, 1, []), (.aload 1, 2, []), (.getfield 0, 3, [0, 0]), (.putfield 0, 4, [0, 0]), (.aload 0, 5, []), (.aload 1, 6, []), (.getfield 1, 7, [0, 0]), (.putfield 1, 8, [0, 0]), (.aload 1, 9, []), (.getfield 2, 10, [0, 2]), (.iconst (0), 11, []), (.aload 0, 12, []), (.getfield 2, 13, [0, 2]), (.iconst (0), 14, []), (.iconst (7), 15, []), (.swap, 16, [0]), (.aload 1, 17, []), (.getfield 3, 18, [0, 2]), (.iconst (0), 19, []), (.aload 0, 20, []), (.getfield 3, 21, [0, 2]), (.iconst (0), 22, []), (.aload 0, 23, []), (.getfield 0, 24, [0, 0]), (.swap, 25, [0]), (.aload 1, 26, []), (.getfield 4, 27, [0, 2]), (.iconst (0), 28, []), (.aload 0, 29, []), (.getfield 4, 30, [0, 2]), (.iconst (0), 31, []), (.aload 0, 32, []), (.getfield 0, 33, [0, 0]), (.swap, 34, [0]), (.aload 1, 35, []), (.getfield 5, 36, [0, 2]), (.iconst (0), 37, []), (.aload 0, 38, []), (.getfield 5, 39, [0, 2]), (.iconst (0), 40, []), (.aload 0, 41, []), (.getfield 0, 42, [0, 0]), (.swap, 43, [0]), (.aload 1, 44, []), (.getfield 6, 45, [0, 2]), (.iconst (0), 46, []), (.aload 0, 47, []), (.getfield 6, 48, [0, 2]), (.iconst (0), 49, []), (.aload 0, 50, []), (.getfield 0, 51, [0, 0]), (.swap, 52, [0]), (.aload 1, 53, []), (.getfield 7, 54, [0, 2]), (.iconst (0), 55, []), (.aload 0, 56, []), (.getfield 7, 57, [0, 2]), (.iconst (0), 58, []), (.aload 0, 59, []), (.getfield 0, 60, [0, 0]), (.swap, 61, [0]), (.aload 1, 62, []), (.getfield 8, 63, [0, 2]), (.iconst (0), 64, []), (.aload 0, 65, []), (.getfield 8, 66, [0, 2]), (.iconst (0), 67, []), (.aload 0, 68, []), (.getfield 0, 69, [0, 0]), (.swap, 70, [1]), (.return_, 71, [])]
def k_Co_has : mCode := [(.iload 1, 1, []), (.ifCond .eq 0, 2, [2, 8]), (.iload 1, 3, []), (.aload 0, 4, []), (.getfield 0, 5, [0, 0]), (.if_icmp .eq 0, 6, [3, 8]), (.iconst (1), 7, []), (.goto 0, 8, [9]), (.iconst (0), 9, []), (.ireturn, 10, [3])]
def k_Co_isFull : mCode := [(.aload 0, 1, []), (.getfield 0, 2, [0, 0]), (.iconst (7), 3, []), (.if_icmp .eq 0, 4, [2, 6]), (.iconst (1), 5, []), (.goto 0, 6, [7]), (.iconst (0), 7, []), (.ireturn, 8, [3])]
def k_Co_add : mCode := [(.aload 0, 1, []), (.getfield 0, 2, [0, 0]), (.iconst (6), 3, []), (.dsub, 4, []), (.istore 4, 5, []), (.aload 0, 6, []), (.getfield 3, 7, [0, 2]), (.iload 4, 8, []), (.iload 1, 9, []), (.iastore, 10, []), (.aload 0, 11, []), (.getfield 4, 12, [0, 2]), (.iload 4, 13, []), (.iconst (1), 14, []), (.iastore, 15, []), (.aload 0, 16, []), (.getfield 5, 17, [0, 2]), (.iload 4, 18, []), (.iconst (0), 19, []), (.iastore, 20, []), (.aload 0, 21, []), (.getfield 6, 22, [0, 2]), (.iload 4, 23, []), (.iconst (2), 24, []), (.iastore, 25, []), (.aload 0, 26, []), (.getfield 7, 27, [0, 2]), (.iload 4, 28, []), (.iconst (-1), 29, []), (.iastore, 30, []), (.aload 0, 31, []), (.getfield 8, 32, [0, 2]), (.iload 4, 33, []), (.lload 2, 34, []), (.lastore, 35, []), (.aload 0, 36, []), (.iload 4, 37, []), (.iconst (1), 38, []), (.iadd, 39, []), (.putfield 0, 40, [0, 0]), (.iload 4, 41, []), (.ireturn, 42, [0])]
def k_Co_named : mCode := [(.iconst (0), 1, []), (.istore 3, 2, []), (.iload 3, 3, []), (.aload 0, 4, []), (.getfield 0, 5, [0, 0]), (.if_icmp .eq 0, 6, [3, 17]), (.aload 0, 7, []), (.getfield 8, 8, [0, 2]), (.iload 3, 9, []), (.laload, 10, []), (.lload 1, 11, []), (.lcmp, 13, [1, 15]), (.ifCond .eq 0, 13, [1, 15]), (.iload 3, 14, []), (.ireturn, 15, [0]), (.iinc 3 (1), 16, []), (.goto 0, 17, [2]), (.iconst (-1), 18, []), (.ireturn, 19, [0])]
def k_Co_hasWhom : mCode := [(.aload 0, 1, []), (.getfield 7, 2, [0, 2]), (.iload 1, 3, []), (.iaload, 4, []), (.iconst (-1), 5, []), (.if_icmp .eq 0, 6, [0, 8]), (.iconst (1), 7, []), (.goto 0, 8, [9]), (.iconst (0), 9, []), (.ireturn, 10, [3])]
def k_Co_apart : mCode := [(.aload 0, 1, []), (.getfield 3, 2, [0, 2]), (.iload 1, 3, []), (.iaload, 4, []), (.aload 0, 5, []), (.getfield 3, 6, [0, 2]), (.iload 2, 7, []), (.iaload, 8, []), (.isub, 9, []), (.dneg, 10, []), (.ireturn, 11, [0])]
def k_Co_warmOf : mCode := [(.aload 0, 1, []), (.getfield 7, 2, [0, 2]), (.iload 1, 3, []), (.iaload, 4, []), (.istore 2, 5, []), (.aload 0, 6, []), (.iload 2, 7, []), (.invokestatic 228, 8, [2, 0, 1, 2, 1]), (.ifCond .eq 0, 9, [1, 11]), (.iconst (0), 10, []), (.ireturn, 11, [0]), (.aload 0, 12, []), (.getfield 2, 13, [0, 2]), (.iconst (5), 14, []), (.iaload, 15, []), (.aload 0, 16, []), (.getfield 4, 17, [0, 2]), (.iload 1, 18, []), (.iaload, 19, []), (.aload 0, 20, []), (.iload 1, 21, []), (.iload 2, 22, []), (.invokestatic 233, 23, [3, 0, 1, 3, 1]), (.aload 0, 24, []), (.getfield 2, 25, [0, 2]), (.iconst (6), 26, []), (.iaload, 27, []), (.invokestatic 75, 28, [4, 0, 1, 5, 0]), (.ireturn, 29, [0])]
def k_Co_isLit : mCode := [(.aload 0, 1, []), (.getfield 5, 2, [0, 2]), (.iload 1, 3, []), (.iaload, 4, []), (.aload 0, 5, []), (.getfield 2, 6, [0, 2]), (.iconst (3), 7, []), (.iaload, 8, []), (.if_icmp .eq 0, 9, [2, 11]), (.iconst (1), 10, []), (.goto 0, 11, [12]), (.iconst (0), 12, []), (.ireturn, 13, [3])]
def k_Co_litSet : mCode := [(.iconst (0), 1, []), (.istore 1, 2, []), (.iconst (0), 3, []), (.istore 2, 4, []), (.iload 2, 5, []), (.aload 0, 6, []), (.getfield 0, 7, [0, 0]), (.if_icmp .eq 0, 8, [3, 20]), (.aload 0, 9, []), (.iload 2, 10, []), (.invokestatic 235, 11, [2, 0, 1, 2, 1]), (.ifCond .eq 0, 12, [0, 18]), (.iload 1, 13, []), (.iconst (1), 14, []), (.iload 2, 15, []), (.ishl, 16, []), (.ior, 17, []), (.istore 1, 18, []), (.iinc 2 (1), 19, []), (.goto 0, 20, [4]), (.iload 1, 21, []), (.ireturn, 22, [0])]
def k_Co_toastingSet : mCode := [(.iconst (0), 1, []), (.istore 1, 2, []), (.iconst (0), 3, []), (.istore 2, 4, []), (.iload 2, 5, []), (.aload 0, 6, []), (.getfield 0, 7, [0, 0]), (.if_icmp .eq 0, 8, [3, 20]), (.aload 0, 9, []), (.iload 2, 10, []), (.invokestatic 232, 11, [2, 0, 1, 2, 1]), (.ifCond .eq 0, 12, [0, 18]), (.iload 1, 13, []), (.iconst (1), 14, []), (.iload 2, 15, []), (.ishl, 16, []), (.ior, 17, []), (.istore 1, 18, []), (.iinc 2 (1), 19, []), (.goto 0, 20, [4]), (.iload 1, 21, []), (.ireturn, 22, [0])]
def k_Co_warmersOf : mCode := [(.iconst (0), 1, []), (.istore 2, 2, []), (.iconst (0), 3, []), (.istore 3, 4, []), (.iload 3, 5, []), (.aload 0, 6, []), (.getfield 0, 7, [0, 0]), (.if_icmp .eq 0, 8, [3, 22]), (.aload 0, 9, []), (.getfield 7, 10, [0, 2]), (.iload 3, 11, []), (.iaload, 12, []), (.iload 1, 13, []), (.if_icmp .eq 0, 14, [1, 20]), (.iload 2, 15, []), (.iconst (1), 16, []), (.iload 3, 17, []), (.ishl, 18, []), (.ior, 19, []), (.istore 2, 20, []), (.iinc 3 (1), 21, []), (.goto 0, 22, [4]), (.iload 2, 23, []), (.ireturn, 24, [0])]
def k_Co_allWarmth : mCode := [(.iconst (0), 1, []), (.istore 1, 2, []), (.iconst (0), 3, []), (.istore 2, 4, []), (.iload 2, 5, []), (.aload 0, 6, []), (.getfield 0, 7, [0, 0]), (.if_icmp .eq 0, 8, [3, 17]), (.iload 1, 9, []), (.aload 0, 10, []), (.getfield 5, 11, [0, 2]), (.iload 2, 12, []), (.iaload, 13, []), (.iadd, 14, []), (.istore 1, 15, []), (.iinc 2 (1), 16, []), (.goto 0, 17, [4]), (.iload 1, 18, []), (.ireturn, 19, [0])]
def k_Co_allGlasses : mCode := [(.iconst (0), 1, []), (.istore 1, 2, []), (.iconst (0), 3, []), (.istore 2, 4, []), (.iload 2, 5, []), (.aload 0, 6, []), (.getfield 0, 7, [0, 0]), (.if_icmp .eq 0, 8, [3, 17]), (.iload 1, 9, []), (.aload 0, 10, []), (.getfield 6, 11, [0, 2]), (.iload 2, 12, []), (.iaload, 13, []), (.iadd, 14, []), (.istore 1, 15, []), (.iinc 2 (1), 16, []), (.goto 0, 17, [4]), (.iload 1, 18, []), (.ireturn, 19, [0])]
def k_Co_warmthAsOne : mCode := [(.sipush (0), 1, []), (.lstore 1, 2, []), (.iconst (0), 3, []), (.istore 3, 4, []), (.iload 3, 5, []), (.aload 0, 6, []), (.getfield 0, 7, [0, 0]), (.if_icmp .eq 0, 8, [3, 20]), (.lload 1, 9, []), (.iconst (7), 10, []), (.lshl, 11, []), (.aload 0, 12, []), (.getfield 5, 13, [0, 2]), (.iload 3, 14, []), (.iaload, 15, []), (.i2l, 16, []), (.lor, 17, []), (.lstore 1, 18, []), (.iinc 3 (1), 19, []), (.goto 0, 20, [4]), (.lload 1, 21, []), (.lreturn, 22, [])]
def k_Co_canDrink : mCode := [(.aload 0, 1, []), (.aload 0, 2, []), (.getfield 7, 3, [0, 2]), (.iload 1, 4, []), (.iaload, 5, []), (.invokestatic 228, 6, [2, 0, 1, 2, 1]), (.ifCond .eq 0, 7, [0, 14]), (.aload 0, 8, []), (.getfield 6, 9, [0, 2]), (.iload 1, 10, []), (.iaload, 11, []), (.ifCond .eq 0, 12, [5, 14]), (.iconst (1), 13, []), (.goto 0, 14, [15]), (.iconst (0), 15, []), (.ireturn, 16, [3])]
def k_Co_letDrink : mCode := [(.aload 0, 1, []), (.getfield 7, 2, [0, 2]), (.iload 1, 3, []), (.iaload, 4, []), (.istore 2, 5, []), (.aload 0, 6, []), (.getfield 2, 7, [0, 2]), (.iconst (5), 8, []), (.iaload, 9, []), (.aload 0, 10, []), (.getfield 4, 11, [0, 2]), (.iload 1, 12, []), (.iaload, 13, []), (.aload 0, 14, []), (.iload 1, 15, []), (.iload 2, 16, []), (.invokestatic 233, 17, [3, 0, 1, 3, 1]), (.aload 0, 18, []), (.getfield 2, 19, [0, 2]), (.iconst (6), 20, []), (.iaload, 21, []), (.invokestatic 75, 22, [4, 0, 1, 5, 0]), (.istore 3, 23, []), (.aload 0, 24, []), (.getfield 6, 25, [0, 2]), (.iload 1, 26, []), (.dup2, 27, []), (.iaload, 28, []), (.iconst (1), 29, []), (.isub, 30, []), (.iastore, 31, []), (.aload 0, 32, []), (.getfield 5, 33, [0, 2]), (.iload 2, 34, []), (.iconst (99), 35, []), (.aload 0, 36, []), (.getfield 5, 37, [0, 2]), (.iload 2, 38, []), (.iaload, 39, []), (.iload 3, 40, []), (.iadd, 41, []), (.dsub, 42, []), (.iastore, 43, []), (.aload 0, 44, []), (.getfield 5, 45, [0, 2]), (.iload 2, 46, []), (.iaload, 47, []), (.ireturn, 48, [0])]
def k_Co_hasNights : mCode := [(.aload 0, 1, []), (.getfield 1, 2, [0, 0]), (.iload 1, 3, []), (.iadd, 4, []), (.iconst (9999), 5, []), (.if_icmp .eq 0, 6, [4, 8]), (.iconst (1), 7, []), (.goto 0, 8, [9]), (.iconst (0), 9, []), (.ireturn, 10, [3])]
def k_Co_warmthIn : mCode := [(.iconst (0), 1, []), (.aload 0, 2, []), (.getfield 5, 3, [0, 2]), (.iload 1, 4, []), (.iaload, 5, []), (.iload 2, 6, []), (.aload 0, 7, []), (.getfield 2, 8, [0, 2]), (.iconst (4), 9, []), (.iaload, 10, []), (.imul, 11, []), (.isub, 12, []), (.dadd, 13, []), (.ireturn, 14, [0])]
def k_Co_passNights : mCode := [(.aload 0, 1, []), (.dup, 2, []), (.getfield 1, 3, [0, 0]), (.iload 1, 4, []), (.iadd, 5, []), (.putfield 1, 6, [0, 0]), (.iconst (0), 7, []), (.istore 2, 8, []), (.iload 2, 9, []), (.aload 0, 10, []), (.getfield 0, 11, [0, 0]), (.if_icmp .eq 0, 12, [3, 22]), (.aload 0, 13, []), (.getfield 5, 14, [0, 2]), (.iload 2, 15, []), (.aload 0, 16, []), (.iload 2, 17, []), (.iload 1, 18, []), (.invokestatic 245, 19, [3, 0, 1, 3, 1]), (.iastore, 20, []), (.iinc 2 (1), 21, []), (.goto 0, 22, [8]), (.return_, 23, [])]
def k_Co_passEvening : mCode := [(.iconst (0), 1, []), (.istore 2, 2, []), (.iload 2, 3, []), (.aload 0, 4, []), (.getfield 0, 5, [0, 0]), (.if_icmp .eq 0, 6, [3, 13]), (.aload 0, 7, []), (.getfield 9, 8, [0, 2]), (.iload 2, 9, []), (.iconst (0), 10, []), (.iastore, 11, []), (.iinc 2 (1), 12, []), (.goto 0, 13, [2]), (.iconst (0), 14, []), (.istore 2, 15, []), (.iconst (0), 16, []), (.istore 3, 17, []), (.iload 3, 18, []), (.aload 0, 19, []), (.getfield 0, 20, [0, 0]), (.if_icmp .eq 0, 21, [3, 56]), (.iload 3, 22, []), (.iload 1, 23, []), (.if_icmp .eq 0, 24, [0, 54]), (.aload 0, 25, []), (.iload 3, 26, []), (.invokestatic 235, 27, [2, 0, 1, 2, 1]), (.ifCond .eq 0, 28, [0, 54]), (.aload 0, 29, []), (.aload 0, 30, []), (.getfield 7, 31, [0, 2]), (.iload 3, 32, []), (.iaload, 33, []), (.invokestatic 228, 34, [2, 0, 1, 2, 1]), (.ifCond .eq 0, 35, [0, 54]), (.aload 0, 36, []), (.getfield 9, 37, [0, 2]), (.aload 0, 38, []), (.getfield 7, 39, [0, 2]), (.iload 3, 40, []), (.iaload, 41, []), (.dup2, 42, []), (.iaload, 43, []), (.aload 0, 44, []), (.iload 3, 45, []), (.invokestatic 234, 46, [2, 0, 1, 3, 1]), (.iadd, 47, []), (.iastore, 48, []), (.iload 2, 49, []), (.iconst (1), 50, []), (.iload 3, 51, []), (.ishl, 52, []), (.ior, 53, []), (.istore 2, 54, []), (.iinc 3 (1), 55, []), (.goto 0, 56, [17]), (.iconst (0), 57, []), (.istore 3, 58, []), (.iload 3, 59, []), (.aload 0, 60, []), (.getfield 0, 61, [0, 0]), (.if_icmp .eq 0, 62, [3, 79]), (.aload 0, 63, []), (.getfield 5, 64, [0, 2]), (.iload 3, 65, []), (.iconst (99), 66, []), (.aload 0, 67, []), (.getfield 5, 68, [0, 2]), (.iload 3, 69, []), (.iaload, 70, []), (.aload 0, 71, []), (.getfield 9, 72, [0, 2]), (.iload 3, 73, []), (.iaload, 74, []), (.iadd, 75, []), (.dsub, 76, []), (.iastore, 77, []), (.iinc 3 (1), 78, []), (.goto 0, 79, [58]), (.aload 0, 80, []), (.iconst (1), 81, []), (.invokestatic 246, 82, [2, 0, 0, 3, 1]), (.iload 2, 83, []), (.ireturn, 84, [0])]
def k_Co_chainLength : mCode := [(.iconst (0), 1, []), (.istore 2, 2, []), (.iload 1, 3, []), (.istore 3, 4, []), (.iconst (0), 5, []), (.istore 4, 6, []), (.iload 4, 7, []), (.aload 0, 8, []), (.getfield 0, 9, [0, 0]), (.if_icmp .eq 0, 10, [3, 33]), (.aload 0, 11, []), (.iload 3, 12, []), (.invokestatic 228, 13, [2, 0, 1, 2, 1]), (.ifCond .eq 0, 14, [0, 33]), (.iload 2, 15, []), (.iconst (1), 16, []), (.iload 3, 17, []), (.ishl, 18, []), (.iand, 19, []), (.ifCond .eq 0, 20, [1, 33]), (.iload 2, 21, []), (.iconst (1), 22, []), (.iload 3, 23, []), (.ishl, 24, []), (.ior, 25, []), (.istore 2, 26, []), (.aload 0, 27, []), (.getfield 7, 28, [0, 2]), (.iload 3, 29, []), (.iaload, 30, []), (.istore 3, 31, []), (.iinc 4 (1), 32, []), (.goto 0, 33, [6]), (.iload 2, 34, []), (.invokestatic 0, 35, [1, 0, 1, 1, 0]), (.ireturn, 36, [0])]
def k_Co_alongChain : mCode := [(.iload 1, 1, []), (.istore 3, 2, []), (.iconst (0), 3, []), (.istore 4, 4, []), (.iload 4, 5, []), (.iload 2, 6, []), (.if_icmp .eq 0, 7, [3, 25]), (.iload 4, 8, []), (.aload 0, 9, []), (.getfield 0, 10, [0, 0]), (.if_icmp .eq 0, 11, [3, 25]), (.aload 0, 12, []), (.aload 0, 13, []), (.getfield 7, 14, [0, 2]), (.iload 3, 15, []), (.iaload, 16, []), (.invokestatic 228, 17, [2, 0, 1, 2, 1]), (.ifCond .eq 0, 18, [0, 25]), (.aload 0, 19, []), (.getfield 7, 20, [0, 2]), (.iload 3, 21, []), (.iaload, 22, []), (.istore 3, 23, []), (.iinc 4 (1), 24, []), (.goto 0, 25, [4]), (.iload 3, 26, []), (.ireturn, 27, [0])]
def k_Co_isInRing : mCode := [(.aload 0, 1, []), (.getfield 7, 2, [0, 2]), (.iload 1, 3, []), (.iaload, 4, []), (.istore 2, 5, []), (.iconst (0), 6, []), (.istore 3, 7, []), (.iload 3, 8, []), (.aload 0, 9, []), (.getfield 0, 10, [0, 0]), (.if_icmp .eq 0, 11, [3, 25]), (.aload 0, 12, []), (.iload 2, 13, []), (.invokestatic 228, 14, [2, 0, 1, 2, 1]), (.ifCond .eq 0, 15, [0, 25]), (.iload 2, 16, []), (.iload 1, 17, []), (.if_icmp .eq 0, 18, [0, 25]), (.aload 0, 19, []), (.getfield 7, 20, [0, 2]), (.iload 2, 21, []), (.iaload, 22, []), (.istore 2, 23, []), (.iinc 3 (1), 24, []), (.goto 0, 25, [7]), (.iload 2, 26, []), (.iload 1, 27, []), (.if_icmp .eq 0, 28, [1, 30]), (.iconst (1), 29, []), (.goto 0, 30, [31]), (.iconst (0), 31, []), (.ireturn, 32, [3])]
def k_Co_leadsRing : mCode := [(.aload 0, 1, []), (.getfield 7, 2, [0, 2]), (.iload 1, 3, []), (.iaload, 4, []), (.istore 2, 5, []), (.iconst (0), 6, []), (.istore 3, 7, []), (.iload 3, 8, []), (.aload 0, 9, []), (.getfield 0, 10, [0, 0]), (.if_icmp .eq 0, 11, [3, 25]), (.aload 0, 12, []), (.iload 2, 13, []), (.invokestatic 228, 14, [2, 0, 1, 2, 1]), (.ifCond .eq 0, 15, [0, 25]), (.iload 2, 16, []), (.iload 1, 17, []), (.if_icmp .eq 0, 18, [5, 25]), (.aload 0, 19, []), (.getfield 7, 20, [0, 2]), (.iload 2, 21, []), (.iaload, 22, []), (.istore 2, 23, []), (.iinc 3 (1), 24, []), (.goto 0, 25, [7]), (.iload 2, 26, []), (.iload 1, 27, []), (.if_icmp .eq 0, 28, [1, 34]), (.aload 0, 29, []), (.iload 1, 30, []), (.invokestatic 250, 31, [2, 0, 1, 4, 1]), (.ifCond .eq 0, 32, [0, 34]), (.iconst (1), 33, []), (.goto 0, 34, [35]), (.iconst (0), 35, []), (.ireturn, 36, [3])]
def k_Co_drinksTo : mCode := [(.aload 0, 1, []), (.getfield 2, 2, [0, 2]), (.iconst (3), 3, []), (.iaload, 4, []), (.aload 0, 5, []), (.getfield 5, 6, [0, 2]), (.iload 1, 7, []), (.iaload, 8, []), (.isub, 9, []), (.istore 2, 10, []), (.aload 0, 11, []), (.iload 1, 12, []), (.invokestatic 238, 13, [2, 0, 1, 4, 1]), (.istore 3, 14, []), (.iconst (0), 15, []), (.istore 4, 16, []), (.iconst (0), 17, []), (.istore 5, 18, []), (.iload 5, 19, []), (.iconst (7), 20, []), (.if_icmp .eq 0, 21, [3, 71]), (.iload 2, 22, []), (.ifCond .eq 0, 23, [5, 71]), (.aload 0, 24, []), (.iload 3, 25, []), (.invokestatic 253, 26, [2, 0, 1, 5, 1]), (.istore 6, 27, []), (.iload 6, 28, []), (.iconst (-1), 29, []), (.if_icmp .eq 0, 30, [1, 32]), (.iconst (-1), 31, []), (.ireturn, 32, [0]), (.iload 3, 33, []), (.iconst (1), 34, []), (.iload 6, 35, []), (.ishl, 36, []), (.iconst (-1), 37, []), (.ixor, 38, []), (.iand, 39, []), (.istore 3, 40, []), (.iconst (1), 41, []), (.aload 0, 42, []), (.iload 6, 43, []), (.invokestatic 234, 44, [2, 0, 1, 3, 1]), (.dadd, 45, []), (.istore 7, 46, []), (.aload 0, 47, []), (.getfield 6, 48, [0, 2]), (.iload 6, 49, []), (.iaload, 50, []), (.iload 2, 51, []), (.iload 7, 52, []), (.iadd, 53, []), (.iconst (1), 54, []), (.isub, 55, []), (.iload 7, 56, []), (.idiv, 57, []), (.dsub, 58, []), (.istore 8, 59, []), (.iload 4, 60, []), (.iload 8, 61, []), (.iadd, 62, []), (.istore 4, 63, []), (.iload 2, 64, []), (.iload 8, 65, []), (.iload 7, 66, []), (.imul, 67, []), (.isub, 68, []), (.istore 2, 69, []), (.iinc 5 (1), 70, []), (.goto 0, 71, [18]), (.iload 2, 72, []), (.ifCond .eq 0, 73, [5, 75]), (.iconst (-1), 74, []), (.goto 0, 75, [76]), (.iload 4, 76, []), (.ireturn, 77, [0])]
def k_Co_warmestOf : mCode := [(.iconst (-1), 1, []), (.istore 2, 2, []), (.iconst (0), 3, []), (.istore 3, 4, []), (.iconst (0), 5, []), (.istore 4, 6, []), (.iload 4, 7, []), (.aload 0, 8, []), (.getfield 0, 9, [0, 0]), (.if_icmp .eq 0, 10, [3, 29]), (.iload 1, 11, []), (.iconst (1), 12, []), (.iload 4, 13, []), (.ishl, 14, []), (.iand, 15, []), (.ifCond .eq 0, 16, [0, 27]), (.aload 0, 17, []), (.iload 4, 18, []), (.invokestatic 234, 19, [2, 0, 1, 3, 1]), (.iload 3, 20, []), (.if_icmp .eq 0, 21, [5, 27]), (.iload 4, 22, []), (.istore 2, 23, []), (.aload 0, 24, []), (.iload 4, 25, []), (.invokestatic 234, 26, [2, 0, 1, 3, 1]), (.istore 3, 27, []), (.iinc 4 (1), 28, []), (.goto 0, 29, [6]), (.iload 2, 30, []), (.ireturn, 31, [0])]
def k_Co_mostLit : mCode := [(.iconst (0), 1, []), (.istore 2, 2, []), (.iload 2, 3, []), (.aload 0, 4, []), (.getfield 0, 5, [0, 0]), (.if_icmp .eq 0, 6, [3, 15]), (.aload 0, 7, []), (.getfield 9, 8, [0, 2]), (.iload 2, 9, []), (.aload 0, 10, []), (.iload 2, 11, []), (.invokestatic 252, 12, [2, 0, 1, 9, 1]), (.iastore, 13, []), (.iinc 2 (1), 14, []), (.goto 0, 15, [2]), (.iconst (0), 16, []), (.istore 2, 17, []), (.iconst (1), 18, []), (.istore 3, 19, []), (.iload 3, 20, []), (.iconst (1), 21, []), (.aload 0, 22, []), (.getfield 0, 23, [0, 0]), (.ishl, 24, []), (.if_icmp .eq 0, 25, [3, 39]), (.iload 3, 26, []), (.invokestatic 0, 27, [1, 0, 1, 1, 0]), (.iload 2, 28, []), (.invokestatic 0, 29, [1, 0, 1, 1, 0]), (.if_icmp .eq 0, 30, [5, 37]), (.aload 0, 31, []), (.iload 3, 32, []), (.iload 1, 33, []), (.invokestatic 255, 34, [3, 0, 1, 5, 1]), (.ifCond .eq 0, 35, [0, 37]), (.iload 3, 36, []), (.istore 2, 37, []), (.iinc 3 (1), 38, []), (.goto 0, 39, [19]), (.iload 2, 40, []), (.ireturn, 41, [0])]
def k_Co_canAllBeLit : mCode := [(.iconst (0), 1, []), (.istore 3, 2, []), (.iconst (0), 3, []), (.istore 4, 4, []), (.iload 4, 5, []), (.aload 0, 6, []), (.getfield 0, 7, [0, 0]), (.if_icmp .eq 0, 8, [3, 31]), (.iload 1, 9, []), (.iconst (1), 10, []), (.iload 4, 11, []), (.ishl, 12, []), (.iand, 13, []), (.ifCond .eq 0, 14, [0, 29]), (.aload 0, 15, []), (.getfield 9, 16, [0, 2]), (.iload 4, 17, []), (.iaload, 18, []), (.iconst (-1), 19, []), (.if_icmp .eq 0, 20, [1, 22]), (.iconst (0), 21, []), (.ireturn, 22, [3]), (.iload 3, 23, []), (.aload 0, 24, []), (.getfield 9, 25, [0, 2]), (.iload 4, 26, []), (.iaload, 27, []), (.iadd, 28, []), (.istore 3, 29, []), (.iinc 4 (1), 30, []), (.goto 0, 31, [4]), (.iload 3, 32, []), (.iload 2, 33, []), (.if_icmp .eq 0, 34, [4, 36]), (.iconst (1), 35, []), (.goto 0, 36, [37]), (.iconst (0), 37, []), (.ireturn, 38, [3])]
def k_Ga_init : mCode := [(.aload 0, 1, []), (.invokespecial 0, 2, []), (.aload 0, 3, []), (.new 0, 4, [10]), (.dup, 5, []), (.invokestatic 225, 6, [1, 0, 0, 1, 1]), (.putfield 0, 7, [1, 2]), (.aload 0, 8, []), (.iconst (0), 9, []), (.putfield 1, 10, [1, 0]), (.aload 0, 11, []), (.iconst (0), 12, []), (.putfield 2, 13, [1, 0]), (.aload 0, 14, []), (.iconst (-1), 15, []), (.putfield 3, 16, [1, 0]), (.return_, 17, [])]
def k_Ga_worth : mCode := [(.aload 0, 1, []), (.getfield 2, 2, [1, 0]), (.ireturn, 3, [0])]
def k_Ga_firstMove : mCode := [(.aload 0, 1, []), (.getfield 3, 2, [1, 0]), (.ireturn, 3, [0])]
def k_Ga_playOut : mCode := [(.aload 0, 1, []), (.getfield 0, 2, [1, 2]), (.aload 1, 3, []), (.invokestatic 227, 4, [2, 0, 0, 2, 1]), (.aload 0, 5, []), (.iload 2, 6, []), (.iconst (4), 7, []), (.dsub, 8, []), (.putfield 1, 9, [1, 0]), (.aload 0, 10, []), (.iconst (-1), 11, []), (.putfield 3, 12, [1, 0]), (.aload 0, 13, []), (.getfield 1, 14, [1, 0]), (.iconst (1), 15, []), (.if_icmp .eq 0, 16, [3, 21]), (.aload 0, 17, []), (.aload 0, 18, []), (.invokestatic 260, 19, [1, 0, 1, 1, 2]), (.putfield 2, 20, [1, 0]), (.return_, 21, []), (.aload 0, 22, []), (.iconst (-1), 23, []), (.putfield 2, 24, [1, 0]), (.aload 0, 25, []), (.getfield 0, 26, [1, 2]), (.getfield 0, 27, [0, 0]), (.iconst (1), 28, []), (.iadd, 29, []), (.istore 3, 30, []), (.iconst (0), 31, []), (.istore 4, 32, []), (.iload 4, 33, []), (.aload 0, 34, []), (.getfield 0, 35, [1, 2]), (.getfield 0, 36, [0, 0]), (.if_icmp .eq 0, 37, [3, 62]), (.aload 0, 38, []), (.getfield 0, 39, [1, 2]), (.iload 4, 40, []), (.invokestatic 242, 41, [2, 0, 1, 2, 1]), (.ifCond .eq 0, 42, [0, 60]), (.aload 0, 43, []), (.iload 4, 44, []), (.iconst (0), 45, []), (.aload 0, 46, []), (.getfield 2, 47, [1, 0]), (.iload 3, 48, []), (.invokestatic 262, 49, [5, 0, 1, 8, 2]), (.istore 5, 50, []), (.iload 5, 51, []), (.aload 0, 52, []), (.getfield 2, 53, [1, 0]), (.if_icmp .eq 0, 54, [5, 60]), (.aload 0, 55, []), (.iload 5, 56, []), (.putfield 2, 57, [1, 0]), (.aload 0, 58, []), (.iload 4, 59, []), (.putfield 3, 60, [1, 0]), (.iinc 4 (1), 61, []), (.goto 0, 62, [32]), (.aload 0, 63, []), (.iconst (1), 64, []), (.aload 0, 65, []), (.getfield 2, 66, [1, 0]), (.iload 3, 67, []), (.invokestatic 263, 68, [4, 0, 1, 8, 2]), (.istore 4, 69, []), (.iload 4, 70, []), (.aload 0, 71, []), (.getfield 2, 72, [1, 0]), (.if_icmp .eq 0, 73, [5, 79]), (.aload 0, 74, []), (.iload 4, 75, []), (.putfield 2, 76, [1, 0]), (.aload 0, 77, []), (.iconst (-1), 78, []), (.putfield 3, 79, [1, 0]), (.return_, 80, [])]
def k_Ga_litCount : mCode := [(.aload 0, 1, []), (.getfield 0, 2, [1, 2]), (.invokestatic 236, 3, [1, 0, 1, 3, 1]), (.invokestatic 0, 4, [1, 0, 1, 1, 0]), (.ireturn, 5, [0])]
def k_Ga_butler : mCode := [(.iload 1, 1, []), (.aload 0, 2, []), (.getfield 1, 3, [1, 0]), (.if_icmp .eq 0, 4, [2, 7]), (.aload 0, 5, []), (.invokestatic 260, 6, [1, 0, 1, 1, 2]), (.ireturn, 7, [0]), (.aload 0, 8, []), (.iload 1, 9, []), (.iconst (1), 10, []), (.iadd, 11, []), (.iload 2, 12, []), (.iload 3, 13, []), (.invokestatic 263, 14, [4, 0, 1, 8, 2]), (.istore 4, 15, []), (.iconst (0), 16, []), (.istore 5, 17, []), (.iload 5, 18, []), (.aload 0, 19, []), (.getfield 0, 20, [1, 2]), (.getfield 0, 21, [0, 0]), (.if_icmp .eq 0, 22, [3, 43]), (.iload 4, 23, []), (.iload 3, 24, []), (.if_icmp .eq 0, 25, [3, 43]), (.aload 0, 26, []), (.getfield 0, 27, [1, 2]), (.iload 5, 28, []), (.invokestatic 242, 29, [2, 0, 1, 2, 1]), (.ifCond .eq 0, 30, [0, 41]), (.iload 4, 31, []), (.aload 0, 32, []), (.iload 5, 33, []), (.iload 1, 34, []), (.iload 2, 35, []), (.iload 4, 36, []), (.dadd, 37, []), (.iload 3, 38, []), (.invokestatic 262, 39, [5, 0, 1, 8, 2]), (.dadd, 40, []), (.istore 4, 41, []), (.iinc 5 (1), 42, []), (.goto 0, 43, [17]), (.iload 4, 44, []), (.ireturn, 45, [0])]
def k_Ga_behindDrink : mCode := [(.aload 0, 1, []), (.getfield 0, 2, [1, 2]), (.getfield 7, 3, [0, 2]), (.iload 1, 4, []), (.iaload, 5, []), (.istore 5, 6, []), (.aload 0, 7, []), (.getfield 0, 8, [1, 2]), (.getfield 5, 9, [0, 2]), (.iload 5, 10, []), (.iaload, 11, []), (.istore 6, 12, []), (.aload 0, 13, []), (.getfield 0, 14, [1, 2]), (.iload 1, 15, []), (.invokestatic 243, 16, [2, 0, 1, 4, 1]), (.pop, 17, []), (.aload 0, 18, []), (.iload 2, 19, []), (.iconst (1), 20, []), (.iadd, 21, []), (.iload 3, 22, []), (.iload 4, 23, []), (.invokestatic 263, 24, [4, 0, 1, 8, 2]), (.istore 7, 25, []), (.aload 0, 26, []), (.getfield 0, 27, [1, 2]), (.getfield 6, 28, [0, 2]), (.iload 1, 29, []), (.dup2, 30, []), (.iaload, 31, []), (.iconst (1), 32, []), (.iadd, 33, []), (.iastore, 34, []), (.aload 0, 35, []), (.getfield 0, 36, [1, 2]), (.getfield 5, 37, [0, 2]), (.iload 5, 38, []), (.iload 6, 39, []), (.iastore, 40, []), (.iload 7, 41, []), (.ireturn, 42, [0])]
def k_Ga_draught : mCode := [(.iload 1, 1, []), (.aload 0, 2, []), (.getfield 1, 3, [1, 0]), (.if_icmp .eq 0, 4, [2, 7]), (.aload 0, 5, []), (.invokestatic 260, 6, [1, 0, 1, 1, 2]), (.ireturn, 7, [0]), (.aload 0, 8, []), (.iload 1, 9, []), (.iconst (1), 10, []), (.iadd, 11, []), (.iload 2, 12, []), (.iload 3, 13, []), (.invokestatic 261, 14, [4, 1, 1, 6, 2]), (.istore 4, 15, []), (.iconst (0), 16, []), (.istore 5, 17, []), (.iload 5, 18, []), (.aload 0, 19, []), (.getfield 0, 20, [1, 2]), (.getfield 0, 21, [0, 0]), (.if_icmp .eq 0, 22, [3, 66]), (.iload 4, 23, []), (.iload 2, 24, []), (.if_icmp .eq 0, 25, [5, 66]), (.aload 0, 26, []), (.getfield 0, 27, [1, 2]), (.getfield 5, 28, [0, 2]), (.iload 5, 29, []), (.iaload, 30, []), (.istore 6, 31, []), (.aload 0, 32, []), (.getfield 0, 33, [1, 2]), (.iload 5, 34, []), (.iconst (1), 35, []), (.invokestatic 245, 36, [3, 0, 1, 3, 1]), (.istore 7, 37, []), (.iload 7, 38, []), (.iload 6, 39, []), (.if_icmp .eq 0, 40, [3, 64]), (.aload 0, 41, []), (.getfield 0, 42, [1, 2]), (.getfield 5, 43, [0, 2]), (.iload 5, 44, []), (.iload 7, 45, []), (.iastore, 46, []), (.iload 4, 47, []), (.aload 0, 48, []), (.iload 1, 49, []), (.iconst (1), 50, []), (.iadd, 51, []), (.iload 2, 52, []), (.iload 3, 53, []), (.iload 4, 54, []), (.dsub, 55, []), (.invokestatic 261, 56, [4, 1, 1, 6, 2]), (.dsub, 57, []), (.istore 4, 58, []), (.aload 0, 59, []), (.getfield 0, 60, [1, 2]), (.getfield 5, 61, [0, 2]), (.iload 5, 62, []), (.iload 6, 63, []), (.iastore, 64, []), (.iinc 5 (1), 65, []), (.goto 0, 66, [17]), (.iload 4, 67, []), (.ireturn, 68, [0])]
def k_Gl_init : mCode := [(.aload 0, 1, []), (.invokespecial 0, 2, []), (.aload 0, 3, []), (.iconst (13), 4, []), (.newarray .long, 5, [1]), (.putfield 0, 6, [2, 2]), (.aload 0, 7, []), (.iconst (0), 8, []), (.putfield 1, 9, [2, 0]), (.return_, 10, [])]
def k_Gl_taste : mCode := [(.aload 0, 1, []), (.iload 1, 2, []), (.iconst (12), 3, []), (.dsub, 4, []), (.putfield 1, 5, [2, 0]), (.iconst (0), 6, []), (.istore 3, 7, []), (.iload 3, 8, []), (.iconst (12), 9, []), (.if_icmp .eq 0, 10, [4, 17]), (.aload 0, 11, []), (.getfield 0, 12, [2, 2]), (.iload 3, 13, []), (.sipush (0), 14, []), (.lastore, 15, []), (.iinc 3 (1), 16, []), (.goto 0, 17, [7]), (.aload 0, 18, []), (.getfield 0, 19, [2, 2]), (.iconst (0), 20, []), (.sipush (1), 21, []), (.lastore, 22, []), (.iconst (1), 23, []), (.istore 3, 24, []), (.iload 3, 25, []), (.aload 0, 26, []), (.getfield 1, 27, [2, 0]), (.if_icmp .eq 0, 28, [4, 70]), (.iload 3, 29, []), (.istore 4, 30, []), (.iload 4, 31, []), (.ifCond .eq 0, 32, [5, 57]), (.aload 0, 33, []), (.getfield 0, 34, [2, 2]), (.iload 4, 35, []), (.aload 0, 36, []), (.getfield 0, 37, [2, 2]), (.iload 4, 38, []), (.laload, 39, []), (.iconst (16), 40, []), (.iload 2, 41, []), (.isub, 42, []), (.i2l, 43, []), (.lmul, 44, []), (.aload 0, 45, []), (.getfield 0, 46, [2, 2]), (.iload 4, 47, []), (.iconst (1), 48, []), (.isub, 49, []), (.laload, 50, []), (.iload 2, 51, []), (.i2l, 52, []), (.lmul, 53, []), (.ladd, 54, []), (.lastore, 55, []), (.iinc 4 (-1), 56, []), (.goto 0, 57, [30]), (.aload 0, 58, []), (.getfield 0, 59, [2, 2]), (.iconst (0), 60, []), (.dup2, 61, []), (.laload, 62, []), (.iconst (16), 63, []), (.iload 2, 64, []), (.isub, 65, []), (.i2l, 66, []), (.lmul, 67, []), (.lastore, 68, []), (.iinc 3 (1), 69, []), (.goto 0, 70, [24]), (.return_, 71, [])]
def k_Gl_all : mCode := [(.sipush (1), 1, []), (.iconst (4), 2, []), (.aload 0, 3, []), (.getfield 1, 4, [2, 0]), (.imul, 5, []), (.lshl, 6, []), (.lreturn, 7, [])]
def k_Gl_below : mCode := [(.sipush (0), 1, []), (.lstore 2, 2, []), (.iconst (0), 3, []), (.istore 4, 4, []), (.iload 4, 5, []), (.iload 1, 6, []), (.if_icmp .eq 0, 7, [3, 20]), (.iload 4, 8, []), (.aload 0, 9, []), (.getfield 1, 10, [2, 0]), (.if_icmp .eq 0, 11, [4, 20]), (.lload 2, 12, []), (.aload 0, 13, []), (.getfield 0, 14, [2, 2]), (.iload 4, 15, []), (.laload, 16, []), (.ladd, 17, []), (.lstore 2, 18, []), (.iinc 4 (1), 19, []), (.goto 0, 20, [4]), (.lload 2, 21, []), (.lreturn, 22, [])]
def k_Gl_from : mCode := [(.aload 0, 1, []), (.invokestatic 266, 2, [1, 0, 2, 1, 3]), (.aload 0, 3, []), (.iload 1, 4, []), (.invokestatic 267, 5, [2, 0, 2, 5, 3]), (.lsub, 6, []), (.lreturn, 7, [])]
def k_Li_init : mCode := [(.aload 0, 1, []), (.invokespecial 0, 2, []), (.aload 0, 3, []), (.iconst (60), 4, []), (.newarray .int, 5, [0]), (.putfield 0, 6, [3, 2]), (.aload 0, 7, []), (.iconst (0), 8, []), (.putfield 1, 9, [3, 0]), (.aload 0, 10, []), (.iconst (0), 11, []), (.putfield 2, 12, [3, 0]), (.aload 0, 13, []), (.iconst (0), 14, []), (.putfield 3, 15, [3, 0]), (.aload 0, 16, []), (.iconst (0), 17, []), (.putfield 4, 18, [3, 0]), (.aload 0, 19, []), (.iconst (0), 20, []), (.putfield 5, 21, [3, 0]), (.aload 0, 22, []), (.iconst (0), 23, []), (.putfield 6, 24, [3, 0]), (.aload 0, 25, []), (.iconst (0), 26, []), (.putfield 7, 27, [3, 3]), (.return_, 28, [])]
def k_Li_runThrough : mCode := [(.aload 0, 1, []), (.iload 3, 2, []), (.putfield 1, 3, [3, 0]), (.aload 0, 4, []), (.iconst (0), 5, []), (.putfield 2, 6, [3, 0]), (.aload 0, 7, []), (.iconst (0), 8, []), (.putfield 3, 9, [3, 0]), (.aload 0, 10, []), (.iconst (0), 11, []), (.putfield 4, 12, [3, 0]), (.aload 0, 13, []), (.iconst (0), 14, []), (.putfield 5, 15, [3, 0]), (.aload 0, 16, []), (.iconst (0), 17, []), (.putfield 6, 18, [3, 0]), (.aload 0, 19, []), (.iconst (0), 20, []), (.putfield 7, 21, [3, 3]), (.iconst (0), 22, []), (.istore 4, 23, []), (.iconst (0), 24, []), (.istore 5, 25, []), (.iload 5, 26, []), (.iconst (1000000), 27, []), (.if_icmp .eq 0, 28, [3, 66]), (.iload 4, 29, []), (.aload 2, 30, []), (.getfield 6, 31, [7, 0]), (.if_icmp .eq 0, 32, [3, 66]), (.aload 2, 33, []), (.getfield 0, 34, [7, 2]), (.iload 4, 35, []), (.iaload, 36, []), (.iconst (22), 37, []), (.if_icmp .eq 0, 38, [1, 44]), (.aload 0, 39, []), (.aload 2, 40, []), (.iload 4, 41, []), (.invokestatic 271, 42, [3, 0, 1, 4, 4]), (.istore 4, 43, []), (.goto 0, 44, [64]), (.aload 0, 45, []), (.getfield 2, 46, [3, 0]), (.iconst (300), 47, []), (.if_icmp .eq 0, 48, [2, 52]), (.aload 0, 49, []), (.iconst (1), 50, []), (.putfield 7, 51, [3, 3]), (.return_, 52, []), (.aload 0, 53, []), (.dup, 54, []), (.getfield 2, 55, [3, 0]), (.iconst (1), 56, []), (.iadd, 57, []), (.putfield 2, 58, [3, 0]), (.aload 0, 59, []), (.aload 1, 60, []), (.aload 2, 61, []), (.iload 4, 62, []), (.invokestatic 272, 63, [4, 0, 1, 5, 4]), (.istore 4, 64, []), (.iinc 5 (1), 65, []), (.goto 0, 66, [25]), (.return_, 67, [])]
def k_Li_behindEnd : mCode := [(.aload 1, 1, []), (.getfield 5, 2, [7, 2]), (.iload 2, 3, []), (.iaload, 4, []), (.istore 3, 5, []), (.aload 1, 6, []), (.getfield 0, 7, [7, 2]), (.iload 3, 8, []), (.iaload, 9, []), (.iconst (21), 10, []), (.if_icmp .eq 0, 11, [1, 29]), (.aload 0, 12, []), (.getfield 0, 13, [3, 2]), (.iload 3, 14, []), (.iaload, 15, []), (.iconst (1), 16, []), (.if_icmp .eq 0, 17, [5, 29]), (.aload 0, 18, []), (.getfield 0, 19, [3, 2]), (.iload 3, 20, []), (.dup2, 21, []), (.iaload, 22, []), (.iconst (1), 23, []), (.isub, 24, []), (.iastore, 25, []), (.iload 3, 26, []), (.iconst (1), 27, []), (.iadd, 28, []), (.ireturn, 29, [0]), (.iload 2, 30, []), (.iconst (1), 31, []), (.iadd, 32, []), (.ireturn, 33, [0])]
def k_Li_behindStep : mCode := [(.aload 2, 1, []), (.getfield 1, 2, [7, 2]), (.iload 3, 3, []), (.iaload, 4, []), (.istore 4, 5, []), (.aload 2, 6, []), (.getfield 0, 7, [7, 2]), (.iload 3, 8, []), (.iaload, 9, []), (.tableswitch 0 (14) 0 #[], 10, [66, 10, 15, 23, 27, 36, 40, 66, 57]), (.aload 0, 11, []), (.aload 1, 12, []), (.iload 4, 13, []), (.invokestatic 273, 14, [3, 0, 0, 3, 4]), (.goto 0, 15, [69]), (.aload 0, 16, []), (.aload 1, 17, []), (.aload 2, 18, []), (.getfield 4, 19, [7, 2]), (.iload 3, 20, []), (.iaload, 21, []), (.invokestatic 274, 22, [3, 0, 0, 3, 4]), (.goto 0, 23, [69]), (.aload 0, 24, []), (.aload 1, 25, []), (.invokestatic 275, 26, [2, 0, 0, 2, 4]), (.goto 0, 27, [69]), (.aload 0, 28, []), (.aload 1, 29, []), (.iload 4, 30, []), (.aload 2, 31, []), (.getfield 4, 32, [7, 2]), (.iload 3, 33, []), (.iaload, 34, []), (.invokestatic 276, 35, [4, 0, 0, 4, 4]), (.goto 0, 36, [69]), (.aload 0, 37, []), (.aload 1, 38, []), (.invokestatic 277, 39, [2, 0, 0, 3, 4]), (.goto 0, 40, [69]), (.aload 0, 41, []), (.aload 1, 42, []), (.aload 2, 43, []), (.iload 3, 44, []), (.invokestatic 279, 45, [4, 0, 1, 6, 4]), (.ifCond .eq 0, 46, [0, 50]), (.iload 3, 47, []), (.iconst (1), 48, []), (.iadd, 49, []), (.goto 0, 50, [56]), (.aload 2, 51, []), (.getfield 5, 52, [7, 2]), (.iload 3, 53, []), (.iaload, 54, []), (.iconst (1), 55, []), (.iadd, 56, []), (.ireturn, 57, [0]), (.aload 0, 58, []), (.getfield 0, 59, [3, 2]), (.iload 3, 60, []), (.aload 2, 61, []), (.getfield 4, 62, [7, 2]), (.iload 3, 63, []), (.iaload, 64, []), (.iastore, 65, []), (.goto 0, 66, [69]), (.aload 2, 67, []), (.getfield 6, 68, [7, 0]), (.ireturn, 69, [0]), (.iload 3, 70, []), (.iconst (1), 71, []), (.iadd, 72, []), (.ireturn, 73, [0])]
def k_Li_liveDrink : mCode := [(.aload 1, 1, []), (.iload 2, 2, []), (.invokestatic 228, 3, [2, 0, 1, 2, 1]), (.ifCond .eq 0, 4, [0, 8]), (.aload 1, 5, []), (.iload 2, 6, []), (.invokestatic 242, 7, [2, 0, 1, 2, 1]), (.ifCond .eq 0, 8, [1, 15]), (.aload 0, 9, []), (.dup, 10, []), (.getfield 3, 11, [3, 0]), (.iconst (1), 12, []), (.iadd, 13, []), (.putfield 3, 14, [3, 0]), (.return_, 15, []), (.aload 1, 16, []), (.iload 2, 17, []), (.invokestatic 243, 18, [2, 0, 1, 4, 1]), (.pop, 19, []), (.aload 0, 20, []), (.dup, 21, []), (.getfield 5, 22, [3, 0]), (.iconst (1), 23, []), (.iadd, 24, []), (.putfield 5, 25, [3, 0]), (.return_, 26, [])]
def k_Li_liveNights : mCode := [(.aload 1, 1, []), (.iload 2, 2, []), (.invokestatic 244, 3, [2, 0, 1, 2, 1]), (.ifCond .eq 0, 4, [1, 11]), (.aload 0, 5, []), (.dup, 6, []), (.getfield 3, 7, [3, 0]), (.iconst (1), 8, []), (.iadd, 9, []), (.putfield 3, 10, [3, 0]), (.return_, 11, []), (.aload 1, 12, []), (.iload 2, 13, []), (.invokestatic 246, 14, [2, 0, 0, 3, 1]), (.aload 0, 15, []), (.dup, 16, []), (.getfield 4, 17, [3, 0]), (.iload 2, 18, []), (.iadd, 19, []), (.putfield 4, 20, [3, 0]), (.return_, 21, [])]
def k_Li_liveEvening : mCode := [(.aload 1, 1, []), (.iconst (1), 2, []), (.invokestatic 244, 3, [2, 0, 1, 2, 1]), (.ifCond .eq 0, 4, [1, 11]), (.aload 0, 5, []), (.dup, 6, []), (.getfield 3, 7, [3, 0]), (.iconst (1), 8, []), (.iadd, 9, []), (.putfield 3, 10, [3, 0]), (.return_, 11, []), (.aload 1, 12, []), (.iconst (-1), 13, []), (.invokestatic 247, 14, [2, 0, 1, 4, 1]), (.pop, 15, []), (.aload 0, 16, []), (.dup, 17, []), (.getfield 4, 18, [3, 0]), (.iconst (1), 19, []), (.iadd, 20, []), (.putfield 4, 21, [3, 0]), (.aload 0, 22, []), (.dup, 23, []), (.getfield 6, 24, [3, 0]), (.iconst (1), 25, []), (.iadd, 26, []), (.putfield 6, 27, [3, 0]), (.return_, 28, [])]
def k_Li_liveFill : mCode := [(.aload 1, 1, []), (.iload 2, 2, []), (.invokestatic 228, 3, [2, 0, 1, 2, 1]), (.ifCond .eq 0, 4, [0, 10]), (.aload 1, 5, []), (.getfield 6, 6, [0, 2]), (.iload 2, 7, []), (.iaload, 8, []), (.iload 3, 9, []), (.if_icmp .eq 0, 10, [1, 17]), (.aload 0, 11, []), (.dup, 12, []), (.getfield 3, 13, [3, 0]), (.iconst (1), 14, []), (.iadd, 15, []), (.putfield 3, 16, [3, 0]), (.return_, 17, []), (.aload 1, 18, []), (.getfield 6, 19, [0, 2]), (.iload 2, 20, []), (.iload 3, 21, []), (.iastore, 22, []), (.return_, 23, [])]
def k_Li_liveAny : mCode := [(.aload 1, 1, []), (.getfield 0, 2, [0, 0]), (.iconst (1), 3, []), (.if_icmp .eq 0, 4, [3, 11]), (.aload 0, 5, []), (.dup, 6, []), (.getfield 3, 7, [3, 0]), (.iconst (1), 8, []), (.iadd, 9, []), (.putfield 3, 10, [3, 0]), (.return_, 11, []), (.aload 0, 12, []), (.aload 1, 13, []), (.getfield 0, 14, [0, 0]), (.invokestatic 278, 15, [2, 0, 1, 2, 4]), (.istore 2, 16, []), (.aload 0, 17, []), (.iconst (16), 18, []), (.invokestatic 278, 19, [2, 0, 1, 2, 4]), (.aload 1, 20, []), (.getfield 2, 21, [0, 2]), (.iconst (1), 22, []), (.iaload, 23, []), (.if_icmp .eq 0, 24, [3, 29]), (.aload 0, 25, []), (.aload 1, 26, []), (.iload 2, 27, []), (.invokestatic 273, 28, [3, 0, 0, 3, 4]), (.goto 0, 29, [33]), (.aload 0, 30, []), (.aload 1, 31, []), (.iconst (1), 32, []), (.invokestatic 274, 33, [3, 0, 0, 3, 4]), (.return_, 34, [])]
def k_Li_drawBy : mCode := [(.aload 0, 1, []), (.aload 0, 2, []), (.getfield 1, 3, [3, 0]), (.iconst (3261), 4, []), (.imul, 5, []), (.iconst (11491), 6, []), (.iadd, 7, []), (.iconst (65536), 8, []), (.irem, 9, []), (.putfield 1, 10, [3, 0]), (.aload 0, 11, []), (.getfield 1, 12, [3, 0]), (.iconst (8), 13, []), (.idiv, 14, []), (.iconst (1), 15, []), (.iload 1, 16, []), (.dadd, 17, []), (.irem, 18, []), (.ireturn, 19, [0])]
def k_Li_holds : mCode := [(.aload 2, 1, []), (.getfield 1, 2, [7, 2]), (.iload 3, 3, []), (.iaload, 4, []), (.istore 4, 5, []), (.aload 1, 6, []), (.iload 4, 7, []), (.invokestatic 228, 8, [2, 0, 1, 2, 1]), (.ifCond .eq 0, 9, [1, 11]), (.iconst (0), 10, []), (.ireturn, 11, [3]), (.aload 2, 12, []), (.getfield 2, 13, [7, 2]), (.iload 3, 14, []), (.iaload, 15, []), (.iconst (20), 16, []), (.if_icmp .eq 0, 17, [1, 21]), (.aload 1, 18, []), (.iload 4, 19, []), (.invokestatic 235, 20, [2, 0, 1, 2, 1]), (.ireturn, 21, [3]), (.aload 2, 22, []), (.getfield 2, 23, [7, 2]), (.iload 3, 24, []), (.iaload, 25, []), (.iconst (10), 26, []), (.if_icmp .eq 0, 27, [1, 32]), (.aload 1, 28, []), (.getfield 5, 29, [0, 2]), (.iload 4, 30, []), (.iaload, 31, []), (.goto 0, 32, [36]), (.aload 1, 33, []), (.getfield 6, 34, [0, 2]), (.iload 4, 35, []), (.iaload, 36, []), (.istore 5, 37, []), (.aload 2, 38, []), (.getfield 3, 39, [7, 2]), (.iload 3, 40, []), (.iaload, 41, []), (.lookupswitch 0 #[], 42, [62, 60, 42, 62, 52]), (.iload 5, 43, []), (.aload 2, 44, []), (.getfield 4, 45, [7, 2]), (.iload 3, 46, []), (.iaload, 47, []), (.if_icmp .eq 0, 48, [3, 50]), (.iconst (1), 49, []), (.goto 0, 50, [51]), (.iconst (0), 51, []), (.ireturn, 52, [3]), (.iload 5, 53, []), (.aload 2, 54, []), (.getfield 4, 55, [7, 2]), (.iload 3, 56, []), (.iaload, 57, []), (.if_icmp .eq 0, 58, [5, 60]), (.iconst (1), 59, []), (.goto 0, 60, [61]), (.iconst (0), 61, []), (.ireturn, 62, [3]), (.iload 5, 63, []), (.aload 2, 64, []), (.getfield 4, 65, [7, 2]), (.iload 3, 66, []), (.iaload, 67, []), (.if_icmp .eq 0, 68, [1, 70]), (.iconst (1), 69, []), (.goto 0, 70, [71]), (.iconst (0), 71, []), (.ireturn, 72, [3])]
def k_MR_init : mCode := [(.aload 0, 1, []), (.invokespecial 0, 2, []), (.aload 0, 3, []), (.new 0, 4, [10]), (.dup, 5, []), (.invokestatic 225, 6, [1, 0, 0, 1, 1]), (.putfield 1, 7, [4, 2]), (.aload 0, 8, []), (.iconst (0), 9, []), (.putfield 2, 10, [4, 0]), (.aload 0, 11, []), (.aload 1, 12, []), (.putfield 0, 13, [4, 2]), (.return_, 14, [])]
def k_MR_draft : mCode := [(.aload 0, 1, []), (.getfield 1, 2, [4, 2]), (.areturn, 3, [])]
def k_MR_readMap : mCode := [(.aload 0, 1, []), (.getfield 1, 2, [4, 2]), (.invokestatic 226, 3, [1, 0, 0, 1, 1]), (.aload 0, 4, []), (.iconst (0), 5, []), (.putfield 2, 6, [4, 0]), (.aload 0, 7, []), (.getfield 0, 8, [4, 2]), (.iload 1, 9, []), (.invokestatic 300, 10, [2, 0, 0, 2, 7]), (.iconst (0), 11, []), (.istore 2, 12, []), (.iload 2, 13, []), (.iconst (900), 14, []), (.if_icmp .eq 0, 15, [4, 26]), (.aload 0, 16, []), (.getfield 0, 17, [4, 2]), (.invokestatic 301, 18, [1, 0, 1, 1, 7]), (.ifCond .eq 0, 19, [1, 26]), (.aload 0, 20, []), (.invokestatic 283, 21, [1, 0, 1, 2, 5]), (.ifCond .eq 0, 22, [1, 24]), (.iconst (0), 23, []), (.ireturn, 24, [3]), (.iinc 2 (1), 25, []), (.goto 0, 26, [12]), (.iconst (1), 27, []), (.ireturn, 28, [3])]
def k_MR_readPart : mCode := [(.aload 0, 1, []), (.getfield 0, 2, [4, 2]), (.getfield 9, 3, [6, 0]), (.istore 1, 4, []), (.iload 1, 5, []), (.iconst (1), 6, []), (.if_icmp .eq 0, 7, [2, 14]), (.iload 1, 8, []), (.iconst (6), 9, []), (.if_icmp .eq 0, 10, [4, 14]), (.aload 0, 11, []), (.iload 1, 12, []), (.invokestatic 284, 13, [2, 0, 1, 2, 5]), (.ireturn, 14, [3]), (.iload 1, 15, []), (.iconst (7), 16, []), (.if_icmp .eq 0, 17, [1, 20]), (.aload 0, 18, []), (.invokestatic 285, 19, [1, 0, 1, 4, 5]), (.ireturn, 20, [3]), (.iload 1, 21, []), (.iconst (12), 22, []), (.if_icmp .eq 0, 23, [1, 26]), (.aload 0, 24, []), (.invokestatic 287, 25, [1, 0, 1, 3, 5]), (.goto 0, 26, [30]), (.aload 0, 27, []), (.getfield 0, 28, [4, 2]), (.iconst (2), 29, []), (.invokestatic 305, 30, [2, 0, 1, 2, 7]), (.ireturn, 31, [3])]
def k_MR_readRule : mCode := [(.aload 0, 1, []), (.getfield 2, 2, [4, 0]), (.iconst (1), 3, []), (.iload 1, 4, []), (.ishl, 5, []), (.iand, 6, []), (.ifCond .eq 0, 7, [0, 12]), (.aload 0, 8, []), (.getfield 0, 9, [4, 2]), (.iconst (5), 10, []), (.invokestatic 305, 11, [2, 0, 1, 2, 7]), (.ireturn, 12, [3]), (.aload 0, 13, []), (.dup, 14, []), (.getfield 2, 15, [4, 0]), (.iconst (1), 16, []), (.iload 1, 17, []), (.ishl, 18, []), (.ior, 19, []), (.putfield 2, 20, [4, 0]), (.aload 0, 21, []), (.getfield 0, 22, [4, 2]), (.invokestatic 310, 23, [1, 0, 0, 1, 7]), (.aload 0, 24, []), (.getfield 0, 25, [4, 2]), (.ldc 2, 26, []), (.iload 1, 27, []), (.iaload, 28, []), (.ldc 3, 29, []), (.iload 1, 30, []), (.iaload, 31, []), (.invokestatic 308, 32, [3, 0, 1, 3, 7]), (.ifCond .eq 0, 33, [1, 35]), (.iconst (0), 34, []), (.ireturn, 35, [3]), (.aload 0, 36, []), (.getfield 1, 37, [4, 2]), (.getfield 2, 38, [0, 2]), (.iload 1, 39, []), (.aload 0, 40, []), (.getfield 0, 41, [4, 2]), (.invokestatic 304, 42, [1, 0, 1, 1, 7]), (.iastore, 43, []), (.aload 0, 44, []), (.getfield 0, 45, [4, 2]), (.invokestatic 310, 46, [1, 0, 0, 1, 7]), (.aload 0, 47, []), (.getfield 0, 48, [4, 2]), (.invokestatic 307, 49, [1, 0, 1, 1, 7]), (.ireturn, 50, [3])]
def k_MR_readPerson : mCode := [(.aload 0, 1, []), (.getfield 1, 2, [4, 2]), (.invokestatic 229, 3, [1, 0, 1, 1, 1]), (.ifCond .eq 0, 4, [0, 9]), (.aload 0, 5, []), (.getfield 0, 6, [4, 2]), (.iconst (6), 7, []), (.invokestatic 305, 8, [2, 0, 1, 2, 7]), (.ireturn, 9, [3]), (.aload 0, 10, []), (.getfield 0, 11, [4, 2]), (.invokestatic 310, 12, [1, 0, 0, 1, 7]), (.aload 0, 13, []), (.getfield 0, 14, [4, 2]), (.getfield 9, 15, [6, 0]), (.ifCond .eq 0, 16, [0, 21]), (.aload 0, 17, []), (.getfield 0, 18, [4, 2]), (.iconst (2), 19, []), (.invokestatic 305, 20, [2, 0, 1, 2, 7]), (.ireturn, 21, [3]), (.aload 0, 22, []), (.getfield 0, 23, [4, 2]), (.getfield 10, 24, [6, 1]), (.lstore 1, 25, []), (.aload 0, 26, []), (.getfield 1, 27, [4, 2]), (.lload 1, 28, []), (.invokestatic 231, 29, [2, 0, 1, 4, 1]), (.iconst (-1), 30, []), (.if_icmp .eq 0, 31, [0, 36]), (.aload 0, 32, []), (.getfield 0, 33, [4, 2]), (.iconst (3), 34, []), (.invokestatic 305, 35, [2, 0, 1, 2, 7]), (.ireturn, 36, [3]), (.aload 0, 37, []), (.getfield 0, 38, [4, 2]), (.invokestatic 310, 39, [1, 0, 0, 1, 7]), (.aload 0, 40, []), (.getfield 0, 41, [4, 2]), (.iconst (8), 42, []), (.invokestatic 306, 43, [2, 0, 1, 2, 7]), (.ifCond .eq 0, 44, [0, 50]), (.aload 0, 45, []), (.getfield 0, 46, [4, 2]), (.iconst (0), 47, []), (.iconst (59), 48, []), (.invokestatic 308, 49, [3, 0, 1, 3, 7]), (.ifCond .eq 0, 50, [1, 52]), (.iconst (0), 51, []), (.ireturn, 52, [3]), (.aload 0, 53, []), (.getfield 1, 54, [4, 2]), (.aload 0, 55, []), (.getfield 0, 56, [4, 2]), (.invokestatic 304, 57, [1, 0, 1, 1, 7]), (.lload 1, 58, []), (.invokestatic 230, 59, [3, 0, 1, 5, 1]), (.istore 3, 60, []), (.aload 0, 61, []), (.getfield 0, 62, [4, 2]), (.invokestatic 310, 63, [1, 0, 0, 1, 7]), (.aload 0, 64, []), (.iconst (9), 65, []), (.aload 0, 66, []), (.getfield 1, 67, [4, 2]), (.getfield 4, 68, [0, 2]), (.iload 3, 69, []), (.iconst (9), 70, []), (.invokestatic 286, 71, [5, 0, 1, 5, 5]), (.ifCond .eq 0, 72, [0, 96]), (.aload 0, 73, []), (.iconst (10), 74, []), (.aload 0, 75, []), (.getfield 1, 76, [4, 2]), (.getfield 5, 77, [0, 2]), (.iload 3, 78, []), (.iconst (99), 79, []), (.invokestatic 286, 80, [5, 0, 1, 5, 5]), (.ifCond .eq 0, 81, [0, 96]), (.aload 0, 82, []), (.iconst (11), 83, []), (.aload 0, 84, []), (.getfield 1, 85, [4, 2]), (.getfield 6, 86, [0, 2]), (.iload 3, 87, []), (.iconst (9), 88, []), (.invokestatic 286, 89, [5, 0, 1, 5, 5]), (.ifCond .eq 0, 90, [0, 96]), (.aload 0, 91, []), (.getfield 0, 92, [4, 2]), (.invokestatic 307, 93, [1, 0, 1, 1, 7]), (.ifCond .eq 0, 94, [0, 96]), (.iconst (1), 95, []), (.goto 0, 96, [97]), (.iconst (0), 97, []), (.ireturn, 98, [3])]
def k_MR_readPerhaps : mCode := [(.aload 0, 1, []), (.getfield 0, 2, [4, 2]), (.getfield 9, 3, [6, 0]), (.iload 1, 4, []), (.if_icmp .eq 0, 5, [0, 7]), (.iconst (1), 6, []), (.ireturn, 7, [3]), (.aload 0, 8, []), (.getfield 0, 9, [4, 2]), (.invokestatic 310, 10, [1, 0, 0, 1, 7]), (.aload 0, 11, []), (.getfield 0, 12, [4, 2]), (.iconst (0), 13, []), (.iload 4, 14, []), (.invokestatic 308, 15, [3, 0, 1, 3, 7]), (.ifCond .eq 0, 16, [1, 18]), (.iconst (0), 17, []), (.ireturn, 18, [3]), (.aload 2, 19, []), (.iload 3, 20, []), (.aload 0, 21, []), (.getfield 0, 22, [4, 2]), (.invokestatic 304, 23, [1, 0, 1, 1, 7]), (.iastore, 24, []), (.aload 0, 25, []), (.getfield 0, 26, [4, 2]), (.invokestatic 310, 27, [1, 0, 0, 1, 7]), (.iconst (1), 28, []), (.ireturn, 29, [3])]
def k_MR_readToast : mCode := [(.aload 0, 1, []), (.getfield 0, 2, [4, 2]), (.invokestatic 310, 3, [1, 0, 0, 1, 7]), (.aload 0, 4, []), (.getfield 0, 5, [4, 2]), (.aload 0, 6, []), (.getfield 1, 7, [4, 2]), (.invokestatic 309, 8, [2, 0, 1, 3, 7]), (.istore 1, 9, []), (.iload 1, 10, []), (.iconst (-1), 11, []), (.if_icmp .eq 0, 12, [1, 14]), (.iconst (0), 13, []), (.ireturn, 14, [3]), (.aload 0, 15, []), (.getfield 1, 16, [4, 2]), (.iload 1, 17, []), (.invokestatic 232, 18, [2, 0, 1, 2, 1]), (.ifCond .eq 0, 19, [0, 24]), (.aload 0, 20, []), (.getfield 0, 21, [4, 2]), (.iconst (5), 22, []), (.invokestatic 305, 23, [2, 0, 1, 2, 7]), (.ireturn, 24, [3]), (.aload 0, 25, []), (.getfield 0, 26, [4, 2]), (.invokestatic 310, 27, [1, 0, 0, 1, 7]), (.aload 0, 28, []), (.getfield 0, 29, [4, 2]), (.iconst (13), 30, []), (.invokestatic 306, 31, [2, 0, 1, 2, 7]), (.ifCond .eq 0, 32, [1, 34]), (.iconst (0), 33, []), (.ireturn, 34, [3]), (.aload 0, 35, []), (.getfield 0, 36, [4, 2]), (.aload 0, 37, []), (.getfield 1, 38, [4, 2]), (.invokestatic 309, 39, [2, 0, 1, 3, 7]), (.istore 2, 40, []), (.iload 2, 41, []), (.iconst (-1), 42, []), (.if_icmp .eq 0, 43, [1, 45]), (.iconst (0), 44, []), (.ireturn, 45, [3]), (.iload 2, 46, []), (.iload 1, 47, []), (.if_icmp .eq 0, 48, [1, 53]), (.aload 0, 49, []), (.getfield 0, 50, [4, 2]), (.iconst (5), 51, []), (.invokestatic 305, 52, [2, 0, 1, 2, 7]), (.ireturn, 53, [3]), (.aload 0, 54, []), (.getfield 1, 55, [4, 2]), (.getfield 7, 56, [0, 2]), (.iload 1, 57, []), (.iload 2, 58, []), (.iastore, 59, []), (.aload 0, 60, []), (.getfield 0, 61, [4, 2]), (.invokestatic 310, 62, [1, 0, 0, 1, 7]), (.aload 0, 63, []), (.getfield 0, 64, [4, 2]), (.invokestatic 307, 65, [1, 0, 1, 1, 7]), (.ireturn, 66, [3])]
def k_Mk_init : mCode := [(.aload 0, 1, []), (.invokespecial 0, 2, []), (.aload 0, 3, []), (.iconst (3), 4, []), (.anewarray 0, 5, []), (.putfield 0, 6, [5, 2]), (.aload 0, 7, []), (.iconst (3), 8, []), (.anewarray 7, 9, []), (.putfield 1, 10, [5, 2]), (.aload 0, 11, []), (.iconst (0), 12, []), (.putfield 2, 13, [5, 0]), (.iconst (0), 14, []), (.istore 1, 15, []), (.iload 1, 16, []), (.iconst (3), 17, []), (.if_icmp .eq 0, 18, [3, 34]), (.aload 0, 19, []), (.getfield 0, 20, [5, 2]), (.iload 1, 21, []), (.new 0, 22, [10]), (.dup, 23, []), (.invokestatic 225, 24, [1, 0, 0, 1, 1]), (.aastore, 25, [10]), (.aload 0, 26, []), (.getfield 1, 27, [5, 2]), (.iload 1, 28, []), (.new 7, 29, [9]), (.dup, 30, []), (.invokestatic 319, 31, [1, 0, 0, 1, 8]), (.aastore, 32, [17]), (.iinc 1 (1), 33, []), (.goto 0, 34, [15]), (.return_, 35, [])]
def k_Mk_isFull : mCode := [(.aload 0, 1, []), (.getfield 2, 2, [5, 0]), (.iconst (3), 3, []), (.if_icmp .eq 0, 4, [2, 6]), (.iconst (1), 5, []), (.goto 0, 6, [7]), (.iconst (0), 7, []), (.ireturn, 8, [3])]
def k_Mk_isEmpty : mCode := [(.aload 0, 1, []), (.getfield 2, 2, [5, 0]), (.iconst (1), 3, []), (.if_icmp .eq 0, 4, [3, 6]), (.iconst (1), 5, []), (.goto 0, 6, [7]), (.iconst (0), 7, []), (.ireturn, 8, [3])]
def k_Mk_keep : mCode := [(.aload 0, 1, []), (.getfield 0, 2, [5, 2]), (.aload 0, 3, []), (.getfield 2, 4, [5, 0]), (.aaload, 5, [10]), (.aload 1, 6, []), (.invokestatic 227, 7, [2, 0, 0, 2, 1]), (.aload 0, 8, []), (.getfield 1, 9, [5, 2]), (.aload 0, 10, []), (.getfield 2, 11, [5, 0]), (.aaload, 12, [17]), (.aload 2, 13, []), (.invokestatic 322, 14, [2, 0, 0, 2, 8]), (.aload 0, 15, []), (.dup, 16, []), (.getfield 2, 17, [5, 0]), (.iconst (1), 18, []), (.iadd, 19, []), (.putfield 2, 20, [5, 0]), (.aload 0, 21, []), (.getfield 2, 22, [5, 0]), (.ireturn, 23, [0])]
def k_Mk_giveBack : mCode := [(.aload 0, 1, []), (.dup, 2, []), (.getfield 2, 3, [5, 0]), (.iconst (1), 4, []), (.isub, 5, []), (.putfield 2, 6, [5, 0]), (.aload 1, 7, []), (.aload 0, 8, []), (.getfield 0, 9, [5, 2]), (.aload 0, 10, []), (.getfield 2, 11, [5, 0]), (.aaload, 12, [10]), (.invokestatic 227, 13, [2, 0, 0, 2, 1]), (.aload 2, 14, []), (.aload 0, 15, []), (.getfield 1, 16, [5, 2]), (.aload 0, 17, []), (.getfield 2, 18, [5, 0]), (.aaload, 19, [17]), (.invokestatic 322, 20, [2, 0, 0, 2, 8]), (.aload 0, 21, []), (.getfield 2, 22, [5, 0]), (.ireturn, 23, [0])]
def k_Tp_init : mCode := [(.aload 0, 1, []), (.invokespecial 0, 2, []), (.aload 0, 3, []), (.iconst (900), 4, []), (.newarray .byte, 5, [2]), (.putfield 0, 6, [6, 2]), (.aload 0, 7, []), (.iconst (24), 8, []), (.newarray .long, 9, [1]), (.putfield 1, 10, [6, 2]), (.aload 0, 11, []), (.iconst (0), 12, []), (.putfield 2, 13, [6, 0]), (.aload 0, 14, []), (.iconst (0), 15, []), (.putfield 3, 16, [6, 0]), (.aload 0, 17, []), (.iconst (0), 18, []), (.putfield 4, 19, [6, 0]), (.aload 0, 20, []), (.iconst (0), 21, []), (.putfield 5, 22, [6, 0]), (.aload 0, 23, []), (.iconst (0), 24, []), (.putfield 6, 25, [6, 0]), (.aload 0, 26, []), (.iconst (0), 27, []), (.putfield 7, 28, [6, 0]), (.aload 0, 29, []), (.iconst (0), 30, []), (.putfield 8, 31, [6, 0]), (.aload 0, 32, []), (.iconst (-1), 33, []), (.putfield 9, 34, [6, 0]), (.aload 0, 35, []), (.sipush (0), 36, []), (.putfield 10, 37, [6, 1]), (.aload 0, 38, []), (.iconst (-1), 39, []), (.putfield 11, 40, [6, 0]), (.aload 0, 41, []), (.iconst (-1), 42, []), (.putfield 12, 43, [6, 0]), (.iconst (1), 44, []), (.istore 1, 45, []), (.sipush (0), 46, []), (.lstore 2, 47, []), (.iconst (0), 48, []), (.istore 4, 49, []), (.iload 4, 50, []), (.ldc 5, 51, []), (.arraylength, 52, [1]), (.if_icmp .eq 0, 53, [3, 78]), (.iload 1, 54, []), (.iconst (24), 55, []), (.if_icmp .eq 0, 56, [3, 78]), (.ldc 5, 57, []), (.iload 4, 58, []), (.caload, 59, []), (.istore 5, 60, []), (.iload 5, 61, []), (.iconst (32), 62, []), (.if_icmp .eq 0, 63, [1, 72]), (.aload 0, 64, []), (.getfield 1, 65, [6, 2]), (.iload 1, 66, []), (.lload 2, 67, []), (.lastore, 68, []), (.iinc 1 (1), 69, []), (.sipush (0), 70, []), (.lstore 2, 71, []), (.goto 0, 72, [76]), (.lload 2, 73, []), (.iload 5, 74, []), (.invokestatic 314, 75, [2, 0, 2, 3, 0]), (.lstore 2, 76, []), (.iinc 4 (1), 77, []), (.goto 0, 78, [49]), (.return_, 79, [])]
def k_Tp_length : mCode := [(.aload 0, 1, []), (.getfield 2, 2, [6, 0]), (.ireturn, 3, [0])]
def k_Tp_faultKind : mCode := [(.aload 0, 1, []), (.getfield 11, 2, [6, 0]), (.ireturn, 3, [0])]
def k_Tp_faultPlace : mCode := [(.aload 0, 1, []), (.getfield 12, 2, [6, 0]), (.ireturn, 3, [0])]
def k_Tp_hasRoom : mCode := [(.aload 0, 1, []), (.getfield 2, 2, [6, 0]), (.iload 1, 3, []), (.iadd, 4, []), (.iconst (900), 5, []), (.if_icmp .eq 0, 6, [4, 8]), (.iconst (1), 7, []), (.goto 0, 8, [9]), (.iconst (0), 9, []), (.ireturn, 10, [3])]
def k_Tp_append : mCode := [(.iconst (24), 1, []), (.istore 2, 2, []), (.iload 2, 3, []), (.ifCond .eq 0, 4, [2, 25]), (.aload 0, 5, []), (.getfield 2, 6, [6, 0]), (.iconst (900), 7, []), (.if_icmp .eq 0, 8, [3, 25]), (.aload 0, 9, []), (.getfield 0, 10, [6, 2]), (.aload 0, 11, []), (.getfield 2, 12, [6, 0]), (.iload 1, 13, []), (.iload 2, 14, []), (.ishr, 15, []), (.i2b, 16, []), (.bastore, 17, []), (.aload 0, 18, []), (.dup, 19, []), (.getfield 2, 20, [6, 0]), (.iconst (1), 21, []), (.iadd, 22, []), (.putfield 2, 23, [6, 0]), (.iinc 2 (-8), 24, []), (.goto 0, 25, [2]), (.return_, 26, [])]
def k_Tp_empty : mCode := [(.aload 0, 1, []), (.iconst (0), 2, []), (.putfield 2, 3, [6, 0]), (.return_, 4, [])]
def k_Tp_begin : mCode := [(.aload 0, 1, []), (.iload 1, 2, []), (.aload 0, 3, []), (.getfield 2, 4, [6, 0]), (.dsub, 5, []), (.putfield 3, 6, [6, 0]), (.aload 0, 7, []), (.iconst (0), 8, []), (.putfield 4, 9, [6, 0]), (.aload 0, 10, []), (.iconst (0), 11, []), (.putfield 11, 12, [6, 0]), (.aload 0, 13, []), (.iconst (-1), 14, []), (.putfield 12, 15, [6, 0]), (.aload 0, 16, []), (.invokestatic 310, 17, [1, 0, 0, 1, 7]), (.return_, 18, [])]
def k_Tp_isAtEnd : mCode := [(.aload 0, 1, []), (.getfield 5, 2, [6, 0]), (.ifCond .eq 0, 3, [1, 5]), (.iconst (1), 4, []), (.goto 0, 5, [6]), (.iconst (0), 6, []), (.ireturn, 7, [3])]
def k_Tp_isAtCompares : mCode := [(.aload 0, 1, []), (.getfield 8, 2, [6, 0]), (.iconst (60), 3, []), (.if_icmp .eq 0, 4, [0, 12]), (.aload 0, 5, []), (.getfield 8, 6, [6, 0]), (.iconst (62), 7, []), (.if_icmp .eq 0, 8, [0, 12]), (.aload 0, 9, []), (.getfield 8, 10, [6, 0]), (.iconst (61), 11, []), (.if_icmp .eq 0, 12, [1, 14]), (.iconst (1), 13, []), (.goto 0, 14, [15]), (.iconst (0), 15, []), (.ireturn, 16, [3])]
def k_Tp_sign : mCode := [(.aload 0, 1, []), (.getfield 8, 2, [6, 0]), (.ireturn, 3, [0])]
def k_Tp_number : mCode := [(.aload 0, 1, []), (.getfield 7, 2, [6, 0]), (.ireturn, 3, [0])]
def k_Tp_object : mCode := [(.aload 0, 1, []), (.aload 0, 2, []), (.getfield 5, 3, [6, 0]), (.iconst (4), 4, []), (.if_icmp .eq 0, 5, [1, 7]), (.iconst (1), 6, []), (.goto 0, 7, [8]), (.iload 1, 8, []), (.putfield 11, 9, [6, 0]), (.aload 0, 10, []), (.aload 0, 11, []), (.getfield 6, 12, [6, 0]), (.putfield 12, 13, [6, 0]), (.iconst (0), 14, []), (.ireturn, 15, [3])]
def k_Tp_passWord : mCode := [(.aload 0, 1, []), (.getfield 9, 2, [6, 0]), (.iload 1, 3, []), (.if_icmp .eq 0, 4, [0, 8]), (.aload 0, 5, []), (.iconst (2), 6, []), (.invokestatic 305, 7, [2, 0, 1, 2, 7]), (.ireturn, 8, [3]), (.aload 0, 9, []), (.invokestatic 310, 10, [1, 0, 0, 1, 7]), (.iconst (1), 11, []), (.ireturn, 12, [3])]
def k_Tp_passSemicolon : mCode := [(.aload 0, 1, []), (.getfield 8, 2, [6, 0]), (.iconst (59), 3, []), (.if_icmp .eq 0, 4, [0, 8]), (.aload 0, 5, []), (.iconst (2), 6, []), (.invokestatic 305, 7, [2, 0, 1, 2, 7]), (.ireturn, 8, [3]), (.aload 0, 9, []), (.invokestatic 310, 10, [1, 0, 0, 1, 7]), (.iconst (1), 11, []), (.ireturn, 12, [3])]
def k_Tp_isNumber : mCode := [(.aload 0, 1, []), (.getfield 5, 2, [6, 0]), (.iconst (2), 3, []), (.if_icmp .eq 0, 4, [0, 8]), (.aload 0, 5, []), (.iconst (2), 6, []), (.invokestatic 305, 7, [2, 0, 1, 2, 7]), (.ireturn, 8, [3]), (.aload 0, 9, []), (.getfield 7, 10, [6, 0]), (.iload 1, 11, []), (.if_icmp .eq 0, 12, [2, 16]), (.aload 0, 13, []), (.getfield 7, 14, [6, 0]), (.iload 2, 15, []), (.if_icmp .eq 0, 16, [5, 20]), (.aload 0, 17, []), (.iconst (4), 18, []), (.invokestatic 305, 19, [2, 0, 1, 2, 7]), (.ifCond .eq 0, 20, [0, 22]), (.iconst (1), 21, []), (.goto 0, 22, [23]), (.iconst (0), 23, []), (.ireturn, 24, [3])]
def k_Tp_whoIsNamed : mCode := [(.aload 0, 1, []), (.getfield 9, 2, [6, 0]), (.ifCond .eq 0, 3, [0, 9]), (.aload 0, 4, []), (.iconst (2), 5, []), (.invokestatic 305, 6, [2, 0, 1, 2, 7]), (.pop, 7, []), (.iconst (-1), 8, []), (.ireturn, 9, [0]), (.aload 1, 10, []), (.aload 0, 11, []), (.getfield 10, 12, [6, 1]), (.invokestatic 231, 13, [2, 0, 1, 4, 1]), (.istore 2, 14, []), (.iload 2, 15, []), (.iconst (-1), 16, []), (.if_icmp .eq 0, 17, [1, 21]), (.aload 0, 18, []), (.iconst (3), 19, []), (.invokestatic 305, 20, [2, 0, 1, 2, 7]), (.pop, 21, []), (.iload 2, 22, []), (.ireturn, 23, [0])]
def k_Tp_step : mCode := [(.aload 0, 1, []), (.getfield 4, 2, [6, 0]), (.aload 0, 3, []), (.getfield 3, 4, [6, 0]), (.if_icmp .eq 0, 5, [3, 19]), (.aload 0, 6, []), (.getfield 0, 7, [6, 2]), (.aload 0, 8, []), (.getfield 4, 9, [6, 0]), (.baload, 10, []), (.invokestatic 315, 11, [1, 0, 1, 1, 0]), (.ifCond .eq 0, 12, [0, 19]), (.aload 0, 13, []), (.dup, 14, []), (.getfield 4, 15, [6, 0]), (.iconst (1), 16, []), (.iadd, 17, []), (.putfield 4, 18, [6, 0]), (.goto 0, 19, [0]), (.aload 0, 20, []), (.aload 0, 21, []), (.getfield 4, 22, [6, 0]), (.putfield 6, 23, [6, 0]), (.aload 0, 24, []), (.iconst (-1), 25, []), (.putfield 9, 26, [6, 0]), (.aload 0, 27, []), (.iconst (0), 28, []), (.putfield 8, 29, [6, 0]), (.aload 0, 30, []), (.getfield 4, 31, [6, 0]), (.aload 0, 32, []), (.getfield 3, 33, [6, 0]), (.if_icmp .eq 0, 34, [2, 38]), (.aload 0, 35, []), (.iconst (0), 36, []), (.putfield 5, 37, [6, 0]), (.goto 0, 38, [85]), (.aload 0, 39, []), (.getfield 0, 40, [6, 2]), (.aload 0, 41, []), (.getfield 4, 42, [6, 0]), (.baload, 43, []), (.invokestatic 316, 44, [1, 0, 1, 1, 0]), (.ifCond .eq 0, 45, [0, 48]), (.aload 0, 46, []), (.invokestatic 311, 47, [1, 0, 0, 1, 7]), (.goto 0, 48, [85]), (.aload 0, 49, []), (.getfield 0, 50, [6, 2]), (.aload 0, 51, []), (.getfield 4, 52, [6, 0]), (.baload, 53, []), (.invokestatic 317, 54, [1, 0, 1, 1, 0]), (.ifCond .eq 0, 55, [0, 58]), (.aload 0, 56, []), (.invokestatic 312, 57, [1, 0, 0, 1, 7]), (.goto 0, 58, [85]), (.aload 0, 59, []), (.getfield 0, 60, [6, 2]), (.aload 0, 61, []), (.getfield 4, 62, [6, 0]), (.baload, 63, []), (.invokestatic 318, 64, [1, 0, 1, 1, 0]), (.ifCond .eq 0, 65, [0, 82]), (.aload 0, 66, []), (.iconst (3), 67, []), (.putfield 5, 68, [6, 0]), (.aload 0, 69, []), (.aload 0, 70, []), (.getfield 0, 71, [6, 2]), (.aload 0, 72, []), (.getfield 4, 73, [6, 0]), (.baload, 74, []), (.putfield 8, 75, [6, 0]), (.aload 0, 76, []), (.dup, 77, []), (.getfield 4, 78, [6, 0]), (.iconst (1), 79, []), (.iadd, 80, []), (.putfield 4, 81, [6, 0]), (.goto 0, 82, [85]), (.aload 0, 83, []), (.iconst (4), 84, []), (.putfield 5, 85, [6, 0]), (.return_, 86, [])]
def k_Tp_stepWord : mCode := [(.aload 0, 1, []), (.iconst (1), 2, []), (.putfield 5, 3, [6, 0]), (.aload 0, 4, []), (.sipush (0), 5, []), (.putfield 10, 6, [6, 1]), (.aload 0, 7, []), (.getfield 4, 8, [6, 0]), (.aload 0, 9, []), (.getfield 3, 10, [6, 0]), (.if_icmp .eq 0, 11, [3, 42]), (.aload 0, 12, []), (.getfield 0, 13, [6, 2]), (.aload 0, 14, []), (.getfield 4, 15, [6, 0]), (.baload, 16, []), (.invokestatic 316, 17, [1, 0, 1, 1, 0]), (.ifCond .eq 0, 18, [0, 42]), (.aload 0, 19, []), (.getfield 4, 20, [6, 0]), (.aload 0, 21, []), (.getfield 6, 22, [6, 0]), (.isub, 23, []), (.iconst (8), 24, []), (.if_icmp .eq 0, 25, [3, 35]), (.aload 0, 26, []), (.aload 0, 27, []), (.getfield 10, 28, [6, 1]), (.aload 0, 29, []), (.getfield 0, 30, [6, 2]), (.aload 0, 31, []), (.getfield 4, 32, [6, 0]), (.baload, 33, []), (.invokestatic 314, 34, [2, 0, 2, 3, 0]), (.putfield 10, 35, [6, 1]), (.aload 0, 36, []), (.dup, 37, []), (.getfield 4, 38, [6, 0]), (.iconst (1), 39, []), (.iadd, 40, []), (.putfield 4, 41, [6, 0]), (.goto 0, 42, [6]), (.aload 0, 43, []), (.aload 0, 44, []), (.getfield 4, 45, [6, 0]), (.aload 0, 46, []), (.getfield 6, 47, [6, 0]), (.isub, 48, []), (.iconst (8), 49, []), (.if_icmp .eq 0, 50, [5, 52]), (.iconst (-1), 51, []), (.goto 0, 52, [56]), (.aload 0, 53, []), (.aload 0, 54, []), (.getfield 10, 55, [6, 1]), (.invokestatic 313, 56, [2, 0, 1, 4, 7]), (.putfield 9, 57, [6, 0]), (.return_, 58, [])]
def k_Tp_stepNumber : mCode := [(.aload 0, 1, []), (.iconst (0), 2, []), (.putfield 7, 3, [6, 0]), (.aload 0, 4, []), (.getfield 4, 5, [6, 0]), (.aload 0, 6, []), (.getfield 3, 7, [6, 0]), (.if_icmp .eq 0, 8, [3, 43]), (.aload 0, 9, []), (.getfield 0, 10, [6, 2]), (.aload 0, 11, []), (.getfield 4, 12, [6, 0]), (.baload, 13, []), (.invokestatic 317, 14, [1, 0, 1, 1, 0]), (.ifCond .eq 0, 15, [0, 43]), (.aload 0, 16, []), (.getfield 4, 17, [6, 0]), (.aload 0, 18, []), (.getfield 6, 19, [6, 0]), (.isub, 20, []), (.iconst (4), 21, []), (.if_icmp .eq 0, 22, [3, 36]), (.aload 0, 23, []), (.aload 0, 24, []), (.getfield 7, 25, [6, 0]), (.iconst (10), 26, []), (.imul, 27, []), (.aload 0, 28, []), (.getfield 0, 29, [6, 2]), (.aload 0, 30, []), (.getfield 4, 31, [6, 0]), (.baload, 32, []), (.iconst (48), 33, []), (.isub, 34, []), (.iadd, 35, []), (.putfield 7, 36, [6, 0]), (.aload 0, 37, []), (.dup, 38, []), (.getfield 4, 39, [6, 0]), (.iconst (1), 40, []), (.iadd, 41, []), (.putfield 4, 42, [6, 0]), (.goto 0, 43, [3]), (.aload 0, 44, []), (.aload 0, 45, []), (.getfield 4, 46, [6, 0]), (.aload 0, 47, []), (.getfield 6, 48, [6, 0]), (.isub, 49, []), (.iconst (4), 50, []), (.if_icmp .eq 0, 51, [5, 53]), (.iconst (4), 52, []), (.goto 0, 53, [54]), (.iconst (2), 54, []), (.putfield 5, 55, [6, 0]), (.return_, 56, [])]
def k_Tp_wordOf : mCode := [(.iconst (1), 1, []), (.istore 3, 2, []), (.iload 3, 3, []), (.iconst (24), 4, []), (.if_icmp .eq 0, 5, [3, 16]), (.aload 0, 6, []), (.getfield 1, 7, [6, 2]), (.iload 3, 8, []), (.laload, 9, []), (.lload 1, 10, []), (.lcmp, 12, [1, 14]), (.ifCond .eq 0, 12, [1, 14]), (.iload 3, 13, []), (.ireturn, 14, [0]), (.iinc 3 (1), 15, []), (.goto 0, 16, [2]), (.iconst (0), 17, []), (.ireturn, 18, [0])]
def k_Tp_withLetter : mCode := [(.lload 0, 1, []), (.sipush (32), 2, []), (.lmul, 3, []), (.iload 2, 4, []), (.iconst (97), 5, []), (.isub, 6, []), (.iconst (1), 7, []), (.iadd, 8, []), (.i2l, 9, []), (.ladd, 10, []), (.lreturn, 11, [])]
def k_Tp_isBlank : mCode := [(.iload 0, 1, []), (.iconst (10), 2, []), (.if_icmp .eq 0, 3, [0, 6]), (.iload 0, 4, []), (.iconst (32), 5, []), (.if_icmp .eq 0, 6, [1, 8]), (.iconst (1), 7, []), (.goto 0, 8, [9]), (.iconst (0), 9, []), (.ireturn, 10, [3])]
def k_Tp_isLetter : mCode := [(.iload 0, 1, []), (.iconst (97), 2, []), (.if_icmp .eq 0, 3, [2, 8]), (.iload 0, 4, []), (.iconst (122), 5, []), (.if_icmp .eq 0, 6, [4, 8]), (.iconst (1), 7, []), (.goto 0, 8, [9]), (.iconst (0), 9, []), (.ireturn, 10, [3])]
def k_Tp_isDigit : mCode := [(.iload 0, 1, []), (.iconst (48), 2, []), (.if_icmp .eq 0, 3, [2, 8]), (.iload 0, 4, []), (.iconst (57), 5, []), (.if_icmp .eq 0, 6, [4, 8]), (.iconst (1), 7, []), (.goto 0, 8, [9]), (.iconst (0), 9, []), (.ireturn, 10, [3])]
def k_Tp_isSign : mCode := [(.iload 0, 1, []), (.iconst (59), 2, []), (.if_icmp .eq 0, 3, [0, 12]), (.iload 0, 4, []), (.iconst (60), 5, []), (.if_icmp .eq 0, 6, [0, 12]), (.iload 0, 7, []), (.iconst (62), 8, []), (.if_icmp .eq 0, 9, [0, 12]), (.iload 0, 10, []), (.iconst (61), 11, []), (.if_icmp .eq 0, 12, [1, 14]), (.iconst (1), 13, []), (.goto 0, 14, [15]), (.iconst (0), 15, []), (.ireturn, 16, [3])]
def k_Ti_init : mCode := [(.aload 0, 1, []), (.invokespecial 0, 2, []), (.aload 0, 3, []), (.iconst (60), 4, []), (.newarray .int, 5, [0]), (.putfield 0, 6, [7, 2]), (.aload 0, 7, []), (.iconst (60), 8, []), (.newarray .int, 9, [0]), (.putfield 1, 10, [7, 2]), (.aload 0, 11, []), (.iconst (60), 12, []), (.newarray .int, 13, [0]), (.putfield 2, 14, [7, 2]), (.aload 0, 15, []), (.iconst (60), 16, []), (.newarray .int, 17, [0]), (.putfield 3, 18, [7, 2]), (.aload 0, 19, []), (.iconst (60), 20, []), (.newarray .int, 21, [0]), (.putfield 4, 22, [7, 2]), (.aload 0, 23, []), (.iconst (60), 24, []), (.newarray .int, 25, [0]), (.putfield 5, 26, [7, 2]), (.aload 0, 27, []), (.iconst (0), 28, []), (.putfield 6, 29, [7, 0]), (.aload 0, 30, []), (.iconst (0), 31, []), (.putfield 7, 32, [7, 0]), (.aload 0, 33, []), (.iconst (0), 34, []), (.putfield 8, 35, [7, 3]), (.return_, 36, [])]
def k_Ti_forget : mCode := [(.aload 0, 1, []), (.iconst (0), 2, []), (.putfield 6, 3, [7, 0]), (.aload 0, 4, []), (.iconst (0), 5, []), (.putfield 7, 6, [7, 0]), (.aload 0, 7, []), (.iconst (0), 8, []), (.putfield 8, 9, [7, 3]), (.return_, 10, [])]
def k_Ti_add : mCode := [(.aload 0, 1, []), (.getfield 6, 2, [7, 0]), (.iconst (59), 3, []), (.dsub, 4, []), (.istore 2, 5, []), (.aload 0, 6, []), (.getfield 0, 7, [7, 2]), (.iload 2, 8, []), (.iload 1, 9, []), (.iastore, 10, []), (.aload 0, 11, []), (.getfield 1, 12, [7, 2]), (.iload 2, 13, []), (.iconst (-1), 14, []), (.iastore, 15, []), (.aload 0, 16, []), (.getfield 2, 17, [7, 2]), (.iload 2, 18, []), (.iconst (-1), 19, []), (.iastore, 20, []), (.aload 0, 21, []), (.getfield 3, 22, [7, 2]), (.iload 2, 23, []), (.iconst (0), 24, []), (.iastore, 25, []), (.aload 0, 26, []), (.getfield 4, 27, [7, 2]), (.iload 2, 28, []), (.iconst (0), 29, []), (.iastore, 30, []), (.aload 0, 31, []), (.getfield 5, 32, [7, 2]), (.iload 2, 33, []), (.iload 2, 34, []), (.iastore, 35, []), (.aload 0, 36, []), (.iload 2, 37, []), (.iconst (1), 38, []), (.iadd, 39, []), (.putfield 6, 40, [7, 0]), (.iload 1, 41, []), (.iconst (22), 42, []), (.if_icmp .eq 0, 43, [0, 49]), (.aload 0, 44, []), (.dup, 45, []), (.getfield 7, 46, [7, 0]), (.iconst (1), 47, []), (.iadd, 48, []), (.putfield 7, 49, [7, 0]), (.iload 2, 50, []), (.ireturn, 51, [0])]
def k_Ti_takeFrom : mCode := [(.aload 1, 1, []), (.getfield 0, 2, [7, 2]), (.iconst (0), 3, []), (.aload 0, 4, []), (.getfield 0, 5, [7, 2]), (.iconst (0), 6, []), (.aload 1, 7, []), (.getfield 6, 8, [7, 0]), (.swap, 9, [0]), (.aload 1, 10, []), (.getfield 1, 11, [7, 2]), (.iconst (0), 12, []), (.aload 0, 13, []), (.getfield 1, 14, [7, 2]), (.iconst (0), 15, []), (.aload 1, 16, []), (.getfield 6, 17, [7, 0]), (.swap, 18, [0]), (.aload 1, 19, []), (.getfield 2, 20, [7, 2]), (.iconst (0), 21, []), (.aload 0, 22, []), (.getfield 2, 23, [7, 2]), (.iconst (0), 24, []), (.aload 1, 25, []), (.getfield 6, 26, [7, 0]), (.swap, 27, [0]), (.aload 1, 28, []), (.getfield 3, 29, [7, 2]), (.iconst (0), 30, []), (.aload 0, 31, []), (.getfield 3, 32, [7, 2]), (.iconst (0), 33, []), (.aload 1, 34, []), (.getfield 6, 35, [7, 0]), (.swap, 36, [0]), (.aload 1, 37, []), (.getfield 4, 38, [7, 2]), (.iconst (0), 39, []), (.aload 0, 40, []), (.getfield 4, 41, [7, 2]), (.iconst (0), 42, []), (.aload 1, 43, []), (.getfield 6, 44, [7, 0]), (.swap, 45, [0]), (.aload 1, 46, []), (.getfield 5, 47, [7, 2]), (.iconst (0), 48, []), (.aload 0, 49, []), (.getfield 5, 50, [7, 2]), (.iconst (0), 51, []), (.aload 1, 52, []), (.getfield 6, 53, [7, 0]), (.swap, 54, [0]), (.aload 0, 55, []), (.aload 1, 56, []), (.getfield 6, 57, [7, 0]), (.putfield 6, 58, [7, 0]), (.aload 0, 59, []), (.aload 1, 60, []), (.getfield 7, 61, [7, 0]), (.putfield 7, 62, [7, 0]), (.aload 0, 63, []), (.aload 1, 64, []), (.getfield 8, 65, [7, 0]), (.putfield 8, 66, [7, 3]), (.return_, 67, [])]
def k_TR_init : mCode := [(.aload 0, 1, []), (.invokespecial 0, 2, []), (.aload 0, 3, []), (.new 7, 4, [9]), (.dup, 5, []), (.invokestatic 319, 6, [1, 0, 0, 1, 8]), (.putfield 1, 7, [8, 2]), (.aload 0, 8, []), (.iconst (3), 9, []), (.newarray .int, 10, [0]), (.putfield 2, 11, [8, 2]), (.aload 0, 12, []), (.iconst (0), 13, []), (.putfield 3, 14, [8, 0]), (.aload 0, 15, []), (.aload 1, 16, []), (.putfield 0, 17, [8, 2]), (.return_, 18, [])]
def k_TR_draft : mCode := [(.aload 0, 1, []), (.getfield 1, 2, [8, 2]), (.areturn, 3, [])]
def k_TR_readTimes : mCode := [(.aload 0, 1, []), (.getfield 1, 2, [8, 2]), (.invokestatic 320, 3, [1, 0, 0, 1, 8]), (.aload 0, 4, []), (.iconst (0), 5, []), (.putfield 3, 6, [8, 0]), (.aload 0, 7, []), (.getfield 0, 8, [8, 2]), (.iload 1, 9, []), (.invokestatic 300, 10, [2, 0, 0, 2, 7]), (.iconst (0), 11, []), (.istore 3, 12, []), (.iload 3, 13, []), (.iconst (300), 14, []), (.if_icmp .eq 0, 15, [4, 27]), (.aload 0, 16, []), (.getfield 0, 17, [8, 2]), (.invokestatic 301, 18, [1, 0, 1, 1, 7]), (.ifCond .eq 0, 19, [1, 27]), (.aload 0, 20, []), (.aload 2, 21, []), (.invokestatic 326, 22, [2, 0, 1, 6, 9]), (.ifCond .eq 0, 23, [1, 25]), (.iconst (0), 24, []), (.ireturn, 25, [3]), (.iinc 3 (1), 26, []), (.goto 0, 27, [12]), (.aload 0, 28, []), (.getfield 1, 29, [8, 2]), (.iconst (1), 30, []), (.putfield 8, 31, [7, 3]), (.aload 0, 32, []), (.getfield 3, 33, [8, 0]), (.ifCond .eq 0, 34, [0, 39]), (.aload 0, 35, []), (.getfield 0, 36, [8, 2]), (.iconst (2), 37, []), (.invokestatic 305, 38, [2, 0, 1, 2, 7]), (.ifCond .eq 0, 39, [0, 41]), (.iconst (1), 40, []), (.goto 0, 41, [42]), (.iconst (0), 42, []), (.ireturn, 43, [3])]
def k_TR_readStep : mCode := [(.aload 0, 1, []), (.getfield 0, 2, [8, 2]), (.getfield 9, 3, [6, 0]), (.istore 2, 4, []), (.iload 2, 5, []), (.iconst (22), 6, []), (.if_icmp .eq 0, 7, [1, 10]), (.aload 0, 8, []), (.invokestatic 327, 9, [1, 0, 1, 3, 9]), (.ireturn, 10, [3]), (.iload 2, 11, []), (.iconst (14), 12, []), (.if_icmp .eq 0, 13, [2, 16]), (.iload 2, 14, []), (.iconst (20), 15, []), (.if_icmp .eq 0, 16, [1, 21]), (.aload 0, 17, []), (.getfield 0, 18, [8, 2]), (.iconst (2), 19, []), (.invokestatic 305, 20, [2, 0, 1, 2, 7]), (.ireturn, 21, [3]), (.aload 0, 22, []), (.getfield 1, 23, [8, 2]), (.getfield 7, 24, [7, 0]), (.iconst (30), 25, []), (.if_icmp .eq 0, 26, [2, 31]), (.aload 0, 27, []), (.getfield 0, 28, [8, 2]), (.iconst (6), 29, []), (.invokestatic 305, 30, [2, 0, 1, 2, 7]), (.ireturn, 31, [3]), (.iload 2, 32, []), (.iconst (19), 33, []), (.if_icmp .eq 0, 34, [0, 37]), (.iload 2, 35, []), (.iconst (21), 36, []), (.if_icmp .eq 0, 37, [1, 39]), (.iconst (1), 38, []), (.goto 0, 39, [40]), (.iconst (0), 40, []), (.istore 3, 41, []), (.iload 3, 42, []), (.ifCond .eq 0, 43, [0, 52]), (.aload 0, 44, []), (.getfield 3, 45, [8, 0]), (.iconst (3), 46, []), (.if_icmp .eq 0, 47, [2, 52]), (.aload 0, 48, []), (.getfield 0, 49, [8, 2]), (.iconst (7), 50, []), (.invokestatic 305, 51, [2, 0, 1, 2, 7]), (.ireturn, 52, [3]), (.aload 0, 53, []), (.getfield 1, 54, [8, 2]), (.iload 2, 55, []), (.invokestatic 321, 56, [2, 0, 1, 3, 8]), (.istore 4, 57, []), (.iload 3, 58, []), (.ifCond .eq 0, 59, [0, 71]), (.aload 0, 60, []), (.getfield 2, 61, [8, 2]), (.aload 0, 62, []), (.getfield 3, 63, [8, 0]), (.iload 4, 64, []), (.iastore, 65, []), (.aload 0, 66, []), (.dup, 67, []), (.getfield 3, 68, [8, 0]), (.iconst (1), 69, []), (.iadd, 70, []), (.putfield 3, 71, [8, 0]), (.aload 0, 72, []), (.getfield 0, 73, [8, 2]), (.invokestatic 310, 74, [1, 0, 0, 1, 7]), (.iconst (1), 75, []), (.istore 5, 76, []), (.iload 2, 77, []), (.tableswitch 0 (14) 0 #[], 78, [120, 78, 84, 120, 91, 120, 107, 120, 113]), (.aload 0, 79, []), (.iload 4, 80, []), (.aload 1, 81, []), (.invokestatic 329, 82, [3, 0, 1, 4, 9]), (.istore 5, 83, []), (.goto 0, 84, [120]), (.aload 0, 85, []), (.iload 4, 86, []), (.iconst (1), 87, []), (.iconst (20), 88, []), (.invokestatic 331, 89, [4, 0, 1, 4, 9]), (.istore 5, 90, []), (.goto 0, 91, [120]), (.aload 0, 92, []), (.iload 4, 93, []), (.aload 1, 94, []), (.invokestatic 329, 95, [3, 0, 1, 4, 9]), (.ifCond .eq 0, 96, [0, 104]), (.aload 0, 97, []), (.iload 4, 98, []), (.iconst (0), 99, []), (.iconst (9), 100, []), (.invokestatic 331, 101, [4, 0, 1, 4, 9]), (.ifCond .eq 0, 102, [0, 104]), (.iconst (1), 103, []), (.goto 0, 104, [105]), (.iconst (0), 105, []), (.istore 5, 106, []), (.goto 0, 107, [120]), (.aload 0, 108, []), (.iload 4, 109, []), (.aload 1, 110, []), (.invokestatic 328, 111, [3, 0, 1, 4, 9]), (.istore 5, 112, []), (.goto 0, 113, [120]), (.aload 0, 114, []), (.iload 4, 115, []), (.iconst (1), 116, []), (.iconst (99), 117, []), (.invokestatic 331, 118, [4, 0, 1, 4, 9]), (.istore 5, 119, []), (.goto 0, 120, [120]), (.iload 5, 121, []), (.ifCond .eq 0, 122, [0, 128]), (.aload 0, 123, []), (.getfield 0, 124, [8, 2]), (.invokestatic 307, 125, [1, 0, 1, 1, 7]), (.ifCond .eq 0, 126, [0, 128]), (.iconst (1), 127, []), (.goto 0, 128, [129]), (.iconst (0), 129, []), (.ireturn, 130, [3])]
def k_TR_readEnd : mCode := [(.aload 0, 1, []), (.getfield 3, 2, [8, 0]), (.iconst (1), 3, []), (.if_icmp .eq 0, 4, [3, 9]), (.aload 0, 5, []), (.getfield 0, 6, [8, 2]), (.iconst (2), 7, []), (.invokestatic 305, 8, [2, 0, 1, 2, 7]), (.ireturn, 9, [3]), (.aload 0, 10, []), (.getfield 0, 11, [8, 2]), (.invokestatic 310, 12, [1, 0, 0, 1, 7]), (.aload 0, 13, []), (.dup, 14, []), (.getfield 3, 15, [8, 0]), (.iconst (1), 16, []), (.isub, 17, []), (.putfield 3, 18, [8, 0]), (.aload 0, 19, []), (.getfield 2, 20, [8, 2]), (.aload 0, 21, []), (.getfield 3, 22, [8, 0]), (.iaload, 23, []), (.istore 1, 24, []), (.aload 0, 25, []), (.getfield 1, 26, [8, 2]), (.iconst (22), 27, []), (.invokestatic 321, 28, [2, 0, 1, 3, 8]), (.istore 2, 29, []), (.aload 0, 30, []), (.getfield 1, 31, [8, 2]), (.getfield 5, 32, [7, 2]), (.iload 2, 33, []), (.iload 1, 34, []), (.iastore, 35, []), (.aload 0, 36, []), (.getfield 1, 37, [8, 2]), (.getfield 5, 38, [7, 2]), (.iload 1, 39, []), (.iload 2, 40, []), (.iastore, 41, []), (.aload 0, 42, []), (.getfield 0, 43, [8, 2]), (.invokestatic 307, 44, [1, 0, 1, 1, 7]), (.ireturn, 45, [3])]
def k_TR_readTest : mCode := [(.aload 0, 1, []), (.getfield 0, 2, [8, 2]), (.getfield 9, 3, [6, 0]), (.istore 3, 4, []), (.iload 3, 5, []), (.iconst (20), 6, []), (.if_icmp .eq 0, 7, [0, 18]), (.iload 3, 8, []), (.iconst (10), 9, []), (.if_icmp .eq 0, 10, [0, 18]), (.iload 3, 11, []), (.iconst (11), 12, []), (.if_icmp .eq 0, 13, [0, 18]), (.aload 0, 14, []), (.getfield 0, 15, [8, 2]), (.iconst (2), 16, []), (.invokestatic 305, 17, [2, 0, 1, 2, 7]), (.ireturn, 18, [3]), (.aload 0, 19, []), (.getfield 1, 20, [8, 2]), (.getfield 2, 21, [7, 2]), (.iload 1, 22, []), (.iload 3, 23, []), (.iastore, 24, []), (.aload 0, 25, []), (.getfield 0, 26, [8, 2]), (.invokestatic 310, 27, [1, 0, 0, 1, 7]), (.aload 0, 28, []), (.iload 1, 29, []), (.aload 2, 30, []), (.invokestatic 329, 31, [3, 0, 1, 4, 9]), (.ifCond .eq 0, 32, [1, 34]), (.iconst (0), 33, []), (.ireturn, 34, [3]), (.iload 3, 35, []), (.iconst (20), 36, []), (.if_icmp .eq 0, 37, [0, 52]), (.aload 0, 38, []), (.iload 1, 39, []), (.invokestatic 330, 40, [2, 0, 1, 2, 9]), (.ifCond .eq 0, 41, [0, 54]), (.aload 0, 42, []), (.iload 1, 43, []), (.iconst (0), 44, []), (.iload 3, 45, []), (.iconst (10), 46, []), (.if_icmp .eq 0, 47, [1, 49]), (.iconst (99), 48, []), (.goto 0, 49, [50]), (.iconst (9), 50, []), (.invokestatic 331, 51, [4, 0, 1, 4, 9]), (.ifCond .eq 0, 52, [0, 54]), (.iconst (1), 53, []), (.goto 0, 54, [55]), (.iconst (0), 55, []), (.ireturn, 56, [3])]
def k_TR_readWho : mCode := [(.aload 0, 1, []), (.getfield 0, 2, [8, 2]), (.aload 2, 3, []), (.invokestatic 309, 4, [2, 0, 1, 3, 7]), (.istore 3, 5, []), (.iload 3, 6, []), (.iconst (-1), 7, []), (.if_icmp .eq 0, 8, [1, 10]), (.iconst (0), 9, []), (.ireturn, 10, [3]), (.aload 0, 11, []), (.getfield 1, 12, [8, 2]), (.getfield 1, 13, [7, 2]), (.iload 1, 14, []), (.iload 3, 15, []), (.iastore, 16, []), (.aload 0, 17, []), (.getfield 0, 18, [8, 2]), (.invokestatic 310, 19, [1, 0, 0, 1, 7]), (.iconst (1), 20, []), (.ireturn, 21, [3])]
def k_TR_readCompares : mCode := [(.aload 0, 1, []), (.getfield 0, 2, [8, 2]), (.invokestatic 302, 3, [1, 0, 1, 1, 7]), (.ifCond .eq 0, 4, [1, 9]), (.aload 0, 5, []), (.getfield 0, 6, [8, 2]), (.iconst (2), 7, []), (.invokestatic 305, 8, [2, 0, 1, 2, 7]), (.ireturn, 9, [3]), (.aload 0, 10, []), (.getfield 1, 11, [8, 2]), (.getfield 3, 12, [7, 2]), (.iload 1, 13, []), (.aload 0, 14, []), (.getfield 0, 15, [8, 2]), (.invokestatic 303, 16, [1, 0, 1, 1, 7]), (.iastore, 17, []), (.aload 0, 18, []), (.getfield 0, 19, [8, 2]), (.invokestatic 310, 20, [1, 0, 0, 1, 7]), (.iconst (1), 21, []), (.ireturn, 22, [3])]
def k_TR_readAmount : mCode := [(.aload 0, 1, []), (.getfield 0, 2, [8, 2]), (.iload 2, 3, []), (.iload 3, 4, []), (.invokestatic 308, 5, [3, 0, 1, 3, 7]), (.ifCond .eq 0, 6, [1, 8]), (.iconst (0), 7, []), (.ireturn, 8, [3]), (.aload 0, 9, []), (.getfield 1, 10, [8, 2]), (.getfield 4, 11, [7, 2]), (.iload 1, 12, []), (.aload 0, 13, []), (.getfield 0, 14, [8, 2]), (.invokestatic 304, 15, [1, 0, 1, 1, 7]), (.iastore, 16, []), (.aload 0, 17, []), (.getfield 0, 18, [8, 2]), (.invokestatic 310, 19, [1, 0, 0, 1, 7]), (.iconst (1), 20, []), (.ireturn, 21, [3])]
def k_Tr_init : mCode := [(.aload 0, 1, []), (.invokespecial 0, 2, []), (.aload 0, 3, []), (.iconst (4), 4, []), (.iconst (60), 5, []), (.multianewarray 0 0, 6, []), (.putfield 0, 7, [9, 2]), (.aload 0, 8, []), (.iconst (4), 9, []), (.newarray .int, 10, [0]), (.putfield 1, 11, [9, 2]), (.aload 0, 12, []), (.iconst (4), 13, []), (.newarray .int, 14, [0]), (.dup, 15, []), (.iconst (0), 16, []), (.iconst (-1), 17, []), (.iastore, 18, []), (.dup, 19, []), (.iconst (1), 20, []), (.iconst (-1), 21, []), (.iastore, 22, []), (.dup, 23, []), (.iconst (2), 24, []), (.iconst (-1), 25, []), (.iastore, 26, []), (.dup, 27, []), (.iconst (3), 28, []), (.iconst (-1), 29, []), (.iastore, 30, []), (.putfield 2, 31, [9, 2]), (.return_, 32, [])]
def k_Tr_isTray : mCode := [(.iload 1, 1, []), (.ifCond .eq 0, 2, [2, 7]), (.iload 1, 3, []), (.iconst (4), 4, []), (.if_icmp .eq 0, 5, [3, 7]), (.iconst (1), 6, []), (.goto 0, 7, [8]), (.iconst (0), 8, []), (.ireturn, 9, [3])]
def k_Tr_isSort : mCode := [(.iload 1, 1, []), (.ifCond .eq 0, 2, [2, 7]), (.iload 1, 3, []), (.iconst (3), 4, []), (.if_icmp .eq 0, 5, [4, 7]), (.iconst (1), 6, []), (.goto 0, 7, [8]), (.iconst (0), 8, []), (.ireturn, 9, [3])]
def k_Tr_isMissing : mCode := [(.aload 0, 1, []), (.getfield 2, 2, [9, 2]), (.iload 1, 3, []), (.iaload, 4, []), (.iconst (-1), 5, []), (.if_icmp .eq 0, 6, [1, 8]), (.iconst (1), 7, []), (.goto 0, 8, [9]), (.iconst (0), 9, []), (.ireturn, 10, [3])]
def k_Tr_length : mCode := [(.aload 0, 1, []), (.getfield 2, 2, [9, 2]), (.iload 1, 3, []), (.iaload, 4, []), (.ireturn, 5, [0])]
def k_Tr_sort : mCode := [(.aload 0, 1, []), (.getfield 1, 2, [9, 2]), (.iload 1, 3, []), (.iaload, 4, []), (.ireturn, 5, [0])]
def k_Tr_has : mCode := [(.iload 2, 1, []), (.i2l, 2, []), (.iload 3, 3, []), (.i2l, 4, []), (.ladd, 5, []), (.aload 0, 6, []), (.getfield 2, 7, [9, 2]), (.iload 1, 8, []), (.iaload, 9, []), (.i2l, 10, []), (.lcmp, 12, [4, 14]), (.ifCond .eq 0, 12, [4, 14]), (.iconst (1), 13, []), (.goto 0, 14, [15]), (.iconst (0), 15, []), (.ireturn, 16, [3])]
def k_Tr_lay : mCode := [(.aload 0, 1, []), (.getfield 1, 2, [9, 2]), (.iload 1, 3, []), (.iload 2, 4, []), (.iastore, 5, []), (.aload 0, 6, []), (.getfield 2, 7, [9, 2]), (.iload 1, 8, []), (.iload 3, 9, []), (.iastore, 10, []), (.iconst (0), 11, []), (.istore 4, 12, []), (.iload 4, 13, []), (.iload 3, 14, []), (.if_icmp .eq 0, 15, [3, 24]), (.aload 0, 16, []), (.getfield 0, 17, [9, 2]), (.iload 1, 18, []), (.aaload, 19, [3]), (.iload 4, 20, []), (.sipush (0), 21, []), (.lastore, 22, []), (.iinc 4 (1), 23, []), (.goto 0, 24, [12]), (.return_, 25, [])]
def k_Tr_at : mCode := [(.aload 0, 1, []), (.getfield 0, 2, [9, 2]), (.iload 1, 3, []), (.aaload, 4, [3]), (.iload 2, 5, []), (.laload, 6, []), (.lreturn, 7, [])]
def k_Tr_put : mCode := [(.aload 0, 1, []), (.getfield 0, 2, [9, 2]), (.iload 1, 3, []), (.aaload, 4, [3]), (.iload 2, 5, []), (.aload 0, 6, []), (.getfield 1, 7, [9, 2]), (.iload 1, 8, []), (.iaload, 9, []), (.lload 3, 10, []), (.invokestatic 343, 11, [2, 0, 2, 3, 0]), (.lastore, 12, []), (.return_, 13, [])]
def k_Tr_copy : mCode := [(.aload 0, 1, []), (.getfield 0, 2, [9, 2]), (.iload 1, 3, []), (.aaload, 4, [3]), (.iload 2, 5, []), (.aload 0, 6, []), (.getfield 0, 7, [9, 2]), (.iload 3, 8, []), (.aaload, 9, [3]), (.iload 4, 10, []), (.iload 5, 11, []), (.swap, 12, [1]), (.return_, 13, [])]
def k_Tr_cutTo : mCode := [(.iload 0, 1, []), (.tableswitch 0 (0) 0 #[], 2, [16, 2, 7, 12]), (.lload 1, 3, []), (.l2i, 4, []), (.i2b, 5, []), (.i2l, 6, []), (.lreturn, 7, []), (.lload 1, 8, []), (.l2i, 9, []), (.i2s, 10, []), (.i2l, 11, []), (.lreturn, 12, []), (.lload 1, 13, []), (.l2i, 14, []), (.i2l, 15, []), (.lreturn, 16, []), (.lload 1, 17, []), (.lreturn, 18, [])]
def k_Wy_init : mCode := [(.aload 0, 1, []), (.invokespecial 0, 2, []), (.aload 0, 3, []), (.iconst (7), 4, []), (.newarray .int, 5, [0]), (.putfield 0, 6, [10, 2]), (.aload 0, 7, []), (.iconst (128), 8, []), (.newarray .int, 9, [0]), (.putfield 1, 10, [10, 2]), (.aload 0, 11, []), (.iconst (128), 12, []), (.newarray .int, 13, [0]), (.putfield 2, 14, [10, 2]), (.aload 0, 15, []), (.iconst (0), 16, []), (.putfield 3, 17, [10, 0]), (.aload 0, 18, []), (.iconst (0), 19, []), (.putfield 4, 20, [10, 0]), (.return_, 21, [])]
def k_Wy_begin : mCode := [(.aload 0, 1, []), (.iload 1, 2, []), (.iconst (7), 3, []), (.dsub, 4, []), (.putfield 3, 5, [10, 0]), (.aload 0, 6, []), (.iconst (1), 7, []), (.aload 0, 8, []), (.getfield 3, 9, [10, 0]), (.ishl, 10, []), (.iconst (1), 11, []), (.isub, 12, []), (.putfield 4, 13, [10, 0]), (.iconst (0), 14, []), (.istore 2, 15, []), (.iload 2, 16, []), (.aload 0, 17, []), (.getfield 3, 18, [10, 0]), (.if_icmp .eq 0, 19, [3, 33]), (.aload 0, 20, []), (.getfield 0, 21, [10, 2]), (.iload 2, 22, []), (.aload 0, 23, []), (.getfield 4, 24, [10, 0]), (.iconst (1), 25, []), (.iload 2, 26, []), (.ishl, 27, []), (.iconst (-1), 28, []), (.ixor, 29, []), (.iand, 30, []), (.iastore, 31, []), (.iinc 2 (1), 32, []), (.goto 0, 33, [15]), (.return_, 34, [])]
def k_Wy_seen : mCode := [(.iconst (0), 1, []), (.istore 3, 2, []), (.iload 3, 3, []), (.aload 0, 4, []), (.getfield 3, 5, [10, 0]), (.if_icmp .eq 0, 6, [3, 26]), (.aload 0, 7, []), (.getfield 0, 8, [10, 2]), (.iload 3, 9, []), (.dup2, 10, []), (.iaload, 11, []), (.iload 1, 12, []), (.iconst (1), 13, []), (.iload 3, 14, []), (.ishl, 15, []), (.iand, 16, []), (.ifCond .eq 0, 17, [0, 19]), (.iload 2, 18, []), (.goto 0, 19, [22]), (.iload 2, 20, []), (.iconst (-1), 21, []), (.ixor, 22, []), (.iand, 23, []), (.iastore, 24, []), (.iinc 3 (1), 25, []), (.goto 0, 26, [2]), (.return_, 27, [])]
def k_Wy_countAll : mCode := [(.iconst (0), 1, []), (.istore 1, 2, []), (.iload 1, 3, []), (.aload 0, 4, []), (.getfield 4, 5, [10, 0]), (.if_icmp .eq 0, 6, [4, 18]), (.aload 0, 7, []), (.getfield 1, 8, [10, 2]), (.iload 1, 9, []), (.iconst (0), 10, []), (.iastore, 11, []), (.aload 0, 12, []), (.getfield 2, 13, [10, 2]), (.iload 1, 14, []), (.iconst (0), 15, []), (.iastore, 16, []), (.iinc 1 (1), 17, []), (.goto 0, 18, [2]), (.aload 0, 19, []), (.getfield 1, 20, [10, 2]), (.iconst (0), 21, []), (.iconst (1), 22, []), (.iastore, 23, []), (.aload 0, 24, []), (.getfield 2, 25, [10, 2]), (.aload 0, 26, []), (.getfield 4, 27, [10, 0]), (.iconst (1), 28, []), (.iastore, 29, []), (.iconst (0), 30, []), (.istore 1, 31, []), (.iload 1, 32, []), (.aload 0, 33, []), (.getfield 4, 34, [10, 0]), (.if_icmp .eq 0, 35, [3, 40]), (.aload 0, 36, []), (.iload 1, 37, []), (.invokestatic 348, 38, [2, 0, 0, 4, 11]), (.iinc 1 (1), 39, []), (.goto 0, 40, [31]), (.aload 0, 41, []), (.getfield 4, 42, [10, 0]), (.iconst (1), 43, []), (.isub, 44, []), (.istore 1, 45, []), (.iload 1, 46, []), (.ifCond .eq 0, 47, [2, 52]), (.aload 0, 48, []), (.iload 1, 49, []), (.invokestatic 349, 50, [2, 0, 0, 4, 11]), (.iinc 1 (-1), 51, []), (.goto 0, 52, [45]), (.return_, 53, [])]
def k_Wy_spread : mCode := [(.iload 1, 1, []), (.invokestatic 0, 2, [1, 0, 1, 1, 0]), (.istore 2, 3, []), (.iconst (0), 4, []), (.istore 3, 5, []), (.iload 3, 6, []), (.aload 0, 7, []), (.getfield 3, 8, [10, 0]), (.if_icmp .eq 0, 9, [3, 32]), (.aload 0, 10, []), (.iload 1, 11, []), (.iload 2, 12, []), (.iload 3, 13, []), (.invokestatic 350, 14, [4, 0, 1, 4, 11]), (.ifCond .eq 0, 15, [0, 30]), (.aload 0, 16, []), (.getfield 1, 17, [10, 2]), (.iload 1, 18, []), (.iconst (1), 19, []), (.iload 3, 20, []), (.ishl, 21, []), (.ior, 22, []), (.dup2, 23, []), (.iaload, 24, []), (.aload 0, 25, []), (.getfield 1, 26, [10, 2]), (.iload 1, 27, []), (.iaload, 28, []), (.iadd, 29, []), (.iastore, 30, []), (.iinc 3 (1), 31, []), (.goto 0, 32, [5]), (.return_, 33, [])]
def k_Wy_gather : mCode := [(.iload 1, 1, []), (.invokestatic 0, 2, [1, 0, 1, 1, 0]), (.istore 2, 3, []), (.iconst (0), 4, []), (.istore 3, 5, []), (.iload 3, 6, []), (.aload 0, 7, []), (.getfield 3, 8, [10, 0]), (.if_icmp .eq 0, 9, [3, 32]), (.aload 0, 10, []), (.iload 1, 11, []), (.iload 2, 12, []), (.iload 3, 13, []), (.invokestatic 350, 14, [4, 0, 1, 4, 11]), (.ifCond .eq 0, 15, [0, 30]), (.aload 0, 16, []), (.getfield 2, 17, [10, 2]), (.iload 1, 18, []), (.dup2, 19, []), (.iaload, 20, []), (.aload 0, 21, []), (.getfield 2, 22, [10, 2]), (.iload 1, 23, []), (.iconst (1), 24, []), (.iload 3, 25, []), (.ishl, 26, []), (.ior, 27, []), (.iaload, 28, []), (.iadd, 29, []), (.iastore, 30, []), (.iinc 3 (1), 31, []), (.goto 0, 32, [5]), (.return_, 33, [])]
def k_Wy_isOpen : mCode := [(.aload 0, 1, []), (.getfield 0, 2, [10, 2]), (.iload 2, 3, []), (.iaload, 4, []), (.iload 1, 5, []), (.iconst (-1), 6, []), (.ixor, 7, []), (.iand, 8, []), (.iconst (1), 9, []), (.iload 3, 10, []), (.ishl, 11, []), (.iand, 12, []), (.ifCond .eq 0, 13, [0, 15]), (.iconst (1), 14, []), (.goto 0, 15, [16]), (.iconst (0), 16, []), (.ireturn, 17, [3])]
def k_Wy_all : mCode := [(.aload 0, 1, []), (.getfield 2, 2, [10, 2]), (.iconst (0), 3, []), (.iaload, 4, []), (.ireturn, 5, [0])]
def k_Wy_through : mCode := [(.iconst (0), 1, []), (.istore 3, 2, []), (.iconst (0), 3, []), (.istore 4, 4, []), (.iload 4, 5, []), (.aload 0, 6, []), (.getfield 4, 7, [10, 0]), (.if_icmp .eq 0, 8, [3, 36]), (.iload 4, 9, []), (.invokestatic 0, 10, [1, 0, 1, 1, 0]), (.iload 1, 11, []), (.if_icmp .eq 0, 12, [1, 34]), (.aload 0, 13, []), (.iload 4, 14, []), (.iload 1, 15, []), (.iload 2, 16, []), (.invokestatic 350, 17, [4, 0, 1, 4, 11]), (.ifCond .eq 0, 18, [0, 34]), (.iload 3, 19, []), (.aload 0, 20, []), (.getfield 1, 21, [10, 2]), (.iload 4, 22, []), (.iaload, 23, []), (.aload 0, 24, []), (.getfield 2, 25, [10, 2]), (.iload 4, 26, []), (.iconst (1), 27, []), (.iload 2, 28, []), (.ishl, 29, []), (.ior, 30, []), (.iaload, 31, []), (.imul, 32, []), (.iadd, 33, []), (.istore 3, 34, []), (.iinc 4 (1), 35, []), (.goto 0, 36, [4]), (.iload 3, 37, []), (.ireturn, 38, [0])]
def k_Wy_firstWhom : mCode := [(.iconst (0), 1, []), (.istore 2, 2, []), (.iconst (-1), 3, []), (.istore 3, 4, []), (.iconst (0), 5, []), (.istore 4, 6, []), (.iload 4, 7, []), (.iload 1, 8, []), (.if_icmp .eq 0, 9, [4, 27]), (.aload 0, 10, []), (.iload 2, 11, []), (.iload 4, 12, []), (.invokestatic 354, 13, [3, 0, 1, 4, 11]), (.istore 3, 14, []), (.iload 3, 15, []), (.iconst (-1), 16, []), (.if_icmp .eq 0, 17, [1, 19]), (.iconst (-1), 18, []), (.ireturn, 19, [0]), (.iload 2, 20, []), (.iconst (1), 21, []), (.iload 3, 22, []), (.ishl, 23, []), (.ior, 24, []), (.istore 2, 25, []), (.iinc 4 (1), 26, []), (.goto 0, 27, [6]), (.iload 3, 28, []), (.ireturn, 29, [0])]
def k_Wy_firstOpen : mCode := [(.iconst (0), 1, []), (.istore 3, 2, []), (.iload 3, 3, []), (.aload 0, 4, []), (.getfield 3, 5, [10, 0]), (.if_icmp .eq 0, 6, [3, 25]), (.aload 0, 7, []), (.iload 1, 8, []), (.iload 2, 9, []), (.iload 3, 10, []), (.invokestatic 350, 11, [4, 0, 1, 4, 11]), (.ifCond .eq 0, 12, [0, 23]), (.aload 0, 13, []), (.getfield 2, 14, [10, 2]), (.iload 1, 15, []), (.iconst (1), 16, []), (.iload 3, 17, []), (.ishl, 18, []), (.ior, 19, []), (.iaload, 20, []), (.ifCond .eq 0, 21, [5, 23]), (.iload 3, 22, []), (.ireturn, 23, [0]), (.iinc 3 (1), 24, []), (.goto 0, 25, [2]), (.iconst (-1), 26, []), (.ireturn, 27, [0])]
def k_Wy_bestAsked : mCode := [(.iconst (0), 1, []), (.istore 1, 2, []), (.aload 0, 3, []), (.iconst (0), 4, []), (.invokestatic 356, 5, [2, 0, 1, 4, 11]), (.istore 2, 6, []), (.iconst (1), 7, []), (.istore 3, 8, []), (.iload 3, 9, []), (.aload 0, 10, []), (.getfield 3, 11, [10, 0]), (.if_icmp .eq 0, 12, [3, 25]), (.aload 0, 13, []), (.iload 3, 14, []), (.invokestatic 356, 15, [2, 0, 1, 4, 11]), (.istore 4, 16, []), (.iload 4, 17, []), (.iload 2, 18, []), (.if_icmp .eq 0, 19, [3, 23]), (.iload 4, 20, []), (.istore 2, 21, []), (.iload 3, 22, []), (.istore 1, 23, []), (.iinc 3 (1), 24, []), (.goto 0, 25, [8]), (.iload 1, 26, []), (.ireturn, 27, [0])]
def k_Wy_mostThrough : mCode := [(.iconst (0), 1, []), (.istore 2, 2, []), (.iconst (0), 3, []), (.istore 3, 4, []), (.iload 3, 5, []), (.aload 0, 6, []), (.getfield 3, 7, [10, 0]), (.if_icmp .eq 0, 8, [3, 17]), (.iload 2, 9, []), (.aload 0, 10, []), (.iload 1, 11, []), (.iload 3, 12, []), (.invokestatic 352, 13, [3, 0, 1, 5, 11]), (.dadd, 14, []), (.istore 2, 15, []), (.iinc 3 (1), 16, []), (.goto 0, 17, [4]), (.iload 2, 18, []), (.ireturn, 19, [0])]
def k_L_law : mCode := [(.new 11, 1, [19]), (.dup, 2, []), (.invokestatic 1, 3, [1, 0, 0, 1, 12]), (.astore 1, 4, []), (.new 12, 5, [46]), (.dup, 6, []), (.invokestatic 76, 7, [1, 0, 0, 1, 13]), (.astore 2, 8, []), (.iconst (0), 9, []), (.istore 3, 10, []), (.iload 3, 11, []), (.aload 0, 12, []), (.arraylength, 13, [0]), (.iconst (6), 14, []), (.isub, 15, []), (.if_icmp .eq 0, 16, [4, 1229]), (.aload 0, 17, []), (.iload 3, 18, []), (.iaload, 19, []), (.iconst (63), 20, []), (.iand, 21, []), (.tableswitch 0 (0) 0 #[], 22, [1227, 22, 29, 37, 45, 82, 143, 171, 228, 285, 302, 319, 336, 353, 380, 407, 424, 441, 448, 475, 502, 529, 556, 573, 600, 627, 644, 671, 688, 695, 702, 719, 746, 753, 760, 777, 794, 811, 828, 855, 892, 939, 966, 993, 1030, 1067, 1084, 1101, 1118, 1135, 1152, 1169, 1186, 1213, 1220]), (.aload 1, 23, []), (.invokestatic 2, 24, [1, 0, 1, 1, 12]), (.aload 2, 25, []), (.invokestatic 78, 26, [1, 0, 1, 1, 13]), (.if_icmp .eq 0, 27, [0, 1227]), (.iconst (0), 28, []), (.ireturn, 29, [3]), (.aload 1, 30, []), (.invokestatic 3, 31, [1, 0, 2, 1, 12]), (.aload 2, 32, []), (.invokestatic 79, 33, [1, 0, 2, 1, 13]), (.lcmp, 35, [0, 1227]), (.ifCond .eq 0, 35, [0, 1227]), (.iconst (0), 36, []), (.ireturn, 37, [3]), (.aload 1, 38, []), (.invokestatic 4, 39, [1, 0, 2, 1, 12]), (.aload 2, 40, []), (.invokestatic 80, 41, [1, 0, 2, 1, 13]), (.lcmp, 43, [0, 1227]), (.ifCond .eq 0, 43, [0, 1227]), (.iconst (0), 44, []), (.ireturn, 45, [3]), (.aload 1, 46, []), (.aload 0, 47, []), (.iload 3, 48, []), (.iconst (1), 49, []), (.iadd, 50, []), (.iaload, 51, []), (.aload 0, 52, []), (.iload 3, 53, []), (.iconst (2), 54, []), (.iadd, 55, []), (.iaload, 56, []), (.aload 0, 57, []), (.iload 3, 58, []), (.iconst (3), 59, []), (.iadd, 60, []), (.iaload, 61, []), (.invokestatic 5, 62, [4, 0, 1, 4, 12]), (.aload 2, 63, []), (.aload 0, 64, []), (.iload 3, 65, []), (.iconst (1), 66, []), (.iadd, 67, []), (.iaload, 68, []), (.aload 0, 69, []), (.iload 3, 70, []), (.iconst (2), 71, []), (.iadd, 72, []), (.iaload, 73, []), (.aload 0, 74, []), (.iload 3, 75, []), (.iconst (3), 76, []), (.iadd, 77, []), (.iaload, 78, []), (.invokestatic 87, 79, [4, 0, 1, 5, 13]), (.if_icmp .eq 0, 80, [0, 1227]), (.iconst (0), 81, []), (.ireturn, 82, [3]), (.aload 1, 83, []), (.aload 0, 84, []), (.iload 3, 85, []), (.iconst (1), 86, []), (.iadd, 87, []), (.iaload, 88, []), (.aload 0, 89, []), (.iload 3, 90, []), (.iconst (2), 91, []), (.iadd, 92, []), (.iaload, 93, []), (.aload 0, 94, []), (.iload 3, 95, []), (.iconst (3), 96, []), (.iadd, 97, []), (.iaload, 98, []), (.i2l, 99, []), (.iconst (32), 100, []), (.lshl, 101, []), (.aload 0, 102, []), (.iload 3, 103, []), (.iconst (4), 104, []), (.iadd, 105, []), (.iaload, 106, []), (.i2l, 107, []), (.sipush (4294967295), 108, []), (.land, 109, []), (.lor, 110, []), (.invokestatic 6, 111, [4, 0, 1, 6, 12]), (.aload 2, 112, []), (.aload 0, 113, []), (.iload 3, 114, []), (.iconst (1), 115, []), (.iadd, 116, []), (.iaload, 117, []), (.aload 0, 118, []), (.iload 3, 119, []), (.iconst (2), 120, []), (.iadd, 121, []), (.iaload, 122, []), (.aload 0, 123, []), (.iload 3, 124, []), (.iconst (3), 125, []), (.iadd, 126, []), (.iaload, 127, []), (.i2l, 128, []), (.iconst (32), 129, []), (.lshl, 130, []), (.aload 0, 131, []), (.iload 3, 132, []), (.iconst (4), 133, []), (.iadd, 134, []), (.iaload, 135, []), (.i2l, 136, []), (.sipush (4294967295), 137, []), (.land, 138, []), (.lor, 139, []), (.invokestatic 89, 140, [4, 0, 1, 6, 13]), (.if_icmp .eq 0, 141, [0, 1227]), (.iconst (0), 142, []), (.ireturn, 143, [3]), (.aload 1, 144, []), (.aload 0, 145, []), (.iload 3, 146, []), (.iconst (1), 147, []), (.iadd, 148, []), (.iaload, 149, []), (.aload 0, 150, []), (.iload 3, 151, []), (.iconst (2), 152, []), (.iadd, 153, []), (.iaload, 154, []), (.invokestatic 7, 155, [3, 0, 2, 4, 12]), (.aload 2, 156, []), (.aload 0, 157, []), (.iload 3, 158, []), (.iconst (1), 159, []), (.iadd, 160, []), (.iaload, 161, []), (.aload 0, 162, []), (.iload 3, 163, []), (.iconst (2), 164, []), (.iadd, 165, []), (.iaload, 166, []), (.invokestatic 90, 167, [3, 0, 2, 3, 13]), (.lcmp, 169, [0, 1227]), (.ifCond .eq 0, 169, [0, 1227]), (.iconst (0), 170, []), (.ireturn, 171, [3]), (.aload 1, 172, []), (.aload 0, 173, []), (.iload 3, 174, []), (.iconst (1), 175, []), (.iadd, 176, []), (.iaload, 177, []), (.aload 0, 178, []), (.iload 3, 179, []), (.iconst (2), 180, []), (.iadd, 181, []), (.iaload, 182, []), (.aload 0, 183, []), (.iload 3, 184, []), (.iconst (3), 185, []), (.iadd, 186, []), (.iaload, 187, []), (.aload 0, 188, []), (.iload 3, 189, []), (.iconst (4), 190, []), (.iadd, 191, []), (.iaload, 192, []), (.aload 0, 193, []), (.iload 3, 194, []), (.iconst (5), 195, []), (.iadd, 196, []), (.iaload, 197, []), (.invokestatic 8, 198, [6, 0, 1, 7, 12]), (.aload 2, 199, []), (.aload 0, 200, []), (.iload 3, 201, []), (.iconst (1), 202, []), (.iadd, 203, []), (.iaload, 204, []), (.aload 0, 205, []), (.iload 3, 206, []), (.iconst (2), 207, []), (.iadd, 208, []), (.iaload, 209, []), (.aload 0, 210, []), (.iload 3, 211, []), (.iconst (3), 212, []), (.iadd, 213, []), (.iaload, 214, []), (.aload 0, 215, []), (.iload 3, 216, []), (.iconst (4), 217, []), (.iadd, 218, []), (.iaload, 219, []), (.aload 0, 220, []), (.iload 3, 221, []), (.iconst (5), 222, []), (.iadd, 223, []), (.iaload, 224, []), (.invokestatic 91, 225, [6, 0, 1, 8, 13]), (.if_icmp .eq 0, 226, [0, 1227]), (.iconst (0), 227, []), (.ireturn, 228, [3]), (.aload 1, 229, []), (.aload 0, 230, []), (.iload 3, 231, []), (.iconst (1), 232, []), (.iadd, 233, []), (.iaload, 234, []), (.aload 0, 235, []), (.iload 3, 236, []), (.iconst (2), 237, []), (.iadd, 238, []), (.iaload, 239, []), (.aload 0, 240, []), (.iload 3, 241, []), (.iconst (3), 242, []), (.iadd, 243, []), (.iaload, 244, []), (.aload 0, 245, []), (.iload 3, 246, []), (.iconst (4), 247, []), (.iadd, 248, []), (.iaload, 249, []), (.aload 0, 250, []), (.iload 3, 251, []), (.iconst (5), 252, []), (.iadd, 253, []), (.iaload, 254, []), (.invokestatic 11, 255, [6, 0, 1, 6, 12]), (.aload 2, 256, []), (.aload 0, 257, []), (.iload 3, 258, []), (.iconst (1), 259, []), (.iadd, 260, []), (.iaload, 261, []), (.aload 0, 262, []), (.iload 3, 263, []), (.iconst (2), 264, []), (.iadd, 265, []), (.iaload, 266, []), (.aload 0, 267, []), (.iload 3, 268, []), (.iconst (3), 269, []), (.iadd, 270, []), (.iaload, 271, []), (.aload 0, 272, []), (.iload 3, 273, []), (.iconst (4), 274, []), (.iadd, 275, []), (.iaload, 276, []), (.aload 0, 277, []), (.iload 3, 278, []), (.iconst (5), 279, []), (.iadd, 280, []), (.iaload, 281, []), (.invokestatic 93, 282, [6, 0, 1, 6, 13]), (.if_icmp .eq 0, 283, [0, 1227]), (.iconst (0), 284, []), (.ireturn, 285, [3]), (.aload 1, 286, []), (.aload 0, 287, []), (.iload 3, 288, []), (.iconst (1), 289, []), (.iadd, 290, []), (.iaload, 291, []), (.invokestatic 12, 292, [2, 0, 1, 3, 12]), (.aload 2, 293, []), (.aload 0, 294, []), (.iload 3, 295, []), (.iconst (1), 296, []), (.iadd, 297, []), (.iaload, 298, []), (.invokestatic 120, 299, [2, 0, 1, 4, 13]), (.if_icmp .eq 0, 300, [0, 1227]), (.iconst (0), 301, []), (.ireturn, 302, [3]), (.aload 1, 303, []), (.aload 0, 304, []), (.iload 3, 305, []), (.iconst (1), 306, []), (.iadd, 307, []), (.iaload, 308, []), (.invokestatic 13, 309, [2, 0, 1, 3, 12]), (.aload 2, 310, []), (.aload 0, 311, []), (.iload 3, 312, []), (.iconst (1), 313, []), (.iadd, 314, []), (.iaload, 315, []), (.invokestatic 125, 316, [2, 0, 1, 4, 13]), (.if_icmp .eq 0, 317, [0, 1227]), (.iconst (0), 318, []), (.ireturn, 319, [3]), (.aload 1, 320, []), (.aload 0, 321, []), (.iload 3, 322, []), (.iconst (1), 323, []), (.iadd, 324, []), (.iaload, 325, []), (.invokestatic 14, 326, [2, 0, 1, 2, 12]), (.aload 2, 327, []), (.aload 0, 328, []), (.iload 3, 329, []), (.iconst (1), 330, []), (.iadd, 331, []), (.iaload, 332, []), (.invokestatic 109, 333, [2, 0, 1, 2, 13]), (.if_icmp .eq 0, 334, [0, 1227]), (.iconst (0), 335, []), (.ireturn, 336, [3]), (.aload 1, 337, []), (.aload 0, 338, []), (.iload 3, 339, []), (.iconst (1), 340, []), (.iadd, 341, []), (.iaload, 342, []), (.invokestatic 15, 343, [2, 0, 1, 2, 12]), (.aload 2, 344, []), (.aload 0, 345, []), (.iload 3, 346, []), (.iconst (1), 347, []), (.iadd, 348, []), (.iaload, 349, []), (.invokestatic 139, 350, [2, 0, 1, 2, 13]), (.if_icmp .eq 0, 351, [0, 1227]), (.iconst (0), 352, []), (.ireturn, 353, [3]), (.aload 1, 354, []), (.aload 0, 355, []), (.iload 3, 356, []), (.iconst (1), 357, []), (.iadd, 358, []), (.iaload, 359, []), (.aload 0, 360, []), (.iload 3, 361, []), (.iconst (2), 362, []), (.iadd, 363, []), (.iaload, 364, []), (.invokestatic 16, 365, [3, 0, 1, 4, 12]), (.aload 2, 366, []), (.aload 0, 367, []), (.iload 3, 368, []), (.iconst (1), 369, []), (.iadd, 370, []), (.iaload, 371, []), (.aload 0, 372, []), (.iload 3, 373, []), (.iconst (2), 374, []), (.iadd, 375, []), (.iaload, 376, []), (.invokestatic 140, 377, [3, 0, 1, 3, 13]), (.if_icmp .eq 0, 378, [0, 1227]), (.iconst (0), 379, []), (.ireturn, 380, [3]), (.aload 1, 381, []), (.aload 0, 382, []), (.iload 3, 383, []), (.iconst (1), 384, []), (.iadd, 385, []), (.iaload, 386, []), (.aload 0, 387, []), (.iload 3, 388, []), (.iconst (2), 389, []), (.iadd, 390, []), (.iaload, 391, []), (.invokestatic 17, 392, [3, 0, 1, 3, 12]), (.aload 2, 393, []), (.aload 0, 394, []), (.iload 3, 395, []), (.iconst (1), 396, []), (.iadd, 397, []), (.iaload, 398, []), (.aload 0, 399, []), (.iload 3, 400, []), (.iconst (2), 401, []), (.iadd, 402, []), (.iaload, 403, []), (.invokestatic 141, 404, [3, 0, 1, 3, 13]), (.if_icmp .eq 0, 405, [0, 1227]), (.iconst (0), 406, []), (.ireturn, 407, [3]), (.aload 1, 408, []), (.aload 0, 409, []), (.iload 3, 410, []), (.iconst (1), 411, []), (.iadd, 412, []), (.iaload, 413, []), (.invokestatic 18, 414, [2, 0, 1, 2, 12]), (.aload 2, 415, []), (.aload 0, 416, []), (.iload 3, 417, []), (.iconst (1), 418, []), (.iadd, 419, []), (.iaload, 420, []), (.invokestatic 144, 421, [2, 0, 1, 2, 13]), (.if_icmp .eq 0, 422, [0, 1227]), (.iconst (0), 423, []), (.ireturn, 424, [3]), (.aload 1, 425, []), (.aload 0, 426, []), (.iload 3, 427, []), (.iconst (1), 428, []), (.iadd, 429, []), (.iaload, 430, []), (.invokestatic 19, 431, [2, 0, 1, 2, 12]), (.aload 2, 432, []), (.aload 0, 433, []), (.iload 3, 434, []), (.iconst (1), 435, []), (.iadd, 436, []), (.iaload, 437, []), (.invokestatic 148, 438, [2, 0, 1, 2, 13]), (.if_icmp .eq 0, 439, [0, 1227]), (.iconst (0), 440, []), (.ireturn, 441, [3]), (.aload 1, 442, []), (.invokestatic 20, 443, [1, 0, 1, 1, 12]), (.aload 2, 444, []), (.invokestatic 150, 445, [1, 0, 1, 1, 13]), (.if_icmp .eq 0, 446, [0, 1227]), (.iconst (0), 447, []), (.ireturn, 448, [3]), (.aload 1, 449, []), (.aload 0, 450, []), (.iload 3, 451, []), (.iconst (1), 452, []), (.iadd, 453, []), (.iaload, 454, []), (.aload 0, 455, []), (.iload 3, 456, []), (.iconst (2), 457, []), (.iadd, 458, []), (.iaload, 459, []), (.invokestatic 21, 460, [3, 0, 1, 4, 12]), (.aload 2, 461, []), (.aload 0, 462, []), (.iload 3, 463, []), (.iconst (1), 464, []), (.iadd, 465, []), (.iaload, 466, []), (.aload 0, 467, []), (.iload 3, 468, []), (.iconst (2), 469, []), (.iadd, 470, []), (.iaload, 471, []), (.invokestatic 152, 472, [3, 0, 1, 4, 13]), (.if_icmp .eq 0, 473, [0, 1227]), (.iconst (0), 474, []), (.ireturn, 475, [3]), (.aload 1, 476, []), (.aload 0, 477, []), (.iload 3, 478, []), (.iconst (1), 479, []), (.iadd, 480, []), (.iaload, 481, []), (.aload 0, 482, []), (.iload 3, 483, []), (.iconst (2), 484, []), (.iadd, 485, []), (.iaload, 486, []), (.invokestatic 22, 487, [3, 0, 1, 4, 12]), (.aload 2, 488, []), (.aload 0, 489, []), (.iload 3, 490, []), (.iconst (1), 491, []), (.iadd, 492, []), (.iaload, 493, []), (.aload 0, 494, []), (.iload 3, 495, []), (.iconst (2), 496, []), (.iadd, 497, []), (.iaload, 498, []), (.invokestatic 153, 499, [3, 0, 1, 4, 13]), (.if_icmp .eq 0, 500, [0, 1227]), (.iconst (0), 501, []), (.ireturn, 502, [3]), (.aload 1, 503, []), (.aload 0, 504, []), (.iload 3, 505, []), (.iconst (1), 506, []), (.iadd, 507, []), (.iaload, 508, []), (.aload 0, 509, []), (.iload 3, 510, []), (.iconst (2), 511, []), (.iadd, 512, []), (.iaload, 513, []), (.invokestatic 23, 514, [3, 0, 1, 4, 12]), (.aload 2, 515, []), (.aload 0, 516, []), (.iload 3, 517, []), (.iconst (1), 518, []), (.iadd, 519, []), (.iaload, 520, []), (.aload 0, 521, []), (.iload 3, 522, []), (.iconst (2), 523, []), (.iadd, 524, []), (.iaload, 525, []), (.invokestatic 154, 526, [3, 0, 1, 4, 13]), (.if_icmp .eq 0, 527, [0, 1227]), (.iconst (0), 528, []), (.ireturn, 529, [3]), (.aload 1, 530, []), (.aload 0, 531, []), (.iload 3, 532, []), (.iconst (1), 533, []), (.iadd, 534, []), (.iaload, 535, []), (.aload 0, 536, []), (.iload 3, 537, []), (.iconst (2), 538, []), (.iadd, 539, []), (.iaload, 540, []), (.invokestatic 24, 541, [3, 0, 1, 4, 12]), (.aload 2, 542, []), (.aload 0, 543, []), (.iload 3, 544, []), (.iconst (1), 545, []), (.iadd, 546, []), (.iaload, 547, []), (.aload 0, 548, []), (.iload 3, 549, []), (.iconst (2), 550, []), (.iadd, 551, []), (.iaload, 552, []), (.invokestatic 155, 553, [3, 0, 1, 4, 13]), (.if_icmp .eq 0, 554, [0, 1227]), (.iconst (0), 555, []), (.ireturn, 556, [3]), (.aload 1, 557, []), (.aload 0, 558, []), (.iload 3, 559, []), (.iconst (1), 560, []), (.iadd, 561, []), (.iaload, 562, []), (.invokestatic 25, 563, [2, 0, 1, 2, 12]), (.aload 2, 564, []), (.aload 0, 565, []), (.iload 3, 566, []), (.iconst (1), 567, []), (.iadd, 568, []), (.iaload, 569, []), (.invokestatic 156, 570, [2, 0, 1, 4, 13]), (.if_icmp .eq 0, 571, [0, 1227]), (.iconst (0), 572, []), (.ireturn, 573, [3]), (.aload 1, 574, []), (.aload 0, 575, []), (.iload 3, 576, []), (.iconst (1), 577, []), (.iadd, 578, []), (.iaload, 579, []), (.aload 0, 580, []), (.iload 3, 581, []), (.iconst (2), 582, []), (.iadd, 583, []), (.iaload, 584, []), (.invokestatic 26, 585, [3, 0, 1, 3, 12]), (.aload 2, 586, []), (.aload 0, 587, []), (.iload 3, 588, []), (.iconst (1), 589, []), (.iadd, 590, []), (.iaload, 591, []), (.aload 0, 592, []), (.iload 3, 593, []), (.iconst (2), 594, []), (.iadd, 595, []), (.iaload, 596, []), (.invokestatic 157, 597, [3, 0, 1, 3, 13]), (.if_icmp .eq 0, 598, [0, 1227]), (.iconst (0), 599, []), (.ireturn, 600, [3]), (.aload 1, 601, []), (.aload 0, 602, []), (.iload 3, 603, []), (.iconst (1), 604, []), (.iadd, 605, []), (.iaload, 606, []), (.aload 0, 607, []), (.iload 3, 608, []), (.iconst (2), 609, []), (.iadd, 610, []), (.iaload, 611, []), (.invokestatic 27, 612, [3, 0, 1, 3, 12]), (.aload 2, 613, []), (.aload 0, 614, []), (.iload 3, 615, []), (.iconst (1), 616, []), (.iadd, 617, []), (.iaload, 618, []), (.aload 0, 619, []), (.iload 3, 620, []), (.iconst (2), 621, []), (.iadd, 622, []), (.iaload, 623, []), (.invokestatic 162, 624, [3, 0, 1, 3, 13]), (.if_icmp .eq 0, 625, [0, 1227]), (.iconst (0), 626, []), (.ireturn, 627, [3]), (.aload 1, 628, []), (.aload 0, 629, []), (.iload 3, 630, []), (.iconst (1), 631, []), (.iadd, 632, []), (.iaload, 633, []), (.invokestatic 28, 634, [2, 0, 1, 3, 12]), (.aload 2, 635, []), (.aload 0, 636, []), (.iload 3, 637, []), (.iconst (1), 638, []), (.iadd, 639, []), (.iaload, 640, []), (.invokestatic 163, 641, [2, 0, 1, 3, 13]), (.if_icmp .eq 0, 642, [0, 1227]), (.iconst (0), 643, []), (.ireturn, 644, [3]), (.aload 1, 645, []), (.aload 0, 646, []), (.iload 3, 647, []), (.iconst (1), 648, []), (.iadd, 649, []), (.iaload, 650, []), (.aload 0, 651, []), (.iload 3, 652, []), (.iconst (2), 653, []), (.iadd, 654, []), (.iaload, 655, []), (.invokestatic 29, 656, [3, 0, 1, 3, 12]), (.aload 2, 657, []), (.aload 0, 658, []), (.iload 3, 659, []), (.iconst (1), 660, []), (.iadd, 661, []), (.iaload, 662, []), (.aload 0, 663, []), (.iload 3, 664, []), (.iconst (2), 665, []), (.iadd, 666, []), (.iaload, 667, []), (.invokestatic 165, 668, [3, 0, 1, 4, 13]), (.if_icmp .eq 0, 669, [0, 1227]), (.iconst (0), 670, []), (.ireturn, 671, [3]), (.aload 1, 672, []), (.aload 0, 673, []), (.iload 3, 674, []), (.iconst (1), 675, []), (.iadd, 676, []), (.iaload, 677, []), (.invokestatic 30, 678, [2, 0, 1, 2, 12]), (.aload 2, 679, []), (.aload 0, 680, []), (.iload 3, 681, []), (.iconst (1), 682, []), (.iadd, 683, []), (.iaload, 684, []), (.invokestatic 166, 685, [2, 0, 1, 3, 13]), (.if_icmp .eq 0, 686, [0, 1227]), (.iconst (0), 687, []), (.ireturn, 688, [3]), (.aload 1, 689, []), (.invokestatic 31, 690, [1, 0, 1, 2, 12]), (.aload 2, 691, []), (.invokestatic 169, 692, [1, 0, 1, 1, 13]), (.if_icmp .eq 0, 693, [0, 1227]), (.iconst (0), 694, []), (.ireturn, 695, [3]), (.aload 1, 696, []), (.invokestatic 32, 697, [1, 0, 1, 2, 12]), (.aload 2, 698, []), (.invokestatic 170, 699, [1, 0, 1, 1, 13]), (.if_icmp .eq 0, 700, [0, 1227]), (.iconst (0), 701, []), (.ireturn, 702, [3]), (.aload 1, 703, []), (.aload 0, 704, []), (.iload 3, 705, []), (.iconst (1), 706, []), (.iadd, 707, []), (.iaload, 708, []), (.invokestatic 36, 709, [2, 0, 1, 2, 12]), (.aload 2, 710, []), (.aload 0, 711, []), (.iload 3, 712, []), (.iconst (1), 713, []), (.iadd, 714, []), (.iaload, 715, []), (.invokestatic 172, 716, [2, 0, 1, 2, 13]), (.if_icmp .eq 0, 717, [0, 1227]), (.iconst (0), 718, []), (.ireturn, 719, [3]), (.aload 1, 720, []), (.aload 0, 721, []), (.iload 3, 722, []), (.iconst (1), 723, []), (.iadd, 724, []), (.iaload, 725, []), (.aload 0, 726, []), (.iload 3, 727, []), (.iconst (2), 728, []), (.iadd, 729, []), (.iaload, 730, []), (.invokestatic 37, 731, [3, 0, 1, 3, 12]), (.aload 2, 732, []), (.aload 0, 733, []), (.iload 3, 734, []), (.iconst (1), 735, []), (.iadd, 736, []), (.iaload, 737, []), (.aload 0, 738, []), (.iload 3, 739, []), (.iconst (2), 740, []), (.iadd, 741, []), (.iaload, 742, []), (.invokestatic 173, 743, [3, 0, 1, 3, 13]), (.if_icmp .eq 0, 744, [0, 1227]), (.iconst (0), 745, []), (.ireturn, 746, [3]), (.aload 1, 747, []), (.invokestatic 38, 748, [1, 0, 1, 3, 12]), (.aload 2, 749, []), (.invokestatic 175, 750, [1, 0, 1, 5, 13]), (.if_icmp .eq 0, 751, [0, 1227]), (.iconst (0), 752, []), (.ireturn, 753, [3]), (.aload 1, 754, []), (.invokestatic 39, 755, [1, 0, 1, 3, 12]), (.aload 2, 756, []), (.invokestatic 176, 757, [1, 0, 1, 3, 13]), (.if_icmp .eq 0, 758, [0, 1227]), (.iconst (0), 759, []), (.ireturn, 760, [3]), (.aload 1, 761, []), (.aload 0, 762, []), (.iload 3, 763, []), (.iconst (1), 764, []), (.iadd, 765, []), (.iaload, 766, []), (.invokestatic 40, 767, [2, 0, 1, 3, 12]), (.aload 2, 768, []), (.aload 0, 769, []), (.iload 3, 770, []), (.iconst (1), 771, []), (.iadd, 772, []), (.iaload, 773, []), (.invokestatic 178, 774, [2, 0, 1, 3, 13]), (.if_icmp .eq 0, 775, [0, 1227]), (.iconst (0), 776, []), (.ireturn, 777, [3]), (.aload 1, 778, []), (.aload 0, 779, []), (.iload 3, 780, []), (.iconst (1), 781, []), (.iadd, 782, []), (.iaload, 783, []), (.invokestatic 41, 784, [2, 0, 1, 2, 12]), (.aload 2, 785, []), (.aload 0, 786, []), (.iload 3, 787, []), (.iconst (1), 788, []), (.iadd, 789, []), (.iaload, 790, []), (.invokestatic 180, 791, [2, 0, 1, 2, 13]), (.if_icmp .eq 0, 792, [0, 1227]), (.iconst (0), 793, []), (.ireturn, 794, [3]), (.aload 1, 795, []), (.aload 0, 796, []), (.iload 3, 797, []), (.iconst (1), 798, []), (.iadd, 799, []), (.iaload, 800, []), (.invokestatic 42, 801, [2, 0, 1, 2, 12]), (.aload 2, 802, []), (.aload 0, 803, []), (.iload 3, 804, []), (.iconst (1), 805, []), (.iadd, 806, []), (.iaload, 807, []), (.invokestatic 181, 808, [2, 0, 1, 2, 13]), (.if_icmp .eq 0, 809, [0, 1227]), (.iconst (0), 810, []), (.ireturn, 811, [3]), (.aload 1, 812, []), (.aload 0, 813, []), (.iload 3, 814, []), (.iconst (1), 815, []), (.iadd, 816, []), (.iaload, 817, []), (.invokestatic 43, 818, [2, 0, 1, 3, 12]), (.aload 2, 819, []), (.aload 0, 820, []), (.iload 3, 821, []), (.iconst (1), 822, []), (.iadd, 823, []), (.iaload, 824, []), (.invokestatic 183, 825, [2, 0, 1, 2, 13]), (.if_icmp .eq 0, 826, [0, 1227]), (.iconst (0), 827, []), (.ireturn, 828, [3]), (.aload 1, 829, []), (.aload 0, 830, []), (.iload 3, 831, []), (.iconst (1), 832, []), (.iadd, 833, []), (.iaload, 834, []), (.aload 0, 835, []), (.iload 3, 836, []), (.iconst (2), 837, []), (.iadd, 838, []), (.iaload, 839, []), (.invokestatic 44, 840, [3, 0, 1, 4, 12]), (.aload 2, 841, []), (.aload 0, 842, []), (.iload 3, 843, []), (.iconst (1), 844, []), (.iadd, 845, []), (.iaload, 846, []), (.aload 0, 847, []), (.iload 3, 848, []), (.iconst (2), 849, []), (.iadd, 850, []), (.iaload, 851, []), (.invokestatic 189, 852, [3, 0, 1, 4, 13]), (.if_icmp .eq 0, 853, [0, 1227]), (.iconst (0), 854, []), (.ireturn, 855, [3]), (.aload 1, 856, []), (.aload 0, 857, []), (.iload 3, 858, []), (.iconst (1), 859, []), (.iadd, 860, []), (.iaload, 861, []), (.aload 0, 862, []), (.iload 3, 863, []), (.iconst (2), 864, []), (.iadd, 865, []), (.iaload, 866, []), (.aload 0, 867, []), (.iload 3, 868, []), (.iconst (3), 869, []), (.iadd, 870, []), (.iaload, 871, []), (.invokestatic 45, 872, [4, 0, 1, 5, 12]), (.aload 2, 873, []), (.aload 0, 874, []), (.iload 3, 875, []), (.iconst (1), 876, []), (.iadd, 877, []), (.iaload, 878, []), (.aload 0, 879, []), (.iload 3, 880, []), (.iconst (2), 881, []), (.iadd, 882, []), (.iaload, 883, []), (.aload 0, 884, []), (.iload 3, 885, []), (.iconst (3), 886, []), (.iadd, 887, []), (.iaload, 888, []), (.invokestatic 190, 889, [4, 0, 1, 5, 13]), (.if_icmp .eq 0, 890, [0, 1227]), (.iconst (0), 891, []), (.ireturn, 892, [3]), (.aload 1, 893, []), (.aload 0, 894, []), (.iload 3, 895, []), (.iconst (1), 896, []), (.iadd, 897, []), (.iaload, 898, []), (.aload 0, 899, []), (.iload 3, 900, []), (.iconst (2), 901, []), (.iadd, 902, []), (.iaload, 903, []), (.aload 0, 904, []), (.iload 3, 905, []), (.iconst (3), 906, []), (.iadd, 907, []), (.iaload, 908, []), (.aload 0, 909, []), (.iload 3, 910, []), (.iconst (4), 911, []), (.iadd, 912, []), (.iaload, 913, []), (.invokestatic 46, 914, [5, 0, 1, 6, 12]), (.aload 2, 915, []), (.aload 0, 916, []), (.iload 3, 917, []), (.iconst (1), 918, []), (.iadd, 919, []), (.iaload, 920, []), (.aload 0, 921, []), (.iload 3, 922, []), (.iconst (2), 923, []), (.iadd, 924, []), (.iaload, 925, []), (.aload 0, 926, []), (.iload 3, 927, []), (.iconst (3), 928, []), (.iadd, 929, []), (.iaload, 930, []), (.aload 0, 931, []), (.iload 3, 932, []), (.iconst (4), 933, []), (.iadd, 934, []), (.iaload, 935, []), (.invokestatic 191, 936, [5, 0, 1, 6, 13]), (.if_icmp .eq 0, 937, [0, 1227]), (.iconst (0), 938, []), (.ireturn, 939, [3]), (.aload 1, 940, []), (.aload 0, 941, []), (.iload 3, 942, []), (.iconst (1), 943, []), (.iadd, 944, []), (.iaload, 945, []), (.aload 0, 946, []), (.iload 3, 947, []), (.iconst (2), 948, []), (.iadd, 949, []), (.iaload, 950, []), (.invokestatic 47, 951, [3, 0, 1, 4, 12]), (.aload 2, 952, []), (.aload 0, 953, []), (.iload 3, 954, []), (.iconst (1), 955, []), (.iadd, 956, []), (.iaload, 957, []), (.aload 0, 958, []), (.iload 3, 959, []), (.iconst (2), 960, []), (.iadd, 961, []), (.iaload, 962, []), (.invokestatic 193, 963, [3, 0, 1, 6, 13]), (.if_icmp .eq 0, 964, [0, 1227]), (.iconst (0), 965, []), (.ireturn, 966, [3]), (.aload 1, 967, []), (.aload 0, 968, []), (.iload 3, 969, []), (.iconst (1), 970, []), (.iadd, 971, []), (.iaload, 972, []), (.aload 0, 973, []), (.iload 3, 974, []), (.iconst (2), 975, []), (.iadd, 976, []), (.iaload, 977, []), (.invokestatic 51, 978, [3, 0, 1, 7, 12]), (.aload 2, 979, []), (.aload 0, 980, []), (.iload 3, 981, []), (.iconst (1), 982, []), (.iadd, 983, []), (.iaload, 984, []), (.aload 0, 985, []), (.iload 3, 986, []), (.iconst (2), 987, []), (.iadd, 988, []), (.iaload, 989, []), (.invokestatic 196, 990, [3, 0, 1, 6, 13]), (.if_icmp .eq 0, 991, [0, 1227]), (.iconst (0), 992, []), (.ireturn, 993, [3]), (.aload 1, 994, []), (.aload 0, 995, []), (.iload 3, 996, []), (.iconst (1), 997, []), (.iadd, 998, []), (.iaload, 999, []), (.aload 0, 1000, []), (.iload 3, 1001, []), (.iconst (2), 1002, []), (.iadd, 1003, []), (.iaload, 1004, []), (.aload 0, 1005, []), (.iload 3, 1006, []), (.iconst (3), 1007, []), (.iadd, 1008, []), (.iaload, 1009, []), (.invokestatic 52, 1010, [4, 0, 1, 7, 12]), (.aload 2, 1011, []), (.aload 0, 1012, []), (.iload 3, 1013, []), (.iconst (1), 1014, []), (.iadd, 1015, []), (.iaload, 1016, []), (.aload 0, 1017, []), (.iload 3, 1018, []), (.iconst (2), 1019, []), (.iadd, 1020, []), (.iaload, 1021, []), (.aload 0, 1022, []), (.iload 3, 1023, []), (.iconst (3), 1024, []), (.iadd, 1025, []), (.iaload, 1026, []), (.invokestatic 197, 1027, [4, 0, 1, 6, 13]), (.if_icmp .eq 0, 1028, [0, 1227]), (.iconst (0), 1029, []), (.ireturn, 1030, [3]), (.aload 1, 1031, []), (.aload 0, 1032, []), (.iload 3, 1033, []), (.iconst (1), 1034, []), (.iadd, 1035, []), (.iaload, 1036, []), (.aload 0, 1037, []), (.iload 3, 1038, []), (.iconst (2), 1039, []), (.iadd, 1040, []), (.iaload, 1041, []), (.aload 0, 1042, []), (.iload 3, 1043, []), (.iconst (3), 1044, []), (.iadd, 1045, []), (.iaload, 1046, []), (.invokestatic 53, 1047, [4, 0, 1, 4, 12]), (.aload 2, 1048, []), (.aload 0, 1049, []), (.iload 3, 1050, []), (.iconst (1), 1051, []), (.iadd, 1052, []), (.iaload, 1053, []), (.aload 0, 1054, []), (.iload 3, 1055, []), (.iconst (2), 1056, []), (.iadd, 1057, []), (.iaload, 1058, []), (.aload 0, 1059, []), (.iload 3, 1060, []), (.iconst (3), 1061, []), (.iadd, 1062, []), (.iaload, 1063, []), (.invokestatic 201, 1064, [4, 0, 1, 4, 13]), (.if_icmp .eq 0, 1065, [0, 1227]), (.iconst (0), 1066, []), (.ireturn, 1067, [3]), (.aload 1, 1068, []), (.aload 0, 1069, []), (.iload 3, 1070, []), (.iconst (1), 1071, []), (.iadd, 1072, []), (.iaload, 1073, []), (.invokestatic 54, 1074, [2, 0, 1, 8, 12]), (.aload 2, 1075, []), (.aload 0, 1076, []), (.iload 3, 1077, []), (.iconst (1), 1078, []), (.iadd, 1079, []), (.iaload, 1080, []), (.invokestatic 202, 1081, [2, 0, 1, 8, 13]), (.if_icmp .eq 0, 1082, [0, 1227]), (.iconst (0), 1083, []), (.ireturn, 1084, [3]), (.aload 1, 1085, []), (.aload 0, 1086, []), (.iload 3, 1087, []), (.iconst (1), 1088, []), (.iadd, 1089, []), (.iaload, 1090, []), (.invokestatic 58, 1091, [2, 0, 1, 2, 12]), (.aload 2, 1092, []), (.aload 0, 1093, []), (.iload 3, 1094, []), (.iconst (1), 1095, []), (.iadd, 1096, []), (.iaload, 1097, []), (.invokestatic 206, 1098, [2, 0, 1, 2, 13]), (.if_icmp .eq 0, 1099, [0, 1227]), (.iconst (0), 1100, []), (.ireturn, 1101, [3]), (.aload 1, 1102, []), (.aload 0, 1103, []), (.iload 3, 1104, []), (.iconst (1), 1105, []), (.iadd, 1106, []), (.iaload, 1107, []), (.invokestatic 59, 1108, [2, 0, 1, 2, 12]), (.aload 2, 1109, []), (.aload 0, 1110, []), (.iload 3, 1111, []), (.iconst (1), 1112, []), (.iadd, 1113, []), (.iaload, 1114, []), (.invokestatic 207, 1115, [2, 0, 1, 2, 13]), (.if_icmp .eq 0, 1116, [0, 1227]), (.iconst (0), 1117, []), (.ireturn, 1118, [3]), (.aload 1, 1119, []), (.aload 0, 1120, []), (.iload 3, 1121, []), (.iconst (1), 1122, []), (.iadd, 1123, []), (.iaload, 1124, []), (.invokestatic 60, 1125, [2, 0, 1, 3, 12]), (.aload 2, 1126, []), (.aload 0, 1127, []), (.iload 3, 1128, []), (.iconst (1), 1129, []), (.iadd, 1130, []), (.iaload, 1131, []), (.invokestatic 208, 1132, [2, 0, 1, 2, 13]), (.if_icmp .eq 0, 1133, [0, 1227]), (.iconst (0), 1134, []), (.ireturn, 1135, [3]), (.aload 1, 1136, []), (.aload 0, 1137, []), (.iload 3, 1138, []), (.iconst (1), 1139, []), (.iadd, 1140, []), (.iaload, 1141, []), (.invokestatic 61, 1142, [2, 0, 1, 3, 12]), (.aload 2, 1143, []), (.aload 0, 1144, []), (.iload 3, 1145, []), (.iconst (1), 1146, []), (.iadd, 1147, []), (.iaload, 1148, []), (.invokestatic 209, 1149, [2, 0, 1, 3, 13]), (.if_icmp .eq 0, 1150, [0, 1227]), (.iconst (0), 1151, []), (.ireturn, 1152, [3]), (.aload 1, 1153, []), (.aload 0, 1154, []), (.iload 3, 1155, []), (.iconst (1), 1156, []), (.iadd, 1157, []), (.iaload, 1158, []), (.invokestatic 62, 1159, [2, 0, 1, 2, 12]), (.aload 2, 1160, []), (.aload 0, 1161, []), (.iload 3, 1162, []), (.iconst (1), 1163, []), (.iadd, 1164, []), (.iaload, 1165, []), (.invokestatic 219, 1166, [2, 0, 1, 3, 13]), (.if_icmp .eq 0, 1167, [0, 1227]), (.iconst (0), 1168, []), (.ireturn, 1169, [3]), (.aload 1, 1170, []), (.aload 0, 1171, []), (.iload 3, 1172, []), (.iconst (1), 1173, []), (.iadd, 1174, []), (.iaload, 1175, []), (.invokestatic 63, 1176, [2, 0, 1, 2, 12]), (.aload 2, 1177, []), (.aload 0, 1178, []), (.iload 3, 1179, []), (.iconst (1), 1180, []), (.iadd, 1181, []), (.iaload, 1182, []), (.invokestatic 220, 1183, [2, 0, 1, 2, 13]), (.if_icmp .eq 0, 1184, [0, 1227]), (.iconst (0), 1185, []), (.ireturn, 1186, [3]), (.aload 1, 1187, []), (.aload 0, 1188, []), (.iload 3, 1189, []), (.iconst (1), 1190, []), (.iadd, 1191, []), (.iaload, 1192, []), (.aload 0, 1193, []), (.iload 3, 1194, []), (.iconst (2), 1195, []), (.iadd, 1196, []), (.iaload, 1197, []), (.invokestatic 64, 1198, [3, 0, 1, 5, 12]), (.aload 2, 1199, []), (.aload 0, 1200, []), (.iload 3, 1201, []), (.iconst (1), 1202, []), (.iadd, 1203, []), (.iaload, 1204, []), (.aload 0, 1205, []), (.iload 3, 1206, []), (.iconst (2), 1207, []), (.iadd, 1208, []), (.iaload, 1209, []), (.invokestatic 221, 1210, [3, 0, 1, 6, 13]), (.if_icmp .eq 0, 1211, [0, 1227]), (.iconst (0), 1212, []), (.ireturn, 1213, [3]), (.aload 1, 1214, []), (.invokestatic 65, 1215, [1, 0, 1, 1, 12]), (.aload 2, 1216, []), (.invokestatic 223, 1217, [1, 0, 1, 1, 13]), (.if_icmp .eq 0, 1218, [0, 1227]), (.iconst (0), 1219, []), (.ireturn, 1220, [3]), (.aload 1, 1221, []), (.invokestatic 66, 1222, [1, 0, 1, 1, 12]), (.aload 2, 1223, []), (.invokestatic 224, 1224, [1, 0, 1, 1, 13]), (.if_icmp .eq 0, 1225, [0, 1227]), (.iconst (0), 1226, []), (.ireturn, 1227, [3]), (.iinc 3 (6), 1228, []), (.goto 0, 1229, [10]), (.iconst (1), 1230, []), (.ireturn, 1231, [3])]
def progs : List (mCode × Nat) := [(k_J_bitCount, 1), (k_T_init, 1), (k_T_status, 1), (k_T_top, 1), (k_T_bottom, 1), (k_T_tray, 4), (k_T_write, 6), (k_T_read, 4), (k_T_pour, 7), (k_T_placeStatus, 3), (k_T_pourStatus, 6), (k_T_feed, 6), (k_T_map, 3), (k_T_times, 3), (k_T_fault, 2), (k_T_told, 2), (k_T_person, 4), (k_T_far, 3), (k_T_drink, 2), (k_T_night, 2), (k_T_evening, 1), (k_T_fill, 4), (k_T_means, 4), (k_T_move, 4), (k_T_aim, 4), (k_T_come, 2), (k_T_rule, 3), (k_T_warmIn, 3), (k_T_darkIn, 3), (k_T_eveningIn, 3), (k_T_litIn, 2), (k_T_settles, 2), (k_T_period, 2), (k_T_lookAhead, 3), (k_T_findPeriod, 2), (k_T_firstSettled, 3), (k_T_chain, 2), (k_T_chainAt, 3), (k_T_rings, 3), (k_T_inRings, 3), (k_T_needs, 3), (k_T_most, 2), (k_T_mostSet, 2), (k_T_misses, 3), (k_T_fits, 4), (k_T_firstOf, 5), (k_T_oddsThat, 6), (k_T_ask, 4), (k_T_waysStatus, 8), (k_T_findWays, 4), (k_T_rowsStatus, 5), (k_T_laws, 7), (k_T_lawOf, 7), (k_T_error, 4), (k_T_cut, 8), (k_T_lawStatus, 11), (k_T_isLaw, 8), (k_T_tasteBoth, 2), (k_T_game, 2), (k_T_moveOf, 2), (k_T_share, 3), (k_T_copyWarmth, 3), (k_T_live, 2), (k_T_lived, 2), (k_T_mean, 5), (k_T_mark, 1), (k_T_undo, 1), (k_T_answer, 2), (k_T_refuse, 2), (k_T_grant, 1), (k_T_deny, 2), (k_T_tell, 7), (k_T_commonDivisor, 11), (k_T_isCouple, 3), (k_T_within, 3), (k_T_warmBy, 5), (k_M_init, 1), (k_M_plain, 3), (k_M_status, 1), (k_M_top, 1), (k_M_bottom, 1), (k_M_is, 2), (k_M_refuse, 2), (k_M_gives, 2), (k_M_tellsBy, 11), (k_M_isTray, 1), (k_M_shrunk, 3), (k_M_tray, 5), (k_M_wrongPlace, 3), (k_M_write, 6), (k_M_read, 3), (k_M_pour, 8), (k_M_isFrom, 6), (k_M_feed, 6), (k_M_four, 3), (k_M_byteAt, 2), (k_M_isSmall, 1), (k_M_isDigit, 1), (k_M_ahead, 2), (k_M_isSign, 2), (k_M_inWords, 7), (k_M_fails, 2), (k_M_begins, 4), (k_M_wantSign, 2), (k_M_wantWord, 3), (k_M_number, 4), (k_M_isName, 2), (k_M_nameHere, 4), (k_M_findHere, 4), (k_M_fault, 2), (k_M_taken, 2), (k_M_personRow, 1), (k_M_isIn, 3), (k_M_isThere, 2), (k_M_perhaps, 6), (k_M_leastOf, 1), (k_M_mostOf, 1), (k_M_aPerson, 3), (k_M_aToast, 3), (k_M_mapPart, 2), (k_M_map, 4), (k_M_personTo, 2), (k_M_test, 3), (k_M_timeOrder, 3), (k_M_timeStep, 6), (k_M_times, 4), (k_M_isPerson, 2), (k_M_areTwo, 3), (k_M_bits, 3), (k_M_personOf, 3), (k_M_whomOf, 2), (k_M_farBetween, 3), (k_M_warmBy, 4), (k_M_warmOf, 2), (k_M_isLit, 2), (k_M_areLit, 3), (k_M_haveWhom, 3), (k_M_warmersOf, 4), (k_M_together, 4), (k_M_told, 2), (k_M_person, 3), (k_M_far, 3), (k_M_warms, 3), (k_M_drinks, 3), (k_M_drink, 2), (k_M_cools, 2), (k_M_nightGoes, 2), (k_M_nightsGo, 3), (k_M_night, 2), (k_M_eveningGoes, 4), (k_M_evening, 1), (k_M_fills, 4), (k_M_fill, 4), (k_M_means, 4), (k_M_move, 4), (k_M_aim, 4), (k_M_come, 4), (k_M_rule, 3), (k_M_levelAt, 1), (k_M_keeps, 3), (k_M_restores, 3), (k_M_cooled, 3), (k_M_warmIn, 3), (k_M_darkIn, 3), (k_M_eveningsGo, 3), (k_M_eveningIn, 4), (k_M_litIn, 3), (k_M_isAlike, 4), (k_M_laysSettled, 3), (k_M_settles, 1), (k_M_period, 1), (k_M_laysChain, 4), (k_M_chain, 2), (k_M_chainAt, 3), (k_M_ringOf, 4), (k_M_rings, 5), (k_M_inRings, 3), (k_M_needsOf, 7), (k_M_needs, 3), (k_M_mostOfAll, 6), (k_M_most, 2), (k_M_mostSet, 2), (k_M_litBehind, 3), (k_M_misses, 2), (k_M_wrongSeen, 4), (k_M_isWay, 7), (k_M_counts, 2), (k_M_mayHave, 5), (k_M_laysWays, 5), (k_M_fits, 4), (k_M_firstOf, 5), (k_M_oddsThat, 6), (k_M_mostAlike, 4), (k_M_ask, 6), (k_M_wrongLaw, 5), (k_M_isLaw, 6), (k_M_laws, 6), (k_M_lawOf, 6), (k_M_atLeast, 7), (k_M_waysOf, 4), (k_M_errorOf, 4), (k_M_error, 4), (k_M_cut, 8), (k_M_settlesAt, 4), (k_M_beginsAt, 2), (k_M_playing, 5), (k_M_game, 2), (k_M_moveOf, 2), (k_M_share, 2), (k_M_copyWarmth, 3), (k_M_draw, 2), (k_M_nightsBy, 2), (k_M_drinksBy, 2), (k_M_eveningsBy, 1), (k_M_doesAny, 2), (k_M_does, 3), (k_M_holds, 5), (k_M_behindEnds, 5), (k_M_lives, 4), (k_M_live, 3), (k_M_lived, 2), (k_M_mean, 6), (k_M_copies, 4), (k_M_mark, 1), (k_M_undo, 1), (k_Co_init, 1), (k_Co_clear, 1), (k_Co_takeFrom, 2), (k_Co_has, 2), (k_Co_isFull, 1), (k_Co_add, 5), (k_Co_named, 4), (k_Co_hasWhom, 2), (k_Co_apart, 3), (k_Co_warmOf, 3), (k_Co_isLit, 2), (k_Co_litSet, 3), (k_Co_toastingSet, 3), (k_Co_warmersOf, 4), (k_Co_allWarmth, 3), (k_Co_allGlasses, 3), (k_Co_warmthAsOne, 4), (k_Co_canDrink, 2), (k_Co_letDrink, 4), (k_Co_hasNights, 2), (k_Co_warmthIn, 3), (k_Co_passNights, 3), (k_Co_passEvening, 4), (k_Co_chainLength, 5), (k_Co_alongChain, 5), (k_Co_isInRing, 4), (k_Co_leadsRing, 4), (k_Co_drinksTo, 9), (k_Co_warmestOf, 5), (k_Co_mostLit, 4), (k_Co_canAllBeLit, 5), (k_Ga_init, 1), (k_Ga_worth, 1), (k_Ga_firstMove, 1), (k_Ga_playOut, 6), (k_Ga_litCount, 1), (k_Ga_butler, 6), (k_Ga_behindDrink, 8), (k_Ga_draught, 8), (k_Gl_init, 1), (k_Gl_taste, 5), (k_Gl_all, 1), (k_Gl_below, 5), (k_Gl_from, 2), (k_Li_init, 1), (k_Li_runThrough, 6), (k_Li_behindEnd, 4), (k_Li_behindStep, 5), (k_Li_liveDrink, 3), (k_Li_liveNights, 3), (k_Li_liveEvening, 2), (k_Li_liveFill, 4), (k_Li_liveAny, 3), (k_Li_drawBy, 2), (k_Li_holds, 6), (k_MR_init, 2), (k_MR_draft, 1), (k_MR_readMap, 3), (k_MR_readPart, 2), (k_MR_readRule, 2), (k_MR_readPerson, 4), (k_MR_readPerhaps, 5), (k_MR_readToast, 3), (k_Mk_init, 2), (k_Mk_isFull, 1), (k_Mk_isEmpty, 1), (k_Mk_keep, 3), (k_Mk_giveBack, 3), (k_Tp_init, 6), (k_Tp_length, 1), (k_Tp_faultKind, 1), (k_Tp_faultPlace, 1), (k_Tp_hasRoom, 2), (k_Tp_append, 3), (k_Tp_empty, 1), (k_Tp_begin, 2), (k_Tp_isAtEnd, 1), (k_Tp_isAtCompares, 1), (k_Tp_sign, 1), (k_Tp_number, 1), (k_Tp_object, 2), (k_Tp_passWord, 2), (k_Tp_passSemicolon, 1), (k_Tp_isNumber, 3), (k_Tp_whoIsNamed, 3), (k_Tp_step, 1), (k_Tp_stepWord, 1), (k_Tp_stepNumber, 1), (k_Tp_wordOf, 4), (k_Tp_withLetter, 3), (k_Tp_isBlank, 1), (k_Tp_isLetter, 1), (k_Tp_isDigit, 1), (k_Tp_isSign, 1), (k_Ti_init, 1), (k_Ti_forget, 1), (k_Ti_add, 3), (k_Ti_takeFrom, 2), (k_TR_init, 2), (k_TR_draft, 1), (k_TR_readTimes, 4), (k_TR_readStep, 6), (k_TR_readEnd, 3), (k_TR_readTest, 4), (k_TR_readWho, 4), (k_TR_readCompares, 2), (k_TR_readAmount, 4), (k_Tr_init, 1), (k_Tr_isTray, 2), (k_Tr_isSort, 2), (k_Tr_isMissing, 2), (k_Tr_length, 2), (k_Tr_sort, 2), (k_Tr_has, 4), (k_Tr_lay, 5), (k_Tr_at, 3), (k_Tr_put, 5), (k_Tr_copy, 6), (k_Tr_cutTo, 3), (k_Wy_init, 1), (k_Wy_begin, 3), (k_Wy_seen, 4), (k_Wy_countAll, 2), (k_Wy_spread, 4), (k_Wy_gather, 4), (k_Wy_isOpen, 4), (k_Wy_all, 1), (k_Wy_through, 5), (k_Wy_firstWhom, 5), (k_Wy_firstOpen, 4), (k_Wy_bestAsked, 5), (k_Wy_mostThrough, 4), (k_L_law, 4)]
def PP : mPr := fun n => (nth progs n).getD ([], 0)
def S0 : mSh := [.inl 11, .inl 9, .inr (3, 4), .inr (1, 60), .inr (1, 60), .inr (1, 60), .inr (1, 60), .inr (0, 4), .inr (0, 4), .inl 6, .inr (2, 900), .inr (1, 24), .inl 0, .inr (0, 7), .inr (0, 7), .inr (0, 7), .inr (0, 7), .inr (0, 7), .inr (0, 7), .inr (1, 7), .inr (0, 7), .inl 0, .inr (0, 7), .inr (0, 7), .inr (0, 7), .inr (0, 7), .inr (0, 7), .inr (0, 7), .inr (1, 7), .inr (0, 7), .inl 7, .inr (0, 60), .inr (0, 60), .inr (0, 60), .inr (0, 60), .inr (0, 60), .inr (0, 60), .inl 4, .inl 0, .inr (0, 7), .inr (0, 7), .inr (0, 7), .inr (0, 7), .inr (0, 7), .inr (0, 7), .inr (1, 7), .inr (0, 7), .inl 8, .inl 7, .inr (0, 60), .inr (0, 60), .inr (0, 60), .inr (0, 60), .inr (0, 60), .inr (0, 60), .inr (0, 3), .inl 5, .inr (10, 3), .inr (17, 3), .inl 0, .inr (0, 7), .inr (0, 7), .inr (0, 7), .inr (0, 7), .inr (0, 7), .inr (0, 7), .inr (1, 7), .inr (0, 7), .inl 7, .inr (0, 60), .inr (0, 60), .inr (0, 60), .inr (0, 60), .inr (0, 60), .inr (0, 60), .inl 0, .inr (0, 7), .inr (0, 7), .inr (0, 7), .inr (0, 7), .inr (0, 7), .inr (0, 7), .inr (1, 7), .inr (0, 7), .inl 7, .inr (0, 60), .inr (0, 60), .inr (0, 60), .inr (0, 60), .inr (0, 60), .inr (0, 60), .inl 0, .inr (0, 7), .inr (0, 7), .inr (0, 7), .inr (0, 7), .inr (0, 7), .inr (0, 7), .inr (1, 7), .inr (0, 7), .inl 7, .inr (0, 60), .inr (0, 60), .inr (0, 60), .inr (0, 60), .inr (0, 60), .inr (0, 60), .inl 3, .inr (0, 60), .inl 3, .inr (0, 60), .inl 10, .inr (0, 7), .inr (0, 128), .inr (0, 128), .inl 1, .inl 0, .inr (0, 7), .inr (0, 7), .inr (0, 7), .inr (0, 7), .inr (0, 7), .inr (0, 7), .inr (1, 7), .inr (0, 7), .inl 2, .inr (1, 13), .inl 2, .inr (1, 13), .inr (1, 201), .inl 12, .inr (0, 2346), .inr (1, 42), .inr (0, 4), .inr (0, 4), .inr (1, 240), .inr (2, 900), .inr (2, 900), .inr (0, 3), .inr (0, 7), .inr (0, 1407), .inr (0, 7), .inr (0, 7), .inr (0, 7), .inr (0, 7), .inr (0, 49), .inr (1, 13), .inr (0, 5), .inr (0, 5), .inr (0, 5), .inr (0, 80), .inr (0, 5), .inr (0, 5)]
def R0 : List (List (Option Nat)) := [[none, none, none, none, some 1, some 9, some 12, some 21, some 30, some 37, some 47, some 56, some 107, some 109, some 111, some 115, some 125, some 127, some 129], [some 2, some 7, some 8], [some 3, some 4, some 5, some 6], [], [], [], [], [], [], [some 10, some 11, none, none, none, none, none, none, none, none, none, none, none], [], [], [none, none, some 13, some 14, some 15, some 16, some 17, some 18, some 19, some 20], [], [], [], [], [], [], [], [], [none, none, some 22, some 23, some 24, some 25, some 26, some 27, some 28, some 29], [], [], [], [], [], [], [], [], [some 31, some 32, some 33, some 34, some 35, some 36, none, none, none], [], [], [], [], [], [], [some 9, some 38, none], [none, none, some 39, some 40, some 41, some 42, some 43, some 44, some 45, some 46], [], [], [], [], [], [], [], [], [some 9, some 48, some 55, none], [some 49, some 50, some 51, some 52, some 53, some 54, none, none, none], [], [], [], [], [], [], [], [some 57, some 58, none], [some 59, some 75, some 91], [some 68, some 84, some 100], [none, none, some 60, some 61, some 62, some 63, some 64, some 65, some 66, some 67], [], [], [], [], [], [], [], [], [some 69, some 70, some 71, some 72, some 73, some 74, none, none, none], [], [], [], [], [], [], [none, none, some 76, some 77, some 78, some 79, some 80, some 81, some 82, some 83], [], [], [], [], [], [], [], [], [some 85, some 86, some 87, some 88, some 89, some 90, none, none, none], [], [], [], [], [], [], [none, none, some 92, some 93, some 94, some 95, some 96, some 97, some 98, some 99], [], [], [], [], [], [], [], [], [some 101, some 102, some 103, some 104, some 105, some 106, none, none, none], [], [], [], [], [], [], [some 108, none, none, none, none, none, none, none], [], [some 110, none, none, none, none, none, none, none], [], [some 112, some 113, some 114, none, none], [], [], [], [some 116, none, none, none], [none, none, some 117, some 118, some 119, some 120, some 121, some 122, some 123, some 124], [], [], [], [], [], [], [], [], [some 126, none], [], [some 128, none], [], [], [some 131, some 132, none, none, none, some 133, some 134, some 135, some 136, some 137, none, none, none, none, none, none, none, none, none, none, none, some 138, none, none, some 139, some 140, none, none, some 141, none, some 142, some 143, some 144, some 145, none, some 146, some 147, some 148, some 149, none, none, some 150, some 151, some 152, none, none], [], [], [], [], [], [], [], [], [], [], [], [], [], [], [], [], [], [], [], [], [], []]
def CT (xs : List Int) : Nat → List Int := fun k => match k with
  | 1 => xs
  | 2 => [0, 0, 0, 1, 0, 1, 1]
  | 3 => [0, 16, 16, 99, 30, 20, 9]
  | 4 => [0, 12, 4, 20, 5, 10, 1]
  | 5 => [111, 100, 100, 115, 32, 115, 104, 97, 109, 32, 103, 108, 111, 119, 32, 99, 111, 111, 108, 32, 104, 101, 97, 116, 32, 114, 101, 97, 99, 104, 32, 112, 101, 114, 115, 111, 110, 32, 97, 116, 32, 109, 101, 97, 110, 116, 32, 119, 97, 114, 109, 32, 103, 108, 97, 115, 115, 101, 115, 32, 116, 111, 97, 115, 116, 32, 116, 111, 32, 100, 114, 105, 110, 107, 32, 110, 105, 103, 104, 116, 32, 101, 118, 101, 110, 105, 110, 103, 32, 102, 105, 108, 108, 32, 97, 110, 121, 32, 119, 104, 101, 110, 32, 108, 105, 116, 32, 108, 111, 111, 112, 32, 101, 110, 100, 32, 115, 116, 111, 112, 32]
  | 6 => [32, 111, 100, 100, 115, 32, 115, 104, 97, 109, 32, 103, 108, 111, 119, 32, 99, 111, 111, 108, 32, 104, 101, 97, 116, 32, 114, 101, 97, 99, 104, 32, 112, 101, 114, 115, 111, 110, 32, 116, 111, 97, 115, 116, 32, 97, 116, 32, 109, 101, 97, 110, 116, 32, 119, 97, 114, 109, 32, 103, 108, 97, 115, 115, 101, 115, 32, 116, 111, 32, 100, 114, 105, 110, 107, 32, 110, 105, 103, 104, 116, 32, 101, 118, 101, 110, 105, 110, 103, 32, 102, 105, 108, 108, 32, 97, 110, 121, 32, 119, 104, 101, 110, 32, 108, 111, 111, 112, 32, 101, 110, 100, 32, 115, 116, 111, 112, 32, 108, 105, 116, 32]
  | _ => []
noncomputable def X (xs : List Int) (d : Nat) : mCode → Nat → List mv → List mv → mM → Option (List mv × mM) := Ex PP S0 R0 (CT xs) d
noncomputable def C (xs : List Int) (d : Nat) : Nat → Nat → List mv → mM → Option (List mv × mM) := Cl PP S0 R0 (CT xs) d
theorem C_1 (xs : List Int) (d id fl : Nat) (a : List mv) (h : mM) : C xs (d + 1) id (fl + 1) a h = C xs d id 0 a h := rfl
theorem p_J_bitCount : PP 0 = (k_J_bitCount, 1) := rfl
theorem p_T_init : PP 1 = (k_T_init, 1) := rfl
theorem p_T_status : PP 2 = (k_T_status, 1) := rfl
theorem p_T_top : PP 3 = (k_T_top, 1) := rfl
theorem p_T_bottom : PP 4 = (k_T_bottom, 1) := rfl
theorem p_T_tray : PP 5 = (k_T_tray, 4) := rfl
theorem p_T_write : PP 6 = (k_T_write, 6) := rfl
theorem p_T_read : PP 7 = (k_T_read, 4) := rfl
theorem p_T_pour : PP 8 = (k_T_pour, 7) := rfl
theorem p_T_placeStatus : PP 9 = (k_T_placeStatus, 3) := rfl
theorem p_T_pourStatus : PP 10 = (k_T_pourStatus, 6) := rfl
theorem p_T_feed : PP 11 = (k_T_feed, 6) := rfl
theorem p_T_map : PP 12 = (k_T_map, 3) := rfl
theorem p_T_times : PP 13 = (k_T_times, 3) := rfl
theorem p_T_fault : PP 14 = (k_T_fault, 2) := rfl
theorem p_T_told : PP 15 = (k_T_told, 2) := rfl
theorem p_T_person : PP 16 = (k_T_person, 4) := rfl
theorem p_T_far : PP 17 = (k_T_far, 3) := rfl
theorem p_T_drink : PP 18 = (k_T_drink, 2) := rfl
theorem p_T_night : PP 19 = (k_T_night, 2) := rfl
theorem p_T_evening : PP 20 = (k_T_evening, 1) := rfl
theorem p_T_fill : PP 21 = (k_T_fill, 4) := rfl
theorem p_T_means : PP 22 = (k_T_means, 4) := rfl
theorem p_T_move : PP 23 = (k_T_move, 4) := rfl
theorem p_T_aim : PP 24 = (k_T_aim, 4) := rfl
theorem p_T_come : PP 25 = (k_T_come, 2) := rfl
theorem p_T_rule : PP 26 = (k_T_rule, 3) := rfl
theorem p_T_warmIn : PP 27 = (k_T_warmIn, 3) := rfl
theorem p_T_darkIn : PP 28 = (k_T_darkIn, 3) := rfl
theorem p_T_eveningIn : PP 29 = (k_T_eveningIn, 3) := rfl
theorem p_T_litIn : PP 30 = (k_T_litIn, 2) := rfl
theorem p_T_settles : PP 31 = (k_T_settles, 2) := rfl
theorem p_T_period : PP 32 = (k_T_period, 2) := rfl
theorem p_T_lookAhead : PP 33 = (k_T_lookAhead, 3) := rfl
theorem p_T_findPeriod : PP 34 = (k_T_findPeriod, 2) := rfl
theorem p_T_firstSettled : PP 35 = (k_T_firstSettled, 3) := rfl
theorem p_T_chain : PP 36 = (k_T_chain, 2) := rfl
theorem p_T_chainAt : PP 37 = (k_T_chainAt, 3) := rfl
theorem p_T_rings : PP 38 = (k_T_rings, 3) := rfl
theorem p_T_inRings : PP 39 = (k_T_inRings, 3) := rfl
theorem p_T_needs : PP 40 = (k_T_needs, 3) := rfl
theorem p_T_most : PP 41 = (k_T_most, 2) := rfl
theorem p_T_mostSet : PP 42 = (k_T_mostSet, 2) := rfl
theorem p_T_misses : PP 43 = (k_T_misses, 3) := rfl
theorem p_T_fits : PP 44 = (k_T_fits, 4) := rfl
theorem p_T_firstOf : PP 45 = (k_T_firstOf, 5) := rfl
theorem p_T_oddsThat : PP 46 = (k_T_oddsThat, 6) := rfl
theorem p_T_ask : PP 47 = (k_T_ask, 4) := rfl
theorem p_T_waysStatus : PP 48 = (k_T_waysStatus, 8) := rfl
theorem p_T_findWays : PP 49 = (k_T_findWays, 4) := rfl
theorem p_T_rowsStatus : PP 50 = (k_T_rowsStatus, 5) := rfl
theorem p_T_laws : PP 51 = (k_T_laws, 7) := rfl
theorem p_T_lawOf : PP 52 = (k_T_lawOf, 7) := rfl
theorem p_T_error : PP 53 = (k_T_error, 4) := rfl
theorem p_T_cut : PP 54 = (k_T_cut, 8) := rfl
theorem p_T_lawStatus : PP 55 = (k_T_lawStatus, 11) := rfl
theorem p_T_isLaw : PP 56 = (k_T_isLaw, 8) := rfl
theorem p_T_tasteBoth : PP 57 = (k_T_tasteBoth, 2) := rfl
theorem p_T_game : PP 58 = (k_T_game, 2) := rfl
theorem p_T_moveOf : PP 59 = (k_T_moveOf, 2) := rfl
theorem p_T_share : PP 60 = (k_T_share, 3) := rfl
theorem p_T_copyWarmth : PP 61 = (k_T_copyWarmth, 3) := rfl
theorem p_T_live : PP 62 = (k_T_live, 2) := rfl
theorem p_T_lived : PP 63 = (k_T_lived, 2) := rfl
theorem p_T_mean : PP 64 = (k_T_mean, 5) := rfl
theorem p_T_mark : PP 65 = (k_T_mark, 1) := rfl
theorem p_T_undo : PP 66 = (k_T_undo, 1) := rfl
theorem p_T_answer : PP 67 = (k_T_answer, 2) := rfl
theorem p_T_refuse : PP 68 = (k_T_refuse, 2) := rfl
theorem p_T_grant : PP 69 = (k_T_grant, 1) := rfl
theorem p_T_deny : PP 70 = (k_T_deny, 2) := rfl
theorem p_T_tell : PP 71 = (k_T_tell, 7) := rfl
theorem p_T_commonDivisor : PP 72 = (k_T_commonDivisor, 11) := rfl
theorem p_T_isCouple : PP 73 = (k_T_isCouple, 3) := rfl
theorem p_T_within : PP 74 = (k_T_within, 3) := rfl
theorem p_T_warmBy : PP 75 = (k_T_warmBy, 5) := rfl
theorem p_M_init : PP 76 = (k_M_init, 1) := rfl
theorem p_M_plain : PP 77 = (k_M_plain, 3) := rfl
theorem p_M_status : PP 78 = (k_M_status, 1) := rfl
theorem p_M_top : PP 79 = (k_M_top, 1) := rfl
theorem p_M_bottom : PP 80 = (k_M_bottom, 1) := rfl
theorem p_M_is : PP 81 = (k_M_is, 2) := rfl
theorem p_M_refuse : PP 82 = (k_M_refuse, 2) := rfl
theorem p_M_gives : PP 83 = (k_M_gives, 2) := rfl
theorem p_M_tellsBy : PP 84 = (k_M_tellsBy, 11) := rfl
theorem p_M_isTray : PP 85 = (k_M_isTray, 1) := rfl
theorem p_M_shrunk : PP 86 = (k_M_shrunk, 3) := rfl
theorem p_M_tray : PP 87 = (k_M_tray, 5) := rfl
theorem p_M_wrongPlace : PP 88 = (k_M_wrongPlace, 3) := rfl
theorem p_M_write : PP 89 = (k_M_write, 6) := rfl
theorem p_M_read : PP 90 = (k_M_read, 3) := rfl
theorem p_M_pour : PP 91 = (k_M_pour, 8) := rfl
theorem p_M_isFrom : PP 92 = (k_M_isFrom, 6) := rfl
theorem p_M_feed : PP 93 = (k_M_feed, 6) := rfl
theorem p_M_four : PP 94 = (k_M_four, 3) := rfl
theorem p_M_byteAt : PP 95 = (k_M_byteAt, 2) := rfl
theorem p_M_isSmall : PP 96 = (k_M_isSmall, 1) := rfl
theorem p_M_isDigit : PP 97 = (k_M_isDigit, 1) := rfl
theorem p_M_ahead : PP 98 = (k_M_ahead, 2) := rfl
theorem p_M_isSign : PP 99 = (k_M_isSign, 2) := rfl
theorem p_M_inWords : PP 100 = (k_M_inWords, 7) := rfl
theorem p_M_fails : PP 101 = (k_M_fails, 2) := rfl
theorem p_M_begins : PP 102 = (k_M_begins, 4) := rfl
theorem p_M_wantSign : PP 103 = (k_M_wantSign, 2) := rfl
theorem p_M_wantWord : PP 104 = (k_M_wantWord, 3) := rfl
theorem p_M_number : PP 105 = (k_M_number, 4) := rfl
theorem p_M_isName : PP 106 = (k_M_isName, 2) := rfl
theorem p_M_nameHere : PP 107 = (k_M_nameHere, 4) := rfl
theorem p_M_findHere : PP 108 = (k_M_findHere, 4) := rfl
theorem p_M_fault : PP 109 = (k_M_fault, 2) := rfl
theorem p_M_taken : PP 110 = (k_M_taken, 2) := rfl
theorem p_M_personRow : PP 111 = (k_M_personRow, 1) := rfl
theorem p_M_isIn : PP 112 = (k_M_isIn, 3) := rfl
theorem p_M_isThere : PP 113 = (k_M_isThere, 2) := rfl
theorem p_M_perhaps : PP 114 = (k_M_perhaps, 6) := rfl
theorem p_M_leastOf : PP 115 = (k_M_leastOf, 1) := rfl
theorem p_M_mostOf : PP 116 = (k_M_mostOf, 1) := rfl
theorem p_M_aPerson : PP 117 = (k_M_aPerson, 3) := rfl
theorem p_M_aToast : PP 118 = (k_M_aToast, 3) := rfl
theorem p_M_mapPart : PP 119 = (k_M_mapPart, 2) := rfl
theorem p_M_map : PP 120 = (k_M_map, 4) := rfl
theorem p_M_personTo : PP 121 = (k_M_personTo, 2) := rfl
theorem p_M_test : PP 122 = (k_M_test, 3) := rfl
theorem p_M_timeOrder : PP 123 = (k_M_timeOrder, 3) := rfl
theorem p_M_timeStep : PP 124 = (k_M_timeStep, 6) := rfl
theorem p_M_times : PP 125 = (k_M_times, 4) := rfl
theorem p_M_isPerson : PP 126 = (k_M_isPerson, 2) := rfl
theorem p_M_areTwo : PP 127 = (k_M_areTwo, 3) := rfl
theorem p_M_bits : PP 128 = (k_M_bits, 3) := rfl
theorem p_M_personOf : PP 129 = (k_M_personOf, 3) := rfl
theorem p_M_whomOf : PP 130 = (k_M_whomOf, 2) := rfl
theorem p_M_farBetween : PP 131 = (k_M_farBetween, 3) := rfl
theorem p_M_warmBy : PP 132 = (k_M_warmBy, 4) := rfl
theorem p_M_warmOf : PP 133 = (k_M_warmOf, 2) := rfl
theorem p_M_isLit : PP 134 = (k_M_isLit, 2) := rfl
theorem p_M_areLit : PP 135 = (k_M_areLit, 3) := rfl
theorem p_M_haveWhom : PP 136 = (k_M_haveWhom, 3) := rfl
theorem p_M_warmersOf : PP 137 = (k_M_warmersOf, 4) := rfl
theorem p_M_together : PP 138 = (k_M_together, 4) := rfl
theorem p_M_told : PP 139 = (k_M_told, 2) := rfl
theorem p_M_person : PP 140 = (k_M_person, 3) := rfl
theorem p_M_far : PP 141 = (k_M_far, 3) := rfl
theorem p_M_warms : PP 142 = (k_M_warms, 3) := rfl
theorem p_M_drinks : PP 143 = (k_M_drinks, 3) := rfl
theorem p_M_drink : PP 144 = (k_M_drink, 2) := rfl
theorem p_M_cools : PP 145 = (k_M_cools, 2) := rfl
theorem p_M_nightGoes : PP 146 = (k_M_nightGoes, 2) := rfl
theorem p_M_nightsGo : PP 147 = (k_M_nightsGo, 3) := rfl
theorem p_M_night : PP 148 = (k_M_night, 2) := rfl
theorem p_M_eveningGoes : PP 149 = (k_M_eveningGoes, 4) := rfl
theorem p_M_evening : PP 150 = (k_M_evening, 1) := rfl
theorem p_M_fills : PP 151 = (k_M_fills, 4) := rfl
theorem p_M_fill : PP 152 = (k_M_fill, 4) := rfl
theorem p_M_means : PP 153 = (k_M_means, 4) := rfl
theorem p_M_move : PP 154 = (k_M_move, 4) := rfl
theorem p_M_aim : PP 155 = (k_M_aim, 4) := rfl
theorem p_M_come : PP 156 = (k_M_come, 4) := rfl
theorem p_M_rule : PP 157 = (k_M_rule, 3) := rfl
theorem p_M_levelAt : PP 158 = (k_M_levelAt, 1) := rfl
theorem p_M_keeps : PP 159 = (k_M_keeps, 3) := rfl
theorem p_M_restores : PP 160 = (k_M_restores, 3) := rfl
theorem p_M_cooled : PP 161 = (k_M_cooled, 3) := rfl
theorem p_M_warmIn : PP 162 = (k_M_warmIn, 3) := rfl
theorem p_M_darkIn : PP 163 = (k_M_darkIn, 3) := rfl
theorem p_M_eveningsGo : PP 164 = (k_M_eveningsGo, 3) := rfl
theorem p_M_eveningIn : PP 165 = (k_M_eveningIn, 4) := rfl
theorem p_M_litIn : PP 166 = (k_M_litIn, 3) := rfl
theorem p_M_isAlike : PP 167 = (k_M_isAlike, 4) := rfl
theorem p_M_laysSettled : PP 168 = (k_M_laysSettled, 3) := rfl
theorem p_M_settles : PP 169 = (k_M_settles, 1) := rfl
theorem p_M_period : PP 170 = (k_M_period, 1) := rfl
theorem p_M_laysChain : PP 171 = (k_M_laysChain, 4) := rfl
theorem p_M_chain : PP 172 = (k_M_chain, 2) := rfl
theorem p_M_chainAt : PP 173 = (k_M_chainAt, 3) := rfl
theorem p_M_ringOf : PP 174 = (k_M_ringOf, 4) := rfl
theorem p_M_rings : PP 175 = (k_M_rings, 5) := rfl
theorem p_M_inRings : PP 176 = (k_M_inRings, 3) := rfl
theorem p_M_needsOf : PP 177 = (k_M_needsOf, 7) := rfl
theorem p_M_needs : PP 178 = (k_M_needs, 3) := rfl
theorem p_M_mostOfAll : PP 179 = (k_M_mostOfAll, 6) := rfl
theorem p_M_most : PP 180 = (k_M_most, 2) := rfl
theorem p_M_mostSet : PP 181 = (k_M_mostSet, 2) := rfl
theorem p_M_litBehind : PP 182 = (k_M_litBehind, 3) := rfl
theorem p_M_misses : PP 183 = (k_M_misses, 2) := rfl
theorem p_M_wrongSeen : PP 184 = (k_M_wrongSeen, 4) := rfl
theorem p_M_isWay : PP 185 = (k_M_isWay, 7) := rfl
theorem p_M_counts : PP 186 = (k_M_counts, 2) := rfl
theorem p_M_mayHave : PP 187 = (k_M_mayHave, 5) := rfl
theorem p_M_laysWays : PP 188 = (k_M_laysWays, 5) := rfl
theorem p_M_fits : PP 189 = (k_M_fits, 4) := rfl
theorem p_M_firstOf : PP 190 = (k_M_firstOf, 5) := rfl
theorem p_M_oddsThat : PP 191 = (k_M_oddsThat, 6) := rfl
theorem p_M_mostAlike : PP 192 = (k_M_mostAlike, 4) := rfl
theorem p_M_ask : PP 193 = (k_M_ask, 6) := rfl
theorem p_M_wrongLaw : PP 194 = (k_M_wrongLaw, 5) := rfl
theorem p_M_isLaw : PP 195 = (k_M_isLaw, 6) := rfl
theorem p_M_laws : PP 196 = (k_M_laws, 6) := rfl
theorem p_M_lawOf : PP 197 = (k_M_lawOf, 6) := rfl
theorem p_M_atLeast : PP 198 = (k_M_atLeast, 7) := rfl
theorem p_M_waysOf : PP 199 = (k_M_waysOf, 4) := rfl
theorem p_M_errorOf : PP 200 = (k_M_errorOf, 4) := rfl
theorem p_M_error : PP 201 = (k_M_error, 4) := rfl
theorem p_M_cut : PP 202 = (k_M_cut, 8) := rfl
theorem p_M_settlesAt : PP 203 = (k_M_settlesAt, 4) := rfl
theorem p_M_beginsAt : PP 204 = (k_M_beginsAt, 2) := rfl
theorem p_M_playing : PP 205 = (k_M_playing, 5) := rfl
theorem p_M_game : PP 206 = (k_M_game, 2) := rfl
theorem p_M_moveOf : PP 207 = (k_M_moveOf, 2) := rfl
theorem p_M_share : PP 208 = (k_M_share, 2) := rfl
theorem p_M_copyWarmth : PP 209 = (k_M_copyWarmth, 3) := rfl
theorem p_M_draw : PP 210 = (k_M_draw, 2) := rfl
theorem p_M_nightsBy : PP 211 = (k_M_nightsBy, 2) := rfl
theorem p_M_drinksBy : PP 212 = (k_M_drinksBy, 2) := rfl
theorem p_M_eveningsBy : PP 213 = (k_M_eveningsBy, 1) := rfl
theorem p_M_doesAny : PP 214 = (k_M_doesAny, 2) := rfl
theorem p_M_does : PP 215 = (k_M_does, 3) := rfl
theorem p_M_holds : PP 216 = (k_M_holds, 5) := rfl
theorem p_M_behindEnds : PP 217 = (k_M_behindEnds, 5) := rfl
theorem p_M_lives : PP 218 = (k_M_lives, 4) := rfl
theorem p_M_live : PP 219 = (k_M_live, 3) := rfl
theorem p_M_lived : PP 220 = (k_M_lived, 2) := rfl
theorem p_M_mean : PP 221 = (k_M_mean, 6) := rfl
theorem p_M_copies : PP 222 = (k_M_copies, 4) := rfl
theorem p_M_mark : PP 223 = (k_M_mark, 1) := rfl
theorem p_M_undo : PP 224 = (k_M_undo, 1) := rfl
theorem p_Co_init : PP 225 = (k_Co_init, 1) := rfl
theorem p_Co_clear : PP 226 = (k_Co_clear, 1) := rfl
theorem p_Co_takeFrom : PP 227 = (k_Co_takeFrom, 2) := rfl
theorem p_Co_has : PP 228 = (k_Co_has, 2) := rfl
theorem p_Co_isFull : PP 229 = (k_Co_isFull, 1) := rfl
theorem p_Co_add : PP 230 = (k_Co_add, 5) := rfl
theorem p_Co_named : PP 231 = (k_Co_named, 4) := rfl
theorem p_Co_hasWhom : PP 232 = (k_Co_hasWhom, 2) := rfl
theorem p_Co_apart : PP 233 = (k_Co_apart, 3) := rfl
theorem p_Co_warmOf : PP 234 = (k_Co_warmOf, 3) := rfl
theorem p_Co_isLit : PP 235 = (k_Co_isLit, 2) := rfl
theorem p_Co_litSet : PP 236 = (k_Co_litSet, 3) := rfl
theorem p_Co_toastingSet : PP 237 = (k_Co_toastingSet, 3) := rfl
theorem p_Co_warmersOf : PP 238 = (k_Co_warmersOf, 4) := rfl
theorem p_Co_allWarmth : PP 239 = (k_Co_allWarmth, 3) := rfl
theorem p_Co_allGlasses : PP 240 = (k_Co_allGlasses, 3) := rfl
theorem p_Co_warmthAsOne : PP 241 = (k_Co_warmthAsOne, 4) := rfl
theorem p_Co_canDrink : PP 242 = (k_Co_canDrink, 2) := rfl
theorem p_Co_letDrink : PP 243 = (k_Co_letDrink, 4) := rfl
theorem p_Co_hasNights : PP 244 = (k_Co_hasNights, 2) := rfl
theorem p_Co_warmthIn : PP 245 = (k_Co_warmthIn, 3) := rfl
theorem p_Co_passNights : PP 246 = (k_Co_passNights, 3) := rfl
theorem p_Co_passEvening : PP 247 = (k_Co_passEvening, 4) := rfl
theorem p_Co_chainLength : PP 248 = (k_Co_chainLength, 5) := rfl
theorem p_Co_alongChain : PP 249 = (k_Co_alongChain, 5) := rfl
theorem p_Co_isInRing : PP 250 = (k_Co_isInRing, 4) := rfl
theorem p_Co_leadsRing : PP 251 = (k_Co_leadsRing, 4) := rfl
theorem p_Co_drinksTo : PP 252 = (k_Co_drinksTo, 9) := rfl
theorem p_Co_warmestOf : PP 253 = (k_Co_warmestOf, 5) := rfl
theorem p_Co_mostLit : PP 254 = (k_Co_mostLit, 4) := rfl
theorem p_Co_canAllBeLit : PP 255 = (k_Co_canAllBeLit, 5) := rfl
theorem p_Ga_init : PP 256 = (k_Ga_init, 1) := rfl
theorem p_Ga_worth : PP 257 = (k_Ga_worth, 1) := rfl
theorem p_Ga_firstMove : PP 258 = (k_Ga_firstMove, 1) := rfl
theorem p_Ga_playOut : PP 259 = (k_Ga_playOut, 6) := rfl
theorem p_Ga_litCount : PP 260 = (k_Ga_litCount, 1) := rfl
theorem p_Ga_butler : PP 261 = (k_Ga_butler, 6) := rfl
theorem p_Ga_behindDrink : PP 262 = (k_Ga_behindDrink, 8) := rfl
theorem p_Ga_draught : PP 263 = (k_Ga_draught, 8) := rfl
theorem p_Gl_init : PP 264 = (k_Gl_init, 1) := rfl
theorem p_Gl_taste : PP 265 = (k_Gl_taste, 5) := rfl
theorem p_Gl_all : PP 266 = (k_Gl_all, 1) := rfl
theorem p_Gl_below : PP 267 = (k_Gl_below, 5) := rfl
theorem p_Gl_from : PP 268 = (k_Gl_from, 2) := rfl
theorem p_Li_init : PP 269 = (k_Li_init, 1) := rfl
theorem p_Li_runThrough : PP 270 = (k_Li_runThrough, 6) := rfl
theorem p_Li_behindEnd : PP 271 = (k_Li_behindEnd, 4) := rfl
theorem p_Li_behindStep : PP 272 = (k_Li_behindStep, 5) := rfl
theorem p_Li_liveDrink : PP 273 = (k_Li_liveDrink, 3) := rfl
theorem p_Li_liveNights : PP 274 = (k_Li_liveNights, 3) := rfl
theorem p_Li_liveEvening : PP 275 = (k_Li_liveEvening, 2) := rfl
theorem p_Li_liveFill : PP 276 = (k_Li_liveFill, 4) := rfl
theorem p_Li_liveAny : PP 277 = (k_Li_liveAny, 3) := rfl
theorem p_Li_drawBy : PP 278 = (k_Li_drawBy, 2) := rfl
theorem p_Li_holds : PP 279 = (k_Li_holds, 6) := rfl
theorem p_MR_init : PP 280 = (k_MR_init, 2) := rfl
theorem p_MR_draft : PP 281 = (k_MR_draft, 1) := rfl
theorem p_MR_readMap : PP 282 = (k_MR_readMap, 3) := rfl
theorem p_MR_readPart : PP 283 = (k_MR_readPart, 2) := rfl
theorem p_MR_readRule : PP 284 = (k_MR_readRule, 2) := rfl
theorem p_MR_readPerson : PP 285 = (k_MR_readPerson, 4) := rfl
theorem p_MR_readPerhaps : PP 286 = (k_MR_readPerhaps, 5) := rfl
theorem p_MR_readToast : PP 287 = (k_MR_readToast, 3) := rfl
theorem p_Mk_init : PP 288 = (k_Mk_init, 2) := rfl
theorem p_Mk_isFull : PP 289 = (k_Mk_isFull, 1) := rfl
theorem p_Mk_isEmpty : PP 290 = (k_Mk_isEmpty, 1) := rfl
theorem p_Mk_keep : PP 291 = (k_Mk_keep, 3) := rfl
theorem p_Mk_giveBack : PP 292 = (k_Mk_giveBack, 3) := rfl
theorem p_Tp_init : PP 293 = (k_Tp_init, 6) := rfl
theorem p_Tp_length : PP 294 = (k_Tp_length, 1) := rfl
theorem p_Tp_faultKind : PP 295 = (k_Tp_faultKind, 1) := rfl
theorem p_Tp_faultPlace : PP 296 = (k_Tp_faultPlace, 1) := rfl
theorem p_Tp_hasRoom : PP 297 = (k_Tp_hasRoom, 2) := rfl
theorem p_Tp_append : PP 298 = (k_Tp_append, 3) := rfl
theorem p_Tp_empty : PP 299 = (k_Tp_empty, 1) := rfl
theorem p_Tp_begin : PP 300 = (k_Tp_begin, 2) := rfl
theorem p_Tp_isAtEnd : PP 301 = (k_Tp_isAtEnd, 1) := rfl
theorem p_Tp_isAtCompares : PP 302 = (k_Tp_isAtCompares, 1) := rfl
theorem p_Tp_sign : PP 303 = (k_Tp_sign, 1) := rfl
theorem p_Tp_number : PP 304 = (k_Tp_number, 1) := rfl
theorem p_Tp_object : PP 305 = (k_Tp_object, 2) := rfl
theorem p_Tp_passWord : PP 306 = (k_Tp_passWord, 2) := rfl
theorem p_Tp_passSemicolon : PP 307 = (k_Tp_passSemicolon, 1) := rfl
theorem p_Tp_isNumber : PP 308 = (k_Tp_isNumber, 3) := rfl
theorem p_Tp_whoIsNamed : PP 309 = (k_Tp_whoIsNamed, 3) := rfl
theorem p_Tp_step : PP 310 = (k_Tp_step, 1) := rfl
theorem p_Tp_stepWord : PP 311 = (k_Tp_stepWord, 1) := rfl
theorem p_Tp_stepNumber : PP 312 = (k_Tp_stepNumber, 1) := rfl
theorem p_Tp_wordOf : PP 313 = (k_Tp_wordOf, 4) := rfl
theorem p_Tp_withLetter : PP 314 = (k_Tp_withLetter, 3) := rfl
theorem p_Tp_isBlank : PP 315 = (k_Tp_isBlank, 1) := rfl
theorem p_Tp_isLetter : PP 316 = (k_Tp_isLetter, 1) := rfl
theorem p_Tp_isDigit : PP 317 = (k_Tp_isDigit, 1) := rfl
theorem p_Tp_isSign : PP 318 = (k_Tp_isSign, 1) := rfl
theorem p_Ti_init : PP 319 = (k_Ti_init, 1) := rfl
theorem p_Ti_forget : PP 320 = (k_Ti_forget, 1) := rfl
theorem p_Ti_add : PP 321 = (k_Ti_add, 3) := rfl
theorem p_Ti_takeFrom : PP 322 = (k_Ti_takeFrom, 2) := rfl
theorem p_TR_init : PP 323 = (k_TR_init, 2) := rfl
theorem p_TR_draft : PP 324 = (k_TR_draft, 1) := rfl
theorem p_TR_readTimes : PP 325 = (k_TR_readTimes, 4) := rfl
theorem p_TR_readStep : PP 326 = (k_TR_readStep, 6) := rfl
theorem p_TR_readEnd : PP 327 = (k_TR_readEnd, 3) := rfl
theorem p_TR_readTest : PP 328 = (k_TR_readTest, 4) := rfl
theorem p_TR_readWho : PP 329 = (k_TR_readWho, 4) := rfl
theorem p_TR_readCompares : PP 330 = (k_TR_readCompares, 2) := rfl
theorem p_TR_readAmount : PP 331 = (k_TR_readAmount, 4) := rfl
theorem p_Tr_init : PP 332 = (k_Tr_init, 1) := rfl
theorem p_Tr_isTray : PP 333 = (k_Tr_isTray, 2) := rfl
theorem p_Tr_isSort : PP 334 = (k_Tr_isSort, 2) := rfl
theorem p_Tr_isMissing : PP 335 = (k_Tr_isMissing, 2) := rfl
theorem p_Tr_length : PP 336 = (k_Tr_length, 2) := rfl
theorem p_Tr_sort : PP 337 = (k_Tr_sort, 2) := rfl
theorem p_Tr_has : PP 338 = (k_Tr_has, 4) := rfl
theorem p_Tr_lay : PP 339 = (k_Tr_lay, 5) := rfl
theorem p_Tr_at : PP 340 = (k_Tr_at, 3) := rfl
theorem p_Tr_put : PP 341 = (k_Tr_put, 5) := rfl
theorem p_Tr_copy : PP 342 = (k_Tr_copy, 6) := rfl
theorem p_Tr_cutTo : PP 343 = (k_Tr_cutTo, 3) := rfl
theorem p_Wy_init : PP 344 = (k_Wy_init, 1) := rfl
theorem p_Wy_begin : PP 345 = (k_Wy_begin, 3) := rfl
theorem p_Wy_seen : PP 346 = (k_Wy_seen, 4) := rfl
theorem p_Wy_countAll : PP 347 = (k_Wy_countAll, 2) := rfl
theorem p_Wy_spread : PP 348 = (k_Wy_spread, 4) := rfl
theorem p_Wy_gather : PP 349 = (k_Wy_gather, 4) := rfl
theorem p_Wy_isOpen : PP 350 = (k_Wy_isOpen, 4) := rfl
theorem p_Wy_all : PP 351 = (k_Wy_all, 1) := rfl
theorem p_Wy_through : PP 352 = (k_Wy_through, 5) := rfl
theorem p_Wy_firstWhom : PP 353 = (k_Wy_firstWhom, 5) := rfl
theorem p_Wy_firstOpen : PP 354 = (k_Wy_firstOpen, 4) := rfl
theorem p_Wy_bestAsked : PP 355 = (k_Wy_bestAsked, 5) := rfl
theorem p_Wy_mostThrough : PP 356 = (k_Wy_mostThrough, 4) := rfl
theorem p_L_law : PP 357 = (k_L_law, 4) := rfl
theorem X_blk (xs : List Int) (d : Nat) (c : mCode) (stop : List Nat) (n j : Nat) (ls st : List mv) (h : mM) : X xs d c j ls st h = blk PP S0 R0 (CT xs) d c stop n j ls st h := Ex_blk PP S0 R0 (CT xs) d c stop n j ls st h
theorem C_in (xs : List Int) (d id : Nat) {c : mCode} {n : Nat} (hp : PP id = (c, n)) (a : List mv) (h : mM) : C xs d id 0 a h = X xs d c 0 (mPad n (mEntry a)) [] h := by show Ex PP S0 R0 (CT xs) d (PP id).1 0 (mPad (PP id).2 (mEntry a)) [] h = _; rw [hp]; rfl
end
section
set_option maxRecDepth 100000 in
theorem c_J_bitCount (xs : List Int) (d : Nat) (x0 : Int) (h : mM) : C xs d 0 0 [mI x0] h = (if inI (x0 - (fAnd (fUshr x0 1) 1431655765)) then (if inI ((fAnd (x0 - (fAnd (fUshr x0 1) 1431655765)) 858993459) + (fAnd (fUshr (x0 - (fAnd (fUshr x0 1) 1431655765)) 2) 858993459)) then (if inI (((fAnd (x0 - (fAnd (fUshr x0 1) 1431655765)) 858993459) + (fAnd (fUshr (x0 - (fAnd (fUshr x0 1) 1431655765)) 2) 858993459)) + (fUshr ((fAnd (x0 - (fAnd (fUshr x0 1) 1431655765)) 858993459) + (fAnd (fUshr (x0 - (fAnd (fUshr x0 1) 1431655765)) 2) 858993459)) 4)) then (if inI ((fAnd (((fAnd (x0 - (fAnd (fUshr x0 1) 1431655765)) 858993459) + (fAnd (fUshr (x0 - (fAnd (fUshr x0 1) 1431655765)) 2) 858993459)) + (fUshr ((fAnd (x0 - (fAnd (fUshr x0 1) 1431655765)) 858993459) + (fAnd (fUshr (x0 - (fAnd (fUshr x0 1) 1431655765)) 2) 858993459)) 4)) 252645135) + (fUshr (fAnd (((fAnd (x0 - (fAnd (fUshr x0 1) 1431655765)) 858993459) + (fAnd (fUshr (x0 - (fAnd (fUshr x0 1) 1431655765)) 2) 858993459)) + (fUshr ((fAnd (x0 - (fAnd (fUshr x0 1) 1431655765)) 858993459) + (fAnd (fUshr (x0 - (fAnd (fUshr x0 1) 1431655765)) 2) 858993459)) 4)) 252645135) 8)) then (if inI (((fAnd (((fAnd (x0 - (fAnd (fUshr x0 1) 1431655765)) 858993459) + (fAnd (fUshr (x0 - (fAnd (fUshr x0 1) 1431655765)) 2) 858993459)) + (fUshr ((fAnd (x0 - (fAnd (fUshr x0 1) 1431655765)) 858993459) + (fAnd (fUshr (x0 - (fAnd (fUshr x0 1) 1431655765)) 2) 858993459)) 4)) 252645135) + (fUshr (fAnd (((fAnd (x0 - (fAnd (fUshr x0 1) 1431655765)) 858993459) + (fAnd (fUshr (x0 - (fAnd (fUshr x0 1) 1431655765)) 2) 858993459)) + (fUshr ((fAnd (x0 - (fAnd (fUshr x0 1) 1431655765)) 858993459) + (fAnd (fUshr (x0 - (fAnd (fUshr x0 1) 1431655765)) 2) 858993459)) 4)) 252645135) 8)) + (fUshr ((fAnd (((fAnd (x0 - (fAnd (fUshr x0 1) 1431655765)) 858993459) + (fAnd (fUshr (x0 - (fAnd (fUshr x0 1) 1431655765)) 2) 858993459)) + (fUshr ((fAnd (x0 - (fAnd (fUshr x0 1) 1431655765)) 858993459) + (fAnd (fUshr (x0 - (fAnd (fUshr x0 1) 1431655765)) 2) 858993459)) 4)) 252645135) + (fUshr (fAnd (((fAnd (x0 - (fAnd (fUshr x0 1) 1431655765)) 858993459) + (fAnd (fUshr (x0 - (fAnd (fUshr x0 1) 1431655765)) 2) 858993459)) + (fUshr ((fAnd (x0 - (fAnd (fUshr x0 1) 1431655765)) 858993459) + (fAnd (fUshr (x0 - (fAnd (fUshr x0 1) 1431655765)) 2) 858993459)) 4)) 252645135) 8)) 16)) then some ([mI (fAnd (((fAnd (((fAnd (x0 - (fAnd (fUshr x0 1) 1431655765)) 858993459) + (fAnd (fUshr (x0 - (fAnd (fUshr x0 1) 1431655765)) 2) 858993459)) + (fUshr ((fAnd (x0 - (fAnd (fUshr x0 1) 1431655765)) 858993459) + (fAnd (fUshr (x0 - (fAnd (fUshr x0 1) 1431655765)) 2) 858993459)) 4)) 252645135) + (fUshr (fAnd (((fAnd (x0 - (fAnd (fUshr x0 1) 1431655765)) 858993459) + (fAnd (fUshr (x0 - (fAnd (fUshr x0 1) 1431655765)) 2) 858993459)) + (fUshr ((fAnd (x0 - (fAnd (fUshr x0 1) 1431655765)) 858993459) + (fAnd (fUshr (x0 - (fAnd (fUshr x0 1) 1431655765)) 2) 858993459)) 4)) 252645135) 8)) + (fUshr ((fAnd (((fAnd (x0 - (fAnd (fUshr x0 1) 1431655765)) 858993459) + (fAnd (fUshr (x0 - (fAnd (fUshr x0 1) 1431655765)) 2) 858993459)) + (fUshr ((fAnd (x0 - (fAnd (fUshr x0 1) 1431655765)) 858993459) + (fAnd (fUshr (x0 - (fAnd (fUshr x0 1) 1431655765)) 2) 858993459)) 4)) 252645135) + (fUshr (fAnd (((fAnd (x0 - (fAnd (fUshr x0 1) 1431655765)) 858993459) + (fAnd (fUshr (x0 - (fAnd (fUshr x0 1) 1431655765)) 2) 858993459)) + (fUshr ((fAnd (x0 - (fAnd (fUshr x0 1) 1431655765)) 858993459) + (fAnd (fUshr (x0 - (fAnd (fUshr x0 1) 1431655765)) 2) 858993459)) 4)) 252645135) 8)) 16)) 63)], h) else none) else none) else none) else none) else none) := (C_in xs d 0 p_J_bitCount _ h).trans ((X_blk xs d k_J_bitCount [] 47 0 _ _ h).trans rfl)
theorem c_Co_clear (xs : List Int) (d : Nat) (h : mM) : C xs d 226 0 [mR 38] h = (if (0 ≤ (7 : Int) ∧ 0 ≤ (0 : Int) ∧ 0 ≤ (0 : Int)) ∧ (0 : Int) + (7 : Int) ≤ 7 ∧ (0 : Int) + (7 : Int) ≤ 7 then some ([], (mCpyC (upM (upM h 38 0 0) 38 1 0) (CT xs 4) 0 39 0 7)) else none) := (C_in xs d 226 p_Co_clear _ h).trans ((X_blk xs d k_Co_clear [] 19 0 _ _ h).trans rfl)
set_option maxRecDepth 100000 in
theorem c_Co_takeFrom (xs : List Int) (d : Nat) {b0 : Nat} {b1 : Nat} (hb : (b0 = 116 ∧ b1 = 12) ∨ (b0 = 12 ∧ b1 = 38) ∨ (b0 = 12 ∧ b1 = 59) ∨ (b0 = 12 ∧ b1 = 75) ∨ (b0 = 12 ∧ b1 = 91) ∨ (b0 = 21 ∧ b1 = 12) ∨ (b0 = 59 ∧ b1 = 12) ∨ (b0 = 75 ∧ b1 = 12) ∨ (b0 = 91 ∧ b1 = 12)) (h : mM) : C xs d 227 0 [mR b0, mR b1] h = (if (0 ≤ (7 : Int) ∧ 0 ≤ (0 : Int) ∧ 0 ≤ (0 : Int)) ∧ (0 : Int) + (7 : Int) ≤ 7 ∧ (0 : Int) + (7 : Int) ≤ 7 then (if (0 ≤ (h b1 0) ∧ 0 ≤ (0 : Int) ∧ 0 ≤ (0 : Int)) ∧ (0 : Int) + (h b1 0) ≤ 7 ∧ (0 : Int) + (h b1 0) ≤ 7 then (if (0 ≤ (h b1 0) ∧ 0 ≤ (0 : Int) ∧ 0 ≤ (0 : Int)) ∧ (0 : Int) + (h b1 0) ≤ 7 ∧ (0 : Int) + (h b1 0) ≤ 7 then (if (0 ≤ (h b1 0) ∧ 0 ≤ (0 : Int) ∧ 0 ≤ (0 : Int)) ∧ (0 : Int) + (h b1 0) ≤ 7 ∧ (0 : Int) + (h b1 0) ≤ 7 then (if (0 ≤ (h b1 0) ∧ 0 ≤ (0 : Int) ∧ 0 ≤ (0 : Int)) ∧ (0 : Int) + (h b1 0) ≤ 7 ∧ (0 : Int) + (h b1 0) ≤ 7 then (if (0 ≤ (h b1 0) ∧ 0 ≤ (0 : Int) ∧ 0 ≤ (0 : Int)) ∧ (0 : Int) + (h b1 0) ≤ 7 ∧ (0 : Int) + (h b1 0) ≤ 7 then (if (0 ≤ (h b1 0) ∧ 0 ≤ (0 : Int) ∧ 0 ≤ (0 : Int)) ∧ (0 : Int) + (h b1 0) ≤ 7 ∧ (0 : Int) + (h b1 0) ≤ 7 then some ([], (mCpy (mCpy (mCpy (mCpy (mCpy (mCpy (mCpy (upM (upM h b0 0 (h b1 0)) b0 1 (h b1 1)) (b1 + 1) 0 (b0 + 1) 0 7) (b1 + 2) 0 (b0 + 2) 0 (h b1 0)) (b1 + 3) 0 (b0 + 3) 0 (h b1 0)) (b1 + 4) 0 (b0 + 4) 0 (h b1 0)) (b1 + 5) 0 (b0 + 5) 0 (h b1 0)) (b1 + 6) 0 (b0 + 6) 0 (h b1 0)) (b1 + 7) 0 (b0 + 7) 0 (h b1 0))) else none) else none) else none) else none) else none) else none) else none) := by rcases hb with ⟨rfl, rfl⟩ | ⟨rfl, rfl⟩ | ⟨rfl, rfl⟩ | ⟨rfl, rfl⟩ | ⟨rfl, rfl⟩ | ⟨rfl, rfl⟩ | ⟨rfl, rfl⟩ | ⟨rfl, rfl⟩ | ⟨rfl, rfl⟩ <;> exact (C_in xs d 227 p_Co_takeFrom _ h).trans ((X_blk xs d k_Co_takeFrom [] 76 0 _ _ h).trans rfl)
theorem c_Co_has (xs : List Int) (d : Nat) {b0 : Nat} (hb : b0 = 116 ∨ b0 = 12 ∨ b0 = 21) (x1 : Int) (h : mM) : C xs d 228 0 [mR b0, mI x1] h = (if x1 < (0 : Int) then some ([mI 0], h) else (if x1 < (h b0 0) then some ([mI 1], h) else some ([mI 0], h))) := by rcases hb with rfl | rfl | rfl <;> exact (C_in xs d 228 p_Co_has _ h).trans ((X_blk xs d k_Co_has [] 15 0 _ _ h).trans rfl)
theorem c_Co_isFull (xs : List Int) (d : Nat) {b0 : Nat} (hb : b0 = 12 ∨ b0 = 38) (h : mM) : C xs d 229 0 [mR b0] h = (if (h b0 0) < (7 : Int) then some ([mI 0], h) else some ([mI 1], h)) := by rcases hb with rfl | rfl <;> exact (C_in xs d 229 p_Co_isFull _ h).trans ((X_blk xs d k_Co_isFull [] 13 0 _ _ h).trans rfl)
theorem c_Co_add (xs : List Int) (d : Nat) {b0 : Nat} (hb : b0 = 12 ∨ b0 = 38) (x1 x2 : Int) (h : mM) : C xs d 230 0 [mR b0, mI x1, mL x2] h = (if inA (min (h b0 0) 6) 7 then (if inA (min (h b0 0) 6) 7 then (if inA (min (h b0 0) 6) 7 then (if inA (min (h b0 0) 6) 7 then (if inA (min (h b0 0) 6) 7 then (if inA (min (h b0 0) 6) 7 then (if inI ((min (h b0 0) 6) + 1) then some ([mI (min (h b0 0) 6)], (upM (upM (upM (upM (upM (upM (upM h (b0 + 2) (min (h b0 0) 6) x1) (b0 + 3) (min (h b0 0) 6) 1) (b0 + 4) (min (h b0 0) 6) 0) (b0 + 5) (min (h b0 0) 6) 2) (b0 + 6) (min (h b0 0) 6) (-1)) (b0 + 7) (min (h b0 0) 6) x2) b0 0 ((min (h b0 0) 6) + 1))) else none) else none) else none) else none) else none) else none) else none) := by rcases hb with rfl | rfl <;> exact (C_in xs d 230 p_Co_add _ h).trans ((X_blk xs d k_Co_add [] 47 0 _ _ h).trans rfl)
theorem c_Co_named (xs : List Int) (d : Nat) {b0 : Nat} (hb : b0 = 12 ∨ b0 = 38) (x1 : Int) (h : mM) : C xs d 231 0 [mR b0, mL x1] h = X xs d k_Co_named 2 [mR b0, mL x1, mC 0, mI 0] [] h := by rcases hb with rfl | rfl <;> exact (C_in xs d 231 p_Co_named _ h).trans ((X_blk xs d k_Co_named [2] 24 0 _ _ h).trans rfl)
theorem e_Co_named_2 (xs : List Int) (d : Nat) {b0 : Nat} (x1 x3 : Int) (hb : b0 = 12 ∨ b0 = 38) (h : mM) : X xs d k_Co_named 2 [mR b0, mL x1, mC 0, mI x3] [] h = (if x3 < (h b0 0) then (if inA x3 7 then (if (h (b0 + 7) x3) = x1 then some ([mI x3], h) else (if inI (x3 + 1) then X xs d k_Co_named 2 [mR b0, mL x1, mC 0, mI (x3 + 1)] [] h else none)) else none) else some ([mI (-1)], h)) := by rcases hb with rfl | rfl <;> exact ((X_blk xs d k_Co_named [2] 24 2 _ _ h).trans rfl)
theorem c_Co_hasWhom (xs : List Int) (d : Nat) {b0 : Nat} (hb : b0 = 12 ∨ b0 = 38) (x1 : Int) (h : mM) : C xs d 232 0 [mR b0, mI x1] h = (if inA x1 7 then (if (h (b0 + 6) x1) = (-1 : Int) then some ([mI 0], h) else some ([mI 1], h)) else none) := by rcases hb with rfl | rfl <;> exact (C_in xs d 232 p_Co_hasWhom _ h).trans ((X_blk xs d k_Co_hasWhom [] 15 0 _ _ h).trans rfl)
theorem c_Co_apart (xs : List Int) (d : Nat) {b0 : Nat} (hb : b0 = 116 ∨ b0 = 12 ∨ b0 = 21) (x1 x2 : Int) (h : mM) : C xs d 233 0 [mR b0, mI x1, mI x2] h = (if inA x1 7 then (if inA x2 7 then (if inI ((h (b0 + 2) x1) - (h (b0 + 2) x2)) then (if inI (-((h (b0 + 2) x1) - (h (b0 + 2) x2))) then some ([mI (if ((h (b0 + 2) x1) - (h (b0 + 2) x2)) < 0 then -((h (b0 + 2) x1) - (h (b0 + 2) x2)) else ((h (b0 + 2) x1) - (h (b0 + 2) x2)))], h) else none) else none) else none) else none) := by rcases hb with rfl | rfl | rfl <;> exact (C_in xs d 233 p_Co_apart _ h).trans ((X_blk xs d k_Co_apart [] 16 0 _ _ h).trans rfl)
theorem c_Co_warmOf (xs : List Int) (d : Nat) {b0 : Nat} (hb : b0 = 12 ∨ b0 = 21) (x1 : Int) (h : mM) : C xs d 234 0 [mR b0, mI x1] h = (if inA x1 7 then cI (C xs d 228 0 [mR b0, mI (h (b0 + 6) x1)] h) (fun v1 h1 => (if v1 = (0 : Int) then some ([mI 0], h1) else (if inA x1 7 then cI (C xs d 233 0 [mR b0, mI x1, mI (h (b0 + 6) x1)] h1) (fun v2 h2 => cI (C xs d 75 0 [mI (h1 (b0 + 1) 5), mI (h1 (b0 + 3) x1), mI v2, mI (h2 (b0 + 1) 6)] h2) (fun v3 h3 => some ([mI v3], h3))) else none))) else none) := by rcases hb with rfl | rfl <;> exact (C_in xs d 234 p_Co_warmOf _ h).trans ((X_blk xs d k_Co_warmOf [] 34 0 _ _ h).trans rfl)
theorem c_Co_isLit (xs : List Int) (d : Nat) {b0 : Nat} (hb : b0 = 116 ∨ b0 = 12 ∨ b0 = 21) (x1 : Int) (h : mM) : C xs d 235 0 [mR b0, mI x1] h = (if inA x1 7 then (if (h (b0 + 4) x1) < (h (b0 + 1) 3) then some ([mI 0], h) else some ([mI 1], h)) else none) := by rcases hb with rfl | rfl | rfl <;> exact (C_in xs d 235 p_Co_isLit _ h).trans ((X_blk xs d k_Co_isLit [] 18 0 _ _ h).trans rfl)
theorem c_Co_litSet (xs : List Int) (d : Nat) {b0 : Nat} (hb : b0 = 116 ∨ b0 = 12 ∨ b0 = 21) (h : mM) : C xs d 236 0 [mR b0] h = X xs d k_Co_litSet 4 [mR b0, mI 0, mI 0] [] h := by rcases hb with rfl | rfl | rfl <;> exact (C_in xs d 236 p_Co_litSet _ h).trans ((X_blk xs d k_Co_litSet [4, 18] 27 0 _ _ h).trans rfl)
theorem e_Co_litSet_4 (xs : List Int) (d : Nat) {b0 : Nat} (x1 x2 : Int) (hb : b0 = 116 ∨ b0 = 12 ∨ b0 = 21) (h : mM) : X xs d k_Co_litSet 4 [mR b0, mI x1, mI x2] [] h = (if x2 < (h b0 0) then cI (C xs d 235 0 [mR b0, mI x2] h) (fun v1 h1 => (if v1 = (0 : Int) then X xs d k_Co_litSet 18 [mR b0, mI x1, mI x2] [] h1 else X xs d k_Co_litSet 18 [mR b0, mI (fOr x1 (fShl 1 x2)), mI x2] [] h1)) else some ([mI x1], h)) := by rcases hb with rfl | rfl | rfl <;> exact ((X_blk xs d k_Co_litSet [4, 18] 27 4 _ _ h).trans rfl)
theorem e_Co_litSet_18 (xs : List Int) (d : Nat) {b0 : Nat} (x1 x2 : Int) (hb : b0 = 116 ∨ b0 = 12 ∨ b0 = 21) (h : mM) : X xs d k_Co_litSet 18 [mR b0, mI x1, mI x2] [] h = (if inI (x2 + 1) then X xs d k_Co_litSet 4 [mR b0, mI x1, mI (x2 + 1)] [] h else none) := by rcases hb with rfl | rfl | rfl <;> exact ((X_blk xs d k_Co_litSet [4, 18] 27 18 _ _ h).trans rfl)
theorem c_Co_toastingSet (xs : List Int) (d : Nat) (h : mM) : C xs d 237 0 [mR 12] h = X xs d k_Co_toastingSet 4 [mR 12, mI 0, mI 0] [] h := (C_in xs d 237 p_Co_toastingSet _ h).trans ((X_blk xs d k_Co_toastingSet [4, 18] 27 0 _ _ h).trans rfl)
theorem e_Co_toastingSet_4 (xs : List Int) (d : Nat) (x1 x2 : Int) (h : mM) : X xs d k_Co_toastingSet 4 [mR 12, mI x1, mI x2] [] h = (if x2 < (h 12 0) then cI (C xs d 232 0 [mR 12, mI x2] h) (fun v1 h1 => (if v1 = (0 : Int) then X xs d k_Co_toastingSet 18 [mR 12, mI x1, mI x2] [] h1 else X xs d k_Co_toastingSet 18 [mR 12, mI (fOr x1 (fShl 1 x2)), mI x2] [] h1)) else some ([mI x1], h)) := ((X_blk xs d k_Co_toastingSet [4, 18] 27 4 _ _ h).trans rfl)
theorem e_Co_toastingSet_18 (xs : List Int) (d : Nat) (x1 x2 : Int) (h : mM) : X xs d k_Co_toastingSet 18 [mR 12, mI x1, mI x2] [] h = (if inI (x2 + 1) then X xs d k_Co_toastingSet 4 [mR 12, mI x1, mI (x2 + 1)] [] h else none) := ((X_blk xs d k_Co_toastingSet [4, 18] 27 18 _ _ h).trans rfl)
theorem c_Co_warmersOf (xs : List Int) (d : Nat) (x1 : Int) (h : mM) : C xs d 238 0 [mR 12, mI x1] h = X xs d k_Co_warmersOf 4 [mR 12, mI x1, mI 0, mI 0] [] h := (C_in xs d 238 p_Co_warmersOf _ h).trans ((X_blk xs d k_Co_warmersOf [4, 20] 29 0 _ _ h).trans rfl)
theorem e_Co_warmersOf_4 (xs : List Int) (d : Nat) (x1 x2 x3 : Int) (h : mM) : X xs d k_Co_warmersOf 4 [mR 12, mI x1, mI x2, mI x3] [] h = (if x3 < (h 12 0) then (if inA x3 7 then (if (h 18 x3) = x1 then X xs d k_Co_warmersOf 20 [mR 12, mI x1, mI (fOr x2 (fShl 1 x3)), mI x3] [] h else X xs d k_Co_warmersOf 20 [mR 12, mI x1, mI x2, mI x3] [] h) else none) else some ([mI x2], h)) := ((X_blk xs d k_Co_warmersOf [4, 20] 29 4 _ _ h).trans rfl)
theorem e_Co_warmersOf_20 (xs : List Int) (d : Nat) (x1 x2 x3 : Int) (h : mM) : X xs d k_Co_warmersOf 20 [mR 12, mI x1, mI x2, mI x3] [] h = (if inI (x3 + 1) then X xs d k_Co_warmersOf 4 [mR 12, mI x1, mI x2, mI (x3 + 1)] [] h else none) := ((X_blk xs d k_Co_warmersOf [4, 20] 29 20 _ _ h).trans rfl)
theorem c_Co_allWarmth (xs : List Int) (d : Nat) {b0 : Nat} (hb : b0 = 12 ∨ b0 = 21) (h : mM) : C xs d 239 0 [mR b0] h = X xs d k_Co_allWarmth 4 [mR b0, mI 0, mI 0] [] h := by rcases hb with rfl | rfl <;> exact (C_in xs d 239 p_Co_allWarmth _ h).trans ((X_blk xs d k_Co_allWarmth [4] 24 0 _ _ h).trans rfl)
theorem e_Co_allWarmth_4 (xs : List Int) (d : Nat) {b0 : Nat} (x1 x2 : Int) (hb : b0 = 12 ∨ b0 = 21) (h : mM) : X xs d k_Co_allWarmth 4 [mR b0, mI x1, mI x2] [] h = (if x2 < (h b0 0) then (if inA x2 7 then (if inI (x1 + (h (b0 + 4) x2)) then (if inI (x2 + 1) then X xs d k_Co_allWarmth 4 [mR b0, mI (x1 + (h (b0 + 4) x2)), mI (x2 + 1)] [] h else none) else none) else none) else some ([mI x1], h)) := by rcases hb with rfl | rfl <;> exact ((X_blk xs d k_Co_allWarmth [4] 24 4 _ _ h).trans rfl)
theorem c_Co_allGlasses (xs : List Int) (d : Nat) (h : mM) : C xs d 240 0 [mR 12] h = X xs d k_Co_allGlasses 4 [mR 12, mI 0, mI 0] [] h := (C_in xs d 240 p_Co_allGlasses _ h).trans ((X_blk xs d k_Co_allGlasses [4] 24 0 _ _ h).trans rfl)
theorem e_Co_allGlasses_4 (xs : List Int) (d : Nat) (x1 x2 : Int) (h : mM) : X xs d k_Co_allGlasses 4 [mR 12, mI x1, mI x2] [] h = (if x2 < (h 12 0) then (if inA x2 7 then (if inI (x1 + (h 17 x2)) then (if inI (x2 + 1) then X xs d k_Co_allGlasses 4 [mR 12, mI (x1 + (h 17 x2)), mI (x2 + 1)] [] h else none) else none) else none) else some ([mI x1], h)) := ((X_blk xs d k_Co_allGlasses [4] 24 4 _ _ h).trans rfl)
theorem c_Co_warmthAsOne (xs : List Int) (d : Nat) (h : mM) : C xs d 241 0 [mR 21] h = X xs d k_Co_warmthAsOne 4 [mR 21, mL 0, mC 0, mI 0] [] h := (C_in xs d 241 p_Co_warmthAsOne _ h).trans ((X_blk xs d k_Co_warmthAsOne [4] 27 0 _ _ h).trans rfl)
theorem e_Co_warmthAsOne_4 (xs : List Int) (d : Nat) (x1 x3 : Int) (h : mM) : X xs d k_Co_warmthAsOne 4 [mR 21, mL x1, mC 0, mI x3] [] h = (if x3 < (h 21 0) then (if inA x3 7 then (if inI (x3 + 1) then X xs d k_Co_warmthAsOne 4 [mR 21, mL (fLor (fLshl x1 7) (h 25 x3)), mC 0, mI (x3 + 1)] [] h else none) else none) else some ([mL x1], h)) := ((X_blk xs d k_Co_warmthAsOne [4] 27 4 _ _ h).trans rfl)
theorem c_Co_canDrink (xs : List Int) (d : Nat) {b0 : Nat} (hb : b0 = 116 ∨ b0 = 12 ∨ b0 = 21) (x1 : Int) (h : mM) : C xs d 242 0 [mR b0, mI x1] h = (if inA x1 7 then cI (C xs d 228 0 [mR b0, mI (h (b0 + 6) x1)] h) (fun v1 h1 => (if v1 = (0 : Int) then some ([mI 0], h1) else (if inA x1 7 then (if (0 : Int) < (h1 (b0 + 5) x1) then some ([mI 1], h1) else some ([mI 0], h1)) else none))) else none) := by rcases hb with rfl | rfl | rfl <;> exact (C_in xs d 242 p_Co_canDrink _ h).trans ((X_blk xs d k_Co_canDrink [] 21 0 _ _ h).trans rfl)
theorem c_Co_letDrink (xs : List Int) (d : Nat) {b0 : Nat} (hb : b0 = 116 ∨ b0 = 12 ∨ b0 = 21) (x1 : Int) (h : mM) : C xs d 243 0 [mR b0, mI x1] h = (if inA x1 7 then (if inA x1 7 then cI (C xs d 233 0 [mR b0, mI x1, mI (h (b0 + 6) x1)] h) (fun v1 h1 => cI (C xs d 75 0 [mI (h (b0 + 1) 5), mI (h (b0 + 3) x1), mI v1, mI (h1 (b0 + 1) 6)] h1) (fun v2 h2 => (if inA x1 7 then (if inI ((h2 (b0 + 5) x1) - 1) then (if inA x1 7 then (if inA (h (b0 + 6) x1) 7 then (if inI ((h2 (b0 + 4) (h (b0 + 6) x1)) + v2) then (if inA (h (b0 + 6) x1) 7 then (if inA (h (b0 + 6) x1) 7 then some ([mI ((upM (upM h2 (b0 + 5) x1 ((h2 (b0 + 5) x1) - 1)) (b0 + 4) (h (b0 + 6) x1) (min 99 ((h2 (b0 + 4) (h (b0 + 6) x1)) + v2))) (b0 + 4) (h (b0 + 6) x1))], (upM (upM h2 (b0 + 5) x1 ((h2 (b0 + 5) x1) - 1)) (b0 + 4) (h (b0 + 6) x1) (min 99 ((h2 (b0 + 4) (h (b0 + 6) x1)) + v2)))) else none) else none) else none) else none) else none) else none) else none))) else none) else none) := by rcases hb with rfl | rfl | rfl <;> exact (C_in xs d 243 p_Co_letDrink _ h).trans ((X_blk xs d k_Co_letDrink [] 53 0 _ _ h).trans rfl)
theorem c_Co_hasNights (xs : List Int) (d : Nat) {b0 : Nat} (hb : b0 = 12 ∨ b0 = 21) (x1 : Int) (h : mM) : C xs d 244 0 [mR b0, mI x1] h = (if inI ((h b0 1) + x1) then (if (9999 : Int) < ((h b0 1) + x1) then some ([mI 0], h) else some ([mI 1], h)) else none) := by rcases hb with rfl | rfl <;> exact (C_in xs d 244 p_Co_hasNights _ h).trans ((X_blk xs d k_Co_hasNights [] 15 0 _ _ h).trans rfl)
theorem c_Co_warmthIn (xs : List Int) (d : Nat) {b0 : Nat} (hb : b0 = 116 ∨ b0 = 12 ∨ b0 = 21) (x1 x2 : Int) (h : mM) : C xs d 245 0 [mR b0, mI x1, mI x2] h = (if inA x1 7 then (if inI (x2 * (h (b0 + 1) 4)) then (if inI ((h (b0 + 4) x1) - (x2 * (h (b0 + 1) 4))) then some ([mI (max 0 ((h (b0 + 4) x1) - (x2 * (h (b0 + 1) 4))))], h) else none) else none) else none) := by rcases hb with rfl | rfl | rfl <;> exact (C_in xs d 245 p_Co_warmthIn _ h).trans ((X_blk xs d k_Co_warmthIn [] 19 0 _ _ h).trans rfl)
theorem c_Co_passNights (xs : List Int) (d : Nat) {b0 : Nat} (hb : b0 = 12 ∨ b0 = 21) (x1 : Int) (h : mM) : C xs d 246 0 [mR b0, mI x1] h = (if inI ((h b0 1) + x1) then X xs d k_Co_passNights 8 [mR b0, mI x1, mI 0] [] (upM h b0 1 ((h b0 1) + x1)) else none) := by rcases hb with rfl | rfl <;> exact (C_in xs d 246 p_Co_passNights _ h).trans ((X_blk xs d k_Co_passNights [8] 28 0 _ _ h).trans rfl)
theorem e_Co_passNights_8 (xs : List Int) (d : Nat) {b0 : Nat} (x1 x2 : Int) (hb : b0 = 12 ∨ b0 = 21) (h : mM) : X xs d k_Co_passNights 8 [mR b0, mI x1, mI x2] [] h = (if x2 < (h b0 0) then cI (C xs d 245 0 [mR b0, mI x2, mI x1] h) (fun v1 h1 => (if inA x2 7 then (if inI (x2 + 1) then X xs d k_Co_passNights 8 [mR b0, mI x1, mI (x2 + 1)] [] (upM h1 (b0 + 4) x2 v1) else none) else none)) else some ([], h)) := by rcases hb with rfl | rfl <;> exact ((X_blk xs d k_Co_passNights [8] 28 8 _ _ h).trans rfl)
theorem c_Co_passEvening (xs : List Int) (d : Nat) {b0 : Nat} (hb : b0 = 12 ∨ b0 = 21) (x1 : Int) (h : mM) : C xs d 247 0 [mR b0, mI x1] h = X xs d k_Co_passEvening 2 [mR b0, mI x1, mI 0, mC 0] [] h := by rcases hb with rfl | rfl <;> exact (C_in xs d 247 p_Co_passEvening _ h).trans ((X_blk xs d k_Co_passEvening [2, 17, 54, 58] 89 0 _ _ h).trans rfl)
theorem e_Co_passEvening_2 (xs : List Int) (d : Nat) {b0 : Nat} (x1 x2 : Int) (hb : b0 = 12 ∨ b0 = 21) (h : mM) : X xs d k_Co_passEvening 2 [mR b0, mI x1, mI x2, mC 0] [] h = (if x2 < (h b0 0) then (if inA x2 7 then (if inI (x2 + 1) then X xs d k_Co_passEvening 2 [mR b0, mI x1, mI (x2 + 1), mC 0] [] (upM h (b0 + 8) x2 0) else none) else none) else X xs d k_Co_passEvening 17 [mR b0, mI x1, mI 0, mI 0] [] h) := by rcases hb with rfl | rfl <;> exact ((X_blk xs d k_Co_passEvening [2, 17, 54, 58] 89 2 _ _ h).trans rfl)
theorem e_Co_passEvening_17 (xs : List Int) (d : Nat) {b0 : Nat} (x1 x2 x3 : Int) (hb : b0 = 12 ∨ b0 = 21) (h : mM) : X xs d k_Co_passEvening 17 [mR b0, mI x1, mI x2, mI x3] [] h = (if x3 < (h b0 0) then (if x3 = x1 then X xs d k_Co_passEvening 54 [mR b0, mI x1, mI x2, mI x3] [] h else cI (C xs d 235 0 [mR b0, mI x3] h) (fun v1 h1 => (if v1 = (0 : Int) then X xs d k_Co_passEvening 54 [mR b0, mI x1, mI x2, mI x3] [] h1 else (if inA x3 7 then cI (C xs d 228 0 [mR b0, mI (h1 (b0 + 6) x3)] h1) (fun v2 h2 => (if v2 = (0 : Int) then X xs d k_Co_passEvening 54 [mR b0, mI x1, mI x2, mI x3] [] h2 else (if inA x3 7 then (if inA (h2 (b0 + 6) x3) 7 then cI (C xs d 234 0 [mR b0, mI x3] h2) (fun v3 h3 => (if inI ((h2 (b0 + 8) (h2 (b0 + 6) x3)) + v3) then (if inA (h2 (b0 + 6) x3) 7 then X xs d k_Co_passEvening 54 [mR b0, mI x1, mI (fOr x2 (fShl 1 x3)), mI x3] [] (upM h3 (b0 + 8) (h2 (b0 + 6) x3) ((h2 (b0 + 8) (h2 (b0 + 6) x3)) + v3)) else none) else none)) else none) else none))) else none)))) else X xs d k_Co_passEvening 58 [mR b0, mI x1, mI x2, mI 0] [] h) := by rcases hb with rfl | rfl <;> exact ((X_blk xs d k_Co_passEvening [2, 17, 54, 58] 89 17 _ _ h).trans rfl)
theorem e_Co_passEvening_54 (xs : List Int) (d : Nat) {b0 : Nat} (x1 x2 x3 : Int) (hb : b0 = 12 ∨ b0 = 21) (h : mM) : X xs d k_Co_passEvening 54 [mR b0, mI x1, mI x2, mI x3] [] h = (if inI (x3 + 1) then X xs d k_Co_passEvening 17 [mR b0, mI x1, mI x2, mI (x3 + 1)] [] h else none) := by rcases hb with rfl | rfl <;> exact ((X_blk xs d k_Co_passEvening [2, 17, 54, 58] 89 54 _ _ h).trans rfl)
theorem e_Co_passEvening_58 (xs : List Int) (d : Nat) {b0 : Nat} (x1 x2 x3 : Int) (hb : b0 = 12 ∨ b0 = 21) (h : mM) : X xs d k_Co_passEvening 58 [mR b0, mI x1, mI x2, mI x3] [] h = (if x3 < (h b0 0) then (if inA x3 7 then (if inA x3 7 then (if inI ((h (b0 + 4) x3) + (h (b0 + 8) x3)) then (if inA x3 7 then (if inI (x3 + 1) then X xs d k_Co_passEvening 58 [mR b0, mI x1, mI x2, mI (x3 + 1)] [] (upM h (b0 + 4) x3 (min 99 ((h (b0 + 4) x3) + (h (b0 + 8) x3)))) else none) else none) else none) else none) else none) else cV (C xs d 246 0 [mR b0, mI 1] h) (fun h1 => some ([mI x2], h1))) := by rcases hb with rfl | rfl <;> exact ((X_blk xs d k_Co_passEvening [2, 17, 54, 58] 89 58 _ _ h).trans rfl)
theorem c_Co_chainLength (xs : List Int) (d : Nat) (x1 : Int) (h : mM) : C xs d 248 0 [mR 12, mI x1] h = X xs d k_Co_chainLength 6 [mR 12, mI x1, mI 0, mI x1, mI 0] [] h := (C_in xs d 248 p_Co_chainLength _ h).trans ((X_blk xs d k_Co_chainLength [6] 41 0 _ _ h).trans rfl)
theorem e_Co_chainLength_6 (xs : List Int) (d : Nat) (x1 x2 x3 x4 : Int) (h : mM) : X xs d k_Co_chainLength 6 [mR 12, mI x1, mI x2, mI x3, mI x4] [] h = (if x4 < (h 12 0) then cI (C xs d 228 0 [mR 12, mI x3] h) (fun v2 h2 => (if v2 = (0 : Int) then cI (C xs d 0 0 [mI x2] h2) (fun v3 h3 => some ([mI v3], h3)) else (if (fAnd x2 (fShl 1 x3)) = (0 : Int) then (if inA x3 7 then (if inI (x4 + 1) then X xs d k_Co_chainLength 6 [mR 12, mI x1, mI (fOr x2 (fShl 1 x3)), mI (h2 18 x3), mI (x4 + 1)] [] h2 else none) else none) else cI (C xs d 0 0 [mI x2] h2) (fun v4 h4 => some ([mI v4], h4))))) else cI (C xs d 0 0 [mI x2] h) (fun v1 h1 => some ([mI v1], h1))) := ((X_blk xs d k_Co_chainLength [6] 41 6 _ _ h).trans rfl)
theorem c_Co_alongChain (xs : List Int) (d : Nat) (x1 x2 : Int) (h : mM) : C xs d 249 0 [mR 12, mI x1, mI x2] h = X xs d k_Co_alongChain 4 [mR 12, mI x1, mI x2, mI x1, mI 0] [] h := (C_in xs d 249 p_Co_alongChain _ h).trans ((X_blk xs d k_Co_alongChain [4] 32 0 _ _ h).trans rfl)
theorem e_Co_alongChain_4 (xs : List Int) (d : Nat) (x1 x2 x3 x4 : Int) (h : mM) : X xs d k_Co_alongChain 4 [mR 12, mI x1, mI x2, mI x3, mI x4] [] h = (if x4 < x2 then (if x4 < (h 12 0) then (if inA x3 7 then cI (C xs d 228 0 [mR 12, mI (h 18 x3)] h) (fun v1 h1 => (if v1 = (0 : Int) then some ([mI x3], h1) else (if inA x3 7 then (if inI (x4 + 1) then X xs d k_Co_alongChain 4 [mR 12, mI x1, mI x2, mI (h1 18 x3), mI (x4 + 1)] [] h1 else none) else none))) else none) else some ([mI x3], h)) else some ([mI x3], h)) := ((X_blk xs d k_Co_alongChain [4] 32 4 _ _ h).trans rfl)
theorem c_Co_isInRing (xs : List Int) (d : Nat) (x1 : Int) (h : mM) : C xs d 250 0 [mR 12, mI x1] h = (if inA x1 7 then X xs d k_Co_isInRing 7 [mR 12, mI x1, mI (h 18 x1), mI 0] [] h else none) := (C_in xs d 250 p_Co_isInRing _ h).trans ((X_blk xs d k_Co_isInRing [7] 37 0 _ _ h).trans rfl)
theorem e_Co_isInRing_7 (xs : List Int) (d : Nat) (x1 x2 x3 : Int) (h : mM) : X xs d k_Co_isInRing 7 [mR 12, mI x1, mI x2, mI x3] [] h = (if x3 < (h 12 0) then cI (C xs d 228 0 [mR 12, mI x2] h) (fun v1 h1 => (if v1 = (0 : Int) then (if x2 = x1 then some ([mI 1], h1) else some ([mI 0], h1)) else (if x2 = x1 then (if x2 = x1 then some ([mI 1], h1) else some ([mI 0], h1)) else (if inA x2 7 then (if inI (x3 + 1) then X xs d k_Co_isInRing 7 [mR 12, mI x1, mI (h1 18 x2), mI (x3 + 1)] [] h1 else none) else none)))) else (if x2 = x1 then some ([mI 1], h) else some ([mI 0], h))) := ((X_blk xs d k_Co_isInRing [7] 37 7 _ _ h).trans rfl)
theorem c_Co_leadsRing (xs : List Int) (d : Nat) (x1 : Int) (h : mM) : C xs d 251 0 [mR 12, mI x1] h = (if inA x1 7 then X xs d k_Co_leadsRing 7 [mR 12, mI x1, mI (h 18 x1), mI 0] [] h else none) := (C_in xs d 251 p_Co_leadsRing _ h).trans ((X_blk xs d k_Co_leadsRing [7] 41 0 _ _ h).trans rfl)
theorem e_Co_leadsRing_7 (xs : List Int) (d : Nat) (x1 x2 x3 : Int) (h : mM) : X xs d k_Co_leadsRing 7 [mR 12, mI x1, mI x2, mI x3] [] h = (if x3 < (h 12 0) then cI (C xs d 228 0 [mR 12, mI x2] h) (fun v2 h2 => (if v2 = (0 : Int) then (if x2 = x1 then cI (C xs d 250 0 [mR 12, mI x1] h2) (fun v3 h3 => (if v3 = (0 : Int) then some ([mI 0], h3) else some ([mI 1], h3))) else some ([mI 0], h2)) else (if x1 < x2 then (if inA x2 7 then (if inI (x3 + 1) then X xs d k_Co_leadsRing 7 [mR 12, mI x1, mI (h2 18 x2), mI (x3 + 1)] [] h2 else none) else none) else (if x2 = x1 then cI (C xs d 250 0 [mR 12, mI x1] h2) (fun v4 h4 => (if v4 = (0 : Int) then some ([mI 0], h4) else some ([mI 1], h4))) else some ([mI 0], h2))))) else (if x2 = x1 then cI (C xs d 250 0 [mR 12, mI x1] h) (fun v1 h1 => (if v1 = (0 : Int) then some ([mI 0], h1) else some ([mI 1], h1))) else some ([mI 0], h))) := ((X_blk xs d k_Co_leadsRing [7] 41 7 _ _ h).trans rfl)
theorem c_Co_drinksTo (xs : List Int) (d : Nat) (x1 : Int) (h : mM) : C xs d 252 0 [mR 12, mI x1] h = (if inA x1 7 then (if inI ((h 13 3) - (h 16 x1)) then cI (C xs d 238 0 [mR 12, mI x1] h) (fun v1 h1 => X xs d k_Co_drinksTo 18 [mR 12, mI x1, mI ((h 13 3) - (h 16 x1)), mI v1, mI 0, mI 0, mC 0, mC 0, mC 0] [] h1) else none) else none) := (C_in xs d 252 p_Co_drinksTo _ h).trans ((X_blk xs d k_Co_drinksTo [18] 82 0 _ _ h).trans rfl)
theorem e_Co_drinksTo_18 (xs : List Int) (d : Nat) (x1 x2 x3 x4 x5 : Int) (x6 x7 x8 : mv) (h : mM) : X xs d k_Co_drinksTo 18 [mR 12, mI x1, mI x2, mI x3, mI x4, mI x5, x6, x7, x8] [] h = (if x5 < (7 : Int) then (if (0 : Int) < x2 then cI (C xs d 253 0 [mR 12, mI x3] h) (fun v1 h1 => (if v1 = (-1 : Int) then some ([mI (-1)], h1) else cI (C xs d 234 0 [mR 12, mI v1] h1) (fun v2 h2 => (if inA v1 7 then (if inI (x2 + (max 1 v2)) then (if inI ((x2 + (max 1 v2)) - 1) then (if 0 ≤ ((x2 + (max 1 v2)) - 1) ∧ 0 < (max 1 v2) then (if inI (x4 + (min (h2 17 v1) (((x2 + (max 1 v2)) - 1) / (max 1 v2)))) then (if inI ((min (h2 17 v1) (((x2 + (max 1 v2)) - 1) / (max 1 v2))) * (max 1 v2)) then (if inI (x2 - ((min (h2 17 v1) (((x2 + (max 1 v2)) - 1) / (max 1 v2))) * (max 1 v2))) then (if inI (x5 + 1) then X xs d k_Co_drinksTo 18 [mR 12, mI x1, mI (x2 - ((min (h2 17 v1) (((x2 + (max 1 v2)) - 1) / (max 1 v2))) * (max 1 v2))), mI (fAnd x3 (fXor (fShl 1 v1) (-1))), mI (x4 + (min (h2 17 v1) (((x2 + (max 1 v2)) - 1) / (max 1 v2)))), mI (x5 + 1), mI v1, mI (max 1 v2), mI (min (h2 17 v1) (((x2 + (max 1 v2)) - 1) / (max 1 v2)))] [] h2 else none) else none) else none) else none) else none) else none) else none) else none)))) else (if (0 : Int) < x2 then some ([mI (-1)], h) else some ([mI x4], h))) else (if (0 : Int) < x2 then some ([mI (-1)], h) else some ([mI x4], h))) := ((X_blk xs d k_Co_drinksTo [18] 82 18 _ _ h).trans rfl)
theorem c_Co_warmestOf (xs : List Int) (d : Nat) (x1 : Int) (h : mM) : C xs d 253 0 [mR 12, mI x1] h = X xs d k_Co_warmestOf 6 [mR 12, mI x1, mI (-1), mI 0, mI 0] [] h := (C_in xs d 253 p_Co_warmestOf _ h).trans ((X_blk xs d k_Co_warmestOf [6, 27] 36 0 _ _ h).trans rfl)
theorem e_Co_warmestOf_6 (xs : List Int) (d : Nat) (x1 x2 x3 x4 : Int) (h : mM) : X xs d k_Co_warmestOf 6 [mR 12, mI x1, mI x2, mI x3, mI x4] [] h = (if x4 < (h 12 0) then (if (fAnd x1 (fShl 1 x4)) = (0 : Int) then X xs d k_Co_warmestOf 27 [mR 12, mI x1, mI x2, mI x3, mI x4] [] h else cI (C xs d 234 0 [mR 12, mI x4] h) (fun v1 h1 => (if x3 < v1 then cI (C xs d 234 0 [mR 12, mI x4] h1) (fun v2 h2 => X xs d k_Co_warmestOf 27 [mR 12, mI x1, mI x4, mI v2, mI x4] [] h2) else X xs d k_Co_warmestOf 27 [mR 12, mI x1, mI x2, mI x3, mI x4] [] h1))) else some ([mI x2], h)) := ((X_blk xs d k_Co_warmestOf [6, 27] 36 6 _ _ h).trans rfl)
theorem e_Co_warmestOf_27 (xs : List Int) (d : Nat) (x1 x2 x3 x4 : Int) (h : mM) : X xs d k_Co_warmestOf 27 [mR 12, mI x1, mI x2, mI x3, mI x4] [] h = (if inI (x4 + 1) then X xs d k_Co_warmestOf 6 [mR 12, mI x1, mI x2, mI x3, mI (x4 + 1)] [] h else none) := ((X_blk xs d k_Co_warmestOf [6, 27] 36 27 _ _ h).trans rfl)
theorem c_Co_mostLit (xs : List Int) (d : Nat) (x1 : Int) (h : mM) : C xs d 254 0 [mR 12, mI x1] h = X xs d k_Co_mostLit 2 [mR 12, mI x1, mI 0, mC 0] [] h := (C_in xs d 254 p_Co_mostLit _ h).trans ((X_blk xs d k_Co_mostLit [2, 19, 37] 46 0 _ _ h).trans rfl)
theorem e_Co_mostLit_2 (xs : List Int) (d : Nat) (x1 x2 : Int) (h : mM) : X xs d k_Co_mostLit 2 [mR 12, mI x1, mI x2, mC 0] [] h = (if x2 < (h 12 0) then cI (C xs d 252 0 [mR 12, mI x2] h) (fun v1 h1 => (if inA x2 7 then (if inI (x2 + 1) then X xs d k_Co_mostLit 2 [mR 12, mI x1, mI (x2 + 1), mC 0] [] (upM h1 20 x2 v1) else none) else none)) else X xs d k_Co_mostLit 19 [mR 12, mI x1, mI 0, mI 1] [] h) := ((X_blk xs d k_Co_mostLit [2, 19, 37] 46 2 _ _ h).trans rfl)
theorem e_Co_mostLit_19 (xs : List Int) (d : Nat) (x1 x2 x3 : Int) (h : mM) : X xs d k_Co_mostLit 19 [mR 12, mI x1, mI x2, mI x3] [] h = (if x3 < (fShl 1 (h 12 0)) then cI (C xs d 0 0 [mI x3] h) (fun v1 h1 => cI (C xs d 0 0 [mI x2] h1) (fun v2 h2 => (if v2 < v1 then cI (C xs d 255 0 [mR 12, mI x3, mI x1] h2) (fun v3 h3 => (if v3 = (0 : Int) then X xs d k_Co_mostLit 37 [mR 12, mI x1, mI x2, mI x3] [] h3 else X xs d k_Co_mostLit 37 [mR 12, mI x1, mI x3, mI x3] [] h3)) else X xs d k_Co_mostLit 37 [mR 12, mI x1, mI x2, mI x3] [] h2))) else some ([mI x2], h)) := ((X_blk xs d k_Co_mostLit [2, 19, 37] 46 19 _ _ h).trans rfl)
theorem e_Co_mostLit_37 (xs : List Int) (d : Nat) (x1 x2 x3 : Int) (h : mM) : X xs d k_Co_mostLit 37 [mR 12, mI x1, mI x2, mI x3] [] h = (if inI (x3 + 1) then X xs d k_Co_mostLit 19 [mR 12, mI x1, mI x2, mI (x3 + 1)] [] h else none) := ((X_blk xs d k_Co_mostLit [2, 19, 37] 46 37 _ _ h).trans rfl)
theorem c_Co_canAllBeLit (xs : List Int) (d : Nat) (x1 x2 : Int) (h : mM) : C xs d 255 0 [mR 12, mI x1, mI x2] h = X xs d k_Co_canAllBeLit 4 [mR 12, mI x1, mI x2, mI 0, mI 0] [] h := (C_in xs d 255 p_Co_canAllBeLit _ h).trans ((X_blk xs d k_Co_canAllBeLit [4, 29] 43 0 _ _ h).trans rfl)
theorem e_Co_canAllBeLit_4 (xs : List Int) (d : Nat) (x1 x2 x3 x4 : Int) (h : mM) : X xs d k_Co_canAllBeLit 4 [mR 12, mI x1, mI x2, mI x3, mI x4] [] h = (if x4 < (h 12 0) then (if (fAnd x1 (fShl 1 x4)) = (0 : Int) then X xs d k_Co_canAllBeLit 29 [mR 12, mI x1, mI x2, mI x3, mI x4] [] h else (if inA x4 7 then (if (h 20 x4) = (-1 : Int) then some ([mI 0], h) else (if inA x4 7 then (if inI (x3 + (h 20 x4)) then X xs d k_Co_canAllBeLit 29 [mR 12, mI x1, mI x2, mI (x3 + (h 20 x4)), mI x4] [] h else none) else none)) else none)) else (if x2 < x3 then some ([mI 0], h) else some ([mI 1], h))) := ((X_blk xs d k_Co_canAllBeLit [4, 29] 43 4 _ _ h).trans rfl)
theorem e_Co_canAllBeLit_29 (xs : List Int) (d : Nat) (x1 x2 x3 x4 : Int) (h : mM) : X xs d k_Co_canAllBeLit 29 [mR 12, mI x1, mI x2, mI x3, mI x4] [] h = (if inI (x4 + 1) then X xs d k_Co_canAllBeLit 4 [mR 12, mI x1, mI x2, mI x3, mI (x4 + 1)] [] h else none) := ((X_blk xs d k_Co_canAllBeLit [4, 29] 43 29 _ _ h).trans rfl)
theorem c_Ga_worth (xs : List Int) (d : Nat) (h : mM) : C xs d 257 0 [mR 115] h = some ([mI (h 115 2)], h) := (C_in xs d 257 p_Ga_worth _ h).trans ((X_blk xs d k_Ga_worth [] 8 0 _ _ h).trans rfl)
theorem c_Ga_firstMove (xs : List Int) (d : Nat) (h : mM) : C xs d 258 0 [mR 115] h = some ([mI (h 115 3)], h) := (C_in xs d 258 p_Ga_firstMove _ h).trans ((X_blk xs d k_Ga_firstMove [] 8 0 _ _ h).trans rfl)
theorem c_Ga_playOut (xs : List Int) (d : Nat) (x2 : Int) (h : mM) : C xs d 259 0 [mR 115, mR 12, mI x2] h = cV (C xs d 227 0 [mR 116, mR 12] h) (fun h1 => (if (min x2 4) < (1 : Int) then cI (C xs d 260 0 [mR 115] (upM (upM h1 115 1 (min x2 4)) 115 3 (-1))) (fun v2 h2 => some ([], (upM h2 115 2 v2))) else (if inI ((h1 116 0) + 1) then X xs d k_Ga_playOut 32 [mR 115, mR 12, mI x2, mI ((h1 116 0) + 1), mI 0, mC 0] [] (upM (upM (upM h1 115 1 (min x2 4)) 115 3 (-1)) 115 2 (-1)) else none))) := (C_in xs d 259 p_Ga_playOut _ h).trans ((X_blk xs d k_Ga_playOut [32, 60] 85 0 _ _ h).trans rfl)
theorem e_Ga_playOut_32 (xs : List Int) (d : Nat) (x2 x3 x4 : Int) (x5 : mv) (h : mM) : X xs d k_Ga_playOut 32 [mR 115, mR 12, mI x2, mI x3, mI x4, x5] [] h = (if x4 < (h 116 0) then cI (C xs d 242 0 [mR 116, mI x4] h) (fun v2 h2 => (if v2 = (0 : Int) then X xs d k_Ga_playOut 60 [mR 115, mR 12, mI x2, mI x3, mI x4, x5] [] h2 else cI (C xs d 262 0 [mR 115, mI x4, mI 0, mI (h2 115 2), mI x3] h2) (fun v3 h3 => (if (h3 115 2) < v3 then X xs d k_Ga_playOut 60 [mR 115, mR 12, mI x2, mI x3, mI x4, mI v3] [] (upM (upM h3 115 2 v3) 115 3 x4) else X xs d k_Ga_playOut 60 [mR 115, mR 12, mI x2, mI x3, mI x4, mI v3] [] h3)))) else cI (C xs d 263 0 [mR 115, mI 1, mI (h 115 2), mI x3] h) (fun v1 h1 => (if (h1 115 2) < v1 then some ([], (upM (upM h1 115 2 v1) 115 3 (-1))) else some ([], h1)))) := ((X_blk xs d k_Ga_playOut [32, 60] 85 32 _ _ h).trans rfl)
theorem e_Ga_playOut_60 (xs : List Int) (d : Nat) (x2 x3 x4 : Int) (x5 : mv) (h : mM) : X xs d k_Ga_playOut 60 [mR 115, mR 12, mI x2, mI x3, mI x4, x5] [] h = (if inI (x4 + 1) then X xs d k_Ga_playOut 32 [mR 115, mR 12, mI x2, mI x3, mI (x4 + 1), x5] [] h else none) := ((X_blk xs d k_Ga_playOut [32, 60] 85 60 _ _ h).trans rfl)
theorem c_Ga_litCount (xs : List Int) (d : Nat) (h : mM) : C xs d 260 0 [mR 115] h = cI (C xs d 236 0 [mR 116] h) (fun v1 h1 => cI (C xs d 0 0 [mI v1] h1) (fun v2 h2 => some ([mI v2], h2))) := (C_in xs d 260 p_Ga_litCount _ h).trans ((X_blk xs d k_Ga_litCount [] 10 0 _ _ h).trans rfl)
theorem c_Ga_butler (xs : List Int) (d : Nat) (x1 x2 x3 : Int) (h : mM) : C xs d 261 0 [mR 115, mI x1, mI x2, mI x3] h = (if x1 < (h 115 1) then (if inI (x1 + 1) then cI (C xs d 263 0 [mR 115, mI (x1 + 1), mI x2, mI x3] h) (fun v1 h1 => X xs d k_Ga_butler 17 [mR 115, mI x1, mI x2, mI x3, mI v1, mI 0] [] h1) else none) else cI (C xs d 260 0 [mR 115] h) (fun v2 h2 => some ([mI v2], h2))) := (C_in xs d 261 p_Ga_butler _ h).trans ((X_blk xs d k_Ga_butler [17, 41] 50 0 _ _ h).trans rfl)
theorem e_Ga_butler_17 (xs : List Int) (d : Nat) (x1 x2 x3 x4 x5 : Int) (h : mM) : X xs d k_Ga_butler 17 [mR 115, mI x1, mI x2, mI x3, mI x4, mI x5] [] h = (if x5 < (h 116 0) then (if x4 < x3 then cI (C xs d 242 0 [mR 116, mI x5] h) (fun v1 h1 => (if v1 = (0 : Int) then X xs d k_Ga_butler 41 [mR 115, mI x1, mI x2, mI x3, mI x4, mI x5] [] h1 else cI (C xs d 262 0 [mR 115, mI x5, mI x1, mI (max x2 x4), mI x3] h1) (fun v2 h2 => X xs d k_Ga_butler 41 [mR 115, mI x1, mI x2, mI x3, mI (max x4 v2), mI x5] [] h2))) else some ([mI x4], h)) else some ([mI x4], h)) := ((X_blk xs d k_Ga_butler [17, 41] 50 17 _ _ h).trans rfl)
theorem e_Ga_butler_41 (xs : List Int) (d : Nat) (x1 x2 x3 x4 x5 : Int) (h : mM) : X xs d k_Ga_butler 41 [mR 115, mI x1, mI x2, mI x3, mI x4, mI x5] [] h = (if inI (x5 + 1) then X xs d k_Ga_butler 17 [mR 115, mI x1, mI x2, mI x3, mI x4, mI (x5 + 1)] [] h else none) := ((X_blk xs d k_Ga_butler [17, 41] 50 41 _ _ h).trans rfl)
theorem c_Ga_behindDrink (xs : List Int) (d : Nat) (x1 x2 x3 x4 : Int) (h : mM) : C xs d 262 0 [mR 115, mI x1, mI x2, mI x3, mI x4] h = (if inA x1 7 then (if inA (h 122 x1) 7 then cI (C xs d 243 0 [mR 116, mI x1] h) (fun v1 h1 => (if inI (x2 + 1) then cI (C xs d 263 0 [mR 115, mI (x2 + 1), mI x3, mI x4] h1) (fun v2 h2 => (if inA x1 7 then (if inI ((h2 121 x1) + 1) then (if inA x1 7 then (if inA (h 122 x1) 7 then some ([mI v2], (upM (upM h2 121 x1 ((h2 121 x1) + 1)) 120 (h 122 x1) (h 120 (h 122 x1)))) else none) else none) else none) else none)) else none)) else none) else none) := (C_in xs d 262 p_Ga_behindDrink _ h).trans ((X_blk xs d k_Ga_behindDrink [] 47 0 _ _ h).trans rfl)
theorem c_Ga_draught (xs : List Int) (d : Nat) (x1 x2 x3 : Int) (h : mM) : C xs d 263 0 [mR 115, mI x1, mI x2, mI x3] h = (if x1 < (h 115 1) then (if inI (x1 + 1) then cI (C xs d 261 1 [mR 115, mI (x1 + 1), mI x2, mI x3] h) (fun v1 h1 => X xs d k_Ga_draught 17 [mR 115, mI x1, mI x2, mI x3, mI v1, mI 0, mC 0, mC 0] [] h1) else none) else cI (C xs d 260 0 [mR 115] h) (fun v2 h2 => some ([mI v2], h2))) := (C_in xs d 263 p_Ga_draught _ h).trans ((X_blk xs d k_Ga_draught [17, 64] 73 0 _ _ h).trans rfl)
theorem e_Ga_draught_17 (xs : List Int) (d : Nat) (x1 x2 x3 x4 x5 : Int) (x6 x7 : mv) (h : mM) : X xs d k_Ga_draught 17 [mR 115, mI x1, mI x2, mI x3, mI x4, mI x5, x6, x7] [] h = (if x5 < (h 116 0) then (if x2 < x4 then (if inA x5 7 then cI (C xs d 245 0 [mR 116, mI x5, mI 1] h) (fun v1 h1 => (if v1 < (h 120 x5) then (if inA x5 7 then (if inI (x1 + 1) then cI (C xs d 261 1 [mR 115, mI (x1 + 1), mI x2, mI (min x3 x4)] (upM h1 120 x5 v1)) (fun v2 h2 => (if inA x5 7 then X xs d k_Ga_draught 64 [mR 115, mI x1, mI x2, mI x3, mI (min x4 v2), mI x5, mI (h 120 x5), mI v1] [] (upM h2 120 x5 (h 120 x5)) else none)) else none) else none) else X xs d k_Ga_draught 64 [mR 115, mI x1, mI x2, mI x3, mI x4, mI x5, mI (h 120 x5), mI v1] [] h1)) else none) else some ([mI x4], h)) else some ([mI x4], h)) := ((X_blk xs d k_Ga_draught [17, 64] 73 17 _ _ h).trans rfl)
theorem e_Ga_draught_64 (xs : List Int) (d : Nat) (x1 x2 x3 x4 x5 x6 x7 : Int) (h : mM) : X xs d k_Ga_draught 64 [mR 115, mI x1, mI x2, mI x3, mI x4, mI x5, mI x6, mI x7] [] h = (if inI (x5 + 1) then X xs d k_Ga_draught 17 [mR 115, mI x1, mI x2, mI x3, mI x4, mI (x5 + 1), mI x6, mI x7] [] h else none) := ((X_blk xs d k_Ga_draught [17, 64] 73 64 _ _ h).trans rfl)
theorem c_Gl_taste (xs : List Int) (d : Nat) {b0 : Nat} (hb : b0 = 125 ∨ b0 = 127) (x1 x2 : Int) (h : mM) : C xs d 265 0 [mR b0, mI x1, mI x2] h = X xs d k_Gl_taste 7 [mR b0, mI x1, mI x2, mI 0, mC 0] [] (upM h b0 1 (min x1 12)) := by rcases hb with rfl | rfl <;> exact (C_in xs d 265 p_Gl_taste _ h).trans ((X_blk xs d k_Gl_taste [7, 24, 30] 76 0 _ _ h).trans rfl)
theorem e_Gl_taste_7 (xs : List Int) (d : Nat) {b0 : Nat} (x1 x2 x3 : Int) (hb : b0 = 125 ∨ b0 = 127) (h : mM) : X xs d k_Gl_taste 7 [mR b0, mI x1, mI x2, mI x3, mC 0] [] h = (if (12 : Int) < x3 then X xs d k_Gl_taste 24 [mR b0, mI x1, mI x2, mI 1, mC 0] [] (upM h (b0 + 1) 0 1) else (if inA x3 13 then (if inI (x3 + 1) then X xs d k_Gl_taste 7 [mR b0, mI x1, mI x2, mI (x3 + 1), mC 0] [] (upM h (b0 + 1) x3 0) else none) else none)) := by rcases hb with rfl | rfl <;> exact ((X_blk xs d k_Gl_taste [7, 24, 30] 76 7 _ _ h).trans rfl)
theorem e_Gl_taste_24 (xs : List Int) (d : Nat) {b0 : Nat} (x1 x2 x3 : Int) (x4 : mv) (hb : b0 = 125 ∨ b0 = 127) (h : mM) : X xs d k_Gl_taste 24 [mR b0, mI x1, mI x2, mI x3, x4] [] h = (if (h b0 1) < x3 then some ([], h) else X xs d k_Gl_taste 30 [mR b0, mI x1, mI x2, mI x3, mI x3] [] h) := by rcases hb with rfl | rfl <;> exact ((X_blk xs d k_Gl_taste [7, 24, 30] 76 24 _ _ h).trans rfl)
theorem e_Gl_taste_30 (xs : List Int) (d : Nat) {b0 : Nat} (x1 x2 x3 x4 : Int) (hb : b0 = 125 ∨ b0 = 127) (h : mM) : X xs d k_Gl_taste 30 [mR b0, mI x1, mI x2, mI x3, mI x4] [] h = (if (0 : Int) < x4 then (if inA x4 13 then (if inI (16 - x2) then (if inL ((h (b0 + 1) x4) * (16 - x2)) then (if inI (x4 - 1) then (if inA (x4 - 1) 13 then (if inL ((h (b0 + 1) (x4 - 1)) * x2) then (if inL (((h (b0 + 1) x4) * (16 - x2)) + ((h (b0 + 1) (x4 - 1)) * x2)) then (if inA x4 13 then (if inI (x4 + (-1)) then X xs d k_Gl_taste 30 [mR b0, mI x1, mI x2, mI x3, mI (x4 + (-1))] [] (upM h (b0 + 1) x4 (((h (b0 + 1) x4) * (16 - x2)) + ((h (b0 + 1) (x4 - 1)) * x2))) else none) else none) else none) else none) else none) else none) else none) else none) else none) else (if inI (16 - x2) then (if inL ((h (b0 + 1) 0) * (16 - x2)) then (if inI (x3 + 1) then X xs d k_Gl_taste 24 [mR b0, mI x1, mI x2, mI (x3 + 1), mI x4] [] (upM h (b0 + 1) 0 ((h (b0 + 1) 0) * (16 - x2))) else none) else none) else none)) := by rcases hb with rfl | rfl <;> exact ((X_blk xs d k_Gl_taste [7, 24, 30] 76 30 _ _ h).trans rfl)
theorem c_Gl_all (xs : List Int) (d : Nat) {b0 : Nat} (hb : b0 = 125 ∨ b0 = 127) (h : mM) : C xs d 266 0 [mR b0] h = (if inI (4 * (h b0 1)) then some ([mL (fLshl 1 (4 * (h b0 1)))], h) else none) := by rcases hb with rfl | rfl <;> exact (C_in xs d 266 p_Gl_all _ h).trans ((X_blk xs d k_Gl_all [] 12 0 _ _ h).trans rfl)
theorem c_Gl_below (xs : List Int) (d : Nat) {b0 : Nat} (hb : b0 = 125 ∨ b0 = 127) (x1 : Int) (h : mM) : C xs d 267 0 [mR b0, mI x1] h = X xs d k_Gl_below 4 [mR b0, mI x1, mL 0, mC 0, mI 0] [] h := by rcases hb with rfl | rfl <;> exact (C_in xs d 267 p_Gl_below _ h).trans ((X_blk xs d k_Gl_below [4] 27 0 _ _ h).trans rfl)
theorem e_Gl_below_4 (xs : List Int) (d : Nat) {b0 : Nat} (x1 x2 x4 : Int) (hb : b0 = 125 ∨ b0 = 127) (h : mM) : X xs d k_Gl_below 4 [mR b0, mI x1, mL x2, mC 0, mI x4] [] h = (if x4 < x1 then (if (h b0 1) < x4 then some ([mL x2], h) else (if inA x4 13 then (if inL (x2 + (h (b0 + 1) x4)) then (if inI (x4 + 1) then X xs d k_Gl_below 4 [mR b0, mI x1, mL (x2 + (h (b0 + 1) x4)), mC 0, mI (x4 + 1)] [] h else none) else none) else none)) else some ([mL x2], h)) := by rcases hb with rfl | rfl <;> exact ((X_blk xs d k_Gl_below [4] 27 4 _ _ h).trans rfl)
theorem c_Gl_from (xs : List Int) (d : Nat) (x1 : Int) (h : mM) : C xs d 268 0 [mR 127, mI x1] h = cL (C xs d 266 0 [mR 127] h) (fun v1 h1 => cL (C xs d 267 0 [mR 127, mI x1] h1) (fun v2 h2 => (if inL (v1 - v2) then some ([mL (v1 - v2)], h2) else none))) := (C_in xs d 268 p_Gl_from _ h).trans ((X_blk xs d k_Gl_from [] 12 0 _ _ h).trans rfl)
theorem c_Li_runThrough (xs : List Int) (d : Nat) {b0 : Nat} {b1 : Nat} (hb : (b0 = 107 ∧ b1 = 12) ∨ (b0 = 109 ∧ b1 = 21)) (x3 : Int) (h : mM) : C xs d 270 0 [mR b0, mR b1, mR 30, mI x3] h = X xs d k_Li_runThrough 25 [mR b0, mR b1, mR 30, mI x3, mI 0, mI 0] [] (upM (upM (upM (upM (upM (upM (upM h b0 1 x3) b0 2 0) b0 3 0) b0 4 0) b0 5 0) b0 6 0) b0 7 0) := by rcases hb with ⟨rfl, rfl⟩ | ⟨rfl, rfl⟩ <;> exact (C_in xs d 270 p_Li_runThrough _ h).trans ((X_blk xs d k_Li_runThrough [25, 64] 72 0 _ _ h).trans rfl)
theorem e_Li_runThrough_25 (xs : List Int) (d : Nat) {b0 : Nat} {b1 : Nat} (x3 x4 x5 : Int) (hb : (b0 = 107 ∧ b1 = 12) ∨ (b0 = 109 ∧ b1 = 21)) (h : mM) : X xs d k_Li_runThrough 25 [mR b0, mR b1, mR 30, mI x3, mI x4, mI x5] [] h = (if x5 < (1000000 : Int) then (if x4 < (h 30 6) then (if inA x4 60 then (if (h 31 x4) = (22 : Int) then cI (C xs d 271 0 [mR b0, mR 30, mI x4] h) (fun v2 h2 => X xs d k_Li_runThrough 64 [mR b0, mR b1, mR 30, mI x3, mI v2, mI x5] [] h2) else (if (h b0 2) < (300 : Int) then (if inI ((h b0 2) + 1) then cI (C xs d 272 0 [mR b0, mR b1, mR 30, mI x4] (upM h b0 2 ((h b0 2) + 1))) (fun v1 h1 => X xs d k_Li_runThrough 64 [mR b0, mR b1, mR 30, mI x3, mI v1, mI x5] [] h1) else none) else some ([], (upM h b0 7 1)))) else none) else some ([], h)) else some ([], h)) := by rcases hb with ⟨rfl, rfl⟩ | ⟨rfl, rfl⟩ <;> exact ((X_blk xs d k_Li_runThrough [25, 64] 72 25 _ _ h).trans rfl)
theorem e_Li_runThrough_64 (xs : List Int) (d : Nat) {b0 : Nat} {b1 : Nat} (x3 x4 x5 : Int) (hb : (b0 = 107 ∧ b1 = 12) ∨ (b0 = 109 ∧ b1 = 21)) (h : mM) : X xs d k_Li_runThrough 64 [mR b0, mR b1, mR 30, mI x3, mI x4, mI x5] [] h = (if inI (x5 + 1) then X xs d k_Li_runThrough 25 [mR b0, mR b1, mR 30, mI x3, mI x4, mI (x5 + 1)] [] h else none) := by rcases hb with ⟨rfl, rfl⟩ | ⟨rfl, rfl⟩ <;> exact ((X_blk xs d k_Li_runThrough [25, 64] 72 64 _ _ h).trans rfl)
theorem c_Li_behindEnd (xs : List Int) (d : Nat) {b0 : Nat} (hb : b0 = 107 ∨ b0 = 109) (x2 : Int) (h : mM) : C xs d 271 0 [mR b0, mR 30, mI x2] h = (if inA x2 60 then (if inA (h 36 x2) 60 then (if (h 31 (h 36 x2)) = (21 : Int) then (if inA (h 36 x2) 60 then (if (1 : Int) < (h (b0 + 1) (h 36 x2)) then (if inA (h 36 x2) 60 then (if inI ((h (b0 + 1) (h 36 x2)) - 1) then (if inA (h 36 x2) 60 then (if inI ((h 36 x2) + 1) then some ([mI ((h 36 x2) + 1)], (upM h (b0 + 1) (h 36 x2) ((h (b0 + 1) (h 36 x2)) - 1))) else none) else none) else none) else none) else (if inI (x2 + 1) then some ([mI (x2 + 1)], h) else none)) else none) else (if inI (x2 + 1) then some ([mI (x2 + 1)], h) else none)) else none) else none) := by rcases hb with rfl | rfl <;> exact (C_in xs d 271 p_Li_behindEnd _ h).trans ((X_blk xs d k_Li_behindEnd [] 38 0 _ _ h).trans rfl)
set_option maxRecDepth 100000 in
theorem c_Li_behindStep (xs : List Int) (d : Nat) {b0 : Nat} {b1 : Nat} (hb : (b0 = 107 ∧ b1 = 12) ∨ (b0 = 109 ∧ b1 = 21)) (x3 : Int) (h : mM) : C xs d 272 0 [mR b0, mR b1, mR 30, mI x3] h = (if inA x3 60 then (if inA x3 60 then (if (h 31 x3) = 14 then cV (C xs d 273 0 [mR b0, mR b1, mI (h 32 x3)] h) (fun h6 => (if inI (x3 + 1) then some ([mI (x3 + 1)], h6) else none)) else (if (h 31 x3) = 15 then (if inA x3 60 then cV (C xs d 274 0 [mR b0, mR b1, mI (h 35 x3)] h) (fun h5 => (if inI (x3 + 1) then some ([mI (x3 + 1)], h5) else none)) else none) else (if (h 31 x3) = 16 then cV (C xs d 275 0 [mR b0, mR b1] h) (fun h4 => (if inI (x3 + 1) then some ([mI (x3 + 1)], h4) else none)) else (if (h 31 x3) = 17 then (if inA x3 60 then cV (C xs d 276 0 [mR b0, mR b1, mI (h 32 x3), mI (h 35 x3)] h) (fun h3 => (if inI (x3 + 1) then some ([mI (x3 + 1)], h3) else none)) else none) else (if (h 31 x3) = 18 then cV (C xs d 277 0 [mR b0, mR b1] h) (fun h2 => (if inI (x3 + 1) then some ([mI (x3 + 1)], h2) else none)) else (if (h 31 x3) = 19 then cI (C xs d 279 0 [mR b0, mR b1, mR 30, mI x3] h) (fun v1 h1 => (if v1 = (0 : Int) then (if inA x3 60 then (if inI ((h1 36 x3) + 1) then some ([mI ((h1 36 x3) + 1)], h1) else none) else none) else (if inI (x3 + 1) then some ([mI (x3 + 1)], h1) else none))) else (if (h 31 x3) = 20 then some ([mI (h 30 6)], h) else (if (h 31 x3) = 21 then (if inA x3 60 then (if inA x3 60 then (if inI (x3 + 1) then some ([mI (x3 + 1)], (upM h (b0 + 1) x3 (h 35 x3))) else none) else none) else none) else some ([mI (h 30 6)], h))))))))) else none) else none) := by rcases hb with ⟨rfl, rfl⟩ | ⟨rfl, rfl⟩ <;> exact (C_in xs d 272 p_Li_behindStep _ h).trans ((X_blk xs d k_Li_behindStep [] 78 0 _ _ h).trans rfl)
theorem c_Li_liveDrink (xs : List Int) (d : Nat) {b0 : Nat} {b1 : Nat} (hb : (b0 = 107 ∧ b1 = 12) ∨ (b0 = 109 ∧ b1 = 21)) (x2 : Int) (h : mM) : C xs d 273 0 [mR b0, mR b1, mI x2] h = cI (C xs d 228 0 [mR b1, mI x2] h) (fun v1 h1 => (if v1 = (0 : Int) then (if inI ((h1 b0 3) + 1) then some ([], (upM h1 b0 3 ((h1 b0 3) + 1))) else none) else cI (C xs d 242 0 [mR b1, mI x2] h1) (fun v2 h2 => (if v2 = (0 : Int) then (if inI ((h2 b0 3) + 1) then some ([], (upM h2 b0 3 ((h2 b0 3) + 1))) else none) else cI (C xs d 243 0 [mR b1, mI x2] h2) (fun v3 h3 => (if inI ((h3 b0 5) + 1) then some ([], (upM h3 b0 5 ((h3 b0 5) + 1))) else none)))))) := by rcases hb with ⟨rfl, rfl⟩ | ⟨rfl, rfl⟩ <;> exact (C_in xs d 273 p_Li_liveDrink _ h).trans ((X_blk xs d k_Li_liveDrink [] 31 0 _ _ h).trans rfl)
theorem c_Li_liveNights (xs : List Int) (d : Nat) {b0 : Nat} {b1 : Nat} (hb : (b0 = 107 ∧ b1 = 12) ∨ (b0 = 109 ∧ b1 = 21)) (x2 : Int) (h : mM) : C xs d 274 0 [mR b0, mR b1, mI x2] h = cI (C xs d 244 0 [mR b1, mI x2] h) (fun v1 h1 => (if v1 = (0 : Int) then (if inI ((h1 b0 3) + 1) then some ([], (upM h1 b0 3 ((h1 b0 3) + 1))) else none) else cV (C xs d 246 0 [mR b1, mI x2] h1) (fun h2 => (if inI ((h2 b0 4) + x2) then some ([], (upM h2 b0 4 ((h2 b0 4) + x2))) else none)))) := by rcases hb with ⟨rfl, rfl⟩ | ⟨rfl, rfl⟩ <;> exact (C_in xs d 274 p_Li_liveNights _ h).trans ((X_blk xs d k_Li_liveNights [] 26 0 _ _ h).trans rfl)
theorem c_Li_liveEvening (xs : List Int) (d : Nat) {b0 : Nat} {b1 : Nat} (hb : (b0 = 107 ∧ b1 = 12) ∨ (b0 = 109 ∧ b1 = 21)) (h : mM) : C xs d 275 0 [mR b0, mR b1] h = cI (C xs d 244 0 [mR b1, mI 1] h) (fun v1 h1 => (if v1 = (0 : Int) then (if inI ((h1 b0 3) + 1) then some ([], (upM h1 b0 3 ((h1 b0 3) + 1))) else none) else cI (C xs d 247 0 [mR b1, mI (-1)] h1) (fun v2 h2 => (if inI ((h2 b0 4) + 1) then (if inI ((h2 b0 6) + 1) then some ([], (upM (upM h2 b0 4 ((h2 b0 4) + 1)) b0 6 ((h2 b0 6) + 1))) else none) else none)))) := by rcases hb with ⟨rfl, rfl⟩ | ⟨rfl, rfl⟩ <;> exact (C_in xs d 275 p_Li_liveEvening _ h).trans ((X_blk xs d k_Li_liveEvening [] 33 0 _ _ h).trans rfl)
theorem c_Li_liveFill (xs : List Int) (d : Nat) {b0 : Nat} {b1 : Nat} (hb : (b0 = 107 ∧ b1 = 12) ∨ (b0 = 109 ∧ b1 = 21)) (x2 x3 : Int) (h : mM) : C xs d 276 0 [mR b0, mR b1, mI x2, mI x3] h = cI (C xs d 228 0 [mR b1, mI x2] h) (fun v1 h1 => (if v1 = (0 : Int) then (if inI ((h1 b0 3) + 1) then some ([], (upM h1 b0 3 ((h1 b0 3) + 1))) else none) else (if inA x2 7 then (if (h1 (b1 + 5) x2) = x3 then (if inI ((h1 b0 3) + 1) then some ([], (upM h1 b0 3 ((h1 b0 3) + 1))) else none) else (if inA x2 7 then some ([], (upM h1 (b1 + 5) x2 x3)) else none)) else none))) := by rcases hb with ⟨rfl, rfl⟩ | ⟨rfl, rfl⟩ <;> exact (C_in xs d 276 p_Li_liveFill _ h).trans ((X_blk xs d k_Li_liveFill [] 28 0 _ _ h).trans rfl)
theorem c_Li_liveAny (xs : List Int) (d : Nat) {b0 : Nat} {b1 : Nat} (hb : (b0 = 107 ∧ b1 = 12) ∨ (b0 = 109 ∧ b1 = 21)) (h : mM) : C xs d 277 0 [mR b0, mR b1] h = (if (h b1 0) < (1 : Int) then (if inI ((h b0 3) + 1) then some ([], (upM h b0 3 ((h b0 3) + 1))) else none) else cI (C xs d 278 0 [mR b0, mI (h b1 0)] h) (fun v1 h1 => cI (C xs d 278 0 [mR b0, mI 16] h1) (fun v2 h2 => (if v2 < (h2 (b1 + 1) 1) then cV (C xs d 273 0 [mR b0, mR b1, mI v1] h2) (fun h4 => some ([], h4)) else cV (C xs d 274 0 [mR b0, mR b1, mI 1] h2) (fun h3 => some ([], h3)))))) := by rcases hb with ⟨rfl, rfl⟩ | ⟨rfl, rfl⟩ <;> exact (C_in xs d 277 p_Li_liveAny _ h).trans ((X_blk xs d k_Li_liveAny [] 39 0 _ _ h).trans rfl)
theorem c_Li_drawBy (xs : List Int) (d : Nat) {b0 : Nat} (hb : b0 = 107 ∨ b0 = 109) (x1 : Int) (h : mM) : C xs d 278 0 [mR b0, mI x1] h = (if inI ((h b0 1) * 3261) then (if inI (((h b0 1) * 3261) + 11491) then (if 0 ≤ (((h b0 1) * 3261) + 11491) ∧ 0 < (65536 : Int) then (if 0 ≤ ((((h b0 1) * 3261) + 11491) % 65536) ∧ 0 < (8 : Int) then (if 0 ≤ (((((h b0 1) * 3261) + 11491) % 65536) / 8) ∧ 0 < (max 1 x1) then some ([mI ((((((h b0 1) * 3261) + 11491) % 65536) / 8) % (max 1 x1))], (upM h b0 1 ((((h b0 1) * 3261) + 11491) % 65536))) else none) else none) else none) else none) else none) := by rcases hb with rfl | rfl <;> exact (C_in xs d 278 p_Li_drawBy _ h).trans ((X_blk xs d k_Li_drawBy [] 24 0 _ _ h).trans rfl)
theorem c_Li_holds (xs : List Int) (d : Nat) {b0 : Nat} {b1 : Nat} (hb : (b0 = 107 ∧ b1 = 12) ∨ (b0 = 109 ∧ b1 = 21)) (x3 : Int) (h : mM) : C xs d 279 0 [mR b0, mR b1, mR 30, mI x3] h = (if inA x3 60 then cI (C xs d 228 0 [mR b1, mI (h 32 x3)] h) (fun v1 h1 => (if v1 = (0 : Int) then some ([mI 0], h1) else (if inA x3 60 then (if (h1 33 x3) = (20 : Int) then cI (C xs d 235 0 [mR b1, mI (h 32 x3)] h1) (fun v2 h2 => (if 0 ≤ v2 ∧ v2 ≤ 1 then some ([mI v2], h2) else none)) else (if inA x3 60 then (if (h1 33 x3) = (10 : Int) then (if inA (h 32 x3) 7 then X xs d k_Li_holds 36 [mR b0, mR b1, mR 30, mI x3, mI (h 32 x3), mC 0] [mI (h1 (b1 + 4) (h 32 x3))] h1 else none) else (if inA (h 32 x3) 7 then X xs d k_Li_holds 36 [mR b0, mR b1, mR 30, mI x3, mI (h 32 x3), mC 0] [mI (h1 (b1 + 5) (h 32 x3))] h1 else none)) else none)) else none))) else none) := by rcases hb with ⟨rfl, rfl⟩ | ⟨rfl, rfl⟩ <;> exact (C_in xs d 279 p_Li_holds _ h).trans ((X_blk xs d k_Li_holds [36] 77 0 _ _ h).trans rfl)
theorem e_Li_holds_36 (xs : List Int) (d : Nat) {b0 : Nat} {b1 : Nat} (x3 x4 s0 : Int) (hb : (b0 = 107 ∧ b1 = 12) ∨ (b0 = 109 ∧ b1 = 21)) (h : mM) : X xs d k_Li_holds 36 [mR b0, mR b1, mR 30, mI x3, mI x4, mC 0] [mI s0] h = (if inA x3 60 then (if (h 34 x3) = 60 then (if inA x3 60 then (if s0 < (h 35 x3) then some ([mI 1], h) else some ([mI 0], h)) else none) else (if (h 34 x3) = 62 then (if inA x3 60 then (if (h 35 x3) < s0 then some ([mI 1], h) else some ([mI 0], h)) else none) else (if inA x3 60 then (if s0 = (h 35 x3) then some ([mI 1], h) else some ([mI 0], h)) else none))) else none) := by rcases hb with ⟨rfl, rfl⟩ | ⟨rfl, rfl⟩ <;> exact ((X_blk xs d k_Li_holds [36] 77 36 _ _ h).trans rfl)
end
section
theorem c_MR_draft (xs : List Int) (d : Nat) (h : mM) : C xs d 281 0 [mR 37] h = some ([mR 38], h) := (C_in xs d 281 p_MR_draft _ h).trans ((X_blk xs d k_MR_draft [] 8 0 _ _ h).trans rfl)
theorem c_MR_readMap (xs : List Int) (d : Nat) (x1 : Int) (h : mM) : C xs d 282 0 [mR 37, mI x1] h = cV (C xs d 226 0 [mR 38] h) (fun h1 => cV (C xs d 300 0 [mR 9, mI x1] (upM h1 37 2 0)) (fun h2 => X xs d k_MR_readMap 12 [mR 37, mI x1, mI 0] [] h2)) := (C_in xs d 282 p_MR_readMap _ h).trans ((X_blk xs d k_MR_readMap [12] 33 0 _ _ h).trans rfl)
theorem e_MR_readMap_12 (xs : List Int) (d : Nat) (x1 x2 : Int) (h : mM) : X xs d k_MR_readMap 12 [mR 37, mI x1, mI x2] [] h = (if (900 : Int) < x2 then some ([mI 1], h) else cI (C xs d 301 0 [mR 9] h) (fun v1 h1 => (if v1 = (0 : Int) then cI (C xs d 283 0 [mR 37] h1) (fun v2 h2 => (if v2 = (0 : Int) then some ([mI 0], h2) else (if inI (x2 + 1) then X xs d k_MR_readMap 12 [mR 37, mI x1, mI (x2 + 1)] [] h2 else none))) else some ([mI 1], h1)))) := ((X_blk xs d k_MR_readMap [12] 33 12 _ _ h).trans rfl)
theorem c_MR_readPart (xs : List Int) (d : Nat) (h : mM) : C xs d 283 0 [mR 37] h = (if (h 9 9) < (1 : Int) then X xs d k_MR_readPart 14 [mR 37, mI (h 9 9)] [] h else (if (6 : Int) < (h 9 9) then X xs d k_MR_readPart 14 [mR 37, mI (h 9 9)] [] h else cI (C xs d 284 0 [mR 37, mI (h 9 9)] h) (fun v1 h1 => (if 0 ≤ v1 ∧ v1 ≤ 1 then some ([mI v1], h1) else none)))) := (C_in xs d 283 p_MR_readPart _ h).trans ((X_blk xs d k_MR_readPart [14] 36 0 _ _ h).trans rfl)
theorem e_MR_readPart_14 (xs : List Int) (d : Nat) (x1 : Int) (h : mM) : X xs d k_MR_readPart 14 [mR 37, mI x1] [] h = (if x1 = (7 : Int) then cI (C xs d 285 0 [mR 37] h) (fun v3 h3 => (if 0 ≤ v3 ∧ v3 ≤ 1 then some ([mI v3], h3) else none)) else (if x1 = (12 : Int) then cI (C xs d 287 0 [mR 37] h) (fun v2 h2 => (if 0 ≤ v2 ∧ v2 ≤ 1 then some ([mI v2], h2) else none)) else cI (C xs d 305 0 [mR 9, mI 2] h) (fun v1 h1 => (if 0 ≤ v1 ∧ v1 ≤ 1 then some ([mI v1], h1) else none)))) := ((X_blk xs d k_MR_readPart [14] 36 14 _ _ h).trans rfl)
theorem c_MR_readRule (xs : List Int) (d : Nat) (x1 : Int) (h : mM) : C xs d 284 0 [mR 37, mI x1] h = (if (fAnd (h 37 2) (fShl 1 x1)) = (0 : Int) then cV (C xs d 310 0 [mR 9] (upM h 37 2 (fOr (h 37 2) (fShl 1 x1)))) (fun h1 => (if inA x1 7 then (if inA x1 7 then cI (C xs d 308 0 [mR 9, mI ((nth (CT xs 2) x1.toNat).getD 0), mI ((nth (CT xs 3) x1.toNat).getD 0)] h1) (fun v2 h2 => (if v2 = (0 : Int) then some ([mI 0], h2) else cI (C xs d 304 0 [mR 9] h2) (fun v3 h3 => (if inA x1 7 then cV (C xs d 310 0 [mR 9] (upM h3 39 x1 v3)) (fun h4 => cI (C xs d 307 0 [mR 9] h4) (fun v5 h5 => (if 0 ≤ v5 ∧ v5 ≤ 1 then some ([mI v5], h5) else none))) else none)))) else none) else none)) else cI (C xs d 305 0 [mR 9, mI 5] h) (fun v6 h6 => (if 0 ≤ v6 ∧ v6 ≤ 1 then some ([mI v6], h6) else none))) := (C_in xs d 284 p_MR_readRule _ h).trans ((X_blk xs d k_MR_readRule [] 55 0 _ _ h).trans rfl)
set_option maxRecDepth 100000 in
theorem c_MR_readPerson (xs : List Int) (d : Nat) (h : mM) : C xs d 285 0 [mR 37] h = cI (C xs d 229 0 [mR 38] h) (fun v1 h1 => (if v1 = (0 : Int) then cV (C xs d 310 0 [mR 9] h1) (fun h2 => (if (h2 9 9) = (0 : Int) then cI (C xs d 231 0 [mR 38, mL (h2 9 10)] h2) (fun v3 h3 => (if v3 = (-1 : Int) then cV (C xs d 310 0 [mR 9] h3) (fun h4 => cI (C xs d 306 0 [mR 9, mI 8] h4) (fun v5 h5 => (if v5 = (0 : Int) then some ([mI 0], h5) else cI (C xs d 308 0 [mR 9, mI 0, mI 59] h5) (fun v6 h6 => (if v6 = (0 : Int) then some ([mI 0], h6) else cI (C xs d 304 0 [mR 9] h6) (fun v7 h7 => cI (C xs d 230 0 [mR 38, mI v7, mL (h2 9 10)] h7) (fun v8 h8 => cV (C xs d 310 0 [mR 9] h8) (fun h9 => cI (C xs d 286 0 [mR 37, mI 9, mR 41, mI v8, mI 9] h9) (fun v10 h10 => (if v10 = (0 : Int) then some ([mI 0], h10) else cI (C xs d 286 0 [mR 37, mI 10, mR 42, mI v8, mI 99] h10) (fun v11 h11 => (if v11 = (0 : Int) then some ([mI 0], h11) else cI (C xs d 286 0 [mR 37, mI 11, mR 43, mI v8, mI 9] h11) (fun v12 h12 => (if v12 = (0 : Int) then some ([mI 0], h12) else cI (C xs d 307 0 [mR 9] h12) (fun v13 h13 => (if v13 = (0 : Int) then some ([mI 0], h13) else some ([mI 1], h13))))))))))))))))) else cI (C xs d 305 0 [mR 9, mI 3] h3) (fun v14 h14 => (if 0 ≤ v14 ∧ v14 ≤ 1 then some ([mI v14], h14) else none)))) else cI (C xs d 305 0 [mR 9, mI 2] h2) (fun v15 h15 => (if 0 ≤ v15 ∧ v15 ≤ 1 then some ([mI v15], h15) else none)))) else cI (C xs d 305 0 [mR 9, mI 6] h1) (fun v16 h16 => (if 0 ≤ v16 ∧ v16 ≤ 1 then some ([mI v16], h16) else none)))) := (C_in xs d 285 p_MR_readPerson _ h).trans ((X_blk xs d k_MR_readPerson [] 103 0 _ _ h).trans rfl)
theorem c_MR_readPerhaps (xs : List Int) (d : Nat) {b1 : Nat} (hb : b1 = 41 ∨ b1 = 42 ∨ b1 = 43) (x1 x3 x4 : Int) (h : mM) : C xs d 286 0 [mR 37, mI x1, mR b1, mI x3, mI x4] h = (if (h 9 9) = x1 then cV (C xs d 310 0 [mR 9] h) (fun h1 => cI (C xs d 308 0 [mR 9, mI 0, mI x4] h1) (fun v2 h2 => (if v2 = (0 : Int) then some ([mI 0], h2) else cI (C xs d 304 0 [mR 9] h2) (fun v3 h3 => (if inA x3 7 then cV (C xs d 310 0 [mR 9] (upM h3 b1 x3 v3)) (fun h4 => some ([mI 1], h4)) else none))))) else some ([mI 1], h)) := by rcases hb with rfl | rfl | rfl <;> exact (C_in xs d 286 p_MR_readPerhaps _ h).trans ((X_blk xs d k_MR_readPerhaps [] 34 0 _ _ h).trans rfl)
theorem c_MR_readToast (xs : List Int) (d : Nat) (h : mM) : C xs d 287 0 [mR 37] h = cV (C xs d 310 0 [mR 9] h) (fun h1 => cI (C xs d 309 0 [mR 9, mR 38] h1) (fun v2 h2 => (if v2 = (-1 : Int) then some ([mI 0], h2) else cI (C xs d 232 0 [mR 38, mI v2] h2) (fun v3 h3 => (if v3 = (0 : Int) then cV (C xs d 310 0 [mR 9] h3) (fun h4 => cI (C xs d 306 0 [mR 9, mI 13] h4) (fun v5 h5 => (if v5 = (0 : Int) then some ([mI 0], h5) else cI (C xs d 309 0 [mR 9, mR 38] h5) (fun v6 h6 => (if v6 = (-1 : Int) then some ([mI 0], h6) else (if v6 = v2 then cI (C xs d 305 0 [mR 9, mI 5] h6) (fun v9 h9 => (if 0 ≤ v9 ∧ v9 ≤ 1 then some ([mI v9], h9) else none)) else (if inA v2 7 then cV (C xs d 310 0 [mR 9] (upM h6 44 v2 v6)) (fun h7 => cI (C xs d 307 0 [mR 9] h7) (fun v8 h8 => (if 0 ≤ v8 ∧ v8 ≤ 1 then some ([mI v8], h8) else none))) else none))))))) else cI (C xs d 305 0 [mR 9, mI 5] h3) (fun v10 h10 => (if 0 ≤ v10 ∧ v10 ≤ 1 then some ([mI v10], h10) else none))))))) := (C_in xs d 287 p_MR_readToast _ h).trans ((X_blk xs d k_MR_readToast [] 71 0 _ _ h).trans rfl)
theorem c_Mk_isFull (xs : List Int) (d : Nat) (h : mM) : C xs d 289 0 [mR 56] h = (if (h 56 2) < (3 : Int) then some ([mI 0], h) else some ([mI 1], h)) := (C_in xs d 289 p_Mk_isFull _ h).trans ((X_blk xs d k_Mk_isFull [] 13 0 _ _ h).trans rfl)
theorem c_Mk_isEmpty (xs : List Int) (d : Nat) (h : mM) : C xs d 290 0 [mR 56] h = (if (h 56 2) < (1 : Int) then some ([mI 1], h) else some ([mI 0], h)) := (C_in xs d 290 p_Mk_isEmpty _ h).trans ((X_blk xs d k_Mk_isEmpty [] 13 0 _ _ h).trans rfl)
theorem c_Mk_keep (xs : List Int) (d : Nat) (h : mM) : C xs d 291 0 [mR 56, mR 12, mR 30] h = X xs d k_Mk_keep 4 [mR 56, mR 12, mR 30] [mI (h 56 2), mR 57] h := (C_in xs d 291 p_Mk_keep _ h).trans ((X_blk xs d k_Mk_keep [4, 11] 28 0 _ _ h).trans rfl)
theorem e_Mk_keep_4 (xs : List Int) (d : Nat) (s1 : Int) (hb : s1 = 0 ∨ s1 = 1 ∨ s1 = 2) (h : mM) : X xs d k_Mk_keep 4 [mR 56, mR 12, mR 30] [mI s1, mR 57] h = cV (C xs d 227 0 [mR (59 + 16 * s1.toNat), mR 12] h) (fun h1 => X xs d k_Mk_keep 11 [mR 56, mR 12, mR 30] [mI (h1 56 2), mR 58] h1) := by rcases hb with rfl | rfl | rfl <;> exact ((X_blk xs d k_Mk_keep [4, 11] 28 4 _ _ h).trans rfl)
theorem e_Mk_keep_11 (xs : List Int) (d : Nat) (s1 : Int) (hb : s1 = 0 ∨ s1 = 1 ∨ s1 = 2) (h : mM) : X xs d k_Mk_keep 11 [mR 56, mR 12, mR 30] [mI s1, mR 58] h = cV (C xs d 322 0 [mR (68 + 16 * s1.toNat), mR 30] h) (fun h1 => (if inI ((h1 56 2) + 1) then some ([mI ((h1 56 2) + 1)], (upM h1 56 2 ((h1 56 2) + 1))) else none)) := by rcases hb with rfl | rfl | rfl <;> exact ((X_blk xs d k_Mk_keep [4, 11] 28 11 _ _ h).trans rfl)
theorem c_Mk_giveBack (xs : List Int) (d : Nat) (h : mM) : C xs d 292 0 [mR 56, mR 12, mR 30] h = (if inI ((h 56 2) - 1) then X xs d k_Mk_giveBack 11 [mR 56, mR 12, mR 30] [mI ((h 56 2) - 1), mR 57, mR 12] (upM h 56 2 ((h 56 2) - 1)) else none) := (C_in xs d 292 p_Mk_giveBack _ h).trans ((X_blk xs d k_Mk_giveBack [11, 18] 28 0 _ _ h).trans rfl)
theorem e_Mk_giveBack_11 (xs : List Int) (d : Nat) (s2 : Int) (hb : s2 = 0 ∨ s2 = 1 ∨ s2 = 2) (h : mM) : X xs d k_Mk_giveBack 11 [mR 56, mR 12, mR 30] [mI s2, mR 57, mR 12] h = cV (C xs d 227 0 [mR 12, mR (59 + 16 * s2.toNat)] h) (fun h1 => X xs d k_Mk_giveBack 18 [mR 56, mR 12, mR 30] [mI (h1 56 2), mR 58, mR 30] h1) := by rcases hb with rfl | rfl | rfl <;> exact ((X_blk xs d k_Mk_giveBack [11, 18] 28 11 _ _ h).trans rfl)
theorem e_Mk_giveBack_18 (xs : List Int) (d : Nat) (s2 : Int) (hb : s2 = 0 ∨ s2 = 1 ∨ s2 = 2) (h : mM) : X xs d k_Mk_giveBack 18 [mR 56, mR 12, mR 30] [mI s2, mR 58, mR 30] h = cV (C xs d 322 0 [mR 30, mR (68 + 16 * s2.toNat)] h) (fun h1 => some ([mI (h1 56 2)], h1)) := by rcases hb with rfl | rfl | rfl <;> exact ((X_blk xs d k_Mk_giveBack [11, 18] 28 18 _ _ h).trans rfl)
theorem c_Tp_length (xs : List Int) (d : Nat) (h : mM) : C xs d 294 0 [mR 9] h = some ([mI (h 9 2)], h) := (C_in xs d 294 p_Tp_length _ h).trans ((X_blk xs d k_Tp_length [] 8 0 _ _ h).trans rfl)
theorem c_Tp_faultKind (xs : List Int) (d : Nat) (h : mM) : C xs d 295 0 [mR 9] h = some ([mI (h 9 11)], h) := (C_in xs d 295 p_Tp_faultKind _ h).trans ((X_blk xs d k_Tp_faultKind [] 8 0 _ _ h).trans rfl)
theorem c_Tp_faultPlace (xs : List Int) (d : Nat) (h : mM) : C xs d 296 0 [mR 9] h = some ([mI (h 9 12)], h) := (C_in xs d 296 p_Tp_faultPlace _ h).trans ((X_blk xs d k_Tp_faultPlace [] 8 0 _ _ h).trans rfl)
theorem c_Tp_hasRoom (xs : List Int) (d : Nat) (x1 : Int) (h : mM) : C xs d 297 0 [mR 9, mI x1] h = (if inI ((h 9 2) + x1) then (if (900 : Int) < ((h 9 2) + x1) then some ([mI 0], h) else some ([mI 1], h)) else none) := (C_in xs d 297 p_Tp_hasRoom _ h).trans ((X_blk xs d k_Tp_hasRoom [] 15 0 _ _ h).trans rfl)
theorem c_Tp_append (xs : List Int) (d : Nat) (x1 : Int) (h : mM) : C xs d 298 0 [mR 9, mI x1] h = X xs d k_Tp_append 2 [mR 9, mI x1, mI 24] [] h := (C_in xs d 298 p_Tp_append _ h).trans ((X_blk xs d k_Tp_append [2] 31 0 _ _ h).trans rfl)
theorem e_Tp_append_2 (xs : List Int) (d : Nat) (x1 x2 : Int) (h : mM) : X xs d k_Tp_append 2 [mR 9, mI x1, mI x2] [] h = (if x2 < (0 : Int) then some ([], h) else (if (h 9 2) < (900 : Int) then (if inA (h 9 2) 900 then (if inB (fI2b (fShr x1 x2)) then (if inI ((h 9 2) + 1) then (if inI (x2 + (-8)) then X xs d k_Tp_append 2 [mR 9, mI x1, mI (x2 + (-8))] [] (upM (upM h 10 (h 9 2) (fI2b (fShr x1 x2))) 9 2 ((h 9 2) + 1)) else none) else none) else none) else none) else some ([], h))) := ((X_blk xs d k_Tp_append [2] 31 2 _ _ h).trans rfl)
theorem c_Tp_empty (xs : List Int) (d : Nat) (h : mM) : C xs d 299 0 [mR 9] h = some ([], (upM h 9 2 0)) := (C_in xs d 299 p_Tp_empty _ h).trans ((X_blk xs d k_Tp_empty [] 9 0 _ _ h).trans rfl)
theorem c_Tp_begin (xs : List Int) (d : Nat) (x1 : Int) (h : mM) : C xs d 300 0 [mR 9, mI x1] h = cV (C xs d 310 0 [mR 9] (upM (upM (upM (upM h 9 3 (min x1 (h 9 2))) 9 4 0) 9 11 0) 9 12 (-1))) (fun h1 => some ([], h1)) := (C_in xs d 300 p_Tp_begin _ h).trans ((X_blk xs d k_Tp_begin [] 23 0 _ _ h).trans rfl)
theorem c_Tp_isAtEnd (xs : List Int) (d : Nat) (h : mM) : C xs d 301 0 [mR 9] h = (if (h 9 5) = (0 : Int) then some ([mI 1], h) else some ([mI 0], h)) := (C_in xs d 301 p_Tp_isAtEnd _ h).trans ((X_blk xs d k_Tp_isAtEnd [] 12 0 _ _ h).trans rfl)
theorem c_Tp_isAtCompares (xs : List Int) (d : Nat) (h : mM) : C xs d 302 0 [mR 9] h = (if (h 9 8) = (60 : Int) then some ([mI 1], h) else (if (h 9 8) = (62 : Int) then some ([mI 1], h) else (if (h 9 8) = (61 : Int) then some ([mI 1], h) else some ([mI 0], h)))) := (C_in xs d 302 p_Tp_isAtCompares _ h).trans ((X_blk xs d k_Tp_isAtCompares [] 21 0 _ _ h).trans rfl)
theorem c_Tp_sign (xs : List Int) (d : Nat) (h : mM) : C xs d 303 0 [mR 9] h = some ([mI (h 9 8)], h) := (C_in xs d 303 p_Tp_sign _ h).trans ((X_blk xs d k_Tp_sign [] 8 0 _ _ h).trans rfl)
theorem c_Tp_number (xs : List Int) (d : Nat) (h : mM) : C xs d 304 0 [mR 9] h = some ([mI (h 9 7)], h) := (C_in xs d 304 p_Tp_number _ h).trans ((X_blk xs d k_Tp_number [] 8 0 _ _ h).trans rfl)
theorem c_Tp_object (xs : List Int) (d : Nat) (x1 : Int) (h : mM) : C xs d 305 0 [mR 9, mI x1] h = (if (h 9 5) = (4 : Int) then some ([mI 0], (upM (upM h 9 11 1) 9 12 (h 9 6))) else some ([mI 0], (upM (upM h 9 11 x1) 9 12 (h 9 6)))) := (C_in xs d 305 p_Tp_object _ h).trans ((X_blk xs d k_Tp_object [] 20 0 _ _ h).trans rfl)
theorem c_Tp_passWord (xs : List Int) (d : Nat) (x1 : Int) (h : mM) : C xs d 306 0 [mR 9, mI x1] h = (if (h 9 9) = x1 then cV (C xs d 310 0 [mR 9] h) (fun h1 => some ([mI 1], h1)) else cI (C xs d 305 0 [mR 9, mI 2] h) (fun v2 h2 => (if 0 ≤ v2 ∧ v2 ≤ 1 then some ([mI v2], h2) else none))) := (C_in xs d 306 p_Tp_passWord _ h).trans ((X_blk xs d k_Tp_passWord [] 17 0 _ _ h).trans rfl)
theorem c_Tp_passSemicolon (xs : List Int) (d : Nat) (h : mM) : C xs d 307 0 [mR 9] h = (if (h 9 8) = (59 : Int) then cV (C xs d 310 0 [mR 9] h) (fun h1 => some ([mI 1], h1)) else cI (C xs d 305 0 [mR 9, mI 2] h) (fun v2 h2 => (if 0 ≤ v2 ∧ v2 ≤ 1 then some ([mI v2], h2) else none))) := (C_in xs d 307 p_Tp_passSemicolon _ h).trans ((X_blk xs d k_Tp_passSemicolon [] 17 0 _ _ h).trans rfl)
theorem c_Tp_isNumber (xs : List Int) (d : Nat) (x1 x2 : Int) (h : mM) : C xs d 308 0 [mR 9, mI x1, mI x2] h = (if (h 9 5) = (2 : Int) then (if (h 9 7) < x1 then cI (C xs d 305 0 [mR 9, mI 4] h) (fun v1 h1 => (if v1 = (0 : Int) then some ([mI 0], h1) else some ([mI 1], h1))) else (if x2 < (h 9 7) then cI (C xs d 305 0 [mR 9, mI 4] h) (fun v2 h2 => (if v2 = (0 : Int) then some ([mI 0], h2) else some ([mI 1], h2))) else some ([mI 1], h))) else cI (C xs d 305 0 [mR 9, mI 2] h) (fun v3 h3 => (if 0 ≤ v3 ∧ v3 ≤ 1 then some ([mI v3], h3) else none))) := (C_in xs d 308 p_Tp_isNumber _ h).trans ((X_blk xs d k_Tp_isNumber [] 29 0 _ _ h).trans rfl)
theorem c_Tp_whoIsNamed (xs : List Int) (d : Nat) {b1 : Nat} (hb : b1 = 12 ∨ b1 = 38) (h : mM) : C xs d 309 0 [mR 9, mR b1] h = (if (h 9 9) = (0 : Int) then cI (C xs d 231 0 [mR b1, mL (h 9 10)] h) (fun v1 h1 => (if v1 = (-1 : Int) then cI (C xs d 305 0 [mR 9, mI 3] h1) (fun v2 h2 => some ([mI v1], h2)) else some ([mI v1], h1))) else cI (C xs d 305 0 [mR 9, mI 2] h) (fun v3 h3 => some ([mI (-1)], h3))) := by rcases hb with rfl | rfl <;> exact (C_in xs d 309 p_Tp_whoIsNamed _ h).trans ((X_blk xs d k_Tp_whoIsNamed [] 28 0 _ _ h).trans rfl)
theorem c_Tp_step (xs : List Int) (d : Nat) (h : mM) : C xs d 310 0 [mR 9] h = (if (h 9 4) < (h 9 3) then (if inA (h 9 4) 900 then cI (C xs d 315 0 [mI (h 10 (h 9 4))] h) (fun v1 h1 => (if v1 = (0 : Int) then X xs d k_Tp_step 19 [mR 9] [] h1 else (if inI ((h1 9 4) + 1) then X xs d k_Tp_step 0 [mR 9] [] (upM h1 9 4 ((h1 9 4) + 1)) else none))) else none) else X xs d k_Tp_step 19 [mR 9] [] h) := (C_in xs d 310 p_Tp_step _ h).trans ((X_blk xs d k_Tp_step [0, 19] 91 0 _ _ h).trans rfl)
theorem e_Tp_step_0 (xs : List Int) (d : Nat) (h : mM) : X xs d k_Tp_step 0 [mR 9] [] h = (if (h 9 4) < (h 9 3) then (if inA (h 9 4) 900 then cI (C xs d 315 0 [mI (h 10 (h 9 4))] h) (fun v1 h1 => (if v1 = (0 : Int) then X xs d k_Tp_step 19 [mR 9] [] h1 else (if inI ((h1 9 4) + 1) then X xs d k_Tp_step 0 [mR 9] [] (upM h1 9 4 ((h1 9 4) + 1)) else none))) else none) else X xs d k_Tp_step 19 [mR 9] [] h) := ((X_blk xs d k_Tp_step [0, 19] 91 0 _ _ h).trans rfl)
theorem e_Tp_step_19 (xs : List Int) (d : Nat) (h : mM) : X xs d k_Tp_step 19 [mR 9] [] h = (if (h 9 4) < (h 9 3) then (if inA (h 9 4) 900 then cI (C xs d 316 0 [mI (h 10 (h 9 4))] (upM (upM (upM h 9 6 (h 9 4)) 9 9 (-1)) 9 8 0)) (fun v1 h1 => (if v1 = (0 : Int) then (if inA (h1 9 4) 900 then cI (C xs d 317 0 [mI (h1 10 (h1 9 4))] h1) (fun v2 h2 => (if v2 = (0 : Int) then (if inA (h2 9 4) 900 then cI (C xs d 318 0 [mI (h2 10 (h2 9 4))] h2) (fun v3 h3 => (if v3 = (0 : Int) then some ([], (upM h3 9 5 4)) else (if inA (h3 9 4) 900 then (if inI ((h3 9 4) + 1) then some ([], (upM (upM (upM h3 9 5 3) 9 8 (h3 10 (h3 9 4))) 9 4 ((h3 9 4) + 1))) else none) else none))) else none) else cV (C xs d 312 0 [mR 9] h2) (fun h4 => some ([], h4)))) else none) else cV (C xs d 311 0 [mR 9] h1) (fun h5 => some ([], h5)))) else none) else some ([], (upM (upM (upM (upM h 9 6 (h 9 4)) 9 9 (-1)) 9 8 0) 9 5 0))) := ((X_blk xs d k_Tp_step [0, 19] 91 19 _ _ h).trans rfl)
theorem c_Tp_stepWord (xs : List Int) (d : Nat) (h : mM) : C xs d 311 0 [mR 9] h = X xs d k_Tp_stepWord 6 [mR 9] [] (upM (upM h 9 5 1) 9 10 0) := (C_in xs d 311 p_Tp_stepWord _ h).trans ((X_blk xs d k_Tp_stepWord [6, 35, 42] 63 0 _ _ h).trans rfl)
theorem e_Tp_stepWord_6 (xs : List Int) (d : Nat) (h : mM) : X xs d k_Tp_stepWord 6 [mR 9] [] h = (if (h 9 4) < (h 9 3) then (if inA (h 9 4) 900 then cI (C xs d 316 0 [mI (h 10 (h 9 4))] h) (fun v1 h1 => (if v1 = (0 : Int) then X xs d k_Tp_stepWord 42 [mR 9] [] h1 else (if inI ((h1 9 4) - (h1 9 6)) then (if ((h1 9 4) - (h1 9 6)) < (8 : Int) then (if inA (h1 9 4) 900 then cL (C xs d 314 0 [mL (h1 9 10), mI (h1 10 (h1 9 4))] h1) (fun v2 h2 => X xs d k_Tp_stepWord 35 [mR 9] [] (upM h2 9 10 v2)) else none) else X xs d k_Tp_stepWord 35 [mR 9] [] h1) else none))) else none) else X xs d k_Tp_stepWord 42 [mR 9] [] h) := ((X_blk xs d k_Tp_stepWord [6, 35, 42] 63 6 _ _ h).trans rfl)
theorem e_Tp_stepWord_35 (xs : List Int) (d : Nat) (h : mM) : X xs d k_Tp_stepWord 35 [mR 9] [] h = (if inI ((h 9 4) + 1) then X xs d k_Tp_stepWord 6 [mR 9] [] (upM h 9 4 ((h 9 4) + 1)) else none) := ((X_blk xs d k_Tp_stepWord [6, 35, 42] 63 35 _ _ h).trans rfl)
theorem e_Tp_stepWord_42 (xs : List Int) (d : Nat) (h : mM) : X xs d k_Tp_stepWord 42 [mR 9] [] h = (if inI ((h 9 4) - (h 9 6)) then (if (8 : Int) < ((h 9 4) - (h 9 6)) then some ([], (upM h 9 9 (-1))) else cI (C xs d 313 0 [mR 9, mL (h 9 10)] h) (fun v1 h1 => some ([], (upM h1 9 9 v1)))) else none) := ((X_blk xs d k_Tp_stepWord [6, 35, 42] 63 42 _ _ h).trans rfl)
theorem c_Tp_stepNumber (xs : List Int) (d : Nat) (h : mM) : C xs d 312 0 [mR 9] h = X xs d k_Tp_stepNumber 3 [mR 9] [] (upM h 9 7 0) := (C_in xs d 312 p_Tp_stepNumber _ h).trans ((X_blk xs d k_Tp_stepNumber [3, 36] 61 0 _ _ h).trans rfl)
theorem e_Tp_stepNumber_3 (xs : List Int) (d : Nat) (h : mM) : X xs d k_Tp_stepNumber 3 [mR 9] [] h = (if (h 9 4) < (h 9 3) then (if inA (h 9 4) 900 then cI (C xs d 317 0 [mI (h 10 (h 9 4))] h) (fun v1 h1 => (if v1 = (0 : Int) then (if inI ((h1 9 4) - (h1 9 6)) then (if (4 : Int) < ((h1 9 4) - (h1 9 6)) then some ([], (upM h1 9 5 4)) else some ([], (upM h1 9 5 2))) else none) else (if inI ((h1 9 4) - (h1 9 6)) then (if ((h1 9 4) - (h1 9 6)) < (4 : Int) then (if inI ((h1 9 7) * 10) then (if inA (h1 9 4) 900 then (if inI ((h1 10 (h1 9 4)) - 48) then (if inI (((h1 9 7) * 10) + ((h1 10 (h1 9 4)) - 48)) then X xs d k_Tp_stepNumber 36 [mR 9] [] (upM h1 9 7 (((h1 9 7) * 10) + ((h1 10 (h1 9 4)) - 48))) else none) else none) else none) else none) else X xs d k_Tp_stepNumber 36 [mR 9] [] h1) else none))) else none) else (if inI ((h 9 4) - (h 9 6)) then (if (4 : Int) < ((h 9 4) - (h 9 6)) then some ([], (upM h 9 5 4)) else some ([], (upM h 9 5 2))) else none)) := ((X_blk xs d k_Tp_stepNumber [3, 36] 61 3 _ _ h).trans rfl)
theorem e_Tp_stepNumber_36 (xs : List Int) (d : Nat) (h : mM) : X xs d k_Tp_stepNumber 36 [mR 9] [] h = (if inI ((h 9 4) + 1) then X xs d k_Tp_stepNumber 3 [mR 9] [] (upM h 9 4 ((h 9 4) + 1)) else none) := ((X_blk xs d k_Tp_stepNumber [3, 36] 61 36 _ _ h).trans rfl)
theorem c_Tp_wordOf (xs : List Int) (d : Nat) (x1 : Int) (h : mM) : C xs d 313 0 [mR 9, mL x1] h = X xs d k_Tp_wordOf 2 [mR 9, mL x1, mC 0, mI 1] [] h := (C_in xs d 313 p_Tp_wordOf _ h).trans ((X_blk xs d k_Tp_wordOf [2] 23 0 _ _ h).trans rfl)
theorem e_Tp_wordOf_2 (xs : List Int) (d : Nat) (x1 x3 : Int) (h : mM) : X xs d k_Tp_wordOf 2 [mR 9, mL x1, mC 0, mI x3] [] h = (if x3 < (24 : Int) then (if inA x3 24 then (if (h 11 x3) = x1 then some ([mI x3], h) else (if inI (x3 + 1) then X xs d k_Tp_wordOf 2 [mR 9, mL x1, mC 0, mI (x3 + 1)] [] h else none)) else none) else some ([mI 0], h)) := ((X_blk xs d k_Tp_wordOf [2] 23 2 _ _ h).trans rfl)
theorem c_Tp_withLetter (xs : List Int) (d : Nat) (x0 x2 : Int) (h : mM) : C xs d 314 0 [mL x0, mI x2] h = (if inL (x0 * 32) then (if inI (x2 - 97) then (if inI ((x2 - 97) + 1) then (if inL ((x0 * 32) + ((x2 - 97) + 1)) then some ([mL ((x0 * 32) + ((x2 - 97) + 1))], h) else none) else none) else none) else none) := (C_in xs d 314 p_Tp_withLetter _ h).trans ((X_blk xs d k_Tp_withLetter [] 16 0 _ _ h).trans rfl)
theorem c_Tp_isBlank (xs : List Int) (d : Nat) (x0 : Int) (h : mM) : C xs d 315 0 [mI x0] h = (if x0 = (10 : Int) then some ([mI 1], h) else (if x0 = (32 : Int) then some ([mI 1], h) else some ([mI 0], h))) := (C_in xs d 315 p_Tp_isBlank _ h).trans ((X_blk xs d k_Tp_isBlank [] 15 0 _ _ h).trans rfl)
theorem c_Tp_isLetter (xs : List Int) (d : Nat) (x0 : Int) (h : mM) : C xs d 316 0 [mI x0] h = (if x0 < (97 : Int) then some ([mI 0], h) else (if (122 : Int) < x0 then some ([mI 0], h) else some ([mI 1], h))) := (C_in xs d 316 p_Tp_isLetter _ h).trans ((X_blk xs d k_Tp_isLetter [] 15 0 _ _ h).trans rfl)
theorem c_Tp_isDigit (xs : List Int) (d : Nat) (x0 : Int) (h : mM) : C xs d 317 0 [mI x0] h = (if x0 < (48 : Int) then some ([mI 0], h) else (if (57 : Int) < x0 then some ([mI 0], h) else some ([mI 1], h))) := (C_in xs d 317 p_Tp_isDigit _ h).trans ((X_blk xs d k_Tp_isDigit [] 15 0 _ _ h).trans rfl)
theorem c_Tp_isSign (xs : List Int) (d : Nat) (x0 : Int) (h : mM) : C xs d 318 0 [mI x0] h = (if x0 = (59 : Int) then some ([mI 1], h) else (if x0 = (60 : Int) then some ([mI 1], h) else (if x0 = (62 : Int) then some ([mI 1], h) else (if x0 = (61 : Int) then some ([mI 1], h) else some ([mI 0], h))))) := (C_in xs d 318 p_Tp_isSign _ h).trans ((X_blk xs d k_Tp_isSign [] 21 0 _ _ h).trans rfl)
theorem c_Ti_forget (xs : List Int) (d : Nat) {b0 : Nat} (hb : b0 = 30 ∨ b0 = 48) (h : mM) : C xs d 320 0 [mR b0] h = some ([], (upM (upM (upM h b0 6 0) b0 7 0) b0 8 0)) := by rcases hb with rfl | rfl <;> exact (C_in xs d 320 p_Ti_forget _ h).trans ((X_blk xs d k_Ti_forget [] 15 0 _ _ h).trans rfl)
theorem c_Ti_add (xs : List Int) (d : Nat) (x1 : Int) (h : mM) : C xs d 321 0 [mR 48, mI x1] h = (if inA (min (h 48 6) 59) 60 then (if inA (min (h 48 6) 59) 60 then (if inA (min (h 48 6) 59) 60 then (if inA (min (h 48 6) 59) 60 then (if inA (min (h 48 6) 59) 60 then (if inA (min (h 48 6) 59) 60 then (if inI ((min (h 48 6) 59) + 1) then (if x1 = (22 : Int) then some ([mI (min (h 48 6) 59)], (upM (upM (upM (upM (upM (upM (upM h 49 (min (h 48 6) 59) x1) 50 (min (h 48 6) 59) (-1)) 51 (min (h 48 6) 59) (-1)) 52 (min (h 48 6) 59) 0) 53 (min (h 48 6) 59) 0) 54 (min (h 48 6) 59) (min (h 48 6) 59)) 48 6 ((min (h 48 6) 59) + 1))) else (if inI ((h 48 7) + 1) then some ([mI (min (h 48 6) 59)], (upM (upM (upM (upM (upM (upM (upM (upM h 49 (min (h 48 6) 59) x1) 50 (min (h 48 6) 59) (-1)) 51 (min (h 48 6) 59) (-1)) 52 (min (h 48 6) 59) 0) 53 (min (h 48 6) 59) 0) 54 (min (h 48 6) 59) (min (h 48 6) 59)) 48 6 ((min (h 48 6) 59) + 1)) 48 7 ((h 48 7) + 1))) else none)) else none) else none) else none) else none) else none) else none) else none) := (C_in xs d 321 p_Ti_add _ h).trans ((X_blk xs d k_Ti_add [] 56 0 _ _ h).trans rfl)
set_option maxRecDepth 100000 in
theorem c_Ti_takeFrom (xs : List Int) (d : Nat) {b0 : Nat} {b1 : Nat} (hb : (b0 = 100 ∧ b1 = 30) ∨ (b0 = 30 ∧ b1 = 100) ∨ (b0 = 30 ∧ b1 = 48) ∨ (b0 = 30 ∧ b1 = 68) ∨ (b0 = 30 ∧ b1 = 84) ∨ (b0 = 68 ∧ b1 = 30) ∨ (b0 = 84 ∧ b1 = 30)) (h : mM) : C xs d 322 0 [mR b0, mR b1] h = (if (0 ≤ (h b1 6) ∧ 0 ≤ (0 : Int) ∧ 0 ≤ (0 : Int)) ∧ (0 : Int) + (h b1 6) ≤ 60 ∧ (0 : Int) + (h b1 6) ≤ 60 then (if (0 ≤ (h b1 6) ∧ 0 ≤ (0 : Int) ∧ 0 ≤ (0 : Int)) ∧ (0 : Int) + (h b1 6) ≤ 60 ∧ (0 : Int) + (h b1 6) ≤ 60 then (if (0 ≤ (h b1 6) ∧ 0 ≤ (0 : Int) ∧ 0 ≤ (0 : Int)) ∧ (0 : Int) + (h b1 6) ≤ 60 ∧ (0 : Int) + (h b1 6) ≤ 60 then (if (0 ≤ (h b1 6) ∧ 0 ≤ (0 : Int) ∧ 0 ≤ (0 : Int)) ∧ (0 : Int) + (h b1 6) ≤ 60 ∧ (0 : Int) + (h b1 6) ≤ 60 then (if (0 ≤ (h b1 6) ∧ 0 ≤ (0 : Int) ∧ 0 ≤ (0 : Int)) ∧ (0 : Int) + (h b1 6) ≤ 60 ∧ (0 : Int) + (h b1 6) ≤ 60 then (if (0 ≤ (h b1 6) ∧ 0 ≤ (0 : Int) ∧ 0 ≤ (0 : Int)) ∧ (0 : Int) + (h b1 6) ≤ 60 ∧ (0 : Int) + (h b1 6) ≤ 60 then (if 0 ≤ (h b1 8) ∧ (h b1 8) ≤ 1 then some ([], (upM (upM (upM (mCpy (mCpy (mCpy (mCpy (mCpy (mCpy h (b1 + 1) 0 (b0 + 1) 0 (h b1 6)) (b1 + 2) 0 (b0 + 2) 0 (h b1 6)) (b1 + 3) 0 (b0 + 3) 0 (h b1 6)) (b1 + 4) 0 (b0 + 4) 0 (h b1 6)) (b1 + 5) 0 (b0 + 5) 0 (h b1 6)) (b1 + 6) 0 (b0 + 6) 0 (h b1 6)) b0 6 (h b1 6)) b0 7 (h b1 7)) b0 8 (h b1 8))) else none) else none) else none) else none) else none) else none) else none) := by rcases hb with ⟨rfl, rfl⟩ | ⟨rfl, rfl⟩ | ⟨rfl, rfl⟩ | ⟨rfl, rfl⟩ | ⟨rfl, rfl⟩ | ⟨rfl, rfl⟩ | ⟨rfl, rfl⟩ <;> exact (C_in xs d 322 p_Ti_takeFrom _ h).trans ((X_blk xs d k_Ti_takeFrom [] 72 0 _ _ h).trans rfl)
theorem c_TR_draft (xs : List Int) (d : Nat) (h : mM) : C xs d 324 0 [mR 47] h = some ([mR 48], h) := (C_in xs d 324 p_TR_draft _ h).trans ((X_blk xs d k_TR_draft [] 8 0 _ _ h).trans rfl)
theorem c_TR_readTimes (xs : List Int) (d : Nat) (x1 : Int) (h : mM) : C xs d 325 0 [mR 47, mI x1, mR 12] h = cV (C xs d 320 0 [mR 48] h) (fun h1 => cV (C xs d 300 0 [mR 9, mI x1] (upM h1 47 3 0)) (fun h2 => X xs d k_TR_readTimes 12 [mR 47, mI x1, mR 12, mI 0] [] h2)) := (C_in xs d 325 p_TR_readTimes _ h).trans ((X_blk xs d k_TR_readTimes [12, 27] 48 0 _ _ h).trans rfl)
theorem e_TR_readTimes_12 (xs : List Int) (d : Nat) (x1 x3 : Int) (h : mM) : X xs d k_TR_readTimes 12 [mR 47, mI x1, mR 12, mI x3] [] h = (if (300 : Int) < x3 then X xs d k_TR_readTimes 27 [mR 47, mI x1, mR 12, mI x3] [] h else cI (C xs d 301 0 [mR 9] h) (fun v1 h1 => (if v1 = (0 : Int) then cI (C xs d 326 0 [mR 47, mR 12] h1) (fun v2 h2 => (if v2 = (0 : Int) then some ([mI 0], h2) else (if inI (x3 + 1) then X xs d k_TR_readTimes 12 [mR 47, mI x1, mR 12, mI (x3 + 1)] [] h2 else none))) else X xs d k_TR_readTimes 27 [mR 47, mI x1, mR 12, mI x3] [] h1))) := ((X_blk xs d k_TR_readTimes [12, 27] 48 12 _ _ h).trans rfl)
theorem e_TR_readTimes_27 (xs : List Int) (d : Nat) (x1 x3 : Int) (h : mM) : X xs d k_TR_readTimes 27 [mR 47, mI x1, mR 12, mI x3] [] h = (if (h 47 3) = (0 : Int) then some ([mI 1], (upM h 48 8 1)) else cI (C xs d 305 0 [mR 9, mI 2] (upM h 48 8 1)) (fun v1 h1 => (if v1 = (0 : Int) then some ([mI 0], h1) else some ([mI 1], h1)))) := ((X_blk xs d k_TR_readTimes [12, 27] 48 27 _ _ h).trans rfl)
theorem c_TR_readStep (xs : List Int) (d : Nat) (h : mM) : C xs d 326 0 [mR 47, mR 12] h = (if (h 9 9) = (22 : Int) then cI (C xs d 327 0 [mR 47] h) (fun v4 h4 => (if 0 ≤ v4 ∧ v4 ≤ 1 then some ([mI v4], h4) else none)) else (if (h 9 9) < (14 : Int) then cI (C xs d 305 0 [mR 9, mI 2] h) (fun v1 h1 => (if 0 ≤ v1 ∧ v1 ≤ 1 then some ([mI v1], h1) else none)) else (if (h 9 9) = (20 : Int) then cI (C xs d 305 0 [mR 9, mI 2] h) (fun v3 h3 => (if 0 ≤ v3 ∧ v3 ≤ 1 then some ([mI v3], h3) else none)) else (if (h 48 7) < (30 : Int) then (if (h 9 9) = (19 : Int) then X xs d k_TR_readStep 37 [mR 47, mR 12, mI (h 9 9), mC 0, mC 0, mC 0] [] h else (if (h 9 9) = (21 : Int) then X xs d k_TR_readStep 37 [mR 47, mR 12, mI (h 9 9), mC 0, mC 0, mC 0] [] h else X xs d k_TR_readStep 40 [mR 47, mR 12, mI (h 9 9), mC 0, mC 0, mC 0] [mI 0] h)) else cI (C xs d 305 0 [mR 9, mI 6] h) (fun v2 h2 => (if 0 ≤ v2 ∧ v2 ≤ 1 then some ([mI v2], h2) else none)))))) := (C_in xs d 326 p_TR_readStep _ h).trans ((X_blk xs d k_TR_readStep [37, 40, 52, 71] 135 0 _ _ h).trans rfl)
theorem e_TR_readStep_37 (xs : List Int) (d : Nat) (x2 : Int) (h : mM) : X xs d k_TR_readStep 37 [mR 47, mR 12, mI x2, mC 0, mC 0, mC 0] [] h = X xs d k_TR_readStep 40 [mR 47, mR 12, mI x2, mC 0, mC 0, mC 0] [mI 1] h := ((X_blk xs d k_TR_readStep [37, 40, 52, 71] 135 37 _ _ h).trans rfl)
theorem e_TR_readStep_40 (xs : List Int) (d : Nat) (x2 s0 : Int) (h : mM) : X xs d k_TR_readStep 40 [mR 47, mR 12, mI x2, mC 0, mC 0, mC 0] [mI s0] h = (if s0 = (0 : Int) then X xs d k_TR_readStep 52 [mR 47, mR 12, mI x2, mI s0, mC 0, mC 0] [] h else (if (h 47 3) < (3 : Int) then X xs d k_TR_readStep 52 [mR 47, mR 12, mI x2, mI s0, mC 0, mC 0] [] h else cI (C xs d 305 0 [mR 9, mI 7] h) (fun v1 h1 => (if 0 ≤ v1 ∧ v1 ≤ 1 then some ([mI v1], h1) else none)))) := ((X_blk xs d k_TR_readStep [37, 40, 52, 71] 135 40 _ _ h).trans rfl)
theorem e_TR_readStep_52 (xs : List Int) (d : Nat) (x2 x3 : Int) (h : mM) : X xs d k_TR_readStep 52 [mR 47, mR 12, mI x2, mI x3, mC 0, mC 0] [] h = cI (C xs d 321 0 [mR 48, mI x2] h) (fun v1 h1 => (if x3 = (0 : Int) then X xs d k_TR_readStep 71 [mR 47, mR 12, mI x2, mI x3, mI v1, mC 0] [] h1 else (if inA (h1 47 3) 3 then (if inI ((h1 47 3) + 1) then X xs d k_TR_readStep 71 [mR 47, mR 12, mI x2, mI x3, mI v1, mC 0] [] (upM (upM h1 55 (h1 47 3) v1) 47 3 ((h1 47 3) + 1)) else none) else none))) := ((X_blk xs d k_TR_readStep [37, 40, 52, 71] 135 52 _ _ h).trans rfl)
set_option maxRecDepth 100000 in
theorem e_TR_readStep_71 (xs : List Int) (d : Nat) (x2 x3 x4 : Int) (h : mM) : X xs d k_TR_readStep 71 [mR 47, mR 12, mI x2, mI x3, mI x4, mC 0] [] h = cV (C xs d 310 0 [mR 9] h) (fun h1 => (if x2 = 14 then cI (C xs d 329 0 [mR 47, mI x4, mR 12] h1) (fun v15 h15 => (if v15 = (0 : Int) then some ([mI 0], h15) else cI (C xs d 307 0 [mR 9] h15) (fun v16 h16 => (if v16 = (0 : Int) then some ([mI 0], h16) else some ([mI 1], h16))))) else (if x2 = 15 then cI (C xs d 331 0 [mR 47, mI x4, mI 1, mI 20] h1) (fun v13 h13 => (if v13 = (0 : Int) then some ([mI 0], h13) else cI (C xs d 307 0 [mR 9] h13) (fun v14 h14 => (if v14 = (0 : Int) then some ([mI 0], h14) else some ([mI 1], h14))))) else (if x2 = 16 then cI (C xs d 307 0 [mR 9] h1) (fun v12 h12 => (if v12 = (0 : Int) then some ([mI 0], h12) else some ([mI 1], h12))) else (if x2 = 17 then cI (C xs d 329 0 [mR 47, mI x4, mR 12] h1) (fun v9 h9 => (if v9 = (0 : Int) then some ([mI 0], h9) else cI (C xs d 331 0 [mR 47, mI x4, mI 0, mI 9] h9) (fun v10 h10 => (if v10 = (0 : Int) then some ([mI 0], h10) else cI (C xs d 307 0 [mR 9] h10) (fun v11 h11 => (if v11 = (0 : Int) then some ([mI 0], h11) else some ([mI 1], h11))))))) else (if x2 = 18 then cI (C xs d 307 0 [mR 9] h1) (fun v8 h8 => (if v8 = (0 : Int) then some ([mI 0], h8) else some ([mI 1], h8))) else (if x2 = 19 then cI (C xs d 328 0 [mR 47, mI x4, mR 12] h1) (fun v6 h6 => (if v6 = (0 : Int) then some ([mI 0], h6) else cI (C xs d 307 0 [mR 9] h6) (fun v7 h7 => (if v7 = (0 : Int) then some ([mI 0], h7) else some ([mI 1], h7))))) else (if x2 = 20 then cI (C xs d 307 0 [mR 9] h1) (fun v5 h5 => (if v5 = (0 : Int) then some ([mI 0], h5) else some ([mI 1], h5))) else (if x2 = 21 then cI (C xs d 331 0 [mR 47, mI x4, mI 1, mI 99] h1) (fun v3 h3 => (if v3 = (0 : Int) then some ([mI 0], h3) else cI (C xs d 307 0 [mR 9] h3) (fun v4 h4 => (if v4 = (0 : Int) then some ([mI 0], h4) else some ([mI 1], h4))))) else cI (C xs d 307 0 [mR 9] h1) (fun v2 h2 => (if v2 = (0 : Int) then some ([mI 0], h2) else some ([mI 1], h2)))))))))))) := ((X_blk xs d k_TR_readStep [37, 40, 52, 71] 135 71 _ _ h).trans rfl)
theorem c_TR_readEnd (xs : List Int) (d : Nat) (h : mM) : C xs d 327 0 [mR 47] h = (if (h 47 3) < (1 : Int) then cI (C xs d 305 0 [mR 9, mI 2] h) (fun v4 h4 => (if 0 ≤ v4 ∧ v4 ≤ 1 then some ([mI v4], h4) else none)) else cV (C xs d 310 0 [mR 9] h) (fun h1 => (if inI ((h1 47 3) - 1) then (if inA ((h1 47 3) - 1) 3 then cI (C xs d 321 0 [mR 48, mI 22] (upM h1 47 3 ((h1 47 3) - 1))) (fun v2 h2 => (if inA v2 60 then (if inA (h1 55 ((h1 47 3) - 1)) 60 then cI (C xs d 307 0 [mR 9] (upM (upM h2 54 v2 (h1 55 ((h1 47 3) - 1))) 54 (h1 55 ((h1 47 3) - 1)) v2)) (fun v3 h3 => (if 0 ≤ v3 ∧ v3 ≤ 1 then some ([mI v3], h3) else none)) else none) else none)) else none) else none))) := (C_in xs d 327 p_TR_readEnd _ h).trans ((X_blk xs d k_TR_readEnd [] 50 0 _ _ h).trans rfl)
theorem c_TR_readTest (xs : List Int) (d : Nat) (x1 : Int) (h : mM) : C xs d 328 0 [mR 47, mI x1, mR 12] h = (if (h 9 9) = (20 : Int) then X xs d k_TR_readTest 18 [mR 47, mI x1, mR 12, mI (h 9 9)] [] h else (if (h 9 9) = (10 : Int) then X xs d k_TR_readTest 18 [mR 47, mI x1, mR 12, mI (h 9 9)] [] h else (if (h 9 9) = (11 : Int) then X xs d k_TR_readTest 18 [mR 47, mI x1, mR 12, mI (h 9 9)] [] h else cI (C xs d 305 0 [mR 9, mI 2] h) (fun v1 h1 => (if 0 ≤ v1 ∧ v1 ≤ 1 then some ([mI v1], h1) else none))))) := (C_in xs d 328 p_TR_readTest _ h).trans ((X_blk xs d k_TR_readTest [18] 61 0 _ _ h).trans rfl)
theorem e_TR_readTest_18 (xs : List Int) (d : Nat) (x1 x3 : Int) (h : mM) : X xs d k_TR_readTest 18 [mR 47, mI x1, mR 12, mI x3] [] h = (if inA x1 60 then cV (C xs d 310 0 [mR 9] (upM h 51 x1 x3)) (fun h1 => cI (C xs d 329 0 [mR 47, mI x1, mR 12] h1) (fun v2 h2 => (if v2 = (0 : Int) then some ([mI 0], h2) else (if x3 = (20 : Int) then some ([mI 1], h2) else cI (C xs d 330 0 [mR 47, mI x1] h2) (fun v3 h3 => (if v3 = (0 : Int) then some ([mI 0], h3) else (if x3 = (10 : Int) then cI (C xs d 331 0 [mR 47, mI x1, mI 0, mI 99] h3) (fun v5 h5 => (if v5 = (0 : Int) then some ([mI 0], h5) else some ([mI 1], h5))) else cI (C xs d 331 0 [mR 47, mI x1, mI 0, mI 9] h3) (fun v4 h4 => (if v4 = (0 : Int) then some ([mI 0], h4) else some ([mI 1], h4)))))))))) else none) := ((X_blk xs d k_TR_readTest [18] 61 18 _ _ h).trans rfl)
theorem c_TR_readWho (xs : List Int) (d : Nat) (x1 : Int) (h : mM) : C xs d 329 0 [mR 47, mI x1, mR 12] h = cI (C xs d 309 0 [mR 9, mR 12] h) (fun v1 h1 => (if v1 = (-1 : Int) then some ([mI 0], h1) else (if inA x1 60 then cV (C xs d 310 0 [mR 9] (upM h1 50 x1 v1)) (fun h2 => some ([mI 1], h2)) else none))) := (C_in xs d 329 p_TR_readWho _ h).trans ((X_blk xs d k_TR_readWho [] 26 0 _ _ h).trans rfl)
theorem c_TR_readCompares (xs : List Int) (d : Nat) (x1 : Int) (h : mM) : C xs d 330 0 [mR 47, mI x1] h = cI (C xs d 302 0 [mR 9] h) (fun v1 h1 => (if v1 = (0 : Int) then cI (C xs d 305 0 [mR 9, mI 2] h1) (fun v4 h4 => (if 0 ≤ v4 ∧ v4 ≤ 1 then some ([mI v4], h4) else none)) else cI (C xs d 303 0 [mR 9] h1) (fun v2 h2 => (if inA x1 60 then cV (C xs d 310 0 [mR 9] (upM h2 52 x1 v2)) (fun h3 => some ([mI 1], h3)) else none)))) := (C_in xs d 330 p_TR_readCompares _ h).trans ((X_blk xs d k_TR_readCompares [] 27 0 _ _ h).trans rfl)
theorem c_TR_readAmount (xs : List Int) (d : Nat) (x1 x2 x3 : Int) (h : mM) : C xs d 331 0 [mR 47, mI x1, mI x2, mI x3] h = cI (C xs d 308 0 [mR 9, mI x2, mI x3] h) (fun v1 h1 => (if v1 = (0 : Int) then some ([mI 0], h1) else cI (C xs d 304 0 [mR 9] h1) (fun v2 h2 => (if inA x1 60 then cV (C xs d 310 0 [mR 9] (upM h2 53 x1 v2)) (fun h3 => some ([mI 1], h3)) else none)))) := (C_in xs d 331 p_TR_readAmount _ h).trans ((X_blk xs d k_TR_readAmount [] 26 0 _ _ h).trans rfl)
theorem c_Tr_isTray (xs : List Int) (d : Nat) (x1 : Int) (h : mM) : C xs d 333 0 [mR 1, mI x1] h = (if x1 < (0 : Int) then some ([mI 0], h) else (if x1 < (4 : Int) then some ([mI 1], h) else some ([mI 0], h))) := (C_in xs d 333 p_Tr_isTray _ h).trans ((X_blk xs d k_Tr_isTray [] 14 0 _ _ h).trans rfl)
theorem c_Tr_isSort (xs : List Int) (d : Nat) (x1 : Int) (h : mM) : C xs d 334 0 [mR 1, mI x1] h = (if x1 < (0 : Int) then some ([mI 0], h) else (if (3 : Int) < x1 then some ([mI 0], h) else some ([mI 1], h))) := (C_in xs d 334 p_Tr_isSort _ h).trans ((X_blk xs d k_Tr_isSort [] 14 0 _ _ h).trans rfl)
theorem c_Tr_isMissing (xs : List Int) (d : Nat) (x1 : Int) (h : mM) : C xs d 335 0 [mR 1, mI x1] h = (if inA x1 4 then (if (h 8 x1) = (-1 : Int) then some ([mI 1], h) else some ([mI 0], h)) else none) := (C_in xs d 335 p_Tr_isMissing _ h).trans ((X_blk xs d k_Tr_isMissing [] 15 0 _ _ h).trans rfl)
theorem c_Tr_length (xs : List Int) (d : Nat) (x1 : Int) (h : mM) : C xs d 336 0 [mR 1, mI x1] h = (if inA x1 4 then some ([mI (h 8 x1)], h) else none) := (C_in xs d 336 p_Tr_length _ h).trans ((X_blk xs d k_Tr_length [] 10 0 _ _ h).trans rfl)
theorem c_Tr_sort (xs : List Int) (d : Nat) (x1 : Int) (h : mM) : C xs d 337 0 [mR 1, mI x1] h = (if inA x1 4 then some ([mI (h 7 x1)], h) else none) := (C_in xs d 337 p_Tr_sort _ h).trans ((X_blk xs d k_Tr_sort [] 10 0 _ _ h).trans rfl)
theorem c_Tr_has (xs : List Int) (d : Nat) (x1 x2 x3 : Int) (h : mM) : C xs d 338 0 [mR 1, mI x1, mI x2, mI x3] h = (if inL (x2 + x3) then (if inA x1 4 then (if (h 8 x1) < (x2 + x3) then some ([mI 0], h) else some ([mI 1], h)) else none) else none) := (C_in xs d 338 p_Tr_has _ h).trans ((X_blk xs d k_Tr_has [] 21 0 _ _ h).trans rfl)
theorem c_Tr_lay (xs : List Int) (d : Nat) (x1 x2 x3 : Int) (h : mM) : C xs d 339 0 [mR 1, mI x1, mI x2, mI x3] h = (if inA x1 4 then (if inA x1 4 then X xs d k_Tr_lay 12 [mR 1, mI x1, mI x2, mI x3, mI 0] [] (upM (upM h 7 x1 x2) 8 x1 x3) else none) else none) := (C_in xs d 339 p_Tr_lay _ h).trans ((X_blk xs d k_Tr_lay [12, 18] 30 0 _ _ h).trans rfl)
theorem e_Tr_lay_12 (xs : List Int) (d : Nat) (x1 x2 x3 x4 : Int) (h : mM) : X xs d k_Tr_lay 12 [mR 1, mI x1, mI x2, mI x3, mI x4] [] h = (if x4 < x3 then X xs d k_Tr_lay 18 [mR 1, mI x1, mI x2, mI x3, mI x4] [mI x1, mR 2] h else some ([], h)) := ((X_blk xs d k_Tr_lay [12, 18] 30 12 _ _ h).trans rfl)
theorem e_Tr_lay_18 (xs : List Int) (d : Nat) (x1 x2 x3 x4 s1 : Int) (hb : s1 = 0 ∨ s1 = 1 ∨ s1 = 2 ∨ s1 = 3) (h : mM) : X xs d k_Tr_lay 18 [mR 1, mI x1, mI x2, mI x3, mI x4] [mI s1, mR 2] h = (if inA x4 60 then (if inI (x4 + 1) then X xs d k_Tr_lay 12 [mR 1, mI x1, mI x2, mI x3, mI (x4 + 1)] [] (upM h (3 + s1.toNat) x4 0) else none) else none) := by rcases hb with rfl | rfl | rfl | rfl <;> exact ((X_blk xs d k_Tr_lay [12, 18] 30 18 _ _ h).trans rfl)
theorem c_Tr_at (xs : List Int) (d : Nat) (x1 x2 : Int) (h : mM) : C xs d 340 0 [mR 1, mI x1, mI x2] h = X xs d k_Tr_at 3 [mR 1, mI x1, mI x2] [mI x1, mR 2] h := (C_in xs d 340 p_Tr_at _ h).trans ((X_blk xs d k_Tr_at [3] 12 0 _ _ h).trans rfl)
theorem e_Tr_at_3 (xs : List Int) (d : Nat) (x1 x2 s1 : Int) (hb : s1 = 0 ∨ s1 = 1 ∨ s1 = 2 ∨ s1 = 3) (h : mM) : X xs d k_Tr_at 3 [mR 1, mI x1, mI x2] [mI s1, mR 2] h = (if inA x2 60 then some ([mL (h (3 + s1.toNat) x2)], h) else none) := by rcases hb with rfl | rfl | rfl | rfl <;> exact ((X_blk xs d k_Tr_at [3] 12 3 _ _ h).trans rfl)
theorem c_Tr_put (xs : List Int) (d : Nat) (x1 x2 x3 : Int) (h : mM) : C xs d 341 0 [mR 1, mI x1, mI x2, mL x3] h = X xs d k_Tr_put 3 [mR 1, mI x1, mI x2, mL x3, mC 0] [mI x1, mR 2] h := (C_in xs d 341 p_Tr_put _ h).trans ((X_blk xs d k_Tr_put [3] 18 0 _ _ h).trans rfl)
theorem e_Tr_put_3 (xs : List Int) (d : Nat) (x1 x2 x3 s1 : Int) (hb : s1 = 0 ∨ s1 = 1 ∨ s1 = 2 ∨ s1 = 3) (h : mM) : X xs d k_Tr_put 3 [mR 1, mI x1, mI x2, mL x3, mC 0] [mI s1, mR 2] h = (if inA x1 4 then cL (C xs d 343 0 [mI (h 7 x1), mL x3] h) (fun v1 h1 => (if inA x2 60 then some ([], (upM h1 (3 + s1.toNat) x2 v1)) else none)) else none) := by rcases hb with rfl | rfl | rfl | rfl <;> exact ((X_blk xs d k_Tr_put [3] 18 3 _ _ h).trans rfl)
theorem c_Tr_copy (xs : List Int) (d : Nat) (x1 x2 x3 x4 x5 : Int) (h : mM) : C xs d 342 0 [mR 1, mI x1, mI x2, mI x3, mI x4, mI x5] h = X xs d k_Tr_copy 3 [mR 1, mI x1, mI x2, mI x3, mI x4, mI x5] [mI x1, mR 2] h := (C_in xs d 342 p_Tr_copy _ h).trans ((X_blk xs d k_Tr_copy [3, 8] 18 0 _ _ h).trans rfl)
theorem e_Tr_copy_3 (xs : List Int) (d : Nat) (x1 x2 x3 x4 x5 s1 : Int) (hb : s1 = 0 ∨ s1 = 1 ∨ s1 = 2 ∨ s1 = 3) (h : mM) : X xs d k_Tr_copy 3 [mR 1, mI x1, mI x2, mI x3, mI x4, mI x5] [mI s1, mR 2] h = X xs d k_Tr_copy 8 [mR 1, mI x1, mI x2, mI x3, mI x4, mI x5] [mI x3, mR 2, mI x2, mR (3 + s1.toNat)] h := by rcases hb with rfl | rfl | rfl | rfl <;> exact ((X_blk xs d k_Tr_copy [3, 8] 18 3 _ _ h).trans rfl)
theorem e_Tr_copy_8 (xs : List Int) (d : Nat) {bs0 : Nat} (x1 x2 x3 x4 x5 s3 s1 : Int) (hb : (bs0 = 3 ∧ s3 = 0) ∨ (bs0 = 3 ∧ s3 = 1) ∨ (bs0 = 3 ∧ s3 = 2) ∨ (bs0 = 3 ∧ s3 = 3) ∨ (bs0 = 4 ∧ s3 = 0) ∨ (bs0 = 4 ∧ s3 = 1) ∨ (bs0 = 4 ∧ s3 = 2) ∨ (bs0 = 4 ∧ s3 = 3) ∨ (bs0 = 5 ∧ s3 = 0) ∨ (bs0 = 5 ∧ s3 = 1) ∨ (bs0 = 5 ∧ s3 = 2) ∨ (bs0 = 5 ∧ s3 = 3) ∨ (bs0 = 6 ∧ s3 = 0) ∨ (bs0 = 6 ∧ s3 = 1) ∨ (bs0 = 6 ∧ s3 = 2) ∨ (bs0 = 6 ∧ s3 = 3)) (h : mM) : X xs d k_Tr_copy 8 [mR 1, mI x1, mI x2, mI x3, mI x4, mI x5] [mI s3, mR 2, mI s1, mR bs0] h = (if (0 ≤ x5 ∧ 0 ≤ s1 ∧ 0 ≤ x4) ∧ s1 + x5 ≤ 60 ∧ x4 + x5 ≤ 60 then some ([], (mCpy h bs0 s1 (3 + s3.toNat) x4 x5)) else none) := by rcases hb with ⟨rfl, rfl⟩ | ⟨rfl, rfl⟩ | ⟨rfl, rfl⟩ | ⟨rfl, rfl⟩ | ⟨rfl, rfl⟩ | ⟨rfl, rfl⟩ | ⟨rfl, rfl⟩ | ⟨rfl, rfl⟩ | ⟨rfl, rfl⟩ | ⟨rfl, rfl⟩ | ⟨rfl, rfl⟩ | ⟨rfl, rfl⟩ | ⟨rfl, rfl⟩ | ⟨rfl, rfl⟩ | ⟨rfl, rfl⟩ | ⟨rfl, rfl⟩ <;> exact ((X_blk xs d k_Tr_copy [3, 8] 18 8 _ _ h).trans rfl)
theorem c_Tr_cutTo (xs : List Int) (d : Nat) (x0 x1 : Int) (h : mM) : C xs d 343 0 [mI x0, mL x1] h = (if x0 = 0 then some ([mL (fI2b (fL2i x1))], h) else (if x0 = 1 then some ([mL (fI2s (fL2i x1))], h) else (if x0 = 2 then some ([mL (fL2i x1)], h) else some ([mL x1], h)))) := (C_in xs d 343 p_Tr_cutTo _ h).trans ((X_blk xs d k_Tr_cutTo [] 23 0 _ _ h).trans rfl)
theorem c_Wy_begin (xs : List Int) (d : Nat) (x1 : Int) (h : mM) : C xs d 345 0 [mR 111, mI x1] h = (if inI ((fShl 1 (min x1 7)) - 1) then X xs d k_Wy_begin 15 [mR 111, mI x1, mI 0] [] (upM (upM h 111 3 (min x1 7)) 111 4 ((fShl 1 (min x1 7)) - 1)) else none) := (C_in xs d 345 p_Wy_begin _ h).trans ((X_blk xs d k_Wy_begin [15] 39 0 _ _ h).trans rfl)
theorem e_Wy_begin_15 (xs : List Int) (d : Nat) (x1 x2 : Int) (h : mM) : X xs d k_Wy_begin 15 [mR 111, mI x1, mI x2] [] h = (if x2 < (h 111 3) then (if inA x2 7 then (if inI (x2 + 1) then X xs d k_Wy_begin 15 [mR 111, mI x1, mI (x2 + 1)] [] (upM h 112 x2 (fAnd (h 111 4) (fXor (fShl 1 x2) (-1)))) else none) else none) else some ([], h)) := ((X_blk xs d k_Wy_begin [15] 39 15 _ _ h).trans rfl)
theorem c_Wy_seen (xs : List Int) (d : Nat) (x1 x2 : Int) (h : mM) : C xs d 346 0 [mR 111, mI x1, mI x2] h = X xs d k_Wy_seen 2 [mR 111, mI x1, mI x2, mI 0] [] h := (C_in xs d 346 p_Wy_seen _ h).trans ((X_blk xs d k_Wy_seen [2, 22] 32 0 _ _ h).trans rfl)
theorem e_Wy_seen_2 (xs : List Int) (d : Nat) (x1 x2 x3 : Int) (h : mM) : X xs d k_Wy_seen 2 [mR 111, mI x1, mI x2, mI x3] [] h = (if x3 < (h 111 3) then (if inA x3 7 then (if (fAnd x1 (fShl 1 x3)) = (0 : Int) then X xs d k_Wy_seen 22 [mR 111, mI x1, mI x2, mI x3] [mI (fXor x2 (-1)), mI (h 112 x3), mI x3, mR 112] h else X xs d k_Wy_seen 22 [mR 111, mI x1, mI x2, mI x3] [mI x2, mI (h 112 x3), mI x3, mR 112] h) else none) else some ([], h)) := ((X_blk xs d k_Wy_seen [2, 22] 32 2 _ _ h).trans rfl)
theorem e_Wy_seen_22 (xs : List Int) (d : Nat) (x1 x2 x3 s3 s2 s1 : Int) (h : mM) : X xs d k_Wy_seen 22 [mR 111, mI x1, mI x2, mI x3] [mI s3, mI s2, mI s1, mR 112] h = (if inA s1 7 then (if inI (x3 + 1) then X xs d k_Wy_seen 2 [mR 111, mI x1, mI x2, mI (x3 + 1)] [] (upM h 112 s1 (fAnd s2 s3)) else none) else none) := ((X_blk xs d k_Wy_seen [2, 22] 32 22 _ _ h).trans rfl)
theorem c_Wy_countAll (xs : List Int) (d : Nat) (h : mM) : C xs d 347 0 [mR 111] h = X xs d k_Wy_countAll 2 [mR 111, mI 0] [] h := (C_in xs d 347 p_Wy_countAll _ h).trans ((X_blk xs d k_Wy_countAll [2, 31, 45] 58 0 _ _ h).trans rfl)
theorem e_Wy_countAll_2 (xs : List Int) (d : Nat) (x1 : Int) (h : mM) : X xs d k_Wy_countAll 2 [mR 111, mI x1] [] h = (if (h 111 4) < x1 then (if inA (h 111 4) 128 then X xs d k_Wy_countAll 31 [mR 111, mI 0] [] (upM (upM h 113 0 1) 114 (h 111 4) 1) else none) else (if inA x1 128 then (if inA x1 128 then (if inI (x1 + 1) then X xs d k_Wy_countAll 2 [mR 111, mI (x1 + 1)] [] (upM (upM h 113 x1 0) 114 x1 0) else none) else none) else none)) := ((X_blk xs d k_Wy_countAll [2, 31, 45] 58 2 _ _ h).trans rfl)
theorem e_Wy_countAll_31 (xs : List Int) (d : Nat) (x1 : Int) (h : mM) : X xs d k_Wy_countAll 31 [mR 111, mI x1] [] h = (if x1 < (h 111 4) then cV (C xs d 348 0 [mR 111, mI x1] h) (fun h1 => (if inI (x1 + 1) then X xs d k_Wy_countAll 31 [mR 111, mI (x1 + 1)] [] h1 else none)) else (if inI ((h 111 4) - 1) then X xs d k_Wy_countAll 45 [mR 111, mI ((h 111 4) - 1)] [] h else none)) := ((X_blk xs d k_Wy_countAll [2, 31, 45] 58 31 _ _ h).trans rfl)
theorem e_Wy_countAll_45 (xs : List Int) (d : Nat) (x1 : Int) (h : mM) : X xs d k_Wy_countAll 45 [mR 111, mI x1] [] h = (if x1 < (0 : Int) then some ([], h) else cV (C xs d 349 0 [mR 111, mI x1] h) (fun h1 => (if inI (x1 + (-1)) then X xs d k_Wy_countAll 45 [mR 111, mI (x1 + (-1))] [] h1 else none))) := ((X_blk xs d k_Wy_countAll [2, 31, 45] 58 45 _ _ h).trans rfl)
theorem c_Wy_spread (xs : List Int) (d : Nat) (x1 : Int) (h : mM) : C xs d 348 0 [mR 111, mI x1] h = cI (C xs d 0 0 [mI x1] h) (fun v1 h1 => X xs d k_Wy_spread 5 [mR 111, mI x1, mI v1, mI 0] [] h1) := (C_in xs d 348 p_Wy_spread _ h).trans ((X_blk xs d k_Wy_spread [5, 30] 38 0 _ _ h).trans rfl)
theorem e_Wy_spread_5 (xs : List Int) (d : Nat) (x1 x2 x3 : Int) (h : mM) : X xs d k_Wy_spread 5 [mR 111, mI x1, mI x2, mI x3] [] h = (if x3 < (h 111 3) then cI (C xs d 350 0 [mR 111, mI x1, mI x2, mI x3] h) (fun v1 h1 => (if v1 = (0 : Int) then X xs d k_Wy_spread 30 [mR 111, mI x1, mI x2, mI x3] [] h1 else (if inA (fOr x1 (fShl 1 x3)) 128 then (if inA x1 128 then (if inI ((h1 113 (fOr x1 (fShl 1 x3))) + (h1 113 x1)) then (if inA (fOr x1 (fShl 1 x3)) 128 then X xs d k_Wy_spread 30 [mR 111, mI x1, mI x2, mI x3] [] (upM h1 113 (fOr x1 (fShl 1 x3)) ((h1 113 (fOr x1 (fShl 1 x3))) + (h1 113 x1))) else none) else none) else none) else none))) else some ([], h)) := ((X_blk xs d k_Wy_spread [5, 30] 38 5 _ _ h).trans rfl)
theorem e_Wy_spread_30 (xs : List Int) (d : Nat) (x1 x2 x3 : Int) (h : mM) : X xs d k_Wy_spread 30 [mR 111, mI x1, mI x2, mI x3] [] h = (if inI (x3 + 1) then X xs d k_Wy_spread 5 [mR 111, mI x1, mI x2, mI (x3 + 1)] [] h else none) := ((X_blk xs d k_Wy_spread [5, 30] 38 30 _ _ h).trans rfl)
theorem c_Wy_gather (xs : List Int) (d : Nat) (x1 : Int) (h : mM) : C xs d 349 0 [mR 111, mI x1] h = cI (C xs d 0 0 [mI x1] h) (fun v1 h1 => X xs d k_Wy_gather 5 [mR 111, mI x1, mI v1, mI 0] [] h1) := (C_in xs d 349 p_Wy_gather _ h).trans ((X_blk xs d k_Wy_gather [5, 30] 38 0 _ _ h).trans rfl)
theorem e_Wy_gather_5 (xs : List Int) (d : Nat) (x1 x2 x3 : Int) (h : mM) : X xs d k_Wy_gather 5 [mR 111, mI x1, mI x2, mI x3] [] h = (if x3 < (h 111 3) then cI (C xs d 350 0 [mR 111, mI x1, mI x2, mI x3] h) (fun v1 h1 => (if v1 = (0 : Int) then X xs d k_Wy_gather 30 [mR 111, mI x1, mI x2, mI x3] [] h1 else (if inA x1 128 then (if inA (fOr x1 (fShl 1 x3)) 128 then (if inI ((h1 114 x1) + (h1 114 (fOr x1 (fShl 1 x3)))) then (if inA x1 128 then X xs d k_Wy_gather 30 [mR 111, mI x1, mI x2, mI x3] [] (upM h1 114 x1 ((h1 114 x1) + (h1 114 (fOr x1 (fShl 1 x3))))) else none) else none) else none) else none))) else some ([], h)) := ((X_blk xs d k_Wy_gather [5, 30] 38 5 _ _ h).trans rfl)
theorem e_Wy_gather_30 (xs : List Int) (d : Nat) (x1 x2 x3 : Int) (h : mM) : X xs d k_Wy_gather 30 [mR 111, mI x1, mI x2, mI x3] [] h = (if inI (x3 + 1) then X xs d k_Wy_gather 5 [mR 111, mI x1, mI x2, mI (x3 + 1)] [] h else none) := ((X_blk xs d k_Wy_gather [5, 30] 38 30 _ _ h).trans rfl)
theorem c_Wy_isOpen (xs : List Int) (d : Nat) (x1 x2 x3 : Int) (h : mM) : C xs d 350 0 [mR 111, mI x1, mI x2, mI x3] h = (if inA x2 7 then (if (fAnd (fAnd (h 112 x2) (fXor x1 (-1))) (fShl 1 x3)) = (0 : Int) then some ([mI 0], h) else some ([mI 1], h)) else none) := (C_in xs d 350 p_Wy_isOpen _ h).trans ((X_blk xs d k_Wy_isOpen [] 22 0 _ _ h).trans rfl)
theorem c_Wy_all (xs : List Int) (d : Nat) (h : mM) : C xs d 351 0 [mR 111] h = some ([mI (h 114 0)], h) := (C_in xs d 351 p_Wy_all _ h).trans ((X_blk xs d k_Wy_all [] 10 0 _ _ h).trans rfl)
theorem c_Wy_through (xs : List Int) (d : Nat) (x1 x2 : Int) (h : mM) : C xs d 352 0 [mR 111, mI x1, mI x2] h = X xs d k_Wy_through 4 [mR 111, mI x1, mI x2, mI 0, mI 0] [] h := (C_in xs d 352 p_Wy_through _ h).trans ((X_blk xs d k_Wy_through [4, 34] 43 0 _ _ h).trans rfl)
theorem e_Wy_through_4 (xs : List Int) (d : Nat) (x1 x2 x3 x4 : Int) (h : mM) : X xs d k_Wy_through 4 [mR 111, mI x1, mI x2, mI x3, mI x4] [] h = (if x4 < (h 111 4) then cI (C xs d 0 0 [mI x4] h) (fun v1 h1 => (if v1 = x1 then cI (C xs d 350 0 [mR 111, mI x4, mI x1, mI x2] h1) (fun v2 h2 => (if v2 = (0 : Int) then X xs d k_Wy_through 34 [mR 111, mI x1, mI x2, mI x3, mI x4] [] h2 else (if inA x4 128 then (if inA (fOr x4 (fShl 1 x2)) 128 then (if inI ((h2 113 x4) * (h2 114 (fOr x4 (fShl 1 x2)))) then (if inI (x3 + ((h2 113 x4) * (h2 114 (fOr x4 (fShl 1 x2))))) then X xs d k_Wy_through 34 [mR 111, mI x1, mI x2, mI (x3 + ((h2 113 x4) * (h2 114 (fOr x4 (fShl 1 x2))))), mI x4] [] h2 else none) else none) else none) else none))) else X xs d k_Wy_through 34 [mR 111, mI x1, mI x2, mI x3, mI x4] [] h1)) else some ([mI x3], h)) := ((X_blk xs d k_Wy_through [4, 34] 43 4 _ _ h).trans rfl)
theorem e_Wy_through_34 (xs : List Int) (d : Nat) (x1 x2 x3 x4 : Int) (h : mM) : X xs d k_Wy_through 34 [mR 111, mI x1, mI x2, mI x3, mI x4] [] h = (if inI (x4 + 1) then X xs d k_Wy_through 4 [mR 111, mI x1, mI x2, mI x3, mI (x4 + 1)] [] h else none) := ((X_blk xs d k_Wy_through [4, 34] 43 34 _ _ h).trans rfl)
theorem c_Wy_firstWhom (xs : List Int) (d : Nat) (x1 : Int) (h : mM) : C xs d 353 0 [mR 111, mI x1] h = X xs d k_Wy_firstWhom 6 [mR 111, mI x1, mI 0, mI (-1), mI 0] [] h := (C_in xs d 353 p_Wy_firstWhom _ h).trans ((X_blk xs d k_Wy_firstWhom [6] 34 0 _ _ h).trans rfl)
theorem e_Wy_firstWhom_6 (xs : List Int) (d : Nat) (x1 x2 x3 x4 : Int) (h : mM) : X xs d k_Wy_firstWhom 6 [mR 111, mI x1, mI x2, mI x3, mI x4] [] h = (if x1 < x4 then some ([mI x3], h) else cI (C xs d 354 0 [mR 111, mI x2, mI x4] h) (fun v1 h1 => (if v1 = (-1 : Int) then some ([mI (-1)], h1) else (if inI (x4 + 1) then X xs d k_Wy_firstWhom 6 [mR 111, mI x1, mI (fOr x2 (fShl 1 v1)), mI v1, mI (x4 + 1)] [] h1 else none)))) := ((X_blk xs d k_Wy_firstWhom [6] 34 6 _ _ h).trans rfl)
theorem c_Wy_firstOpen (xs : List Int) (d : Nat) (x1 x2 : Int) (h : mM) : C xs d 354 0 [mR 111, mI x1, mI x2] h = X xs d k_Wy_firstOpen 2 [mR 111, mI x1, mI x2, mI 0] [] h := (C_in xs d 354 p_Wy_firstOpen _ h).trans ((X_blk xs d k_Wy_firstOpen [2, 23] 32 0 _ _ h).trans rfl)
theorem e_Wy_firstOpen_2 (xs : List Int) (d : Nat) (x1 x2 x3 : Int) (h : mM) : X xs d k_Wy_firstOpen 2 [mR 111, mI x1, mI x2, mI x3] [] h = (if x3 < (h 111 3) then cI (C xs d 350 0 [mR 111, mI x1, mI x2, mI x3] h) (fun v1 h1 => (if v1 = (0 : Int) then X xs d k_Wy_firstOpen 23 [mR 111, mI x1, mI x2, mI x3] [] h1 else (if inA (fOr x1 (fShl 1 x3)) 128 then (if (0 : Int) < (h1 114 (fOr x1 (fShl 1 x3))) then some ([mI x3], h1) else X xs d k_Wy_firstOpen 23 [mR 111, mI x1, mI x2, mI x3] [] h1) else none))) else some ([mI (-1)], h)) := ((X_blk xs d k_Wy_firstOpen [2, 23] 32 2 _ _ h).trans rfl)
theorem e_Wy_firstOpen_23 (xs : List Int) (d : Nat) (x1 x2 x3 : Int) (h : mM) : X xs d k_Wy_firstOpen 23 [mR 111, mI x1, mI x2, mI x3] [] h = (if inI (x3 + 1) then X xs d k_Wy_firstOpen 2 [mR 111, mI x1, mI x2, mI (x3 + 1)] [] h else none) := ((X_blk xs d k_Wy_firstOpen [2, 23] 32 23 _ _ h).trans rfl)
theorem c_Wy_bestAsked (xs : List Int) (d : Nat) (h : mM) : C xs d 355 0 [mR 111] h = cI (C xs d 356 0 [mR 111, mI 0] h) (fun v1 h1 => X xs d k_Wy_bestAsked 8 [mR 111, mI 0, mI v1, mI 1, mC 0] [] h1) := (C_in xs d 355 p_Wy_bestAsked _ h).trans ((X_blk xs d k_Wy_bestAsked [8, 23] 32 0 _ _ h).trans rfl)
theorem e_Wy_bestAsked_8 (xs : List Int) (d : Nat) (x1 x2 x3 : Int) (x4 : mv) (h : mM) : X xs d k_Wy_bestAsked 8 [mR 111, mI x1, mI x2, mI x3, x4] [] h = (if x3 < (h 111 3) then cI (C xs d 356 0 [mR 111, mI x3] h) (fun v1 h1 => (if v1 < x2 then X xs d k_Wy_bestAsked 23 [mR 111, mI x3, mI v1, mI x3, mI v1] [] h1 else X xs d k_Wy_bestAsked 23 [mR 111, mI x1, mI x2, mI x3, mI v1] [] h1)) else some ([mI x1], h)) := ((X_blk xs d k_Wy_bestAsked [8, 23] 32 8 _ _ h).trans rfl)
theorem e_Wy_bestAsked_23 (xs : List Int) (d : Nat) (x1 x2 x3 x4 : Int) (h : mM) : X xs d k_Wy_bestAsked 23 [mR 111, mI x1, mI x2, mI x3, mI x4] [] h = (if inI (x3 + 1) then X xs d k_Wy_bestAsked 8 [mR 111, mI x1, mI x2, mI (x3 + 1), mI x4] [] h else none) := ((X_blk xs d k_Wy_bestAsked [8, 23] 32 23 _ _ h).trans rfl)
theorem c_Wy_mostThrough (xs : List Int) (d : Nat) (x1 : Int) (h : mM) : C xs d 356 0 [mR 111, mI x1] h = X xs d k_Wy_mostThrough 4 [mR 111, mI x1, mI 0, mI 0] [] h := (C_in xs d 356 p_Wy_mostThrough _ h).trans ((X_blk xs d k_Wy_mostThrough [4] 24 0 _ _ h).trans rfl)
theorem e_Wy_mostThrough_4 (xs : List Int) (d : Nat) (x1 x2 x3 : Int) (h : mM) : X xs d k_Wy_mostThrough 4 [mR 111, mI x1, mI x2, mI x3] [] h = (if x3 < (h 111 3) then cI (C xs d 352 0 [mR 111, mI x1, mI x3] h) (fun v1 h1 => (if inI (x3 + 1) then X xs d k_Wy_mostThrough 4 [mR 111, mI x1, mI (max x2 v1), mI (x3 + 1)] [] h1 else none)) else some ([mI x2], h)) := ((X_blk xs d k_Wy_mostThrough [4] 24 4 _ _ h).trans rfl)
end
section
theorem c_T_status (xs : List Int) (d : Nat) (h : mM) : C xs d 2 0 [mR 0] h = some ([mI (h 0 0)], h) := (C_in xs d 2 p_T_status _ h).trans ((X_blk xs d k_T_status [] 8 0 _ _ h).trans rfl)
theorem c_T_top (xs : List Int) (d : Nat) (h : mM) : C xs d 3 0 [mR 0] h = some ([mL (h 0 1)], h) := (C_in xs d 3 p_T_top _ h).trans ((X_blk xs d k_T_top [] 8 0 _ _ h).trans rfl)
theorem c_T_bottom (xs : List Int) (d : Nat) (h : mM) : C xs d 4 0 [mR 0] h = some ([mL (h 0 2)], h) := (C_in xs d 4 p_T_bottom _ h).trans ((X_blk xs d k_T_bottom [] 8 0 _ _ h).trans rfl)
theorem c_T_tray (xs : List Int) (d : Nat) (x1 x2 x3 : Int) (h : mM) : C xs d 5 0 [mR 0, mI x1, mI x2, mI x3] h = cI (C xs d 333 0 [mR 1, mI x1] h) (fun v1 h1 => (if v1 = (0 : Int) then cI (C xs d 70 0 [mR 0, mI 1] h1) (fun v2 h2 => (if 0 ≤ v2 ∧ v2 ≤ 1 then some ([mI v2], h2) else none)) else cI (C xs d 334 0 [mR 1, mI x2] h1) (fun v3 h3 => (if v3 = (0 : Int) then cI (C xs d 70 0 [mR 0, mI 1] h3) (fun v4 h4 => (if 0 ≤ v4 ∧ v4 ≤ 1 then some ([mI v4], h4) else none)) else cI (C xs d 74 0 [mI x3, mI 0, mI 60] h3) (fun v5 h5 => (if v5 = (0 : Int) then cI (C xs d 70 0 [mR 0, mI 1] h5) (fun v8 h8 => (if 0 ≤ v8 ∧ v8 ≤ 1 then some ([mI v8], h8) else none)) else cV (C xs d 339 0 [mR 1, mI x1, mI x2, mI x3] h5) (fun h6 => cI (C xs d 69 0 [mR 0] h6) (fun v7 h7 => (if 0 ≤ v7 ∧ v7 ≤ 1 then some ([mI v7], h7) else none))))))))) := (C_in xs d 5 p_T_tray _ h).trans ((X_blk xs d k_T_tray [] 33 0 _ _ h).trans rfl)
theorem c_T_write (xs : List Int) (d : Nat) (x1 x2 x3 : Int) (h : mM) : C xs d 6 0 [mR 0, mI x1, mI x2, mL x3] h = cI (C xs d 9 0 [mR 0, mI x1, mI x2] h) (fun v1 h1 => (if v1 = (0 : Int) then cV (C xs d 341 0 [mR 1, mI x1, mI x2, mL x3] h1) (fun h2 => cI (C xs d 69 0 [mR 0] h2) (fun v3 h3 => (if 0 ≤ v3 ∧ v3 ≤ 1 then some ([mI v3], h3) else none))) else cI (C xs d 70 0 [mR 0, mI v1] h1) (fun v4 h4 => (if 0 ≤ v4 ∧ v4 ≤ 1 then some ([mI v4], h4) else none)))) := (C_in xs d 6 p_T_write _ h).trans ((X_blk xs d k_T_write [] 25 0 _ _ h).trans rfl)
theorem c_T_read (xs : List Int) (d : Nat) (x1 x2 : Int) (h : mM) : C xs d 7 0 [mR 0, mI x1, mI x2] h = cI (C xs d 9 0 [mR 0, mI x1, mI x2] h) (fun v1 h1 => (if v1 = (0 : Int) then cL (C xs d 340 0 [mR 1, mI x1, mI x2] (upM h1 0 0 0)) (fun v2 h2 => some ([mL v2], h2)) else cI (C xs d 68 0 [mR 0, mI v1] h1) (fun v3 h3 => some ([mL v3], h3)))) := (C_in xs d 7 p_T_read _ h).trans ((X_blk xs d k_T_read [] 26 0 _ _ h).trans rfl)
theorem c_T_pour (xs : List Int) (d : Nat) (x1 x2 x3 x4 x5 : Int) (h : mM) : C xs d 8 0 [mR 0, mI x1, mI x2, mI x3, mI x4, mI x5] h = cI (C xs d 10 0 [mR 0, mI x1, mI x2, mI x3, mI x4, mI x5] h) (fun v1 h1 => (if v1 = (0 : Int) then cV (C xs d 342 0 [mR 1, mI x1, mI x2, mI x3, mI x4, mI x5] h1) (fun h2 => cI (C xs d 69 0 [mR 0] h2) (fun v3 h3 => (if 0 ≤ v3 ∧ v3 ≤ 1 then some ([mI v3], h3) else none))) else cI (C xs d 70 0 [mR 0, mI v1] h1) (fun v4 h4 => (if 0 ≤ v4 ∧ v4 ≤ 1 then some ([mI v4], h4) else none)))) := (C_in xs d 8 p_T_pour _ h).trans ((X_blk xs d k_T_pour [] 30 0 _ _ h).trans rfl)
theorem c_T_placeStatus (xs : List Int) (d : Nat) (x1 x2 : Int) (h : mM) : C xs d 9 0 [mR 0, mI x1, mI x2] h = cI (C xs d 333 0 [mR 1, mI x1] h) (fun v1 h1 => (if v1 = (0 : Int) then some ([mI 1], h1) else cI (C xs d 335 0 [mR 1, mI x1] h1) (fun v2 h2 => (if v2 = (0 : Int) then cI (C xs d 336 0 [mR 1, mI x1] h2) (fun v3 h3 => (if inI (v3 - 1) then cI (C xs d 74 0 [mI x2, mI 0, mI (v3 - 1)] h3) (fun v4 h4 => (if v4 = (0 : Int) then some ([mI 3], h4) else some ([mI 0], h4))) else none)) else some ([mI 2], h2))))) := (C_in xs d 9 p_T_placeStatus _ h).trans ((X_blk xs d k_T_placeStatus [] 33 0 _ _ h).trans rfl)
theorem c_T_pourStatus (xs : List Int) (d : Nat) (x1 x2 x3 x4 x5 : Int) (h : mM) : C xs d 10 0 [mR 0, mI x1, mI x2, mI x3, mI x4, mI x5] h = cI (C xs d 333 0 [mR 1, mI x1] h) (fun v1 h1 => (if v1 = (0 : Int) then some ([mI 1], h1) else cI (C xs d 333 0 [mR 1, mI x3] h1) (fun v2 h2 => (if v2 = (0 : Int) then some ([mI 1], h2) else (if x2 < (0 : Int) then some ([mI 1], h2) else (if x4 < (0 : Int) then some ([mI 1], h2) else (if x5 < (0 : Int) then some ([mI 1], h2) else cI (C xs d 335 0 [mR 1, mI x1] h2) (fun v3 h3 => (if v3 = (0 : Int) then cI (C xs d 335 0 [mR 1, mI x3] h3) (fun v4 h4 => (if v4 = (0 : Int) then cI (C xs d 337 0 [mR 1, mI x1] h4) (fun v5 h5 => cI (C xs d 337 0 [mR 1, mI x3] h5) (fun v6 h6 => (if v5 = v6 then cI (C xs d 338 0 [mR 1, mI x1, mI x2, mI x5] h6) (fun v7 h7 => (if v7 = (0 : Int) then some ([mI 3], h7) else cI (C xs d 338 0 [mR 1, mI x3, mI x4, mI x5] h7) (fun v8 h8 => (if v8 = (0 : Int) then some ([mI 3], h8) else some ([mI 0], h8))))) else some ([mI 8], h6)))) else some ([mI 2], h4))) else some ([mI 2], h3)))))))))) := (C_in xs d 10 p_T_pourStatus _ h).trans ((X_blk xs d k_T_pourStatus [] 64 0 _ _ h).trans rfl)
theorem c_T_feed (xs : List Int) (d : Nat) (x1 x2 x3 x4 x5 : Int) (h : mM) : C xs d 11 0 [mR 0, mI x1, mI x2, mI x3, mI x4, mI x5] h = cI (C xs d 297 0 [mR 9, mI 20] h) (fun v1 h1 => (if v1 = (0 : Int) then some ([mI (-1)], h1) else cV (C xs d 298 0 [mR 9, mI x1] h1) (fun h2 => cV (C xs d 298 0 [mR 9, mI x2] h2) (fun h3 => cV (C xs d 298 0 [mR 9, mI x3] h3) (fun h4 => cV (C xs d 298 0 [mR 9, mI x4] h4) (fun h5 => cV (C xs d 298 0 [mR 9, mI x5] h5) (fun h6 => cI (C xs d 294 0 [mR 9] h6) (fun v7 h7 => some ([mI v7], h7))))))))) := (C_in xs d 11 p_T_feed _ h).trans ((X_blk xs d k_T_feed [] 36 0 _ _ h).trans rfl)
theorem c_T_map (xs : List Int) (d : Nat) (x1 : Int) (h : mM) : C xs d 12 0 [mR 0, mI x1] h = cI (C xs d 294 0 [mR 9] h) (fun v1 h1 => cI (C xs d 74 0 [mI x1, mI 0, mI v1] h1) (fun v2 h2 => (if v2 = (0 : Int) then cI (C xs d 68 0 [mR 0, mI 1] h2) (fun v7 h7 => some ([mI v7], h7)) else cI (C xs d 282 0 [mR 37, mI x1] h2) (fun v3 h3 => cV (C xs d 299 0 [mR 9] h3) (fun h4 => (if v3 = (0 : Int) then cI (C xs d 68 0 [mR 0, mI 9] h4) (fun v6 h6 => some ([mI v6], h6)) else cR (C xs d 281 0 [mR 37] h4) (fun v5 h5 => X xs d k_T_map 30 [mR 0, mI x1, mI v3] [mR v5, mR 12] h5))))))) := (C_in xs d 12 p_T_map _ h).trans ((X_blk xs d k_T_map [30] 45 0 _ _ h).trans rfl)
theorem e_T_map_30 (xs : List Int) (d : Nat) (x1 x2 : Int) (h : mM) : X xs d k_T_map 30 [mR 0, mI x1, mI x2] [mR 38, mR 12] h = cV (C xs d 227 0 [mR 12, mR 38] h) (fun h1 => cV (C xs d 320 0 [mR 30] h1) (fun h2 => cI (C xs d 67 0 [mR 0, mI (h2 12 0)] h2) (fun v3 h3 => some ([mI v3], h3)))) := ((X_blk xs d k_T_map [30] 45 30 _ _ h).trans rfl)
theorem c_T_times (xs : List Int) (d : Nat) (x1 : Int) (h : mM) : C xs d 13 0 [mR 0, mI x1] h = cI (C xs d 294 0 [mR 9] h) (fun v1 h1 => cI (C xs d 74 0 [mI x1, mI 0, mI v1] h1) (fun v2 h2 => (if v2 = (0 : Int) then cI (C xs d 68 0 [mR 0, mI 1] h2) (fun v3 h3 => some ([mI v3], h3)) else (if (300 : Int) < x1 then cI (C xs d 68 0 [mR 0, mI 1] h2) (fun v8 h8 => some ([mI v8], h8)) else cI (C xs d 325 0 [mR 47, mI x1, mR 12] h2) (fun v4 h4 => cV (C xs d 299 0 [mR 9] h4) (fun h5 => (if v4 = (0 : Int) then cI (C xs d 68 0 [mR 0, mI 9] h5) (fun v7 h7 => some ([mI v7], h7)) else cR (C xs d 324 0 [mR 47] h5) (fun v6 h6 => X xs d k_T_times 35 [mR 0, mI x1, mI v4] [mR v6, mR 30] h6)))))))) := (C_in xs d 13 p_T_times _ h).trans ((X_blk xs d k_T_times [35] 47 0 _ _ h).trans rfl)
theorem e_T_times_35 (xs : List Int) (d : Nat) (x1 x2 : Int) (h : mM) : X xs d k_T_times 35 [mR 0, mI x1, mI x2] [mR 48, mR 30] h = cV (C xs d 322 0 [mR 30, mR 48] h) (fun h1 => cI (C xs d 67 0 [mR 0, mI (h1 30 7)] h1) (fun v2 h2 => some ([mI v2], h2))) := ((X_blk xs d k_T_times [35] 47 35 _ _ h).trans rfl)
theorem c_T_fault (xs : List Int) (d : Nat) (x1 : Int) (h : mM) : C xs d 14 0 [mR 0, mI x1] h = (if x1 = (0 : Int) then cI (C xs d 295 0 [mR 9] h) (fun v2 h2 => some ([mI v2], h2)) else (if x1 = (1 : Int) then cI (C xs d 296 0 [mR 9] h) (fun v1 h1 => some ([mI v1], h1)) else some ([mI (-1)], h))) := (C_in xs d 14 p_T_fault _ h).trans ((X_blk xs d k_T_fault [] 20 0 _ _ h).trans rfl)
theorem c_T_told (xs : List Int) (d : Nat) (x1 : Int) (h : mM) : C xs d 15 0 [mR 0, mI x1] h = (if x1 < (1 : Int) then X xs d k_T_told 14 [mR 0, mI x1] [] h else (if (6 : Int) < x1 then X xs d k_T_told 14 [mR 0, mI x1] [] h else (if inA x1 7 then cI (C xs d 67 0 [mR 0, mI (h 13 x1)] h) (fun v1 h1 => some ([mI v1], h1)) else none))) := (C_in xs d 15 p_T_told _ h).trans ((X_blk xs d k_T_told [14] 61 0 _ _ h).trans rfl)
set_option maxRecDepth 100000 in
theorem e_T_told_14 (xs : List Int) (d : Nat) (x1 : Int) (h : mM) : X xs d k_T_told 14 [mR 0, mI x1] [] h = (if x1 = 0 then cI (C xs d 67 0 [mR 0, mI (h 12 0)] h) (fun v17 h17 => some ([mI v17], h17)) else (if x1 = 1 then cI (C xs d 68 0 [mR 0, mI 1] h) (fun v16 h16 => some ([mI v16], h16)) else (if x1 = 2 then cI (C xs d 68 0 [mR 0, mI 1] h) (fun v15 h15 => some ([mI v15], h15)) else (if x1 = 3 then cI (C xs d 68 0 [mR 0, mI 1] h) (fun v14 h14 => some ([mI v14], h14)) else (if x1 = 4 then cI (C xs d 68 0 [mR 0, mI 1] h) (fun v13 h13 => some ([mI v13], h13)) else (if x1 = 5 then cI (C xs d 68 0 [mR 0, mI 1] h) (fun v12 h12 => some ([mI v12], h12)) else (if x1 = 6 then cI (C xs d 68 0 [mR 0, mI 1] h) (fun v11 h11 => some ([mI v11], h11)) else (if x1 = 7 then cI (C xs d 67 0 [mR 0, mI (h 12 1)] h) (fun v10 h10 => some ([mI v10], h10)) else (if x1 = 8 then cI (C xs d 236 0 [mR 12] h) (fun v8 h8 => cI (C xs d 67 0 [mR 0, mI v8] h8) (fun v9 h9 => some ([mI v9], h9))) else (if x1 = 9 then cI (C xs d 237 0 [mR 12] h) (fun v6 h6 => cI (C xs d 67 0 [mR 0, mI v6] h6) (fun v7 h7 => some ([mI v7], h7))) else (if x1 = 10 then cI (C xs d 239 0 [mR 12] h) (fun v4 h4 => cI (C xs d 67 0 [mR 0, mI v4] h4) (fun v5 h5 => some ([mI v5], h5))) else (if x1 = 11 then cI (C xs d 240 0 [mR 12] h) (fun v2 h2 => cI (C xs d 67 0 [mR 0, mI v2] h2) (fun v3 h3 => some ([mI v3], h3))) else cI (C xs d 68 0 [mR 0, mI 1] h) (fun v1 h1 => some ([mI v1], h1)))))))))))))) := ((X_blk xs d k_T_told [14] 61 14 _ _ h).trans rfl)
theorem c_T_person (xs : List Int) (d : Nat) (x1 x2 : Int) (h : mM) : C xs d 16 0 [mR 0, mI x1, mI x2] h = cI (C xs d 228 0 [mR 12, mI x1] h) (fun v1 h1 => (if v1 = (0 : Int) then cI (C xs d 68 0 [mR 0, mI 1] h1) (fun v2 h2 => some ([mI v2], h2)) else cI (C xs d 74 0 [mI x2, mI 0, mI 6] h1) (fun v3 h3 => (if v3 = (0 : Int) then cI (C xs d 68 0 [mR 0, mI 1] h3) (fun v4 h4 => some ([mI v4], h4)) else (if x2 = (4 : Int) then X xs d k_T_person 20 [mR 0, mI x1, mI x2, mC 0] [] h3 else (if x2 = (5 : Int) then X xs d k_T_person 20 [mR 0, mI x1, mI x2, mC 0] [] h3 else X xs d k_T_person 23 [mR 0, mI x1, mI x2, mC 0] [mI 0] h3)))))) := (C_in xs d 16 p_T_person _ h).trans ((X_blk xs d k_T_person [20, 23, 35] 96 0 _ _ h).trans rfl)
theorem e_T_person_20 (xs : List Int) (d : Nat) (x1 x2 : Int) (h : mM) : X xs d k_T_person 20 [mR 0, mI x1, mI x2, mC 0] [] h = X xs d k_T_person 23 [mR 0, mI x1, mI x2, mC 0] [mI 1] h := ((X_blk xs d k_T_person [20, 23, 35] 96 20 _ _ h).trans rfl)
theorem e_T_person_23 (xs : List Int) (d : Nat) (x1 x2 s0 : Int) (h : mM) : X xs d k_T_person 23 [mR 0, mI x1, mI x2, mC 0] [mI s0] h = (if s0 = (0 : Int) then X xs d k_T_person 35 [mR 0, mI x1, mI x2, mI s0] [] h else cI (C xs d 232 0 [mR 12, mI x1] h) (fun v1 h1 => (if v1 = (0 : Int) then cI (C xs d 68 0 [mR 0, mI 6] h1) (fun v2 h2 => some ([mI v2], h2)) else X xs d k_T_person 35 [mR 0, mI x1, mI x2, mI s0] [] h1))) := ((X_blk xs d k_T_person [20, 23, 35] 96 23 _ _ h).trans rfl)
theorem e_T_person_35 (xs : List Int) (d : Nat) (x1 x2 x3 : Int) (h : mM) : X xs d k_T_person 35 [mR 0, mI x1, mI x2, mI x3] [] h = (if x2 = 0 then (if inA x1 7 then cI (C xs d 67 0 [mR 0, mI (h 14 x1)] h) (fun v9 h9 => some ([mI v9], h9)) else none) else (if x2 = 1 then (if inA x1 7 then cI (C xs d 67 0 [mR 0, mI (h 15 x1)] h) (fun v8 h8 => some ([mI v8], h8)) else none) else (if x2 = 2 then (if inA x1 7 then cI (C xs d 67 0 [mR 0, mI (h 16 x1)] h) (fun v7 h7 => some ([mI v7], h7)) else none) else (if x2 = 3 then (if inA x1 7 then cI (C xs d 67 0 [mR 0, mI (h 17 x1)] h) (fun v6 h6 => some ([mI v6], h6)) else none) else (if x2 = 4 then (if inA x1 7 then cI (C xs d 67 0 [mR 0, mI (h 18 x1)] h) (fun v5 h5 => some ([mI v5], h5)) else none) else (if x2 = 5 then cI (C xs d 234 0 [mR 12, mI x1] h) (fun v3 h3 => cI (C xs d 67 0 [mR 0, mI v3] h3) (fun v4 h4 => some ([mI v4], h4))) else cI (C xs d 238 0 [mR 12, mI x1] h) (fun v1 h1 => cI (C xs d 67 0 [mR 0, mI v1] h1) (fun v2 h2 => some ([mI v2], h2))))))))) := ((X_blk xs d k_T_person [20, 23, 35] 96 35 _ _ h).trans rfl)
theorem c_T_far (xs : List Int) (d : Nat) (x1 x2 : Int) (h : mM) : C xs d 17 0 [mR 0, mI x1, mI x2] h = cI (C xs d 228 0 [mR 12, mI x1] h) (fun v1 h1 => (if v1 = (0 : Int) then cI (C xs d 68 0 [mR 0, mI 1] h1) (fun v2 h2 => some ([mI v2], h2)) else cI (C xs d 228 0 [mR 12, mI x2] h1) (fun v3 h3 => (if v3 = (0 : Int) then cI (C xs d 68 0 [mR 0, mI 1] h3) (fun v6 h6 => some ([mI v6], h6)) else cI (C xs d 233 0 [mR 12, mI x1, mI x2] h3) (fun v4 h4 => cI (C xs d 67 0 [mR 0, mI v4] h4) (fun v5 h5 => some ([mI v5], h5))))))) := (C_in xs d 17 p_T_far _ h).trans ((X_blk xs d k_T_far [] 27 0 _ _ h).trans rfl)
theorem c_T_drink (xs : List Int) (d : Nat) (x1 : Int) (h : mM) : C xs d 18 0 [mR 0, mI x1] h = cI (C xs d 228 0 [mR 12, mI x1] h) (fun v1 h1 => (if v1 = (0 : Int) then cI (C xs d 68 0 [mR 0, mI 1] h1) (fun v6 h6 => some ([mI v6], h6)) else cI (C xs d 242 0 [mR 12, mI x1] h1) (fun v2 h2 => (if v2 = (0 : Int) then cI (C xs d 68 0 [mR 0, mI 7] h2) (fun v5 h5 => some ([mI v5], h5)) else cI (C xs d 243 0 [mR 12, mI x1] h2) (fun v3 h3 => cI (C xs d 67 0 [mR 0, mI v3] h3) (fun v4 h4 => some ([mI v4], h4))))))) := (C_in xs d 18 p_T_drink _ h).trans ((X_blk xs d k_T_drink [] 30 0 _ _ h).trans rfl)
theorem c_T_night (xs : List Int) (d : Nat) (x1 : Int) (h : mM) : C xs d 19 0 [mR 0, mI x1] h = cI (C xs d 74 0 [mI x1, mI 1, mI 99] h) (fun v1 h1 => (if v1 = (0 : Int) then cI (C xs d 68 0 [mR 0, mI 1] h1) (fun v7 h7 => some ([mI v7], h7)) else cI (C xs d 244 0 [mR 12, mI x1] h1) (fun v2 h2 => (if v2 = (0 : Int) then cI (C xs d 68 0 [mR 0, mI 4] h2) (fun v6 h6 => some ([mI v6], h6)) else cV (C xs d 246 0 [mR 12, mI x1] h2) (fun h3 => cI (C xs d 236 0 [mR 12] h3) (fun v4 h4 => cI (C xs d 67 0 [mR 0, mI v4] h4) (fun v5 h5 => some ([mI v5], h5)))))))) := (C_in xs d 19 p_T_night _ h).trans ((X_blk xs d k_T_night [] 33 0 _ _ h).trans rfl)
theorem c_T_evening (xs : List Int) (d : Nat) (h : mM) : C xs d 20 0 [mR 0] h = cI (C xs d 244 0 [mR 12, mI 1] h) (fun v1 h1 => (if v1 = (0 : Int) then cI (C xs d 68 0 [mR 0, mI 4] h1) (fun v4 h4 => some ([mI v4], h4)) else cI (C xs d 247 0 [mR 12, mI (-1)] h1) (fun v2 h2 => cI (C xs d 67 0 [mR 0, mI v2] h2) (fun v3 h3 => some ([mI v3], h3))))) := (C_in xs d 20 p_T_evening _ h).trans ((X_blk xs d k_T_evening [] 21 0 _ _ h).trans rfl)
theorem c_T_fill (xs : List Int) (d : Nat) (x1 x2 : Int) (h : mM) : C xs d 21 0 [mR 0, mI x1, mI x2] h = cI (C xs d 228 0 [mR 12, mI x1] h) (fun v1 h1 => (if v1 = (0 : Int) then cI (C xs d 68 0 [mR 0, mI 1] h1) (fun v2 h2 => some ([mI v2], h2)) else cI (C xs d 74 0 [mI x2, mI 0, mI 9] h1) (fun v3 h3 => (if v3 = (0 : Int) then cI (C xs d 68 0 [mR 0, mI 1] h3) (fun v5 h5 => some ([mI v5], h5)) else (if inA x1 7 then (if inA x1 7 then cI (C xs d 67 0 [mR 0, mI (h3 17 x1)] (upM h3 17 x1 x2)) (fun v4 h4 => some ([mI v4], h4)) else none) else none))))) := (C_in xs d 21 p_T_fill _ h).trans ((X_blk xs d k_T_fill [] 35 0 _ _ h).trans rfl)
theorem c_T_means (xs : List Int) (d : Nat) (x1 x2 : Int) (h : mM) : C xs d 22 0 [mR 0, mI x1, mI x2] h = cI (C xs d 228 0 [mR 12, mI x1] h) (fun v1 h1 => (if v1 = (0 : Int) then cI (C xs d 68 0 [mR 0, mI 1] h1) (fun v2 h2 => some ([mI v2], h2)) else cI (C xs d 74 0 [mI x2, mI 0, mI 9] h1) (fun v3 h3 => (if v3 = (0 : Int) then cI (C xs d 68 0 [mR 0, mI 1] h3) (fun v5 h5 => some ([mI v5], h5)) else (if inA x1 7 then (if inA x1 7 then cI (C xs d 67 0 [mR 0, mI (h3 15 x1)] (upM h3 15 x1 x2)) (fun v4 h4 => some ([mI v4], h4)) else none) else none))))) := (C_in xs d 22 p_T_means _ h).trans ((X_blk xs d k_T_means [] 35 0 _ _ h).trans rfl)
theorem c_T_move (xs : List Int) (d : Nat) (x1 x2 : Int) (h : mM) : C xs d 23 0 [mR 0, mI x1, mI x2] h = cI (C xs d 228 0 [mR 12, mI x1] h) (fun v1 h1 => (if v1 = (0 : Int) then cI (C xs d 68 0 [mR 0, mI 1] h1) (fun v2 h2 => some ([mI v2], h2)) else cI (C xs d 74 0 [mI x2, mI 0, mI 59] h1) (fun v3 h3 => (if v3 = (0 : Int) then cI (C xs d 68 0 [mR 0, mI 1] h3) (fun v5 h5 => some ([mI v5], h5)) else (if inA x1 7 then (if inA x1 7 then cI (C xs d 67 0 [mR 0, mI (h3 14 x1)] (upM h3 14 x1 x2)) (fun v4 h4 => some ([mI v4], h4)) else none) else none))))) := (C_in xs d 23 p_T_move _ h).trans ((X_blk xs d k_T_move [] 35 0 _ _ h).trans rfl)
theorem c_T_aim (xs : List Int) (d : Nat) (x1 x2 : Int) (h : mM) : C xs d 24 0 [mR 0, mI x1, mI x2] h = cI (C xs d 73 0 [mR 0, mI x1, mI x2] h) (fun v1 h1 => (if v1 = (0 : Int) then cI (C xs d 68 0 [mR 0, mI 1] h1) (fun v5 h5 => some ([mI v5], h5)) else (if inA x1 7 then (if (h1 18 x1) = x2 then cI (C xs d 68 0 [mR 0, mI 7] h1) (fun v4 h4 => some ([mI v4], h4)) else (if inA x1 7 then (if (h1 18 x1) = (-1 : Int) then cI (C xs d 67 0 [mR 0, mI (h1 12 0)] (upM h1 18 x1 x2)) (fun v3 h3 => some ([mI v3], h3)) else cI (C xs d 67 0 [mR 0, mI (h1 18 x1)] (upM h1 18 x1 x2)) (fun v2 h2 => some ([mI v2], h2))) else none)) else none))) := (C_in xs d 24 p_T_aim _ h).trans ((X_blk xs d k_T_aim [] 44 0 _ _ h).trans rfl)
theorem c_T_come (xs : List Int) (d : Nat) (x1 : Int) (h : mM) : C xs d 25 0 [mR 0, mI x1] h = cI (C xs d 74 0 [mI x1, mI 0, mI 59] h) (fun v1 h1 => (if v1 = (0 : Int) then cI (C xs d 68 0 [mR 0, mI 1] h1) (fun v6 h6 => some ([mI v6], h6)) else cI (C xs d 229 0 [mR 12] h1) (fun v2 h2 => (if v2 = (0 : Int) then cI (C xs d 230 0 [mR 12, mI x1, mL 0] h2) (fun v3 h3 => cI (C xs d 67 0 [mR 0, mI v3] h3) (fun v4 h4 => some ([mI v4], h4))) else cI (C xs d 68 0 [mR 0, mI 4] h2) (fun v5 h5 => some ([mI v5], h5)))))) := (C_in xs d 25 p_T_come _ h).trans ((X_blk xs d k_T_come [] 30 0 _ _ h).trans rfl)
theorem c_T_rule (xs : List Int) (d : Nat) (x1 x2 : Int) (h : mM) : C xs d 26 0 [mR 0, mI x1, mI x2] h = cI (C xs d 74 0 [mI x1, mI 1, mI 6] h) (fun v1 h1 => (if v1 = (0 : Int) then cI (C xs d 70 0 [mR 0, mI 1] h1) (fun v2 h2 => (if 0 ≤ v2 ∧ v2 ≤ 1 then some ([mI v2], h2) else none)) else (if inA x1 7 then (if inA x1 7 then cI (C xs d 74 0 [mI x2, mI ((nth (CT xs 2) x1.toNat).getD 0), mI ((nth (CT xs 3) x1.toNat).getD 0)] h1) (fun v3 h3 => (if v3 = (0 : Int) then cI (C xs d 70 0 [mR 0, mI 1] h3) (fun v5 h5 => (if 0 ≤ v5 ∧ v5 ≤ 1 then some ([mI v5], h5) else none)) else (if inA x1 7 then cI (C xs d 69 0 [mR 0] (upM h3 13 x1 x2)) (fun v4 h4 => (if 0 ≤ v4 ∧ v4 ≤ 1 then some ([mI v4], h4) else none)) else none))) else none) else none))) := (C_in xs d 26 p_T_rule _ h).trans ((X_blk xs d k_T_rule [] 32 0 _ _ h).trans rfl)
theorem c_T_warmIn (xs : List Int) (d : Nat) (x1 x2 : Int) (h : mM) : C xs d 27 0 [mR 0, mI x1, mI x2] h = cI (C xs d 228 0 [mR 12, mI x1] h) (fun v1 h1 => (if v1 = (0 : Int) then cI (C xs d 68 0 [mR 0, mI 1] h1) (fun v2 h2 => some ([mI v2], h2)) else cI (C xs d 74 0 [mI x2, mI 0, mI 60] h1) (fun v3 h3 => (if v3 = (0 : Int) then cI (C xs d 68 0 [mR 0, mI 1] h3) (fun v6 h6 => some ([mI v6], h6)) else cI (C xs d 245 0 [mR 12, mI x1, mI x2] h3) (fun v4 h4 => cI (C xs d 67 0 [mR 0, mI v4] h4) (fun v5 h5 => some ([mI v5], h5))))))) := (C_in xs d 27 p_T_warmIn _ h).trans ((X_blk xs d k_T_warmIn [] 27 0 _ _ h).trans rfl)
theorem c_T_darkIn (xs : List Int) (d : Nat) (x1 : Int) (h : mM) : C xs d 28 0 [mR 0, mI x1] h = cI (C xs d 228 0 [mR 12, mI x1] h) (fun v1 h1 => (if v1 = (0 : Int) then cI (C xs d 68 0 [mR 0, mI 1] h1) (fun v2 h2 => some ([mI v2], h2)) else X xs d k_T_darkIn 11 [mR 0, mI x1, mI 0] [] h1)) := (C_in xs d 28 p_T_darkIn _ h).trans ((X_blk xs d k_T_darkIn [11] 40 0 _ _ h).trans rfl)
theorem e_T_darkIn_11 (xs : List Int) (d : Nat) (x1 x2 : Int) (h : mM) : X xs d k_T_darkIn 11 [mR 0, mI x1, mI x2] [] h = (if (99 : Int) < x2 then cI (C xs d 68 0 [mR 0, mI 6] h) (fun v1 h1 => some ([mI v1], h1)) else cI (C xs d 245 0 [mR 12, mI x1, mI x2] h) (fun v2 h2 => (if v2 < (h2 13 3) then cI (C xs d 67 0 [mR 0, mI x2] h2) (fun v3 h3 => some ([mI v3], h3)) else (if inI (x2 + 1) then X xs d k_T_darkIn 11 [mR 0, mI x1, mI (x2 + 1)] [] h2 else none)))) := ((X_blk xs d k_T_darkIn [11] 40 11 _ _ h).trans rfl)
theorem c_T_eveningIn (xs : List Int) (d : Nat) (x1 x2 : Int) (h : mM) : C xs d 29 0 [mR 0, mI x1, mI x2] h = cI (C xs d 228 0 [mR 12, mI x1] h) (fun v1 h1 => (if v1 = (0 : Int) then cI (C xs d 68 0 [mR 0, mI 1] h1) (fun v2 h2 => some ([mI v2], h2)) else cI (C xs d 74 0 [mI x2, mI 0, mI 60] h1) (fun v3 h3 => (if v3 = (0 : Int) then cI (C xs d 68 0 [mR 0, mI 1] h3) (fun v6 h6 => some ([mI v6], h6)) else cV (C xs d 33 0 [mR 0, mI x2] h3) (fun h4 => (if inA x1 7 then cI (C xs d 67 0 [mR 0, mI (h4 25 x1)] h4) (fun v5 h5 => some ([mI v5], h5)) else none)))))) := (C_in xs d 29 p_T_eveningIn _ h).trans ((X_blk xs d k_T_eveningIn [] 30 0 _ _ h).trans rfl)
theorem c_T_litIn (xs : List Int) (d : Nat) (x1 : Int) (h : mM) : C xs d 30 0 [mR 0, mI x1] h = cI (C xs d 74 0 [mI x1, mI 0, mI 60] h) (fun v1 h1 => (if v1 = (0 : Int) then cI (C xs d 68 0 [mR 0, mI 1] h1) (fun v5 h5 => some ([mI v5], h5)) else cV (C xs d 33 0 [mR 0, mI x1] h1) (fun h2 => cI (C xs d 236 0 [mR 21] h2) (fun v3 h3 => cI (C xs d 67 0 [mR 0, mI v3] h3) (fun v4 h4 => some ([mI v4], h4)))))) := (C_in xs d 30 p_T_litIn _ h).trans ((X_blk xs d k_T_litIn [] 23 0 _ _ h).trans rfl)
theorem c_T_settles (xs : List Int) (d : Nat) (h : mM) : C xs d 31 0 [mR 0] h = cI (C xs d 34 0 [mR 0] h) (fun v1 h1 => (if v1 = (-1 : Int) then cI (C xs d 68 0 [mR 0, mI 6] h1) (fun v4 h4 => some ([mI v4], h4)) else cI (C xs d 35 0 [mR 0, mI v1] h1) (fun v2 h2 => cI (C xs d 67 0 [mR 0, mI v2] h2) (fun v3 h3 => some ([mI v3], h3))))) := (C_in xs d 31 p_T_settles _ h).trans ((X_blk xs d k_T_settles [] 21 0 _ _ h).trans rfl)
theorem c_T_period (xs : List Int) (d : Nat) (h : mM) : C xs d 32 0 [mR 0] h = cI (C xs d 34 0 [mR 0] h) (fun v1 h1 => (if v1 = (-1 : Int) then cI (C xs d 68 0 [mR 0, mI 6] h1) (fun v3 h3 => some ([mI v3], h3)) else cI (C xs d 67 0 [mR 0, mI v1] h1) (fun v2 h2 => some ([mI v2], h2)))) := (C_in xs d 32 p_T_period _ h).trans ((X_blk xs d k_T_period [] 19 0 _ _ h).trans rfl)
theorem c_T_lookAhead (xs : List Int) (d : Nat) (x1 : Int) (h : mM) : C xs d 33 0 [mR 0, mI x1] h = cV (C xs d 227 0 [mR 21, mR 12] h) (fun h1 => X xs d k_T_lookAhead 7 [mR 0, mI x1, mI 0] [] h1) := (C_in xs d 33 p_T_lookAhead _ h).trans ((X_blk xs d k_T_lookAhead [7] 23 0 _ _ h).trans rfl)
theorem e_T_lookAhead_7 (xs : List Int) (d : Nat) (x1 x2 : Int) (h : mM) : X xs d k_T_lookAhead 7 [mR 0, mI x1, mI x2] [] h = (if x2 < x1 then cI (C xs d 247 0 [mR 21, mI (-1)] h) (fun v1 h1 => (if inI (x2 + 1) then X xs d k_T_lookAhead 7 [mR 0, mI x1, mI (x2 + 1)] [] h1 else none)) else some ([], h)) := ((X_blk xs d k_T_lookAhead [7] 23 7 _ _ h).trans rfl)
theorem c_T_findPeriod (xs : List Int) (d : Nat) (h : mM) : C xs d 34 0 [mR 0] h = cV (C xs d 227 0 [mR 21, mR 12] h) (fun h1 => cL (C xs d 241 0 [mR 21] h1) (fun v2 h2 => X xs d k_T_findPeriod 14 [mR 0, mI 1] [] (upM h2 129 0 v2))) := (C_in xs d 34 p_T_findPeriod _ h).trans ((X_blk xs d k_T_findPeriod [14, 33] 58 0 _ _ h).trans rfl)
theorem e_T_findPeriod_14 (xs : List Int) (d : Nat) (x1 : Int) (h : mM) : X xs d k_T_findPeriod 14 [mR 0, mI x1] [] h = (if (200 : Int) < x1 then X xs d k_T_findPeriod 33 [mR 0, mI 199] [] h else cI (C xs d 247 0 [mR 21, mI (-1)] h) (fun v1 h1 => cL (C xs d 241 0 [mR 21] h1) (fun v2 h2 => (if inA x1 201 then (if inI (x1 + 1) then X xs d k_T_findPeriod 14 [mR 0, mI (x1 + 1)] [] (upM h2 129 x1 v2) else none) else none)))) := ((X_blk xs d k_T_findPeriod [14, 33] 58 14 _ _ h).trans rfl)
theorem e_T_findPeriod_33 (xs : List Int) (d : Nat) (x1 : Int) (h : mM) : X xs d k_T_findPeriod 33 [mR 0, mI x1] [] h = (if x1 < (0 : Int) then some ([mI (-1)], h) else (if inA x1 201 then (if (h 129 x1) = (h 129 200) then (if inI (200 - x1) then some ([mI (200 - x1)], h) else none) else (if inI (x1 + (-1)) then X xs d k_T_findPeriod 33 [mR 0, mI (x1 + (-1))] [] h else none)) else none)) := ((X_blk xs d k_T_findPeriod [14, 33] 58 33 _ _ h).trans rfl)
theorem c_T_firstSettled (xs : List Int) (d : Nat) (x1 : Int) (h : mM) : C xs d 35 0 [mR 0, mI x1] h = X xs d k_T_firstSettled 2 [mR 0, mI x1, mI 0] [] h := (C_in xs d 35 p_T_firstSettled _ h).trans ((X_blk xs d k_T_firstSettled [2] 28 0 _ _ h).trans rfl)
theorem e_T_firstSettled_2 (xs : List Int) (d : Nat) (x1 x2 : Int) (h : mM) : X xs d k_T_firstSettled 2 [mR 0, mI x1, mI x2] [] h = (if inI (x2 + x1) then (if (x2 + x1) < (200 : Int) then (if inA x2 201 then (if inI (x2 + x1) then (if inA (x2 + x1) 201 then (if (h 129 x2) = (h 129 (x2 + x1)) then some ([mI x2], h) else (if inI (x2 + 1) then X xs d k_T_firstSettled 2 [mR 0, mI x1, mI (x2 + 1)] [] h else none)) else none) else none) else none) else some ([mI x2], h)) else none) := ((X_blk xs d k_T_firstSettled [2] 28 2 _ _ h).trans rfl)
theorem c_T_chain (xs : List Int) (d : Nat) (x1 : Int) (h : mM) : C xs d 36 0 [mR 0, mI x1] h = cI (C xs d 228 0 [mR 12, mI x1] h) (fun v1 h1 => (if v1 = (0 : Int) then cI (C xs d 68 0 [mR 0, mI 1] h1) (fun v4 h4 => some ([mI v4], h4)) else cI (C xs d 248 0 [mR 12, mI x1] h1) (fun v2 h2 => cI (C xs d 67 0 [mR 0, mI v2] h2) (fun v3 h3 => some ([mI v3], h3))))) := (C_in xs d 36 p_T_chain _ h).trans ((X_blk xs d k_T_chain [] 21 0 _ _ h).trans rfl)
theorem c_T_chainAt (xs : List Int) (d : Nat) (x1 x2 : Int) (h : mM) : C xs d 37 0 [mR 0, mI x1, mI x2] h = cI (C xs d 228 0 [mR 12, mI x1] h) (fun v1 h1 => (if v1 = (0 : Int) then cI (C xs d 68 0 [mR 0, mI 1] h1) (fun v2 h2 => some ([mI v2], h2)) else (if x2 < (0 : Int) then cI (C xs d 68 0 [mR 0, mI 1] h1) (fun v7 h7 => some ([mI v7], h7)) else cI (C xs d 248 0 [mR 12, mI x1] h1) (fun v3 h3 => (if x2 < v3 then cI (C xs d 249 0 [mR 12, mI x1, mI x2] h3) (fun v4 h4 => cI (C xs d 67 0 [mR 0, mI v4] h4) (fun v5 h5 => some ([mI v5], h5))) else cI (C xs d 68 0 [mR 0, mI 6] h3) (fun v6 h6 => some ([mI v6], h6))))))) := (C_in xs d 37 p_T_chainAt _ h).trans ((X_blk xs d k_T_chainAt [] 34 0 _ _ h).trans rfl)
theorem c_T_rings (xs : List Int) (d : Nat) (h : mM) : C xs d 38 0 [mR 0] h = X xs d k_T_rings 4 [mR 0, mI 0, mI 0] [] h := (C_in xs d 38 p_T_rings _ h).trans ((X_blk xs d k_T_rings [4, 15] 26 0 _ _ h).trans rfl)
theorem e_T_rings_4 (xs : List Int) (d : Nat) (x1 x2 : Int) (h : mM) : X xs d k_T_rings 4 [mR 0, mI x1, mI x2] [] h = (if x2 < (h 12 0) then cI (C xs d 251 0 [mR 12, mI x2] h) (fun v2 h2 => (if v2 = (0 : Int) then X xs d k_T_rings 15 [mR 0, mI x1, mI x2] [] h2 else (if inI (x1 + 1) then X xs d k_T_rings 15 [mR 0, mI (x1 + 1), mI x2] [] h2 else none))) else cI (C xs d 67 0 [mR 0, mI x1] h) (fun v1 h1 => some ([mI v1], h1))) := ((X_blk xs d k_T_rings [4, 15] 26 4 _ _ h).trans rfl)
theorem e_T_rings_15 (xs : List Int) (d : Nat) (x1 x2 : Int) (h : mM) : X xs d k_T_rings 15 [mR 0, mI x1, mI x2] [] h = (if inI (x2 + 1) then X xs d k_T_rings 4 [mR 0, mI x1, mI (x2 + 1)] [] h else none) := ((X_blk xs d k_T_rings [4, 15] 26 15 _ _ h).trans rfl)
theorem c_T_inRings (xs : List Int) (d : Nat) (h : mM) : C xs d 39 0 [mR 0] h = X xs d k_T_inRings 4 [mR 0, mI 0, mI 0] [] h := (C_in xs d 39 p_T_inRings _ h).trans ((X_blk xs d k_T_inRings [4, 20] 31 0 _ _ h).trans rfl)
theorem e_T_inRings_4 (xs : List Int) (d : Nat) (x1 x2 : Int) (h : mM) : X xs d k_T_inRings 4 [mR 0, mI x1, mI x2] [] h = (if x2 < (h 12 0) then cI (C xs d 250 0 [mR 12, mI x2] h) (fun v2 h2 => (if v2 = (0 : Int) then X xs d k_T_inRings 20 [mR 0, mI x1, mI x2] [] h2 else X xs d k_T_inRings 20 [mR 0, mI (fOr x1 (fShl 1 x2)), mI x2] [] h2)) else cI (C xs d 67 0 [mR 0, mI x1] h) (fun v1 h1 => some ([mI v1], h1))) := ((X_blk xs d k_T_inRings [4, 20] 31 4 _ _ h).trans rfl)
theorem e_T_inRings_20 (xs : List Int) (d : Nat) (x1 x2 : Int) (h : mM) : X xs d k_T_inRings 20 [mR 0, mI x1, mI x2] [] h = (if inI (x2 + 1) then X xs d k_T_inRings 4 [mR 0, mI x1, mI (x2 + 1)] [] h else none) := ((X_blk xs d k_T_inRings [4, 20] 31 20 _ _ h).trans rfl)
theorem c_T_needs (xs : List Int) (d : Nat) (x1 : Int) (h : mM) : C xs d 40 0 [mR 0, mI x1] h = cI (C xs d 228 0 [mR 12, mI x1] h) (fun v1 h1 => (if v1 = (0 : Int) then cI (C xs d 68 0 [mR 0, mI 1] h1) (fun v5 h5 => some ([mI v5], h5)) else cI (C xs d 252 0 [mR 12, mI x1] h1) (fun v2 h2 => (if v2 = (-1 : Int) then cI (C xs d 68 0 [mR 0, mI 6] h2) (fun v4 h4 => some ([mI v4], h4)) else cI (C xs d 67 0 [mR 0, mI v2] h2) (fun v3 h3 => some ([mI v3], h3)))))) := (C_in xs d 40 p_T_needs _ h).trans ((X_blk xs d k_T_needs [] 30 0 _ _ h).trans rfl)
theorem c_T_most (xs : List Int) (d : Nat) (x1 : Int) (h : mM) : C xs d 41 0 [mR 0, mI x1] h = cI (C xs d 74 0 [mI x1, mI 0, mI 20] h) (fun v1 h1 => (if v1 = (0 : Int) then cI (C xs d 68 0 [mR 0, mI 1] h1) (fun v5 h5 => some ([mI v5], h5)) else cI (C xs d 254 0 [mR 12, mI x1] h1) (fun v2 h2 => cI (C xs d 0 0 [mI v2] h2) (fun v3 h3 => cI (C xs d 67 0 [mR 0, mI v3] h3) (fun v4 h4 => some ([mI v4], h4)))))) := (C_in xs d 41 p_T_most _ h).trans ((X_blk xs d k_T_most [] 22 0 _ _ h).trans rfl)
theorem c_T_mostSet (xs : List Int) (d : Nat) (x1 : Int) (h : mM) : C xs d 42 0 [mR 0, mI x1] h = cI (C xs d 74 0 [mI x1, mI 0, mI 20] h) (fun v1 h1 => (if v1 = (0 : Int) then cI (C xs d 68 0 [mR 0, mI 1] h1) (fun v4 h4 => some ([mI v4], h4)) else cI (C xs d 254 0 [mR 12, mI x1] h1) (fun v2 h2 => cI (C xs d 67 0 [mR 0, mI v2] h2) (fun v3 h3 => some ([mI v3], h3))))) := (C_in xs d 42 p_T_mostSet _ h).trans ((X_blk xs d k_T_mostSet [] 21 0 _ _ h).trans rfl)
theorem c_T_misses (xs : List Int) (d : Nat) (x1 : Int) (h : mM) : C xs d 43 0 [mR 0, mI x1] h = cI (C xs d 228 0 [mR 12, mI x1] h) (fun v1 h1 => (if v1 = (0 : Int) then cI (C xs d 68 0 [mR 0, mI 1] h1) (fun v8 h8 => some ([mI v8], h8)) else cV (C xs d 33 0 [mR 0, mI 1] h1) (fun h2 => cI (C xs d 236 0 [mR 21] h2) (fun v3 h3 => cV (C xs d 227 0 [mR 21, mR 12] h3) (fun h4 => cI (C xs d 247 0 [mR 21, mI x1] h4) (fun v5 h5 => cI (C xs d 236 0 [mR 21] h5) (fun v6 h6 => cI (C xs d 67 0 [mR 0, mI (fAnd v3 (fXor v6 (-1)))] h6) (fun v7 h7 => some ([mI v7], h7))))))))) := (C_in xs d 43 p_T_misses _ h).trans ((X_blk xs d k_T_misses [] 41 0 _ _ h).trans rfl)
theorem c_T_fits (xs : List Int) (d : Nat) (x1 x2 : Int) (h : mM) : C xs d 44 0 [mR 0, mI x1, mI x2] h = cI (C xs d 48 0 [mR 0, mI x1, mI x2] h) (fun v1 h1 => (if v1 = (0 : Int) then cV (C xs d 49 0 [mR 0, mI x1, mI x2] h1) (fun h2 => cI (C xs d 351 0 [mR 111] h2) (fun v3 h3 => cI (C xs d 67 0 [mR 0, mI v3] h3) (fun v4 h4 => some ([mI v4], h4)))) else cI (C xs d 68 0 [mR 0, mI v1] h1) (fun v5 h5 => some ([mI v5], h5)))) := (C_in xs d 44 p_T_fits _ h).trans ((X_blk xs d k_T_fits [] 26 0 _ _ h).trans rfl)
theorem c_T_firstOf (xs : List Int) (d : Nat) (x1 x2 x3 : Int) (h : mM) : C xs d 45 0 [mR 0, mI x1, mI x2, mI x3] h = cI (C xs d 228 0 [mR 12, mI x3] h) (fun v1 h1 => (if v1 = (0 : Int) then X xs d k_T_firstOf 11 [mR 0, mI x1, mI x2, mI x3, mC 0] [mI 1] h1 else cI (C xs d 48 0 [mR 0, mI x1, mI x2] h1) (fun v2 h2 => X xs d k_T_firstOf 11 [mR 0, mI x1, mI x2, mI x3, mC 0] [mI v2] h2))) := (C_in xs d 45 p_T_firstOf _ h).trans ((X_blk xs d k_T_firstOf [11] 42 0 _ _ h).trans rfl)
theorem e_T_firstOf_11 (xs : List Int) (d : Nat) (x1 x2 x3 s0 : Int) (h : mM) : X xs d k_T_firstOf 11 [mR 0, mI x1, mI x2, mI x3, mC 0] [mI s0] h = (if s0 = (0 : Int) then cV (C xs d 49 0 [mR 0, mI x1, mI x2] h) (fun h1 => cI (C xs d 351 0 [mR 111] h1) (fun v2 h2 => (if v2 = (0 : Int) then cI (C xs d 68 0 [mR 0, mI 6] h2) (fun v5 h5 => some ([mI v5], h5)) else cI (C xs d 353 0 [mR 111, mI x3] h2) (fun v3 h3 => cI (C xs d 67 0 [mR 0, mI v3] h3) (fun v4 h4 => some ([mI v4], h4)))))) else cI (C xs d 68 0 [mR 0, mI s0] h) (fun v6 h6 => some ([mI v6], h6))) := ((X_blk xs d k_T_firstOf [11] 42 11 _ _ h).trans rfl)
theorem c_T_oddsThat (xs : List Int) (d : Nat) (x1 x2 x3 x4 : Int) (h : mM) : C xs d 46 0 [mR 0, mI x1, mI x2, mI x3, mI x4] h = cI (C xs d 73 0 [mR 0, mI x3, mI x4] h) (fun v1 h1 => (if v1 = (0 : Int) then X xs d k_T_oddsThat 11 [mR 0, mI x1, mI x2, mI x3, mI x4, mC 0] [mI 1] h1 else cI (C xs d 48 0 [mR 0, mI x1, mI x2] h1) (fun v2 h2 => X xs d k_T_oddsThat 11 [mR 0, mI x1, mI x2, mI x3, mI x4, mC 0] [mI v2] h2))) := (C_in xs d 46 p_T_oddsThat _ h).trans ((X_blk xs d k_T_oddsThat [11] 48 0 _ _ h).trans rfl)
theorem e_T_oddsThat_11 (xs : List Int) (d : Nat) (x1 x2 x3 x4 s0 : Int) (h : mM) : X xs d k_T_oddsThat 11 [mR 0, mI x1, mI x2, mI x3, mI x4, mC 0] [mI s0] h = (if s0 = (0 : Int) then cV (C xs d 49 0 [mR 0, mI x1, mI x2] h) (fun h1 => cI (C xs d 351 0 [mR 111] h1) (fun v2 h2 => (if v2 = (0 : Int) then cI (C xs d 70 0 [mR 0, mI 6] h2) (fun v6 h6 => (if 0 ≤ v6 ∧ v6 ≤ 1 then some ([mI v6], h6) else none)) else cI (C xs d 352 0 [mR 111, mI x3, mI x4] h2) (fun v3 h3 => cI (C xs d 351 0 [mR 111] h3) (fun v4 h4 => cI (C xs d 71 0 [mR 0, mL v3, mL v4] h4) (fun v5 h5 => (if 0 ≤ v5 ∧ v5 ≤ 1 then some ([mI v5], h5) else none))))))) else cI (C xs d 70 0 [mR 0, mI s0] h) (fun v7 h7 => (if 0 ≤ v7 ∧ v7 ≤ 1 then some ([mI v7], h7) else none))) := ((X_blk xs d k_T_oddsThat [11] 48 11 _ _ h).trans rfl)
theorem c_T_ask (xs : List Int) (d : Nat) (x1 x2 : Int) (h : mM) : C xs d 47 0 [mR 0, mI x1, mI x2] h = cI (C xs d 48 0 [mR 0, mI x1, mI x2] h) (fun v1 h1 => (if v1 = (0 : Int) then cV (C xs d 49 0 [mR 0, mI x1, mI x2] h1) (fun h2 => cI (C xs d 351 0 [mR 111] h2) (fun v3 h3 => (if v3 < (2 : Int) then cI (C xs d 68 0 [mR 0, mI 6] h3) (fun v6 h6 => some ([mI v6], h6)) else cI (C xs d 355 0 [mR 111] h3) (fun v4 h4 => cI (C xs d 67 0 [mR 0, mI v4] h4) (fun v5 h5 => some ([mI v5], h5)))))) else cI (C xs d 68 0 [mR 0, mI v1] h1) (fun v7 h7 => some ([mI v7], h7)))) := (C_in xs d 47 p_T_ask _ h).trans ((X_blk xs d k_T_ask [] 35 0 _ _ h).trans rfl)
theorem c_T_waysStatus (xs : List Int) (d : Nat) (x1 x2 : Int) (h : mM) : C xs d 48 0 [mR 0, mI x1, mI x2] h = cI (C xs d 50 0 [mR 0, mI x1, mI x2, mI 10, mI 2] h) (fun v1 h1 => (if v1 = (0 : Int) then X xs d k_T_waysStatus 19 [mR 0, mI x1, mI x2, mI v1, mI (fShl 1 (h1 12 0)), mI 0, mC 0, mC 0] [] h1 else some ([mI v1], h1))) := (C_in xs d 48 p_T_waysStatus _ h).trans ((X_blk xs d k_T_waysStatus [19] 50 0 _ _ h).trans rfl)
theorem e_T_waysStatus_19 (xs : List Int) (d : Nat) (x1 x2 x3 x4 x5 : Int) (x6 : mv) (h : mM) : X xs d k_T_waysStatus 19 [mR 0, mI x1, mI x2, mI x3, mI x4, mI x5, x6, mC 0] [] h = (if inI (2 * x2) then (if x5 < (2 * x2) then cL (C xs d 340 0 [mR 1, mI x1, mI x5] h) (fun v1 h1 => (if v1 < (0 : Int) then some ([mI 5], h1) else (if v1 < x4 then (if inI (x5 + 1) then X xs d k_T_waysStatus 19 [mR 0, mI x1, mI x2, mI x3, mI x4, mI (x5 + 1), mL v1, mC 0] [] h1 else none) else some ([mI 5], h1)))) else some ([mI 0], h)) else none) := ((X_blk xs d k_T_waysStatus [19] 50 19 _ _ h).trans rfl)
theorem c_T_findWays (xs : List Int) (d : Nat) (x1 x2 : Int) (h : mM) : C xs d 49 0 [mR 0, mI x1, mI x2] h = cV (C xs d 345 0 [mR 111, mI (h 12 0)] h) (fun h1 => X xs d k_T_findWays 8 [mR 0, mI x1, mI x2, mI 0] [] h1) := (C_in xs d 49 p_T_findWays _ h).trans ((X_blk xs d k_T_findWays [8] 43 0 _ _ h).trans rfl)
theorem e_T_findWays_8 (xs : List Int) (d : Nat) (x1 x2 x3 : Int) (h : mM) : X xs d k_T_findWays 8 [mR 0, mI x1, mI x2, mI x3] [] h = (if x3 < x2 then (if inI (2 * x3) then cL (C xs d 340 0 [mR 1, mI x1, mI (2 * x3)] h) (fun v2 h2 => (if inI (2 * x3) then (if inI ((2 * x3) + 1) then cL (C xs d 340 0 [mR 1, mI x1, mI ((2 * x3) + 1)] h2) (fun v3 h3 => cV (C xs d 346 0 [mR 111, mI (fL2i v2), mI (fL2i v3)] h3) (fun h4 => (if inI (x3 + 1) then X xs d k_T_findWays 8 [mR 0, mI x1, mI x2, mI (x3 + 1)] [] h4 else none))) else none) else none)) else none) else cV (C xs d 347 0 [mR 111] h) (fun h1 => some ([], h1))) := ((X_blk xs d k_T_findWays [8] 43 8 _ _ h).trans rfl)
theorem c_T_rowsStatus (xs : List Int) (d : Nat) (x1 x2 x3 x4 : Int) (h : mM) : C xs d 50 0 [mR 0, mI x1, mI x2, mI x3, mI x4] h = cI (C xs d 333 0 [mR 1, mI x1] h) (fun v1 h1 => (if v1 = (0 : Int) then some ([mI 1], h1) else cI (C xs d 74 0 [mI x2, mI 0, mI x3] h1) (fun v2 h2 => (if v2 = (0 : Int) then some ([mI 1], h2) else cI (C xs d 335 0 [mR 1, mI x1] h2) (fun v3 h3 => (if v3 = (0 : Int) then (if inI (x2 * x4) then cI (C xs d 336 0 [mR 1, mI x1] h3) (fun v4 h4 => (if v4 < (x2 * x4) then some ([mI 3], h4) else some ([mI 0], h4))) else none) else some ([mI 2], h3))))))) := (C_in xs d 50 p_T_rowsStatus _ h).trans ((X_blk xs d k_T_rowsStatus [] 36 0 _ _ h).trans rfl)
theorem c_T_laws (xs : List Int) (d : Nat) (x1 x2 : Int) (h : mM) : C xs d 51 0 [mR 0, mI x1, mI x2] h = cI (C xs d 55 0 [mR 0, mI x1, mI x2] h) (fun v1 h1 => (if v1 = (0 : Int) then X xs d k_T_laws 15 [mR 0, mI x1, mI x2, mI v1, mI 0, mI 1, mC 0] [] h1 else cI (C xs d 68 0 [mR 0, mI v1] h1) (fun v2 h2 => some ([mI v2], h2)))) := (C_in xs d 51 p_T_laws _ h).trans ((X_blk xs d k_T_laws [15, 22, 35] 48 0 _ _ h).trans rfl)
theorem e_T_laws_15 (xs : List Int) (d : Nat) (x1 x2 x3 x4 x5 : Int) (x6 : mv) (h : mM) : X xs d k_T_laws 15 [mR 0, mI x1, mI x2, mI x3, mI x4, mI x5, x6] [] h = (if ((nth (CT xs 3) (5 : Int).toNat).getD 0) < x5 then cI (C xs d 67 0 [mR 0, mI x4] h) (fun v1 h1 => some ([mI v1], h1)) else X xs d k_T_laws 22 [mR 0, mI x1, mI x2, mI x3, mI x4, mI x5, mI 1] [] h) := ((X_blk xs d k_T_laws [15, 22, 35] 48 15 _ _ h).trans rfl)
theorem e_T_laws_22 (xs : List Int) (d : Nat) (x1 x2 x3 x4 x5 x6 : Int) (h : mM) : X xs d k_T_laws 22 [mR 0, mI x1, mI x2, mI x3, mI x4, mI x5, mI x6] [] h = (if ((nth (CT xs 3) (6 : Int).toNat).getD 0) < x6 then (if inI (x5 + 1) then X xs d k_T_laws 15 [mR 0, mI x1, mI x2, mI x3, mI x4, mI (x5 + 1), mI x6] [] h else none) else cI (C xs d 56 0 [mR 0, mI x1, mI x2, mI x5, mI x6] h) (fun v1 h1 => (if v1 = (0 : Int) then X xs d k_T_laws 35 [mR 0, mI x1, mI x2, mI x3, mI x4, mI x5, mI x6] [] h1 else (if inI (x4 + 1) then X xs d k_T_laws 35 [mR 0, mI x1, mI x2, mI x3, mI (x4 + 1), mI x5, mI x6] [] h1 else none)))) := ((X_blk xs d k_T_laws [15, 22, 35] 48 22 _ _ h).trans rfl)
theorem e_T_laws_35 (xs : List Int) (d : Nat) (x1 x2 x3 x4 x5 x6 : Int) (h : mM) : X xs d k_T_laws 35 [mR 0, mI x1, mI x2, mI x3, mI x4, mI x5, mI x6] [] h = (if inI (x6 + 1) then X xs d k_T_laws 22 [mR 0, mI x1, mI x2, mI x3, mI x4, mI x5, mI (x6 + 1)] [] h else none) := ((X_blk xs d k_T_laws [15, 22, 35] 48 35 _ _ h).trans rfl)
theorem c_T_lawOf (xs : List Int) (d : Nat) (x1 x2 x3 : Int) (h : mM) : C xs d 52 0 [mR 0, mI x1, mI x2, mI x3] h = cI (C xs d 74 0 [mI x3, mI 0, mI 1] h) (fun v1 h1 => (if v1 = (0 : Int) then X xs d k_T_lawOf 11 [mR 0, mI x1, mI x2, mI x3, mC 0, mC 0, mC 0] [mI 1] h1 else cI (C xs d 55 0 [mR 0, mI x1, mI x2] h1) (fun v2 h2 => X xs d k_T_lawOf 11 [mR 0, mI x1, mI x2, mI x3, mC 0, mC 0, mC 0] [mI v2] h2))) := (C_in xs d 52 p_T_lawOf _ h).trans ((X_blk xs d k_T_lawOf [11, 20, 27] 60 0 _ _ h).trans rfl)
theorem e_T_lawOf_11 (xs : List Int) (d : Nat) (x1 x2 x3 s0 : Int) (h : mM) : X xs d k_T_lawOf 11 [mR 0, mI x1, mI x2, mI x3, mC 0, mC 0, mC 0] [mI s0] h = (if s0 = (0 : Int) then X xs d k_T_lawOf 20 [mR 0, mI x1, mI x2, mI x3, mI s0, mI 1, mC 0] [] h else cI (C xs d 68 0 [mR 0, mI s0] h) (fun v1 h1 => some ([mI v1], h1))) := ((X_blk xs d k_T_lawOf [11, 20, 27] 60 11 _ _ h).trans rfl)
theorem e_T_lawOf_20 (xs : List Int) (d : Nat) (x1 x2 x3 x4 x5 : Int) (x6 : mv) (h : mM) : X xs d k_T_lawOf 20 [mR 0, mI x1, mI x2, mI x3, mI x4, mI x5, x6] [] h = (if ((nth (CT xs 3) (5 : Int).toNat).getD 0) < x5 then cI (C xs d 68 0 [mR 0, mI 6] h) (fun v1 h1 => some ([mI v1], h1)) else X xs d k_T_lawOf 27 [mR 0, mI x1, mI x2, mI x3, mI x4, mI x5, mI 1] [] h) := ((X_blk xs d k_T_lawOf [11, 20, 27] 60 20 _ _ h).trans rfl)
theorem e_T_lawOf_27 (xs : List Int) (d : Nat) (x1 x2 x3 x4 x5 x6 : Int) (h : mM) : X xs d k_T_lawOf 27 [mR 0, mI x1, mI x2, mI x3, mI x4, mI x5, mI x6] [] h = (if ((nth (CT xs 3) (6 : Int).toNat).getD 0) < x6 then (if inI (x5 + 1) then X xs d k_T_lawOf 20 [mR 0, mI x1, mI x2, mI x3, mI x4, mI (x5 + 1), mI x6] [] h else none) else cI (C xs d 56 0 [mR 0, mI x1, mI x2, mI x5, mI x6] h) (fun v1 h1 => (if v1 = (0 : Int) then (if inI (x6 + 1) then X xs d k_T_lawOf 27 [mR 0, mI x1, mI x2, mI x3, mI x4, mI x5, mI (x6 + 1)] [] h1 else none) else (if x3 = (0 : Int) then cI (C xs d 67 0 [mR 0, mI x5] h1) (fun v3 h3 => some ([mI v3], h3)) else cI (C xs d 67 0 [mR 0, mI x6] h1) (fun v2 h2 => some ([mI v2], h2)))))) := ((X_blk xs d k_T_lawOf [11, 20, 27] 60 27 _ _ h).trans rfl)
theorem c_T_error (xs : List Int) (d : Nat) (x1 x2 x3 : Int) (h : mM) : C xs d 53 0 [mR 0, mI x1, mI x2, mI x3] h = cI (C xs d 74 0 [mI x1, mI 0, mI 12] h) (fun v1 h1 => (if v1 = (0 : Int) then cI (C xs d 70 0 [mR 0, mI 1] h1) (fun v2 h2 => (if 0 ≤ v2 ∧ v2 ≤ 1 then some ([mI v2], h2) else none)) else cI (C xs d 74 0 [mI x2, mI 0, mI 13] h1) (fun v3 h3 => (if v3 = (0 : Int) then cI (C xs d 70 0 [mR 0, mI 1] h3) (fun v4 h4 => (if 0 ≤ v4 ∧ v4 ≤ 1 then some ([mI v4], h4) else none)) else cI (C xs d 74 0 [mI x3, mI 0, mI 1] h3) (fun v5 h5 => (if v5 = (0 : Int) then cI (C xs d 70 0 [mR 0, mI 1] h5) (fun v13 h13 => (if 0 ≤ v13 ∧ v13 ≤ 1 then some ([mI v13], h13) else none)) else cV (C xs d 57 0 [mR 0, mI x1] h5) (fun h6 => (if x3 = (0 : Int) then cL (C xs d 267 0 [mR 125, mI x2] h6) (fun v10 h10 => cL (C xs d 266 0 [mR 125] h10) (fun v11 h11 => cI (C xs d 71 0 [mR 0, mL v10, mL v11] h11) (fun v12 h12 => (if 0 ≤ v12 ∧ v12 ≤ 1 then some ([mI v12], h12) else none)))) else cL (C xs d 268 0 [mR 127, mI x2] h6) (fun v7 h7 => cL (C xs d 266 0 [mR 125] h7) (fun v8 h8 => cI (C xs d 71 0 [mR 0, mL v7, mL v8] h8) (fun v9 h9 => (if 0 ≤ v9 ∧ v9 ≤ 1 then some ([mI v9], h9) else none)))))))))))) := (C_in xs d 53 p_T_error _ h).trans ((X_blk xs d k_T_error [] 44 0 _ _ h).trans rfl)
theorem c_T_cut (xs : List Int) (d : Nat) (x1 : Int) (h : mM) : C xs d 54 0 [mR 0, mI x1] h = cI (C xs d 74 0 [mI x1, mI 0, mI 12] h) (fun v1 h1 => (if v1 = (0 : Int) then cI (C xs d 68 0 [mR 0, mI 1] h1) (fun v5 h5 => some ([mI v5], h5)) else cV (C xs d 57 0 [mR 0, mI x1] h1) (fun h2 => cL (C xs d 267 0 [mR 125, mI 0] h2) (fun v3 h3 => cL (C xs d 268 0 [mR 127, mI 0] h3) (fun v4 h4 => (if inL (v3 + v4) then X xs d k_T_cut 26 [mR 0, mI x1, mI 0, mL (v3 + v4), mC 0, mI 1, mC 0, mC 0] [] h4 else none)))))) := (C_in xs d 54 p_T_cut _ h).trans ((X_blk xs d k_T_cut [26, 47] 58 0 _ _ h).trans rfl)
theorem e_T_cut_26 (xs : List Int) (d : Nat) (x1 x2 x3 x5 : Int) (x6 : mv) (h : mM) : X xs d k_T_cut 26 [mR 0, mI x1, mI x2, mL x3, mC 0, mI x5, x6, mC 0] [] h = (if (13 : Int) < x5 then cI (C xs d 67 0 [mR 0, mI x2] h) (fun v1 h1 => some ([mI v1], h1)) else cL (C xs d 267 0 [mR 125, mI x5] h) (fun v2 h2 => cL (C xs d 268 0 [mR 127, mI x5] h2) (fun v3 h3 => (if inL (v2 + v3) then (if (v2 + v3) < x3 then X xs d k_T_cut 47 [mR 0, mI x1, mI x5, mL (v2 + v3), mC 0, mI x5, mL (v2 + v3), mC 0] [] h3 else X xs d k_T_cut 47 [mR 0, mI x1, mI x2, mL x3, mC 0, mI x5, mL (v2 + v3), mC 0] [] h3) else none)))) := ((X_blk xs d k_T_cut [26, 47] 58 26 _ _ h).trans rfl)
theorem e_T_cut_47 (xs : List Int) (d : Nat) (x1 x2 x3 x5 x6 : Int) (h : mM) : X xs d k_T_cut 47 [mR 0, mI x1, mI x2, mL x3, mC 0, mI x5, mL x6, mC 0] [] h = (if inI (x5 + 1) then X xs d k_T_cut 26 [mR 0, mI x1, mI x2, mL x3, mC 0, mI (x5 + 1), mL x6, mC 0] [] h else none) := ((X_blk xs d k_T_cut [26, 47] 58 47 _ _ h).trans rfl)
theorem c_T_lawStatus (xs : List Int) (d : Nat) (x1 x2 : Int) (h : mM) : C xs d 55 0 [mR 0, mI x1, mI x2] h = cI (C xs d 50 0 [mR 0, mI x1, mI x2, mI 15, mI 3] h) (fun v1 h1 => (if v1 = (0 : Int) then X xs d k_T_lawStatus 13 [mR 0, mI x1, mI x2, mI v1, mI 0, mC 0, mC 0, mC 0, mC 0, mC 0, mC 0] [] h1 else some ([mI v1], h1))) := (C_in xs d 55 p_T_lawStatus _ h).trans ((X_blk xs d k_T_lawStatus [13] 79 0 _ _ h).trans rfl)
theorem e_T_lawStatus_13 (xs : List Int) (d : Nat) (x1 x2 x3 x4 : Int) (x5 x7 x9 : mv) (h : mM) : X xs d k_T_lawStatus 13 [mR 0, mI x1, mI x2, mI x3, mI x4, x5, mC 0, x7, mC 0, x9, mC 0] [] h = (if x4 < x2 then (if inI (3 * x4) then cL (C xs d 340 0 [mR 1, mI x1, mI (3 * x4)] h) (fun v1 h1 => (if inI (3 * x4) then (if inI ((3 * x4) + 1) then cL (C xs d 340 0 [mR 1, mI x1, mI ((3 * x4) + 1)] h1) (fun v2 h2 => (if inI (3 * x4) then (if inI ((3 * x4) + 2) then cL (C xs d 340 0 [mR 1, mI x1, mI ((3 * x4) + 2)] h2) (fun v3 h3 => (if v1 < (0 : Int) then some ([mI 5], h3) else (if (9 : Int) < v1 then some ([mI 5], h3) else (if v2 < (0 : Int) then some ([mI 5], h3) else (if (59 : Int) < v2 then some ([mI 5], h3) else (if v3 < (0 : Int) then some ([mI 5], h3) else (if (200 : Int) < v3 then some ([mI 5], h3) else (if inI (x4 + 1) then X xs d k_T_lawStatus 13 [mR 0, mI x1, mI x2, mI x3, mI (x4 + 1), mL v1, mC 0, mL v2, mC 0, mL v3, mC 0] [] h3 else none)))))))) else none) else none)) else none) else none)) else none) else some ([mI 0], h)) := ((X_blk xs d k_T_lawStatus [13] 79 13 _ _ h).trans rfl)
theorem c_T_isLaw (xs : List Int) (d : Nat) (x1 x2 x3 x4 : Int) (h : mM) : C xs d 56 0 [mR 0, mI x1, mI x2, mI x3, mI x4] h = X xs d k_T_isLaw 2 [mR 0, mI x1, mI x2, mI x3, mI x4, mI 0, mC 0, mC 0] [] h := (C_in xs d 56 p_T_isLaw _ h).trans ((X_blk xs d k_T_isLaw [2] 53 0 _ _ h).trans rfl)
theorem e_T_isLaw_2 (xs : List Int) (d : Nat) (x1 x2 x3 x4 x5 : Int) (x6 x7 : mv) (h : mM) : X xs d k_T_isLaw 2 [mR 0, mI x1, mI x2, mI x3, mI x4, mI x5, x6, x7] [] h = (if x5 < x2 then (if inI (3 * x5) then cL (C xs d 340 0 [mR 1, mI x1, mI (3 * x5)] h) (fun v1 h1 => (if inI (3 * x5) then (if inI ((3 * x5) + 1) then cL (C xs d 340 0 [mR 1, mI x1, mI ((3 * x5) + 1)] h1) (fun v2 h2 => cI (C xs d 75 0 [mI x3, mI (fL2i v1), mI (fL2i v2), mI x4] h2) (fun v3 h3 => (if inI (3 * x5) then (if inI ((3 * x5) + 2) then cL (C xs d 340 0 [mR 1, mI x1, mI ((3 * x5) + 2)] h3) (fun v4 h4 => (if v3 = v4 then (if inI (x5 + 1) then X xs d k_T_isLaw 2 [mR 0, mI x1, mI x2, mI x3, mI x4, mI (x5 + 1), mI (fL2i v1), mI (fL2i v2)] [] h4 else none) else some ([mI 0], h4))) else none) else none))) else none) else none)) else none) else some ([mI 1], h)) := ((X_blk xs d k_T_isLaw [2] 53 2 _ _ h).trans rfl)
theorem c_T_tasteBoth (xs : List Int) (d : Nat) (x1 : Int) (h : mM) : C xs d 57 0 [mR 0, mI x1] h = cV (C xs d 265 0 [mR 125, mI x1, mI (h 13 1)] h) (fun h1 => cV (C xs d 265 0 [mR 127, mI x1, mI (h1 13 2)] h1) (fun h2 => some ([], h2))) := (C_in xs d 57 p_T_tasteBoth _ h).trans ((X_blk xs d k_T_tasteBoth [] 24 0 _ _ h).trans rfl)
theorem c_T_game (xs : List Int) (d : Nat) (x1 : Int) (h : mM) : C xs d 58 0 [mR 0, mI x1] h = cI (C xs d 74 0 [mI x1, mI 0, mI 4] h) (fun v1 h1 => (if v1 = (0 : Int) then cI (C xs d 68 0 [mR 0, mI 1] h1) (fun v5 h5 => some ([mI v5], h5)) else cV (C xs d 259 0 [mR 115, mR 12, mI x1] h1) (fun h2 => cI (C xs d 257 0 [mR 115] h2) (fun v3 h3 => cI (C xs d 67 0 [mR 0, mI v3] h3) (fun v4 h4 => some ([mI v4], h4)))))) := (C_in xs d 58 p_T_game _ h).trans ((X_blk xs d k_T_game [] 26 0 _ _ h).trans rfl)
theorem c_T_moveOf (xs : List Int) (d : Nat) (x1 : Int) (h : mM) : C xs d 59 0 [mR 0, mI x1] h = cI (C xs d 74 0 [mI x1, mI 1, mI 4] h) (fun v1 h1 => (if v1 = (0 : Int) then cI (C xs d 68 0 [mR 0, mI 1] h1) (fun v7 h7 => some ([mI v7], h7)) else cV (C xs d 259 0 [mR 115, mR 12, mI x1] h1) (fun h2 => cI (C xs d 258 0 [mR 115] h2) (fun v3 h3 => (if v3 = (-1 : Int) then cI (C xs d 68 0 [mR 0, mI 6] h3) (fun v6 h6 => some ([mI v6], h6)) else cI (C xs d 258 0 [mR 115] h3) (fun v4 h4 => cI (C xs d 67 0 [mR 0, mI v4] h4) (fun v5 h5 => some ([mI v5], h5)))))))) := (C_in xs d 59 p_T_moveOf _ h).trans ((X_blk xs d k_T_moveOf [] 35 0 _ _ h).trans rfl)
theorem c_T_share (xs : List Int) (d : Nat) (x1 : Int) (h : mM) : C xs d 60 0 [mR 0, mI x1] h = cI (C xs d 228 0 [mR 12, mI x1] h) (fun v1 h1 => (if v1 = (0 : Int) then cI (C xs d 70 0 [mR 0, mI 1] h1) (fun v5 h5 => (if 0 ≤ v5 ∧ v5 ≤ 1 then some ([mI v5], h5) else none)) else cI (C xs d 239 0 [mR 12] h1) (fun v2 h2 => (if v2 = (0 : Int) then cI (C xs d 70 0 [mR 0, mI 6] h2) (fun v4 h4 => (if 0 ≤ v4 ∧ v4 ≤ 1 then some ([mI v4], h4) else none)) else (if inA x1 7 then cI (C xs d 71 0 [mR 0, mL (h2 16 x1), mL v2] h2) (fun v3 h3 => (if 0 ≤ v3 ∧ v3 ≤ 1 then some ([mI v3], h3) else none)) else none))))) := (C_in xs d 60 p_T_share _ h).trans ((X_blk xs d k_T_share [] 35 0 _ _ h).trans rfl)
theorem c_T_copyWarmth (xs : List Int) (d : Nat) (x1 : Int) (h : mM) : C xs d 61 0 [mR 0, mI x1] h = cI (C xs d 333 0 [mR 1, mI x1] h) (fun v1 h1 => (if v1 = (0 : Int) then cI (C xs d 68 0 [mR 0, mI 1] h1) (fun v6 h6 => some ([mI v6], h6)) else cI (C xs d 335 0 [mR 1, mI x1] h1) (fun v2 h2 => (if v2 = (0 : Int) then cI (C xs d 338 0 [mR 1, mI x1, mI 0, mI (h2 12 0)] h2) (fun v3 h3 => (if v3 = (0 : Int) then cI (C xs d 68 0 [mR 0, mI 3] h3) (fun v4 h4 => some ([mI v4], h4)) else X xs d k_T_copyWarmth 33 [mR 0, mI x1, mI 0] [] h3)) else cI (C xs d 68 0 [mR 0, mI 2] h2) (fun v5 h5 => some ([mI v5], h5)))))) := (C_in xs d 61 p_T_copyWarmth _ h).trans ((X_blk xs d k_T_copyWarmth [33] 62 0 _ _ h).trans rfl)
theorem e_T_copyWarmth_33 (xs : List Int) (d : Nat) (x1 x2 : Int) (h : mM) : X xs d k_T_copyWarmth 33 [mR 0, mI x1, mI x2] [] h = (if x2 < (h 12 0) then (if inA x2 7 then cV (C xs d 341 0 [mR 1, mI x1, mI x2, mL (h 16 x2)] h) (fun h2 => (if inI (x2 + 1) then X xs d k_T_copyWarmth 33 [mR 0, mI x1, mI (x2 + 1)] [] h2 else none)) else none) else cI (C xs d 67 0 [mR 0, mI (h 12 0)] h) (fun v1 h1 => some ([mI v1], h1))) := ((X_blk xs d k_T_copyWarmth [33] 62 33 _ _ h).trans rfl)
theorem c_T_live (xs : List Int) (d : Nat) (x1 : Int) (h : mM) : C xs d 62 0 [mR 0, mI x1] h = cI (C xs d 74 0 [mI x1, mI 0, mI 9999] h) (fun v1 h1 => (if v1 = (0 : Int) then cI (C xs d 68 0 [mR 0, mI 1] h1) (fun v5 h5 => some ([mI v5], h5)) else (if (h1 30 8) = (0 : Int) then cI (C xs d 68 0 [mR 0, mI 6] h1) (fun v4 h4 => some ([mI v4], h4)) else cV (C xs d 270 0 [mR 107, mR 12, mR 30, mI x1] h1) (fun h2 => cI (C xs d 67 0 [mR 0, mI (h2 107 2)] (upM h2 0 3 1)) (fun v3 h3 => some ([mI v3], h3)))))) := (C_in xs d 62 p_T_live _ h).trans ((X_blk xs d k_T_live [] 39 0 _ _ h).trans rfl)
theorem c_T_lived (xs : List Int) (d : Nat) (x1 : Int) (h : mM) : C xs d 63 0 [mR 0, mI x1] h = cI (C xs d 74 0 [mI x1, mI 0, mI 4] h) (fun v1 h1 => (if v1 = (0 : Int) then cI (C xs d 68 0 [mR 0, mI 1] h1) (fun v9 h9 => some ([mI v9], h9)) else (if (h1 0 3) = (0 : Int) then cI (C xs d 68 0 [mR 0, mI 6] h1) (fun v8 h8 => some ([mI v8], h8)) else (if x1 = 0 then cI (C xs d 67 0 [mR 0, mI (h1 107 3)] h1) (fun v7 h7 => some ([mI v7], h7)) else (if x1 = 1 then cI (C xs d 67 0 [mR 0, mI (h1 107 4)] h1) (fun v6 h6 => some ([mI v6], h6)) else (if x1 = 2 then cI (C xs d 67 0 [mR 0, mI (h1 107 5)] h1) (fun v5 h5 => some ([mI v5], h5)) else (if x1 = 3 then cI (C xs d 67 0 [mR 0, mI (h1 107 6)] h1) (fun v4 h4 => some ([mI v4], h4)) else (if (h1 107 7) = (0 : Int) then cI (C xs d 67 0 [mR 0, mI 0] h1) (fun v2 h2 => some ([mI v2], h2)) else cI (C xs d 67 0 [mR 0, mI 1] h1) (fun v3 h3 => some ([mI v3], h3)))))))))) := (C_in xs d 63 p_T_lived _ h).trans ((X_blk xs d k_T_lived [] 57 0 _ _ h).trans rfl)
theorem c_T_mean (xs : List Int) (d : Nat) (x1 x2 : Int) (h : mM) : C xs d 64 0 [mR 0, mI x1, mI x2] h = cI (C xs d 74 0 [mI x1, mI 0, mI 9999] h) (fun v1 h1 => (if v1 = (0 : Int) then cI (C xs d 70 0 [mR 0, mI 1] h1) (fun v2 h2 => (if 0 ≤ v2 ∧ v2 ≤ 1 then some ([mI v2], h2) else none)) else cI (C xs d 74 0 [mI x2, mI 1, mI 20] h1) (fun v3 h3 => (if v3 = (0 : Int) then cI (C xs d 70 0 [mR 0, mI 1] h3) (fun v4 h4 => (if 0 ≤ v4 ∧ v4 ≤ 1 then some ([mI v4], h4) else none)) else (if inI (x1 + x2) then (if inI ((x1 + x2) - 1) then (if (9999 : Int) < ((x1 + x2) - 1) then cI (C xs d 70 0 [mR 0, mI 1] h3) (fun v6 h6 => (if 0 ≤ v6 ∧ v6 ≤ 1 then some ([mI v6], h6) else none)) else (if (h3 30 8) = (0 : Int) then cI (C xs d 70 0 [mR 0, mI 6] h3) (fun v5 h5 => (if 0 ≤ v5 ∧ v5 ≤ 1 then some ([mI v5], h5) else none)) else X xs d k_T_mean 33 [mR 0, mI x1, mI x2, mI 0, mI 0] [] h3)) else none) else none))))) := (C_in xs d 64 p_T_mean _ h).trans ((X_blk xs d k_T_mean [33] 71 0 _ _ h).trans rfl)
theorem e_T_mean_33 (xs : List Int) (d : Nat) (x1 x2 x3 x4 : Int) (h : mM) : X xs d k_T_mean 33 [mR 0, mI x1, mI x2, mI x3, mI x4] [] h = (if x4 < x2 then cV (C xs d 227 0 [mR 21, mR 12] h) (fun h2 => (if inI (x1 + x4) then cV (C xs d 270 0 [mR 109, mR 21, mR 30, mI (x1 + x4)] h2) (fun h3 => cI (C xs d 239 0 [mR 21] h3) (fun v4 h4 => (if inI (x3 + v4) then (if inI (x4 + 1) then X xs d k_T_mean 33 [mR 0, mI x1, mI x2, mI (x3 + v4), mI (x4 + 1)] [] h4 else none) else none))) else none)) else cI (C xs d 71 0 [mR 0, mL x3, mL x2] h) (fun v1 h1 => (if 0 ≤ v1 ∧ v1 ≤ 1 then some ([mI v1], h1) else none))) := ((X_blk xs d k_T_mean [33] 71 33 _ _ h).trans rfl)
theorem c_T_mark (xs : List Int) (d : Nat) (h : mM) : C xs d 65 0 [mR 0] h = cI (C xs d 289 0 [mR 56] h) (fun v1 h1 => (if v1 = (0 : Int) then cI (C xs d 291 0 [mR 56, mR 12, mR 30] h1) (fun v2 h2 => cI (C xs d 67 0 [mR 0, mI v2] h2) (fun v3 h3 => some ([mI v3], h3))) else cI (C xs d 68 0 [mR 0, mI 4] h1) (fun v4 h4 => some ([mI v4], h4)))) := (C_in xs d 65 p_T_mark _ h).trans ((X_blk xs d k_T_mark [] 23 0 _ _ h).trans rfl)
theorem c_T_undo (xs : List Int) (d : Nat) (h : mM) : C xs d 66 0 [mR 0] h = cI (C xs d 290 0 [mR 56] h) (fun v1 h1 => (if v1 = (0 : Int) then cI (C xs d 292 0 [mR 56, mR 12, mR 30] h1) (fun v2 h2 => cI (C xs d 67 0 [mR 0, mI v2] h2) (fun v3 h3 => some ([mI v3], h3))) else cI (C xs d 68 0 [mR 0, mI 6] h1) (fun v4 h4 => some ([mI v4], h4)))) := (C_in xs d 66 p_T_undo _ h).trans ((X_blk xs d k_T_undo [] 23 0 _ _ h).trans rfl)
theorem c_T_answer (xs : List Int) (d : Nat) (x1 : Int) (h : mM) : C xs d 67 0 [mR 0, mI x1] h = some ([mI x1], (upM h 0 0 0)) := (C_in xs d 67 p_T_answer _ h).trans ((X_blk xs d k_T_answer [] 10 0 _ _ h).trans rfl)
theorem c_T_refuse (xs : List Int) (d : Nat) (x1 : Int) (h : mM) : C xs d 68 0 [mR 0, mI x1] h = some ([mI (-1)], (upM h 0 0 x1)) := (C_in xs d 68 p_T_refuse _ h).trans ((X_blk xs d k_T_refuse [] 10 0 _ _ h).trans rfl)
theorem c_T_grant (xs : List Int) (d : Nat) (h : mM) : C xs d 69 0 [mR 0] h = some ([mI 1], (upM h 0 0 0)) := (C_in xs d 69 p_T_grant _ h).trans ((X_blk xs d k_T_grant [] 10 0 _ _ h).trans rfl)
theorem c_T_deny (xs : List Int) (d : Nat) (x1 : Int) (h : mM) : C xs d 70 0 [mR 0, mI x1] h = some ([mI 0], (upM h 0 0 x1)) := (C_in xs d 70 p_T_deny _ h).trans ((X_blk xs d k_T_deny [] 10 0 _ _ h).trans rfl)
theorem c_T_tell (xs : List Int) (d : Nat) (x1 x3 : Int) (h : mM) : C xs d 71 0 [mR 0, mL x1, mL x3] h = cL (C xs d 72 0 [mL x1, mL x3] h) (fun v1 h1 => (if 0 ≤ x1 ∧ 0 < (max 1 v1) then (if 0 ≤ x3 ∧ 0 < (max 1 v1) then cI (C xs d 69 0 [mR 0] (upM (upM h1 0 1 (x1 / (max 1 v1))) 0 2 (x3 / (max 1 v1)))) (fun v2 h2 => (if 0 ≤ v2 ∧ v2 ≤ 1 then some ([mI v2], h2) else none)) else none) else none)) := (C_in xs d 71 p_T_tell _ h).trans ((X_blk xs d k_T_tell [] 24 0 _ _ h).trans rfl)
theorem c_T_commonDivisor (xs : List Int) (d : Nat) (x0 x2 : Int) (h : mM) : C xs d 72 0 [mL x0, mL x2] h = X xs d k_T_commonDivisor 6 [mL x0, mC 0, mL x2, mC 0, mL x2, mC 0, mL x0, mC 0, mI 0, mC 0, mC 0] [] h := (C_in xs d 72 p_T_commonDivisor _ h).trans ((X_blk xs d k_T_commonDivisor [6] 30 0 _ _ h).trans rfl)
theorem e_T_commonDivisor_6 (xs : List Int) (d : Nat) (x0 x2 x4 x6 x8 : Int) (x9 : mv) (h : mM) : X xs d k_T_commonDivisor 6 [mL x0, mC 0, mL x2, mC 0, mL x4, mC 0, mL x6, mC 0, mI x8, x9, mC 0] [] h = (if x8 < (200 : Int) then (if x6 = (0 : Int) then some ([mL x4], h) else (if 0 ≤ x4 ∧ 0 < x6 then (if inI (x8 + 1) then X xs d k_T_commonDivisor 6 [mL x0, mC 0, mL x2, mC 0, mL x6, mC 0, mL (x4 % x6), mC 0, mI (x8 + 1), mL (x4 % x6), mC 0] [] h else none) else none)) else some ([mL x4], h)) := ((X_blk xs d k_T_commonDivisor [6] 30 6 _ _ h).trans rfl)
theorem c_T_isCouple (xs : List Int) (d : Nat) (x1 x2 : Int) (h : mM) : C xs d 73 0 [mR 0, mI x1, mI x2] h = cI (C xs d 228 0 [mR 12, mI x1] h) (fun v1 h1 => (if v1 = (0 : Int) then some ([mI 0], h1) else cI (C xs d 228 0 [mR 12, mI x2] h1) (fun v2 h2 => (if v2 = (0 : Int) then some ([mI 0], h2) else (if x1 = x2 then some ([mI 0], h2) else some ([mI 1], h2)))))) := (C_in xs d 73 p_T_isCouple _ h).trans ((X_blk xs d k_T_isCouple [] 22 0 _ _ h).trans rfl)
theorem c_T_within (xs : List Int) (d : Nat) (x0 x1 x2 : Int) (h : mM) : C xs d 74 0 [mI x0, mI x1, mI x2] h = (if x0 < x1 then some ([mI 0], h) else (if x2 < x0 then some ([mI 0], h) else some ([mI 1], h))) := (C_in xs d 74 p_T_within _ h).trans ((X_blk xs d k_T_within [] 15 0 _ _ h).trans rfl)
theorem c_T_warmBy (xs : List Int) (d : Nat) (x0 x1 x2 x3 : Int) (h : mM) : C xs d 75 0 [mI x0, mI x1, mI x2, mI x3] h = (if inI (x0 * x1) then (if (0 : Int) < x3 then (if 0 ≤ x2 ∧ 0 < x3 then (if inI ((x0 * x1) - (x2 / x3)) then (if (0 : Int) < ((x0 * x1) - (x2 / x3)) then some ([mI ((x0 * x1) - (x2 / x3))], h) else some ([mI 0], h)) else none) else none) else (if inI ((x0 * x1) - x2) then (if (0 : Int) < ((x0 * x1) - x2) then some ([mI ((x0 * x1) - x2)], h) else some ([mI 0], h)) else none)) else none) := (C_in xs d 75 p_T_warmBy _ h).trans ((X_blk xs d k_T_warmBy [] 23 0 _ _ h).trans rfl)
end
section
theorem c_M_plain (xs : List Int) (d : Nat) (x1 : Int) (h : mM) : C xs d 77 0 [mR 130, mI x1] h = X xs d k_M_plain 2 [mR 130, mI x1, mI 0] [] h := (C_in xs d 77 p_M_plain _ h).trans ((X_blk xs d k_M_plain [2] 69 0 _ _ h).trans rfl)
theorem e_M_plain_2 (xs : List Int) (d : Nat) (x1 x2 : Int) (h : mM) : X xs d k_M_plain 2 [mR 130, mI x1, mI x2] [] h = (if x2 < (414 : Int) then (if inI (x1 + x2) then (if inA (x1 + x2) 2346 then (if inI (x2 + 1) then X xs d k_M_plain 2 [mR 130, mI x1, mI (x2 + 1)] [] (upM h 131 (x1 + x2) 0) else none) else none) else none) else (if inI (x1 + 1) then (if inA (x1 + 1) 2346 then (if inI (x1 + 2) then (if inA (x1 + 2) 2346 then (if inI (x1 + 3) then (if inA (x1 + 3) 2346 then (if inI (x1 + 4) then (if inA (x1 + 4) 2346 then (if inI (x1 + 5) then (if inA (x1 + 5) 2346 then (if inI (x1 + 6) then (if inA (x1 + 6) 2346 then (if inI (x1 + 8) then (if inA (x1 + 8) 2346 then some ([], (upM (upM (upM (upM (upM (upM (upM h 131 (x1 + 1) 12) 131 (x1 + 2) 4) 131 (x1 + 3) 20) 131 (x1 + 4) 5) 131 (x1 + 5) 10) 131 (x1 + 6) 1) 131 (x1 + 8) (-1))) else none) else none) else none) else none) else none) else none) else none) else none) else none) else none) else none) else none) else none) else none)) := ((X_blk xs d k_M_plain [2] 69 2 _ _ h).trans rfl)
theorem c_M_status (xs : List Int) (d : Nat) (h : mM) : C xs d 78 0 [mR 130] h = some ([mI (h 130 2)], h) := (C_in xs d 78 p_M_status _ h).trans ((X_blk xs d k_M_status [] 8 0 _ _ h).trans rfl)
theorem c_M_top (xs : List Int) (d : Nat) (h : mM) : C xs d 79 0 [mR 130] h = some ([mL (h 130 3)], h) := (C_in xs d 79 p_M_top _ h).trans ((X_blk xs d k_M_top [] 8 0 _ _ h).trans rfl)
theorem c_M_bottom (xs : List Int) (d : Nat) (h : mM) : C xs d 80 0 [mR 130] h = some ([mL (h 130 4)], h) := (C_in xs d 80 p_M_bottom _ h).trans ((X_blk xs d k_M_bottom [] 8 0 _ _ h).trans rfl)
theorem c_M_is (xs : List Int) (d : Nat) (x1 : Int) (h : mM) : C xs d 81 0 [mR 130, mI x1] h = (if x1 = (0 : Int) then some ([mI 1], (upM h 130 2 x1)) else some ([mI 0], (upM h 130 2 x1))) := (C_in xs d 81 p_M_is _ h).trans ((X_blk xs d k_M_is [] 14 0 _ _ h).trans rfl)
theorem c_M_refuse (xs : List Int) (d : Nat) (x1 : Int) (h : mM) : C xs d 82 0 [mR 130, mI x1] h = some ([mI (-1)], (upM h 130 2 x1)) := (C_in xs d 82 p_M_refuse _ h).trans ((X_blk xs d k_M_refuse [] 10 0 _ _ h).trans rfl)
theorem c_M_gives (xs : List Int) (d : Nat) (x1 : Int) (h : mM) : C xs d 83 0 [mR 130, mI x1] h = some ([mI x1], (upM h 130 2 0)) := (C_in xs d 83 p_M_gives _ h).trans ((X_blk xs d k_M_gives [] 10 0 _ _ h).trans rfl)
theorem c_M_tellsBy (xs : List Int) (d : Nat) (x1 x3 : Int) (h : mM) : C xs d 84 0 [mR 130, mL x1, mL x3] h = X xs d k_M_tellsBy 4 [mR 130, mL x1, mC 0, mL x3, mC 0, mL x1, mC 0, mL x3, mC 0, mC 0, mC 0] [] h := (C_in xs d 84 p_M_tellsBy _ h).trans ((X_blk xs d k_M_tellsBy [4] 36 0 _ _ h).trans rfl)
theorem e_M_tellsBy_4 (xs : List Int) (d : Nat) (x1 x3 x5 x7 : Int) (x9 : mv) (h : mM) : X xs d k_M_tellsBy 4 [mR 130, mL x1, mC 0, mL x3, mC 0, mL x5, mC 0, mL x7, mC 0, x9, mC 0] [] h = (if x7 = (0 : Int) then (if 0 ≤ x1 ∧ 0 < x5 then (if 0 ≤ x3 ∧ 0 < x5 then cI (C xs d 81 0 [mR 130, mI 0] (upM (upM h 130 3 (x1 / x5)) 130 4 (x3 / x5))) (fun v1 h1 => (if 0 ≤ v1 ∧ v1 ≤ 1 then some ([mI v1], h1) else none)) else none) else none) else (if 0 ≤ x5 ∧ 0 < x7 then X xs d k_M_tellsBy 4 [mR 130, mL x1, mC 0, mL x3, mC 0, mL x7, mC 0, mL (x5 % x7), mC 0, mL (x5 % x7), mC 0] [] h else none)) := ((X_blk xs d k_M_tellsBy [4] 36 4 _ _ h).trans rfl)
theorem c_M_isTray (xs : List Int) (d : Nat) (x0 : Int) (h : mM) : C xs d 85 0 [mI x0] h = (if x0 < (0 : Int) then some ([mI 0], h) else (if x0 < (4 : Int) then some ([mI 1], h) else some ([mI 0], h))) := (C_in xs d 85 p_M_isTray _ h).trans ((X_blk xs d k_M_isTray [] 14 0 _ _ h).trans rfl)
theorem c_M_shrunk (xs : List Int) (d : Nat) (x0 x2 : Int) (h : mM) : C xs d 86 0 [mL x0, mI x2] h = (if x2 = (0 : Int) then some ([mL (fI2b (fL2i x0))], h) else (if x2 = (1 : Int) then some ([mL (fI2s (fL2i x0))], h) else (if x2 = (2 : Int) then some ([mL (fL2i x0)], h) else some ([mL x0], h)))) := (C_in xs d 86 p_M_shrunk _ h).trans ((X_blk xs d k_M_shrunk [] 29 0 _ _ h).trans rfl)
theorem c_M_tray (xs : List Int) (d : Nat) (x1 x2 x3 : Int) (h : mM) : C xs d 87 0 [mR 130, mI x1, mI x2, mI x3] h = cI (C xs d 85 0 [mI x1] h) (fun v1 h1 => (if v1 = (0 : Int) then cI (C xs d 81 0 [mR 130, mI 1] h1) (fun v2 h2 => (if 0 ≤ v2 ∧ v2 ≤ 1 then some ([mI v2], h2) else none)) else (if x2 < (0 : Int) then cI (C xs d 81 0 [mR 130, mI 1] h1) (fun v3 h3 => (if 0 ≤ v3 ∧ v3 ≤ 1 then some ([mI v3], h3) else none)) else (if (3 : Int) < x2 then cI (C xs d 81 0 [mR 130, mI 1] h1) (fun v4 h4 => (if 0 ≤ v4 ∧ v4 ≤ 1 then some ([mI v4], h4) else none)) else (if x3 < (0 : Int) then cI (C xs d 81 0 [mR 130, mI 1] h1) (fun v5 h5 => (if 0 ≤ v5 ∧ v5 ≤ 1 then some ([mI v5], h5) else none)) else (if (60 : Int) < x3 then cI (C xs d 81 0 [mR 130, mI 1] h1) (fun v6 h6 => (if 0 ≤ v6 ∧ v6 ≤ 1 then some ([mI v6], h6) else none)) else (if inA x1 4 then (if inA x1 4 then X xs d k_M_tray 29 [mR 130, mI x1, mI x2, mI x3, mI 0] [] (upM (upM h1 133 x1 x2) 134 x1 x3) else none) else none))))))) := (C_in xs d 87 p_M_tray _ h).trans ((X_blk xs d k_M_tray [29] 52 0 _ _ h).trans rfl)
theorem e_M_tray_29 (xs : List Int) (d : Nat) (x1 x2 x3 x4 : Int) (h : mM) : X xs d k_M_tray 29 [mR 130, mI x1, mI x2, mI x3, mI x4] [] h = (if x4 < x3 then (if inI (60 * x1) then (if inI ((60 * x1) + x4) then (if inA ((60 * x1) + x4) 240 then (if inI (x4 + 1) then X xs d k_M_tray 29 [mR 130, mI x1, mI x2, mI x3, mI (x4 + 1)] [] (upM h 135 ((60 * x1) + x4) 0) else none) else none) else none) else none) else cI (C xs d 81 0 [mR 130, mI 0] h) (fun v1 h1 => (if 0 ≤ v1 ∧ v1 ≤ 1 then some ([mI v1], h1) else none))) := ((X_blk xs d k_M_tray [29] 52 29 _ _ h).trans rfl)
theorem c_M_wrongPlace (xs : List Int) (d : Nat) (x1 x2 : Int) (h : mM) : C xs d 88 0 [mR 130, mI x1, mI x2] h = cI (C xs d 85 0 [mI x1] h) (fun v1 h1 => (if v1 = (0 : Int) then some ([mI 1], h1) else (if inA x1 4 then (if (h1 134 x1) = (-1 : Int) then some ([mI 2], h1) else (if x2 < (0 : Int) then some ([mI 3], h1) else (if inA x1 4 then (if x2 < (h1 134 x1) then some ([mI 0], h1) else some ([mI 3], h1)) else none))) else none))) := (C_in xs d 88 p_M_wrongPlace _ h).trans ((X_blk xs d k_M_wrongPlace [] 30 0 _ _ h).trans rfl)
theorem c_M_write (xs : List Int) (d : Nat) (x1 x2 x3 : Int) (h : mM) : C xs d 89 0 [mR 130, mI x1, mI x2, mL x3] h = cI (C xs d 88 0 [mR 130, mI x1, mI x2] h) (fun v1 h1 => (if v1 = (0 : Int) then (if inI (60 * x1) then (if inI ((60 * x1) + x2) then (if inA x1 4 then cL (C xs d 86 0 [mL x3, mI (h1 133 x1)] h1) (fun v3 h3 => (if inA ((60 * x1) + x2) 240 then cI (C xs d 81 0 [mR 130, mI v1] (upM h3 135 ((60 * x1) + x2) v3)) (fun v4 h4 => (if 0 ≤ v4 ∧ v4 ≤ 1 then some ([mI v4], h4) else none)) else none)) else none) else none) else none) else cI (C xs d 81 0 [mR 130, mI v1] h1) (fun v2 h2 => (if 0 ≤ v2 ∧ v2 ≤ 1 then some ([mI v2], h2) else none)))) := (C_in xs d 89 p_M_write _ h).trans ((X_blk xs d k_M_write [] 30 0 _ _ h).trans rfl)
theorem c_M_read (xs : List Int) (d : Nat) (x1 x2 : Int) (h : mM) : C xs d 90 0 [mR 130, mI x1, mI x2] h = cI (C xs d 88 0 [mR 130, mI x1, mI x2] h) (fun v1 h1 => (if (0 : Int) < v1 then some ([mL (-1)], (upM h1 130 2 v1)) else (if inI (60 * x1) then (if inI ((60 * x1) + x2) then (if inA ((60 * x1) + x2) 240 then some ([mL (h1 135 ((60 * x1) + x2))], (upM h1 130 2 v1)) else none) else none) else none))) := (C_in xs d 90 p_M_read _ h).trans ((X_blk xs d k_M_read [] 25 0 _ _ h).trans rfl)
set_option maxRecDepth 100000 in
theorem c_M_pour (xs : List Int) (d : Nat) (x1 x2 x3 x4 x5 : Int) (h : mM) : C xs d 91 0 [mR 130, mI x1, mI x2, mI x3, mI x4, mI x5] h = cI (C xs d 85 0 [mI x1] h) (fun v1 h1 => (if v1 = (0 : Int) then cI (C xs d 81 0 [mR 130, mI 1] h1) (fun v2 h2 => (if 0 ≤ v2 ∧ v2 ≤ 1 then some ([mI v2], h2) else none)) else cI (C xs d 85 0 [mI x3] h1) (fun v3 h3 => (if v3 = (0 : Int) then cI (C xs d 81 0 [mR 130, mI 1] h3) (fun v4 h4 => (if 0 ≤ v4 ∧ v4 ≤ 1 then some ([mI v4], h4) else none)) else (if x2 < (0 : Int) then cI (C xs d 81 0 [mR 130, mI 1] h3) (fun v5 h5 => (if 0 ≤ v5 ∧ v5 ≤ 1 then some ([mI v5], h5) else none)) else (if x4 < (0 : Int) then cI (C xs d 81 0 [mR 130, mI 1] h3) (fun v6 h6 => (if 0 ≤ v6 ∧ v6 ≤ 1 then some ([mI v6], h6) else none)) else (if x5 < (0 : Int) then cI (C xs d 81 0 [mR 130, mI 1] h3) (fun v12 h12 => (if 0 ≤ v12 ∧ v12 ≤ 1 then some ([mI v12], h12) else none)) else (if inA x1 4 then (if (h3 134 x1) = (-1 : Int) then cI (C xs d 81 0 [mR 130, mI 2] h3) (fun v7 h7 => (if 0 ≤ v7 ∧ v7 ≤ 1 then some ([mI v7], h7) else none)) else (if inA x3 4 then (if (h3 134 x3) = (-1 : Int) then cI (C xs d 81 0 [mR 130, mI 2] h3) (fun v11 h11 => (if 0 ≤ v11 ∧ v11 ≤ 1 then some ([mI v11], h11) else none)) else (if inA x1 4 then (if inA x3 4 then (if (h3 133 x1) = (h3 133 x3) then (if inA x1 4 then (if inI ((h3 134 x1) - x2) then (if ((h3 134 x1) - x2) < x5 then cI (C xs d 81 0 [mR 130, mI 3] h3) (fun v8 h8 => (if 0 ≤ v8 ∧ v8 ≤ 1 then some ([mI v8], h8) else none)) else (if inA x3 4 then (if inI ((h3 134 x3) - x4) then (if ((h3 134 x3) - x4) < x5 then cI (C xs d 81 0 [mR 130, mI 3] h3) (fun v9 h9 => (if 0 ≤ v9 ∧ v9 ≤ 1 then some ([mI v9], h9) else none)) else X xs d k_M_pour 67 [mR 130, mI x1, mI x2, mI x3, mI x4, mI x5, mI 0, mC 0] [] h3) else none) else none)) else none) else none) else cI (C xs d 81 0 [mR 130, mI 8] h3) (fun v10 h10 => (if 0 ≤ v10 ∧ v10 ≤ 1 then some ([mI v10], h10) else none))) else none) else none)) else none)) else none)))))))) := (C_in xs d 91 p_M_pour _ h).trans ((X_blk xs d k_M_pour [67, 80] 112 0 _ _ h).trans rfl)
theorem e_M_pour_67 (xs : List Int) (d : Nat) (x1 x2 x3 x4 x5 x6 : Int) (x7 : mv) (h : mM) : X xs d k_M_pour 67 [mR 130, mI x1, mI x2, mI x3, mI x4, mI x5, mI x6, x7] [] h = (if x6 < x5 then (if x2 < x4 then (if inI (x5 - 1) then (if inI ((x5 - 1) - x6) then X xs d k_M_pour 80 [mR 130, mI x1, mI x2, mI x3, mI x4, mI x5, mI x6, x7] [mI ((x5 - 1) - x6)] h else none) else none) else X xs d k_M_pour 80 [mR 130, mI x1, mI x2, mI x3, mI x4, mI x5, mI x6, x7] [mI x6] h) else cI (C xs d 81 0 [mR 130, mI 0] h) (fun v1 h1 => (if 0 ≤ v1 ∧ v1 ≤ 1 then some ([mI v1], h1) else none))) := ((X_blk xs d k_M_pour [67, 80] 112 67 _ _ h).trans rfl)
theorem e_M_pour_80 (xs : List Int) (d : Nat) (x1 x2 x3 x4 x5 x6 s0 : Int) (x7 : mv) (h : mM) : X xs d k_M_pour 80 [mR 130, mI x1, mI x2, mI x3, mI x4, mI x5, mI x6, x7] [mI s0] h = (if inI (60 * x3) then (if inI ((60 * x3) + x4) then (if inI (((60 * x3) + x4) + s0) then (if inI (60 * x1) then (if inI ((60 * x1) + x2) then (if inI (((60 * x1) + x2) + s0) then (if inA (((60 * x1) + x2) + s0) 240 then (if inA (((60 * x3) + x4) + s0) 240 then (if inI (x6 + 1) then X xs d k_M_pour 67 [mR 130, mI x1, mI x2, mI x3, mI x4, mI x5, mI (x6 + 1), mI s0] [] (upM h 135 (((60 * x3) + x4) + s0) (h 135 (((60 * x1) + x2) + s0))) else none) else none) else none) else none) else none) else none) else none) else none) else none) := ((X_blk xs d k_M_pour [67, 80] 112 80 _ _ h).trans rfl)
theorem c_M_isFrom (xs : List Int) (d : Nat) (x0 x2 x4 : Int) (h : mM) : C xs d 92 0 [mL x0, mL x2, mL x4] h = (if x0 < x2 then some ([mI 0], h) else (if x4 < x0 then some ([mI 0], h) else some ([mI 1], h))) := (C_in xs d 92 p_M_isFrom _ h).trans ((X_blk xs d k_M_isFrom [] 17 0 _ _ h).trans rfl)
theorem c_M_feed (xs : List Int) (d : Nat) (x1 x2 x3 x4 x5 : Int) (h : mM) : C xs d 93 0 [mR 130, mI x1, mI x2, mI x3, mI x4, mI x5] h = (if inI ((h 130 10) + 20) then (if (900 : Int) < ((h 130 10) + 20) then some ([mI (-1)], h) else cV (C xs d 94 0 [mR 130, mI x1] h) (fun h1 => cV (C xs d 94 0 [mR 130, mI x2] h1) (fun h2 => cV (C xs d 94 0 [mR 130, mI x3] h2) (fun h3 => cV (C xs d 94 0 [mR 130, mI x4] h3) (fun h4 => cV (C xs d 94 0 [mR 130, mI x5] h4) (fun h5 => some ([mI (h5 130 10)], h5))))))) else none) := (C_in xs d 93 p_M_feed _ h).trans ((X_blk xs d k_M_feed [] 31 0 _ _ h).trans rfl)
theorem c_M_four (xs : List Int) (d : Nat) (x1 : Int) (h : mM) : C xs d 94 0 [mR 130, mI x1] h = X xs d k_M_four 2 [mR 130, mI x1, mI 24] [] h := (C_in xs d 94 p_M_four _ h).trans ((X_blk xs d k_M_four [2] 27 0 _ _ h).trans rfl)
theorem e_M_four_2 (xs : List Int) (d : Nat) (x1 x2 : Int) (h : mM) : X xs d k_M_four 2 [mR 130, mI x1, mI x2] [] h = (if x2 < (0 : Int) then some ([], h) else (if inA (h 130 10) 900 then (if inB (fI2b (fShr x1 x2)) then (if inI ((h 130 10) + 1) then (if inI (x2 + (-8)) then X xs d k_M_four 2 [mR 130, mI x1, mI (x2 + (-8))] [] (upM (upM h 136 (h 130 10) (fI2b (fShr x1 x2))) 130 10 ((h 130 10) + 1)) else none) else none) else none) else none)) := ((X_blk xs d k_M_four [2] 27 2 _ _ h).trans rfl)
theorem c_M_byteAt (xs : List Int) (d : Nat) (x1 : Int) (h : mM) : C xs d 95 0 [mR 130, mI x1] h = (if x1 < (h 130 11) then (if inA x1 900 then some ([mI (fAnd (h 137 x1) 255)], h) else none) else some ([mI (-1)], h)) := (C_in xs d 95 p_M_byteAt _ h).trans ((X_blk xs d k_M_byteAt [] 18 0 _ _ h).trans rfl)
theorem c_M_isSmall (xs : List Int) (d : Nat) (x0 : Int) (h : mM) : C xs d 96 0 [mI x0] h = (if x0 < (97 : Int) then some ([mI 0], h) else (if (122 : Int) < x0 then some ([mI 0], h) else some ([mI 1], h))) := (C_in xs d 96 p_M_isSmall _ h).trans ((X_blk xs d k_M_isSmall [] 15 0 _ _ h).trans rfl)
theorem c_M_isDigit (xs : List Int) (d : Nat) (x0 : Int) (h : mM) : C xs d 97 0 [mI x0] h = (if x0 < (48 : Int) then some ([mI 0], h) else (if (57 : Int) < x0 then some ([mI 0], h) else some ([mI 1], h))) := (C_in xs d 97 p_M_isDigit _ h).trans ((X_blk xs d k_M_isDigit [] 15 0 _ _ h).trans rfl)
theorem c_M_ahead (xs : List Int) (d : Nat) (h : mM) : C xs d 98 0 [mR 130] h = cI (C xs d 95 0 [mR 130, mI (h 130 14)] h) (fun v1 h1 => (if v1 = (32 : Int) then X xs d k_M_ahead 12 [mR 130, mC 0] [] h1 else cI (C xs d 95 0 [mR 130, mI (h1 130 14)] h1) (fun v2 h2 => (if v2 = (10 : Int) then X xs d k_M_ahead 12 [mR 130, mC 0] [] h2 else cI (C xs d 95 0 [mR 130, mI (h2 130 14)] (upM h2 130 13 (h2 130 14))) (fun v3 h3 => (if v3 = (-1 : Int) then some ([], (upM (upM h3 130 15 v3) 130 12 0)) else cI (C xs d 96 0 [mI v3] (upM h3 130 15 v3)) (fun v4 h4 => (if v4 = (0 : Int) then cI (C xs d 97 0 [mI v3] h4) (fun v5 h5 => (if v5 = (0 : Int) then (if inI ((h5 130 14) + 1) then (if v3 = (59 : Int) then some ([], (upM (upM h5 130 14 ((h5 130 14) + 1)) 130 12 4)) else (if v3 = (60 : Int) then some ([], (upM (upM h5 130 14 ((h5 130 14) + 1)) 130 12 4)) else (if v3 = (62 : Int) then some ([], (upM (upM h5 130 14 ((h5 130 14) + 1)) 130 12 4)) else (if v3 = (61 : Int) then some ([], (upM (upM h5 130 14 ((h5 130 14) + 1)) 130 12 4)) else some ([], (upM (upM h5 130 14 ((h5 130 14) + 1)) 130 12 1)))))) else none) else X xs d k_M_ahead 64 [mR 130, mI v3] [] (upM h5 130 15 0))) else X xs d k_M_ahead 41 [mR 130, mI v3] [] h4)))))))) := (C_in xs d 98 p_M_ahead _ h).trans ((X_blk xs d k_M_ahead [0, 12, 41, 64] 134 0 _ _ h).trans rfl)
theorem e_M_ahead_0 (xs : List Int) (d : Nat) (h : mM) : X xs d k_M_ahead 0 [mR 130, mC 0] [] h = cI (C xs d 95 0 [mR 130, mI (h 130 14)] h) (fun v1 h1 => (if v1 = (32 : Int) then X xs d k_M_ahead 12 [mR 130, mC 0] [] h1 else cI (C xs d 95 0 [mR 130, mI (h1 130 14)] h1) (fun v2 h2 => (if v2 = (10 : Int) then X xs d k_M_ahead 12 [mR 130, mC 0] [] h2 else cI (C xs d 95 0 [mR 130, mI (h2 130 14)] (upM h2 130 13 (h2 130 14))) (fun v3 h3 => (if v3 = (-1 : Int) then some ([], (upM (upM h3 130 15 v3) 130 12 0)) else cI (C xs d 96 0 [mI v3] (upM h3 130 15 v3)) (fun v4 h4 => (if v4 = (0 : Int) then cI (C xs d 97 0 [mI v3] h4) (fun v5 h5 => (if v5 = (0 : Int) then (if inI ((h5 130 14) + 1) then (if v3 = (59 : Int) then some ([], (upM (upM h5 130 14 ((h5 130 14) + 1)) 130 12 4)) else (if v3 = (60 : Int) then some ([], (upM (upM h5 130 14 ((h5 130 14) + 1)) 130 12 4)) else (if v3 = (62 : Int) then some ([], (upM (upM h5 130 14 ((h5 130 14) + 1)) 130 12 4)) else (if v3 = (61 : Int) then some ([], (upM (upM h5 130 14 ((h5 130 14) + 1)) 130 12 4)) else some ([], (upM (upM h5 130 14 ((h5 130 14) + 1)) 130 12 1)))))) else none) else X xs d k_M_ahead 64 [mR 130, mI v3] [] (upM h5 130 15 0))) else X xs d k_M_ahead 41 [mR 130, mI v3] [] h4)))))))) := ((X_blk xs d k_M_ahead [0, 12, 41, 64] 134 0 _ _ h).trans rfl)
theorem e_M_ahead_12 (xs : List Int) (d : Nat) (h : mM) : X xs d k_M_ahead 12 [mR 130, mC 0] [] h = (if inI ((h 130 14) + 1) then X xs d k_M_ahead 0 [mR 130, mC 0] [] (upM h 130 14 ((h 130 14) + 1)) else none) := ((X_blk xs d k_M_ahead [0, 12, 41, 64] 134 12 _ _ h).trans rfl)
theorem e_M_ahead_41 (xs : List Int) (d : Nat) (x1 : Int) (h : mM) : X xs d k_M_ahead 41 [mR 130, mI x1] [] h = cI (C xs d 95 0 [mR 130, mI (h 130 14)] h) (fun v1 h1 => cI (C xs d 96 0 [mI v1] h1) (fun v2 h2 => (if v2 = (0 : Int) then some ([], (upM h2 130 12 2)) else (if inI ((h2 130 14) + 1) then X xs d k_M_ahead 41 [mR 130, mI x1] [] (upM h2 130 14 ((h2 130 14) + 1)) else none)))) := ((X_blk xs d k_M_ahead [0, 12, 41, 64] 134 41 _ _ h).trans rfl)
theorem e_M_ahead_64 (xs : List Int) (d : Nat) (x1 : Int) (h : mM) : X xs d k_M_ahead 64 [mR 130, mI x1] [] h = cI (C xs d 95 0 [mR 130, mI (h 130 14)] h) (fun v1 h1 => cI (C xs d 97 0 [mI v1] h1) (fun v2 h2 => (if v2 = (0 : Int) then (if inI ((h2 130 14) - (h2 130 13)) then (if (4 : Int) < ((h2 130 14) - (h2 130 13)) then some ([], (upM h2 130 12 1)) else some ([], (upM h2 130 12 3))) else none) else (if inI (10 * (h2 130 15)) then cI (C xs d 95 0 [mR 130, mI (h2 130 14)] h2) (fun v3 h3 => (if inI ((10 * (h2 130 15)) + v3) then (if inI (((10 * (h2 130 15)) + v3) - 48) then (if inI ((h3 130 14) + 1) then X xs d k_M_ahead 64 [mR 130, mI x1] [] (upM (upM h3 130 15 (min 100000 (((10 * (h2 130 15)) + v3) - 48))) 130 14 ((h3 130 14) + 1)) else none) else none) else none)) else none)))) := ((X_blk xs d k_M_ahead [0, 12, 41, 64] 134 64 _ _ h).trans rfl)
theorem c_M_isSign (xs : List Int) (d : Nat) (x1 : Int) (h : mM) : C xs d 99 0 [mR 130, mI x1] h = (if (h 130 12) = (4 : Int) then (if (h 130 15) = x1 then some ([mI 1], h) else some ([mI 0], h)) else some ([mI 0], h)) := (C_in xs d 99 p_M_isSign _ h).trans ((X_blk xs d k_M_isSign [] 17 0 _ _ h).trans rfl)
theorem c_M_inWords (xs : List Int) (d : Nat) (h : mM) : C xs d 100 0 [mR 130, mC 6] h = (if (h 130 12) = (2 : Int) then X xs d k_M_inWords 10 [mR 130, mC 6, mI 0, mI 1, mC 0, mC 0, mC 0] [] h else some ([mI (-1)], h)) := (C_in xs d 100 p_M_inWords _ h).trans ((X_blk xs d k_M_inWords [10, 16, 35, 38, 58, 61] 78 0 _ _ h).trans rfl)
theorem e_M_inWords_10 (xs : List Int) (d : Nat) (x2 x3 : Int) (x4 x5 x6 : mv) (h : mM) : X xs d k_M_inWords 10 [mR 130, mC 6, mI x2, mI x3, x4, x5, x6] [] h = (if x3 < (122 : Int) then X xs d k_M_inWords 16 [mR 130, mC 6, mI x2, mI x3, mI x3, x5, x6] [] h else some ([mI (-1)], h)) := ((X_blk xs d k_M_inWords [10, 16, 35, 38, 58, 61] 78 10 _ _ h).trans rfl)
theorem e_M_inWords_16 (xs : List Int) (d : Nat) (x2 x3 x4 : Int) (x5 x6 : mv) (h : mM) : X xs d k_M_inWords 16 [mR 130, mC 6, mI x2, mI x3, mI x4, x5, x6] [] h = (if inA x4 122 then (if ((nth (CT xs 6) (x4 : Int).toNat).getD 0) = (32 : Int) then (if inI (x4 - x3) then (if inI ((h 130 14) - (h 130 13)) then (if (x4 - x3) = ((h 130 14) - (h 130 13)) then X xs d k_M_inWords 35 [mR 130, mC 6, mI x2, mI x3, mI x4, x5, x6] [mI 1] h else X xs d k_M_inWords 35 [mR 130, mC 6, mI x2, mI x3, mI x4, x5, x6] [mI 0] h) else none) else none) else (if inI (x4 + 1) then X xs d k_M_inWords 16 [mR 130, mC 6, mI x2, mI x3, mI (x4 + 1), x5, x6] [] h else none)) else none) := ((X_blk xs d k_M_inWords [10, 16, 35, 38, 58, 61] 78 16 _ _ h).trans rfl)
theorem e_M_inWords_35 (xs : List Int) (d : Nat) (x2 x3 x4 s0 : Int) (x5 x6 : mv) (h : mM) : X xs d k_M_inWords 35 [mR 130, mC 6, mI x2, mI x3, mI x4, x5, x6] [mI s0] h = X xs d k_M_inWords 38 [mR 130, mC 6, mI x2, mI x3, mI x4, mI s0, mI x3] [] h := ((X_blk xs d k_M_inWords [10, 16, 35, 38, 58, 61] 78 35 _ _ h).trans rfl)
theorem e_M_inWords_38 (xs : List Int) (d : Nat) (x2 x3 x4 x5 x6 : Int) (h : mM) : X xs d k_M_inWords 38 [mR 130, mC 6, mI x2, mI x3, mI x4, mI x5, mI x6] [] h = (if x6 < x4 then (if x5 = (0 : Int) then X xs d k_M_inWords 61 [mR 130, mC 6, mI x2, mI x3, mI x4, mI x5, mI x6] [] h else (if inA x6 122 then (if inI ((h 130 13) + x6) then (if inI (((h 130 13) + x6) - x3) then cI (C xs d 95 0 [mR 130, mI (((h 130 13) + x6) - x3)] h) (fun v1 h1 => (if ((nth (CT xs 6) (x6 : Int).toNat).getD 0) = v1 then X xs d k_M_inWords 58 [mR 130, mC 6, mI x2, mI x3, mI x4, mI x5, mI x6] [mI 1] h1 else X xs d k_M_inWords 58 [mR 130, mC 6, mI x2, mI x3, mI x4, mI x5, mI x6] [mI 0] h1)) else none) else none) else none)) else X xs d k_M_inWords 61 [mR 130, mC 6, mI x2, mI x3, mI x4, mI x5, mI x6] [] h) := ((X_blk xs d k_M_inWords [10, 16, 35, 38, 58, 61] 78 38 _ _ h).trans rfl)
theorem e_M_inWords_58 (xs : List Int) (d : Nat) (x2 x3 x4 x5 x6 s0 : Int) (h : mM) : X xs d k_M_inWords 58 [mR 130, mC 6, mI x2, mI x3, mI x4, mI x5, mI x6] [mI s0] h = (if inI (x6 + 1) then X xs d k_M_inWords 38 [mR 130, mC 6, mI x2, mI x3, mI x4, mI s0, mI (x6 + 1)] [] h else none) := ((X_blk xs d k_M_inWords [10, 16, 35, 38, 58, 61] 78 58 _ _ h).trans rfl)
theorem e_M_inWords_61 (xs : List Int) (d : Nat) (x2 x3 x4 x5 x6 : Int) (h : mM) : X xs d k_M_inWords 61 [mR 130, mC 6, mI x2, mI x3, mI x4, mI x5, mI x6] [] h = (if x5 = (0 : Int) then (if inI (x2 + 1) then (if inI (x4 + 1) then X xs d k_M_inWords 10 [mR 130, mC 6, mI (x2 + 1), mI (x4 + 1), mI x4, mI x5, mI x6] [] h else none) else none) else some ([mI x2], h)) := ((X_blk xs d k_M_inWords [10, 16, 35, 38, 58, 61] 78 61 _ _ h).trans rfl)
theorem c_M_fails (xs : List Int) (d : Nat) (x1 : Int) (h : mM) : C xs d 101 0 [mR 130, mI x1] h = (if (h 130 18) = (0 : Int) then (if (h 130 12) = (1 : Int) then some ([mI 0], (upM (upM h 130 18 1) 130 17 (h 130 13))) else some ([mI 0], (upM (upM h 130 18 x1) 130 17 (h 130 13)))) else some ([mI 0], h)) := (C_in xs d 101 p_M_fails _ h).trans ((X_blk xs d k_M_fails [] 23 0 _ _ h).trans rfl)
theorem c_M_begins (xs : List Int) (d : Nat) (x1 x2 : Int) (h : mM) : C xs d 102 0 [mR 130, mI x1, mI x2] h = (if x1 < (0 : Int) then some ([mI 0], h) else (if (h 130 10) < x1 then some ([mI 0], h) else (if x2 < x1 then some ([mI 0], h) else X xs d k_M_begins 16 [mR 130, mI x1, mI x2, mI 0] [] (upM h 130 11 x1)))) := (C_in xs d 102 p_M_begins _ h).trans ((X_blk xs d k_M_begins [16] 53 0 _ _ h).trans rfl)
theorem e_M_begins_16 (xs : List Int) (d : Nat) (x1 x2 x3 : Int) (h : mM) : X xs d k_M_begins 16 [mR 130, mI x1, mI x2, mI x3] [] h = (if x3 < x1 then (if inA x3 900 then (if inA x3 900 then (if inB (h 136 x3) then (if inI (x3 + 1) then X xs d k_M_begins 16 [mR 130, mI x1, mI x2, mI (x3 + 1)] [] (upM h 137 x3 (h 136 x3)) else none) else none) else none) else none) else cV (C xs d 98 0 [mR 130] (upM (upM (upM (upM (upM h 130 10 0) 130 18 0) 130 17 (-1)) 130 14 0) 130 19 0)) (fun h1 => some ([mI 1], h1))) := ((X_blk xs d k_M_begins [16] 53 16 _ _ h).trans rfl)
theorem c_M_wantSign (xs : List Int) (d : Nat) (x1 : Int) (h : mM) : C xs d 103 0 [mR 130, mI x1] h = cI (C xs d 99 0 [mR 130, mI x1] h) (fun v1 h1 => (if v1 = (0 : Int) then cI (C xs d 101 0 [mR 130, mI 2] h1) (fun v3 h3 => (if 0 ≤ v3 ∧ v3 ≤ 1 then some ([mI v3], h3) else none)) else cV (C xs d 98 0 [mR 130] h1) (fun h2 => some ([mI 1], h2)))) := (C_in xs d 103 p_M_wantSign _ h).trans ((X_blk xs d k_M_wantSign [] 17 0 _ _ h).trans rfl)
theorem c_M_wantWord (xs : List Int) (d : Nat) (x2 : Int) (h : mM) : C xs d 104 0 [mR 130, mC 6, mI x2] h = cI (C xs d 100 0 [mR 130, mC 6] h) (fun v1 h1 => (if v1 = x2 then cV (C xs d 98 0 [mR 130] h1) (fun h2 => some ([mI 1], h2)) else cI (C xs d 101 0 [mR 130, mI 2] h1) (fun v3 h3 => (if 0 ≤ v3 ∧ v3 ≤ 1 then some ([mI v3], h3) else none)))) := (C_in xs d 104 p_M_wantWord _ h).trans ((X_blk xs d k_M_wantWord [] 18 0 _ _ h).trans rfl)
theorem c_M_number (xs : List Int) (d : Nat) (x1 x2 x3 : Int) (h : mM) : C xs d 105 0 [mR 130, mI x1, mI x2, mI x3] h = (if (h 130 12) = (3 : Int) then (if (h 130 15) < x2 then cI (C xs d 101 0 [mR 130, mI 4] h) (fun v1 h1 => (if 0 ≤ v1 ∧ v1 ≤ 1 then some ([mI v1], h1) else none)) else (if x3 < (h 130 15) then cI (C xs d 101 0 [mR 130, mI 4] h) (fun v3 h3 => (if 0 ≤ v3 ∧ v3 ≤ 1 then some ([mI v3], h3) else none)) else (if inA x1 2346 then cV (C xs d 98 0 [mR 130] (upM h 131 x1 (h 130 15))) (fun h2 => some ([mI 1], h2)) else none))) else cI (C xs d 101 0 [mR 130, mI 2] h) (fun v4 h4 => (if 0 ≤ v4 ∧ v4 ≤ 1 then some ([mI v4], h4) else none))) := (C_in xs d 105 p_M_number _ h).trans ((X_blk xs d k_M_number [] 35 0 _ _ h).trans rfl)
theorem c_M_isName (xs : List Int) (d : Nat) (h : mM) : C xs d 106 0 [mR 130, mC 6] h = (if (h 130 12) = (2 : Int) then (if inI ((h 130 14) - (h 130 13)) then (if (8 : Int) < ((h 130 14) - (h 130 13)) then some ([mI 0], h) else cI (C xs d 100 0 [mR 130, mC 6] h) (fun v1 h1 => (if v1 = (-1 : Int) then some ([mI 1], h1) else some ([mI 0], h1)))) else none) else some ([mI 0], h)) := (C_in xs d 106 p_M_isName _ h).trans ((X_blk xs d k_M_isName [] 25 0 _ _ h).trans rfl)
theorem c_M_nameHere (xs : List Int) (d : Nat) (h : mM) : C xs d 107 0 [mR 130] h = X xs d k_M_nameHere 5 [mR 130, mL 0, mC 0, mI (h 130 13)] [] h := (C_in xs d 107 p_M_nameHere _ h).trans ((X_blk xs d k_M_nameHere [5] 27 0 _ _ h).trans rfl)
theorem e_M_nameHere_5 (xs : List Int) (d : Nat) (x1 x3 : Int) (h : mM) : X xs d k_M_nameHere 5 [mR 130, mL x1, mC 0, mI x3] [] h = (if x3 < (h 130 14) then cI (C xs d 95 0 [mR 130, mI x3] h) (fun v1 h1 => (if inI (x3 + 1) then X xs d k_M_nameHere 5 [mR 130, mL (fLor (fLshl x1 8) v1), mC 0, mI (x3 + 1)] [] h1 else none)) else some ([mL x1], h)) := ((X_blk xs d k_M_nameHere [5] 27 5 _ _ h).trans rfl)
theorem c_M_findHere (xs : List Int) (d : Nat) (x1 x2 : Int) (h : mM) : C xs d 108 0 [mR 130, mI x1, mI x2] h = X xs d k_M_findHere 2 [mR 130, mI x1, mI x2, mI 0] [] h := (C_in xs d 108 p_M_findHere _ h).trans ((X_blk xs d k_M_findHere [2] 26 0 _ _ h).trans rfl)
theorem e_M_findHere_2 (xs : List Int) (d : Nat) (x1 x2 x3 : Int) (h : mM) : X xs d k_M_findHere 2 [mR 130, mI x1, mI x2, mI x3] [] h = (if x3 < x2 then (if inI (x1 + x3) then (if inA (x1 + x3) 42 then cL (C xs d 107 0 [mR 130] h) (fun v1 h1 => (if (h 132 (x1 + x3)) = v1 then some ([mI x3], h1) else (if inI (x3 + 1) then X xs d k_M_findHere 2 [mR 130, mI x1, mI x2, mI (x3 + 1)] [] h1 else none))) else none) else none) else some ([mI (-1)], h)) := ((X_blk xs d k_M_findHere [2] 26 2 _ _ h).trans rfl)
theorem c_M_fault (xs : List Int) (d : Nat) (x1 : Int) (h : mM) : C xs d 109 0 [mR 130, mI x1] h = (if x1 = (0 : Int) then some ([mI (h 130 16)], h) else (if x1 = (1 : Int) then some ([mI (h 130 17)], h) else some ([mI (-1)], h))) := (C_in xs d 109 p_M_fault _ h).trans ((X_blk xs d k_M_fault [] 18 0 _ _ h).trans rfl)
theorem c_M_taken (xs : List Int) (d : Nat) (x1 : Int) (h : mM) : C xs d 110 0 [mR 130, mI x1] h = (if (0 : Int) < (h 130 18) then cI (C xs d 82 0 [mR 130, mI 9] (upM h 130 16 (h 130 18))) (fun v2 h2 => some ([mI v2], h2)) else cI (C xs d 83 0 [mR 130, mI x1] (upM h 130 16 (h 130 18))) (fun v1 h1 => some ([mI v1], h1))) := (C_in xs d 110 p_M_taken _ h).trans ((X_blk xs d k_M_taken [] 20 0 _ _ h).trans rfl)
theorem c_M_personRow (xs : List Int) (d : Nat) (x0 : Int) (h : mM) : C xs d 111 0 [mI x0] h = (if inI (5 * x0) then (if inI (10 + (5 * x0)) then some ([mI (10 + (5 * x0))], h) else none) else none) := (C_in xs d 111 p_M_personRow _ h).trans ((X_blk xs d k_M_personRow [] 11 0 _ _ h).trans rfl)
theorem c_M_isIn (xs : List Int) (d : Nat) (x1 x2 : Int) (h : mM) : C xs d 112 0 [mR 130, mI x1, mI x2] h = (if (fAnd (fShr x1 x2) 1) = (1 : Int) then some ([mI 1], h) else some ([mI 0], h)) := (C_in xs d 112 p_M_isIn _ h).trans ((X_blk xs d k_M_isIn [] 16 0 _ _ h).trans rfl)
theorem c_M_isThere (xs : List Int) (d : Nat) (x1 : Int) (h : mM) : C xs d 113 0 [mR 130, mI x1] h = cI (C xs d 100 0 [mR 130, mC 6] h) (fun v1 h1 => (if v1 = x1 then cV (C xs d 98 0 [mR 130] h1) (fun h2 => some ([mI 1], h2)) else some ([mI 0], h1))) := (C_in xs d 113 p_M_isThere _ h).trans ((X_blk xs d k_M_isThere [] 16 0 _ _ h).trans rfl)
theorem c_M_perhaps (xs : List Int) (d : Nat) (x1 x2 x3 x4 x5 : Int) (h : mM) : C xs d 114 0 [mR 130, mI x1, mI x2, mI x3, mI x4, mI x5] h = cI (C xs d 113 0 [mR 130, mI x1] h) (fun v1 h1 => (if v1 = (0 : Int) then (if inA x2 2346 then some ([mI 1], (upM h1 131 x2 x5)) else none) else cI (C xs d 105 0 [mR 130, mI x2, mI x3, mI x4] h1) (fun v2 h2 => (if 0 ≤ v2 ∧ v2 ≤ 1 then some ([mI v2], h2) else none)))) := (C_in xs d 114 p_M_perhaps _ h).trans ((X_blk xs d k_M_perhaps [] 22 0 _ _ h).trans rfl)
theorem c_M_leastOf (xs : List Int) (d : Nat) (x0 : Int) (h : mM) : C xs d 115 0 [mI x0] h = (if x0 = (3 : Int) then some ([mI 1], h) else (if x0 < (5 : Int) then some ([mI 0], h) else some ([mI 1], h))) := (C_in xs d 115 p_M_leastOf _ h).trans ((X_blk xs d k_M_leastOf [] 15 0 _ _ h).trans rfl)
theorem c_M_mostOf (xs : List Int) (d : Nat) (x0 : Int) (h : mM) : C xs d 116 0 [mI x0] h = (if x0 = 1 then some ([mI 16], h) else (if x0 = 2 then some ([mI 16], h) else (if x0 = 3 then some ([mI 99], h) else (if x0 = 4 then some ([mI 30], h) else (if x0 = 5 then some ([mI 20], h) else some ([mI 9], h)))))) := (C_in xs d 116 p_M_mostOf _ h).trans ((X_blk xs d k_M_mostOf [] 17 0 _ _ h).trans rfl)
set_option maxRecDepth 100000 in
theorem c_M_aPerson (xs : List Int) (d : Nat) (h : mM) : C xs d 117 0 [mR 130] h = cI (C xs d 111 0 [mI (h 131 1656)] h) (fun v1 h1 => (if inI (1656 + v1) then (if (h 131 1656) = (7 : Int) then cI (C xs d 101 0 [mR 130, mI 6] h1) (fun v14 h14 => (if 0 ≤ v14 ∧ v14 ≤ 1 then some ([mI v14], h14) else none)) else cV (C xs d 98 0 [mR 130] h1) (fun h2 => cI (C xs d 106 0 [mR 130, mC 6] h2) (fun v3 h3 => (if v3 = (0 : Int) then cI (C xs d 101 0 [mR 130, mI 2] h3) (fun v13 h13 => (if 0 ≤ v13 ∧ v13 ≤ 1 then some ([mI v13], h13) else none)) else cI (C xs d 108 0 [mR 130, mI 28, mI (h 131 1656)] h3) (fun v4 h4 => (if v4 = (-1 : Int) then (if inI (28 + (h 131 1656)) then cL (C xs d 107 0 [mR 130] h4) (fun v5 h5 => (if inA (28 + (h 131 1656)) 42 then cV (C xs d 98 0 [mR 130] (upM h5 132 (28 + (h 131 1656)) v5)) (fun h6 => cI (C xs d 104 0 [mR 130, mC 6, mI 8] h6) (fun v7 h7 => (if v7 = (0 : Int) then some ([mI 0], h7) else cI (C xs d 105 0 [mR 130, mI (1656 + v1), mI 0, mI 59] h7) (fun v8 h8 => (if v8 = (0 : Int) then some ([mI 0], h8) else (if inI ((1656 + v1) + 1) then cI (C xs d 114 0 [mR 130, mI 9, mI ((1656 + v1) + 1), mI 0, mI 9, mI 1] h8) (fun v9 h9 => (if v9 = (0 : Int) then some ([mI 0], h9) else (if inI ((1656 + v1) + 2) then cI (C xs d 114 0 [mR 130, mI 10, mI ((1656 + v1) + 2), mI 0, mI 99, mI 0] h9) (fun v10 h10 => (if v10 = (0 : Int) then some ([mI 0], h10) else (if inI ((1656 + v1) + 3) then cI (C xs d 114 0 [mR 130, mI 11, mI ((1656 + v1) + 3), mI 0, mI 9, mI 2] h10) (fun v11 h11 => (if v11 = (0 : Int) then some ([mI 0], h11) else (if inI ((1656 + v1) + 4) then (if inA ((1656 + v1) + 4) 2346 then (if inI (((upM h11 131 ((1656 + v1) + 4) (-1)) 131 1656) + 1) then some ([mI 1], (upM (upM h11 131 ((1656 + v1) + 4) (-1)) 131 1656 (((upM h11 131 ((1656 + v1) + 4) (-1)) 131 1656) + 1))) else none) else none) else none))) else none))) else none))) else none)))))) else none)) else none) else cI (C xs d 101 0 [mR 130, mI 3] h4) (fun v12 h12 => (if 0 ≤ v12 ∧ v12 ≤ 1 then some ([mI v12], h12) else none)))))))) else none)) := (C_in xs d 117 p_M_aPerson _ h).trans ((X_blk xs d k_M_aPerson [] 114 0 _ _ h).trans rfl)
set_option maxRecDepth 100000 in
theorem c_M_aToast (xs : List Int) (d : Nat) (h : mM) : C xs d 118 0 [mR 130] h = cV (C xs d 98 0 [mR 130] h) (fun h1 => cI (C xs d 106 0 [mR 130, mC 6] h1) (fun v2 h2 => (if v2 = (0 : Int) then cI (C xs d 101 0 [mR 130, mI 2] h2) (fun v16 h16 => (if 0 ≤ v16 ∧ v16 ≤ 1 then some ([mI v16], h16) else none)) else cI (C xs d 108 0 [mR 130, mI 28, mI (h2 131 1656)] h2) (fun v3 h3 => (if v3 = (-1 : Int) then cI (C xs d 101 0 [mR 130, mI 3] h3) (fun v15 h15 => (if 0 ≤ v15 ∧ v15 ≤ 1 then some ([mI v15], h15) else none)) else cI (C xs d 111 0 [mI v3] h3) (fun v4 h4 => (if inI (1656 + v4) then (if inI ((1656 + v4) + 4) then (if inA ((1656 + v4) + 4) 2346 then (if (h4 131 ((1656 + v4) + 4)) = (-1 : Int) then cV (C xs d 98 0 [mR 130] h4) (fun h5 => cI (C xs d 104 0 [mR 130, mC 6, mI 12] h5) (fun v6 h6 => (if v6 = (0 : Int) then some ([mI 0], h6) else cI (C xs d 106 0 [mR 130, mC 6] h6) (fun v7 h7 => (if v7 = (0 : Int) then cI (C xs d 101 0 [mR 130, mI 2] h7) (fun v13 h13 => (if 0 ≤ v13 ∧ v13 ≤ 1 then some ([mI v13], h13) else none)) else cI (C xs d 108 0 [mR 130, mI 28, mI (h7 131 1656)] h7) (fun v8 h8 => (if v8 = (-1 : Int) then cI (C xs d 101 0 [mR 130, mI 3] (upM h8 131 2062 v8)) (fun v12 h12 => (if 0 ≤ v12 ∧ v12 ≤ 1 then some ([mI v12], h12) else none)) else (if v8 = v3 then cI (C xs d 101 0 [mR 130, mI 5] (upM h8 131 2062 v8)) (fun v11 h11 => (if 0 ≤ v11 ∧ v11 ≤ 1 then some ([mI v11], h11) else none)) else cI (C xs d 111 0 [mI v3] (upM h8 131 2062 v8)) (fun v9 h9 => (if inI (1656 + v9) then (if inI ((1656 + v9) + 4) then (if inA ((1656 + v9) + 4) 2346 then cV (C xs d 98 0 [mR 130] (upM h9 131 ((1656 + v9) + 4) (h9 131 2062))) (fun h10 => some ([mI 1], h10)) else none) else none) else none)))))))))) else cI (C xs d 101 0 [mR 130, mI 5] h4) (fun v14 h14 => (if 0 ≤ v14 ∧ v14 ≤ 1 then some ([mI v14], h14) else none))) else none) else none) else none))))))) := (C_in xs d 118 p_M_aToast _ h).trans ((X_blk xs d k_M_aToast [] 112 0 _ _ h).trans rfl)
theorem c_M_mapPart (xs : List Int) (d : Nat) (h : mM) : C xs d 119 0 [mR 130] h = cI (C xs d 100 0 [mR 130, mC 6] h) (fun v1 h1 => (if v1 < (0 : Int) then cI (C xs d 101 0 [mR 130, mI 2] h1) (fun v2 h2 => (if 0 ≤ v2 ∧ v2 ≤ 1 then some ([mI v2], h2) else none)) else (if (7 : Int) < v1 then cI (C xs d 101 0 [mR 130, mI 2] h1) (fun v5 h5 => (if 0 ≤ v5 ∧ v5 ≤ 1 then some ([mI v5], h5) else none)) else (if (5 : Int) < v1 then X xs d k_M_mapPart 26 [mR 130, mI v1] [] h1 else cI (C xs d 112 0 [mR 130, mI (h1 130 20), mI v1] h1) (fun v3 h3 => (if v3 = (0 : Int) then X xs d k_M_mapPart 26 [mR 130, mI v1] [] h3 else cI (C xs d 101 0 [mR 130, mI 5] h3) (fun v4 h4 => (if 0 ≤ v4 ∧ v4 ≤ 1 then some ([mI v4], h4) else none)))))))) := (C_in xs d 119 p_M_mapPart _ h).trans ((X_blk xs d k_M_mapPart [26] 93 0 _ _ h).trans rfl)
theorem e_M_mapPart_26 (xs : List Int) (d : Nat) (x1 : Int) (h : mM) : X xs d k_M_mapPart 26 [mR 130, mI x1] [] h = (if x1 = (6 : Int) then cI (C xs d 117 0 [mR 130] h) (fun v8 h8 => (if v8 = (0 : Int) then some ([mI 0], h8) else cI (C xs d 103 0 [mR 130, mI 59] h8) (fun v9 h9 => (if v9 = (0 : Int) then some ([mI 0], h9) else some ([mI 1], h9))))) else (if (6 : Int) < x1 then cI (C xs d 118 0 [mR 130] h) (fun v6 h6 => (if v6 = (0 : Int) then some ([mI 0], h6) else cI (C xs d 103 0 [mR 130, mI 59] h6) (fun v7 h7 => (if v7 = (0 : Int) then some ([mI 0], h7) else some ([mI 1], h7))))) else cV (C xs d 98 0 [mR 130] (upM h 130 20 (fOr (h 130 20) (fShl 1 x1)))) (fun h1 => (if inI (1656 + x1) then (if inI ((1656 + x1) + 1) then (if inI (x1 + 1) then cI (C xs d 115 0 [mI (x1 + 1)] h1) (fun v2 h2 => (if inI (x1 + 1) then cI (C xs d 116 0 [mI (x1 + 1)] h2) (fun v3 h3 => cI (C xs d 105 0 [mR 130, mI ((1656 + x1) + 1), mI v2, mI v3] h3) (fun v4 h4 => (if v4 = (0 : Int) then some ([mI 0], h4) else cI (C xs d 103 0 [mR 130, mI 59] h4) (fun v5 h5 => (if v5 = (0 : Int) then some ([mI 0], h5) else some ([mI 1], h5)))))) else none)) else none) else none) else none)))) := ((X_blk xs d k_M_mapPart [26] 93 26 _ _ h).trans rfl)
theorem c_M_map (xs : List Int) (d : Nat) (x1 : Int) (h : mM) : C xs d 120 0 [mR 130, mI x1] h = cI (C xs d 102 0 [mR 130, mI x1, mI 900] h) (fun v1 h1 => (if v1 = (0 : Int) then cI (C xs d 82 0 [mR 130, mI 1] h1) (fun v3 h3 => some ([mI v3], h3)) else cV (C xs d 77 0 [mR 130, mI 1656] h1) (fun h2 => X xs d k_M_map 17 [mR 130, mI x1, mI 1, mC 0] [] (upM h2 130 20 0)))) := (C_in xs d 120 p_M_map _ h).trans ((X_blk xs d k_M_map [17, 26, 31, 48] 75 0 _ _ h).trans rfl)
theorem e_M_map_17 (xs : List Int) (d : Nat) (x1 x2 : Int) (h : mM) : X xs d k_M_map 17 [mR 130, mI x1, mI x2, mC 0] [] h = (if x2 = (0 : Int) then X xs d k_M_map 26 [mR 130, mI x1, mI x2, mC 0] [] h else (if (h 130 12) = (0 : Int) then X xs d k_M_map 26 [mR 130, mI x1, mI x2, mC 0] [] h else cI (C xs d 119 0 [mR 130] h) (fun v1 h1 => X xs d k_M_map 17 [mR 130, mI x1, mI v1, mC 0] [] h1))) := ((X_blk xs d k_M_map [17, 26, 31, 48] 75 17 _ _ h).trans rfl)
theorem e_M_map_26 (xs : List Int) (d : Nat) (x1 x2 : Int) (h : mM) : X xs d k_M_map 26 [mR 130, mI x1, mI x2, mC 0] [] h = (if (h 130 18) = (0 : Int) then X xs d k_M_map 31 [mR 130, mI x1, mI x2, mI 0] [] h else cI (C xs d 110 0 [mR 130, mI (h 131 0)] h) (fun v1 h1 => some ([mI v1], h1))) := ((X_blk xs d k_M_map [17, 26, 31, 48] 75 26 _ _ h).trans rfl)
theorem e_M_map_31 (xs : List Int) (d : Nat) (x1 x2 x3 : Int) (h : mM) : X xs d k_M_map 31 [mR 130, mI x1, mI x2, mI x3] [] h = (if x3 < (414 : Int) then (if inI (1656 + x3) then (if inA (1656 + x3) 2346 then (if inA x3 2346 then (if inI (x3 + 1) then X xs d k_M_map 31 [mR 130, mI x1, mI x2, mI (x3 + 1)] [] (upM h 131 x3 (h 131 (1656 + x3))) else none) else none) else none) else none) else X xs d k_M_map 48 [mR 130, mI x1, mI x2, mI 0] [] h) := ((X_blk xs d k_M_map [17, 26, 31, 48] 75 31 _ _ h).trans rfl)
theorem e_M_map_48 (xs : List Int) (d : Nat) (x1 x2 x3 : Int) (h : mM) : X xs d k_M_map 48 [mR 130, mI x1, mI x2, mI x3] [] h = (if x3 < (7 : Int) then (if inI (28 + x3) then (if inA (28 + x3) 42 then (if inA x3 42 then (if inI (x3 + 1) then X xs d k_M_map 48 [mR 130, mI x1, mI x2, mI (x3 + 1)] [] (upM h 132 x3 (h 132 (28 + x3))) else none) else none) else none) else none) else cI (C xs d 110 0 [mR 130, mI (h 131 0)] h) (fun v1 h1 => some ([mI v1], h1))) := ((X_blk xs d k_M_map [17, 26, 31, 48] 75 48 _ _ h).trans rfl)
theorem c_M_personTo (xs : List Int) (d : Nat) (x1 : Int) (h : mM) : C xs d 121 0 [mR 130, mI x1] h = cI (C xs d 106 0 [mR 130, mC 6] h) (fun v1 h1 => (if v1 = (0 : Int) then cI (C xs d 101 0 [mR 130, mI 2] h1) (fun v5 h5 => (if 0 ≤ v5 ∧ v5 ≤ 1 then some ([mI v5], h5) else none)) else cI (C xs d 108 0 [mR 130, mI 0, mI (h1 131 0)] h1) (fun v2 h2 => (if inA x1 2346 then (if inA x1 2346 then (if ((upM h2 131 x1 v2) 131 x1) = (-1 : Int) then cI (C xs d 101 0 [mR 130, mI 3] (upM h2 131 x1 v2)) (fun v4 h4 => (if 0 ≤ v4 ∧ v4 ≤ 1 then some ([mI v4], h4) else none)) else cV (C xs d 98 0 [mR 130] (upM h2 131 x1 v2)) (fun h3 => some ([mI 1], h3))) else none) else none)))) := (C_in xs d 121 p_M_personTo _ h).trans ((X_blk xs d k_M_personTo [] 38 0 _ _ h).trans rfl)
theorem c_M_test (xs : List Int) (d : Nat) (x1 : Int) (h : mM) : C xs d 122 0 [mR 130, mI x1] h = cI (C xs d 100 0 [mR 130, mC 6] h) (fun v1 h1 => (if v1 = (22 : Int) then X xs d k_M_test 17 [mR 130, mI x1, mI v1] [] h1 else (if v1 = (10 : Int) then X xs d k_M_test 17 [mR 130, mI x1, mI v1] [] h1 else (if v1 = (11 : Int) then X xs d k_M_test 17 [mR 130, mI x1, mI v1] [] h1 else cI (C xs d 101 0 [mR 130, mI 2] h1) (fun v2 h2 => (if 0 ≤ v2 ∧ v2 ≤ 1 then some ([mI v2], h2) else none)))))) := (C_in xs d 122 p_M_test _ h).trans ((X_blk xs d k_M_test [17, 55] 83 0 _ _ h).trans rfl)
theorem e_M_test_17 (xs : List Int) (d : Nat) (x1 x2 : Int) (h : mM) : X xs d k_M_test 17 [mR 130, mI x1, mI x2] [] h = (if inI (1800 + x2) then (if inA x1 2346 then cV (C xs d 98 0 [mR 130] (upM h 131 x1 (1800 + x2))) (fun h1 => (if inI (x1 + 1) then cI (C xs d 121 0 [mR 130, mI (x1 + 1)] h1) (fun v2 h2 => (if v2 = (0 : Int) then some ([mI 0], h2) else (if x2 = (22 : Int) then some ([mI 1], h2) else cI (C xs d 99 0 [mR 130, mI 60] h2) (fun v3 h3 => (if v3 = (0 : Int) then cI (C xs d 99 0 [mR 130, mI 62] h3) (fun v4 h4 => (if v4 = (0 : Int) then cI (C xs d 99 0 [mR 130, mI 61] h4) (fun v5 h5 => (if v5 = (0 : Int) then cI (C xs d 101 0 [mR 130, mI 2] h5) (fun v6 h6 => (if 0 ≤ v6 ∧ v6 ≤ 1 then some ([mI v6], h6) else none)) else X xs d k_M_test 55 [mR 130, mI x1, mI x2] [] h5)) else X xs d k_M_test 55 [mR 130, mI x1, mI x2] [] h4)) else X xs d k_M_test 55 [mR 130, mI x1, mI x2] [] h3))))) else none)) else none) else none) := ((X_blk xs d k_M_test [17, 55] 83 17 _ _ h).trans rfl)
theorem e_M_test_55 (xs : List Int) (d : Nat) (x1 x2 : Int) (h : mM) : X xs d k_M_test 55 [mR 130, mI x1, mI x2] [] h = (if inI (x1 + 5) then (if inA (x1 + 5) 2346 then cV (C xs d 98 0 [mR 130] (upM h 131 (x1 + 5) (h 130 15))) (fun h1 => (if inI (x1 + 2) then (if x2 = (10 : Int) then cI (C xs d 105 0 [mR 130, mI (x1 + 2), mI 0, mI 99] h1) (fun v3 h3 => (if 0 ≤ v3 ∧ v3 ≤ 1 then some ([mI v3], h3) else none)) else cI (C xs d 105 0 [mR 130, mI (x1 + 2), mI 0, mI 9] h1) (fun v2 h2 => (if 0 ≤ v2 ∧ v2 ≤ 1 then some ([mI v2], h2) else none))) else none)) else none) else none) := ((X_blk xs d k_M_test [17, 55] 83 55 _ _ h).trans rfl)
theorem c_M_timeOrder (xs : List Int) (d : Nat) (x1 x2 : Int) (h : mM) : C xs d 123 0 [mR 130, mI x1, mI x2] h = (if x1 = 13 then (if inI (x2 + 1) then cI (C xs d 121 0 [mR 130, mI (x2 + 1)] h) (fun v6 h6 => (if 0 ≤ v6 ∧ v6 ≤ 1 then some ([mI v6], h6) else none)) else none) else (if x1 = 14 then (if inI (x2 + 1) then cI (C xs d 105 0 [mR 130, mI (x2 + 1), mI 1, mI 20] h) (fun v5 h5 => (if 0 ≤ v5 ∧ v5 ≤ 1 then some ([mI v5], h5) else none)) else none) else (if x1 = 15 then some ([mI 1], h) else (if x1 = 16 then (if inI (x2 + 1) then cI (C xs d 121 0 [mR 130, mI (x2 + 1)] h) (fun v3 h3 => (if v3 = (0 : Int) then some ([mI 0], h3) else (if inI (x2 + 2) then cI (C xs d 105 0 [mR 130, mI (x2 + 2), mI 0, mI 9] h3) (fun v4 h4 => (if v4 = (0 : Int) then some ([mI 0], h4) else some ([mI 1], h4))) else none))) else none) else (if x1 = 17 then some ([mI 1], h) else (if x1 = 18 then cI (C xs d 122 0 [mR 130, mI x2] h) (fun v2 h2 => (if 0 ≤ v2 ∧ v2 ≤ 1 then some ([mI v2], h2) else none)) else (if x1 = 19 then (if inI (x2 + 1) then cI (C xs d 105 0 [mR 130, mI (x2 + 1), mI 1, mI 99] h) (fun v1 h1 => (if 0 ≤ v1 ∧ v1 ≤ 1 then some ([mI v1], h1) else none)) else none) else some ([mI 1], h)))))))) := (C_in xs d 123 p_M_timeOrder _ h).trans ((X_blk xs d k_M_timeOrder [] 53 0 _ _ h).trans rfl)
theorem c_M_timeStep (xs : List Int) (d : Nat) (h : mM) : C xs d 124 0 [mR 130] h = cI (C xs d 100 0 [mR 130, mC 6] h) (fun v1 h1 => (if inI (6 * (h1 131 1664)) then (if inI (1702 + (6 * (h1 131 1664))) then (if v1 = (18 : Int) then X xs d k_M_timeStep 21 [mR 130, mI v1, mI (h1 131 1664), mI (1702 + (6 * (h1 131 1664))), mC 0, mC 0] [] h1 else (if v1 = (19 : Int) then X xs d k_M_timeStep 21 [mR 130, mI v1, mI (h1 131 1664), mI (1702 + (6 * (h1 131 1664))), mC 0, mC 0] [] h1 else X xs d k_M_timeStep 24 [mR 130, mI v1, mI (h1 131 1664), mI (1702 + (6 * (h1 131 1664))), mC 0, mC 0] [mI 0] h1)) else none) else none)) := (C_in xs d 124 p_M_timeStep _ h).trans ((X_blk xs d k_M_timeStep [21, 24, 41, 52, 62, 71, 80, 123] 167 0 _ _ h).trans rfl)
theorem e_M_timeStep_21 (xs : List Int) (d : Nat) (x1 x2 x3 : Int) (h : mM) : X xs d k_M_timeStep 21 [mR 130, mI x1, mI x2, mI x3, mC 0, mC 0] [] h = X xs d k_M_timeStep 24 [mR 130, mI x1, mI x2, mI x3, mC 0, mC 0] [mI 1] h := ((X_blk xs d k_M_timeStep [21, 24, 41, 52, 62, 71, 80, 123] 167 21 _ _ h).trans rfl)
theorem e_M_timeStep_24 (xs : List Int) (d : Nat) (x1 x2 x3 s0 : Int) (h : mM) : X xs d k_M_timeStep 24 [mR 130, mI x1, mI x2, mI x3, mC 0, mC 0] [mI s0] h = (if x1 < (13 : Int) then cI (C xs d 101 0 [mR 130, mI 2] h) (fun v1 h1 => (if 0 ≤ v1 ∧ v1 ≤ 1 then some ([mI v1], h1) else none)) else (if (21 : Int) < x1 then cI (C xs d 101 0 [mR 130, mI 2] h) (fun v2 h2 => (if 0 ≤ v2 ∧ v2 ≤ 1 then some ([mI v2], h2) else none)) else (if x1 = (20 : Int) then (if (h 130 22) = (0 : Int) then cI (C xs d 101 0 [mR 130, mI 2] h) (fun v3 h3 => (if 0 ≤ v3 ∧ v3 ≤ 1 then some ([mI v3], h3) else none)) else X xs d k_M_timeStep 41 [mR 130, mI x1, mI x2, mI x3, mI s0, mC 0] [] h) else X xs d k_M_timeStep 41 [mR 130, mI x1, mI x2, mI x3, mI s0, mC 0] [] h))) := ((X_blk xs d k_M_timeStep [21, 24, 41, 52, 62, 71, 80, 123] 167 24 _ _ h).trans rfl)
theorem e_M_timeStep_41 (xs : List Int) (d : Nat) (x1 x2 x3 x4 : Int) (h : mM) : X xs d k_M_timeStep 41 [mR 130, mI x1, mI x2, mI x3, mI x4, mC 0] [] h = (if x1 = (20 : Int) then X xs d k_M_timeStep 52 [mR 130, mI x1, mI x2, mI x3, mI x4, mC 0] [] h else (if (h 130 23) = (30 : Int) then cI (C xs d 101 0 [mR 130, mI 6] h) (fun v1 h1 => (if 0 ≤ v1 ∧ v1 ≤ 1 then some ([mI v1], h1) else none)) else X xs d k_M_timeStep 52 [mR 130, mI x1, mI x2, mI x3, mI x4, mC 0] [] h)) := ((X_blk xs d k_M_timeStep [21, 24, 41, 52, 62, 71, 80, 123] 167 41 _ _ h).trans rfl)
theorem e_M_timeStep_52 (xs : List Int) (d : Nat) (x1 x2 x3 x4 : Int) (h : mM) : X xs d k_M_timeStep 52 [mR 130, mI x1, mI x2, mI x3, mI x4, mC 0] [] h = (if x4 = (0 : Int) then X xs d k_M_timeStep 62 [mR 130, mI x1, mI x2, mI x3, mI x4, mC 0] [] h else (if (h 130 22) = (3 : Int) then cI (C xs d 101 0 [mR 130, mI 7] h) (fun v1 h1 => (if 0 ≤ v1 ∧ v1 ≤ 1 then some ([mI v1], h1) else none)) else X xs d k_M_timeStep 62 [mR 130, mI x1, mI x2, mI x3, mI x4, mC 0] [] h)) := ((X_blk xs d k_M_timeStep [21, 24, 41, 52, 62, 71, 80, 123] 167 52 _ _ h).trans rfl)
theorem e_M_timeStep_62 (xs : List Int) (d : Nat) (x1 x2 x3 x4 : Int) (h : mM) : X xs d k_M_timeStep 62 [mR 130, mI x1, mI x2, mI x3, mI x4, mC 0] [] h = (if x1 = (20 : Int) then X xs d k_M_timeStep 71 [mR 130, mI x1, mI x2, mI x3, mI x4, mC 0] [mI 0, mI (h 130 23), mR 130] h else X xs d k_M_timeStep 71 [mR 130, mI x1, mI x2, mI x3, mI x4, mC 0] [mI 1, mI (h 130 23), mR 130] h) := ((X_blk xs d k_M_timeStep [21, 24, 41, 52, 62, 71, 80, 123] 167 62 _ _ h).trans rfl)
theorem e_M_timeStep_71 (xs : List Int) (d : Nat) (x1 x2 x3 x4 s2 s1 : Int) (h : mM) : X xs d k_M_timeStep 71 [mR 130, mI x1, mI x2, mI x3, mI x4, mC 0] [mI s2, mI s1, mR 130] h = (if inI (s1 + s2) then (if inA x3 2346 then X xs d k_M_timeStep 80 [mR 130, mI x1, mI x2, mI x3, mI x4, mI 1] [] (upM (upM h 130 23 (s1 + s2)) 131 x3 x1) else none) else none) := ((X_blk xs d k_M_timeStep [21, 24, 41, 52, 62, 71, 80, 123] 167 71 _ _ h).trans rfl)
theorem e_M_timeStep_80 (xs : List Int) (d : Nat) (x1 x2 x3 x4 x5 : Int) (h : mM) : X xs d k_M_timeStep 80 [mR 130, mI x1, mI x2, mI x3, mI x4, mI x5] [] h = (if x5 < (6 : Int) then (if inI (x3 + x5) then (if inA (x3 + x5) 2346 then (if inI (x5 + 1) then X xs d k_M_timeStep 80 [mR 130, mI x1, mI x2, mI x3, mI x4, mI (x5 + 1)] [] (upM h 131 (x3 + x5) 0) else none) else none) else none) else (if inI ((h 131 1664) + 1) then cV (C xs d 98 0 [mR 130] (upM h 131 1664 ((h 131 1664) + 1))) (fun h1 => cI (C xs d 123 0 [mR 130, mI x1, mI x3] h1) (fun v2 h2 => (if v2 = (0 : Int) then some ([mI 0], h2) else (if x4 = (0 : Int) then X xs d k_M_timeStep 123 [mR 130, mI x1, mI x2, mI x3, mI x4, mI x5] [] h2 else (if inA (h2 130 22) 3 then (if inI ((h2 130 22) + 1) then X xs d k_M_timeStep 123 [mR 130, mI x1, mI x2, mI x3, mI x4, mI x5] [] (upM (upM h2 138 (h2 130 22) x2) 130 22 ((h2 130 22) + 1)) else none) else none))))) else none)) := ((X_blk xs d k_M_timeStep [21, 24, 41, 52, 62, 71, 80, 123] 167 80 _ _ h).trans rfl)
theorem e_M_timeStep_123 (xs : List Int) (d : Nat) (x1 x2 x3 x4 x5 : Int) (h : mM) : X xs d k_M_timeStep 123 [mR 130, mI x1, mI x2, mI x3, mI x4, mI x5] [] h = (if x1 = (20 : Int) then (if inI ((h 130 22) - 1) then (if inI (x3 + 4) then (if inA ((h 130 22) - 1) 3 then (if inA (x3 + 4) 2346 then (if inA ((h 130 22) - 1) 3 then (if inI (6 * (h 138 ((h 130 22) - 1))) then (if inI (1702 + (6 * (h 138 ((h 130 22) - 1)))) then (if inI ((1702 + (6 * (h 138 ((h 130 22) - 1)))) + 4) then (if inA ((1702 + (6 * (h 138 ((h 130 22) - 1)))) + 4) 2346 then cI (C xs d 103 0 [mR 130, mI 59] (upM (upM (upM h 130 22 ((h 130 22) - 1)) 131 (x3 + 4) (h 138 ((h 130 22) - 1))) 131 ((1702 + (6 * (h 138 ((h 130 22) - 1)))) + 4) x2)) (fun v2 h2 => (if 0 ≤ v2 ∧ v2 ≤ 1 then some ([mI v2], h2) else none)) else none) else none) else none) else none) else none) else none) else none) else none) else none) else cI (C xs d 103 0 [mR 130, mI 59] h) (fun v1 h1 => (if 0 ≤ v1 ∧ v1 ≤ 1 then some ([mI v1], h1) else none))) := ((X_blk xs d k_M_timeStep [21, 24, 41, 52, 62, 71, 80, 123] 167 123 _ _ h).trans rfl)
theorem c_M_times (xs : List Int) (d : Nat) (x1 : Int) (h : mM) : C xs d 125 0 [mR 130, mI x1] h = cI (C xs d 102 0 [mR 130, mI x1, mI 300] h) (fun v1 h1 => (if v1 = (0 : Int) then cI (C xs d 82 0 [mR 130, mI 1] h1) (fun v2 h2 => some ([mI v2], h2)) else X xs d k_M_times 22 [mR 130, mI x1, mI 1, mC 0] [] (upM (upM (upM h1 131 1664 0) 130 22 0) 130 23 0))) := (C_in xs d 125 p_M_times _ h).trans ((X_blk xs d k_M_times [22, 31, 41, 54] 79 0 _ _ h).trans rfl)
theorem e_M_times_22 (xs : List Int) (d : Nat) (x1 x2 : Int) (h : mM) : X xs d k_M_times 22 [mR 130, mI x1, mI x2, mC 0] [] h = (if x2 = (0 : Int) then X xs d k_M_times 31 [mR 130, mI x1, mI x2, mC 0] [] h else (if (h 130 12) = (0 : Int) then X xs d k_M_times 31 [mR 130, mI x1, mI x2, mC 0] [] h else cI (C xs d 124 0 [mR 130] h) (fun v1 h1 => X xs d k_M_times 22 [mR 130, mI x1, mI v1, mC 0] [] h1))) := ((X_blk xs d k_M_times [22, 31, 41, 54] 79 22 _ _ h).trans rfl)
theorem e_M_times_31 (xs : List Int) (d : Nat) (x1 x2 : Int) (h : mM) : X xs d k_M_times 31 [mR 130, mI x1, mI x2, mC 0] [] h = (if (h 130 18) = (0 : Int) then (if (0 : Int) < (h 130 22) then cI (C xs d 101 0 [mR 130, mI 2] h) (fun v1 h1 => X xs d k_M_times 41 [mR 130, mI x1, mI x2, mC 0] [] h1) else X xs d k_M_times 41 [mR 130, mI x1, mI x2, mC 0] [] h) else X xs d k_M_times 41 [mR 130, mI x1, mI x2, mC 0] [] h) := ((X_blk xs d k_M_times [22, 31, 41, 54] 79 31 _ _ h).trans rfl)
theorem e_M_times_41 (xs : List Int) (d : Nat) (x1 x2 : Int) (h : mM) : X xs d k_M_times 41 [mR 130, mI x1, mI x2, mC 0] [] h = (if (h 130 18) = (0 : Int) then X xs d k_M_times 54 [mR 130, mI x1, mI x2, mI 46] [] (upM h 131 8 (h 131 1664)) else cI (C xs d 110 0 [mR 130, mI (h 130 23)] h) (fun v1 h1 => some ([mI v1], h1))) := ((X_blk xs d k_M_times [22, 31, 41, 54] 79 41 _ _ h).trans rfl)
theorem e_M_times_54 (xs : List Int) (d : Nat) (x1 x2 x3 : Int) (h : mM) : X xs d k_M_times 54 [mR 130, mI x1, mI x2, mI x3] [] h = (if x3 < (406 : Int) then (if inI (1656 + x3) then (if inA (1656 + x3) 2346 then (if inA x3 2346 then (if inI (x3 + 1) then X xs d k_M_times 54 [mR 130, mI x1, mI x2, mI (x3 + 1)] [] (upM h 131 x3 (h 131 (1656 + x3))) else none) else none) else none) else none) else cI (C xs d 110 0 [mR 130, mI (h 130 23)] h) (fun v1 h1 => some ([mI v1], h1))) := ((X_blk xs d k_M_times [22, 31, 41, 54] 79 54 _ _ h).trans rfl)
theorem c_M_isPerson (xs : List Int) (d : Nat) (x1 : Int) (h : mM) : C xs d 126 0 [mR 130, mI x1] h = (if x1 < (0 : Int) then some ([mI 0], h) else (if x1 < (h 131 0) then some ([mI 1], h) else some ([mI 0], h))) := (C_in xs d 126 p_M_isPerson _ h).trans ((X_blk xs d k_M_isPerson [] 17 0 _ _ h).trans rfl)
theorem c_M_areTwo (xs : List Int) (d : Nat) (x1 x2 : Int) (h : mM) : C xs d 127 0 [mR 130, mI x1, mI x2] h = cI (C xs d 126 0 [mR 130, mI x1] h) (fun v1 h1 => (if v1 = (0 : Int) then some ([mI 0], h1) else cI (C xs d 126 0 [mR 130, mI x2] h1) (fun v2 h2 => (if v2 = (0 : Int) then some ([mI 0], h2) else (if x1 = x2 then some ([mI 0], h2) else some ([mI 1], h2)))))) := (C_in xs d 127 p_M_areTwo _ h).trans ((X_blk xs d k_M_areTwo [] 20 0 _ _ h).trans rfl)
theorem c_M_bits (xs : List Int) (d : Nat) (x0 : Int) (h : mM) : C xs d 128 0 [mI x0] h = X xs d k_M_bits 4 [mI x0, mI 0, mI x0] [] h := (C_in xs d 128 p_M_bits _ h).trans ((X_blk xs d k_M_bits [4] 21 0 _ _ h).trans rfl)
theorem e_M_bits_4 (xs : List Int) (d : Nat) (x0 x1 x2 : Int) (h : mM) : X xs d k_M_bits 4 [mI x0, mI x1, mI x2] [] h = (if x2 = (0 : Int) then some ([mI x1], h) else (if inI (x1 + 1) then (if inI (x2 - 1) then X xs d k_M_bits 4 [mI x0, mI (x1 + 1), mI (fAnd x2 (x2 - 1))] [] h else none) else none)) := ((X_blk xs d k_M_bits [4] 21 4 _ _ h).trans rfl)
theorem c_M_personOf (xs : List Int) (d : Nat) (x1 x2 : Int) (h : mM) : C xs d 129 0 [mR 130, mI x1, mI x2] h = cI (C xs d 111 0 [mI x1] h) (fun v1 h1 => (if inI (v1 + x2) then (if inA (v1 + x2) 2346 then some ([mI (h1 131 (v1 + x2))], h1) else none) else none)) := (C_in xs d 129 p_M_personOf _ h).trans ((X_blk xs d k_M_personOf [] 13 0 _ _ h).trans rfl)
theorem c_M_whomOf (xs : List Int) (d : Nat) (x1 : Int) (h : mM) : C xs d 130 0 [mR 130, mI x1] h = cI (C xs d 129 0 [mR 130, mI x1, mI 4] h) (fun v1 h1 => some ([mI v1], h1)) := (C_in xs d 130 p_M_whomOf _ h).trans ((X_blk xs d k_M_whomOf [] 10 0 _ _ h).trans rfl)
theorem c_M_farBetween (xs : List Int) (d : Nat) (x1 x2 : Int) (h : mM) : C xs d 131 0 [mR 130, mI x1, mI x2] h = cI (C xs d 129 0 [mR 130, mI x1, mI 0] h) (fun v1 h1 => cI (C xs d 129 0 [mR 130, mI x2, mI 0] h1) (fun v2 h2 => (if inI (v1 - v2) then cI (C xs d 129 0 [mR 130, mI x2, mI 0] h2) (fun v3 h3 => cI (C xs d 129 0 [mR 130, mI x1, mI 0] h3) (fun v4 h4 => (if inI (v3 - v4) then some ([mI (max (v1 - v2) (v3 - v4))], h4) else none))) else none))) := (C_in xs d 131 p_M_farBetween _ h).trans ((X_blk xs d k_M_farBetween [] 25 0 _ _ h).trans rfl)
theorem c_M_warmBy (xs : List Int) (d : Nat) (x0 x1 x2 x3 : Int) (h : mM) : C xs d 132 0 [mI x0, mI x1, mI x2, mI x3] h = (if inI (x0 * x1) then (if 0 ≤ x2 ∧ 0 < x3 then (if inI ((x0 * x1) - (x2 / x3)) then some ([mI (max 0 ((x0 * x1) - (x2 / x3)))], h) else none) else none) else none) := (C_in xs d 132 p_M_warmBy _ h).trans ((X_blk xs d k_M_warmBy [] 15 0 _ _ h).trans rfl)
theorem c_M_warmOf (xs : List Int) (d : Nat) (x1 : Int) (h : mM) : C xs d 133 0 [mR 130, mI x1] h = cI (C xs d 129 0 [mR 130, mI x1, mI 1] h) (fun v1 h1 => cI (C xs d 130 0 [mR 130, mI x1] h1) (fun v2 h2 => cI (C xs d 131 0 [mR 130, mI x1, mI v2] h2) (fun v3 h3 => cI (C xs d 132 0 [mI (h 131 5), mI v1, mI v3, mI (h3 131 6)] h3) (fun v4 h4 => some ([mI v4], h4))))) := (C_in xs d 133 p_M_warmOf _ h).trans ((X_blk xs d k_M_warmOf [] 25 0 _ _ h).trans rfl)
theorem c_M_isLit (xs : List Int) (d : Nat) (x1 : Int) (h : mM) : C xs d 134 0 [mR 130, mI x1] h = cI (C xs d 129 0 [mR 130, mI x1, mI 2] h) (fun v1 h1 => (if v1 < (h1 131 3) then some ([mI 0], h1) else some ([mI 1], h1))) := (C_in xs d 134 p_M_isLit _ h).trans ((X_blk xs d k_M_isLit [] 18 0 _ _ h).trans rfl)
theorem c_M_areLit (xs : List Int) (d : Nat) (h : mM) : C xs d 135 0 [mR 130] h = X xs d k_M_areLit 4 [mR 130, mI 0, mI 0] [] h := (C_in xs d 135 p_M_areLit _ h).trans ((X_blk xs d k_M_areLit [4, 20] 31 0 _ _ h).trans rfl)
theorem e_M_areLit_4 (xs : List Int) (d : Nat) (x1 x2 : Int) (h : mM) : X xs d k_M_areLit 4 [mR 130, mI x1, mI x2] [] h = (if x2 < (h 131 0) then cI (C xs d 134 0 [mR 130, mI x2] h) (fun v1 h1 => (if v1 = (0 : Int) then X xs d k_M_areLit 20 [mR 130, mI x1, mI x2] [mI 0, mI x1] h1 else X xs d k_M_areLit 20 [mR 130, mI x1, mI x2] [mI (fShl 1 x2), mI x1] h1)) else some ([mI x1], h)) := ((X_blk xs d k_M_areLit [4, 20] 31 4 _ _ h).trans rfl)
theorem e_M_areLit_20 (xs : List Int) (d : Nat) (x1 x2 s1 s0 : Int) (h : mM) : X xs d k_M_areLit 20 [mR 130, mI x1, mI x2] [mI s1, mI s0] h = (if inI (x2 + 1) then X xs d k_M_areLit 4 [mR 130, mI (fOr s0 s1), mI (x2 + 1)] [] h else none) := ((X_blk xs d k_M_areLit [4, 20] 31 20 _ _ h).trans rfl)
theorem c_M_haveWhom (xs : List Int) (d : Nat) (h : mM) : C xs d 136 0 [mR 130] h = X xs d k_M_haveWhom 4 [mR 130, mI 0, mI 0] [] h := (C_in xs d 136 p_M_haveWhom _ h).trans ((X_blk xs d k_M_haveWhom [4, 21] 32 0 _ _ h).trans rfl)
theorem e_M_haveWhom_4 (xs : List Int) (d : Nat) (x1 x2 : Int) (h : mM) : X xs d k_M_haveWhom 4 [mR 130, mI x1, mI x2] [] h = (if x2 < (h 131 0) then cI (C xs d 130 0 [mR 130, mI x2] h) (fun v1 h1 => (if v1 = (-1 : Int) then X xs d k_M_haveWhom 21 [mR 130, mI x1, mI x2] [mI 0, mI x1] h1 else X xs d k_M_haveWhom 21 [mR 130, mI x1, mI x2] [mI (fShl 1 x2), mI x1] h1)) else some ([mI x1], h)) := ((X_blk xs d k_M_haveWhom [4, 21] 32 4 _ _ h).trans rfl)
theorem e_M_haveWhom_21 (xs : List Int) (d : Nat) (x1 x2 s1 s0 : Int) (h : mM) : X xs d k_M_haveWhom 21 [mR 130, mI x1, mI x2] [mI s1, mI s0] h = (if inI (x2 + 1) then X xs d k_M_haveWhom 4 [mR 130, mI (fOr s0 s1), mI (x2 + 1)] [] h else none) := ((X_blk xs d k_M_haveWhom [4, 21] 32 21 _ _ h).trans rfl)
theorem c_M_warmersOf (xs : List Int) (d : Nat) (x1 : Int) (h : mM) : C xs d 137 0 [mR 130, mI x1] h = X xs d k_M_warmersOf 4 [mR 130, mI x1, mI 0, mI 0] [] h := (C_in xs d 137 p_M_warmersOf _ h).trans ((X_blk xs d k_M_warmersOf [4, 21] 32 0 _ _ h).trans rfl)
theorem e_M_warmersOf_4 (xs : List Int) (d : Nat) (x1 x2 x3 : Int) (h : mM) : X xs d k_M_warmersOf 4 [mR 130, mI x1, mI x2, mI x3] [] h = (if x3 < (h 131 0) then cI (C xs d 130 0 [mR 130, mI x3] h) (fun v1 h1 => (if v1 = x1 then X xs d k_M_warmersOf 21 [mR 130, mI x1, mI x2, mI x3] [mI (fShl 1 x3), mI x2] h1 else X xs d k_M_warmersOf 21 [mR 130, mI x1, mI x2, mI x3] [mI 0, mI x2] h1)) else some ([mI x2], h)) := ((X_blk xs d k_M_warmersOf [4, 21] 32 4 _ _ h).trans rfl)
theorem e_M_warmersOf_21 (xs : List Int) (d : Nat) (x1 x2 x3 s1 s0 : Int) (h : mM) : X xs d k_M_warmersOf 21 [mR 130, mI x1, mI x2, mI x3] [mI s1, mI s0] h = (if inI (x3 + 1) then X xs d k_M_warmersOf 4 [mR 130, mI x1, mI (fOr s0 s1), mI (x3 + 1)] [] h else none) := ((X_blk xs d k_M_warmersOf [4, 21] 32 21 _ _ h).trans rfl)
theorem c_M_together (xs : List Int) (d : Nat) (x1 : Int) (h : mM) : C xs d 138 0 [mR 130, mI x1] h = X xs d k_M_together 4 [mR 130, mI x1, mI 0, mI 0] [] h := (C_in xs d 138 p_M_together _ h).trans ((X_blk xs d k_M_together [4] 26 0 _ _ h).trans rfl)
theorem e_M_together_4 (xs : List Int) (d : Nat) (x1 x2 x3 : Int) (h : mM) : X xs d k_M_together 4 [mR 130, mI x1, mI x2, mI x3] [] h = (if x3 < (h 131 0) then cI (C xs d 129 0 [mR 130, mI x3, mI x1] h) (fun v1 h1 => (if inI (x2 + v1) then (if inI (x3 + 1) then X xs d k_M_together 4 [mR 130, mI x1, mI (x2 + v1), mI (x3 + 1)] [] h1 else none) else none)) else some ([mI x2], h)) := ((X_blk xs d k_M_together [4] 26 4 _ _ h).trans rfl)
theorem c_M_told (xs : List Int) (d : Nat) (x1 : Int) (h : mM) : C xs d 139 0 [mR 130, mI x1] h = (if x1 < (0 : Int) then cI (C xs d 82 0 [mR 130, mI 1] h) (fun v1 h1 => some ([mI v1], h1)) else (if (11 : Int) < x1 then cI (C xs d 82 0 [mR 130, mI 1] h) (fun v11 h11 => some ([mI v11], h11)) else (if x1 < (8 : Int) then (if inA x1 2346 then cI (C xs d 83 0 [mR 130, mI (h 131 x1)] h) (fun v10 h10 => some ([mI v10], h10)) else none) else (if x1 = 8 then cI (C xs d 135 0 [mR 130] h) (fun v8 h8 => cI (C xs d 83 0 [mR 130, mI v8] h8) (fun v9 h9 => some ([mI v9], h9))) else (if x1 = 9 then cI (C xs d 136 0 [mR 130] h) (fun v6 h6 => cI (C xs d 83 0 [mR 130, mI v6] h6) (fun v7 h7 => some ([mI v7], h7))) else (if x1 = 10 then cI (C xs d 138 0 [mR 130, mI 2] h) (fun v4 h4 => cI (C xs d 83 0 [mR 130, mI v4] h4) (fun v5 h5 => some ([mI v5], h5))) else cI (C xs d 138 0 [mR 130, mI 3] h) (fun v2 h2 => cI (C xs d 83 0 [mR 130, mI v2] h2) (fun v3 h3 => some ([mI v3], h3))))))))) := (C_in xs d 139 p_M_told _ h).trans ((X_blk xs d k_M_told [] 48 0 _ _ h).trans rfl)
theorem c_M_person (xs : List Int) (d : Nat) (x1 x2 : Int) (h : mM) : C xs d 140 0 [mR 130, mI x1, mI x2] h = cI (C xs d 126 0 [mR 130, mI x1] h) (fun v1 h1 => (if v1 = (0 : Int) then cI (C xs d 82 0 [mR 130, mI 1] h1) (fun v2 h2 => some ([mI v2], h2)) else (if x2 < (0 : Int) then cI (C xs d 82 0 [mR 130, mI 1] h1) (fun v3 h3 => some ([mI v3], h3)) else (if (6 : Int) < x2 then cI (C xs d 82 0 [mR 130, mI 1] h1) (fun v14 h14 => some ([mI v14], h14)) else (if x2 < (4 : Int) then cI (C xs d 129 0 [mR 130, mI x1, mI x2] h1) (fun v12 h12 => cI (C xs d 83 0 [mR 130, mI v12] h12) (fun v13 h13 => some ([mI v13], h13))) else (if x2 = (6 : Int) then cI (C xs d 137 0 [mR 130, mI x1] h1) (fun v10 h10 => cI (C xs d 83 0 [mR 130, mI v10] h10) (fun v11 h11 => some ([mI v11], h11))) else cI (C xs d 130 0 [mR 130, mI x1] h1) (fun v4 h4 => (if v4 = (-1 : Int) then cI (C xs d 82 0 [mR 130, mI 6] h4) (fun v9 h9 => some ([mI v9], h9)) else (if x2 = (4 : Int) then cI (C xs d 130 0 [mR 130, mI x1] h4) (fun v7 h7 => cI (C xs d 83 0 [mR 130, mI v7] h7) (fun v8 h8 => some ([mI v8], h8))) else cI (C xs d 133 0 [mR 130, mI x1] h4) (fun v5 h5 => cI (C xs d 83 0 [mR 130, mI v5] h5) (fun v6 h6 => some ([mI v6], h6)))))))))))) := (C_in xs d 140 p_M_person _ h).trans ((X_blk xs d k_M_person [] 59 0 _ _ h).trans rfl)
theorem c_M_far (xs : List Int) (d : Nat) (x1 x2 : Int) (h : mM) : C xs d 141 0 [mR 130, mI x1, mI x2] h = cI (C xs d 126 0 [mR 130, mI x1] h) (fun v1 h1 => (if v1 = (0 : Int) then cI (C xs d 82 0 [mR 130, mI 1] h1) (fun v2 h2 => some ([mI v2], h2)) else cI (C xs d 126 0 [mR 130, mI x2] h1) (fun v3 h3 => (if v3 = (0 : Int) then cI (C xs d 82 0 [mR 130, mI 1] h3) (fun v6 h6 => some ([mI v6], h6)) else cI (C xs d 131 0 [mR 130, mI x1, mI x2] h3) (fun v4 h4 => cI (C xs d 83 0 [mR 130, mI v4] h4) (fun v5 h5 => some ([mI v5], h5))))))) := (C_in xs d 141 p_M_far _ h).trans ((X_blk xs d k_M_far [] 24 0 _ _ h).trans rfl)
theorem c_M_warms (xs : List Int) (d : Nat) (x1 x2 : Int) (h : mM) : C xs d 142 0 [mR 130, mI x1, mI x2] h = cI (C xs d 111 0 [mI x1] h) (fun v1 h1 => (if inI (v1 + 2) then cI (C xs d 129 0 [mR 130, mI x1, mI 2] h1) (fun v2 h2 => (if inI (v2 + x2) then (if inA (v1 + 2) 2346 then some ([], (upM h2 131 (v1 + 2) (min 99 (v2 + x2)))) else none) else none)) else none)) := (C_in xs d 142 p_M_warms _ h).trans ((X_blk xs d k_M_warms [] 21 0 _ _ h).trans rfl)
theorem c_M_drinks (xs : List Int) (d : Nat) (x1 : Int) (h : mM) : C xs d 143 0 [mR 130, mI x1] h = cI (C xs d 111 0 [mI x1] h) (fun v1 h1 => cI (C xs d 130 0 [mR 130, mI x1] h1) (fun v2 h2 => (if v2 = (-1 : Int) then some ([mI 0], h2) else (if inI (v1 + 3) then (if inA (v1 + 3) 2346 then (if (h2 131 (v1 + 3)) = (0 : Int) then some ([mI 0], h2) else (if inI (v1 + 3) then (if inA (v1 + 3) 2346 then (if inI ((h2 131 (v1 + 3)) - 1) then (if inA (v1 + 3) 2346 then cI (C xs d 130 0 [mR 130, mI x1] (upM h2 131 (v1 + 3) ((h2 131 (v1 + 3)) - 1))) (fun v3 h3 => cI (C xs d 133 0 [mR 130, mI x1] h3) (fun v4 h4 => cV (C xs d 142 0 [mR 130, mI v3, mI v4] h4) (fun h5 => some ([mI 1], h5)))) else none) else none) else none) else none)) else none) else none)))) := (C_in xs d 143 p_M_drinks _ h).trans ((X_blk xs d k_M_drinks [] 42 0 _ _ h).trans rfl)
theorem c_M_drink (xs : List Int) (d : Nat) (x1 : Int) (h : mM) : C xs d 144 0 [mR 130, mI x1] h = cI (C xs d 126 0 [mR 130, mI x1] h) (fun v1 h1 => (if v1 = (0 : Int) then cI (C xs d 82 0 [mR 130, mI 1] h1) (fun v7 h7 => some ([mI v7], h7)) else cI (C xs d 143 0 [mR 130, mI x1] h1) (fun v2 h2 => (if v2 = (0 : Int) then cI (C xs d 82 0 [mR 130, mI 7] h2) (fun v3 h3 => some ([mI v3], h3)) else cI (C xs d 130 0 [mR 130, mI x1] h2) (fun v4 h4 => cI (C xs d 129 0 [mR 130, mI v4, mI 2] h4) (fun v5 h5 => cI (C xs d 83 0 [mR 130, mI v5] h5) (fun v6 h6 => some ([mI v6], h6)))))))) := (C_in xs d 144 p_M_drink _ h).trans ((X_blk xs d k_M_drink [] 30 0 _ _ h).trans rfl)
theorem c_M_cools (xs : List Int) (d : Nat) (x1 : Int) (h : mM) : C xs d 145 0 [mR 130, mI x1] h = cI (C xs d 111 0 [mI x1] h) (fun v1 h1 => (if inI (v1 + 2) then cI (C xs d 129 0 [mR 130, mI x1, mI 2] h1) (fun v2 h2 => (if inI (v2 - (h2 131 4)) then (if inA (v1 + 2) 2346 then some ([], (upM h2 131 (v1 + 2) (max 0 (v2 - (h2 131 4))))) else none) else none)) else none)) := (C_in xs d 145 p_M_cools _ h).trans ((X_blk xs d k_M_cools [] 24 0 _ _ h).trans rfl)
theorem c_M_nightGoes (xs : List Int) (d : Nat) (h : mM) : C xs d 146 0 [mR 130] h = X xs d k_M_nightGoes 2 [mR 130, mI 0] [] h := (C_in xs d 146 p_M_nightGoes _ h).trans ((X_blk xs d k_M_nightGoes [2] 27 0 _ _ h).trans rfl)
theorem e_M_nightGoes_2 (xs : List Int) (d : Nat) (x1 : Int) (h : mM) : X xs d k_M_nightGoes 2 [mR 130, mI x1] [] h = (if x1 < (h 131 0) then cV (C xs d 145 0 [mR 130, mI x1] h) (fun h1 => (if inI (x1 + 1) then X xs d k_M_nightGoes 2 [mR 130, mI (x1 + 1)] [] h1 else none)) else (if inI ((h 131 7) + 1) then some ([], (upM h 131 7 ((h 131 7) + 1))) else none)) := ((X_blk xs d k_M_nightGoes [2] 27 2 _ _ h).trans rfl)
theorem c_M_nightsGo (xs : List Int) (d : Nat) (x1 : Int) (h : mM) : C xs d 147 0 [mR 130, mI x1] h = X xs d k_M_nightsGo 2 [mR 130, mI x1, mI 0] [] h := (C_in xs d 147 p_M_nightsGo _ h).trans ((X_blk xs d k_M_nightsGo [2] 15 0 _ _ h).trans rfl)
theorem e_M_nightsGo_2 (xs : List Int) (d : Nat) (x1 x2 : Int) (h : mM) : X xs d k_M_nightsGo 2 [mR 130, mI x1, mI x2] [] h = (if x2 < x1 then cV (C xs d 146 0 [mR 130] h) (fun h1 => (if inI (x2 + 1) then X xs d k_M_nightsGo 2 [mR 130, mI x1, mI (x2 + 1)] [] h1 else none)) else some ([], h)) := ((X_blk xs d k_M_nightsGo [2] 15 2 _ _ h).trans rfl)
theorem c_M_night (xs : List Int) (d : Nat) (x1 : Int) (h : mM) : C xs d 148 0 [mR 130, mI x1] h = cI (C xs d 92 0 [mL x1, mL 1, mL 99] h) (fun v1 h1 => (if v1 = (0 : Int) then cI (C xs d 82 0 [mR 130, mI 1] h1) (fun v6 h6 => some ([mI v6], h6)) else (if inI ((h1 131 7) + x1) then (if (9999 : Int) < ((h1 131 7) + x1) then cI (C xs d 82 0 [mR 130, mI 4] h1) (fun v5 h5 => some ([mI v5], h5)) else cV (C xs d 147 0 [mR 130, mI x1] h1) (fun h2 => cI (C xs d 135 0 [mR 130] h2) (fun v3 h3 => cI (C xs d 83 0 [mR 130, mI v3] h3) (fun v4 h4 => some ([mI v4], h4))))) else none))) := (C_in xs d 148 p_M_night _ h).trans ((X_blk xs d k_M_night [] 35 0 _ _ h).trans rfl)
theorem c_M_eveningGoes (xs : List Int) (d : Nat) (x1 : Int) (h : mM) : C xs d 149 0 [mR 130, mI x1] h = cI (C xs d 135 0 [mR 130] h) (fun v1 h1 => cI (C xs d 136 0 [mR 130] h1) (fun v2 h2 => (if x1 = (-1 : Int) then X xs d k_M_eveningGoes 17 [mR 130, mI x1, mI (fAnd v1 v2), mC 0] [] h2 else X xs d k_M_eveningGoes 17 [mR 130, mI x1, mI (fAnd (fAnd v1 v2) (fXor (fShl 1 x1) (-1))), mC 0] [] h2))) := (C_in xs d 149 p_M_eveningGoes _ h).trans ((X_blk xs d k_M_eveningGoes [17, 19, 31, 54, 58] 82 0 _ _ h).trans rfl)
theorem e_M_eveningGoes_17 (xs : List Int) (d : Nat) (x1 x2 : Int) (h : mM) : X xs d k_M_eveningGoes 17 [mR 130, mI x1, mI x2, mC 0] [] h = X xs d k_M_eveningGoes 19 [mR 130, mI x1, mI x2, mI 0] [] h := ((X_blk xs d k_M_eveningGoes [17, 19, 31, 54, 58] 82 17 _ _ h).trans rfl)
theorem e_M_eveningGoes_19 (xs : List Int) (d : Nat) (x1 x2 x3 : Int) (h : mM) : X xs d k_M_eveningGoes 19 [mR 130, mI x1, mI x2, mI x3] [] h = (if x3 < (7 : Int) then (if inA x3 7 then (if inI (x3 + 1) then X xs d k_M_eveningGoes 19 [mR 130, mI x1, mI x2, mI (x3 + 1)] [] (upM h 139 x3 0) else none) else none) else X xs d k_M_eveningGoes 31 [mR 130, mI x1, mI x2, mI 0] [] h) := ((X_blk xs d k_M_eveningGoes [17, 19, 31, 54, 58] 82 19 _ _ h).trans rfl)
theorem e_M_eveningGoes_31 (xs : List Int) (d : Nat) (x1 x2 x3 : Int) (h : mM) : X xs d k_M_eveningGoes 31 [mR 130, mI x1, mI x2, mI x3] [] h = (if x3 < (h 131 0) then cI (C xs d 112 0 [mR 130, mI x2, mI x3] h) (fun v1 h1 => (if v1 = (0 : Int) then X xs d k_M_eveningGoes 54 [mR 130, mI x1, mI x2, mI x3] [] h1 else cI (C xs d 130 0 [mR 130, mI x3] h1) (fun v2 h2 => (if inA v2 7 then cI (C xs d 133 0 [mR 130, mI x3] h2) (fun v3 h3 => (if inI ((h2 139 v2) + v3) then (if inA v2 7 then X xs d k_M_eveningGoes 54 [mR 130, mI x1, mI x2, mI x3] [] (upM h3 139 v2 ((h2 139 v2) + v3)) else none) else none)) else none)))) else X xs d k_M_eveningGoes 58 [mR 130, mI x1, mI x2, mI 0] [] h) := ((X_blk xs d k_M_eveningGoes [17, 19, 31, 54, 58] 82 31 _ _ h).trans rfl)
theorem e_M_eveningGoes_54 (xs : List Int) (d : Nat) (x1 x2 x3 : Int) (h : mM) : X xs d k_M_eveningGoes 54 [mR 130, mI x1, mI x2, mI x3] [] h = (if inI (x3 + 1) then X xs d k_M_eveningGoes 31 [mR 130, mI x1, mI x2, mI (x3 + 1)] [] h else none) := ((X_blk xs d k_M_eveningGoes [17, 19, 31, 54, 58] 82 54 _ _ h).trans rfl)
theorem e_M_eveningGoes_58 (xs : List Int) (d : Nat) (x1 x2 x3 : Int) (h : mM) : X xs d k_M_eveningGoes 58 [mR 130, mI x1, mI x2, mI x3] [] h = (if x3 < (h 131 0) then (if inA x3 7 then cV (C xs d 142 0 [mR 130, mI x3, mI (h 139 x3)] h) (fun h2 => (if inI (x3 + 1) then X xs d k_M_eveningGoes 58 [mR 130, mI x1, mI x2, mI (x3 + 1)] [] h2 else none)) else none) else cV (C xs d 146 0 [mR 130] h) (fun h1 => some ([mI x2], h1))) := ((X_blk xs d k_M_eveningGoes [17, 19, 31, 54, 58] 82 58 _ _ h).trans rfl)
theorem c_M_evening (xs : List Int) (d : Nat) (h : mM) : C xs d 150 0 [mR 130] h = (if (h 131 7) = (9999 : Int) then cI (C xs d 82 0 [mR 130, mI 4] h) (fun v3 h3 => some ([mI v3], h3)) else cI (C xs d 149 0 [mR 130, mI (-1)] h) (fun v1 h1 => cI (C xs d 83 0 [mR 130, mI v1] h1) (fun v2 h2 => some ([mI v2], h2)))) := (C_in xs d 150 p_M_evening _ h).trans ((X_blk xs d k_M_evening [] 21 0 _ _ h).trans rfl)
theorem c_M_fills (xs : List Int) (d : Nat) (x1 x2 : Int) (h : mM) : C xs d 151 0 [mR 130, mI x1, mI x2] h = cI (C xs d 129 0 [mR 130, mI x1, mI 3] h) (fun v1 h1 => (if v1 = x2 then cI (C xs d 111 0 [mI x1] h1) (fun v2 h2 => (if inI (v2 + 3) then (if inA (v2 + 3) 2346 then some ([mI 0], (upM h2 131 (v2 + 3) x2)) else none) else none)) else cI (C xs d 111 0 [mI x1] h1) (fun v3 h3 => (if inI (v3 + 3) then (if inA (v3 + 3) 2346 then some ([mI 1], (upM h3 131 (v3 + 3) x2)) else none) else none)))) := (C_in xs d 151 p_M_fills _ h).trans ((X_blk xs d k_M_fills [] 25 0 _ _ h).trans rfl)
theorem c_M_fill (xs : List Int) (d : Nat) (x1 x2 : Int) (h : mM) : C xs d 152 0 [mR 130, mI x1, mI x2] h = cI (C xs d 126 0 [mR 130, mI x1] h) (fun v1 h1 => (if v1 = (0 : Int) then cI (C xs d 82 0 [mR 130, mI 1] h1) (fun v2 h2 => some ([mI v2], h2)) else cI (C xs d 92 0 [mL x2, mL 0, mL 9] h1) (fun v3 h3 => (if v3 = (0 : Int) then cI (C xs d 82 0 [mR 130, mI 1] h3) (fun v7 h7 => some ([mI v7], h7)) else cI (C xs d 129 0 [mR 130, mI x1, mI 3] h3) (fun v4 h4 => cI (C xs d 151 0 [mR 130, mI x1, mI x2] h4) (fun v5 h5 => cI (C xs d 83 0 [mR 130, mI v4] h5) (fun v6 h6 => some ([mI v6], h6)))))))) := (C_in xs d 152 p_M_fill _ h).trans ((X_blk xs d k_M_fill [] 33 0 _ _ h).trans rfl)
theorem c_M_means (xs : List Int) (d : Nat) (x1 x2 : Int) (h : mM) : C xs d 153 0 [mR 130, mI x1, mI x2] h = cI (C xs d 126 0 [mR 130, mI x1] h) (fun v1 h1 => (if v1 = (0 : Int) then cI (C xs d 82 0 [mR 130, mI 1] h1) (fun v2 h2 => some ([mI v2], h2)) else cI (C xs d 92 0 [mL x2, mL 0, mL 9] h1) (fun v3 h3 => (if v3 = (0 : Int) then cI (C xs d 82 0 [mR 130, mI 1] h3) (fun v7 h7 => some ([mI v7], h7)) else cI (C xs d 129 0 [mR 130, mI x1, mI 1] h3) (fun v4 h4 => cI (C xs d 111 0 [mI x1] h4) (fun v5 h5 => (if inI (v5 + 1) then (if inA (v5 + 1) 2346 then cI (C xs d 83 0 [mR 130, mI v4] (upM h5 131 (v5 + 1) x2)) (fun v6 h6 => some ([mI v6], h6)) else none) else none))))))) := (C_in xs d 153 p_M_means _ h).trans ((X_blk xs d k_M_means [] 36 0 _ _ h).trans rfl)
theorem c_M_move (xs : List Int) (d : Nat) (x1 x2 : Int) (h : mM) : C xs d 154 0 [mR 130, mI x1, mI x2] h = cI (C xs d 126 0 [mR 130, mI x1] h) (fun v1 h1 => (if v1 = (0 : Int) then cI (C xs d 82 0 [mR 130, mI 1] h1) (fun v2 h2 => some ([mI v2], h2)) else cI (C xs d 92 0 [mL x2, mL 0, mL 59] h1) (fun v3 h3 => (if v3 = (0 : Int) then cI (C xs d 82 0 [mR 130, mI 1] h3) (fun v7 h7 => some ([mI v7], h7)) else cI (C xs d 129 0 [mR 130, mI x1, mI 0] h3) (fun v4 h4 => cI (C xs d 111 0 [mI x1] h4) (fun v5 h5 => (if inA v5 2346 then cI (C xs d 83 0 [mR 130, mI v4] (upM h5 131 v5 x2)) (fun v6 h6 => some ([mI v6], h6)) else none))))))) := (C_in xs d 154 p_M_move _ h).trans ((X_blk xs d k_M_move [] 34 0 _ _ h).trans rfl)
theorem c_M_aim (xs : List Int) (d : Nat) (x1 x2 : Int) (h : mM) : C xs d 155 0 [mR 130, mI x1, mI x2] h = cI (C xs d 127 0 [mR 130, mI x1, mI x2] h) (fun v1 h1 => (if v1 = (0 : Int) then cI (C xs d 82 0 [mR 130, mI 1] h1) (fun v7 h7 => some ([mI v7], h7)) else cI (C xs d 130 0 [mR 130, mI x1] h1) (fun v2 h2 => (if v2 = x2 then cI (C xs d 82 0 [mR 130, mI 7] h2) (fun v6 h6 => some ([mI v6], h6)) else cI (C xs d 111 0 [mI x1] h2) (fun v3 h3 => (if inI (v3 + 4) then (if inA (v3 + 4) 2346 then (if v2 = (-1 : Int) then cI (C xs d 83 0 [mR 130, mI ((upM h3 131 (v3 + 4) x2) 131 0)] (upM h3 131 (v3 + 4) x2)) (fun v5 h5 => some ([mI v5], h5)) else cI (C xs d 83 0 [mR 130, mI v2] (upM h3 131 (v3 + 4) x2)) (fun v4 h4 => some ([mI v4], h4))) else none) else none)))))) := (C_in xs d 155 p_M_aim _ h).trans ((X_blk xs d k_M_aim [] 45 0 _ _ h).trans rfl)
theorem c_M_come (xs : List Int) (d : Nat) (x1 : Int) (h : mM) : C xs d 156 0 [mR 130, mI x1] h = cI (C xs d 92 0 [mL x1, mL 0, mL 59] h) (fun v1 h1 => (if v1 = (0 : Int) then cI (C xs d 82 0 [mR 130, mI 1] h1) (fun v5 h5 => some ([mI v5], h5)) else (if (h1 131 0) = (7 : Int) then cI (C xs d 82 0 [mR 130, mI 4] h1) (fun v4 h4 => some ([mI v4], h4)) else cI (C xs d 111 0 [mI (h1 131 0)] h1) (fun v2 h2 => (if inI ((h2 131 0) + 1) then (if inA v2 2346 then (if inI (v2 + 1) then (if inA (v2 + 1) 2346 then (if inI (v2 + 2) then (if inA (v2 + 2) 2346 then (if inI (v2 + 3) then (if inA (v2 + 3) 2346 then (if inI (v2 + 4) then (if inA (v2 + 4) 2346 then (if inA (h1 131 0) 42 then cI (C xs d 83 0 [mR 130, mI (h1 131 0)] (upM (upM (upM (upM (upM (upM (upM h2 131 0 ((h2 131 0) + 1)) 131 v2 x1) 131 (v2 + 1) 1) 131 (v2 + 2) 0) 131 (v2 + 3) 2) 131 (v2 + 4) (-1)) 132 (h1 131 0) 0)) (fun v3 h3 => some ([mI v3], h3)) else none) else none) else none) else none) else none) else none) else none) else none) else none) else none) else none))))) := (C_in xs d 156 p_M_come _ h).trans ((X_blk xs d k_M_come [] 80 0 _ _ h).trans rfl)
theorem c_M_rule (xs : List Int) (d : Nat) (x1 x2 : Int) (h : mM) : C xs d 157 0 [mR 130, mI x1, mI x2] h = (if x1 < (1 : Int) then cI (C xs d 81 0 [mR 130, mI 1] h) (fun v1 h1 => (if 0 ≤ v1 ∧ v1 ≤ 1 then some ([mI v1], h1) else none)) else (if (6 : Int) < x1 then cI (C xs d 81 0 [mR 130, mI 1] h) (fun v2 h2 => (if 0 ≤ v2 ∧ v2 ≤ 1 then some ([mI v2], h2) else none)) else cI (C xs d 115 0 [mI x1] h) (fun v3 h3 => cI (C xs d 116 0 [mI x1] h3) (fun v4 h4 => cI (C xs d 92 0 [mL x2, mL v3, mL v4] h4) (fun v5 h5 => (if v5 = (0 : Int) then cI (C xs d 81 0 [mR 130, mI 1] h5) (fun v7 h7 => (if 0 ≤ v7 ∧ v7 ≤ 1 then some ([mI v7], h7) else none)) else (if inA x1 2346 then cI (C xs d 81 0 [mR 130, mI 0] (upM h5 131 x1 x2)) (fun v6 h6 => (if 0 ≤ v6 ∧ v6 ≤ 1 then some ([mI v6], h6) else none)) else none))))))) := (C_in xs d 157 p_M_rule _ h).trans ((X_blk xs d k_M_rule [] 34 0 _ _ h).trans rfl)
theorem c_M_levelAt (xs : List Int) (d : Nat) (x0 : Int) (h : mM) : C xs d 158 0 [mI x0] h = (if inI (46 * x0) then (if inI (2116 + (46 * x0)) then some ([mI (2116 + (46 * x0))], h) else none) else none) := (C_in xs d 158 p_M_levelAt _ h).trans ((X_blk xs d k_M_levelAt [] 11 0 _ _ h).trans rfl)
theorem c_M_keeps (xs : List Int) (d : Nat) (x1 : Int) (h : mM) : C xs d 159 0 [mR 130, mI x1] h = X xs d k_M_keeps 2 [mR 130, mI x1, mI 0] [] h := (C_in xs d 159 p_M_keeps _ h).trans ((X_blk xs d k_M_keeps [2] 23 0 _ _ h).trans rfl)
theorem e_M_keeps_2 (xs : List Int) (d : Nat) (x1 x2 : Int) (h : mM) : X xs d k_M_keeps 2 [mR 130, mI x1, mI x2] [] h = (if x2 < (46 : Int) then (if inI (x1 + x2) then (if inA x2 2346 then (if inA (x1 + x2) 2346 then (if inI (x2 + 1) then X xs d k_M_keeps 2 [mR 130, mI x1, mI (x2 + 1)] [] (upM h 131 (x1 + x2) (h 131 x2)) else none) else none) else none) else none) else some ([], h)) := ((X_blk xs d k_M_keeps [2] 23 2 _ _ h).trans rfl)
theorem c_M_restores (xs : List Int) (d : Nat) (x1 : Int) (h : mM) : C xs d 160 0 [mR 130, mI x1] h = X xs d k_M_restores 2 [mR 130, mI x1, mI 0] [] h := (C_in xs d 160 p_M_restores _ h).trans ((X_blk xs d k_M_restores [2] 23 0 _ _ h).trans rfl)
theorem e_M_restores_2 (xs : List Int) (d : Nat) (x1 x2 : Int) (h : mM) : X xs d k_M_restores 2 [mR 130, mI x1, mI x2] [] h = (if x2 < (46 : Int) then (if inI (x1 + x2) then (if inA (x1 + x2) 2346 then (if inA x2 2346 then (if inI (x2 + 1) then X xs d k_M_restores 2 [mR 130, mI x1, mI (x2 + 1)] [] (upM h 131 x2 (h 131 (x1 + x2))) else none) else none) else none) else none) else some ([], h)) := ((X_blk xs d k_M_restores [2] 23 2 _ _ h).trans rfl)
theorem c_M_cooled (xs : List Int) (d : Nat) (x1 x2 : Int) (h : mM) : C xs d 161 0 [mR 130, mI x1, mI x2] h = cI (C xs d 129 0 [mR 130, mI x1, mI 2] h) (fun v1 h1 => (if inI (x2 * (h1 131 4)) then (if inI (v1 - (x2 * (h1 131 4))) then some ([mI (max 0 (v1 - (x2 * (h1 131 4))))], h1) else none) else none)) := (C_in xs d 161 p_M_cooled _ h).trans ((X_blk xs d k_M_cooled [] 19 0 _ _ h).trans rfl)
theorem c_M_warmIn (xs : List Int) (d : Nat) (x1 x2 : Int) (h : mM) : C xs d 162 0 [mR 130, mI x1, mI x2] h = cI (C xs d 126 0 [mR 130, mI x1] h) (fun v1 h1 => (if v1 = (0 : Int) then cI (C xs d 82 0 [mR 130, mI 1] h1) (fun v2 h2 => some ([mI v2], h2)) else cI (C xs d 92 0 [mL x2, mL 0, mL 60] h1) (fun v3 h3 => (if v3 = (0 : Int) then cI (C xs d 82 0 [mR 130, mI 1] h3) (fun v6 h6 => some ([mI v6], h6)) else cI (C xs d 161 0 [mR 130, mI x1, mI x2] h3) (fun v4 h4 => cI (C xs d 83 0 [mR 130, mI v4] h4) (fun v5 h5 => some ([mI v5], h5))))))) := (C_in xs d 162 p_M_warmIn _ h).trans ((X_blk xs d k_M_warmIn [] 26 0 _ _ h).trans rfl)
theorem c_M_darkIn (xs : List Int) (d : Nat) (x1 : Int) (h : mM) : C xs d 163 0 [mR 130, mI x1] h = cI (C xs d 126 0 [mR 130, mI x1] h) (fun v1 h1 => (if v1 = (0 : Int) then cI (C xs d 82 0 [mR 130, mI 1] h1) (fun v2 h2 => some ([mI v2], h2)) else X xs d k_M_darkIn 10 [mR 130, mI x1, mI 0] [] h1)) := (C_in xs d 163 p_M_darkIn _ h).trans ((X_blk xs d k_M_darkIn [10] 37 0 _ _ h).trans rfl)
theorem e_M_darkIn_10 (xs : List Int) (d : Nat) (x1 x2 : Int) (h : mM) : X xs d k_M_darkIn 10 [mR 130, mI x1, mI x2] [] h = (if (99 : Int) < x2 then cI (C xs d 82 0 [mR 130, mI 6] h) (fun v1 h1 => some ([mI v1], h1)) else cI (C xs d 161 0 [mR 130, mI x1, mI x2] h) (fun v2 h2 => (if v2 < (h2 131 3) then cI (C xs d 83 0 [mR 130, mI x2] h2) (fun v3 h3 => some ([mI v3], h3)) else (if inI (x2 + 1) then X xs d k_M_darkIn 10 [mR 130, mI x1, mI (x2 + 1)] [] h2 else none)))) := ((X_blk xs d k_M_darkIn [10] 37 10 _ _ h).trans rfl)
theorem c_M_eveningsGo (xs : List Int) (d : Nat) (x1 : Int) (h : mM) : C xs d 164 0 [mR 130, mI x1] h = X xs d k_M_eveningsGo 2 [mR 130, mI x1, mI 0] [] h := (C_in xs d 164 p_M_eveningsGo _ h).trans ((X_blk xs d k_M_eveningsGo [2] 17 0 _ _ h).trans rfl)
theorem e_M_eveningsGo_2 (xs : List Int) (d : Nat) (x1 x2 : Int) (h : mM) : X xs d k_M_eveningsGo 2 [mR 130, mI x1, mI x2] [] h = (if x2 < x1 then cI (C xs d 149 0 [mR 130, mI (-1)] h) (fun v1 h1 => (if inI (x2 + 1) then X xs d k_M_eveningsGo 2 [mR 130, mI x1, mI (x2 + 1)] [] h1 else none)) else some ([], h)) := ((X_blk xs d k_M_eveningsGo [2] 17 2 _ _ h).trans rfl)
theorem c_M_eveningIn (xs : List Int) (d : Nat) (x1 x2 : Int) (h : mM) : C xs d 165 0 [mR 130, mI x1, mI x2] h = cI (C xs d 126 0 [mR 130, mI x1] h) (fun v1 h1 => (if v1 = (0 : Int) then cI (C xs d 82 0 [mR 130, mI 1] h1) (fun v2 h2 => some ([mI v2], h2)) else cI (C xs d 92 0 [mL x2, mL 0, mL 60] h1) (fun v3 h3 => (if v3 = (0 : Int) then cI (C xs d 82 0 [mR 130, mI 1] h3) (fun v9 h9 => some ([mI v9], h9)) else cV (C xs d 159 0 [mR 130, mI 2070] h3) (fun h4 => cV (C xs d 164 0 [mR 130, mI x2] h4) (fun h5 => cI (C xs d 129 0 [mR 130, mI x1, mI 2] h5) (fun v6 h6 => cV (C xs d 160 0 [mR 130, mI 2070] h6) (fun h7 => cI (C xs d 83 0 [mR 130, mI v6] h7) (fun v8 h8 => some ([mI v8], h8)))))))))) := (C_in xs d 165 p_M_eveningIn _ h).trans ((X_blk xs d k_M_eveningIn [] 37 0 _ _ h).trans rfl)
theorem c_M_litIn (xs : List Int) (d : Nat) (x1 : Int) (h : mM) : C xs d 166 0 [mR 130, mI x1] h = cI (C xs d 92 0 [mL x1, mL 0, mL 60] h) (fun v1 h1 => (if v1 = (0 : Int) then cI (C xs d 82 0 [mR 130, mI 1] h1) (fun v7 h7 => some ([mI v7], h7)) else cV (C xs d 159 0 [mR 130, mI 2070] h1) (fun h2 => cV (C xs d 164 0 [mR 130, mI x1] h2) (fun h3 => cI (C xs d 135 0 [mR 130] h3) (fun v4 h4 => cV (C xs d 160 0 [mR 130, mI 2070] h4) (fun h5 => cI (C xs d 83 0 [mR 130, mI v4] h5) (fun v6 h6 => some ([mI v6], h6)))))))) := (C_in xs d 166 p_M_litIn _ h).trans ((X_blk xs d k_M_litIn [] 31 0 _ _ h).trans rfl)
theorem c_M_isAlike (xs : List Int) (d : Nat) (x1 x2 : Int) (h : mM) : C xs d 167 0 [mR 130, mI x1, mI x2] h = X xs d k_M_isAlike 2 [mR 130, mI x1, mI x2, mI 0] [] h := (C_in xs d 167 p_M_isAlike _ h).trans ((X_blk xs d k_M_isAlike [2] 36 0 _ _ h).trans rfl)
theorem e_M_isAlike_2 (xs : List Int) (d : Nat) (x1 x2 x3 : Int) (h : mM) : X xs d k_M_isAlike 2 [mR 130, mI x1, mI x2, mI x3] [] h = (if x3 < (h 131 0) then (if inI (7 * x1) then (if inI ((7 * x1) + x3) then (if inA ((7 * x1) + x3) 1407 then (if inI (7 * x2) then (if inI ((7 * x2) + x3) then (if inA ((7 * x2) + x3) 1407 then (if (h 140 ((7 * x1) + x3)) = (h 140 ((7 * x2) + x3)) then (if inI (x3 + 1) then X xs d k_M_isAlike 2 [mR 130, mI x1, mI x2, mI (x3 + 1)] [] h else none) else some ([mI 0], h)) else none) else none) else none) else none) else none) else none) else some ([mI 1], h)) := ((X_blk xs d k_M_isAlike [2] 36 2 _ _ h).trans rfl)
theorem c_M_laysSettled (xs : List Int) (d : Nat) (h : mM) : C xs d 168 0 [mR 130] h = cV (C xs d 159 0 [mR 130, mI 2070] h) (fun h1 => X xs d k_M_laysSettled 5 [mR 130, mI 0, mC 0] [] h1) := (C_in xs d 168 p_M_laysSettled _ h).trans ((X_blk xs d k_M_laysSettled [5, 10, 41, 46] 78 0 _ _ h).trans rfl)
theorem e_M_laysSettled_5 (xs : List Int) (d : Nat) (x1 : Int) (x2 : mv) (h : mM) : X xs d k_M_laysSettled 5 [mR 130, mI x1, x2] [] h = (if (200 : Int) < x1 then cV (C xs d 160 0 [mR 130, mI 2070] h) (fun h1 => X xs d k_M_laysSettled 41 [mR 130, mI 0, x2] [] h1) else X xs d k_M_laysSettled 10 [mR 130, mI x1, mI 0] [] h) := ((X_blk xs d k_M_laysSettled [5, 10, 41, 46] 78 5 _ _ h).trans rfl)
theorem e_M_laysSettled_10 (xs : List Int) (d : Nat) (x1 x2 : Int) (h : mM) : X xs d k_M_laysSettled 10 [mR 130, mI x1, mI x2] [] h = (if x2 < (h 131 0) then (if inI (7 * x1) then (if inI ((7 * x1) + x2) then cI (C xs d 129 0 [mR 130, mI x2, mI 2] h) (fun v2 h2 => (if inA ((7 * x1) + x2) 1407 then (if inI (x2 + 1) then X xs d k_M_laysSettled 10 [mR 130, mI x1, mI (x2 + 1)] [] (upM h2 140 ((7 * x1) + x2) v2) else none) else none)) else none) else none) else cI (C xs d 149 0 [mR 130, mI (-1)] h) (fun v1 h1 => (if inI (x1 + 1) then X xs d k_M_laysSettled 5 [mR 130, mI (x1 + 1), mI x2] [] h1 else none))) := ((X_blk xs d k_M_laysSettled [5, 10, 41, 46] 78 10 _ _ h).trans rfl)
theorem e_M_laysSettled_41 (xs : List Int) (d : Nat) (x1 : Int) (x2 : mv) (h : mM) : X xs d k_M_laysSettled 41 [mR 130, mI x1, x2] [] h = (if x1 < (200 : Int) then X xs d k_M_laysSettled 46 [mR 130, mI x1, mI 1] [] h else some ([mI 0], h)) := ((X_blk xs d k_M_laysSettled [5, 10, 41, 46] 78 41 _ _ h).trans rfl)
theorem e_M_laysSettled_46 (xs : List Int) (d : Nat) (x1 x2 : Int) (h : mM) : X xs d k_M_laysSettled 46 [mR 130, mI x1, mI x2] [] h = (if inI (x1 + x2) then (if (200 : Int) < (x1 + x2) then (if inI (x1 + 1) then X xs d k_M_laysSettled 41 [mR 130, mI (x1 + 1), mI x2] [] h else none) else (if inI (x1 + x2) then cI (C xs d 167 0 [mR 130, mI x1, mI (x1 + x2)] h) (fun v1 h1 => (if v1 = (0 : Int) then (if inI (x2 + 1) then X xs d k_M_laysSettled 46 [mR 130, mI x1, mI (x2 + 1)] [] h1 else none) else some ([mI 1], (upM (upM h1 130 26 x1) 130 27 x2)))) else none)) else none) := ((X_blk xs d k_M_laysSettled [5, 10, 41, 46] 78 46 _ _ h).trans rfl)
theorem c_M_settles (xs : List Int) (d : Nat) (h : mM) : C xs d 169 0 [mR 130] h = cI (C xs d 168 0 [mR 130] h) (fun v1 h1 => (if v1 = (0 : Int) then cI (C xs d 82 0 [mR 130, mI 6] h1) (fun v2 h2 => some ([mI v2], h2)) else cI (C xs d 83 0 [mR 130, mI (h1 130 26)] h1) (fun v3 h3 => some ([mI v3], h3)))) := (C_in xs d 169 p_M_settles _ h).trans ((X_blk xs d k_M_settles [] 17 0 _ _ h).trans rfl)
theorem c_M_period (xs : List Int) (d : Nat) (h : mM) : C xs d 170 0 [mR 130] h = cI (C xs d 168 0 [mR 130] h) (fun v1 h1 => (if v1 = (0 : Int) then cI (C xs d 82 0 [mR 130, mI 6] h1) (fun v2 h2 => some ([mI v2], h2)) else cI (C xs d 83 0 [mR 130, mI (h1 130 27)] h1) (fun v3 h3 => some ([mI v3], h3)))) := (C_in xs d 170 p_M_period _ h).trans ((X_blk xs d k_M_period [] 17 0 _ _ h).trans rfl)
theorem c_M_laysChain (xs : List Int) (d : Nat) (x1 : Int) (h : mM) : C xs d 171 0 [mR 130, mI x1] h = X xs d k_M_laysChain 7 [mR 130, mI x1, mI 0, mI x1] [] (upM h 130 29 0) := (C_in xs d 171 p_M_laysChain _ h).trans ((X_blk xs d k_M_laysChain [7] 44 0 _ _ h).trans rfl)
theorem e_M_laysChain_7 (xs : List Int) (d : Nat) (x1 x2 x3 : Int) (h : mM) : X xs d k_M_laysChain 7 [mR 130, mI x1, mI x2, mI x3] [] h = (if x3 = (-1 : Int) then some ([], h) else cI (C xs d 112 0 [mR 130, mI x2, mI x3] h) (fun v1 h1 => (if v1 = (0 : Int) then (if inA (h1 130 29) 7 then (if inI ((h1 130 29) + 1) then cI (C xs d 130 0 [mR 130, mI x3] (upM (upM h1 141 (h1 130 29) x3) 130 29 ((h1 130 29) + 1))) (fun v2 h2 => X xs d k_M_laysChain 7 [mR 130, mI x1, mI (fOr x2 (fShl 1 x3)), mI v2] [] h2) else none) else none) else some ([], h1)))) := ((X_blk xs d k_M_laysChain [7] 44 7 _ _ h).trans rfl)
theorem c_M_chain (xs : List Int) (d : Nat) (x1 : Int) (h : mM) : C xs d 172 0 [mR 130, mI x1] h = cI (C xs d 126 0 [mR 130, mI x1] h) (fun v1 h1 => (if v1 = (0 : Int) then cI (C xs d 82 0 [mR 130, mI 1] h1) (fun v4 h4 => some ([mI v4], h4)) else cV (C xs d 171 0 [mR 130, mI x1] h1) (fun h2 => cI (C xs d 83 0 [mR 130, mI (h2 130 29)] h2) (fun v3 h3 => some ([mI v3], h3))))) := (C_in xs d 172 p_M_chain _ h).trans ((X_blk xs d k_M_chain [] 21 0 _ _ h).trans rfl)
theorem c_M_chainAt (xs : List Int) (d : Nat) (x1 x2 : Int) (h : mM) : C xs d 173 0 [mR 130, mI x1, mI x2] h = cI (C xs d 126 0 [mR 130, mI x1] h) (fun v1 h1 => (if v1 = (0 : Int) then cI (C xs d 82 0 [mR 130, mI 1] h1) (fun v2 h2 => some ([mI v2], h2)) else (if x2 < (0 : Int) then cI (C xs d 82 0 [mR 130, mI 1] h1) (fun v6 h6 => some ([mI v6], h6)) else cV (C xs d 171 0 [mR 130, mI x1] h1) (fun h3 => (if x2 < (h3 130 29) then (if inA x2 7 then cI (C xs d 83 0 [mR 130, mI (h3 141 x2)] h3) (fun v4 h4 => some ([mI v4], h4)) else none) else cI (C xs d 82 0 [mR 130, mI 6] h3) (fun v5 h5 => some ([mI v5], h5))))))) := (C_in xs d 173 p_M_chainAt _ h).trans ((X_blk xs d k_M_chainAt [] 33 0 _ _ h).trans rfl)
theorem c_M_ringOf (xs : List Int) (d : Nat) (x1 : Int) (h : mM) : C xs d 174 0 [mR 130, mI x1] h = cV (C xs d 171 0 [mR 130, mI x1] h) (fun h1 => (if inI ((h1 130 29) - 1) then (if inA ((h1 130 29) - 1) 7 then cI (C xs d 130 0 [mR 130, mI (h1 141 ((h1 130 29) - 1))] h1) (fun v2 h2 => (if v2 = x1 then X xs d k_M_ringOf 20 [mR 130, mI x1, mI 0, mI 0] [] h2 else some ([mI 0], h2))) else none) else none)) := (C_in xs d 174 p_M_ringOf _ h).trans ((X_blk xs d k_M_ringOf [20] 42 0 _ _ h).trans rfl)
theorem e_M_ringOf_20 (xs : List Int) (d : Nat) (x1 x2 x3 : Int) (h : mM) : X xs d k_M_ringOf 20 [mR 130, mI x1, mI x2, mI x3] [] h = (if x3 < (h 130 29) then (if inA x3 7 then (if inI (x3 + 1) then X xs d k_M_ringOf 20 [mR 130, mI x1, mI (fOr x2 (fShl 1 (h 141 x3))), mI (x3 + 1)] [] h else none) else none) else some ([mI x2], h)) := ((X_blk xs d k_M_ringOf [20] 42 20 _ _ h).trans rfl)
theorem c_M_rings (xs : List Int) (d : Nat) (h : mM) : C xs d 175 0 [mR 130] h = X xs d k_M_rings 4 [mR 130, mI 0, mI 0, mC 0, mC 0] [] h := (C_in xs d 175 p_M_rings _ h).trans ((X_blk xs d k_M_rings [4, 26, 27, 34] 47 0 _ _ h).trans rfl)
theorem e_M_rings_4 (xs : List Int) (d : Nat) (x1 x2 : Int) (x3 x4 : mv) (h : mM) : X xs d k_M_rings 4 [mR 130, mI x1, mI x2, x3, x4] [] h = (if x2 < (h 131 0) then cI (C xs d 174 0 [mR 130, mI x2] h) (fun v2 h2 => (if v2 = (0 : Int) then X xs d k_M_rings 26 [mR 130, mI x1, mI x2, mI v2, x4] [] h2 else (if inI ((fShl 1 x2) - 1) then (if (fAnd v2 ((fShl 1 x2) - 1)) = (0 : Int) then X xs d k_M_rings 27 [mR 130, mI x1, mI x2, mI v2, x4] [mI 1] h2 else X xs d k_M_rings 26 [mR 130, mI x1, mI x2, mI v2, x4] [] h2) else none))) else cI (C xs d 83 0 [mR 130, mI x1] h) (fun v1 h1 => some ([mI v1], h1))) := ((X_blk xs d k_M_rings [4, 26, 27, 34] 47 4 _ _ h).trans rfl)
theorem e_M_rings_26 (xs : List Int) (d : Nat) (x1 x2 x3 : Int) (x4 : mv) (h : mM) : X xs d k_M_rings 26 [mR 130, mI x1, mI x2, mI x3, x4] [] h = X xs d k_M_rings 27 [mR 130, mI x1, mI x2, mI x3, x4] [mI 0] h := ((X_blk xs d k_M_rings [4, 26, 27, 34] 47 26 _ _ h).trans rfl)
theorem e_M_rings_27 (xs : List Int) (d : Nat) (x1 x2 x3 s0 : Int) (x4 : mv) (h : mM) : X xs d k_M_rings 27 [mR 130, mI x1, mI x2, mI x3, x4] [mI s0] h = (if s0 = (0 : Int) then X xs d k_M_rings 34 [mR 130, mI x1, mI x2, mI x3, mI s0] [mI 0, mI x1] h else X xs d k_M_rings 34 [mR 130, mI x1, mI x2, mI x3, mI s0] [mI 1, mI x1] h) := ((X_blk xs d k_M_rings [4, 26, 27, 34] 47 27 _ _ h).trans rfl)
theorem e_M_rings_34 (xs : List Int) (d : Nat) (x1 x2 x3 x4 s1 s0 : Int) (h : mM) : X xs d k_M_rings 34 [mR 130, mI x1, mI x2, mI x3, mI x4] [mI s1, mI s0] h = (if inI (s0 + s1) then (if inI (x2 + 1) then X xs d k_M_rings 4 [mR 130, mI (s0 + s1), mI (x2 + 1), mI x3, mI x4] [] h else none) else none) := ((X_blk xs d k_M_rings [4, 26, 27, 34] 47 34 _ _ h).trans rfl)
theorem c_M_inRings (xs : List Int) (d : Nat) (h : mM) : C xs d 176 0 [mR 130] h = X xs d k_M_inRings 4 [mR 130, mI 0, mI 0] [] h := (C_in xs d 176 p_M_inRings _ h).trans ((X_blk xs d k_M_inRings [4] 27 0 _ _ h).trans rfl)
theorem e_M_inRings_4 (xs : List Int) (d : Nat) (x1 x2 : Int) (h : mM) : X xs d k_M_inRings 4 [mR 130, mI x1, mI x2] [] h = (if x2 < (h 131 0) then cI (C xs d 174 0 [mR 130, mI x2] h) (fun v2 h2 => (if inI (x2 + 1) then X xs d k_M_inRings 4 [mR 130, mI (fOr x1 v2), mI (x2 + 1)] [] h2 else none)) else cI (C xs d 83 0 [mR 130, mI x1] h) (fun v1 h1 => some ([mI v1], h1))) := ((X_blk xs d k_M_inRings [4] 27 4 _ _ h).trans rfl)
theorem c_M_needsOf (xs : List Int) (d : Nat) (x1 : Int) (h : mM) : C xs d 177 0 [mR 130, mI x1] h = cI (C xs d 129 0 [mR 130, mI x1, mI 2] h) (fun v1 h1 => X xs d k_M_needsOf 9 [mR 130, mI x1, mI v1, mI 0, mI 180, mC 0, mC 0] [] h1) := (C_in xs d 177 p_M_needsOf _ h).trans ((X_blk xs d k_M_needsOf [9, 13, 32, 51] 70 0 _ _ h).trans rfl)
theorem e_M_needsOf_9 (xs : List Int) (d : Nat) (x1 x2 x3 x4 : Int) (x5 x6 : mv) (h : mM) : X xs d k_M_needsOf 9 [mR 130, mI x1, mI x2, mI x3, mI x4, x5, x6] [] h = (if (0 : Int) < x4 then X xs d k_M_needsOf 13 [mR 130, mI x1, mI x2, mI x3, mI x4, mI 0, x6] [] h else (if x2 < (h 131 3) then some ([mI 1000000], h) else some ([mI x3], h))) := ((X_blk xs d k_M_needsOf [9, 13, 32, 51] 70 9 _ _ h).trans rfl)
theorem e_M_needsOf_13 (xs : List Int) (d : Nat) (x1 x2 x3 x4 x5 : Int) (x6 : mv) (h : mM) : X xs d k_M_needsOf 13 [mR 130, mI x1, mI x2, mI x3, mI x4, mI x5, x6] [] h = (if x5 < (h 131 0) then cI (C xs d 130 0 [mR 130, mI x5] h) (fun v1 h1 => (if v1 = x1 then cI (C xs d 133 0 [mR 130, mI x5] h1) (fun v2 h2 => (if v2 = x4 then X xs d k_M_needsOf 32 [mR 130, mI x1, mI x2, mI x3, mI x4, mI x5, mI 0] [] h2 else X xs d k_M_needsOf 51 [mR 130, mI x1, mI x2, mI x3, mI x4, mI x5, x6] [] h2)) else X xs d k_M_needsOf 51 [mR 130, mI x1, mI x2, mI x3, mI x4, mI x5, x6] [] h1)) else (if inI (x4 + (-1)) then X xs d k_M_needsOf 9 [mR 130, mI x1, mI x2, mI x3, mI (x4 + (-1)), mI x5, x6] [] h else none)) := ((X_blk xs d k_M_needsOf [9, 13, 32, 51] 70 13 _ _ h).trans rfl)
theorem e_M_needsOf_32 (xs : List Int) (d : Nat) (x1 x2 x3 x4 x5 x6 : Int) (h : mM) : X xs d k_M_needsOf 32 [mR 130, mI x1, mI x2, mI x3, mI x4, mI x5, mI x6] [] h = cI (C xs d 129 0 [mR 130, mI x5, mI 3] h) (fun v1 h1 => (if x6 < v1 then (if x2 < (h1 131 3) then (if inI (x2 + x4) then (if inI (x3 + 1) then (if inI (x6 + 1) then X xs d k_M_needsOf 32 [mR 130, mI x1, mI (x2 + x4), mI (x3 + 1), mI x4, mI x5, mI (x6 + 1)] [] h1 else none) else none) else none) else X xs d k_M_needsOf 51 [mR 130, mI x1, mI x2, mI x3, mI x4, mI x5, mI x6] [] h1) else X xs d k_M_needsOf 51 [mR 130, mI x1, mI x2, mI x3, mI x4, mI x5, mI x6] [] h1)) := ((X_blk xs d k_M_needsOf [9, 13, 32, 51] 70 32 _ _ h).trans rfl)
theorem e_M_needsOf_51 (xs : List Int) (d : Nat) (x1 x2 x3 x4 x5 : Int) (x6 : mv) (h : mM) : X xs d k_M_needsOf 51 [mR 130, mI x1, mI x2, mI x3, mI x4, mI x5, x6] [] h = (if inI (x5 + 1) then X xs d k_M_needsOf 13 [mR 130, mI x1, mI x2, mI x3, mI x4, mI (x5 + 1), x6] [] h else none) := ((X_blk xs d k_M_needsOf [9, 13, 32, 51] 70 51 _ _ h).trans rfl)
theorem c_M_needs (xs : List Int) (d : Nat) (x1 : Int) (h : mM) : C xs d 178 0 [mR 130, mI x1] h = cI (C xs d 126 0 [mR 130, mI x1] h) (fun v1 h1 => (if v1 = (0 : Int) then cI (C xs d 82 0 [mR 130, mI 1] h1) (fun v5 h5 => some ([mI v5], h5)) else cI (C xs d 177 0 [mR 130, mI x1] h1) (fun v2 h2 => (if v2 < (1000000 : Int) then cI (C xs d 83 0 [mR 130, mI v2] h2) (fun v3 h3 => some ([mI v3], h3)) else cI (C xs d 82 0 [mR 130, mI 6] h2) (fun v4 h4 => some ([mI v4], h4)))))) := (C_in xs d 178 p_M_needs _ h).trans ((X_blk xs d k_M_needs [] 28 0 _ _ h).trans rfl)
theorem c_M_mostOfAll (xs : List Int) (d : Nat) (x1 : Int) (h : mM) : C xs d 179 0 [mR 130, mI x1] h = X xs d k_M_mostOfAll 2 [mR 130, mI x1, mI 0, mC 0, mC 0, mC 0] [] h := (C_in xs d 179 p_M_mostOfAll _ h).trans ((X_blk xs d k_M_mostOfAll [2, 21, 33, 51, 65] 74 0 _ _ h).trans rfl)
theorem e_M_mostOfAll_2 (xs : List Int) (d : Nat) (x1 x2 : Int) (h : mM) : X xs d k_M_mostOfAll 2 [mR 130, mI x1, mI x2, mC 0, mC 0, mC 0] [] h = (if x2 < (h 131 0) then cI (C xs d 177 0 [mR 130, mI x2] h) (fun v1 h1 => (if inA x2 7 then (if inI (x2 + 1) then X xs d k_M_mostOfAll 2 [mR 130, mI x1, mI (x2 + 1), mC 0, mC 0, mC 0] [] (upM h1 142 x2 v1) else none) else none)) else X xs d k_M_mostOfAll 21 [mR 130, mI x1, mI 0, mI 1, mC 0, mC 0] [] h) := ((X_blk xs d k_M_mostOfAll [2, 21, 33, 51, 65] 74 2 _ _ h).trans rfl)
theorem e_M_mostOfAll_21 (xs : List Int) (d : Nat) (x1 x2 x3 : Int) (x4 x5 : mv) (h : mM) : X xs d k_M_mostOfAll 21 [mR 130, mI x1, mI x2, mI x3, x4, x5] [] h = (if x3 < (fShl 1 (h 131 0)) then X xs d k_M_mostOfAll 33 [mR 130, mI x1, mI x2, mI x3, mI 0, mI 0] [] h else some ([mI x2], h)) := ((X_blk xs d k_M_mostOfAll [2, 21, 33, 51, 65] 74 21 _ _ h).trans rfl)
theorem e_M_mostOfAll_33 (xs : List Int) (d : Nat) (x1 x2 x3 x4 x5 : Int) (h : mM) : X xs d k_M_mostOfAll 33 [mR 130, mI x1, mI x2, mI x3, mI x4, mI x5] [] h = (if x5 < (h 131 0) then cI (C xs d 112 0 [mR 130, mI x3, mI x5] h) (fun v3 h3 => (if v3 = (0 : Int) then X xs d k_M_mostOfAll 51 [mR 130, mI x1, mI x2, mI x3, mI x4, mI x5] [mI 0, mI x4] h3 else (if inA x5 7 then X xs d k_M_mostOfAll 51 [mR 130, mI x1, mI x2, mI x3, mI x4, mI x5] [mI (h3 142 x5), mI x4] h3 else none))) else (if x1 < x4 then X xs d k_M_mostOfAll 65 [mR 130, mI x1, mI x2, mI x3, mI x4, mI x5] [] h else cI (C xs d 128 0 [mI x3] h) (fun v1 h1 => cI (C xs d 128 0 [mI x2] h1) (fun v2 h2 => (if v2 < v1 then X xs d k_M_mostOfAll 65 [mR 130, mI x1, mI x3, mI x3, mI x4, mI x5] [] h2 else X xs d k_M_mostOfAll 65 [mR 130, mI x1, mI x2, mI x3, mI x4, mI x5] [] h2))))) := ((X_blk xs d k_M_mostOfAll [2, 21, 33, 51, 65] 74 33 _ _ h).trans rfl)
theorem e_M_mostOfAll_51 (xs : List Int) (d : Nat) (x1 x2 x3 x4 x5 s1 s0 : Int) (h : mM) : X xs d k_M_mostOfAll 51 [mR 130, mI x1, mI x2, mI x3, mI x4, mI x5] [mI s1, mI s0] h = (if inI (s0 + s1) then (if inI (x5 + 1) then X xs d k_M_mostOfAll 33 [mR 130, mI x1, mI x2, mI x3, mI (s0 + s1), mI (x5 + 1)] [] h else none) else none) := ((X_blk xs d k_M_mostOfAll [2, 21, 33, 51, 65] 74 51 _ _ h).trans rfl)
theorem e_M_mostOfAll_65 (xs : List Int) (d : Nat) (x1 x2 x3 x4 x5 : Int) (h : mM) : X xs d k_M_mostOfAll 65 [mR 130, mI x1, mI x2, mI x3, mI x4, mI x5] [] h = (if inI (x3 + 1) then X xs d k_M_mostOfAll 21 [mR 130, mI x1, mI x2, mI (x3 + 1), mI x4, mI x5] [] h else none) := ((X_blk xs d k_M_mostOfAll [2, 21, 33, 51, 65] 74 65 _ _ h).trans rfl)
theorem c_M_most (xs : List Int) (d : Nat) (x1 : Int) (h : mM) : C xs d 180 0 [mR 130, mI x1] h = cI (C xs d 92 0 [mL x1, mL 0, mL 20] h) (fun v1 h1 => (if v1 = (0 : Int) then cI (C xs d 82 0 [mR 130, mI 1] h1) (fun v5 h5 => some ([mI v5], h5)) else cI (C xs d 179 0 [mR 130, mI x1] h1) (fun v2 h2 => cI (C xs d 128 0 [mI v2] h2) (fun v3 h3 => cI (C xs d 83 0 [mR 130, mI v3] h3) (fun v4 h4 => some ([mI v4], h4)))))) := (C_in xs d 180 p_M_most _ h).trans ((X_blk xs d k_M_most [] 22 0 _ _ h).trans rfl)
theorem c_M_mostSet (xs : List Int) (d : Nat) (x1 : Int) (h : mM) : C xs d 181 0 [mR 130, mI x1] h = cI (C xs d 92 0 [mL x1, mL 0, mL 20] h) (fun v1 h1 => (if v1 = (0 : Int) then cI (C xs d 82 0 [mR 130, mI 1] h1) (fun v4 h4 => some ([mI v4], h4)) else cI (C xs d 179 0 [mR 130, mI x1] h1) (fun v2 h2 => cI (C xs d 83 0 [mR 130, mI v2] h2) (fun v3 h3 => some ([mI v3], h3))))) := (C_in xs d 181 p_M_mostSet _ h).trans ((X_blk xs d k_M_mostSet [] 21 0 _ _ h).trans rfl)
theorem c_M_litBehind (xs : List Int) (d : Nat) (x1 : Int) (h : mM) : C xs d 182 0 [mR 130, mI x1] h = cV (C xs d 159 0 [mR 130, mI 2070] h) (fun h1 => cI (C xs d 149 0 [mR 130, mI x1] h1) (fun v2 h2 => cI (C xs d 135 0 [mR 130] h2) (fun v3 h3 => cV (C xs d 160 0 [mR 130, mI 2070] h3) (fun h4 => some ([mI v3], h4))))) := (C_in xs d 182 p_M_litBehind _ h).trans ((X_blk xs d k_M_litBehind [] 20 0 _ _ h).trans rfl)
theorem c_M_misses (xs : List Int) (d : Nat) (x1 : Int) (h : mM) : C xs d 183 0 [mR 130, mI x1] h = cI (C xs d 126 0 [mR 130, mI x1] h) (fun v1 h1 => (if v1 = (0 : Int) then cI (C xs d 82 0 [mR 130, mI 1] h1) (fun v5 h5 => some ([mI v5], h5)) else cI (C xs d 182 0 [mR 130, mI (-1)] h1) (fun v2 h2 => cI (C xs d 182 0 [mR 130, mI x1] h2) (fun v3 h3 => cI (C xs d 83 0 [mR 130, mI (fAnd v2 (fXor v3 (-1)))] h3) (fun v4 h4 => some ([mI v4], h4)))))) := (C_in xs d 183 p_M_misses _ h).trans ((X_blk xs d k_M_misses [] 25 0 _ _ h).trans rfl)
theorem c_M_wrongSeen (xs : List Int) (d : Nat) (x1 x2 : Int) (h : mM) : C xs d 184 0 [mR 130, mI x1, mI x2] h = cI (C xs d 85 0 [mI x1] h) (fun v1 h1 => (if v1 = (0 : Int) then some ([mI 1], h1) else cI (C xs d 92 0 [mL x2, mL 0, mL 10] h1) (fun v2 h2 => (if v2 = (0 : Int) then some ([mI 1], h2) else (if inA x1 4 then (if (h2 134 x1) = (-1 : Int) then some ([mI 2], h2) else (if inA x1 4 then (if inI (2 * x2) then (if (h2 134 x1) < (2 * x2) then some ([mI 3], h2) else X xs d k_M_wrongSeen 31 [mR 130, mI x1, mI x2, mI 0] [] h2) else none) else none)) else none))))) := (C_in xs d 184 p_M_wrongSeen _ h).trans ((X_blk xs d k_M_wrongSeen [31] 66 0 _ _ h).trans rfl)
theorem e_M_wrongSeen_31 (xs : List Int) (d : Nat) (x1 x2 x3 : Int) (h : mM) : X xs d k_M_wrongSeen 31 [mR 130, mI x1, mI x2, mI x3] [] h = (if inI (2 * x2) then (if x3 < (2 * x2) then (if inI (60 * x1) then (if inI ((60 * x1) + x3) then (if inA ((60 * x1) + x3) 240 then (if inL ((fLshl 1 (h 131 0)) - 1) then cI (C xs d 92 0 [mL (h 135 ((60 * x1) + x3)), mL 0, mL ((fLshl 1 (h 131 0)) - 1)] h) (fun v1 h1 => (if v1 = (0 : Int) then some ([mI 5], h1) else (if inI (x3 + 1) then X xs d k_M_wrongSeen 31 [mR 130, mI x1, mI x2, mI (x3 + 1)] [] h1 else none))) else none) else none) else none) else none) else some ([mI 0], h)) else none) := ((X_blk xs d k_M_wrongSeen [31] 66 31 _ _ h).trans rfl)
theorem c_M_isWay (xs : List Int) (d : Nat) (x1 x2 : Int) (h : mM) : C xs d 185 0 [mR 130, mI x1, mI x2] h = X xs d k_M_isWay 2 [mR 130, mI x1, mI x2, mI 0, mC 0, mC 0, mC 0] [] h := (C_in xs d 185 p_M_isWay _ h).trans ((X_blk xs d k_M_isWay [2, 21, 41] 72 0 _ _ h).trans rfl)
theorem e_M_isWay_2 (xs : List Int) (d : Nat) (x1 x2 x3 : Int) (x4 x5 x6 : mv) (h : mM) : X xs d k_M_isWay 2 [mR 130, mI x1, mI x2, mI x3, x4, x5, x6] [] h = (if x3 < x2 then (if inI (60 * x1) then (if inI (2 * x3) then (if inI ((60 * x1) + (2 * x3)) then (if inA ((60 * x1) + (2 * x3)) 240 then X xs d k_M_isWay 21 [mR 130, mI x1, mI x2, mI x3, mI (fL2i (h 135 ((60 * x1) + (2 * x3)))), mI 0, mI 0] [] h else none) else none) else none) else none) else some ([mI 1], h)) := ((X_blk xs d k_M_isWay [2, 21, 41] 72 2 _ _ h).trans rfl)
theorem e_M_isWay_21 (xs : List Int) (d : Nat) (x1 x2 x3 x4 x5 x6 : Int) (h : mM) : X xs d k_M_isWay 21 [mR 130, mI x1, mI x2, mI x3, mI x4, mI x5, mI x6] [] h = (if x6 < (h 131 0) then cI (C xs d 112 0 [mR 130, mI x4, mI x6] h) (fun v1 h1 => (if v1 = (0 : Int) then X xs d k_M_isWay 41 [mR 130, mI x1, mI x2, mI x3, mI x4, mI x5, mI x6] [mI 0, mI x5] h1 else (if inA x6 7 then X xs d k_M_isWay 41 [mR 130, mI x1, mI x2, mI x3, mI x4, mI x5, mI x6] [mI (fShl 1 (h1 143 x6)), mI x5] h1 else none))) else (if inI (60 * x1) then (if inI (2 * x3) then (if inI ((60 * x1) + (2 * x3)) then (if inI (((60 * x1) + (2 * x3)) + 1) then (if inA (((60 * x1) + (2 * x3)) + 1) 240 then (if x5 = (h 135 (((60 * x1) + (2 * x3)) + 1)) then (if inI (x3 + 1) then X xs d k_M_isWay 2 [mR 130, mI x1, mI x2, mI (x3 + 1), mI x4, mI x5, mI x6] [] h else none) else some ([mI 0], h)) else none) else none) else none) else none) else none)) := ((X_blk xs d k_M_isWay [2, 21, 41] 72 21 _ _ h).trans rfl)
theorem e_M_isWay_41 (xs : List Int) (d : Nat) (x1 x2 x3 x4 x5 x6 s1 s0 : Int) (h : mM) : X xs d k_M_isWay 41 [mR 130, mI x1, mI x2, mI x3, mI x4, mI x5, mI x6] [mI s1, mI s0] h = (if inI (x6 + 1) then X xs d k_M_isWay 21 [mR 130, mI x1, mI x2, mI x3, mI x4, mI (fOr s0 s1), mI (x6 + 1)] [] h else none) := ((X_blk xs d k_M_isWay [2, 21, 41] 72 41 _ _ h).trans rfl)
theorem c_M_counts (xs : List Int) (d : Nat) (h : mM) : C xs d 186 0 [mR 130] h = X xs d k_M_counts 2 [mR 130, mI 0] [] h := (C_in xs d 186 p_M_counts _ h).trans ((X_blk xs d k_M_counts [2, 19] 48 0 _ _ h).trans rfl)
theorem e_M_counts_2 (xs : List Int) (d : Nat) (x1 : Int) (h : mM) : X xs d k_M_counts 2 [mR 130, mI x1] [] h = (if x1 < (h 131 0) then (if (h 130 34) = (0 : Int) then (if inA x1 7 then (if inA x1 7 then X xs d k_M_counts 19 [mR 130, mI x1] [] (upM h 144 x1 (h 143 x1)) else none) else none) else X xs d k_M_counts 19 [mR 130, mI x1] [] h) else (if inI ((h 130 34) + 1) then some ([], (upM h 130 34 ((h 130 34) + 1))) else none)) := ((X_blk xs d k_M_counts [2, 19] 48 2 _ _ h).trans rfl)
theorem e_M_counts_19 (xs : List Int) (d : Nat) (x1 : Int) (h : mM) : X xs d k_M_counts 19 [mR 130, mI x1] [] h = (if inI (7 * x1) then (if inA x1 7 then (if inI ((7 * x1) + (h 143 x1)) then (if inA ((7 * x1) + (h 143 x1)) 49 then (if inI ((h 145 ((7 * x1) + (h 143 x1))) + 1) then (if inA ((7 * x1) + (h 143 x1)) 49 then (if inI (x1 + 1) then X xs d k_M_counts 2 [mR 130, mI (x1 + 1)] [] (upM h 145 ((7 * x1) + (h 143 x1)) ((h 145 ((7 * x1) + (h 143 x1))) + 1)) else none) else none) else none) else none) else none) else none) else none) := ((X_blk xs d k_M_counts [2, 19] 48 19 _ _ h).trans rfl)
theorem c_M_mayHave (xs : List Int) (d : Nat) (x1 x2 : Int) (h : mM) : C xs d 187 0 [mR 130, mI x1, mI x2] h = (if x1 = x2 then X xs d k_M_mayHave 6 [mR 130, mI x1, mI x2, mC 0, mC 0] [mI 0] h else X xs d k_M_mayHave 6 [mR 130, mI x1, mI x2, mC 0, mC 0] [mI 1] h) := (C_in xs d 187 p_M_mayHave _ h).trans ((X_blk xs d k_M_mayHave [6, 9, 22, 23] 33 0 _ _ h).trans rfl)
theorem e_M_mayHave_6 (xs : List Int) (d : Nat) (x1 x2 s0 : Int) (h : mM) : X xs d k_M_mayHave 6 [mR 130, mI x1, mI x2, mC 0, mC 0] [mI s0] h = X xs d k_M_mayHave 9 [mR 130, mI x1, mI x2, mI s0, mI 0] [] h := ((X_blk xs d k_M_mayHave [6, 9, 22, 23] 33 6 _ _ h).trans rfl)
theorem e_M_mayHave_9 (xs : List Int) (d : Nat) (x1 x2 x3 x4 : Int) (h : mM) : X xs d k_M_mayHave 9 [mR 130, mI x1, mI x2, mI x3, mI x4] [] h = (if x4 < x1 then (if x3 = (0 : Int) then X xs d k_M_mayHave 22 [mR 130, mI x1, mI x2, mI x3, mI x4] [] h else (if inA x4 7 then (if (h 143 x4) = x2 then X xs d k_M_mayHave 22 [mR 130, mI x1, mI x2, mI x3, mI x4] [] h else X xs d k_M_mayHave 23 [mR 130, mI x1, mI x2, mI x3, mI x4] [mI 1] h) else none)) else (if 0 ≤ x3 ∧ x3 ≤ 1 then some ([mI x3], h) else none)) := ((X_blk xs d k_M_mayHave [6, 9, 22, 23] 33 9 _ _ h).trans rfl)
theorem e_M_mayHave_22 (xs : List Int) (d : Nat) (x1 x2 x3 x4 : Int) (h : mM) : X xs d k_M_mayHave 22 [mR 130, mI x1, mI x2, mI x3, mI x4] [] h = X xs d k_M_mayHave 23 [mR 130, mI x1, mI x2, mI x3, mI x4] [mI 0] h := ((X_blk xs d k_M_mayHave [6, 9, 22, 23] 33 22 _ _ h).trans rfl)
theorem e_M_mayHave_23 (xs : List Int) (d : Nat) (x1 x2 x3 x4 s0 : Int) (h : mM) : X xs d k_M_mayHave 23 [mR 130, mI x1, mI x2, mI x3, mI x4] [mI s0] h = (if inI (x4 + 1) then X xs d k_M_mayHave 9 [mR 130, mI x1, mI x2, mI s0, mI (x4 + 1)] [] h else none) := ((X_blk xs d k_M_mayHave [6, 9, 22, 23] 33 23 _ _ h).trans rfl)
theorem c_M_laysWays (xs : List Int) (d : Nat) (x1 x2 : Int) (h : mM) : C xs d 188 0 [mR 130, mI x1, mI x2] h = X xs d k_M_laysWays 10 [mR 130, mI x1, mI x2, mI (h 131 0), mI 0] [] (upM h 130 34 0) := (C_in xs d 188 p_M_laysWays _ h).trans ((X_blk xs d k_M_laysWays [10, 40] 93 0 _ _ h).trans rfl)
theorem e_M_laysWays_10 (xs : List Int) (d : Nat) (x1 x2 x3 x4 : Int) (h : mM) : X xs d k_M_laysWays 10 [mR 130, mI x1, mI x2, mI x3, mI x4] [] h = (if x4 < (49 : Int) then (if inA x4 49 then (if inI (x4 + 1) then X xs d k_M_laysWays 10 [mR 130, mI x1, mI x2, mI x3, mI (x4 + 1)] [] (upM h 145 x4 0) else none) else none) else (if x3 = (0 : Int) then cI (C xs d 185 0 [mR 130, mI x1, mI x2] h) (fun v1 h1 => (if v1 = (0 : Int) then some ([], (upM h1 130 34 0)) else some ([], (upM h1 130 34 1)))) else X xs d k_M_laysWays 40 [mR 130, mI x1, mI x2, mI x3, mI 0] [] (upM h 143 0 (-1)))) := ((X_blk xs d k_M_laysWays [10, 40] 93 10 _ _ h).trans rfl)
theorem e_M_laysWays_40 (xs : List Int) (d : Nat) (x1 x2 x3 x4 : Int) (h : mM) : X xs d k_M_laysWays 40 [mR 130, mI x1, mI x2, mI x3, mI x4] [] h = (if x4 < (0 : Int) then some ([], h) else (if inA x4 7 then (if inI ((h 143 x4) + 1) then (if inA x4 7 then (if inA x4 7 then (if ((upM h 143 x4 ((h 143 x4) + 1)) 143 x4) = x3 then (if inI (x4 + (-1)) then X xs d k_M_laysWays 40 [mR 130, mI x1, mI x2, mI x3, mI (x4 + (-1))] [] (upM h 143 x4 ((h 143 x4) + 1)) else none) else (if inA x4 7 then cI (C xs d 187 0 [mR 130, mI x4, mI ((upM h 143 x4 ((h 143 x4) + 1)) 143 x4)] (upM h 143 x4 ((h 143 x4) + 1))) (fun v1 h1 => (if v1 = (0 : Int) then X xs d k_M_laysWays 40 [mR 130, mI x1, mI x2, mI x3, mI x4] [] h1 else (if inI (x4 + 1) then (if (x4 + 1) = x3 then cI (C xs d 185 0 [mR 130, mI x1, mI x2] h1) (fun v2 h2 => (if v2 = (0 : Int) then X xs d k_M_laysWays 40 [mR 130, mI x1, mI x2, mI x3, mI x4] [] h2 else cV (C xs d 186 0 [mR 130] h2) (fun h3 => X xs d k_M_laysWays 40 [mR 130, mI x1, mI x2, mI x3, mI x4] [] h3))) else (if inI (x4 + 1) then (if inA (x4 + 1) 7 then X xs d k_M_laysWays 40 [mR 130, mI x1, mI x2, mI x3, mI (x4 + 1)] [] (upM h1 143 (x4 + 1) (-1)) else none) else none)) else none))) else none)) else none) else none) else none) else none)) := ((X_blk xs d k_M_laysWays [10, 40] 93 40 _ _ h).trans rfl)
theorem c_M_fits (xs : List Int) (d : Nat) (x1 x2 : Int) (h : mM) : C xs d 189 0 [mR 130, mI x1, mI x2] h = cI (C xs d 184 0 [mR 130, mI x1, mI x2] h) (fun v1 h1 => (if (0 : Int) < v1 then cI (C xs d 82 0 [mR 130, mI v1] h1) (fun v4 h4 => some ([mI v4], h4)) else cV (C xs d 188 0 [mR 130, mI x1, mI x2] h1) (fun h2 => cI (C xs d 83 0 [mR 130, mI (h2 130 34)] h2) (fun v3 h3 => some ([mI v3], h3))))) := (C_in xs d 189 p_M_fits _ h).trans ((X_blk xs d k_M_fits [] 25 0 _ _ h).trans rfl)
theorem c_M_firstOf (xs : List Int) (d : Nat) (x1 x2 x3 : Int) (h : mM) : C xs d 190 0 [mR 130, mI x1, mI x2, mI x3] h = cI (C xs d 126 0 [mR 130, mI x3] h) (fun v1 h1 => (if v1 = (0 : Int) then X xs d k_M_firstOf 10 [mR 130, mI x1, mI x2, mI x3, mC 0] [mI 1] h1 else cI (C xs d 184 0 [mR 130, mI x1, mI x2] h1) (fun v2 h2 => X xs d k_M_firstOf 10 [mR 130, mI x1, mI x2, mI x3, mC 0] [mI v2] h2))) := (C_in xs d 190 p_M_firstOf _ h).trans ((X_blk xs d k_M_firstOf [10] 40 0 _ _ h).trans rfl)
theorem e_M_firstOf_10 (xs : List Int) (d : Nat) (x1 x2 x3 s0 : Int) (h : mM) : X xs d k_M_firstOf 10 [mR 130, mI x1, mI x2, mI x3, mC 0] [mI s0] h = (if (0 : Int) < s0 then cI (C xs d 82 0 [mR 130, mI s0] h) (fun v4 h4 => some ([mI v4], h4)) else cV (C xs d 188 0 [mR 130, mI x1, mI x2] h) (fun h1 => (if (h1 130 34) = (0 : Int) then cI (C xs d 82 0 [mR 130, mI 6] h1) (fun v3 h3 => some ([mI v3], h3)) else (if inA x3 7 then cI (C xs d 83 0 [mR 130, mI (h1 144 x3)] h1) (fun v2 h2 => some ([mI v2], h2)) else none)))) := ((X_blk xs d k_M_firstOf [10] 40 10 _ _ h).trans rfl)
theorem c_M_oddsThat (xs : List Int) (d : Nat) (x1 x2 x3 x4 : Int) (h : mM) : C xs d 191 0 [mR 130, mI x1, mI x2, mI x3, mI x4] h = cI (C xs d 127 0 [mR 130, mI x3, mI x4] h) (fun v1 h1 => (if v1 = (0 : Int) then X xs d k_M_oddsThat 11 [mR 130, mI x1, mI x2, mI x3, mI x4, mC 0] [mI 1] h1 else cI (C xs d 184 0 [mR 130, mI x1, mI x2] h1) (fun v2 h2 => X xs d k_M_oddsThat 11 [mR 130, mI x1, mI x2, mI x3, mI x4, mC 0] [mI v2] h2))) := (C_in xs d 191 p_M_oddsThat _ h).trans ((X_blk xs d k_M_oddsThat [11] 49 0 _ _ h).trans rfl)
theorem e_M_oddsThat_11 (xs : List Int) (d : Nat) (x1 x2 x3 x4 s0 : Int) (h : mM) : X xs d k_M_oddsThat 11 [mR 130, mI x1, mI x2, mI x3, mI x4, mC 0] [mI s0] h = (if (0 : Int) < s0 then cI (C xs d 81 0 [mR 130, mI s0] h) (fun v4 h4 => (if 0 ≤ v4 ∧ v4 ≤ 1 then some ([mI v4], h4) else none)) else cV (C xs d 188 0 [mR 130, mI x1, mI x2] h) (fun h1 => (if (h1 130 34) = (0 : Int) then cI (C xs d 81 0 [mR 130, mI 6] h1) (fun v3 h3 => (if 0 ≤ v3 ∧ v3 ≤ 1 then some ([mI v3], h3) else none)) else (if inI (7 * x3) then (if inI ((7 * x3) + x4) then (if inA ((7 * x3) + x4) 49 then cI (C xs d 84 0 [mR 130, mL (h1 145 ((7 * x3) + x4)), mL (h1 130 34)] h1) (fun v2 h2 => (if 0 ≤ v2 ∧ v2 ≤ 1 then some ([mI v2], h2) else none)) else none) else none) else none)))) := ((X_blk xs d k_M_oddsThat [11] 49 11 _ _ h).trans rfl)
theorem c_M_mostAlike (xs : List Int) (d : Nat) (x1 : Int) (h : mM) : C xs d 192 0 [mR 130, mI x1] h = X xs d k_M_mostAlike 4 [mR 130, mI x1, mI 0, mI 0] [] h := (C_in xs d 192 p_M_mostAlike _ h).trans ((X_blk xs d k_M_mostAlike [4] 30 0 _ _ h).trans rfl)
theorem e_M_mostAlike_4 (xs : List Int) (d : Nat) (x1 x2 x3 : Int) (h : mM) : X xs d k_M_mostAlike 4 [mR 130, mI x1, mI x2, mI x3] [] h = (if x3 < (h 131 0) then (if inI (7 * x1) then (if inI ((7 * x1) + x3) then (if inA ((7 * x1) + x3) 49 then (if inI (x3 + 1) then X xs d k_M_mostAlike 4 [mR 130, mI x1, mI (max x2 (h 145 ((7 * x1) + x3))), mI (x3 + 1)] [] h else none) else none) else none) else none) else some ([mI x2], h)) := ((X_blk xs d k_M_mostAlike [4] 30 4 _ _ h).trans rfl)
theorem c_M_ask (xs : List Int) (d : Nat) (x1 x2 : Int) (h : mM) : C xs d 193 0 [mR 130, mI x1, mI x2] h = cI (C xs d 184 0 [mR 130, mI x1, mI x2] h) (fun v1 h1 => (if (0 : Int) < v1 then cI (C xs d 82 0 [mR 130, mI v1] h1) (fun v4 h4 => some ([mI v4], h4)) else cV (C xs d 188 0 [mR 130, mI x1, mI x2] h1) (fun h2 => (if (h2 130 34) < (2 : Int) then cI (C xs d 82 0 [mR 130, mI 6] h2) (fun v3 h3 => some ([mI v3], h3)) else X xs d k_M_ask 27 [mR 130, mI x1, mI x2, mI v1, mI 0, mI 1] [] h2)))) := (C_in xs d 193 p_M_ask _ h).trans ((X_blk xs d k_M_ask [27, 42] 53 0 _ _ h).trans rfl)
theorem e_M_ask_27 (xs : List Int) (d : Nat) (x1 x2 x3 x4 x5 : Int) (h : mM) : X xs d k_M_ask 27 [mR 130, mI x1, mI x2, mI x3, mI x4, mI x5] [] h = (if x5 < (h 131 0) then cI (C xs d 192 0 [mR 130, mI x5] h) (fun v2 h2 => cI (C xs d 192 0 [mR 130, mI x4] h2) (fun v3 h3 => (if v2 < v3 then X xs d k_M_ask 42 [mR 130, mI x1, mI x2, mI x3, mI x5, mI x5] [] h3 else X xs d k_M_ask 42 [mR 130, mI x1, mI x2, mI x3, mI x4, mI x5] [] h3))) else cI (C xs d 83 0 [mR 130, mI x4] h) (fun v1 h1 => some ([mI v1], h1))) := ((X_blk xs d k_M_ask [27, 42] 53 27 _ _ h).trans rfl)
theorem e_M_ask_42 (xs : List Int) (d : Nat) (x1 x2 x3 x4 x5 : Int) (h : mM) : X xs d k_M_ask 42 [mR 130, mI x1, mI x2, mI x3, mI x4, mI x5] [] h = (if inI (x5 + 1) then X xs d k_M_ask 27 [mR 130, mI x1, mI x2, mI x3, mI x4, mI (x5 + 1)] [] h else none) := ((X_blk xs d k_M_ask [27, 42] 53 42 _ _ h).trans rfl)
theorem c_M_wrongLaw (xs : List Int) (d : Nat) (x1 x2 : Int) (h : mM) : C xs d 194 0 [mR 130, mI x1, mI x2] h = cI (C xs d 85 0 [mI x1] h) (fun v1 h1 => (if v1 = (0 : Int) then some ([mI 1], h1) else cI (C xs d 92 0 [mL x2, mL 0, mL 15] h1) (fun v2 h2 => (if v2 = (0 : Int) then some ([mI 1], h2) else (if inA x1 4 then (if (h2 134 x1) = (-1 : Int) then some ([mI 2], h2) else (if inA x1 4 then (if inI (3 * x2) then (if (h2 134 x1) < (3 * x2) then some ([mI 3], h2) else X xs d k_M_wrongLaw 31 [mR 130, mI x1, mI x2, mI 0, mC 0] [] h2) else none) else none)) else none))))) := (C_in xs d 194 p_M_wrongLaw _ h).trans ((X_blk xs d k_M_wrongLaw [31] 81 0 _ _ h).trans rfl)
theorem e_M_wrongLaw_31 (xs : List Int) (d : Nat) (x1 x2 x3 : Int) (x4 : mv) (h : mM) : X xs d k_M_wrongLaw 31 [mR 130, mI x1, mI x2, mI x3, x4] [] h = (if x3 < x2 then (if inI (60 * x1) then (if inI (3 * x3) then (if inI ((60 * x1) + (3 * x3)) then (if inA ((60 * x1) + (3 * x3)) 240 then cI (C xs d 92 0 [mL (h 135 ((60 * x1) + (3 * x3))), mL 0, mL 9] h) (fun v1 h1 => (if v1 = (0 : Int) then some ([mI 5], h1) else (if inI (((60 * x1) + (3 * x3)) + 1) then (if inA (((60 * x1) + (3 * x3)) + 1) 240 then cI (C xs d 92 0 [mL (h1 135 (((60 * x1) + (3 * x3)) + 1)), mL 0, mL 59] h1) (fun v2 h2 => (if v2 = (0 : Int) then some ([mI 5], h2) else (if inI (((60 * x1) + (3 * x3)) + 2) then (if inA (((60 * x1) + (3 * x3)) + 2) 240 then cI (C xs d 92 0 [mL (h2 135 (((60 * x1) + (3 * x3)) + 2)), mL 0, mL 200] h2) (fun v3 h3 => (if v3 = (0 : Int) then some ([mI 5], h3) else (if inI (x3 + 1) then X xs d k_M_wrongLaw 31 [mR 130, mI x1, mI x2, mI (x3 + 1), mI ((60 * x1) + (3 * x3))] [] h3 else none))) else none) else none))) else none) else none))) else none) else none) else none) else none) else some ([mI 0], h)) := ((X_blk xs d k_M_wrongLaw [31] 81 31 _ _ h).trans rfl)
theorem c_M_isLaw (xs : List Int) (d : Nat) (x1 x2 x3 : Int) (h : mM) : C xs d 195 0 [mR 130, mI x1, mI x2, mI x3] h = X xs d k_M_isLaw 2 [mR 130, mI x1, mI x2, mI x3, mI 0, mC 0] [] h := (C_in xs d 195 p_M_isLaw _ h).trans ((X_blk xs d k_M_isLaw [2] 58 0 _ _ h).trans rfl)
theorem e_M_isLaw_2 (xs : List Int) (d : Nat) (x1 x2 x3 x4 : Int) (x5 : mv) (h : mM) : X xs d k_M_isLaw 2 [mR 130, mI x1, mI x2, mI x3, mI x4, x5] [] h = (if x4 < x3 then (if inI (60 * x2) then (if inI (3 * x4) then (if inI ((60 * x2) + (3 * x4)) then (if 0 ≤ x1 ∧ 0 < (10 : Int) then (if inA ((60 * x2) + (3 * x4)) 240 then (if inI (((60 * x2) + (3 * x4)) + 1) then (if inA (((60 * x2) + (3 * x4)) + 1) 240 then (if 0 ≤ x1 ∧ 0 < (10 : Int) then cI (C xs d 132 0 [mI (x1 / 10), mI (fL2i (h 135 ((60 * x2) + (3 * x4)))), mI (fL2i (h 135 (((60 * x2) + (3 * x4)) + 1))), mI (x1 % 10)] h) (fun v1 h1 => (if inI (((60 * x2) + (3 * x4)) + 2) then (if inA (((60 * x2) + (3 * x4)) + 2) 240 then (if v1 = (h1 135 (((60 * x2) + (3 * x4)) + 2)) then (if inI (x4 + 1) then X xs d k_M_isLaw 2 [mR 130, mI x1, mI x2, mI x3, mI (x4 + 1), mI ((60 * x2) + (3 * x4))] [] h1 else none) else some ([mI 0], h1)) else none) else none)) else none) else none) else none) else none) else none) else none) else none) else none) else (if 0 ≤ x1 ∧ 0 < (10 : Int) then (if (0 : Int) < (x1 % 10) then some ([mI 1], h) else some ([mI 0], h)) else none)) := ((X_blk xs d k_M_isLaw [2] 58 2 _ _ h).trans rfl)
theorem c_M_laws (xs : List Int) (d : Nat) (x1 x2 : Int) (h : mM) : C xs d 196 0 [mR 130, mI x1, mI x2] h = cI (C xs d 194 0 [mR 130, mI x1, mI x2] h) (fun v1 h1 => (if (0 : Int) < v1 then cI (C xs d 82 0 [mR 130, mI v1] h1) (fun v2 h2 => some ([mI v2], h2)) else X xs d k_M_laws 15 [mR 130, mI x1, mI x2, mI v1, mI 0, mI 11] [] h1)) := (C_in xs d 196 p_M_laws _ h).trans ((X_blk xs d k_M_laws [15, 31, 32] 45 0 _ _ h).trans rfl)
theorem e_M_laws_15 (xs : List Int) (d : Nat) (x1 x2 x3 x4 x5 : Int) (h : mM) : X xs d k_M_laws 15 [mR 130, mI x1, mI x2, mI x3, mI x4, mI x5] [] h = (if x5 < (210 : Int) then (if 0 ≤ x5 ∧ 0 < (10 : Int) then (if (0 : Int) < (x5 % 10) then cI (C xs d 195 0 [mR 130, mI x5, mI x1, mI x2] h) (fun v2 h2 => (if v2 = (0 : Int) then X xs d k_M_laws 31 [mR 130, mI x1, mI x2, mI x3, mI x4, mI x5] [mI x4] h2 else X xs d k_M_laws 32 [mR 130, mI x1, mI x2, mI x3, mI x4, mI x5] [mI 1, mI x4] h2)) else X xs d k_M_laws 31 [mR 130, mI x1, mI x2, mI x3, mI x4, mI x5] [mI x4] h) else none) else cI (C xs d 83 0 [mR 130, mI x4] h) (fun v1 h1 => some ([mI v1], h1))) := ((X_blk xs d k_M_laws [15, 31, 32] 45 15 _ _ h).trans rfl)
theorem e_M_laws_31 (xs : List Int) (d : Nat) (x1 x2 x3 x4 x5 s0 : Int) (h : mM) : X xs d k_M_laws 31 [mR 130, mI x1, mI x2, mI x3, mI x4, mI x5] [mI s0] h = X xs d k_M_laws 32 [mR 130, mI x1, mI x2, mI x3, mI x4, mI x5] [mI 0, mI s0] h := ((X_blk xs d k_M_laws [15, 31, 32] 45 31 _ _ h).trans rfl)
theorem e_M_laws_32 (xs : List Int) (d : Nat) (x1 x2 x3 x4 x5 s1 s0 : Int) (h : mM) : X xs d k_M_laws 32 [mR 130, mI x1, mI x2, mI x3, mI x4, mI x5] [mI s1, mI s0] h = (if inI (s0 + s1) then (if inI (x5 + 1) then X xs d k_M_laws 15 [mR 130, mI x1, mI x2, mI x3, mI (s0 + s1), mI (x5 + 1)] [] h else none) else none) := ((X_blk xs d k_M_laws [15, 31, 32] 45 32 _ _ h).trans rfl)
theorem c_M_lawOf (xs : List Int) (d : Nat) (x1 x2 x3 : Int) (h : mM) : C xs d 197 0 [mR 130, mI x1, mI x2, mI x3] h = (if x3 < (0 : Int) then X xs d k_M_lawOf 5 [mR 130, mI x1, mI x2, mI x3, mC 0, mC 0] [] h else (if (1 : Int) < x3 then X xs d k_M_lawOf 5 [mR 130, mI x1, mI x2, mI x3, mC 0, mC 0] [] h else cI (C xs d 194 0 [mR 130, mI x1, mI x2] h) (fun v1 h1 => X xs d k_M_lawOf 11 [mR 130, mI x1, mI x2, mI x3, mC 0, mC 0] [mI v1] h1))) := (C_in xs d 197 p_M_lawOf _ h).trans ((X_blk xs d k_M_lawOf [5, 11, 20, 45] 56 0 _ _ h).trans rfl)
theorem e_M_lawOf_5 (xs : List Int) (d : Nat) (x1 x2 x3 : Int) (h : mM) : X xs d k_M_lawOf 5 [mR 130, mI x1, mI x2, mI x3, mC 0, mC 0] [] h = X xs d k_M_lawOf 11 [mR 130, mI x1, mI x2, mI x3, mC 0, mC 0] [mI 1] h := ((X_blk xs d k_M_lawOf [5, 11, 20, 45] 56 5 _ _ h).trans rfl)
theorem e_M_lawOf_11 (xs : List Int) (d : Nat) (x1 x2 x3 s0 : Int) (h : mM) : X xs d k_M_lawOf 11 [mR 130, mI x1, mI x2, mI x3, mC 0, mC 0] [mI s0] h = (if (0 : Int) < s0 then cI (C xs d 82 0 [mR 130, mI s0] h) (fun v1 h1 => some ([mI v1], h1)) else X xs d k_M_lawOf 20 [mR 130, mI x1, mI x2, mI x3, mI s0, mI 11] [] h) := ((X_blk xs d k_M_lawOf [5, 11, 20, 45] 56 11 _ _ h).trans rfl)
theorem e_M_lawOf_20 (xs : List Int) (d : Nat) (x1 x2 x3 x4 x5 : Int) (h : mM) : X xs d k_M_lawOf 20 [mR 130, mI x1, mI x2, mI x3, mI x4, mI x5] [] h = (if x5 < (210 : Int) then (if 0 ≤ x5 ∧ 0 < (10 : Int) then (if (0 : Int) < (x5 % 10) then cI (C xs d 195 0 [mR 130, mI x5, mI x1, mI x2] h) (fun v2 h2 => (if v2 = (0 : Int) then X xs d k_M_lawOf 45 [mR 130, mI x1, mI x2, mI x3, mI x4, mI x5] [] h2 else (if x3 = (0 : Int) then (if 0 ≤ x5 ∧ 0 < (10 : Int) then cI (C xs d 83 0 [mR 130, mI (x5 / 10)] h2) (fun v4 h4 => some ([mI v4], h4)) else none) else (if 0 ≤ x5 ∧ 0 < (10 : Int) then cI (C xs d 83 0 [mR 130, mI (x5 % 10)] h2) (fun v3 h3 => some ([mI v3], h3)) else none)))) else X xs d k_M_lawOf 45 [mR 130, mI x1, mI x2, mI x3, mI x4, mI x5] [] h) else none) else cI (C xs d 82 0 [mR 130, mI 6] h) (fun v1 h1 => some ([mI v1], h1))) := ((X_blk xs d k_M_lawOf [5, 11, 20, 45] 56 20 _ _ h).trans rfl)
theorem e_M_lawOf_45 (xs : List Int) (d : Nat) (x1 x2 x3 x4 x5 : Int) (h : mM) : X xs d k_M_lawOf 45 [mR 130, mI x1, mI x2, mI x3, mI x4, mI x5] [] h = (if inI (x5 + 1) then X xs d k_M_lawOf 20 [mR 130, mI x1, mI x2, mI x3, mI x4, mI (x5 + 1)] [] h else none) := ((X_blk xs d k_M_lawOf [5, 11, 20, 45] 56 45 _ _ h).trans rfl)
theorem c_M_atLeast (xs : List Int) (d : Nat) (x1 x2 x3 : Int) (h : mM) : C xs d 198 0 [mR 130, mI x1, mI x2, mI x3] h = X xs d k_M_atLeast 2 [mR 130, mI x1, mI x2, mI x3, mI 0, mC 0, mC 0] [] h := (C_in xs d 198 p_M_atLeast _ h).trans ((X_blk xs d k_M_atLeast [2, 13, 18, 23, 50, 60] 79 0 _ _ h).trans rfl)
theorem e_M_atLeast_2 (xs : List Int) (d : Nat) (x1 x2 x3 x4 : Int) (h : mM) : X xs d k_M_atLeast 2 [mR 130, mI x1, mI x2, mI x3, mI x4, mC 0, mC 0] [] h = (if x4 < (13 : Int) then (if x4 = (0 : Int) then X xs d k_M_atLeast 13 [mR 130, mI x1, mI x2, mI x3, mI x4, mC 0, mC 0] [mL 1, mI x4, mR 146] h else X xs d k_M_atLeast 13 [mR 130, mI x1, mI x2, mI x3, mI x4, mC 0, mC 0] [mL 0, mI x4, mR 146] h) else X xs d k_M_atLeast 18 [mR 130, mI x1, mI x2, mI x3, mI 0, mC 0, mC 0] [] h) := ((X_blk xs d k_M_atLeast [2, 13, 18, 23, 50, 60] 79 2 _ _ h).trans rfl)
theorem e_M_atLeast_13 (xs : List Int) (d : Nat) (x1 x2 x3 x4 s2 s1 : Int) (h : mM) : X xs d k_M_atLeast 13 [mR 130, mI x1, mI x2, mI x3, mI x4, mC 0, mC 0] [mL s2, mI s1, mR 146] h = (if inA s1 13 then (if inI (x4 + 1) then X xs d k_M_atLeast 2 [mR 130, mI x1, mI x2, mI x3, mI (x4 + 1), mC 0, mC 0] [] (upM h 146 s1 s2) else none) else none) := ((X_blk xs d k_M_atLeast [2, 13, 18, 23, 50, 60] 79 13 _ _ h).trans rfl)
theorem e_M_atLeast_18 (xs : List Int) (d : Nat) (x1 x2 x3 x4 : Int) (x5 : mv) (h : mM) : X xs d k_M_atLeast 18 [mR 130, mI x1, mI x2, mI x3, mI x4, x5, mC 0] [] h = (if x4 < x1 then X xs d k_M_atLeast 23 [mR 130, mI x1, mI x2, mI x3, mI x4, mI 12, mC 0] [] h else X xs d k_M_atLeast 60 [mR 130, mI x1, mI x2, mI x3, mL 0, mC 0, mI x2] [] h) := ((X_blk xs d k_M_atLeast [2, 13, 18, 23, 50, 60] 79 18 _ _ h).trans rfl)
theorem e_M_atLeast_23 (xs : List Int) (d : Nat) (x1 x2 x3 x4 x5 : Int) (h : mM) : X xs d k_M_atLeast 23 [mR 130, mI x1, mI x2, mI x3, mI x4, mI x5, mC 0] [] h = (if x5 < (0 : Int) then (if inI (x4 + 1) then X xs d k_M_atLeast 18 [mR 130, mI x1, mI x2, mI x3, mI (x4 + 1), mI x5, mC 0] [] h else none) else (if inA x5 13 then (if inI (16 - x3) then (if inL ((h 146 x5) * (16 - x3)) then (if x5 = (0 : Int) then X xs d k_M_atLeast 50 [mR 130, mI x1, mI x2, mI x3, mI x4, mI x5, mC 0] [mL 0, mL ((h 146 x5) * (16 - x3)), mI x5, mR 146] h else (if inI (x5 - 1) then (if inA (x5 - 1) 13 then (if inL ((h 146 (x5 - 1)) * x3) then X xs d k_M_atLeast 50 [mR 130, mI x1, mI x2, mI x3, mI x4, mI x5, mC 0] [mL ((h 146 (x5 - 1)) * x3), mL ((h 146 x5) * (16 - x3)), mI x5, mR 146] h else none) else none) else none)) else none) else none) else none)) := ((X_blk xs d k_M_atLeast [2, 13, 18, 23, 50, 60] 79 23 _ _ h).trans rfl)
theorem e_M_atLeast_50 (xs : List Int) (d : Nat) (x1 x2 x3 x4 x5 s3 s2 s1 : Int) (h : mM) : X xs d k_M_atLeast 50 [mR 130, mI x1, mI x2, mI x3, mI x4, mI x5, mC 0] [mL s3, mL s2, mI s1, mR 146] h = (if inL (s2 + s3) then (if inA s1 13 then (if inI (x5 + (-1)) then X xs d k_M_atLeast 23 [mR 130, mI x1, mI x2, mI x3, mI x4, mI (x5 + (-1)), mC 0] [] (upM h 146 s1 (s2 + s3)) else none) else none) else none) := ((X_blk xs d k_M_atLeast [2, 13, 18, 23, 50, 60] 79 50 _ _ h).trans rfl)
theorem e_M_atLeast_60 (xs : List Int) (d : Nat) (x1 x2 x3 x4 x6 : Int) (h : mM) : X xs d k_M_atLeast 60 [mR 130, mI x1, mI x2, mI x3, mL x4, mC 0, mI x6] [] h = (if x6 < (13 : Int) then (if inA x6 13 then (if inL (x4 + (h 146 x6)) then (if inI (x6 + 1) then X xs d k_M_atLeast 60 [mR 130, mI x1, mI x2, mI x3, mL (x4 + (h 146 x6)), mC 0, mI (x6 + 1)] [] h else none) else none) else none) else some ([mL x4], h)) := ((X_blk xs d k_M_atLeast [2, 13, 18, 23, 50, 60] 79 60 _ _ h).trans rfl)
theorem c_M_waysOf (xs : List Int) (d : Nat) (x0 : Int) (h : mM) : C xs d 199 0 [mI x0] h = X xs d k_M_waysOf 4 [mI x0, mL 1, mC 0, mI 0] [] h := (C_in xs d 199 p_M_waysOf _ h).trans ((X_blk xs d k_M_waysOf [4] 20 0 _ _ h).trans rfl)
theorem e_M_waysOf_4 (xs : List Int) (d : Nat) (x0 x1 x3 : Int) (h : mM) : X xs d k_M_waysOf 4 [mI x0, mL x1, mC 0, mI x3] [] h = (if x3 < x0 then (if inL (x1 * 16) then (if inI (x3 + 1) then X xs d k_M_waysOf 4 [mI x0, mL (x1 * 16), mC 0, mI (x3 + 1)] [] h else none) else none) else some ([mL x1], h)) := ((X_blk xs d k_M_waysOf [4] 20 4 _ _ h).trans rfl)
theorem c_M_errorOf (xs : List Int) (d : Nat) (x1 x2 x3 : Int) (h : mM) : C xs d 200 0 [mR 130, mI x1, mI x2, mI x3] h = (if x3 = (0 : Int) then cL (C xs d 199 0 [mI x1] h) (fun v2 h2 => cL (C xs d 198 0 [mR 130, mI x1, mI x2, mI (h2 131 1)] h2) (fun v3 h3 => (if inL (v2 - v3) then some ([mL (v2 - v3)], h3) else none))) else cL (C xs d 198 0 [mR 130, mI x1, mI x2, mI (h 131 2)] h) (fun v1 h1 => some ([mL v1], h1))) := (C_in xs d 200 p_M_errorOf _ h).trans ((X_blk xs d k_M_errorOf [] 28 0 _ _ h).trans rfl)
theorem c_M_error (xs : List Int) (d : Nat) (x1 x2 x3 : Int) (h : mM) : C xs d 201 0 [mR 130, mI x1, mI x2, mI x3] h = cI (C xs d 92 0 [mL x1, mL 0, mL 12] h) (fun v1 h1 => (if v1 = (0 : Int) then cI (C xs d 81 0 [mR 130, mI 1] h1) (fun v2 h2 => (if 0 ≤ v2 ∧ v2 ≤ 1 then some ([mI v2], h2) else none)) else cI (C xs d 92 0 [mL x2, mL 0, mL 13] h1) (fun v3 h3 => (if v3 = (0 : Int) then cI (C xs d 81 0 [mR 130, mI 1] h3) (fun v4 h4 => (if 0 ≤ v4 ∧ v4 ≤ 1 then some ([mI v4], h4) else none)) else (if x3 < (0 : Int) then cI (C xs d 81 0 [mR 130, mI 1] h3) (fun v5 h5 => (if 0 ≤ v5 ∧ v5 ≤ 1 then some ([mI v5], h5) else none)) else (if (1 : Int) < x3 then cI (C xs d 81 0 [mR 130, mI 1] h3) (fun v9 h9 => (if 0 ≤ v9 ∧ v9 ≤ 1 then some ([mI v9], h9) else none)) else cL (C xs d 200 0 [mR 130, mI x1, mI x2, mI x3] h3) (fun v6 h6 => cL (C xs d 199 0 [mI x1] h6) (fun v7 h7 => cI (C xs d 84 0 [mR 130, mL v6, mL v7] h7) (fun v8 h8 => (if 0 ≤ v8 ∧ v8 ≤ 1 then some ([mI v8], h8) else none)))))))))) := (C_in xs d 201 p_M_error _ h).trans ((X_blk xs d k_M_error [] 36 0 _ _ h).trans rfl)
theorem c_M_cut (xs : List Int) (d : Nat) (x1 : Int) (h : mM) : C xs d 202 0 [mR 130, mI x1] h = cI (C xs d 92 0 [mL x1, mL 0, mL 12] h) (fun v1 h1 => (if v1 = (0 : Int) then cI (C xs d 82 0 [mR 130, mI 1] h1) (fun v4 h4 => some ([mI v4], h4)) else cL (C xs d 200 0 [mR 130, mI x1, mI 0, mI 0] h1) (fun v2 h2 => cL (C xs d 200 0 [mR 130, mI x1, mI 0, mI 1] h2) (fun v3 h3 => (if inL (v2 + v3) then X xs d k_M_cut 26 [mR 130, mI x1, mI 0, mL (v2 + v3), mC 0, mI 1, mC 0, mC 0] [] h3 else none))))) := (C_in xs d 202 p_M_cut _ h).trans ((X_blk xs d k_M_cut [26, 50] 61 0 _ _ h).trans rfl)
theorem e_M_cut_26 (xs : List Int) (d : Nat) (x1 x2 x3 x5 : Int) (x6 : mv) (h : mM) : X xs d k_M_cut 26 [mR 130, mI x1, mI x2, mL x3, mC 0, mI x5, x6, mC 0] [] h = (if (13 : Int) < x5 then cI (C xs d 83 0 [mR 130, mI x2] h) (fun v1 h1 => some ([mI v1], h1)) else cL (C xs d 200 0 [mR 130, mI x1, mI x5, mI 0] h) (fun v2 h2 => cL (C xs d 200 0 [mR 130, mI x1, mI x5, mI 1] h2) (fun v3 h3 => (if inL (v2 + v3) then (if (v2 + v3) < x3 then X xs d k_M_cut 50 [mR 130, mI x1, mI x5, mL (v2 + v3), mC 0, mI x5, mL (v2 + v3), mC 0] [] h3 else X xs d k_M_cut 50 [mR 130, mI x1, mI x2, mL x3, mC 0, mI x5, mL (v2 + v3), mC 0] [] h3) else none)))) := ((X_blk xs d k_M_cut [26, 50] 61 26 _ _ h).trans rfl)
theorem e_M_cut_50 (xs : List Int) (d : Nat) (x1 x2 x3 x5 x6 : Int) (h : mM) : X xs d k_M_cut 50 [mR 130, mI x1, mI x2, mL x3, mC 0, mI x5, mL x6, mC 0] [] h = (if inI (x5 + 1) then X xs d k_M_cut 26 [mR 130, mI x1, mI x2, mL x3, mC 0, mI (x5 + 1), mL x6, mC 0] [] h else none) := ((X_blk xs d k_M_cut [26, 50] 61 50 _ _ h).trans rfl)
theorem c_M_settlesAt (xs : List Int) (d : Nat) (x1 x2 : Int) (h : mM) : C xs d 203 0 [mR 130, mI x1, mI x2] h = (if inA x1 5 then (if (h 149 x1) = (-1 : Int) then X xs d k_M_settlesAt 9 [mR 130, mI x1, mI x2, mC 0] [mI 1] h else X xs d k_M_settlesAt 9 [mR 130, mI x1, mI x2, mC 0] [mI 0] h) else none) := (C_in xs d 203 p_M_settlesAt _ h).trans ((X_blk xs d k_M_settlesAt [9] 49 0 _ _ h).trans rfl)
theorem e_M_settlesAt_9 (xs : List Int) (d : Nat) (x1 x2 s0 : Int) (h : mM) : X xs d k_M_settlesAt 9 [mR 130, mI x1, mI x2, mC 0] [mI s0] h = (if s0 = (0 : Int) then (if 0 ≤ x1 ∧ 0 < (2 : Int) then (if (x1 % 2) = (0 : Int) then (if inA x1 5 then (if (h 148 x1) < x2 then (if inA x1 5 then (if inA x1 5 then (if inA x1 5 then some ([], (upM (upM h 148 x1 x2) 149 x1 (h 147 x1))) else none) else none) else none) else some ([], h)) else none) else (if inA x1 5 then (if x2 < (h 148 x1) then (if inA x1 5 then (if inA x1 5 then (if inA x1 5 then some ([], (upM (upM h 148 x1 x2) 149 x1 (h 147 x1))) else none) else none) else none) else some ([], h)) else none)) else none) else (if inA x1 5 then (if inA x1 5 then (if inA x1 5 then some ([], (upM (upM h 148 x1 x2) 149 x1 (h 147 x1))) else none) else none) else none)) := ((X_blk xs d k_M_settlesAt [9] 49 9 _ _ h).trans rfl)
theorem c_M_beginsAt (xs : List Int) (d : Nat) (x1 : Int) (h : mM) : C xs d 204 0 [mR 130, mI x1] h = cI (C xs d 158 0 [mI x1] h) (fun v1 h1 => cV (C xs d 159 0 [mR 130, mI v1] h1) (fun h2 => (if inA x1 5 then (if inA x1 5 then some ([], (upM (upM h2 147 x1 (-1)) 149 x1 (-1))) else none) else none))) := (C_in xs d 204 p_M_beginsAt _ h).trans ((X_blk xs d k_M_beginsAt [] 20 0 _ _ h).trans rfl)
theorem c_M_playing (xs : List Int) (d : Nat) (x1 : Int) (h : mM) : C xs d 205 0 [mR 130, mI x1] h = (if x1 = (0 : Int) then cI (C xs d 135 0 [mR 130] h) (fun v2 h2 => cI (C xs d 128 0 [mI v2] h2) (fun v3 h3 => some ([mI v3], h3))) else cV (C xs d 204 0 [mR 130, mI 0] h) (fun h1 => X xs d k_M_playing 11 [mR 130, mI x1, mI 0, mC 0, mC 0] [] h1)) := (C_in xs d 205 p_M_playing _ h).trans ((X_blk xs d k_M_playing [11, 57, 69, 79, 95] 110 0 _ _ h).trans rfl)
theorem e_M_playing_11 (xs : List Int) (d : Nat) (x1 x2 : Int) (x3 x4 : mv) (h : mM) : X xs d k_M_playing 11 [mR 130, mI x1, mI x2, x3, x4] [] h = cI (C xs d 158 0 [mI x2] h) (fun v1 h1 => cV (C xs d 160 0 [mR 130, mI v1] h1) (fun h2 => (if inA x2 5 then (if inI ((h2 147 x2) + 1) then (if inA x2 5 then (if inA x2 5 then (if (h2 131 0) < ((upM h2 147 x2 ((h2 147 x2) + 1)) 147 x2) then (if x2 = (0 : Int) then cI (C xs d 158 0 [mI 0] (upM h2 147 x2 ((h2 147 x2) + 1))) (fun v4 h4 => cV (C xs d 160 0 [mR 130, mI v4] h4) (fun h5 => some ([mI (h5 148 0)], h5))) else (if inI (x2 + (-1)) then (if inI ((x2 + (-1)) + 1) then (if inA ((x2 + (-1)) + 1) 5 then cV (C xs d 203 0 [mR 130, mI (x2 + (-1)), mI (h2 148 ((x2 + (-1)) + 1))] (upM h2 147 x2 ((h2 147 x2) + 1))) (fun h3 => X xs d k_M_playing 11 [mR 130, mI x1, mI (x2 + (-1)), mI ((upM h2 147 x2 ((h2 147 x2) + 1)) 147 x2), x4] [] h3) else none) else none) else none)) else (if ((upM h2 147 x2 ((h2 147 x2) + 1)) 147 x2) < (h2 131 0) then X xs d k_M_playing 57 [mR 130, mI x1, mI x2, mI ((upM h2 147 x2 ((h2 147 x2) + 1)) 147 x2), x4] [mI 1] (upM h2 147 x2 ((h2 147 x2) + 1)) else X xs d k_M_playing 57 [mR 130, mI x1, mI x2, mI ((upM h2 147 x2 ((h2 147 x2) + 1)) 147 x2), x4] [mI 0] (upM h2 147 x2 ((h2 147 x2) + 1)))) else none) else none) else none) else none))) := ((X_blk xs d k_M_playing [11, 57, 69, 79, 95] 110 11 _ _ h).trans rfl)
theorem e_M_playing_57 (xs : List Int) (d : Nat) (x1 x2 x3 s0 : Int) (x4 : mv) (h : mM) : X xs d k_M_playing 57 [mR 130, mI x1, mI x2, mI x3, x4] [mI s0] h = (if s0 = (0 : Int) then X xs d k_M_playing 69 [mR 130, mI x1, mI x2, mI x3, mI s0] [] h else (if 0 ≤ x2 ∧ 0 < (2 : Int) then (if (x2 % 2) = (0 : Int) then cI (C xs d 143 0 [mR 130, mI x3] h) (fun v1 h1 => (if v1 = (0 : Int) then X xs d k_M_playing 11 [mR 130, mI x1, mI x2, mI x3, mI s0] [] h1 else X xs d k_M_playing 69 [mR 130, mI x1, mI x2, mI x3, mI s0] [] h1)) else X xs d k_M_playing 69 [mR 130, mI x1, mI x2, mI x3, mI s0] [] h) else none)) := ((X_blk xs d k_M_playing [11, 57, 69, 79, 95] 110 57 _ _ h).trans rfl)
theorem e_M_playing_69 (xs : List Int) (d : Nat) (x1 x2 x3 x4 : Int) (h : mM) : X xs d k_M_playing 69 [mR 130, mI x1, mI x2, mI x3, mI x4] [] h = (if x4 = (0 : Int) then X xs d k_M_playing 79 [mR 130, mI x1, mI x2, mI x3, mI x4] [] h else (if 0 ≤ x2 ∧ 0 < (2 : Int) then (if (x2 % 2) = (1 : Int) then cV (C xs d 145 0 [mR 130, mI x3] h) (fun h1 => X xs d k_M_playing 79 [mR 130, mI x1, mI x2, mI x3, mI x4] [] h1) else X xs d k_M_playing 79 [mR 130, mI x1, mI x2, mI x3, mI x4] [] h) else none)) := ((X_blk xs d k_M_playing [11, 57, 69, 79, 95] 110 69 _ _ h).trans rfl)
theorem e_M_playing_79 (xs : List Int) (d : Nat) (x1 x2 x3 x4 : Int) (h : mM) : X xs d k_M_playing 79 [mR 130, mI x1, mI x2, mI x3, mI x4] [] h = (if inI (x2 + 1) then (if (x2 + 1) = x1 then cI (C xs d 135 0 [mR 130] h) (fun v2 h2 => cI (C xs d 128 0 [mI v2] h2) (fun v3 h3 => cV (C xs d 203 0 [mR 130, mI x2, mI v3] h3) (fun h4 => X xs d k_M_playing 95 [mR 130, mI x1, mI x2, mI x3, mI x4] [] h4))) else (if inI (x2 + 1) then cV (C xs d 204 0 [mR 130, mI (x2 + 1)] h) (fun h1 => X xs d k_M_playing 95 [mR 130, mI x1, mI (x2 + 1), mI x3, mI x4] [] h1) else none)) else none) := ((X_blk xs d k_M_playing [11, 57, 69, 79, 95] 110 79 _ _ h).trans rfl)
theorem e_M_playing_95 (xs : List Int) (d : Nat) (x1 x2 x3 x4 : Int) (h : mM) : X xs d k_M_playing 95 [mR 130, mI x1, mI x2, mI x3, mI x4] [] h = X xs d k_M_playing 11 [mR 130, mI x1, mI x2, mI x3, mI x4] [] h := ((X_blk xs d k_M_playing [11, 57, 69, 79, 95] 110 95 _ _ h).trans rfl)
theorem c_M_game (xs : List Int) (d : Nat) (x1 : Int) (h : mM) : C xs d 206 0 [mR 130, mI x1] h = cI (C xs d 92 0 [mL x1, mL 0, mL 4] h) (fun v1 h1 => (if v1 = (0 : Int) then cI (C xs d 82 0 [mR 130, mI 1] h1) (fun v4 h4 => some ([mI v4], h4)) else cI (C xs d 205 0 [mR 130, mI x1] h1) (fun v2 h2 => cI (C xs d 83 0 [mR 130, mI v2] h2) (fun v3 h3 => some ([mI v3], h3))))) := (C_in xs d 206 p_M_game _ h).trans ((X_blk xs d k_M_game [] 21 0 _ _ h).trans rfl)
theorem c_M_moveOf (xs : List Int) (d : Nat) (x1 : Int) (h : mM) : C xs d 207 0 [mR 130, mI x1] h = cI (C xs d 92 0 [mL x1, mL 1, mL 4] h) (fun v1 h1 => (if v1 = (0 : Int) then cI (C xs d 82 0 [mR 130, mI 1] h1) (fun v5 h5 => some ([mI v5], h5)) else cI (C xs d 205 0 [mR 130, mI x1] h1) (fun v2 h2 => (if (h2 149 0) = (h2 131 0) then cI (C xs d 82 0 [mR 130, mI 6] h2) (fun v4 h4 => some ([mI v4], h4)) else cI (C xs d 83 0 [mR 130, mI (h2 149 0)] h2) (fun v3 h3 => some ([mI v3], h3)))))) := (C_in xs d 207 p_M_moveOf _ h).trans ((X_blk xs d k_M_moveOf [] 39 0 _ _ h).trans rfl)
theorem c_M_share (xs : List Int) (d : Nat) (x1 : Int) (h : mM) : C xs d 208 0 [mR 130, mI x1] h = cI (C xs d 126 0 [mR 130, mI x1] h) (fun v1 h1 => (if v1 = (0 : Int) then cI (C xs d 81 0 [mR 130, mI 1] h1) (fun v7 h7 => (if 0 ≤ v7 ∧ v7 ≤ 1 then some ([mI v7], h7) else none)) else cI (C xs d 138 0 [mR 130, mI 2] h1) (fun v2 h2 => (if v2 = (0 : Int) then cI (C xs d 81 0 [mR 130, mI 6] h2) (fun v6 h6 => (if 0 ≤ v6 ∧ v6 ≤ 1 then some ([mI v6], h6) else none)) else cI (C xs d 129 0 [mR 130, mI x1, mI 2] h2) (fun v3 h3 => cI (C xs d 138 0 [mR 130, mI 2] h3) (fun v4 h4 => cI (C xs d 84 0 [mR 130, mL v3, mL v4] h4) (fun v5 h5 => (if 0 ≤ v5 ∧ v5 ≤ 1 then some ([mI v5], h5) else none)))))))) := (C_in xs d 208 p_M_share _ h).trans ((X_blk xs d k_M_share [] 33 0 _ _ h).trans rfl)
theorem c_M_copyWarmth (xs : List Int) (d : Nat) (x1 : Int) (h : mM) : C xs d 209 0 [mR 130, mI x1] h = cI (C xs d 85 0 [mI x1] h) (fun v1 h1 => (if v1 = (0 : Int) then cI (C xs d 82 0 [mR 130, mI 1] h1) (fun v4 h4 => some ([mI v4], h4)) else (if inA x1 4 then (if (h1 134 x1) = (-1 : Int) then cI (C xs d 82 0 [mR 130, mI 2] h1) (fun v3 h3 => some ([mI v3], h3)) else (if inA x1 4 then (if (h1 134 x1) < (h1 131 0) then cI (C xs d 82 0 [mR 130, mI 3] h1) (fun v2 h2 => some ([mI v2], h2)) else X xs d k_M_copyWarmth 32 [mR 130, mI x1, mI 0] [] h1) else none)) else none))) := (C_in xs d 209 p_M_copyWarmth _ h).trans ((X_blk xs d k_M_copyWarmth [32] 70 0 _ _ h).trans rfl)
theorem e_M_copyWarmth_32 (xs : List Int) (d : Nat) (x1 x2 : Int) (h : mM) : X xs d k_M_copyWarmth 32 [mR 130, mI x1, mI x2] [] h = (if x2 < (h 131 0) then (if inI (60 * x1) then (if inI ((60 * x1) + x2) then cI (C xs d 129 0 [mR 130, mI x2, mI 2] h) (fun v2 h2 => (if inA x1 4 then cL (C xs d 86 0 [mL v2, mI (h2 133 x1)] h2) (fun v3 h3 => (if inA ((60 * x1) + x2) 240 then (if inI (x2 + 1) then X xs d k_M_copyWarmth 32 [mR 130, mI x1, mI (x2 + 1)] [] (upM h3 135 ((60 * x1) + x2) v3) else none) else none)) else none)) else none) else none) else cI (C xs d 83 0 [mR 130, mI (h 131 0)] h) (fun v1 h1 => some ([mI v1], h1))) := ((X_blk xs d k_M_copyWarmth [32] 70 32 _ _ h).trans rfl)
theorem c_M_draw (xs : List Int) (d : Nat) (x1 : Int) (h : mM) : C xs d 210 0 [mR 130, mI x1] h = (if inI ((h 130 39) * 3261) then (if inI (((h 130 39) * 3261) + 11491) then (if 0 ≤ (((h 130 39) * 3261) + 11491) ∧ 0 < (65536 : Int) then (if 0 ≤ ((((h 130 39) * 3261) + 11491) % 65536) ∧ 0 < (8 : Int) then (if 0 ≤ (((((h 130 39) * 3261) + 11491) % 65536) / 8) ∧ 0 < x1 then some ([mI ((((((h 130 39) * 3261) + 11491) % 65536) / 8) % x1)], (upM h 130 39 ((((h 130 39) * 3261) + 11491) % 65536))) else none) else none) else none) else none) else none) := (C_in xs d 210 p_M_draw _ h).trans ((X_blk xs d k_M_draw [] 22 0 _ _ h).trans rfl)
theorem c_M_nightsBy (xs : List Int) (d : Nat) (x1 : Int) (h : mM) : C xs d 211 0 [mR 130, mI x1] h = (if inI ((h 131 7) + x1) then (if (9999 : Int) < ((h 131 7) + x1) then some ([mI 0], h) else cV (C xs d 147 0 [mR 130, mI x1] h) (fun h1 => (if inI ((h1 151 1) + x1) then some ([mI 1], (upM h1 151 1 ((h1 151 1) + x1))) else none))) else none) := (C_in xs d 211 p_M_nightsBy _ h).trans ((X_blk xs d k_M_nightsBy [] 28 0 _ _ h).trans rfl)
theorem c_M_drinksBy (xs : List Int) (d : Nat) (x1 : Int) (h : mM) : C xs d 212 0 [mR 130, mI x1] h = cI (C xs d 143 0 [mR 130, mI x1] h) (fun v1 h1 => (if v1 = (0 : Int) then some ([mI 0], h1) else (if inI ((h1 151 2) + 1) then some ([mI 1], (upM h1 151 2 ((h1 151 2) + 1))) else none))) := (C_in xs d 212 p_M_drinksBy _ h).trans ((X_blk xs d k_M_drinksBy [] 21 0 _ _ h).trans rfl)
theorem c_M_eveningsBy (xs : List Int) (d : Nat) (h : mM) : C xs d 213 0 [mR 130] h = (if (h 131 7) = (9999 : Int) then some ([mI 0], h) else cI (C xs d 149 0 [mR 130, mI (-1)] h) (fun v1 h1 => (if inI ((h1 151 1) + 1) then (if inI ((h1 151 3) + 1) then some ([mI 1], (upM (upM h1 151 1 ((h1 151 1) + 1)) 151 3 ((h1 151 3) + 1))) else none) else none))) := (C_in xs d 213 p_M_eveningsBy _ h).trans ((X_blk xs d k_M_eveningsBy [] 35 0 _ _ h).trans rfl)
theorem c_M_doesAny (xs : List Int) (d : Nat) (h : mM) : C xs d 214 0 [mR 130] h = (if (h 131 0) = (0 : Int) then some ([mI 0], h) else cI (C xs d 210 0 [mR 130, mI (h 131 0)] h) (fun v1 h1 => cI (C xs d 210 0 [mR 130, mI 16] h1) (fun v2 h2 => (if v2 < (h2 131 1) then cI (C xs d 212 0 [mR 130, mI v1] h2) (fun v4 h4 => (if 0 ≤ v4 ∧ v4 ≤ 1 then some ([mI v4], h4) else none)) else cI (C xs d 211 0 [mR 130, mI 1] h2) (fun v3 h3 => (if 0 ≤ v3 ∧ v3 ≤ 1 then some ([mI v3], h3) else none)))))) := (C_in xs d 214 p_M_doesAny _ h).trans ((X_blk xs d k_M_doesAny [] 35 0 _ _ h).trans rfl)
theorem c_M_does (xs : List Int) (d : Nat) (x1 : Int) (h : mM) : C xs d 215 0 [mR 130, mI x1] h = (if inI (x1 + 1) then (if inA (x1 + 1) 2346 then (if inA x1 2346 then (if (h 131 x1) = 13 then cI (C xs d 212 0 [mR 130, mI (h 131 (x1 + 1))] h) (fun v5 h5 => (if 0 ≤ v5 ∧ v5 ≤ 1 then some ([mI v5], h5) else none)) else (if (h 131 x1) = 14 then cI (C xs d 211 0 [mR 130, mI (h 131 (x1 + 1))] h) (fun v4 h4 => (if 0 ≤ v4 ∧ v4 ≤ 1 then some ([mI v4], h4) else none)) else (if (h 131 x1) = 15 then cI (C xs d 213 0 [mR 130] h) (fun v3 h3 => (if 0 ≤ v3 ∧ v3 ≤ 1 then some ([mI v3], h3) else none)) else (if (h 131 x1) = 16 then (if inI (x1 + 2) then (if inA (x1 + 2) 2346 then cI (C xs d 151 0 [mR 130, mI (h 131 (x1 + 1)), mI (h 131 (x1 + 2))] h) (fun v2 h2 => (if 0 ≤ v2 ∧ v2 ≤ 1 then some ([mI v2], h2) else none)) else none) else none) else (if (h 131 x1) = 17 then cI (C xs d 214 0 [mR 130] h) (fun v1 h1 => (if 0 ≤ v1 ∧ v1 ≤ 1 then some ([mI v1], h1) else none)) else some ([mI 1], h)))))) else none) else none) else none) := (C_in xs d 215 p_M_does _ h).trans ((X_blk xs d k_M_does [] 43 0 _ _ h).trans rfl)
theorem c_M_holds (xs : List Int) (d : Nat) (x1 : Int) (h : mM) : C xs d 216 0 [mR 130, mI x1] h = (if inA x1 2346 then (if inI ((h 131 x1) - 1800) then (if inI (x1 + 1) then (if inA (x1 + 1) 2346 then (if ((h 131 x1) - 1800) = (22 : Int) then cI (C xs d 134 0 [mR 130, mI (h 131 (x1 + 1))] h) (fun v1 h1 => (if 0 ≤ v1 ∧ v1 ≤ 1 then some ([mI v1], h1) else none)) else (if ((h 131 x1) - 1800) = (10 : Int) then X xs d k_M_holds 29 [mR 130, mI x1, mI ((h 131 x1) - 1800), mI (h 131 (x1 + 1)), mC 0] [mI 2, mI (h 131 (x1 + 1)), mR 130] h else X xs d k_M_holds 29 [mR 130, mI x1, mI ((h 131 x1) - 1800), mI (h 131 (x1 + 1)), mC 0] [mI 3, mI (h 131 (x1 + 1)), mR 130] h)) else none) else none) else none) else none) := (C_in xs d 216 p_M_holds _ h).trans ((X_blk xs d k_M_holds [29] 88 0 _ _ h).trans rfl)
theorem e_M_holds_29 (xs : List Int) (d : Nat) (x1 x2 x3 s2 s1 : Int) (h : mM) : X xs d k_M_holds 29 [mR 130, mI x1, mI x2, mI x3, mC 0] [mI s2, mI s1, mR 130] h = cI (C xs d 129 0 [mR 130, mI s1, mI s2] h) (fun v1 h1 => (if inI (x1 + 5) then (if inA (x1 + 5) 2346 then (if (h1 131 (x1 + 5)) = (60 : Int) then (if inI (x1 + 2) then (if inA (x1 + 2) 2346 then (if v1 < (h1 131 (x1 + 2)) then some ([mI 1], h1) else some ([mI 0], h1)) else none) else none) else (if inI (x1 + 5) then (if inA (x1 + 5) 2346 then (if (h1 131 (x1 + 5)) = (62 : Int) then (if inI (x1 + 2) then (if inA (x1 + 2) 2346 then (if (h1 131 (x1 + 2)) < v1 then some ([mI 1], h1) else some ([mI 0], h1)) else none) else none) else (if inI (x1 + 2) then (if inA (x1 + 2) 2346 then (if v1 = (h1 131 (x1 + 2)) then some ([mI 1], h1) else some ([mI 0], h1)) else none) else none)) else none) else none)) else none) else none)) := ((X_blk xs d k_M_holds [29] 88 29 _ _ h).trans rfl)
theorem c_M_behindEnds (xs : List Int) (d : Nat) (x1 : Int) (h : mM) : C xs d 217 0 [mR 130, mI x1] h = X xs d k_M_behindEnds 2 [mR 130, mI x1, mI x1, mC 0, mC 0] [] h := (C_in xs d 217 p_M_behindEnds _ h).trans ((X_blk xs d k_M_behindEnds [2, 46, 47, 58, 69] 78 0 _ _ h).trans rfl)
theorem e_M_behindEnds_2 (xs : List Int) (d : Nat) (x1 x2 : Int) (x3 x4 : mv) (h : mM) : X xs d k_M_behindEnds 2 [mR 130, mI x1, mI x2, x3, x4] [] h = (if x2 < (h 131 8) then (if inI (6 * x2) then (if inI (46 + (6 * x2)) then (if inA (46 + (6 * x2)) 2346 then (if (h 131 (46 + (6 * x2))) = (20 : Int) then (if inI (6 * x2) then (if inI (46 + (6 * x2)) then (if inI ((46 + (6 * x2)) + 4) then (if inA ((46 + (6 * x2)) + 4) 2346 then (if inI (6 * (h 131 ((46 + (6 * x2)) + 4))) then (if inI (46 + (6 * (h 131 ((46 + (6 * x2)) + 4)))) then (if inA (46 + (6 * (h 131 ((46 + (6 * x2)) + 4)))) 2346 then (if (h 131 (46 + (6 * (h 131 ((46 + (6 * x2)) + 4))))) = (19 : Int) then (if inA (h 131 ((46 + (6 * x2)) + 4)) 80 then (if (0 : Int) < (h 150 (h 131 ((46 + (6 * x2)) + 4))) then X xs d k_M_behindEnds 47 [mR 130, mI x1, mI x2, mI (h 131 ((46 + (6 * x2)) + 4)), x4] [mI 1] h else X xs d k_M_behindEnds 46 [mR 130, mI x1, mI x2, mI (h 131 ((46 + (6 * x2)) + 4)), x4] [] h) else none) else X xs d k_M_behindEnds 46 [mR 130, mI x1, mI x2, mI (h 131 ((46 + (6 * x2)) + 4)), x4] [] h) else none) else none) else none) else none) else none) else none) else none) else some ([mI x2], h)) else none) else none) else none) else some ([mI x2], h)) := ((X_blk xs d k_M_behindEnds [2, 46, 47, 58, 69] 78 2 _ _ h).trans rfl)
theorem e_M_behindEnds_46 (xs : List Int) (d : Nat) (x1 x2 x3 : Int) (x4 : mv) (h : mM) : X xs d k_M_behindEnds 46 [mR 130, mI x1, mI x2, mI x3, x4] [] h = X xs d k_M_behindEnds 47 [mR 130, mI x1, mI x2, mI x3, x4] [mI 0] h := ((X_blk xs d k_M_behindEnds [2, 46, 47, 58, 69] 78 46 _ _ h).trans rfl)
theorem e_M_behindEnds_47 (xs : List Int) (d : Nat) (x1 x2 x3 s0 : Int) (x4 : mv) (h : mM) : X xs d k_M_behindEnds 47 [mR 130, mI x1, mI x2, mI x3, x4] [mI s0] h = (if inA x3 80 then (if s0 = (0 : Int) then X xs d k_M_behindEnds 58 [mR 130, mI x1, mI x2, mI x3, mI s0] [mI 0, mI (h 150 x3), mI x3, mR 150] h else X xs d k_M_behindEnds 58 [mR 130, mI x1, mI x2, mI x3, mI s0] [mI 1, mI (h 150 x3), mI x3, mR 150] h) else none) := ((X_blk xs d k_M_behindEnds [2, 46, 47, 58, 69] 78 47 _ _ h).trans rfl)
theorem e_M_behindEnds_58 (xs : List Int) (d : Nat) (x1 x2 x3 x4 s3 s2 s1 : Int) (h : mM) : X xs d k_M_behindEnds 58 [mR 130, mI x1, mI x2, mI x3, mI x4] [mI s3, mI s2, mI s1, mR 150] h = (if inI (s2 - s3) then (if inA s1 80 then (if x4 = (0 : Int) then (if inI (x2 + 1) then X xs d k_M_behindEnds 69 [mR 130, mI x1, mI x2, mI x3, mI x4] [mI (x2 + 1)] (upM h 150 s1 (s2 - s3)) else none) else (if inI (x3 + 1) then X xs d k_M_behindEnds 69 [mR 130, mI x1, mI x2, mI x3, mI x4] [mI (x3 + 1)] (upM h 150 s1 (s2 - s3)) else none)) else none) else none) := ((X_blk xs d k_M_behindEnds [2, 46, 47, 58, 69] 78 58 _ _ h).trans rfl)
theorem e_M_behindEnds_69 (xs : List Int) (d : Nat) (x1 x2 x3 x4 s0 : Int) (h : mM) : X xs d k_M_behindEnds 69 [mR 130, mI x1, mI x2, mI x3, mI x4] [mI s0] h = X xs d k_M_behindEnds 2 [mR 130, mI x1, mI s0, mI x3, mI x4] [] h := ((X_blk xs d k_M_behindEnds [2, 46, 47, 58, 69] 78 69 _ _ h).trans rfl)
theorem c_M_lives (xs : List Int) (d : Nat) (x1 : Int) (h : mM) : C xs d 218 0 [mR 130, mI x1] h = X xs d k_M_lives 8 [mR 130, mI x1, mI 0, mC 0] [] (upM (upM h 130 39 x1) 130 40 0) := (C_in xs d 218 p_M_lives _ h).trans ((X_blk xs d k_M_lives [8, 20, 67, 87, 107, 110] 119 0 _ _ h).trans rfl)
theorem e_M_lives_8 (xs : List Int) (d : Nat) (x1 x2 : Int) (h : mM) : X xs d k_M_lives 8 [mR 130, mI x1, mI x2, mC 0] [] h = (if x2 < (5 : Int) then (if inA x2 5 then (if inI (x2 + 1) then X xs d k_M_lives 8 [mR 130, mI x1, mI (x2 + 1), mC 0] [] (upM h 151 x2 0) else none) else none) else X xs d k_M_lives 20 [mR 130, mI x1, mI 0, mC 0] [] h) := ((X_blk xs d k_M_lives [8, 20, 67, 87, 107, 110] 119 8 _ _ h).trans rfl)
theorem e_M_lives_20 (xs : List Int) (d : Nat) (x1 x2 : Int) (x3 : mv) (h : mM) : X xs d k_M_lives 20 [mR 130, mI x1, mI x2, x3] [] h = (if x2 < (h 131 8) then (if (h 130 40) = (300 : Int) then some ([], (upM h 151 4 1)) else (if inI (6 * x2) then (if inI (46 + (6 * x2)) then (if inI ((h 130 40) + 1) then (if inA (46 + (6 * x2)) 2346 then (if (h 131 (46 + (6 * x2))) = (21 : Int) then some ([], (upM h 130 40 ((h 130 40) + 1))) else cI (C xs d 215 0 [mR 130, mI (46 + (6 * x2))] (upM h 130 40 ((h 130 40) + 1))) (fun v1 h1 => (if v1 = (0 : Int) then X xs d k_M_lives 67 [mR 130, mI x1, mI x2, mI (46 + (6 * x2))] [mI 1, mI (h 151 0), mI 0, mR 151] h1 else X xs d k_M_lives 67 [mR 130, mI x1, mI x2, mI (46 + (6 * x2))] [mI 0, mI (h 151 0), mI 0, mR 151] h1))) else none) else none) else none) else none)) else some ([], h)) := ((X_blk xs d k_M_lives [8, 20, 67, 87, 107, 110] 119 20 _ _ h).trans rfl)
theorem e_M_lives_67 (xs : List Int) (d : Nat) (x1 x2 x3 s3 s2 s1 : Int) (h : mM) : X xs d k_M_lives 67 [mR 130, mI x1, mI x2, mI x3] [mI s3, mI s2, mI s1, mR 151] h = (if inI (s2 + s3) then (if inA s1 5 then (if inA x3 2346 then (if (h 131 x3) = (19 : Int) then (if inI (x3 + 1) then (if inA (x3 + 1) 2346 then (if inI ((h 131 (x3 + 1)) - 1) then (if inA x2 80 then X xs d k_M_lives 87 [mR 130, mI x1, mI x2, mI x3] [] (upM (upM h 151 s1 (s2 + s3)) 150 x2 ((h 131 (x3 + 1)) - 1)) else none) else none) else none) else none) else X xs d k_M_lives 87 [mR 130, mI x1, mI x2, mI x3] [] (upM h 151 s1 (s2 + s3))) else none) else none) else none) := ((X_blk xs d k_M_lives [8, 20, 67, 87, 107, 110] 119 67 _ _ h).trans rfl)
theorem e_M_lives_87 (xs : List Int) (d : Nat) (x1 x2 x3 : Int) (h : mM) : X xs d k_M_lives 87 [mR 130, mI x1, mI x2, mI x3] [] h = (if inA x3 2346 then (if (h 131 x3) < (1800 : Int) then X xs d k_M_lives 107 [mR 130, mI x1, mI x2, mI x3] [mR 130] h else cI (C xs d 216 0 [mR 130, mI x3] h) (fun v1 h1 => (if v1 = (0 : Int) then (if inI (x3 + 4) then (if inA (x3 + 4) 2346 then (if inI ((h1 131 (x3 + 4)) + 1) then X xs d k_M_lives 110 [mR 130, mI x1, mI x2, mI x3] [mI ((h1 131 (x3 + 4)) + 1), mR 130] h1 else none) else none) else none) else X xs d k_M_lives 107 [mR 130, mI x1, mI x2, mI x3] [mR 130] h1))) else none) := ((X_blk xs d k_M_lives [8, 20, 67, 87, 107, 110] 119 87 _ _ h).trans rfl)
theorem e_M_lives_107 (xs : List Int) (d : Nat) (x1 x2 x3 : Int) (h : mM) : X xs d k_M_lives 107 [mR 130, mI x1, mI x2, mI x3] [mR 130] h = (if inI (x2 + 1) then X xs d k_M_lives 110 [mR 130, mI x1, mI x2, mI x3] [mI (x2 + 1), mR 130] h else none) := ((X_blk xs d k_M_lives [8, 20, 67, 87, 107, 110] 119 107 _ _ h).trans rfl)
theorem e_M_lives_110 (xs : List Int) (d : Nat) (x1 x2 x3 s1 : Int) (h : mM) : X xs d k_M_lives 110 [mR 130, mI x1, mI x2, mI x3] [mI s1, mR 130] h = cI (C xs d 217 0 [mR 130, mI s1] h) (fun v1 h1 => X xs d k_M_lives 20 [mR 130, mI x1, mI v1, mI x3] [] h1) := ((X_blk xs d k_M_lives [8, 20, 67, 87, 107, 110] 119 110 _ _ h).trans rfl)
theorem c_M_live (xs : List Int) (d : Nat) (x1 : Int) (h : mM) : C xs d 219 0 [mR 130, mI x1] h = cI (C xs d 92 0 [mL x1, mL 0, mL 9999] h) (fun v1 h1 => (if v1 = (0 : Int) then cI (C xs d 82 0 [mR 130, mI 1] h1) (fun v4 h4 => some ([mI v4], h4)) else (if (h1 131 8) = (-1 : Int) then cI (C xs d 82 0 [mR 130, mI 6] h1) (fun v3 h3 => some ([mI v3], h3)) else cV (C xs d 218 0 [mR 130, mI x1] h1) (fun h2 => X xs d k_M_live 25 [mR 130, mI x1, mI 0] [] h2)))) := (C_in xs d 219 p_M_live _ h).trans ((X_blk xs d k_M_live [25] 51 0 _ _ h).trans rfl)
theorem e_M_live_25 (xs : List Int) (d : Nat) (x1 x2 : Int) (h : mM) : X xs d k_M_live 25 [mR 130, mI x1, mI x2] [] h = (if x2 < (5 : Int) then (if inA x2 5 then (if inA x2 5 then (if inI (x2 + 1) then X xs d k_M_live 25 [mR 130, mI x1, mI (x2 + 1)] [] (upM h 152 x2 (h 151 x2)) else none) else none) else none) else cI (C xs d 83 0 [mR 130, mI (h 130 40)] (upM h 130 44 1)) (fun v1 h1 => some ([mI v1], h1))) := ((X_blk xs d k_M_live [25] 51 25 _ _ h).trans rfl)
theorem c_M_lived (xs : List Int) (d : Nat) (x1 : Int) (h : mM) : C xs d 220 0 [mR 130, mI x1] h = (if x1 < (0 : Int) then cI (C xs d 82 0 [mR 130, mI 1] h) (fun v1 h1 => some ([mI v1], h1)) else (if (4 : Int) < x1 then cI (C xs d 82 0 [mR 130, mI 1] h) (fun v4 h4 => some ([mI v4], h4)) else (if (h 130 44) = (0 : Int) then cI (C xs d 82 0 [mR 130, mI 6] h) (fun v2 h2 => some ([mI v2], h2)) else (if inA x1 5 then cI (C xs d 83 0 [mR 130, mI (h 152 x1)] h) (fun v3 h3 => some ([mI v3], h3)) else none)))) := (C_in xs d 220 p_M_lived _ h).trans ((X_blk xs d k_M_lived [] 28 0 _ _ h).trans rfl)
theorem c_M_mean (xs : List Int) (d : Nat) (x1 x2 : Int) (h : mM) : C xs d 221 0 [mR 130, mI x1, mI x2] h = cI (C xs d 92 0 [mL x1, mL 0, mL 9999] h) (fun v1 h1 => (if v1 = (0 : Int) then cI (C xs d 81 0 [mR 130, mI 1] h1) (fun v2 h2 => (if 0 ≤ v2 ∧ v2 ≤ 1 then some ([mI v2], h2) else none)) else cI (C xs d 92 0 [mL x2, mL 1, mL 20] h1) (fun v3 h3 => (if v3 = (0 : Int) then cI (C xs d 81 0 [mR 130, mI 1] h3) (fun v4 h4 => (if 0 ≤ v4 ∧ v4 ≤ 1 then some ([mI v4], h4) else none)) else (if inI (x1 + x2) then (if inI ((x1 + x2) - 1) then (if (9999 : Int) < ((x1 + x2) - 1) then cI (C xs d 81 0 [mR 130, mI 1] h3) (fun v7 h7 => (if 0 ≤ v7 ∧ v7 ≤ 1 then some ([mI v7], h7) else none)) else (if (h3 131 8) = (-1 : Int) then cI (C xs d 81 0 [mR 130, mI 6] h3) (fun v6 h6 => (if 0 ≤ v6 ∧ v6 ≤ 1 then some ([mI v6], h6) else none)) else cV (C xs d 159 0 [mR 130, mI 2070] h3) (fun h5 => X xs d k_M_mean 40 [mR 130, mI x1, mI x2, mL 0, mC 0, mI 0] [] h5))) else none) else none))))) := (C_in xs d 221 p_M_mean _ h).trans ((X_blk xs d k_M_mean [40] 71 0 _ _ h).trans rfl)
theorem e_M_mean_40 (xs : List Int) (d : Nat) (x1 x2 x3 x5 : Int) (h : mM) : X xs d k_M_mean 40 [mR 130, mI x1, mI x2, mL x3, mC 0, mI x5] [] h = (if x5 < x2 then (if inI (x1 + x5) then cV (C xs d 218 0 [mR 130, mI (x1 + x5)] h) (fun h2 => cI (C xs d 138 0 [mR 130, mI 2] h2) (fun v3 h3 => (if inL (x3 + v3) then cV (C xs d 160 0 [mR 130, mI 2070] h3) (fun h4 => (if inI (x5 + 1) then X xs d k_M_mean 40 [mR 130, mI x1, mI x2, mL (x3 + v3), mC 0, mI (x5 + 1)] [] h4 else none)) else none))) else none) else cI (C xs d 84 0 [mR 130, mL x3, mL x2] h) (fun v1 h1 => (if 0 ≤ v1 ∧ v1 ≤ 1 then some ([mI v1], h1) else none))) := ((X_blk xs d k_M_mean [40] 71 40 _ _ h).trans rfl)
theorem c_M_copies (xs : List Int) (d : Nat) (x1 x2 : Int) (h : mM) : C xs d 222 0 [mR 130, mI x1, mI x2] h = X xs d k_M_copies 2 [mR 130, mI x1, mI x2, mI 0] [] h := (C_in xs d 222 p_M_copies _ h).trans ((X_blk xs d k_M_copies [2, 25] 52 0 _ _ h).trans rfl)
theorem e_M_copies_2 (xs : List Int) (d : Nat) (x1 x2 x3 : Int) (h : mM) : X xs d k_M_copies 2 [mR 130, mI x1, mI x2, mI x3] [] h = (if x3 < (414 : Int) then (if inI (414 * x2) then (if inI ((414 * x2) + x3) then (if inI (414 * x1) then (if inI ((414 * x1) + x3) then (if inA ((414 * x1) + x3) 2346 then (if inA ((414 * x2) + x3) 2346 then (if inI (x3 + 1) then X xs d k_M_copies 2 [mR 130, mI x1, mI x2, mI (x3 + 1)] [] (upM h 131 ((414 * x2) + x3) (h 131 ((414 * x1) + x3))) else none) else none) else none) else none) else none) else none) else none) else X xs d k_M_copies 25 [mR 130, mI x1, mI x2, mI 0] [] h) := ((X_blk xs d k_M_copies [2, 25] 52 2 _ _ h).trans rfl)
theorem e_M_copies_25 (xs : List Int) (d : Nat) (x1 x2 x3 : Int) (h : mM) : X xs d k_M_copies 25 [mR 130, mI x1, mI x2, mI x3] [] h = (if x3 < (7 : Int) then (if inI (7 * x2) then (if inI ((7 * x2) + x3) then (if inI (7 * x1) then (if inI ((7 * x1) + x3) then (if inA ((7 * x1) + x3) 42 then (if inA ((7 * x2) + x3) 42 then (if inI (x3 + 1) then X xs d k_M_copies 25 [mR 130, mI x1, mI x2, mI (x3 + 1)] [] (upM h 132 ((7 * x2) + x3) (h 132 ((7 * x1) + x3))) else none) else none) else none) else none) else none) else none) else none) else some ([], h)) := ((X_blk xs d k_M_copies [2, 25] 52 25 _ _ h).trans rfl)
theorem c_M_mark (xs : List Int) (d : Nat) (h : mM) : C xs d 223 0 [mR 130] h = (if (h 130 45) = (3 : Int) then cI (C xs d 82 0 [mR 130, mI 4] h) (fun v3 h3 => some ([mI v3], h3)) else (if inI ((h 130 45) + 1) then cV (C xs d 222 0 [mR 130, mI 0, mI ((h 130 45) + 1)] (upM h 130 45 ((h 130 45) + 1))) (fun h1 => cI (C xs d 83 0 [mR 130, mI (h1 130 45)] h1) (fun v2 h2 => some ([mI v2], h2))) else none)) := (C_in xs d 223 p_M_mark _ h).trans ((X_blk xs d k_M_mark [] 29 0 _ _ h).trans rfl)
theorem c_M_undo (xs : List Int) (d : Nat) (h : mM) : C xs d 224 0 [mR 130] h = (if (h 130 45) = (0 : Int) then cI (C xs d 82 0 [mR 130, mI 6] h) (fun v3 h3 => some ([mI v3], h3)) else cV (C xs d 222 0 [mR 130, mI (h 130 45), mI 0] h) (fun h1 => (if inI ((h1 130 45) - 1) then cI (C xs d 83 0 [mR 130, mI ((h1 130 45) - 1)] (upM h1 130 45 ((h1 130 45) - 1))) (fun v2 h2 => some ([mI v2], h2)) else none))) := (C_in xs d 224 p_M_undo _ h).trans ((X_blk xs d k_M_undo [] 28 0 _ _ h).trans rfl)
end
section
/-! EQUIV 0: tools -/
section
variable {ρ : Type}
theorem cI_of {o : Option (List mv × mM)} {v : Int} {h : mM} {K : Int → mM → Option ρ} {r : Option ρ} (ho : o = some ([mI v], h)) (hk : K v h = r) : cI o K = r := by subst ho; exact hk
theorem cL_of {o : Option (List mv × mM)} {v : Int} {h : mM} {K : Int → mM → Option ρ} {r : Option ρ} (ho : o = some ([mL v], h)) (hk : K v h = r) : cL o K = r := by subst ho; exact hk
theorem cV_of {o : Option (List mv × mM)} {h : mM} {K : mM → Option ρ} {r : Option ρ} (ho : o = some ([], h)) (hk : K h = r) : cV o K = r := by subst ho; exact hk
theorem cR_of {o : Option (List mv × mM)} {v : Nat} {h : mM} {K : Nat → mM → Option ρ} {r : Option ρ} (ho : o = some ([mR v], h)) (hk : K v h = r) : cR o K = r := by subst ho; exact hk
theorem if_y {c : Prop} [Decidable c] {a b r : Option ρ} (hc : c) (h : a = r) : (if c then a else b) = r := by rw [if_pos hc]; exact h
theorem if_n {c : Prop} [Decidable c] {a b r : Option ρ} (hc : ¬ c) (h : b = r) : (if c then a else b) = r := by rw [if_neg hc]; exact h
end
def b2i (P : Prop) [Decidable P] : Int := if P then 1 else 0
theorem b2i_y {P : Prop} [Decidable P] (h : P) : b2i P = 1 := if_pos h
theorem b2i_n {P : Prop} [Decidable P] (h : ¬ P) : b2i P = 0 := if_neg h
theorem b2i_0 {P : Prop} [Decidable P] : b2i P = 0 ↔ ¬ P := by
  unfold b2i
  split <;> simp_all
theorem b2i_1 {P : Prop} [Decidable P] : b2i P = 1 ↔ P := by
  unfold b2i
  split <;> simp_all
theorem b2i_01 {P : Prop} [Decidable P] : 0 ≤ b2i P ∧ b2i P ≤ 1 := by
  unfold b2i
  split <;> omega
theorem run_to {α : Type} (F : Nat → α) : ∀ {n : Nat}, (∀ i, i < n → F i = F (i + 1)) → F 0 = F n
  | 0, _ => rfl
  | n + 1, h => (run_to F (n := n) (fun i hi => h i (by omega))).trans (h n (by omega))
/-- but at these places nothing has changed -/
def Ow (L : List Nat) (h h' : mM) : Prop := ∀ a, a ∉ L → h' a = h a
theorem Ow.rf {L : List Nat} {h : mM} : Ow L h h := fun _ _ => rfl
theorem Ow.tr {L M N : List Nat} {h k g : mM} (p : Ow L h k) (q : Ow M k g) (hl : ∀ a ∈ L, a ∈ N) (hm : ∀ a ∈ M, a ∈ N) : Ow N h g := fun a ha => (q a (fun z => ha (hm a z))).trans (p a (fun z => ha (hl a z)))
theorem Ow.up {L : List Nat} {h k : mM} {b : Nat} {i v : Int} (p : Ow L h k) (hb : b ∈ L) : Ow L h (upM k b i v) := fun a ha => by
  have e : a ≠ b := fun z => ha (z ▸ hb)
  rw [← p a ha]
  funext j
  exact if_neg (fun z => e z.1)
theorem Ow.wk {L M : List Nat} {h k : mM} (p : Ow L h k) (hl : ∀ a ∈ L, a ∈ M) : Ow M h k := fun a ha => p a (fun z => ha (hl a z))
theorem Ow.at {L : List Nat} {h k : mM} (p : Ow L h k) (a : Nat) (ha : L.elem a = false) : k a = h a := p a (fun z => by rw [List.elem_iff.mpr z] at ha; cases ha)
theorem up_eq {h : mM} {a : Nat} {i v : Int} : upM h a i v a i = v := if_pos ⟨rfl, rfl⟩
theorem up_ne {h : mM} {a b : Nat} {i j v : Int} (e : b ≠ a) : upM h a i v b j = h b j := if_neg (fun z => e z.1)
theorem up_row {h : mM} {a b : Nat} {i v : Int} (e : b ≠ a) : upM h a i v b = h b := funext fun j => if_neg (fun z => e z.1)
theorem up_at {h : mM} {a : Nat} {i j v : Int} : upM h a i v a j = if j = i then v else h a j := by
  unfold upM
  by_cases e : j = i
  · rw [if_pos ⟨rfl, e⟩, if_pos e]
  · rw [if_neg (fun z => e z.2), if_neg e]
/-! sets of people as numbers -/
def sq (P : Nat → Bool) : Nat → Nat
  | 0 => 0
  | k + 1 => sq P k + (if P k then 2 ^ k else 0)
theorem sq_lt (P : Nat → Bool) : ∀ k, sq P k < 2 ^ k
  | 0 => by simp [sq]
  | k + 1 => by
    have := sq_lt P k
    rw [sq, Nat.pow_succ]
    split <;> omega
theorem sq_congr {P Q : Nat → Bool} : ∀ {k : Nat}, (∀ i, i < k → P i = Q i) → sq P k = sq Q k
  | 0, _ => rfl
  | k + 1, h => by rw [sq, sq, sq_congr (k := k) (fun i hi => h i (by omega)), h k (by omega)]
theorem or_small : ∀ p, p < 7 → ∀ x, x < 2 ^ p → fOr ((x : Nat) : Int) (fShl 1 ((p : Nat) : Int)) = ((x + 2 ^ p : Nat) : Int) := by decide +kernel
theorem shl_small : ∀ p, p < 8 → fShl 1 ((p : Nat) : Int) = ((2 ^ p : Nat) : Int) := by decide +kernel
theorem sq_or {P : Nat → Bool} {p : Nat} (hp : p < 7) : fOr ((sq P p : Nat) : Int) (fShl 1 ((p : Nat) : Int)) = ((sq P p + 2 ^ p : Nat) : Int) := or_small p hp _ (sq_lt P p)
theorem sq_y {P : Nat → Bool} {p : Nat} (h : P p = true) : sq P (p + 1) = sq P p + 2 ^ p := by rw [sq, if_pos h]
theorem sq_n {P : Nat → Bool} {p : Nat} (h : P p = false) : sq P (p + 1) = sq P p := by rw [sq, if_neg (by rw [h]; decide), Nat.add_zero]
theorem sq_small {P : Nat → Bool} {n : Nat} (h : n ≤ 7) : sq P n < 128 := Nat.lt_of_lt_of_le (sq_lt P n) (Nat.pow_le_pow_right (show 2 > 0 by omega) h)
theorem sq_bit (P : Nat → Bool) : ∀ (k i : Nat), (sq P k).testBit i = (decide (i < k) && P i)
  | 0, i => by simp [sq]
  | k + 1, i => by
    have hl := sq_lt P k
    rw [sq]
    by_cases h : P k = true
    · rw [if_pos h, Nat.add_comm]
      rcases Nat.lt_trichotomy i k with q | q | q
      · rw [Nat.testBit_two_pow_add_gt q, sq_bit P k i, decide_eq_true q, decide_eq_true (show i < k + 1 by omega)]
      · subst q
        rw [Nat.testBit_two_pow_add_eq, Nat.testBit_lt_two_pow hl, h, decide_eq_true (show i < i + 1 by omega)]
        rfl
      · have h2 : 2 ^ (k + 1) ≤ 2 ^ i := Nat.pow_le_pow_right (by omega) (by omega)
        rw [Nat.pow_succ] at h2
        rw [Nat.testBit_lt_two_pow (by omega), decide_eq_false (show ¬ i < k + 1 by omega)]
        rfl
    · rw [if_neg h, Nat.add_zero, sq_bit P k i]
      by_cases q : i = k
      · subst q
        rw [Bool.not_eq_true] at h
        rw [h, Bool.and_false, Bool.and_false]
      · have e : decide (i < k) = decide (i < k + 1) := decide_eq_decide.mpr (by omega)
        rw [e]
end
section
/-! EQUIV 1: companies, mathematically; the class's own -/
abbrev Kc := Nat → Int → Int
def CoT (b : Nat) (c : Kc) (h : mM) : Prop := h b 0 = c 0 0 ∧ h b 1 = c 1 0 ∧ (∀ i, 1 ≤ i → i ≤ 6 → h (b + 1) i = c 2 i) ∧ (∀ i, 0 ≤ i → i < c 0 0 → h (b + 2) i = c 3 i) ∧ (∀ i, 0 ≤ i → i < c 0 0 → h (b + 3) i = c 4 i) ∧ (∀ i, 0 ≤ i → i < c 0 0 → h (b + 4) i = c 5 i) ∧ (∀ i, 0 ≤ i → i < c 0 0 → h (b + 5) i = c 6 i) ∧ (∀ i, 0 ≤ i → i < c 0 0 → h (b + 6) i = c 7 i)
theorem CoT.n {b : Nat} {c : Kc} {h : mM} (k : CoT b c h) : h b 0 = c 0 0 := k.1
theorem CoT.g {b : Nat} {c : Kc} {h : mM} (k : CoT b c h) : h b 1 = c 1 0 := k.2.1
theorem CoT.r {b : Nat} {c : Kc} {h : mM} (k : CoT b c h) (i : Int) (h1 : 1 ≤ i) (h2 : i ≤ 6) : h (b + 1) i = c 2 i := k.2.2.1 i h1 h2
theorem CoT.p {b : Nat} {c : Kc} {h : mM} (k : CoT b c h) (i : Int) (h1 : 0 ≤ i) (h2 : i < c 0 0) : h (b + 2) i = c 3 i := k.2.2.2.1 i h1 h2
theorem CoT.m {b : Nat} {c : Kc} {h : mM} (k : CoT b c h) (i : Int) (h1 : 0 ≤ i) (h2 : i < c 0 0) : h (b + 3) i = c 4 i := k.2.2.2.2.1 i h1 h2
theorem CoT.w {b : Nat} {c : Kc} {h : mM} (k : CoT b c h) (i : Int) (h1 : 0 ≤ i) (h2 : i < c 0 0) : h (b + 4) i = c 5 i := k.2.2.2.2.2.1 i h1 h2
theorem CoT.l {b : Nat} {c : Kc} {h : mM} (k : CoT b c h) (i : Int) (h1 : 0 ≤ i) (h2 : i < c 0 0) : h (b + 5) i = c 6 i := k.2.2.2.2.2.2.1 i h1 h2
theorem CoT.q {b : Nat} {c : Kc} {h : mM} (k : CoT b c h) (i : Int) (h1 : 0 ≤ i) (h2 : i < c 0 0) : h (b + 6) i = c 7 i := k.2.2.2.2.2.2.2 i h1 h2
def WfP (c : Kc) (i : Int) : Prop := (0 ≤ c 3 i ∧ c 3 i ≤ 59) ∧ (0 ≤ c 4 i ∧ c 4 i ≤ 9) ∧ (0 ≤ c 5 i ∧ c 5 i ≤ 99) ∧ (0 ≤ c 6 i ∧ c 6 i ≤ 9) ∧ (c 7 i = -1 ∨ 0 ≤ c 7 i ∧ c 7 i < c 0 0)
def WfC (c : Kc) : Prop := (0 ≤ c 0 0 ∧ c 0 0 ≤ 7) ∧ (0 ≤ c 1 0 ∧ c 1 0 ≤ 20000) ∧ (0 ≤ c 2 1 ∧ c 2 1 ≤ 16) ∧ (0 ≤ c 2 2 ∧ c 2 2 ≤ 16) ∧ (1 ≤ c 2 3 ∧ c 2 3 ≤ 99) ∧ (0 ≤ c 2 4 ∧ c 2 4 ≤ 30) ∧ (1 ≤ c 2 5 ∧ c 2 5 ≤ 20) ∧ (1 ≤ c 2 6 ∧ c 2 6 ≤ 9) ∧ ∀ i, 0 ≤ i → i < c 0 0 → WfP c i
theorem mul_bd {a b A B : Int} (h1 : 0 ≤ a) (h2 : a ≤ A) (h3 : 0 ≤ b) (h4 : b ≤ B) : 0 ≤ a * b ∧ a * b ≤ A * B := ⟨Int.mul_nonneg h1 h3, Int.mul_le_mul h2 h4 h3 (by omega)⟩
theorem div_bd {a b : Int} (h1 : 0 ≤ a) (h2 : 0 < b) : 0 ≤ a / b ∧ a / b ≤ a := ⟨Int.ediv_nonneg h1 (by omega), Int.ediv_le_self b h1⟩
def farI (a b : Int) : Int := if a - b < 0 then -(a - b) else a - b
theorem farI_bd {a b : Int} (h : 0 ≤ a ∧ a ≤ 59) (k : 0 ≤ b ∧ b ≤ 59) : 0 ≤ farI a b ∧ farI a b ≤ 59 := by
  unfold farI
  split <;> omega
def wmI (x0 x1 x2 x3 : Int) : Int := max 0 (x0 * x1 - x2 / x3)
def warmI (c : Kc) (p : Int) : Int := wmI (c 2 5) (c 4 p) (farI (c 3 p) (c 3 (c 7 p))) (c 2 6)
theorem wmI_bd {x0 x1 x2 x3 : Int} (h0 : 0 ≤ x0 ∧ x0 ≤ 20) (h1 : 0 ≤ x1 ∧ x1 ≤ 9) (h2 : 0 ≤ x2) (h3 : 1 ≤ x3) : 0 ≤ wmI x0 x1 x2 x3 ∧ wmI x0 x1 x2 x3 ≤ 180 := by
  have := mul_bd h0.1 h0.2 h1.1 h1.2
  have := div_bd h2 (show 0 < x3 by omega)
  unfold wmI
  omega
theorem warmI_bd {c : Kc} (w : WfC c) {p : Int} (h : 0 ≤ p ∧ p < c 0 0) (hq : c 7 p ≠ -1) : 0 ≤ warmI c p ∧ warmI c p ≤ 180 := by
  obtain ⟨hn, hg, r1, r2, r3, r4, r5, r6, hp⟩ := w
  obtain ⟨a1, a2, a3, a4, a5⟩ := hp p h.1 h.2
  obtain ⟨b1, -⟩ := hp (c 7 p) (by omega) (by omega)
  exact wmI_bd ⟨by omega, r5.2⟩ a2 (farI_bd a1 b1).1 r6.1
/-- a row written from its beginning -/
def rowU (h : mM) (a : Nat) (i : Int) (f : Int → Int) : mM := fun a' k => if a' = a ∧ 0 ≤ k ∧ k < i then f k else h a' k
theorem rowU_0 {h : mM} {a : Nat} {f : Int → Int} : rowU h a 0 f = h := by
  funext a' k
  unfold rowU
  rw [if_neg (by omega)]
theorem rowU_up {h : mM} {a : Nat} {i v : Int} {f : Int → Int} (hi : 0 ≤ i) (hv : v = f i) : upM (rowU h a i f) a i v = rowU h a (i + 1) f := by
  funext a' k
  unfold upM rowU
  by_cases e : a' = a ∧ k = i
  · rw [if_pos e, if_pos ⟨e.1, by omega⟩, hv, e.2]
  · rw [if_neg e]
    by_cases e2 : a' = a ∧ 0 ≤ k ∧ k < i
    · rw [if_pos e2, if_pos ⟨e2.1, by omega⟩]
    · rw [if_neg e2, if_neg (fun z => by
        have : k = i := by
          by_cases q : k < i
          · exact absurd ⟨z.1, z.2.1, q⟩ e2
          · omega
        exact e ⟨z.1, this⟩)]
theorem rowU_in {h : mM} {a : Nat} {i k : Int} {f : Int → Int} (hk : 0 ≤ k ∧ k < i) : rowU h a i f a k = f k := if_pos ⟨rfl, hk⟩
theorem rowU_out {h : mM} {a : Nat} {i k : Int} {f : Int → Int} (hk : ¬ (0 ≤ k ∧ k < i)) : rowU h a i f a k = h a k := if_neg (fun z => hk z.2)
theorem rowU_ne {h : mM} {a b : Nat} {i : Int} {f : Int → Int} (e : b ≠ a) : rowU h a i f b = h b := funext fun k => if_neg (fun z => e z.1)
theorem Ow.row {L : List Nat} {h k : mM} {b : Nat} {i : Int} {f : Int → Int} (p : Ow L h k) (hb : b ∈ L) : Ow L h (rowU k b i f) := fun a ha => by
  have e : a ≠ b := fun z => ha (z ▸ hb)
  rw [rowU_ne e, p a ha]
section
variable {xs : List Int} {d : Nat} {b : Nat} {c : Kc} {h : mM}
theorem t_has (hb : b = 116 ∨ b = 12 ∨ b = 21) (x : Int) : C xs d 228 0 [mR b, mI x] h = some ([mI (b2i (0 ≤ x ∧ x < h b 0))], h) := by
  rw [c_Co_has xs d hb]
  by_cases q : x < 0
  · rw [if_pos q, b2i_n (by omega)]
  · by_cases q2 : x < h b 0
    · rw [if_neg q, if_pos q2, b2i_y (by omega)]
    · rw [if_neg q, if_neg q2, b2i_n (by omega)]
theorem t_isFull : C xs d 229 0 [mR 12] h = C xs d 229 0 [mR 12] h := rfl
theorem t_warmBy {x0 x1 x2 x3 : Int} (h0 : 0 ≤ x0 ∧ x0 ≤ 20) (h1 : 0 ≤ x1 ∧ x1 ≤ 9) (h2 : 0 ≤ x2 ∧ x2 ≤ 1000) (h3 : 1 ≤ x3) : C xs d 75 0 [mI x0, mI x1, mI x2, mI x3] h = some ([mI (wmI x0 x1 x2 x3)], h) := by
  have a1 := mul_bd h0.1 h0.2 h1.1 h1.2
  have a2 := div_bd h2.1 (show 0 < x3 by omega)
  rw [c_T_warmBy]
  unfold wmI
  refine if_y (by omega) ?_
  refine if_y (by omega) ?_
  refine if_y (by omega) ?_
  refine if_y (by omega) ?_
  by_cases q : 0 < x0 * x1 - x2 / x3
  · refine if_y (by omega) ?_
    rw [Int.max_eq_right (by omega)]
  · refine if_n (by omega) ?_
    rw [Int.max_eq_left (by omega)]
theorem t_apart (hb : b = 116 ∨ b = 12 ∨ b = 21) (k : CoT b c h) (w : WfC c) {i j : Int} (hi : 0 ≤ i ∧ i < c 0 0) (hj : 0 ≤ j ∧ j < c 0 0) : C xs d 233 0 [mR b, mI i, mI j] h = some ([mI (farI (c 3 i) (c 3 j))], h) := by
  have hn := w.1
  have a1 := (w.2.2.2.2.2.2.2.2 i hi.1 hi.2).1
  have a2 := (w.2.2.2.2.2.2.2.2 j hj.1 hj.2).1
  rw [c_Co_apart xs d hb, k.p i hi.1 hi.2, k.p j hj.1 hj.2]
  refine if_y (by omega) ?_
  refine if_y (by omega) ?_
  refine if_y (by omega) ?_
  refine if_y (by omega) ?_
  rfl
theorem t_warmOf (hb : b = 12 ∨ b = 21) (k : CoT b c h) (w : WfC c) {p : Int} (hp : 0 ≤ p ∧ p < c 0 0) : C xs d 234 0 [mR b, mI p] h = some ([mI (if c 7 p = -1 then 0 else warmI c p)], h) := by
  have hn := w.1
  obtain ⟨a1, a2, a3, a4, a5⟩ := w.2.2.2.2.2.2.2.2 p hp.1 hp.2
  rw [c_Co_warmOf xs d hb, k.q p hp.1 hp.2]
  refine if_y (by omega) ?_
  refine cI_of (t_has (by omega) _) ?_
  rw [k.n]
  by_cases q : c 7 p = -1
  · rw [if_pos (b2i_0.mpr (by omega)), if_pos q]
  · obtain ⟨b1, -⟩ := w.2.2.2.2.2.2.2.2 (c 7 p) (by omega) (by omega)
    rw [if_neg (fun z => b2i_0.mp z (by omega)), if_neg q]
    refine if_y (by omega) ?_
    refine cI_of (t_apart (by omega) k w hp (by omega)) ?_
    rw [k.r 5 (by omega) (by omega), k.r 6 (by omega) (by omega), k.m p hp.1 hp.2]
    refine cI_of (t_warmBy ⟨by have := w.2.2.2.2.2.2.1; omega, w.2.2.2.2.2.2.1.2⟩ a2 (by have := farI_bd a1 b1; omega) w.2.2.2.2.2.2.2.1.1) ?_
    rfl
theorem t_isLit (hb : b = 116 ∨ b = 12 ∨ b = 21) (k : CoT b c h) (w : WfC c) {p : Int} (hp : 0 ≤ p ∧ p < c 0 0) : C xs d 235 0 [mR b, mI p] h = some ([mI (b2i (c 2 3 ≤ c 5 p))], h) := by
  have hn := w.1
  rw [c_Co_isLit xs d hb, k.w p hp.1 hp.2, k.r 3 (by omega) (by omega)]
  refine if_y (by omega) ?_
  by_cases q : c 5 p < c 2 3
  · rw [if_pos q, b2i_n (by omega)]
  · rw [if_neg q, b2i_y (by omega)]
end
def litB (c : Kc) : Nat → Bool := fun p => decide (c 2 3 ≤ c 5 (p : Int))
def whoB (c : Kc) : Nat → Bool := fun p => decide (c 7 (p : Int) ≠ -1)
def warB (c : Kc) (t : Int) : Nat → Bool := fun p => decide (c 7 (p : Int) = t)
section
variable {xs : List Int} {d : Nat} {b : Nat} {c : Kc} {h : mM}
theorem t_litSet (hb : b = 116 ∨ b = 12 ∨ b = 21) (k : CoT b c h) (w : WfC c) : C xs d 236 0 [mR b] h = some ([mI ((sq (litB c) (c 0 0).toNat : Nat) : Int)], h) := by
  have hn := w.1
  rw [c_Co_litSet xs d hb]
  have st : ∀ i : Nat, i < (c 0 0).toNat → X xs d k_Co_litSet 4 [mR b, mI ((sq (litB c) i : Nat) : Int), mI (i : Int)] [] h = X xs d k_Co_litSet 4 [mR b, mI ((sq (litB c) (i + 1) : Nat) : Int), mI ((i + 1 : Nat) : Int)] [] h := by
    intro i hi
    rw [e_Co_litSet_4 xs d _ _ hb, k.n]
    refine if_y (by omega) ?_
    refine cI_of (t_isLit hb k w (by omega)) ?_
    by_cases q : c 2 3 ≤ c 5 (i : Int)
    · rw [if_neg (fun z => b2i_0.mp z q), e_Co_litSet_18 xs d _ _ hb, sq_or (by omega), sq_y (decide_eq_true q)]
      refine if_y (by omega) ?_
      rfl
    · rw [if_pos (b2i_0.mpr q), e_Co_litSet_18 xs d _ _ hb, sq_n (decide_eq_false q)]
      refine if_y (by omega) ?_
      rfl
  refine (run_to (fun i : Nat => X xs d k_Co_litSet 4 [mR b, mI ((sq (litB c) i : Nat) : Int), mI (i : Int)] [] h) st).trans ?_
  show X xs d k_Co_litSet 4 _ [] h = _
  rw [e_Co_litSet_4 xs d _ _ hb, k.n]
  refine if_n (by omega) ?_
  rfl
end
/-! sums -/
def sumN (f : Nat → Int) : Nat → Int
  | 0 => 0
  | k + 1 => sumN f k + f k
theorem sumN_congr {f g : Nat → Int} : ∀ {k : Nat}, (∀ i, i < k → f i = g i) → sumN f k = sumN g k
  | 0, _ => rfl
  | k + 1, h => by rw [sumN, sumN, sumN_congr (k := k) (fun i hi => h i (by omega)), h k (by omega)]
theorem sumN_bd {f : Nat → Int} {B : Int} : ∀ {k : Nat}, (∀ i, i < k → 0 ≤ f i ∧ f i ≤ B) → 0 ≤ sumN f k ∧ sumN f k ≤ B * k
  | 0, _ => by simp [sumN]
  | k + 1, h => by
    have a := sumN_bd (k := k) (fun i hi => h i (by omega))
    have b := h k (by omega)
    rw [sumN, Int.natCast_add, Int.mul_add]
    omega
section
variable {xs : List Int} {d : Nat} {b : Nat} {c : Kc} {h : mM}
theorem t_hasWhom (k : CoT 12 c h) (w : WfC c) {p : Int} (hp : 0 ≤ p ∧ p < c 0 0) : C xs d 232 0 [mR 12, mI p] h = some ([mI (b2i (c 7 p ≠ -1))], h) := by
  have hn := w.1
  rw [c_Co_hasWhom xs d (Or.inl rfl), k.q p hp.1 hp.2]
  refine if_y (by omega) ?_
  by_cases q : c 7 p = -1
  · rw [if_pos q, b2i_n (fun z => z q)]
  · rw [if_neg q, b2i_y q]
theorem t_toastingSet (k : CoT 12 c h) (w : WfC c) : C xs d 237 0 [mR 12] h = some ([mI ((sq (whoB c) (c 0 0).toNat : Nat) : Int)], h) := by
  have hn := w.1
  have kn : h 12 0 = c 0 0 := k.n
  rw [c_Co_toastingSet xs d]
  have st : ∀ i : Nat, i < (c 0 0).toNat → X xs d k_Co_toastingSet 4 [mR 12, mI ((sq (whoB c) i : Nat) : Int), mI (i : Int)] [] h = X xs d k_Co_toastingSet 4 [mR 12, mI ((sq (whoB c) (i + 1) : Nat) : Int), mI ((i + 1 : Nat) : Int)] [] h := by
    intro i hi
    rw [e_Co_toastingSet_4 xs d, kn]
    refine if_y (by omega) ?_
    refine cI_of (t_hasWhom k w (by omega)) ?_
    by_cases q : c 7 (i : Int) = -1
    · rw [if_pos (b2i_0.mpr (fun z => z q)), e_Co_toastingSet_18 xs d, sq_n (decide_eq_false (fun z => z q))]
      refine if_y (by omega) ?_
      rfl
    · rw [if_neg (fun z => b2i_0.mp z q), e_Co_toastingSet_18 xs d, sq_or (by omega), sq_y (decide_eq_true q)]
      refine if_y (by omega) ?_
      rfl
  refine (run_to (fun i : Nat => X xs d k_Co_toastingSet 4 [mR 12, mI ((sq (whoB c) i : Nat) : Int), mI (i : Int)] [] h) st).trans ?_
  show X xs d k_Co_toastingSet 4 _ [] h = _
  rw [e_Co_toastingSet_4 xs d, kn]
  refine if_n (by omega) ?_
  rfl
theorem t_warmersOf (k : CoT 12 c h) (w : WfC c) (t : Int) : C xs d 238 0 [mR 12, mI t] h = some ([mI ((sq (warB c t) (c 0 0).toNat : Nat) : Int)], h) := by
  have hn := w.1
  have kn : h 12 0 = c 0 0 := k.n
  rw [c_Co_warmersOf xs d]
  have st : ∀ i : Nat, i < (c 0 0).toNat → X xs d k_Co_warmersOf 4 [mR 12, mI t, mI ((sq (warB c t) i : Nat) : Int), mI (i : Int)] [] h = X xs d k_Co_warmersOf 4 [mR 12, mI t, mI ((sq (warB c t) (i + 1) : Nat) : Int), mI ((i + 1 : Nat) : Int)] [] h := by
    intro i hi
    have kq : h 18 (i : Int) = c 7 (i : Int) := k.q i (by omega) (by omega)
    rw [e_Co_warmersOf_4 xs d, kn, kq]
    refine if_y (by omega) ?_
    refine if_y (by omega) ?_
    by_cases q : c 7 (i : Int) = t
    · rw [if_pos q, e_Co_warmersOf_20 xs d, sq_or (by omega), sq_y (decide_eq_true q)]
      refine if_y (by omega) ?_
      rfl
    · rw [if_neg q, e_Co_warmersOf_20 xs d, sq_n (decide_eq_false q)]
      refine if_y (by omega) ?_
      rfl
  refine (run_to (fun i : Nat => X xs d k_Co_warmersOf 4 [mR 12, mI t, mI ((sq (warB c t) i : Nat) : Int), mI (i : Int)] [] h) st).trans ?_
  show X xs d k_Co_warmersOf 4 _ [] h = _
  rw [e_Co_warmersOf_4 xs d, kn]
  refine if_n (by omega) ?_
  rfl
theorem wsum_bd (w : WfC c) {i : Nat} (hi : i ≤ (c 0 0).toNat) : 0 ≤ sumN (fun p => c 5 (p : Int)) i ∧ sumN (fun p => c 5 (p : Int)) i ≤ 99 * i := sumN_bd (fun j hj => (w.2.2.2.2.2.2.2.2 j (by omega) (by omega)).2.2.1)
theorem lsum_bd (w : WfC c) {i : Nat} (hi : i ≤ (c 0 0).toNat) : 0 ≤ sumN (fun p => c 6 (p : Int)) i ∧ sumN (fun p => c 6 (p : Int)) i ≤ 9 * i := sumN_bd (fun j hj => (w.2.2.2.2.2.2.2.2 j (by omega) (by omega)).2.2.2.1)
theorem t_allWarmth (hb : b = 12 ∨ b = 21) (k : CoT b c h) (w : WfC c) : C xs d 239 0 [mR b] h = some ([mI (sumN (fun p => c 5 (p : Int)) (c 0 0).toNat)], h) := by
  have hn := w.1
  rw [c_Co_allWarmth xs d hb]
  have st : ∀ i : Nat, i < (c 0 0).toNat → X xs d k_Co_allWarmth 4 [mR b, mI (sumN (fun p => c 5 (p : Int)) i), mI (i : Int)] [] h = X xs d k_Co_allWarmth 4 [mR b, mI (sumN (fun p => c 5 (p : Int)) (i + 1)), mI ((i + 1 : Nat) : Int)] [] h := by
    intro i hi
    have bd := wsum_bd w (i := i) (by omega)
    have b2 := (w.2.2.2.2.2.2.2.2 i (by omega) (by omega)).2.2.1
    rw [e_Co_allWarmth_4 xs d _ _ hb, k.n, k.w i (by omega) (by omega)]
    refine if_y (by omega) ?_
    refine if_y (by omega) ?_
    refine if_y (by omega) ?_
    refine if_y (by omega) ?_
    rfl
  refine (run_to (fun i : Nat => X xs d k_Co_allWarmth 4 [mR b, mI (sumN (fun p => c 5 (p : Int)) i), mI (i : Int)] [] h) st).trans ?_
  show X xs d k_Co_allWarmth 4 _ [] h = _
  rw [e_Co_allWarmth_4 xs d _ _ hb, k.n]
  refine if_n (by omega) ?_
  rfl
theorem t_allGlasses (k : CoT 12 c h) (w : WfC c) : C xs d 240 0 [mR 12] h = some ([mI (sumN (fun p => c 6 (p : Int)) (c 0 0).toNat)], h) := by
  have hn := w.1
  have kn : h 12 0 = c 0 0 := k.n
  rw [c_Co_allGlasses xs d]
  have st : ∀ i : Nat, i < (c 0 0).toNat → X xs d k_Co_allGlasses 4 [mR 12, mI (sumN (fun p => c 6 (p : Int)) i), mI (i : Int)] [] h = X xs d k_Co_allGlasses 4 [mR 12, mI (sumN (fun p => c 6 (p : Int)) (i + 1)), mI ((i + 1 : Nat) : Int)] [] h := by
    intro i hi
    have bd := lsum_bd w (i := i) (by omega)
    have b2 := (w.2.2.2.2.2.2.2.2 i (by omega) (by omega)).2.2.2.1
    have kl : h 17 (i : Int) = c 6 (i : Int) := k.l i (by omega) (by omega)
    rw [e_Co_allGlasses_4 xs d, kn, kl]
    refine if_y (by omega) ?_
    refine if_y (by omega) ?_
    refine if_y (by omega) ?_
    refine if_y (by omega) ?_
    rfl
  refine (run_to (fun i : Nat => X xs d k_Co_allGlasses 4 [mR 12, mI (sumN (fun p => c 6 (p : Int)) i), mI (i : Int)] [] h) st).trans ?_
  show X xs d k_Co_allGlasses 4 _ [] h = _
  rw [e_Co_allGlasses_4 xs d, kn]
  refine if_n (by omega) ?_
  rfl
theorem t_canDrink (hb : b = 116 ∨ b = 12 ∨ b = 21) (k : CoT b c h) (w : WfC c) {p : Int} (hp : 0 ≤ p ∧ p < c 0 0) : C xs d 242 0 [mR b, mI p] h = some ([mI (b2i (c 7 p ≠ -1 ∧ c 6 p ≠ 0))], h) := by
  have hn := w.1
  obtain ⟨a1, a2, a3, a4, a5⟩ := w.2.2.2.2.2.2.2.2 p hp.1 hp.2
  rw [c_Co_canDrink xs d hb, k.q p hp.1 hp.2]
  refine if_y (by omega) ?_
  refine cI_of (t_has hb _) ?_
  rw [k.n, k.l p hp.1 hp.2]
  by_cases q : c 7 p = -1
  · rw [if_pos (b2i_0.mpr (by omega)), b2i_n (fun z => z.1 q)]
  · rw [if_neg (fun z => b2i_0.mp z (by omega))]
    refine if_y (by omega) ?_
    by_cases q2 : c 6 p = 0
    · refine if_n (by omega) ?_
      rw [b2i_n (fun z => z.2 q2)]
    · refine if_y (by omega) ?_
      rw [b2i_y ⟨q, q2⟩]
/-- behind one drink -/
def drC (c : Kc) (p : Int) : Kc := fun f i => if f = 6 ∧ i = p then c 6 p - 1 else if f = 5 ∧ i = c 7 p then min 99 (c 5 (c 7 p) + warmI c p) else c f i
theorem t_letDrink (hb : b = 116 ∨ b = 12 ∨ b = 21) (k : CoT b c h) (w : WfC c) {p : Int} (hp : 0 ≤ p ∧ p < c 0 0) (hq : c 7 p ≠ -1) (hl : c 6 p ≠ 0) : C xs d 243 0 [mR b, mI p] h = some ([mI (min 99 (c 5 (c 7 p) + warmI c p))], upM (upM h (b + 5) p (c 6 p - 1)) (b + 4) (c 7 p) (min 99 (c 5 (c 7 p) + warmI c p))) := by
  have hn := w.1
  obtain ⟨a1, a2, a3, a4, a5⟩ := w.2.2.2.2.2.2.2.2 p hp.1 hp.2
  obtain ⟨b1, b2, b3, b4, b5⟩ := w.2.2.2.2.2.2.2.2 (c 7 p) (by omega) (by omega)
  have hw := warmI_bd w hp hq
  rw [c_Co_letDrink xs d hb, k.q p hp.1 hp.2, k.r 5 (by omega) (by omega), k.m p hp.1 hp.2]
  refine if_y (by omega) ?_
  refine if_y (by omega) ?_
  refine cI_of (t_apart hb k w hp (by omega)) ?_
  rw [k.r 6 (by omega) (by omega)]
  refine cI_of (t_warmBy ⟨by have := w.2.2.2.2.2.2.1; omega, w.2.2.2.2.2.2.1.2⟩ a2 (by have := farI_bd a1 b1; omega) w.2.2.2.2.2.2.2.1.1) ?_
  rw [k.l p hp.1 hp.2, k.w (c 7 p) (by omega) (by omega)]
  change _ = some ([mI (min 99 (c 5 (c 7 p) + wmI (c 2 5) (c 4 p) (farI (c 3 p) (c 3 (c 7 p))) (c 2 6)))], upM (upM h (b + 5) p (c 6 p - 1)) (b + 4) (c 7 p) (min 99 (c 5 (c 7 p) + wmI (c 2 5) (c 4 p) (farI (c 3 p) (c 3 (c 7 p))) (c 2 6))))
  unfold warmI at hw
  refine if_y (by omega) ?_
  refine if_y (by omega) ?_
  refine if_y (by omega) ?_
  refine if_y (by omega) ?_
  refine if_y (by omega) ?_
  refine if_y (by omega) ?_
  refine if_y (by omega) ?_
  rw [up_eq]
theorem drC_0 {p : Int} : drC c p 0 0 = c 0 0 := by unfold drC; rw [if_neg (by omega), if_neg (by omega)]
theorem drC_T (k : CoT b c h) {p : Int} : CoT b (drC c p) (upM (upM h (b + 5) p (c 6 p - 1)) (b + 4) (c 7 p) (min 99 (c 5 (c 7 p) + warmI c p))) := by
  unfold CoT
  rw [drC_0]
  refine ⟨?_, ?_, fun i h1 h2 => ?_, fun i h1 h2 => ?_, fun i h1 h2 => ?_, fun i h1 h2 => ?_, fun i h1 h2 => ?_, fun i h1 h2 => ?_⟩
  · rw [up_ne (by omega), up_ne (by omega)]; exact k.n
  · rw [up_ne (by omega), up_ne (by omega), k.g]; unfold drC; rw [if_neg (by omega), if_neg (by omega)]
  · rw [up_ne (by omega), up_ne (by omega), k.r i h1 h2]; unfold drC; rw [if_neg (by omega), if_neg (by omega)]
  · rw [up_ne (by omega), up_ne (by omega), k.p i h1 h2]; unfold drC; rw [if_neg (by omega), if_neg (by omega)]
  · rw [up_ne (by omega), up_ne (by omega), k.m i h1 h2]; unfold drC; rw [if_neg (by omega), if_neg (by omega)]
  · rw [up_at, up_ne (by omega), k.w i h1 h2]; unfold drC
    by_cases e : i = c 7 p
    · rw [if_pos e, if_neg (by omega), if_pos ⟨rfl, e⟩]
    · rw [if_neg e, if_neg (by omega), if_neg (fun z => e z.2)]
  · rw [up_ne (by omega), up_at, k.l i h1 h2]; unfold drC
    by_cases e : i = p
    · rw [if_pos e, if_pos ⟨rfl, e⟩]
    · rw [if_neg e, if_neg (fun z => e z.2), if_neg (by omega)]
  · rw [up_ne (by omega), up_ne (by omega), k.q i h1 h2]; unfold drC; rw [if_neg (by omega), if_neg (by omega)]
theorem drC_wf (w : WfC c) {p : Int} (hp : 0 ≤ p ∧ p < c 0 0) (hq : c 7 p ≠ -1) (hl : c 6 p ≠ 0) : WfC (drC c p) := by
  obtain ⟨hn, hg, r1, r2, r3, r4, r5, r6, hw⟩ := w
  have e0 : ∀ f i, f ≠ 5 → f ≠ 6 → drC c p f i = c f i := fun f i h5 h6 => by unfold drC; rw [if_neg (fun z => h6 z.1), if_neg (fun z => h5 z.1)]
  have ww := warmI_bd ⟨hn, hg, r1, r2, r3, r4, r5, r6, hw⟩ hp hq
  unfold WfC WfP
  simp only [e0 0 _ (by omega) (by omega), e0 1 _ (by omega) (by omega), e0 2 _ (by omega) (by omega), e0 3 _ (by omega) (by omega), e0 4 _ (by omega) (by omega), e0 7 _ (by omega) (by omega)]
  refine ⟨hn, hg, r1, r2, r3, r4, r5, r6, fun i h1 h2 => ?_⟩
  obtain ⟨a1, a2, a3, a4, a5⟩ := hw i h1 h2
  obtain ⟨b1, b2, b3, b4, b5⟩ := hw p hp.1 hp.2
  obtain ⟨-, -, d3, -⟩ := hw (c 7 p) (by omega) (by omega)
  refine ⟨a1, a2, ?_, ?_, a5⟩
  · unfold drC
    rw [if_neg (by omega)]
    by_cases e : i = c 7 p
    · rw [if_pos ⟨rfl, e⟩]; omega
    · rw [if_neg (fun z => e z.2)]; exact a3
  · unfold drC
    by_cases e : i = p
    · rw [if_pos ⟨rfl, e⟩]; omega
    · rw [if_neg (fun z => e z.2), if_neg (by omega)]; exact a4
end
/-! nights -/
def ntC (c : Kc) (k : Int) : Kc := fun f i => if f = 5 then max 0 (c 5 i - k * c 2 4) else if f = 1 then c 1 i + k else c f i
section
variable {xs : List Int} {d : Nat} {b : Nat} {c : Kc} {h : mM}
theorem t_hasNights (hb : b = 12 ∨ b = 21) (k : CoT b c h) (w : WfC c) {n : Int} (h1 : 0 ≤ n ∧ n ≤ 1000) : C xs d 244 0 [mR b, mI n] h = some ([mI (b2i (c 1 0 + n ≤ 9999))], h) := by
  have hn := w.1
  have hg := w.2.1
  rw [c_Co_hasNights xs d hb, k.g]
  refine if_y (by omega) ?_
  by_cases q : 9999 < c 1 0 + n
  · refine if_y (by omega) ?_
    rw [b2i_n (by omega)]
  · refine if_n (by omega) ?_
    rw [b2i_y (by omega)]
theorem t_warmthIn (hb : b = 116 ∨ b = 12 ∨ b = 21) (k : CoT b c h) (w : WfC c) {p n : Int} (hp : 0 ≤ p ∧ p < c 0 0) (h1 : 0 ≤ n ∧ n ≤ 1000) : C xs d 245 0 [mR b, mI p, mI n] h = some ([mI (max 0 (c 5 p - n * c 2 4))], h) := by
  have hn := w.1
  have a3 := (w.2.2.2.2.2.2.2.2 p hp.1 hp.2).2.2.1
  have mb := mul_bd h1.1 h1.2 w.2.2.2.2.2.1.1 w.2.2.2.2.2.1.2
  rw [c_Co_warmthIn xs d hb, k.r 4 (by omega) (by omega), k.w p hp.1 hp.2]
  refine if_y (by omega) ?_
  refine if_y (by omega) ?_
  refine if_y (by omega) ?_
  rfl
def ntM (h : mM) (b : Nat) (c : Kc) (n : Int) : mM := rowU (upM h b 1 (c 1 0 + n)) (b + 4) (c 0 0) (fun i => max 0 (c 5 i - n * c 2 4))
theorem CoT.mv {h' : mM} (k : CoT b c h) (e : ∀ a, b ≤ a → a ≤ b + 6 → h' a = h a) : CoT b c h' := by
  unfold CoT
  rw [e b (by omega) (by omega), e (b + 1) (by omega) (by omega), e (b + 2) (by omega) (by omega), e (b + 3) (by omega) (by omega), e (b + 4) (by omega) (by omega), e (b + 5) (by omega) (by omega), e (b + 6) (by omega) (by omega)]
  exact k
theorem t_passNights (hb : b = 12 ∨ b = 21) (k : CoT b c h) (w : WfC c) {n : Int} (h1 : 0 ≤ n ∧ n ≤ 1000) : C xs d 246 0 [mR b, mI n] h = some ([], ntM h b c n) := by
  have hn := w.1
  have hg := w.2.1
  rw [c_Co_passNights xs d hb, k.g]
  refine if_y (by omega) ?_
  have kk : ∀ i : Nat, (∀ j : Int, (i : Int) ≤ j → j < c 0 0 → (rowU (upM h b 1 (c 1 0 + n)) (b + 4) i (fun i => max 0 (c 5 i - n * c 2 4))) (b + 4) j = c 5 j) ∧ (∀ a j, a ≠ b + 4 → (a ≠ b ∨ j ≠ 1) → (rowU (upM h b 1 (c 1 0 + n)) (b + 4) i (fun i => max 0 (c 5 i - n * c 2 4))) a j = h a j) := by
    intro i
    refine ⟨fun j h1 h2 => ?_, fun a j h1 h2 => ?_⟩
    · rw [rowU_out (by omega), up_ne (by omega), k.w j (by omega) h2]
    · rw [rowU_ne h1]
      unfold upM
      rw [if_neg (by omega)]
  have st : ∀ i : Nat, i < (c 0 0).toNat → X xs d k_Co_passNights 8 [mR b, mI n, mI (i : Int)] [] (rowU (upM h b 1 (c 1 0 + n)) (b + 4) i (fun i => max 0 (c 5 i - n * c 2 4))) = X xs d k_Co_passNights 8 [mR b, mI n, mI ((i + 1 : Nat) : Int)] [] (rowU (upM h b 1 (c 1 0 + n)) (b + 4) ((i + 1 : Nat) : Int) (fun i => max 0 (c 5 i - n * c 2 4))) := by
    intro i hi
    obtain ⟨k1, k2⟩ := kk i
    have a3 := (w.2.2.2.2.2.2.2.2 i (by omega) (by omega)).2.2.1
    have mb := mul_bd h1.1 h1.2 w.2.2.2.2.2.1.1 w.2.2.2.2.2.1.2
    rw [e_Co_passNights_8 xs d _ _ hb, k2 b 0 (by omega) (by omega), k.n]
    refine if_y (by omega) ?_
    refine cI_of (v := max 0 (c 5 (i : Int) - n * c 2 4)) (h := rowU (upM h b 1 (c 1 0 + n)) (b + 4) i (fun i => max 0 (c 5 i - n * c 2 4))) ?_ ?_
    · rw [c_Co_warmthIn xs d (by omega), k2 (b + 1) 4 (by omega) (by omega), k1 i (by omega) (by omega), k.r 4 (by omega) (by omega)]
      refine if_y (by omega) ?_
      refine if_y (by omega) ?_
      refine if_y (by omega) ?_
      rfl
    · refine if_y (by omega) ?_
      refine if_y (by omega) ?_
      rw [rowU_up (by omega) rfl]
      rfl
  refine (congrArg (fun g => X xs d k_Co_passNights 8 [mR b, mI n, mI 0] [] g) (rowU_0 (h := upM h b 1 (c 1 0 + n)) (a := b + 4) (f := fun i => max 0 (c 5 i - n * c 2 4))).symm).trans ?_
  refine (run_to (fun i : Nat => X xs d k_Co_passNights 8 [mR b, mI n, mI (i : Int)] [] (rowU (upM h b 1 (c 1 0 + n)) (b + 4) i (fun i => max 0 (c 5 i - n * c 2 4)))) st).trans ?_
  show X xs d k_Co_passNights 8 _ [] _ = _
  rw [e_Co_passNights_8 xs d _ _ hb, (kk _).2 b 0 (by omega) (by omega), k.n]
  refine if_n (by omega) ?_
  rw [show (((c 0 0).toNat : Nat) : Int) = c 0 0 by omega]
  rfl
theorem ntC_T (k : CoT b c h) {n : Int} : CoT b (ntC c n) (ntM h b c n) := by
  unfold CoT ntM
  have e0 : ntC c n 0 0 = c 0 0 := by unfold ntC; rw [if_neg (by omega), if_neg (by omega)]
  have e : ∀ f i, f ≠ 5 → f ≠ 1 → ntC c n f i = c f i := fun f i h5 h6 => by unfold ntC; rw [if_neg h5, if_neg h6]
  rw [e0]
  refine ⟨?_, ?_, fun i h1 h2 => ?_, fun i h1 h2 => ?_, fun i h1 h2 => ?_, fun i h1 h2 => ?_, fun i h1 h2 => ?_, fun i h1 h2 => ?_⟩
  · rw [rowU_ne (by omega), up_at, if_neg (by omega)]; exact k.n
  · rw [rowU_ne (by omega), up_at, if_pos rfl]; rfl
  · rw [rowU_ne (by omega), up_ne (by omega), k.r i h1 h2, e 2 i (by omega) (by omega)]
  · rw [rowU_ne (by omega), up_ne (by omega), k.p i h1 h2, e 3 i (by omega) (by omega)]
  · rw [rowU_ne (by omega), up_ne (by omega), k.m i h1 h2, e 4 i (by omega) (by omega)]
  · rw [rowU_in ⟨h1, h2⟩]; rfl
  · rw [rowU_ne (by omega), up_ne (by omega), k.l i h1 h2, e 6 i (by omega) (by omega)]
  · rw [rowU_ne (by omega), up_ne (by omega), k.q i h1 h2, e 7 i (by omega) (by omega)]
theorem ntC_wf (w : WfC c) {n : Int} (h1 : 0 ≤ n) (h2 : c 1 0 + n ≤ 20000) : WfC (ntC c n) := by
  obtain ⟨hn, hg, r1, r2, r3, r4, r5, r6, hw⟩ := w
  have e : ∀ f i, f ≠ 5 → f ≠ 1 → ntC c n f i = c f i := fun f i h5 h6 => by unfold ntC; rw [if_neg h5, if_neg h6]
  unfold WfC WfP
  simp only [e 0 _ (by omega) (by omega), e 2 _ (by omega) (by omega), e 3 _ (by omega) (by omega), e 4 _ (by omega) (by omega), e 6 _ (by omega) (by omega), e 7 _ (by omega) (by omega)]
  refine ⟨hn, ?_, r1, r2, r3, r4, r5, r6, fun i h1 h2 => ?_⟩
  · show 0 ≤ c 1 0 + n ∧ c 1 0 + n ≤ 20000
    omega
  · obtain ⟨a1, a2, a3, a4, a5⟩ := hw i h1 h2
    refine ⟨a1, a2, ?_, a4, a5⟩
    show 0 ≤ max 0 (c 5 i - n * c 2 4) ∧ max 0 (c 5 i - n * c 2 4) ≤ 99
    have := Int.mul_nonneg ‹0 ≤ n› r4.1
    omega
end
/-! evenings -/
/-- what comes to one from the first so many -/
def comN (c : Kc) (aw t : Int) : Nat → Int := sumN (fun p => if (p : Int) ≠ aw ∧ c 2 3 ≤ c 5 (p : Int) ∧ c 7 (p : Int) ≠ -1 ∧ c 7 (p : Int) = t then warmI c (p : Int) else 0)
def evC (c : Kc) (aw : Int) : Kc := ntC (fun f i => if f = 5 then min 99 (c 5 i + comN c aw i (c 0 0).toNat) else c f i) 1
def evB (c : Kc) (aw : Int) : Nat → Bool := fun p => decide ((p : Int) ≠ aw ∧ c 2 3 ≤ c 5 (p : Int) ∧ c 7 (p : Int) ≠ -1)
theorem comN_bd {c : Kc} (w : WfC c) {aw t : Int} {i : Nat} (hi : i ≤ (c 0 0).toNat) : 0 ≤ comN c aw t i ∧ comN c aw t i ≤ 180 * i := by
  refine sumN_bd (fun p hp => ?_)
  split
  · next q => exact warmI_bd w (by omega) q.2.2.1
  · omega
section
variable {xs : List Int} {d : Nat} {b : Nat} {c : Kc} {h : mM}
theorem t_passEvening (hb : b = 12 ∨ b = 21) (k : CoT b c h) (w : WfC c) (hg : c 1 0 ≤ 19000) (aw : Int) (haw : inI aw) : ∃ h', C xs d 247 0 [mR b, mI aw] h = some ([mI ((sq (evB c aw) (c 0 0).toNat : Nat) : Int)], h') ∧ CoT b (evC c aw) h' ∧ Ow [b, b + 4, b + 8] h h' := by
  have hn := w.1
  rw [c_Co_passEvening xs d hb]
  -- all sums are 0
  have st1 : ∀ i : Nat, i < (c 0 0).toNat → X xs d k_Co_passEvening 2 [mR b, mI aw, mI (i : Int), mC 0] [] (rowU h (b + 8) i (fun _ => 0)) = X xs d k_Co_passEvening 2 [mR b, mI aw, mI ((i + 1 : Nat) : Int), mC 0] [] (rowU h (b + 8) ((i + 1 : Nat) : Int) (fun _ => 0)) := by
    intro i hi
    rw [e_Co_passEvening_2 xs d _ _ hb, rowU_ne (show b ≠ b + 8 by omega), k.n]
    refine if_y (by omega) ?_
    refine if_y (by omega) ?_
    refine if_y (by omega) ?_
    rw [rowU_up (by omega) rfl]
    rfl
  have r1 := run_to (fun i : Nat => X xs d k_Co_passEvening 2 [mR b, mI aw, mI (i : Int), mC 0] [] (rowU h (b + 8) i (fun _ => 0))) st1
  have r1 : X xs d k_Co_passEvening 2 [mR b, mI aw, mI 0, mC 0] [] (rowU h (b + 8) 0 (fun _ => 0)) = X xs d k_Co_passEvening 2 [mR b, mI aw, mI ((c 0 0).toNat : Int), mC 0] [] (rowU h (b + 8) ((c 0 0).toNat : Int) (fun _ => 0)) := r1
  rw [rowU_0] at r1
  rw [r1, show (((c 0 0).toNat : Nat) : Int) = c 0 0 by omega]
  rw [e_Co_passEvening_2 xs d _ _ hb, rowU_ne (show b ≠ b + 8 by omega), k.n, if_neg (by omega)]
  -- those who are lit warm
  have z0 : rowU h (b + 8) (c 0 0) (fun _ => 0) = rowU h (b + 8) (c 0 0) (fun t => comN c aw t 0) := rfl
  rw [z0]
  have kk : ∀ i : Nat, CoT b c (rowU h (b + 8) (c 0 0) (fun t => comN c aw t i)) := fun i => k.mv (fun a h1 h2 => rowU_ne (by omega))
  have st2 : ∀ i : Nat, i < (c 0 0).toNat → X xs d k_Co_passEvening 17 [mR b, mI aw, mI ((sq (evB c aw) i : Nat) : Int), mI (i : Int)] [] (rowU h (b + 8) (c 0 0) (fun t => comN c aw t i)) = X xs d k_Co_passEvening 17 [mR b, mI aw, mI ((sq (evB c aw) (i + 1) : Nat) : Int), mI ((i + 1 : Nat) : Int)] [] (rowU h (b + 8) (c 0 0) (fun t => comN c aw t (i + 1))) := by
    intro i hi
    have hp : 0 ≤ (i : Int) ∧ (i : Int) < c 0 0 := by omega
    obtain ⟨a1, a2, a3, a4, a5⟩ := w.2.2.2.2.2.2.2.2 i hp.1 hp.2
    rw [e_Co_passEvening_17 xs d _ _ _ hb, (kk i).n]
    refine if_y (by omega) ?_
    have skip : ¬ ((i : Int) ≠ aw ∧ c 2 3 ≤ c 5 (i : Int) ∧ c 7 (i : Int) ≠ -1) → X xs d k_Co_passEvening 54 [mR b, mI aw, mI ((sq (evB c aw) i : Nat) : Int), mI (i : Int)] [] (rowU h (b + 8) (c 0 0) (fun t => comN c aw t i)) = X xs d k_Co_passEvening 17 [mR b, mI aw, mI ((sq (evB c aw) (i + 1) : Nat) : Int), mI ((i + 1 : Nat) : Int)] [] (rowU h (b + 8) (c 0 0) (fun t => comN c aw t (i + 1))) := by
      intro q
      rw [e_Co_passEvening_54 xs d _ _ _ hb, sq_n (decide_eq_false q)]
      refine if_y (by omega) ?_
      have e : (fun t => comN c aw t (i + 1)) = (fun t => comN c aw t i) := by
        funext t
        show comN c aw t i + (if _ then _ else _) = _
        rw [if_neg (fun z => q ⟨z.1, z.2.1, z.2.2.1⟩), Int.add_zero]
      rw [e]
      rfl
    by_cases q1 : (i : Int) = aw
    · rw [if_pos q1]
      exact skip (fun z => z.1 q1)
    rw [if_neg q1]
    refine cI_of (t_isLit (by omega) (kk i) w hp) ?_
    by_cases q2 : c 2 3 ≤ c 5 (i : Int)
    rotate_left
    · rw [if_pos (b2i_0.mpr q2)]
      exact skip (fun z => q2 z.2.1)
    rw [if_neg (fun z => b2i_0.mp z q2), (kk i).q i hp.1 hp.2]
    refine if_y (by omega) ?_
    refine cI_of (t_has (by omega) _) ?_
    rw [(kk i).n]
    by_cases q3 : c 7 (i : Int) = -1
    · rw [if_pos (b2i_0.mpr (by omega))]
      exact skip (fun z => z.2.2 q3)
    have hq : 0 ≤ c 7 (i : Int) ∧ c 7 (i : Int) < c 0 0 := by omega
    rw [if_neg (fun z => b2i_0.mp z hq), (kk i).q i hp.1 hp.2]
    refine if_y (by omega) ?_
    refine if_y (by omega) ?_
    refine cI_of (t_warmOf hb (kk i) w hp) ?_
    rw [if_neg q3]
    have cb := comN_bd w (aw := aw) (t := c 7 (i : Int)) (i := i) (by omega)
    have wb := warmI_bd w hp q3
    rw [rowU_in hq]
    refine if_y (by omega) ?_
    refine if_y (by omega) ?_
    rw [e_Co_passEvening_54 xs d _ _ _ hb, sq_or (by omega), sq_y (decide_eq_true ⟨q1, q2, q3⟩)]
    refine if_y (by omega) ?_
    have e : upM (rowU h (b + 8) (c 0 0) (fun t => comN c aw t i)) (b + 8) (c 7 (i : Int)) (comN c aw (c 7 (i : Int)) i + warmI c (i : Int)) = rowU h (b + 8) (c 0 0) (fun t => comN c aw t (i + 1)) := by
      funext a j
      by_cases e1 : a = b + 8
      · subst e1
        rw [up_at]
        by_cases e2 : j = c 7 (i : Int)
        · rw [if_pos e2, rowU_in (by omega), e2]
          show _ = comN c aw (c 7 (i : Int)) i + (if _ then _ else _)
          rw [if_pos ⟨q1, q2, q3, rfl⟩]
        · rw [if_neg e2]
          by_cases e3 : 0 ≤ j ∧ j < c 0 0
          · rw [rowU_in e3, rowU_in e3]
            show _ = comN c aw j i + (if _ then _ else _)
            rw [if_neg (fun z => e2 z.2.2.2.symm), Int.add_zero]
          · rw [rowU_out e3, rowU_out e3]
      · rw [up_ne e1, rowU_ne e1, rowU_ne e1]
    rw [e]
    rfl
  have r2 := run_to (fun i : Nat => X xs d k_Co_passEvening 17 [mR b, mI aw, mI ((sq (evB c aw) i : Nat) : Int), mI (i : Int)] [] (rowU h (b + 8) (c 0 0) (fun t => comN c aw t i))) st2
  have r2 : X xs d k_Co_passEvening 17 [mR b, mI aw, mI 0, mI 0] [] (rowU h (b + 8) (c 0 0) (fun t => comN c aw t 0)) = X xs d k_Co_passEvening 17 [mR b, mI aw, mI ((sq (evB c aw) (c 0 0).toNat : Nat) : Int), mI ((c 0 0).toNat : Int)] [] (rowU h (b + 8) (c 0 0) (fun t => comN c aw t (c 0 0).toNat)) := r2
  rw [r2, e_Co_passEvening_17 xs d _ _ _ hb, (kk _).n, if_neg (by omega)]
  -- warmth comes
  generalize hF : rowU h (b + 8) (c 0 0) (fun t => comN c aw t (c 0 0).toNat) = F
  have kF : CoT b c F := by rw [← hF]; exact kk _
  have sF : ∀ t, 0 ≤ t → t < c 0 0 → F (b + 8) t = comN c aw t (c 0 0).toNat := fun t h1 h2 => by rw [← hF, rowU_in ⟨h1, h2⟩]
  have oF : Ow [b, b + 4, b + 8] h F := by rw [← hF]; exact Ow.rf.row (by simp)
  have st3 : ∀ i : Nat, i < (c 0 0).toNat → X xs d k_Co_passEvening 58 [mR b, mI aw, mI ((sq (evB c aw) (c 0 0).toNat : Nat) : Int), mI (i : Int)] [] (rowU F (b + 4) i (fun t => min 99 (c 5 t + comN c aw t (c 0 0).toNat))) = X xs d k_Co_passEvening 58 [mR b, mI aw, mI ((sq (evB c aw) (c 0 0).toNat : Nat) : Int), mI ((i + 1 : Nat) : Int)] [] (rowU F (b + 4) ((i + 1 : Nat) : Int) (fun t => min 99 (c 5 t + comN c aw t (c 0 0).toNat))) := by
    intro i hi
    have a3 := (w.2.2.2.2.2.2.2.2 i (by omega) (by omega)).2.2.1
    have cb := comN_bd w (aw := aw) (t := (i : Int)) (i := (c 0 0).toNat) (Nat.le_refl _)
    rw [e_Co_passEvening_58 xs d _ _ _ hb, rowU_ne (show b ≠ b + 4 by omega), kF.n, rowU_out (show ¬ (0 ≤ (i : Int) ∧ (i : Int) < (i : Int)) by omega), rowU_ne (show b + 8 ≠ b + 4 by omega), kF.w i (by omega) (by omega), sF i (by omega) (by omega)]
    refine if_y (by omega) ?_
    refine if_y (by omega) ?_
    refine if_y (by omega) ?_
    refine if_y (by omega) ?_
    refine if_y (by omega) ?_
    refine if_y (by omega) ?_
    rw [rowU_up (by omega) rfl]
    rfl
  have r3 := run_to (fun i : Nat => X xs d k_Co_passEvening 58 [mR b, mI aw, mI ((sq (evB c aw) (c 0 0).toNat : Nat) : Int), mI (i : Int)] [] (rowU F (b + 4) i (fun t => min 99 (c 5 t + comN c aw t (c 0 0).toNat)))) st3
  have r3 : X xs d k_Co_passEvening 58 [mR b, mI aw, mI ((sq (evB c aw) (c 0 0).toNat : Nat) : Int), mI 0] [] (rowU F (b + 4) 0 (fun t => min 99 (c 5 t + comN c aw t (c 0 0).toNat))) = X xs d k_Co_passEvening 58 [mR b, mI aw, mI ((sq (evB c aw) (c 0 0).toNat : Nat) : Int), mI ((c 0 0).toNat : Int)] [] (rowU F (b + 4) ((c 0 0).toNat : Int) (fun t => min 99 (c 5 t + comN c aw t (c 0 0).toNat))) := r3
  rw [rowU_0] at r3
  rw [r3, e_Co_passEvening_58 xs d _ _ _ hb, rowU_ne (show b ≠ b + 4 by omega), kF.n, if_neg (by omega), show (((c 0 0).toNat : Nat) : Int) = c 0 0 by omega]
  generalize hG : rowU F (b + 4) (c 0 0) (fun t => min 99 (c 5 t + comN c aw t (c 0 0).toNat)) = G
  have oG : Ow [b, b + 4, b + 8] h G := by rw [← hG]; exact oF.row (by simp)
  have kG : CoT b (fun f i => if f = 5 then min 99 (c 5 i + comN c aw i (c 0 0).toNat) else c f i) G := by
    rw [← hG]
    unfold CoT
    simp only [rowU_ne (show b ≠ b + 4 by omega), rowU_ne (show b + 1 ≠ b + 4 by omega), rowU_ne (show b + 2 ≠ b + 4 by omega), rowU_ne (show b + 3 ≠ b + 4 by omega), rowU_ne (show b + 5 ≠ b + 4 by omega), rowU_ne (show b + 6 ≠ b + 4 by omega)]
    exact ⟨kF.n, kF.g, kF.r, kF.p, kF.m, fun i h1 h2 => rowU_in ⟨h1, h2⟩, kF.l, kF.q⟩
  have wG : WfC (fun f i => if f = 5 then min 99 (c 5 i + comN c aw i (c 0 0).toNat) else c f i) := by
    obtain ⟨hn, hg, r1, r2, r3, r4, r5, r6, hw⟩ := w
    refine ⟨hn, hg, r1, r2, r3, r4, r5, r6, fun i h1 h2 => ?_⟩
    obtain ⟨a1, a2, a3, a4, a5⟩ := hw i h1 h2
    have cb := comN_bd ⟨hn, hg, r1, r2, r3, r4, r5, r6, hw⟩ (aw := aw) (t := i) (i := (c 0 0).toNat) (Nat.le_refl _)
    refine ⟨a1, a2, ?_, a4, a5⟩
    show 0 ≤ min 99 (c 5 i + comN c aw i (c 0 0).toNat) ∧ min 99 (c 5 i + comN c aw i (c 0 0).toNat) ≤ 99
    omega
  refine ⟨_, cV_of (t_passNights hb kG wG (n := 1) (by omega)) rfl, ntC_T kG, ?_⟩
  unfold ntM
  exact (oG.up (by simp)).row (by simp)
theorem evC_wf (w : WfC c) (hg : c 1 0 ≤ 19000) {aw : Int} : WfC (evC c aw) := by
  refine ntC_wf ?_ (by omega) (by show c 1 0 + 1 ≤ 20000; omega)
  obtain ⟨hn, hg, r1, r2, r3, r4, r5, r6, hw⟩ := w
  refine ⟨hn, hg, r1, r2, r3, r4, r5, r6, fun i h1 h2 => ?_⟩
  obtain ⟨a1, a2, a3, a4, a5⟩ := hw i h1 h2
  have cb := comN_bd ⟨hn, hg, r1, r2, r3, r4, r5, r6, hw⟩ (aw := aw) (t := i) (i := (c 0 0).toNat) (Nat.le_refl _)
  refine ⟨a1, a2, ?_, a4, a5⟩
  show 0 ≤ min 99 (c 5 i + comN c aw i (c 0 0).toNat) ∧ min 99 (c 5 i + comN c aw i (c 0 0).toNat) ≤ 99
  omega
end
end
section
/-! EQUIV 2: companies, the reference's own -/
theorem and_small : ∀ x, x < 128 → ∀ y, y < 128 → fAnd ((x : Nat) : Int) ((y : Nat) : Int) = ((x &&& y : Nat) : Int) := by decide +kernel
theorem not_small : ∀ b, b < 7 → ∀ x, x < 128 → fAnd ((x : Nat) : Int) (fXor (fShl 1 ((b : Nat) : Int)) (-1)) = ((x &&& (127 - 2 ^ b) : Nat) : Int) := by decide +kernel
theorem not_bit : ∀ b, b < 7 → ∀ i, i < 7 → (127 - 2 ^ b).testBit i = decide (i ≠ b) := by decide +kernel
theorem isin_small : ∀ p, p < 7 → ∀ x, x < 128 → decide (fAnd (fShr ((x : Nat) : Int) ((p : Nat) : Int)) 1 = 1) = x.testBit p := by decide +kernel
theorem and_sq {P Q : Nat → Bool} {n : Nat} (hn : n ≤ 7) : fAnd ((sq P n : Nat) : Int) ((sq Q n : Nat) : Int) = ((sq (fun i => P i && Q i) n : Nat) : Int) := by
  rw [and_small _ (sq_small hn) _ (sq_small hn)]
  congr 1
  apply Nat.eq_of_testBit_eq
  intro i
  rw [Nat.testBit_and, sq_bit, sq_bit, sq_bit]
  cases decide (i < n) <;> cases P i <;> cases Q i <;> rfl
theorem not_sq {P : Nat → Bool} {n b : Nat} (hn : n ≤ 7) (hb : b < 7) : fAnd ((sq P n : Nat) : Int) (fXor (fShl 1 ((b : Nat) : Int)) (-1)) = ((sq (fun i => P i && decide (i ≠ b)) n : Nat) : Int) := by
  rw [not_small b hb _ (sq_small hn)]
  congr 1
  apply Nat.eq_of_testBit_eq
  intro i
  rw [Nat.testBit_and, sq_bit, sq_bit]
  by_cases hi : i < n
  · rw [not_bit b hb i (by omega), decide_eq_true hi]
    cases P i <;> simp
  · rw [decide_eq_false hi]
    simp
theorem isin_sq {P : Nat → Bool} {n p : Nat} (hn : n ≤ 7) (hp : p < n) : fAnd (fShr ((sq P n : Nat) : Int) ((p : Nat) : Int)) 1 = 1 ↔ P p = true := by
  have h := isin_small p (by omega) _ (sq_small (P := P) hn)
  rw [sq_bit, decide_eq_true hp, Bool.true_and] at h
  rw [← h, decide_eq_true_eq]
def CoM (c : Kc) (h : mM) : Prop := h 131 0 = c 0 0 ∧ h 131 7 = c 1 0 ∧ (∀ i, 1 ≤ i → i ≤ 6 → h 131 i = c 2 i) ∧ (∀ i, 0 ≤ i → i < c 0 0 → h 131 (10 + 5 * i + 0) = c 3 i) ∧ (∀ i, 0 ≤ i → i < c 0 0 → h 131 (10 + 5 * i + 1) = c 4 i) ∧ (∀ i, 0 ≤ i → i < c 0 0 → h 131 (10 + 5 * i + 2) = c 5 i) ∧ (∀ i, 0 ≤ i → i < c 0 0 → h 131 (10 + 5 * i + 3) = c 6 i) ∧ (∀ i, 0 ≤ i → i < c 0 0 → h 131 (10 + 5 * i + 4) = c 7 i)
theorem CoM.n {c : Kc} {h : mM} (k : CoM c h) : h 131 0 = c 0 0 := k.1
theorem CoM.g {c : Kc} {h : mM} (k : CoM c h) : h 131 7 = c 1 0 := k.2.1
theorem CoM.r {c : Kc} {h : mM} (k : CoM c h) (i : Int) (h1 : 1 ≤ i) (h2 : i ≤ 6) : h 131 i = c 2 i := k.2.2.1 i h1 h2
theorem CoM.p {c : Kc} {h : mM} (k : CoM c h) (i : Int) (h1 : 0 ≤ i) (h2 : i < c 0 0) : h 131 (10 + 5 * i + 0) = c 3 i := k.2.2.2.1 i h1 h2
theorem CoM.m {c : Kc} {h : mM} (k : CoM c h) (i : Int) (h1 : 0 ≤ i) (h2 : i < c 0 0) : h 131 (10 + 5 * i + 1) = c 4 i := k.2.2.2.2.1 i h1 h2
theorem CoM.w {c : Kc} {h : mM} (k : CoM c h) (i : Int) (h1 : 0 ≤ i) (h2 : i < c 0 0) : h 131 (10 + 5 * i + 2) = c 5 i := k.2.2.2.2.2.1 i h1 h2
theorem CoM.l {c : Kc} {h : mM} (k : CoM c h) (i : Int) (h1 : 0 ≤ i) (h2 : i < c 0 0) : h 131 (10 + 5 * i + 3) = c 6 i := k.2.2.2.2.2.2.1 i h1 h2
theorem CoM.q {c : Kc} {h : mM} (k : CoM c h) (i : Int) (h1 : 0 ≤ i) (h2 : i < c 0 0) : h 131 (10 + 5 * i + 4) = c 7 i := k.2.2.2.2.2.2.2 i h1 h2
/-- the people's own cells alone have changed, and the sums of an evening -/
def Oc (h h' : mM) : Prop := (∀ a, a ≠ 131 → a ≠ 139 → h' a = h a) ∧ ∀ k, (46 ≤ k ∨ k = 8) → h' 131 k = h 131 k
theorem Oc.rf {h : mM} : Oc h h := ⟨fun _ _ _ => rfl, fun _ _ => rfl⟩
theorem Oc.tr {h k g : mM} (p : Oc h k) (q : Oc k g) : Oc h g := ⟨fun a h1 h2 => (q.1 a h1 h2).trans (p.1 a h1 h2), fun j hj => (q.2 j hj).trans (p.2 j hj)⟩
theorem Oc.up {h k : mM} (p : Oc h k) {i v : Int} (hi : i < 46 ∧ i ≠ 8) : Oc h (upM k 131 i v) := ⟨fun a h1 h2 => by rw [up_row h1]; exact p.1 a h1 h2, fun j hj => by rw [up_at, if_neg (by omega)]; exact p.2 j hj⟩
theorem Oc.up9 {h k : mM} (p : Oc h k) {i v : Int} : Oc h (upM k 139 i v) := ⟨fun a h1 h2 => by rw [up_row h2]; exact p.1 a h1 h2, fun j hj => by rw [up_ne (by omega)]; exact p.2 j hj⟩
theorem farI_max (a b : Int) : max (a - b) (b - a) = farI a b := by
  unfold farI
  split <;> omega
section
variable {xs : List Int} {d : Nat} {c : Kc} {h : mM}
theorem m_personRow {p : Int} (hp : 0 ≤ p ∧ p ≤ 100) : C xs d 111 0 [mI p] h = some ([mI (10 + 5 * p)], h) := by
  rw [c_M_personRow]
  refine if_y (by omega) ?_
  refine if_y (by omega) ?_
  rfl
theorem m_personOf {p f : Int} (hp : 0 ≤ p ∧ p ≤ 7) (hf : 0 ≤ f ∧ f ≤ 4) : C xs d 129 0 [mR 130, mI p, mI f] h = some ([mI (h 131 (10 + 5 * p + f))], h) := by
  rw [c_M_personOf]
  refine cI_of (m_personRow (by omega)) ?_
  refine if_y (by omega) ?_
  refine if_y (by omega) ?_
  rfl
theorem m_whomOf (k : CoM c h) (w : WfC c) {p : Int} (hp : 0 ≤ p ∧ p < c 0 0) : C xs d 130 0 [mR 130, mI p] h = some ([mI (c 7 p)], h) := by
  have hn := w.1
  rw [c_M_whomOf]
  refine cI_of (m_personOf (by omega) (by omega)) ?_
  rw [k.q p hp.1 hp.2]
theorem m_farBetween (k : CoM c h) (w : WfC c) {i j : Int} (hi : 0 ≤ i ∧ i < c 0 0) (hj : 0 ≤ j ∧ j < c 0 0) : C xs d 131 0 [mR 130, mI i, mI j] h = some ([mI (farI (c 3 i) (c 3 j))], h) := by
  have hn := w.1
  have a1 := (w.2.2.2.2.2.2.2.2 i hi.1 hi.2).1
  have a2 := (w.2.2.2.2.2.2.2.2 j hj.1 hj.2).1
  rw [c_M_farBetween]
  refine cI_of (m_personOf (by omega) (by omega)) ?_
  refine cI_of (m_personOf (by omega) (by omega)) ?_
  rw [k.p i hi.1 hi.2, k.p j hj.1 hj.2]
  refine if_y (by omega) ?_
  refine cI_of (m_personOf (by omega) (by omega)) ?_
  refine cI_of (m_personOf (by omega) (by omega)) ?_
  rw [k.p i hi.1 hi.2, k.p j hj.1 hj.2]
  refine if_y (by omega) ?_
  rw [farI_max]
theorem m_warmBy {x0 x1 x2 x3 : Int} (h0 : 0 ≤ x0 ∧ x0 ≤ 20) (h1 : 0 ≤ x1 ∧ x1 ≤ 9) (h2 : 0 ≤ x2 ∧ x2 ≤ 1000) (h3 : 1 ≤ x3) : C xs d 132 0 [mI x0, mI x1, mI x2, mI x3] h = some ([mI (wmI x0 x1 x2 x3)], h) := by
  have a1 := mul_bd h0.1 h0.2 h1.1 h1.2
  have a2 := div_bd h2.1 (show 0 < x3 by omega)
  rw [c_M_warmBy]
  refine if_y (by omega) ?_
  refine if_y (by omega) ?_
  refine if_y (by omega) ?_
  rfl
theorem m_warmOf (k : CoM c h) (w : WfC c) {p : Int} (hp : 0 ≤ p ∧ p < c 0 0) (hq : c 7 p ≠ -1) : C xs d 133 0 [mR 130, mI p] h = some ([mI (warmI c p)], h) := by
  have hn := w.1
  obtain ⟨a1, a2, a3, a4, a5⟩ := w.2.2.2.2.2.2.2.2 p hp.1 hp.2
  obtain ⟨b1, -⟩ := w.2.2.2.2.2.2.2.2 (c 7 p) (by omega) (by omega)
  rw [c_M_warmOf]
  refine cI_of (m_personOf (by omega) (by omega)) ?_
  refine cI_of (m_whomOf k w hp) ?_
  refine cI_of (m_farBetween k w hp (by omega)) ?_
  rw [k.r 5 (by omega) (by omega), k.r 6 (by omega) (by omega), k.m p hp.1 hp.2]
  refine cI_of (m_warmBy ⟨by have := w.2.2.2.2.2.2.1; omega, w.2.2.2.2.2.2.1.2⟩ a2 (by have := farI_bd a1 b1; omega) w.2.2.2.2.2.2.2.1.1) ?_
  rfl
theorem m_isLit (k : CoM c h) (w : WfC c) {p : Int} (hp : 0 ≤ p ∧ p < c 0 0) : C xs d 134 0 [mR 130, mI p] h = some ([mI (b2i (c 2 3 ≤ c 5 p))], h) := by
  have hn := w.1
  rw [c_M_isLit]
  refine cI_of (m_personOf (by omega) (by omega)) ?_
  rw [k.w p hp.1 hp.2, k.r 3 (by omega) (by omega)]
  by_cases q : c 5 p < c 2 3
  · rw [if_pos q, b2i_n (by omega)]
  · rw [if_neg q, b2i_y (by omega)]
theorem or_zero : ∀ x, x < 128 → fOr ((x : Nat) : Int) 0 = ((x : Nat) : Int) := by decide +kernel
theorem m_areLit (k : CoM c h) (w : WfC c) : C xs d 135 0 [mR 130] h = some ([mI ((sq (litB c) (c 0 0).toNat : Nat) : Int)], h) := by
  have hn := w.1
  rw [c_M_areLit xs d]
  have st : ∀ i : Nat, i < (c 0 0).toNat → X xs d k_M_areLit 4 [mR 130, mI ((sq (litB c) i : Nat) : Int), mI (i : Int)] [] h = X xs d k_M_areLit 4 [mR 130, mI ((sq (litB c) (i + 1) : Nat) : Int), mI ((i + 1 : Nat) : Int)] [] h := by
    intro i hi
    rw [e_M_areLit_4 xs d, k.n]
    refine if_y (by omega) ?_
    refine cI_of (m_isLit k w (by omega)) ?_
    by_cases q : c 2 3 ≤ c 5 (i : Int)
    · rw [if_neg (fun z => b2i_0.mp z q), e_M_areLit_20 xs d, sq_or (by omega), sq_y (decide_eq_true q)]
      refine if_y (by omega) ?_
      rfl
    · rw [if_pos (b2i_0.mpr q), e_M_areLit_20 xs d, sq_n (decide_eq_false q), or_zero _ (sq_small (by omega))]
      refine if_y (by omega) ?_
      rfl
  refine (run_to (fun i : Nat => X xs d k_M_areLit 4 [mR 130, mI ((sq (litB c) i : Nat) : Int), mI (i : Int)] [] h) st).trans ?_
  show X xs d k_M_areLit 4 _ [] h = _
  rw [e_M_areLit_4 xs d, k.n]
  refine if_n (by omega) ?_
  rfl
theorem m_haveWhom (k : CoM c h) (w : WfC c) : C xs d 136 0 [mR 130] h = some ([mI ((sq (whoB c) (c 0 0).toNat : Nat) : Int)], h) := by
  have hn := w.1
  rw [c_M_haveWhom xs d]
  have st : ∀ i : Nat, i < (c 0 0).toNat → X xs d k_M_haveWhom 4 [mR 130, mI ((sq (whoB c) i : Nat) : Int), mI (i : Int)] [] h = X xs d k_M_haveWhom 4 [mR 130, mI ((sq (whoB c) (i + 1) : Nat) : Int), mI ((i + 1 : Nat) : Int)] [] h := by
    intro i hi
    rw [e_M_haveWhom_4 xs d, k.n]
    refine if_y (by omega) ?_
    refine cI_of (m_whomOf k w (by omega)) ?_
    by_cases q : c 7 (i : Int) = -1
    · rw [if_pos q, e_M_haveWhom_21 xs d, sq_n (decide_eq_false (fun z => z q)), or_zero _ (sq_small (by omega))]
      refine if_y (by omega) ?_
      rfl
    · rw [if_neg q, e_M_haveWhom_21 xs d, sq_or (by omega), sq_y (decide_eq_true q)]
      refine if_y (by omega) ?_
      rfl
  refine (run_to (fun i : Nat => X xs d k_M_haveWhom 4 [mR 130, mI ((sq (whoB c) i : Nat) : Int), mI (i : Int)] [] h) st).trans ?_
  show X xs d k_M_haveWhom 4 _ [] h = _
  rw [e_M_haveWhom_4 xs d, k.n]
  refine if_n (by omega) ?_
  rfl
theorem m_warmersOf (k : CoM c h) (w : WfC c) (t : Int) : C xs d 137 0 [mR 130, mI t] h = some ([mI ((sq (warB c t) (c 0 0).toNat : Nat) : Int)], h) := by
  have hn := w.1
  rw [c_M_warmersOf xs d]
  have st : ∀ i : Nat, i < (c 0 0).toNat → X xs d k_M_warmersOf 4 [mR 130, mI t, mI ((sq (warB c t) i : Nat) : Int), mI (i : Int)] [] h = X xs d k_M_warmersOf 4 [mR 130, mI t, mI ((sq (warB c t) (i + 1) : Nat) : Int), mI ((i + 1 : Nat) : Int)] [] h := by
    intro i hi
    rw [e_M_warmersOf_4 xs d, k.n]
    refine if_y (by omega) ?_
    refine cI_of (m_whomOf k w (by omega)) ?_
    by_cases q : c 7 (i : Int) = t
    · rw [if_pos q, e_M_warmersOf_21 xs d, sq_or (by omega), sq_y (decide_eq_true q)]
      refine if_y (by omega) ?_
      rfl
    · rw [if_neg q, e_M_warmersOf_21 xs d, sq_n (decide_eq_false q), or_zero _ (sq_small (by omega))]
      refine if_y (by omega) ?_
      rfl
  refine (run_to (fun i : Nat => X xs d k_M_warmersOf 4 [mR 130, mI t, mI ((sq (warB c t) i : Nat) : Int), mI (i : Int)] [] h) st).trans ?_
  show X xs d k_M_warmersOf 4 _ [] h = _
  rw [e_M_warmersOf_4 xs d, k.n]
  refine if_n (by omega) ?_
  rfl
theorem m_together (k : CoM c h) (w : WfC c) {f : Int} {g : Nat} (hf : (f = 2 ∧ g = 5) ∨ (f = 3 ∧ g = 6)) : C xs d 138 0 [mR 130, mI f] h = some ([mI (sumN (fun p => c g (p : Int)) (c 0 0).toNat)], h) := by
  have hn := w.1
  rw [c_M_together xs d]
  have st : ∀ i : Nat, i < (c 0 0).toNat → X xs d k_M_together 4 [mR 130, mI f, mI (sumN (fun p => c g (p : Int)) i), mI (i : Int)] [] h = X xs d k_M_together 4 [mR 130, mI f, mI (sumN (fun p => c g (p : Int)) (i + 1)), mI ((i + 1 : Nat) : Int)] [] h := by
    intro i hi
    rw [e_M_together_4 xs d, k.n]
    refine if_y (by omega) ?_
    refine cI_of (m_personOf (by omega) (by omega)) ?_
    rcases hf with ⟨rfl, rfl⟩ | ⟨rfl, rfl⟩
    · have bd := wsum_bd w (i := i) (by omega)
      have b2 := (w.2.2.2.2.2.2.2.2 i (by omega) (by omega)).2.2.1
      rw [k.w i (by omega) (by omega)]
      refine if_y (by omega) ?_
      refine if_y (by omega) ?_
      rfl
    · have bd := lsum_bd w (i := i) (by omega)
      have b2 := (w.2.2.2.2.2.2.2.2 i (by omega) (by omega)).2.2.2.1
      rw [k.l i (by omega) (by omega)]
      refine if_y (by omega) ?_
      refine if_y (by omega) ?_
      rfl
  refine (run_to (fun i : Nat => X xs d k_M_together 4 [mR 130, mI f, mI (sumN (fun p => c g (p : Int)) i), mI (i : Int)] [] h) st).trans ?_
  show X xs d k_M_together 4 _ [] h = _
  rw [e_M_together_4 xs d, k.n]
  refine if_n (by omega) ?_
  rfl
theorem m_warms (k : CoM c h) (w : WfC c) {p v : Int} (hp : 0 ≤ p ∧ p < c 0 0) (hv : 0 ≤ v ∧ v ≤ 100000) : C xs d 142 0 [mR 130, mI p, mI v] h = some ([], upM h 131 (10 + 5 * p + 2) (min 99 (c 5 p + v))) := by
  have hn := w.1
  have a3 := (w.2.2.2.2.2.2.2.2 p hp.1 hp.2).2.2.1
  rw [c_M_warms]
  refine cI_of (m_personRow (by omega)) ?_
  refine if_y (by omega) ?_
  refine cI_of (m_personOf (by omega) (by omega)) ?_
  rw [k.w p hp.1 hp.2]
  refine if_y (by omega) ?_
  refine if_y (by omega) ?_
  rfl
/-- a person's cell is written -/
def setC (c : Kc) (f : Nat) (p v : Int) : Kc := fun f' i => if f' = f ∧ i = p then v else c f' i
theorem CoM.set (k : CoM c h) {p v f : Int} (hp : 0 ≤ p ∧ p ≤ 6) (hf : 0 ≤ f ∧ f ≤ 4) : CoM (setC c (3 + f.toNat) p v) (upM h 131 (10 + 5 * p + f) v) := by
  have e0 : ∀ g i, g < 3 → setC c (3 + f.toNat) p v g i = c g i := fun g i hg => if_neg (by omega)
  have key : ∀ (j : Int) (g : Nat), 0 ≤ j → j ≤ 4 → g = 3 + j.toNat → (∀ i, 0 ≤ i → i < c 0 0 → h 131 (10 + 5 * i + j) = c g i) → ∀ i, 0 ≤ i → i < setC c (3 + f.toNat) p v 0 0 → upM h 131 (10 + 5 * p + f) v 131 (10 + 5 * i + j) = setC c (3 + f.toNat) p v g i := by
    intro j g j1 j2 hg hk i h1 h2
    rw [e0 0 0 (by omega)] at h2
    rw [up_at]
    unfold setC
    by_cases e : i = p ∧ j = f
    · rw [if_pos (by omega), if_pos (by omega)]
    · rw [if_neg (by omega), if_neg (by omega), hk i h1 h2]
  refine ⟨?_, ?_, fun i h1 h2 => ?_, key 0 3 (by omega) (by omega) rfl k.p, key 1 4 (by omega) (by omega) rfl k.m, key 2 5 (by omega) (by omega) rfl k.w, key 3 6 (by omega) (by omega) rfl k.l, key 4 7 (by omega) (by omega) rfl k.q⟩
  · rw [up_at, if_neg (by omega), e0 0 0 (by omega)]; exact k.n
  · rw [up_at, if_neg (by omega), e0 1 0 (by omega)]; exact k.g
  · rw [up_at, if_neg (by omega), e0 2 i (by omega)]; exact k.r i h1 h2
theorem CoM.ext {c' : Kc} (k : CoM c h) (e : ∀ f i, f ≤ 7 → (f ≤ 1 → i = 0) → c f i = c' f i) : CoM c' h := by
  unfold CoM at k ⊢
  have e0 := e 0 0 (by omega) (fun _ => rfl)
  have e1 := e 1 0 (by omega) (fun _ => rfl)
  obtain ⟨k1, k2, k3, k4, k5, k6, k7, k8⟩ := k
  rw [← e0, ← e1]
  exact ⟨k1, k2, fun i a b => (k3 i a b).trans (e 2 i (by omega) (by omega)), fun i a b => (k4 i a b).trans (e 3 i (by omega) (by omega)), fun i a b => (k5 i a b).trans (e 4 i (by omega) (by omega)), fun i a b => (k6 i a b).trans (e 5 i (by omega) (by omega)), fun i a b => (k7 i a b).trans (e 6 i (by omega) (by omega)), fun i a b => (k8 i a b).trans (e 7 i (by omega) (by omega))⟩
theorem CoM.mv {h' : mM} (k : CoM c h) (e : h' 131 = h 131) : CoM c h' := by
  unfold CoM
  rw [e]
  exact k
theorem m_drinks (k : CoM c h) (w : WfC c) {p : Int} (hp : 0 ≤ p ∧ p < c 0 0) (hq : c 7 p ≠ -1) (hl : c 6 p ≠ 0) : ∃ h', C xs d 143 0 [mR 130, mI p] h = some ([mI 1], h') ∧ CoM (drC c p) h' ∧ Oc h h' := by
  have hn := w.1
  obtain ⟨a1, a2, a3, a4, a5⟩ := w.2.2.2.2.2.2.2.2 p hp.1 hp.2
  have wb := warmI_bd w hp hq
  rw [c_M_drinks]
  have k2 : CoM (setC c 6 p (c 6 p - 1)) (upM h 131 (10 + 5 * p + 3) (c 6 p - 1)) := k.set (f := 3) (by omega) (by omega)
  have e : ∀ g i, g ≠ 6 → setC c 6 p (c 6 p - 1) g i = c g i := fun g i hg => if_neg (fun z => hg z.1)
  have w2 : WfC (setC c 6 p (c 6 p - 1)) := by
    obtain ⟨hn, hg, r1, r2, r3, r4, r5, r6, hw⟩ := w
    unfold WfC WfP
    simp only [e 0 _ (by omega), e 1 _ (by omega), e 2 _ (by omega), e 3 _ (by omega), e 4 _ (by omega), e 5 _ (by omega), e 7 _ (by omega)]
    refine ⟨hn, hg, r1, r2, r3, r4, r5, r6, fun i h1 h2 => ?_⟩
    obtain ⟨b1, b2, b3, b4, b5⟩ := hw i h1 h2
    refine ⟨b1, b2, b3, ?_, b5⟩
    unfold setC
    by_cases q : i = p
    · rw [if_pos ⟨rfl, q⟩]; omega
    · rw [if_neg (fun z => q z.2)]; exact b4
  have n2 : setC c 6 p (c 6 p - 1) 0 0 = c 0 0 := e 0 0 (by omega)
  have q2 : setC c 6 p (c 6 p - 1) 7 p = c 7 p := e 7 p (by omega)
  have ww : warmI (setC c 6 p (c 6 p - 1)) p = warmI c p := by
    unfold warmI
    rw [e 2 5 (by omega), e 2 6 (by omega), e 4 p (by omega), e 3 p (by omega), e 7 p (by omega), e 3 _ (by omega)]
  have k3 := k2.set (p := c 7 p) (f := 2) (v := min 99 (c 5 (c 7 p) + warmI c p)) (by omega) (by omega)
  refine ⟨upM (upM h 131 (10 + 5 * p + 3) (c 6 p - 1)) 131 (10 + 5 * c 7 p + 2) (min 99 (c 5 (c 7 p) + warmI c p)), ?_, k3.ext ?_, (Oc.rf.up (by omega)).up (by omega)⟩
  · refine cI_of (m_personRow (by omega)) ?_
    refine cI_of (m_whomOf k w hp) ?_
    refine if_n (by omega) ?_
    refine if_y (by omega) ?_
    refine if_y (by omega) ?_
    rw [k.l p hp.1 hp.2]
    refine if_n (by omega) ?_
    refine if_y (by omega) ?_
    refine if_y (by omega) ?_
    refine if_y (by omega) ?_
    refine if_y (by omega) ?_
    refine cI_of (m_whomOf k2 w2 (by rw [n2]; exact hp)) ?_
    rw [q2]
    refine cI_of (m_warmOf k2 w2 (by rw [n2]; exact hp) (by rw [q2]; exact hq)) ?_
    rw [ww]
    refine cV_of (m_warms k2 w2 (by rw [n2]; omega) (by omega)) ?_
    rw [e 5 _ (by omega)]
  · intro f i _ _
    unfold drC setC
    show (if f = 5 ∧ i = c 7 p then _ else if f = 6 ∧ i = p then _ else _) = _
    by_cases e1 : f = 6 ∧ i = p
    · rw [if_neg (by omega), if_pos e1, if_pos e1]
    · rw [if_neg e1, if_neg e1]
theorem m_drinksNo (k : CoM c h) (w : WfC c) {p : Int} (hp : 0 ≤ p ∧ p < c 0 0) (hq : ¬ (c 7 p ≠ -1 ∧ c 6 p ≠ 0)) : C xs d 143 0 [mR 130, mI p] h = some ([mI 0], h) := by
  have hn := w.1
  rw [c_M_drinks]
  refine cI_of (m_personRow (by omega)) ?_
  refine cI_of (m_whomOf k w hp) ?_
  by_cases q1 : c 7 p = -1
  · refine if_y (by omega) ?_
    rfl
  · refine if_n (by omega) ?_
    refine if_y (by omega) ?_
    refine if_y (by omega) ?_
    rw [k.l p hp.1 hp.2]
    refine if_y (Decidable.byContradiction (fun z => hq ⟨q1, z⟩)) ?_
    rfl
end
end
section
/-! EQUIV 3: the reference's nights, evenings, copies -/
/-- a row written from a place on -/
def rowW (h : mM) (a : Nat) (lo i : Int) (f : Int → Int) : mM := fun a' k => if a' = a ∧ lo ≤ k ∧ k < lo + i then f k else h a' k
theorem rowW_0 {h : mM} {a : Nat} {lo : Int} {f : Int → Int} : rowW h a lo 0 f = h := by
  funext a' k
  unfold rowW
  rw [if_neg (by omega)]
theorem rowW_up {h : mM} {a : Nat} {lo i v : Int} {f : Int → Int} (hi : 0 ≤ i) (hv : v = f (lo + i)) : upM (rowW h a lo i f) a (lo + i) v = rowW h a lo (i + 1) f := by
  funext a' k
  unfold upM rowW
  by_cases e : a' = a ∧ k = lo + i
  · rw [if_pos e, if_pos ⟨e.1, by omega⟩, hv, e.2]
  · rw [if_neg e]
    by_cases e2 : a' = a ∧ lo ≤ k ∧ k < lo + i
    · rw [if_pos e2, if_pos ⟨e2.1, by omega⟩]
    · rw [if_neg e2, if_neg (fun z => by
        have : k = lo + i := by
          by_cases q : k < lo + i
          · exact absurd ⟨z.1, z.2.1, q⟩ e2
          · omega
        exact e ⟨z.1, this⟩)]
theorem rowW_in {h : mM} {a : Nat} {lo i k : Int} {f : Int → Int} (hk : lo ≤ k ∧ k < lo + i) : rowW h a lo i f a k = f k := if_pos ⟨rfl, hk⟩
theorem rowW_out {h : mM} {a : Nat} {lo i k : Int} {f : Int → Int} (hk : ¬ (lo ≤ k ∧ k < lo + i)) : rowW h a lo i f a k = h a k := if_neg (fun z => hk z.2)
theorem rowW_ne {h : mM} {a b : Nat} {lo i : Int} {f : Int → Int} (e : b ≠ a) : rowW h a lo i f b = h b := funext fun k => if_neg (fun z => e z.1)
section
variable {xs : List Int} {d : Nat} {c : Kc} {h : mM}
theorem m_cools (k : CoM c h) (w : WfC c) {p : Int} (hp : 0 ≤ p ∧ p < c 0 0) : C xs d 145 0 [mR 130, mI p] h = some ([], upM h 131 (10 + 5 * p + 2) (max 0 (c 5 p - c 2 4))) := by
  have hn := w.1
  have a3 := (w.2.2.2.2.2.2.2.2 p hp.1 hp.2).2.2.1
  have r4 := w.2.2.2.2.2.1
  rw [c_M_cools]
  refine cI_of (m_personRow (by omega)) ?_
  refine if_y (by omega) ?_
  refine cI_of (m_personOf (by omega) (by omega)) ?_
  rw [k.w p hp.1 hp.2, k.r 4 (by omega) (by omega)]
  refine if_y (by omega) ?_
  refine if_y (by omega) ?_
  rfl
/-- the first so many have cooled -/
def cqN (c : Kc) (i : Int) : Kc := fun f j => if f = 5 ∧ 0 ≤ j ∧ j < i then max 0 (c 5 j - c 2 4) else c f j
theorem cqN_wf (w : WfC c) (i : Int) : WfC (cqN c i) := by
  obtain ⟨hn, hg, r1, r2, r3, r4, r5, r6, hw⟩ := w
  have e : ∀ f j, f ≠ 5 → cqN c i f j = c f j := fun f j hf => if_neg (fun z => hf z.1)
  unfold WfC WfP
  simp only [e 0 _ (by omega), e 1 _ (by omega), e 2 _ (by omega), e 3 _ (by omega), e 4 _ (by omega), e 6 _ (by omega), e 7 _ (by omega)]
  refine ⟨hn, hg, r1, r2, r3, r4, r5, r6, fun j h1 h2 => ?_⟩
  obtain ⟨b1, b2, b3, b4, b5⟩ := hw j h1 h2
  refine ⟨b1, b2, ?_, b4, b5⟩
  unfold cqN
  split <;> omega
theorem m_nightGoes (k : CoM c h) (w : WfC c) : ∃ h', C xs d 146 0 [mR 130] h = some ([], h') ∧ CoM (ntC c 1) h' ∧ Oc h h' := by
  have hn := w.1
  have hg := w.2.1
  rw [c_M_nightGoes]
  have key : ∀ (m : Nat) (i : Int) (g : mM), 0 ≤ i → i + m = c 0 0 → CoM (cqN c i) g → Oc h g → ∃ h', X xs d k_M_nightGoes 2 [mR 130, mI i] [] g = some ([], h') ∧ CoM (ntC c 1) h' ∧ Oc h h' := by
    intro m
    induction m with
    | zero =>
      intro i g h0 hi kg og
      have e0 : cqN c i 0 0 = c 0 0 := if_neg (by omega)
      have e1 : cqN c i 1 0 = c 1 0 := if_neg (by omega)
      rw [e_M_nightGoes_2, kg.n, kg.g, e0, e1, if_neg (by omega)]
      refine ⟨upM g 131 7 (c 1 0 + 1), if_y (by omega) rfl, ?_, og.up (by omega)⟩
      obtain ⟨k1, k2, k3, k4, k5, k6, k7, k8⟩ := kg
      rw [e0] at k1 k4 k5 k6 k7 k8
      have n0 : ntC c 1 0 0 = c 0 0 := by unfold ntC; rw [if_neg (by omega), if_neg (by omega)]
      have nn : ∀ f j, f ≠ 5 → f ≠ 1 → ntC c 1 f j = c f j := fun f j h5 h1 => by unfold ntC; rw [if_neg h5, if_neg h1]
      have cc : ∀ f j, f ≠ 5 → cqN c i f j = c f j := fun f j h5 => if_neg (fun z => h5 z.1)
      refine ⟨?_, ?_, fun j h1 h2 => ?_, fun j h1 h2 => ?_, fun j h1 h2 => ?_, fun j h1 h2 => ?_, fun j h1 h2 => ?_, fun j h1 h2 => ?_⟩
      · rw [up_at, if_neg (by omega), k1, n0]
      · rw [up_at, if_pos rfl]; rfl
      · rw [up_at, if_neg (by omega), k3 j h1 h2, cc 2 j (by omega), nn 2 j (by omega) (by omega)]
      · rw [n0] at h2; rw [up_at, if_neg (by omega), k4 j h1 h2, cc 3 j (by omega), nn 3 j (by omega) (by omega)]
      · rw [n0] at h2; rw [up_at, if_neg (by omega), k5 j h1 h2, cc 4 j (by omega), nn 4 j (by omega) (by omega)]
      · rw [n0] at h2
        rw [up_at, if_neg (by omega), k6 j h1 h2]
        unfold cqN ntC
        rw [if_pos ⟨rfl, by omega⟩, if_pos rfl, Int.one_mul]
      · rw [n0] at h2; rw [up_at, if_neg (by omega), k7 j h1 h2, cc 6 j (by omega), nn 6 j (by omega) (by omega)]
      · rw [n0] at h2; rw [up_at, if_neg (by omega), k8 j h1 h2, cc 7 j (by omega), nn 7 j (by omega) (by omega)]
    | succ m ih =>
      intro i g h0 hi kg og
      have e0 : cqN c i 0 0 = c 0 0 := if_neg (by omega)
      have wg := cqN_wf w i
      rw [e_M_nightGoes_2, kg.n, e0, if_pos (by omega)]
      obtain ⟨h', r1, r2, r3⟩ := ih (i + 1) _ (by omega) (by omega) ((kg.set (p := i) (f := 2) (v := max 0 (cqN c i 5 i - cqN c i 2 4)) (by omega) (by omega)).ext (c' := cqN c (i + 1)) (fun f j _ _ => by
        unfold setC cqN
        show (if f = 5 ∧ j = i then max 0 ((if 5 = 5 ∧ 0 ≤ i ∧ i < i then _ else c 5 i) - (if 2 = 5 ∧ 0 ≤ (4 : Int) ∧ (4 : Int) < i then _ else c 2 4)) else _) = _
        rw [if_neg (show ¬ (5 = 5 ∧ 0 ≤ i ∧ i < i) by omega), if_neg (show ¬ (2 = 5 ∧ 0 ≤ (4 : Int) ∧ (4 : Int) < i) by omega)]
        by_cases q : f = 5 ∧ j = i
        · rw [if_pos q, if_pos (by omega), q.2]
        · rw [if_neg q]
          by_cases q2 : f = 5 ∧ 0 ≤ j ∧ j < i
          · rw [if_pos q2, if_pos (by omega)]
          · rw [if_neg q2, if_neg (by omega)])) (og.up (by omega))
      refine ⟨h', ?_, r2, r3⟩
      refine cV_of (m_cools kg wg (by rw [e0]; omega)) ?_
      refine if_y (by omega) ?_
      exact r1
  exact key (c 0 0).toNat 0 h (by omega) (by omega) (k.ext (fun f j _ _ => (if_neg (by omega)).symm)) Oc.rf
theorem ntC_ntC (c : Kc) {n : Int} (hn : 0 ≤ n) (h4 : 0 ≤ c 2 4) : ntC (ntC c n) 1 = ntC c (n + 1) := by
  funext f i
  unfold ntC
  show (if f = 5 then max 0 (max 0 (c 5 i - n * c 2 4) - 1 * c 2 4) else if f = 1 then (c 1 i + n) + 1 else if f = 5 then _ else if f = 1 then _ else c f i) = _
  by_cases h5 : f = 5
  · rw [if_pos h5, if_pos h5, Int.add_mul]
    have := Int.mul_nonneg hn h4
    omega
  · rw [if_neg h5, if_neg h5, if_neg h5]
    by_cases h1 : f = 1
    · rw [if_pos h1, if_pos h1]; omega
    · rw [if_neg h1, if_neg h1, if_neg h1]
theorem ntC_0 (w : WfC c) : ∀ f i, f ≤ 7 → (f ≤ 1 → i = 0) → (0 ≤ i ∧ i < c 0 0 ∨ f ≠ 5) → c f i = ntC c 0 f i := by
  intro f i _ _ hi
  unfold ntC
  by_cases h5 : f = 5
  · have := (w.2.2.2.2.2.2.2.2 i (by omega) (by omega)).2.2.1
    rw [if_pos h5, Int.zero_mul, h5]
    omega
  · rw [if_neg h5]
    by_cases h1 : f = 1
    · rw [if_pos h1, h1]; omega
    · rw [if_neg h1]
theorem m_nightsGo (k : CoM c h) (w : WfC c) {n : Int} (h1 : 0 ≤ n ∧ n ≤ 1000) (hg : c 1 0 + n ≤ 20000) : ∃ h', C xs d 147 0 [mR 130, mI n] h = some ([], h') ∧ CoM (ntC c n) h' ∧ Oc h h' := by
  have hn := w.1
  have r4 := w.2.2.2.2.2.1
  rw [c_M_nightsGo]
  have key : ∀ (m : Nat) (i : Int) (g : mM), 0 ≤ i → i + m = n → CoM (ntC c i) g → Oc h g → ∃ h', X xs d k_M_nightsGo 2 [mR 130, mI n, mI i] [] g = some ([], h') ∧ CoM (ntC c n) h' ∧ Oc h h' := by
    intro m
    induction m with
    | zero =>
      intro i g h0 hi kg og
      obtain rfl : i = n := by omega
      rw [e_M_nightsGo_2, if_neg (by omega)]
      exact ⟨g, rfl, kg, og⟩
    | succ m ih =>
      intro i g h0 hi kg og
      have wg := ntC_wf w h0 (by omega)
      obtain ⟨g2, s1, s2, s3⟩ := m_nightGoes (xs := xs) (d := d) kg wg
      rw [ntC_ntC c h0 r4.1] at s2
      obtain ⟨h', r1, r2, r3⟩ := ih (i + 1) g2 (by omega) (by omega) s2 (og.tr s3)
      refine ⟨h', ?_, r2, r3⟩
      rw [e_M_nightsGo_2, if_pos (by omega)]
      refine cV_of (s1) ?_
      refine if_y (by omega) ?_
      exact r1
  refine key n.toNat 0 h (by omega) (by omega) ?_ Oc.rf
  have n0 : ntC c 0 0 0 = c 0 0 := by unfold ntC; rw [if_neg (by omega), if_neg (by omega)]
  have z := ntC_0 w
  obtain ⟨k1, k2, k3, k4, k5, k6, k7, k8⟩ := k
  unfold CoM
  rw [n0]
  exact ⟨k1, k2.trans (z 1 0 (by omega) (fun _ => rfl) (by omega)), fun j a b => (k3 j a b).trans (z 2 j (by omega) (by omega) (by omega)), fun j a b => (k4 j a b).trans (z 3 j (by omega) (by omega) (by omega)), fun j a b => (k5 j a b).trans (z 4 j (by omega) (by omega) (by omega)), fun j a b => (k6 j a b).trans (z 5 j (by omega) (by omega) (by omega)), fun j a b => (k7 j a b).trans (z 6 j (by omega) (by omega) (by omega)), fun j a b => (k8 j a b).trans (z 7 j (by omega) (by omega) (by omega))⟩
theorem m_isIn {P : Nat → Bool} {n p : Nat} (hn : n ≤ 7) (hp : p < n) : C xs d 112 0 [mR 130, mI ((sq P n : Nat) : Int), mI (p : Int)] h = some ([mI (b2i (P p = true))], h) := by
  rw [c_M_isIn]
  by_cases q : P p = true
  · rw [if_pos ((isin_sq hn hp).mpr q), b2i_y q]
  · rw [if_neg (fun z => q ((isin_sq hn hp).mp z)), b2i_n q]
theorem m_eveningGoes (k : CoM c h) (w : WfC c) (hg : c 1 0 ≤ 19000) {aw : Int} (haw : aw = -1 ∨ 0 ≤ aw ∧ aw < c 0 0) : ∃ h', C xs d 149 0 [mR 130, mI aw] h = some ([mI ((sq (evB c aw) (c 0 0).toNat : Nat) : Int)], h') ∧ CoM (evC c aw) h' ∧ Oc h h' := by
  have hn := w.1
  -- who warms
  have set17 : C xs d 149 0 [mR 130, mI aw] h = X xs d k_M_eveningGoes 17 [mR 130, mI aw, mI ((sq (evB c aw) (c 0 0).toNat : Nat) : Int), mC 0] [] h := by
    rw [c_M_eveningGoes]
    refine cI_of (m_areLit k w) ?_
    refine cI_of (m_haveWhom k w) ?_
    rw [and_sq (by omega)]
    by_cases q : aw = -1
    · rw [if_pos q]
      have e : sq (fun i => litB c i && whoB c i) (c 0 0).toNat = sq (evB c aw) (c 0 0).toNat := sq_congr (fun i hi => by
        unfold litB whoB evB
        rw [← Bool.decide_and]
        exact decide_eq_decide.mpr ⟨fun z => ⟨by omega, z.1, z.2⟩, fun z => ⟨z.2.1, z.2.2⟩⟩)
      rw [e]
    · rw [if_neg q]
      obtain ⟨b, hb⟩ : ∃ b : Nat, aw = (b : Int) := ⟨aw.toNat, by omega⟩
      subst hb
      rw [not_sq (by omega) (by omega)]
      have e : sq (fun i => (litB c i && whoB c i) && decide (i ≠ b)) (c 0 0).toNat = sq (evB c (b : Int)) (c 0 0).toNat := sq_congr (fun i hi => by
        unfold litB whoB evB
        rw [← Bool.decide_and, ← Bool.decide_and]
        exact decide_eq_decide.mpr ⟨fun z => ⟨by omega, z.1.1, z.1.2⟩, fun z => ⟨⟨z.2.1, z.2.2⟩, by omega⟩⟩)
      rw [e]
  rw [set17, e_M_eveningGoes_17]
  -- all sums are 0
  have st1 : ∀ i : Nat, i < 7 → X xs d k_M_eveningGoes 19 [mR 130, mI aw, mI ((sq (evB c aw) (c 0 0).toNat : Nat) : Int), mI (i : Int)] [] (rowU h 139 i (fun _ => 0)) = X xs d k_M_eveningGoes 19 [mR 130, mI aw, mI ((sq (evB c aw) (c 0 0).toNat : Nat) : Int), mI ((i + 1 : Nat) : Int)] [] (rowU h 139 ((i + 1 : Nat) : Int) (fun _ => 0)) := by
    intro i hi
    rw [e_M_eveningGoes_19 xs d]
    refine if_y (by omega) ?_
    refine if_y (by omega) ?_
    refine if_y (by omega) ?_
    rw [rowU_up (by omega) rfl]
    rfl
  have r1 := run_to (fun i : Nat => X xs d k_M_eveningGoes 19 [mR 130, mI aw, mI ((sq (evB c aw) (c 0 0).toNat : Nat) : Int), mI (i : Int)] [] (rowU h 139 i (fun _ => 0))) st1
  have r1 : X xs d k_M_eveningGoes 19 [mR 130, mI aw, mI ((sq (evB c aw) (c 0 0).toNat : Nat) : Int), mI 0] [] (rowU h 139 0 (fun _ => 0)) = X xs d k_M_eveningGoes 19 [mR 130, mI aw, mI ((sq (evB c aw) (c 0 0).toNat : Nat) : Int), mI 7] [] (rowU h 139 7 (fun _ => 0)) := r1
  rw [rowU_0] at r1
  rw [r1, e_M_eveningGoes_19 xs d, if_neg (by omega)]
  have z0 : rowU h 139 7 (fun _ => 0) = rowU h 139 7 (fun t => comN c aw t 0) := rfl
  rw [z0]
  have kk : ∀ i : Nat, CoM c (rowU h 139 7 (fun t => comN c aw t i)) := fun i => k.mv (rowU_ne (by omega))
  have st2 : ∀ i : Nat, i < (c 0 0).toNat → X xs d k_M_eveningGoes 31 [mR 130, mI aw, mI ((sq (evB c aw) (c 0 0).toNat : Nat) : Int), mI (i : Int)] [] (rowU h 139 7 (fun t => comN c aw t i)) = X xs d k_M_eveningGoes 31 [mR 130, mI aw, mI ((sq (evB c aw) (c 0 0).toNat : Nat) : Int), mI ((i + 1 : Nat) : Int)] [] (rowU h 139 7 (fun t => comN c aw t (i + 1))) := by
    intro i hi
    have hp : 0 ≤ (i : Int) ∧ (i : Int) < c 0 0 := by omega
    obtain ⟨a1, a2, a3, a4, a5⟩ := w.2.2.2.2.2.2.2.2 i hp.1 hp.2
    rw [e_M_eveningGoes_31 xs d, (kk i).n]
    refine if_y (by omega) ?_
    refine cI_of (m_isIn (by omega) hi) ?_
    by_cases q : (i : Int) ≠ aw ∧ c 2 3 ≤ c 5 (i : Int) ∧ c 7 (i : Int) ≠ -1
    rotate_left
    · rw [if_pos (b2i_0.mpr (fun z : evB c aw i = true => q (of_decide_eq_true z))), e_M_eveningGoes_54 xs d]
      refine if_y (by omega) ?_
      have e : (fun t => comN c aw t (i + 1)) = (fun t => comN c aw t i) := by
        funext t
        show comN c aw t i + (if _ then _ else _) = _
        rw [if_neg (fun z => q ⟨z.1, z.2.1, z.2.2.1⟩), Int.add_zero]
      rw [e]
      rfl
    rw [if_neg (fun z => b2i_0.mp z (show evB c aw i = true from decide_eq_true q))]
    obtain ⟨q1, q2, q3⟩ := q
    have hq : 0 ≤ c 7 (i : Int) ∧ c 7 (i : Int) < c 0 0 := by omega
    refine cI_of (m_whomOf (kk i) w hp) ?_
    refine if_y (by omega) ?_
    refine cI_of (m_warmOf (kk i) w hp q3) ?_
    have cb := comN_bd w (aw := aw) (t := c 7 (i : Int)) (i := i) (by omega)
    have wb := warmI_bd w hp q3
    rw [rowU_in (by omega)]
    refine if_y (by omega) ?_
    refine if_y (by omega) ?_
    rw [e_M_eveningGoes_54 xs d]
    refine if_y (by omega) ?_
    have e : upM (rowU h 139 7 (fun t => comN c aw t i)) 139 (c 7 (i : Int)) (comN c aw (c 7 (i : Int)) i + warmI c (i : Int)) = rowU h 139 7 (fun t => comN c aw t (i + 1)) := by
      funext a j
      by_cases e1 : a = 139
      · subst e1
        rw [up_at]
        by_cases e2 : j = c 7 (i : Int)
        · rw [if_pos e2, rowU_in (by omega), e2]
          show _ = comN c aw (c 7 (i : Int)) i + (if _ then _ else _)
          rw [if_pos ⟨q1, q2, q3, rfl⟩]
        · rw [if_neg e2]
          by_cases e3 : 0 ≤ j ∧ j < 7
          · rw [rowU_in e3, rowU_in e3]
            show _ = comN c aw j i + (if _ then _ else _)
            rw [if_neg (fun z => e2 z.2.2.2.symm), Int.add_zero]
          · rw [rowU_out e3, rowU_out e3]
      · rw [up_ne e1, rowU_ne e1, rowU_ne e1]
    rw [e]
    rfl
  have r2 := run_to (fun i : Nat => X xs d k_M_eveningGoes 31 [mR 130, mI aw, mI ((sq (evB c aw) (c 0 0).toNat : Nat) : Int), mI (i : Int)] [] (rowU h 139 7 (fun t => comN c aw t i))) st2
  have r2 : X xs d k_M_eveningGoes 31 [mR 130, mI aw, mI ((sq (evB c aw) (c 0 0).toNat : Nat) : Int), mI 0] [] (rowU h 139 7 (fun t => comN c aw t 0)) = X xs d k_M_eveningGoes 31 [mR 130, mI aw, mI ((sq (evB c aw) (c 0 0).toNat : Nat) : Int), mI ((c 0 0).toNat : Int)] [] (rowU h 139 7 (fun t => comN c aw t (c 0 0).toNat)) := r2
  rw [r2, e_M_eveningGoes_31 xs d, (kk _).n, if_neg (by omega)]
  generalize hF : rowU h 139 7 (fun t => comN c aw t (c 0 0).toNat) = F
  have kF : CoM c F := by rw [← hF]; exact kk _
  have sF : ∀ t, 0 ≤ t → t < c 0 0 → F 139 t = comN c aw t (c 0 0).toNat := fun t h1 h2 => by rw [← hF, rowU_in (by omega)]
  have oF : Oc h F := by rw [← hF]; exact ⟨fun a _ h2 => rowU_ne h2, fun j _ => by rw [rowU_ne (by omega)]⟩
  -- warmth comes
  let cw : Int → Kc := fun i f j => if f = 5 ∧ 0 ≤ j ∧ j < i then min 99 (c 5 j + comN c aw j (c 0 0).toNat) else c f j
  have key : ∀ (m : Nat) (i : Int) (g : mM), 0 ≤ i → i + m = c 0 0 → CoM (cw i) g → g 139 = F 139 → Oc h g → ∃ h', X xs d k_M_eveningGoes 58 [mR 130, mI aw, mI ((sq (evB c aw) (c 0 0).toNat : Nat) : Int), mI i] [] g = some ([mI ((sq (evB c aw) (c 0 0).toNat : Nat) : Int)], h') ∧ CoM (evC c aw) h' ∧ Oc h h' := by
    intro m
    have wi : ∀ i, WfC (cw i) := by
      intro i
      obtain ⟨hn, hg, r1, r2, r3, r4, r5, r6, hw⟩ := w
      have e : ∀ f j, f ≠ 5 → cw i f j = c f j := fun f j hf => if_neg (fun z => hf z.1)
      unfold WfC WfP
      simp only [e 0 _ (by omega), e 1 _ (by omega), e 2 _ (by omega), e 3 _ (by omega), e 4 _ (by omega), e 6 _ (by omega), e 7 _ (by omega)]
      refine ⟨hn, hg, r1, r2, r3, r4, r5, r6, fun j h1 h2 => ?_⟩
      obtain ⟨b1, b2, b3, b4, b5⟩ := hw j h1 h2
      have cb := comN_bd ⟨hn, hg, r1, r2, r3, r4, r5, r6, hw⟩ (aw := aw) (t := j) (i := (c 0 0).toNat) (Nat.le_refl _)
      refine ⟨b1, b2, ?_, b4, b5⟩
      show (0 : Int) ≤ (if 5 = 5 ∧ 0 ≤ j ∧ j < i then min 99 (c 5 j + comN c aw j (c 0 0).toNat) else c 5 j) ∧ (if 5 = 5 ∧ 0 ≤ j ∧ j < i then min 99 (c 5 j + comN c aw j (c 0 0).toNat) else c 5 j) ≤ 99
      split <;> omega
    have e0 : ∀ i, cw i 0 0 = c 0 0 := fun i => if_neg (by omega)
    induction m with
    | zero =>
      intro i g h0 hi kg s9 og
      rw [e_M_eveningGoes_58, kg.n, e0, if_neg (by omega)]
      obtain ⟨h', s1, s2, s3⟩ := m_nightGoes (xs := xs) (d := d) kg (wi i)
      refine ⟨h', cV_of s1 rfl, ?_, og.tr s3⟩
      obtain ⟨k1, k2, k3, k4, k5, k6, k7, k8⟩ := s2
      have nn : ∀ f j, f ≠ 5 → ntC (cw i) 1 f j = evC c aw f j := fun f j hf => by
        unfold evC ntC
        rw [if_neg hf, if_neg hf]
        show (if f = 1 then cw i 1 j + 1 else cw i f j) = (if f = 1 then (if 1 = 5 then _ else c 1 j) + 1 else if f = 5 then _ else c f j)
        rw [if_neg hf, if_neg (show ¬ (1 : Nat) = 5 by omega), show cw i 1 j = c 1 j from if_neg (by omega), show cw i f j = c f j from if_neg (fun z => hf z.1)]
      have n0 : ntC (cw i) 1 0 0 = evC c aw 0 0 := nn 0 0 (by omega)
      have n00 : evC c aw 0 0 = c 0 0 := by rw [← n0]; unfold ntC; rw [if_neg (by omega), if_neg (by omega)]; exact e0 i
      unfold CoM
      rw [n0] at k1 k4 k5 k6 k7 k8
      refine ⟨k1, k2.trans (nn 1 0 (by omega)), fun j a b => (k3 j a b).trans (nn 2 j (by omega)), fun j a b => (k4 j a b).trans (nn 3 j (by omega)), fun j a b => (k5 j a b).trans (nn 4 j (by omega)), fun j a b => (k6 j a b).trans ?_, fun j a b => (k7 j a b).trans (nn 6 j (by omega)), fun j a b => (k8 j a b).trans (nn 7 j (by omega))⟩
      rw [n00] at b
      unfold evC ntC
      rw [if_pos rfl, if_pos rfl]
      show max 0 (cw i 5 j - 1 * cw i 2 4) = max 0 ((if 5 = 5 then min 99 (c 5 j + comN c aw j (c 0 0).toNat) else _) - 1 * (if 2 = 5 then _ else c 2 4))
      rw [if_pos rfl, if_neg (show ¬ (2 : Nat) = 5 by omega), show cw i 2 4 = c 2 4 from if_neg (by omega), show cw i 5 j = min 99 (c 5 j + comN c aw j (c 0 0).toNat) from if_pos ⟨rfl, by omega⟩]
    | succ m ih =>
      intro i g h0 hi kg s9 og
      have cb := comN_bd w (aw := aw) (t := i) (i := (c 0 0).toNat) (Nat.le_refl _)
      have c5 : cw i 5 i = c 5 i := if_neg (by omega)
      rw [e_M_eveningGoes_58, kg.n, e0, if_pos (by omega), s9, sF i (by omega) (by omega)]
      obtain ⟨h', r1, r2, r3⟩ := ih (i + 1) _ (by omega) (by omega) ((kg.set (p := i) (f := 2) (v := min 99 (cw i 5 i + comN c aw i (c 0 0).toNat)) (by omega) (by omega)).ext (c' := cw (i + 1)) (fun f j _ _ => by
        unfold setC
        rw [c5]
        show (if f = 5 ∧ j = i then _ else if f = 5 ∧ 0 ≤ j ∧ j < i then _ else c f j) = (if f = 5 ∧ 0 ≤ j ∧ j < i + 1 then _ else c f j)
        by_cases q : f = 5 ∧ j = i
        · rw [if_pos q, if_pos (by omega), q.2]
        · rw [if_neg q]
          by_cases q2 : f = 5 ∧ 0 ≤ j ∧ j < i
          · rw [if_pos q2, if_pos (by omega)]
          · rw [if_neg q2, if_neg (by omega)])) (by rw [up_row (by omega)]; exact s9) (og.up (by omega))
      refine ⟨h', ?_, r2, r3⟩
      refine if_y (by omega) ?_
      refine cV_of (m_warms kg (wi i) (by rw [e0]; omega) (by omega)) ?_
      refine if_y (by omega) ?_
      exact r1
  exact key (c 0 0).toNat 0 F (by omega) (by omega) (kF.ext (fun f j _ _ => (if_neg (by omega)).symm)) rfl oF
end
end
section
/-! EQUIV 4: what class and reference have in common between calls -/
/-- a word's letters (1 to 26) as one number, to a base -/
def pk (B o : Int) : List Nat → Int → Int
  | [], a => a
  | l :: r, a => pk B o r (a * B + ((l : Int) + o))
def wOk (w : List Nat) : Prop := w.length ≤ 8 ∧ ∀ l ∈ w, 1 ≤ l ∧ l ≤ 26
def NmR (nT nM : Int → Int) (n : Int) : Prop := ∀ p, 0 ≤ p → p < n → ∃ w, wOk w ∧ nT p = pk 32 0 w 0 ∧ nM p = pk 256 96 w 0
/-- one row of TIMES -/
def StR (n r tw tp tt ts tn tq m0 m1 m2 m4 m5 : Int) : Prop :=
  (tw = 14 ∧ m0 = 13 ∧ tp = m1 ∧ 0 ≤ tp ∧ tp < n) ∨
  (tw = 15 ∧ m0 = 14 ∧ tn = m1 ∧ 1 ≤ tn ∧ tn ≤ 20) ∨
  (tw = 16 ∧ m0 = 15) ∨
  (tw = 17 ∧ m0 = 16 ∧ tp = m1 ∧ 0 ≤ tp ∧ tp < n ∧ tn = m2 ∧ 0 ≤ tn ∧ tn ≤ 9) ∨
  (tw = 18 ∧ m0 = 17) ∨
  (tw = 19 ∧ tp = m1 ∧ 0 ≤ tp ∧ tp < n ∧ (tt = 20 ∧ m0 = 1822 ∨ (tt = 10 ∧ m0 = 1810 ∨ tt = 11 ∧ m0 = 1811) ∧ ts = m5 ∧ (ts = 60 ∨ ts = 61 ∨ ts = 62) ∧ tn = m2 ∧ 0 ≤ tn ∧ tn ≤ 99) ∧ tq = m4 ∧ r < tq) ∨
  (tw = 21 ∧ m0 = 19 ∧ tn = m1 ∧ 1 ≤ tn ∧ tn ≤ 99 ∧ tq = m4 ∧ r < tq) ∨
  (tw = 22 ∧ m0 = 20 ∧ tq = m4 ∧ 0 ≤ tq ∧ tq < r) ∨
  (tw = 23 ∧ m0 = 21)
abbrev opn (x : Int) : Prop := x = 19 ∨ x = 21
/-- whens, loops and their ends lie in each other -/
def Nst (rows : Int) (tw tq : Int → Int) : Prop := ∀ r, 0 ≤ r → r < rows →
  (opn (tw r) → r < tq r ∧ tq r < rows ∧ tw (tq r) = 22 ∧ tq (tq r) = r) ∧
  (tw r = 22 → 0 ≤ tq r ∧ tq r < r ∧ opn (tw (tq r)) ∧ tq (tq r) = r) ∧
  ∀ o, 0 ≤ o → o < r → opn (tw o) → r < tq o → (opn (tw r) ∨ tw r = 22) → o < tq r ∧ tq r < tq o
/-- TIMES of the class at b, of the reference in a slot -/
def TiR (b : Nat) (n : Int) (h : mM) (s : Int → Int) : Prop :=
  (h b 8 = 0 ∨ h b 8 = 1) ∧ s 8 = (if h b 8 = 1 then h b 6 else -1) ∧ (0 ≤ h b 6 ∧ h b 6 ≤ 60) ∧ (0 ≤ h b 7 ∧ h b 7 ≤ 30) ∧
  (h b 8 = 1 → (∀ r, 0 ≤ r → r < h b 6 → StR n r (h (b + 1) r) (h (b + 2) r) (h (b + 3) r) (h (b + 4) r) (h (b + 5) r) (h (b + 6) r) (s (46 + 6 * r)) (s (46 + 6 * r + 1)) (s (46 + 6 * r + 2)) (s (46 + 6 * r + 4)) (s (46 + 6 * r + 5))) ∧ Nst (h b 6) (h (b + 1)) (h (b + 6)))
def SlotR (bc bt : Nat) (c : Kc) (h : mM) (s sn : Int) : Prop := CoT bc c h ∧ CoM c (fun _ k => h 131 (s + k)) ∧ WfC c ∧ c 1 0 ≤ 9999 ∧ NmR (h (bc + 7)) (fun p => h 132 (sn + p)) (c 0 0) ∧ TiR bt (c 0 0) h (fun k => h 131 (s + k))
def TrR (h : mM) : Prop := ∀ t : Nat, t < 4 → h 7 t = h 133 t ∧ h 8 t = h 134 t ∧ (0 ≤ h 7 t ∧ h 7 t ≤ 3) ∧ (-1 ≤ h 8 t ∧ h 8 t ≤ 60) ∧ ∀ i, 0 ≤ i → i < h 8 t → h (3 + t) i = h 135 (60 * (t : Int) + i) ∧ inL (h (3 + t) i)
def WL : List Int := [0, 495763, 630829, 242167, 114156, 267316, 19039336, 542723566, 52, 13796820, 755277, 7920536755, 21464692, 655, 4793803, 14982420, 6112617927, 206220, 1497, 762030, 12596, 409072, 5572, 643568]
def Rel (h : mM) : Prop :=
  h 0 0 = h 130 2 ∧ (h 0 1 = h 130 3 ∧ h 0 2 = h 130 4) ∧ TrR h ∧
  (h 9 2 = h 130 10 ∧ (0 ≤ h 9 2 ∧ h 9 2 ≤ 900) ∧ ∀ i, 0 ≤ i → i < h 9 2 → h 10 i = h 136 i ∧ inB (h 10 i)) ∧
  (h 9 11 = h 130 16 ∧ h 9 12 = h 130 17) ∧ (∃ c, SlotR 12 30 c h 0 0) ∧
  (h 56 2 = h 130 45 ∧ (0 ≤ h 56 2 ∧ h 56 2 ≤ 3) ∧ ∀ j : Nat, (j : Int) < h 56 2 → ∃ c, SlotR (59 + 16 * j) (68 + 16 * j) c h (414 * ((j : Int) + 1)) (7 * ((j : Int) + 1))) ∧
  (h 0 3 = h 130 44 ∧ (h 0 3 = 0 ∨ h 0 3 = 1) ∧ (h 107 7 = 0 ∨ h 107 7 = 1) ∧ (h 0 3 = 1 → h 107 3 = h 152 0 ∧ h 107 4 = h 152 1 ∧ h 107 5 = h 152 2 ∧ h 107 6 = h 152 3 ∧ h 107 7 = h 152 4)) ∧
  ∀ i, 1 ≤ i → i ≤ 23 → h 11 i = (nth WL i.toNat).getD 0
/-- rows that stay but where a call says otherwise -/
def keptL : List Nat := [3, 4, 5, 6, 7, 8, 9, 10, 11, 19, 30, 31, 32, 33, 34, 35, 36, 56, 59, 60, 61, 62, 63, 64, 65, 66, 68, 69, 70, 71, 72, 73, 74, 75, 76, 77, 78, 79, 80, 81, 82, 84, 85, 86, 87, 88, 89, 90, 91, 92, 93, 94, 95, 96, 97, 98, 100, 101, 102, 103, 104, 105, 106, 107, 132, 133, 134, 135, 136, 152]
def Keep (h h' : mM) : Prop := (∀ a, keptL.elem a = true → h' a = h a) ∧ (∀ k, k ≠ 0 → h' 0 k = h 0 k) ∧ (∀ k, (k = 3 ∨ k = 4 ∨ k = 10 ∨ k = 16 ∨ k = 17 ∨ k = 44 ∨ k = 45) → h' 130 k = h 130 k) ∧ ∀ k, (k = 8 ∨ 46 ≤ k ∧ k < 1656) → h' 131 k = h 131 k
theorem Keep.rf {h : mM} : Keep h h := ⟨fun _ _ => rfl, fun _ _ => rfl, fun _ _ => rfl, fun _ _ => rfl⟩
theorem Keep.tr {h k g : mM} (p : Keep h k) (q : Keep k g) : Keep h g := ⟨fun a z => (q.1 a z).trans (p.1 a z), fun a z => (q.2.1 a z).trans (p.2.1 a z), fun a z => (q.2.2.1 a z).trans (p.2.2.1 a z), fun a z => (q.2.2.2 a z).trans (p.2.2.2 a z)⟩
theorem Keep.up0 {h k : mM} (p : Keep h k) (v : Int) : Keep h (upM k 0 0 v) := p.tr ⟨fun a z => up_row (fun e => by subst e; exact absurd z (by decide)), fun j hj => by rw [up_at, if_neg hj], fun j _ => up_ne (by omega), fun j _ => up_ne (by omega)⟩
theorem Keep.upM2 {h k : mM} (p : Keep h k) (i v : Int) (hi : ¬ (i = 3 ∨ i = 4 ∨ i = 10 ∨ i = 16 ∨ i = 17 ∨ i = 44 ∨ i = 45)) : Keep h (upM k 130 i v) := p.tr ⟨fun a z => up_row (fun e => by subst e; exact absurd z (by decide)), fun j hj => up_ne (by omega), fun j hj => by rw [up_at, if_neg (fun e => hi (by rw [← e]; exact hj))], fun j _ => up_ne (by omega)⟩
theorem Keep.ow {h k : mM} {L : List Nat} (o : Ow L h k) (hl : ∀ a ∈ L, keptL.elem a = false ∧ a ≠ 0 ∧ a ≠ 130 ∧ a ≠ 131) : Keep h k := by
  have e : ∀ a, (keptL.elem a = true ∨ a = 0 ∨ a = 130 ∨ a = 131) → k a = h a := fun a z => o a (fun y => by
    obtain ⟨h1, h2, h3, h4⟩ := hl a y
    rcases z with z | z | z | z
    · rw [h1] at z; cases z
    · exact h2 z
    · exact h3 z
    · exact h4 z)
  exact ⟨fun a z => e a (Or.inl z), fun j _ => by rw [e 0 (by omega)], fun j _ => by rw [e 130 (by omega)], fun j _ => by rw [e 131 (by omega)]⟩
theorem Keep.oc {h k : mM} (o : Oc h k) : Keep h k := by
  refine ⟨fun a z => o.1 a (fun e => by subst e; exact absurd z (by decide)) (fun e => by subst e; exact absurd z (by decide)), fun j _ => by rw [o.1 0 (by omega) (by omega)], fun j _ => by rw [o.1 130 (by omega) (by omega)], fun j hj => o.2 j (by omega)⟩
theorem NmR.mv {a b a' b' : Int → Int} {n : Int} (k : NmR a b n) (e1 : ∀ p, 0 ≤ p → p < n → a' p = a p) (e2 : ∀ p, 0 ≤ p → p < n → b' p = b p) : NmR a' b' n := fun p h1 h2 => by
  obtain ⟨w, q1, q2, q3⟩ := k p h1 h2
  exact ⟨w, q1, (e1 p h1 h2).trans q2, (e2 p h1 h2).trans q3⟩
theorem TiR.mv {b : Nat} {n : Int} {h h' : mM} {s s' : Int → Int} (k : TiR b n h s) (e : ∀ a, b ≤ a → a ≤ b + 6 → h' a = h a) (es : ∀ j, (j = 8 ∨ 46 ≤ j ∧ j < 406) → s' j = s j) : TiR b n h' s' := by
  obtain ⟨k1, k2, k3, k4, k5⟩ := k
  unfold TiR
  rw [e b (by omega) (by omega), e (b + 1) (by omega) (by omega), e (b + 2) (by omega) (by omega), e (b + 3) (by omega) (by omega), e (b + 4) (by omega) (by omega), e (b + 5) (by omega) (by omega), e (b + 6) (by omega) (by omega)]
  refine ⟨k1, (es 8 (by omega)).trans k2, k3, k4, fun q => ⟨fun r h1 h2 => ?_, (k5 q).2⟩⟩
  have := (k5 q).1 r h1 h2
  rw [es _ (by omega), es _ (by omega), es _ (by omega), es _ (by omega), es _ (by omega)]
  exact this
theorem TiR.n {b : Nat} {n n' : Int} {h : mM} {s : Int → Int} (k : TiR b n h s) (hn : n ≤ n') : TiR b n' h s := by
  obtain ⟨k1, k2, k3, k4, k5⟩ := k
  refine ⟨k1, k2, k3, k4, fun q => ⟨fun r h1 h2 => ?_, (k5 q).2⟩⟩
  have := (k5 q).1 r h1 h2
  exact this.imp (fun z => ⟨z.1, z.2.1, z.2.2.1, z.2.2.2.1, by have := z.2.2.2.2; omega⟩) (Or.imp (fun z => z) (Or.imp (fun z => z) (Or.imp (fun ⟨a, b, c, e, f, g⟩ => ⟨a, b, c, e, by omega, g⟩) (Or.imp (fun z => z) (Or.imp (fun ⟨a, b, c, e, f⟩ => ⟨a, b, c, by omega, f⟩) (fun z => z))))))
theorem SlotR.mv {bc bt : Nat} {c : Kc} {h h' : mM} {s sn : Int} (k : SlotR bc bt c h s sn) (e1 : ∀ a, bc ≤ a → a ≤ bc + 7 → h' a = h a) (e2 : ∀ a, bt ≤ a → a ≤ bt + 6 → h' a = h a) (e3 : ∀ j, s ≤ j → j < s + 414 → h' 131 j = h 131 j) (e4 : h' 132 = h 132) : SlotR bc bt c h' s sn := by
  obtain ⟨k1, k2, k3, k4, k5, k6⟩ := k
  have hn := k3.1
  refine ⟨k1.mv (fun a h1 h2 => e1 a h1 (by omega)), ?_, k3, k4, k5.mv (fun p _ _ => by rw [e1 (bc + 7) (by omega) (by omega)]) (fun p _ _ => by rw [e4]), k6.mv e2 (fun j hj => e3 _ (by omega) (by omega))⟩
  obtain ⟨m1, m2, m3, m4, m5, m6, m7, m8⟩ := k2
  exact ⟨(e3 _ (by omega) (by omega)).trans m1, (e3 _ (by omega) (by omega)).trans m2, fun i a b => (e3 _ (by omega) (by omega)).trans (m3 i a b), fun i a b => (e3 _ (by omega) (by omega)).trans (m4 i a b), fun i a b => (e3 _ (by omega) (by omega)).trans (m5 i a b), fun i a b => (e3 _ (by omega) (by omega)).trans (m6 i a b), fun i a b => (e3 _ (by omega) (by omega)).trans (m7 i a b), fun i a b => (e3 _ (by omega) (by omega)).trans (m8 i a b)⟩
theorem CoM.z {c : Kc} {h : mM} : CoM c (fun _ k => h 131 (0 + k)) ↔ CoM c h := by
  have e : (fun (_ : Nat) (k : Int) => h 131 (0 + k)) = fun _ k => h 131 k := by
    funext _ k
    rw [Int.zero_add]
  rw [e]
  exact Iff.rfl
/-- a call that changes the people alone -/
theorem Rel.upd {h h' : mM} (R : Rel h) {c c' : Kc} (k0 : SlotR 12 30 c h 0 0) (kT : CoT 12 c' h') (kM : CoM c' h') (w' : WfC c') (g' : c' 1 0 ≤ 9999) (n' : c' 0 0 = c 0 0) (S : Keep h h') (hs : h' 0 0 = h' 130 2) : Rel h' := by
  obtain ⟨R1, R2, R3, R4, R5, -, R7, R8, R9⟩ := R
  obtain ⟨S1, S2, S3, S4⟩ := S
  have e : ∀ a, keptL.elem a = true → h' a = h a := S1
  refine ⟨hs, ?_, ?_, ?_, ?_, ⟨c', kT, CoM.z.mpr kM, w', g', ?_, ?_⟩, ?_, ?_, ?_⟩
  · rw [S2 1 (by omega), S2 2 (by omega), S3 3 (by omega), S3 4 (by omega)]; exact R2
  · intro t ht
    rw [e 7 (by decide), e 8 (by decide), e 133 (by decide), e 134 (by decide), e 135 (by decide)]
    have : keptL.elem (3 + t) = true := by
      have : t = 0 ∨ t = 1 ∨ t = 2 ∨ t = 3 := by omega
      rcases this with rfl | rfl | rfl | rfl <;> decide
    rw [e _ this]
    exact R3 t ht
  · rw [e 9 (by decide), e 10 (by decide), e 136 (by decide), S3 10 (by omega)]; exact R4
  · rw [e 9 (by decide), S3 16 (by omega), S3 17 (by omega)]; exact R5
  · rw [n']
    exact k0.2.2.2.2.1.mv (fun p _ _ => by rw [show h' (12 + 7) = h (12 + 7) from e 19 (by decide)]) (fun p _ _ => by rw [e 132 (by decide)])
  · rw [n']
    refine k0.2.2.2.2.2.mv (fun a h1 h2 => e a ?_) (fun j hj => S4 _ (by omega))
    have : a = 30 ∨ a = 31 ∨ a = 32 ∨ a = 33 ∨ a = 34 ∨ a = 35 ∨ a = 36 := by omega
    rcases this with rfl | rfl | rfl | rfl | rfl | rfl | rfl <;> decide
  · rw [e 56 (by decide), S3 45 (by omega)]
    refine ⟨R7.1, R7.2.1, fun j hj => ?_⟩
    obtain ⟨cj, kj⟩ := R7.2.2 j hj
    refine ⟨cj, kj.mv (fun a h1 h2 => e a ?_) (fun a h1 h2 => e a ?_) (fun i h1 h2 => S4 i (by omega)) (e 132 (by decide))⟩
    · have hj3 : j = 0 ∨ j = 1 ∨ j = 2 := by have := R7.2.1; omega
      have : a = 59 + 16 * j ∨ a = 60 + 16 * j ∨ a = 61 + 16 * j ∨ a = 62 + 16 * j ∨ a = 63 + 16 * j ∨ a = 64 + 16 * j ∨ a = 65 + 16 * j ∨ a = 66 + 16 * j := by omega
      rcases hj3 with rfl | rfl | rfl <;> rcases this with rfl | rfl | rfl | rfl | rfl | rfl | rfl | rfl <;> decide
    · have hj3 : j = 0 ∨ j = 1 ∨ j = 2 := by have := R7.2.1; omega
      have : a = 68 + 16 * j ∨ a = 69 + 16 * j ∨ a = 70 + 16 * j ∨ a = 71 + 16 * j ∨ a = 72 + 16 * j ∨ a = 73 + 16 * j ∨ a = 74 + 16 * j := by omega
      rcases hj3 with rfl | rfl | rfl <;> rcases this with rfl | rfl | rfl | rfl | rfl | rfl | rfl <;> decide
  · rw [S2 3 (by omega), S3 44 (by omega), e 107 (by decide), e 152 (by decide)]; exact R8
  · rw [e 11 (by decide)]; exact R9
/-- both calls, one behind the other, answer alike -/
def QI (xs : List Int) (d : Nat) (h : mM) (iT iM : Nat) (a : List mv) : Prop := ∃ v h1 h2, C xs d iT 0 (mR 0 :: a) h = some ([mI v], h1) ∧ C xs d iM 0 (mR 130 :: a) h1 = some ([mI v], h2) ∧ Rel h2
def QL (xs : List Int) (d : Nat) (h : mM) (iT iM : Nat) (a : List mv) : Prop := ∃ v h1 h2, C xs d iT 0 (mR 0 :: a) h = some ([mL v], h1) ∧ C xs d iM 0 (mR 130 :: a) h1 = some ([mL v], h2) ∧ Rel h2
theorem Rel.st {h : mM} (R : Rel h) (s : Int) : Rel (upM (upM h 0 0 s) 130 2 s) := by
  obtain ⟨c, k⟩ := R.2.2.2.2.2.1
  exact R.upd k (k.1.mv (fun a h1 h2 => by rw [up_row (by omega), up_row (by omega)])) ((CoM.z.mp k.2.1).mv (by rw [up_row (by omega), up_row (by omega)])) k.2.2.1 k.2.2.2.1 rfl ((Keep.rf.up0 s).upM2 2 s (by omega)) (by rw [up_ne (by omega), up_eq, up_eq])
end
section
/-! EQUIV 5: simple calls -/
section
variable {xs : List Int} {d : Nat} {c : Kc} {h : mM}
theorem t_within {x a b : Int} : C xs d 74 0 [mI x, mI a, mI b] h = some ([mI (b2i (a ≤ x ∧ x ≤ b))], h) := by
  rw [c_T_within]
  by_cases q : x < a
  · rw [if_pos q, b2i_n (by omega)]
  · by_cases q2 : b < x
    · rw [if_neg q, if_pos q2, b2i_n (by omega)]
    · rw [if_neg q, if_neg q2, b2i_y (by omega)]
theorem m_isFrom {x a b : Int} : C xs d 92 0 [mL x, mL a, mL b] h = some ([mI (b2i (a ≤ x ∧ x ≤ b))], h) := by
  rw [c_M_isFrom]
  by_cases q : x < a
  · rw [if_pos q, b2i_n (by omega)]
  · by_cases q2 : b < x
    · rw [if_neg q, if_pos q2, b2i_n (by omega)]
    · rw [if_neg q, if_neg q2, b2i_y (by omega)]
theorem m_isPerson (k : CoM c h) (x : Int) : C xs d 126 0 [mR 130, mI x] h = some ([mI (b2i (0 ≤ x ∧ x < c 0 0))], h) := by
  rw [c_M_isPerson, k.n]
  by_cases q : x < 0
  · rw [if_pos q, b2i_n (by omega)]
  · by_cases q2 : x < c 0 0
    · rw [if_neg q, if_pos q2, b2i_y (by omega)]
    · rw [if_neg q, if_neg q2, b2i_n (by omega)]
theorem t_has12 (k : CoT 12 c h) (x : Int) : C xs d 228 0 [mR 12, mI x] h = some ([mI (b2i (0 ≤ x ∧ x < c 0 0))], h) := by
  rw [t_has (by omega), show h 12 0 = c 0 0 from k.n]
theorem t_isCouple (k : CoT 12 c h) (x y : Int) : C xs d 73 0 [mR 0, mI x, mI y] h = some ([mI (b2i ((0 ≤ x ∧ x < c 0 0) ∧ (0 ≤ y ∧ y < c 0 0) ∧ x ≠ y))], h) := by
  rw [c_T_isCouple]
  refine cI_of (t_has12 k x) ?_
  by_cases q : 0 ≤ x ∧ x < c 0 0
  · rw [if_neg (fun z => b2i_0.mp z q)]
    refine cI_of (t_has12 k y) ?_
    by_cases q2 : 0 ≤ y ∧ y < c 0 0
    · rw [if_neg (fun z => b2i_0.mp z q2)]
      by_cases q3 : x = y
      · rw [if_pos q3, b2i_n (fun z => z.2.2 q3)]
      · rw [if_neg q3, b2i_y ⟨q, q2, q3⟩]
    · rw [if_pos (b2i_0.mpr q2), b2i_n (fun z => q2 z.2.1)]
  · rw [if_pos (b2i_0.mpr q), b2i_n (fun z => q z.1)]
theorem m_areTwo (k : CoM c h) (x y : Int) : C xs d 127 0 [mR 130, mI x, mI y] h = some ([mI (b2i ((0 ≤ x ∧ x < c 0 0) ∧ (0 ≤ y ∧ y < c 0 0) ∧ x ≠ y))], h) := by
  rw [c_M_areTwo]
  refine cI_of (m_isPerson k x) ?_
  by_cases q : 0 ≤ x ∧ x < c 0 0
  · rw [if_neg (fun z => b2i_0.mp z q)]
    refine cI_of (m_isPerson k y) ?_
    by_cases q2 : 0 ≤ y ∧ y < c 0 0
    · rw [if_neg (fun z => b2i_0.mp z q2)]
      by_cases q3 : x = y
      · rw [if_pos q3, b2i_n (fun z => z.2.2 q3)]
      · rw [if_neg q3, b2i_y ⟨q, q2, q3⟩]
    · rw [if_pos (b2i_0.mpr q2), b2i_n (fun z => q2 z.2.1)]
  · rw [if_pos (b2i_0.mpr q), b2i_n (fun z => q z.1)]
theorem CoT.z0 {b : Nat} (hb : 1 ≤ b) (k : CoT b c h) (s : Int) : CoT b c (upM h 0 0 s) := k.mv (fun a h1 h2 => up_row (by omega))
theorem CoT.z1 {b : Nat} (hb : b + 6 < 130) (k : CoT b c h) (i s : Int) : CoT b c (upM h 130 i s) := k.mv (fun a h1 h2 => up_row (by omega))
theorem CoM.z0 (k : CoM c h) (s : Int) : CoM c (upM h 0 0 s) := k.mv (up_row (by omega))
theorem CoM.z1 (k : CoM c h) (i s : Int) : CoM c (upM h 130 i s) := k.mv (up_row (by omega))
theorem Rel.co (R : Rel h) : ∃ c, SlotR 12 30 c h 0 0 := R.2.2.2.2.2.1
/-- a call that only answers -/
theorem QI.ans {iT iM : Nat} {a : List mv} (R : Rel h) (s v : Int) (hT : C xs d iT 0 (mR 0 :: a) h = some ([mI v], upM h 0 0 s)) (hM : C xs d iM 0 (mR 130 :: a) (upM h 0 0 s) = some ([mI v], upM (upM h 0 0 s) 130 2 s)) : QI xs d h iT iM a := ⟨v, _, _, hT, hM, R.st s⟩
theorem QI.mkU {iT iM : Nat} {a : List mv} {c' : Kc} (R : Rel h) (k0 : SlotR 12 30 c h 0 0) (v s : Int) {g1 g2 : mM} (hT : C xs d iT 0 (mR 0 :: a) h = some ([mI v], upM g1 0 0 s)) (k1 : CoT 12 c' g1) (o1 : Keep h g1) (hM : C xs d iM 0 (mR 130 :: a) (upM g1 0 0 s) = some ([mI v], upM g2 130 2 s)) (k2 : CoM c' g2) (o2 : Keep (upM g1 0 0 s) g2) (o3 : ∀ a, 12 ≤ a → a ≤ 18 → g2 a = g1 a) (o4 : g2 0 = upM g1 0 0 s 0) (w' : WfC c') (g' : c' 1 0 ≤ 9999) (n' : c' 0 0 = c 0 0) : QI xs d h iT iM a := by
  refine ⟨v, _, _, hT, hM, R.upd k0 (c' := c') (CoT.mv (h := g1) k1 (fun a h1 h2 => ?_)) (k2.z1 _ _) w' g' n' (((o1.up0 s).tr o2).upM2 2 s (by omega)) ?_⟩
  · rw [up_row (by omega), o3 a h1 h2]
  · rw [up_ne (by omega), o4, up_eq, up_eq]
end
section
variable {xs : List Int} {d : Nat} {h : mM}
theorem q_status (R : Rel h) : QI xs d h 2 78 [] := by
  refine ⟨h 0 0, h, h, ?_, ?_, R⟩
  · rw [c_T_status]
  · rw [c_M_status, R.1]
theorem q_top (R : Rel h) : QL xs d h 3 79 [] := by
  refine ⟨h 0 1, h, h, ?_, ?_, R⟩
  · rw [c_T_top]
  · rw [c_M_top, R.2.1.1]
theorem q_bottom (R : Rel h) : QL xs d h 4 80 [] := by
  refine ⟨h 0 2, h, h, ?_, ?_, R⟩
  · rw [c_T_bottom]
  · rw [c_M_bottom, R.2.1.2]

theorem q_far (R : Rel h) (x y : Int) : QI xs d h 17 141 [mI x, mI y] := by
  obtain ⟨c, k⟩ := R.co
  have kT := k.1
  have kM := CoM.z.mp k.2.1
  have w := k.2.2.1
  have hn := w.1
  by_cases q : 0 ≤ x ∧ x < c 0 0
  · by_cases q2 : 0 ≤ y ∧ y < c 0 0
    · refine QI.ans R 0 (farI (c 3 x) (c 3 y)) ?_ ?_
      · rw [c_T_far]
        refine cI_of (t_has12 kT x) ?_
        rw [if_neg (fun z => b2i_0.mp z q)]
        refine cI_of (t_has12 kT y) ?_
        rw [if_neg (fun z => b2i_0.mp z q2)]
        refine cI_of (t_apart (by omega) kT w q q2) ?_
        refine cI_of (c_T_answer xs d _ h) ?_
        rfl
      · rw [c_M_far]
        refine cI_of (m_isPerson (kM.z0 0) x) ?_
        rw [if_neg (fun z => b2i_0.mp z q)]
        refine cI_of (m_isPerson (kM.z0 0) y) ?_
        rw [if_neg (fun z => b2i_0.mp z q2)]
        refine cI_of (m_farBetween (kM.z0 0) w q q2) ?_
        refine cI_of (c_M_gives xs d _ _) ?_
        rfl
    · refine QI.ans R 1 (-1) ?_ ?_
      · rw [c_T_far]
        refine cI_of (t_has12 kT x) ?_
        rw [if_neg (fun z => b2i_0.mp z q)]
        refine cI_of (t_has12 kT y) ?_
        rw [if_pos (b2i_0.mpr q2)]
        refine cI_of (c_T_refuse xs d _ h) ?_
        rfl
      · rw [c_M_far]
        refine cI_of (m_isPerson (kM.z0 1) x) ?_
        rw [if_neg (fun z => b2i_0.mp z q)]
        refine cI_of (m_isPerson (kM.z0 1) y) ?_
        rw [if_pos (b2i_0.mpr q2)]
        refine cI_of (c_M_refuse xs d _ _) ?_
        rfl
  · refine QI.ans R 1 (-1) ?_ ?_
    · rw [c_T_far]
      refine cI_of (t_has12 kT x) ?_
      rw [if_pos (b2i_0.mpr q)]
      refine cI_of (c_T_refuse xs d _ h) ?_
      rfl
    · rw [c_M_far]
      refine cI_of (m_isPerson (kM.z0 1) x) ?_
      rw [if_pos (b2i_0.mpr q)]
      refine cI_of (c_M_refuse xs d _ _) ?_
      rfl
theorem m_cooled {c : Kc} (k : CoM c h) (w : WfC c) {p n : Int} (hp : 0 ≤ p ∧ p < c 0 0) (h1 : 0 ≤ n ∧ n ≤ 1000) : C xs d 161 0 [mR 130, mI p, mI n] h = some ([mI (max 0 (c 5 p - n * c 2 4))], h) := by
  have hn := w.1
  have a3 := (w.2.2.2.2.2.2.2.2 p hp.1 hp.2).2.2.1
  have mb := mul_bd h1.1 h1.2 w.2.2.2.2.2.1.1 w.2.2.2.2.2.1.2
  rw [c_M_cooled]
  refine cI_of (m_personOf (by omega) (by omega)) ?_
  rw [k.w p hp.1 hp.2, k.r 4 (by omega) (by omega)]
  refine if_y (by omega) ?_
  refine if_y (by omega) ?_
  rfl
theorem q_warmIn (R : Rel h) (x y : Int) : QI xs d h 27 162 [mI x, mI y] := by
  obtain ⟨c, k⟩ := R.co
  have kT := k.1
  have kM := CoM.z.mp k.2.1
  have w := k.2.2.1
  have hn := w.1
  by_cases q : 0 ≤ x ∧ x < c 0 0
  · by_cases q2 : 0 ≤ y ∧ y ≤ 60
    · refine QI.ans R 0 (max 0 (c 5 x - y * c 2 4)) ?_ ?_
      · rw [c_T_warmIn]
        refine cI_of (t_has12 kT x) ?_
        rw [if_neg (fun z => b2i_0.mp z q)]
        refine cI_of (t_within) ?_
        rw [if_neg (fun z => b2i_0.mp z q2)]
        refine cI_of (t_warmthIn (by omega) kT w q (by omega)) ?_
        refine cI_of (c_T_answer xs d _ h) ?_
        rfl
      · rw [c_M_warmIn]
        refine cI_of (m_isPerson (kM.z0 0) x) ?_
        rw [if_neg (fun z => b2i_0.mp z q)]
        refine cI_of (m_isFrom) ?_
        rw [if_neg (fun z => b2i_0.mp z q2)]
        refine cI_of (m_cooled (kM.z0 0) w q (by omega)) ?_
        refine cI_of (c_M_gives xs d _ _) ?_
        rfl
    · refine QI.ans R 1 (-1) ?_ ?_
      · rw [c_T_warmIn]
        refine cI_of (t_has12 kT x) ?_
        rw [if_neg (fun z => b2i_0.mp z q)]
        refine cI_of (t_within) ?_
        rw [if_pos (b2i_0.mpr q2)]
        refine cI_of (c_T_refuse xs d _ h) ?_
        rfl
      · rw [c_M_warmIn]
        refine cI_of (m_isPerson (kM.z0 1) x) ?_
        rw [if_neg (fun z => b2i_0.mp z q)]
        refine cI_of (m_isFrom) ?_
        rw [if_pos (b2i_0.mpr q2)]
        refine cI_of (c_M_refuse xs d _ _) ?_
        rfl
  · refine QI.ans R 1 (-1) ?_ ?_
    · rw [c_T_warmIn]
      refine cI_of (t_has12 kT x) ?_
      rw [if_pos (b2i_0.mpr q)]
      refine cI_of (c_T_refuse xs d _ h) ?_
      rfl
    · rw [c_M_warmIn]
      refine cI_of (m_isPerson (kM.z0 1) x) ?_
      rw [if_pos (b2i_0.mpr q)]
      refine cI_of (c_M_refuse xs d _ _) ?_
      rfl

theorem q_darkIn (R : Rel h) (x : Int) : QI xs d h 28 163 [mI x] := by
  obtain ⟨c, k⟩ := R.co
  have kT := k.1
  have kM := CoM.z.mp k.2.1
  have w := k.2.2.1
  have hn := w.1
  by_cases q : 0 ≤ x ∧ x < c 0 0
  · have key : ∀ (m : Nat) (i : Int), 0 ≤ i → i + m = 100 → ∃ s v, X xs d k_T_darkIn 11 [mR 0, mI x, mI i] [] h = some ([mI v], upM h 0 0 s) ∧ X xs d k_M_darkIn 10 [mR 130, mI x, mI i] [] (upM h 0 0 s) = some ([mI v], upM (upM h 0 0 s) 130 2 s) := by
      intro m
      induction m with
      | zero =>
        intro i h0 hi
        refine ⟨6, -1, ?_, ?_⟩
        · rw [e_T_darkIn_11, if_pos (by omega)]
          refine cI_of (c_T_refuse xs d _ h) ?_
          rfl
        · rw [e_M_darkIn_10, if_pos (by omega)]
          refine cI_of (c_M_refuse xs d _ _) ?_
          rfl
      | succ m ih =>
        intro i h0 hi
        by_cases q2 : max 0 (c 5 x - i * c 2 4) < c 2 3
        · refine ⟨0, i, ?_, ?_⟩
          · rw [e_T_darkIn_11, if_neg (by omega)]
            refine cI_of (t_warmthIn (by omega) kT w q (by omega)) ?_
            rw [show h 13 3 = c 2 3 from kT.r 3 (by omega) (by omega), if_pos q2]
            refine cI_of (c_T_answer xs d _ h) ?_
            rfl
          · rw [e_M_darkIn_10, if_neg (by omega)]
            refine cI_of (m_cooled (kM.z0 0) w q (by omega)) ?_
            rw [(kM.z0 0).r 3 (by omega) (by omega), if_pos q2]
            refine cI_of (c_M_gives xs d _ _) ?_
            rfl
        · obtain ⟨s, v, r1, r2⟩ := ih (i + 1) (by omega) (by omega)
          refine ⟨s, v, ?_, ?_⟩
          · rw [e_T_darkIn_11, if_neg (by omega)]
            refine cI_of (t_warmthIn (by omega) kT w q (by omega)) ?_
            rw [show h 13 3 = c 2 3 from kT.r 3 (by omega) (by omega), if_neg q2]
            refine if_y (by omega) ?_
            exact r1
          · rw [e_M_darkIn_10, if_neg (by omega)]
            refine cI_of (m_cooled (kM.z0 s) w q (by omega)) ?_
            rw [(kM.z0 s).r 3 (by omega) (by omega), if_neg q2]
            refine if_y (by omega) ?_
            exact r2
    obtain ⟨s, v, r1, r2⟩ := key 100 0 (by omega) (by omega)
    refine QI.ans R s v ?_ ?_
    · rw [c_T_darkIn]
      refine cI_of (t_has12 kT x) ?_
      rw [if_neg (fun z => b2i_0.mp z q)]
      exact r1
    · rw [c_M_darkIn]
      refine cI_of (m_isPerson (kM.z0 s) x) ?_
      rw [if_neg (fun z => b2i_0.mp z q)]
      exact r2
  · refine QI.ans R 1 (-1) ?_ ?_
    · rw [c_T_darkIn]
      refine cI_of (t_has12 kT x) ?_
      rw [if_pos (b2i_0.mpr q)]
      refine cI_of (c_T_refuse xs d _ h) ?_
      rfl
    · rw [c_M_darkIn]
      refine cI_of (m_isPerson (kM.z0 1) x) ?_
      rw [if_pos (b2i_0.mpr q)]
      refine cI_of (c_M_refuse xs d _ _) ?_
      rfl

theorem q_told (R : Rel h) (x : Int) : QI xs d h 15 139 [mI x] := by
  obtain ⟨c, k⟩ := R.co
  have kT := k.1
  have kM := CoM.z.mp k.2.1
  have w := k.2.2.1
  have hn := w.1
  by_cases q0 : x < 0 ∨ 11 < x
  · refine QI.ans R 1 (-1) ?_ ?_
    · rw [c_T_told, e_T_told_14]
      by_cases q : x < 0
      · rw [if_pos (by omega)]
        refine if_n (by omega) ?_
        refine if_n (by omega) ?_
        refine if_n (by omega) ?_
        refine if_n (by omega) ?_
        refine if_n (by omega) ?_
        refine if_n (by omega) ?_
        refine if_n (by omega) ?_
        refine if_n (by omega) ?_
        refine if_n (by omega) ?_
        refine if_n (by omega) ?_
        refine if_n (by omega) ?_
        refine if_n (by omega) ?_
        refine cI_of (c_T_refuse xs d _ h) ?_
        rfl
      · rw [if_neg (by omega), if_pos (by omega)]
        refine if_n (by omega) ?_
        refine if_n (by omega) ?_
        refine if_n (by omega) ?_
        refine if_n (by omega) ?_
        refine if_n (by omega) ?_
        refine if_n (by omega) ?_
        refine if_n (by omega) ?_
        refine if_n (by omega) ?_
        refine if_n (by omega) ?_
        refine if_n (by omega) ?_
        refine if_n (by omega) ?_
        refine if_n (by omega) ?_
        refine cI_of (c_T_refuse xs d _ h) ?_
        rfl
    · rw [c_M_told]
      by_cases q : x < 0
      · rw [if_pos q]
        refine cI_of (c_M_refuse xs d _ _) ?_
        rfl
      · rw [if_neg q, if_pos (by omega)]
        refine cI_of (c_M_refuse xs d _ _) ?_
        rfl
  by_cases q1 : 1 ≤ x ∧ x ≤ 6
  · refine QI.ans R 0 (c 2 x) ?_ ?_
    · rw [c_T_told, if_neg (by omega), if_neg (by omega), show h 13 x = c 2 x from kT.r x (by omega) (by omega)]
      refine if_y (by omega) ?_
      refine cI_of (c_T_answer xs d _ h) ?_
      rfl
    · rw [c_M_told, if_neg (by omega), if_neg (by omega), if_pos (by omega), (kM.z0 0).r x (by omega) (by omega)]
      refine if_y (by omega) ?_
      refine cI_of (c_M_gives xs d _ _) ?_
      rfl
  by_cases q20 : x = 0
  · subst q20
    refine QI.ans R 0 (c 0 0) ?_ ?_
    · rw [c_T_told, e_T_told_14]
      rw [if_pos (by omega)]

      refine if_y (by omega) ?_
      rw [show h 12 0 = c 0 0 from kT.n]
      refine cI_of (c_T_answer xs d _ h) ?_
      rfl
    · rw [c_M_told, if_neg (by omega), if_neg (by omega), if_pos (by omega)]
      refine if_y (by omega) ?_
      rw [(kM.z0 0).n]
      refine cI_of (c_M_gives xs d _ _) ?_
      rfl
  by_cases q27 : x = 7
  · subst q27
    refine QI.ans R 0 (c 1 0) ?_ ?_
    · rw [c_T_told, e_T_told_14]
      rw [if_neg (by omega), if_pos (by omega)]
      refine if_n (by omega) ?_
      refine if_n (by omega) ?_
      refine if_n (by omega) ?_
      refine if_n (by omega) ?_
      refine if_n (by omega) ?_
      refine if_n (by omega) ?_
      refine if_n (by omega) ?_
      refine if_y (by omega) ?_
      rw [show h 12 1 = c 1 0 from kT.g]
      refine cI_of (c_T_answer xs d _ h) ?_
      rfl
    · rw [c_M_told, if_neg (by omega), if_neg (by omega), if_pos (by omega)]
      refine if_y (by omega) ?_
      rw [(kM.z0 0).g]
      refine cI_of (c_M_gives xs d _ _) ?_
      rfl
  by_cases q28 : x = 8
  · subst q28
    refine QI.ans R 0 (((sq (litB c) (c 0 0).toNat : Nat) : Int)) ?_ ?_
    · rw [c_T_told, e_T_told_14]
      rw [if_neg (by omega), if_pos (by omega)]
      refine if_n (by omega) ?_
      refine if_n (by omega) ?_
      refine if_n (by omega) ?_
      refine if_n (by omega) ?_
      refine if_n (by omega) ?_
      refine if_n (by omega) ?_
      refine if_n (by omega) ?_
      refine if_n (by omega) ?_
      refine if_y (by omega) ?_
      refine cI_of (t_litSet (by omega) kT w) ?_
      refine cI_of (c_T_answer xs d _ h) ?_
      rfl
    · rw [c_M_told, if_neg (by omega), if_neg (by omega), if_neg (by omega)]

      refine if_y (by omega) ?_
      refine cI_of (m_areLit (kM.z0 0) w) ?_
      refine cI_of (c_M_gives xs d _ _) ?_
      rfl
  by_cases q29 : x = 9
  · subst q29
    refine QI.ans R 0 (((sq (whoB c) (c 0 0).toNat : Nat) : Int)) ?_ ?_
    · rw [c_T_told, e_T_told_14]
      rw [if_neg (by omega), if_pos (by omega)]
      refine if_n (by omega) ?_
      refine if_n (by omega) ?_
      refine if_n (by omega) ?_
      refine if_n (by omega) ?_
      refine if_n (by omega) ?_
      refine if_n (by omega) ?_
      refine if_n (by omega) ?_
      refine if_n (by omega) ?_
      refine if_n (by omega) ?_
      refine if_y (by omega) ?_
      refine cI_of (t_toastingSet kT w) ?_
      refine cI_of (c_T_answer xs d _ h) ?_
      rfl
    · rw [c_M_told, if_neg (by omega), if_neg (by omega), if_neg (by omega)]
      refine if_n (by omega) ?_
      refine if_y (by omega) ?_
      refine cI_of (m_haveWhom (kM.z0 0) w) ?_
      refine cI_of (c_M_gives xs d _ _) ?_
      rfl
  by_cases q30 : x = 10
  · subst q30
    refine QI.ans R 0 (sumN (fun p => c 5 (p : Int)) (c 0 0).toNat) ?_ ?_
    · rw [c_T_told, e_T_told_14]
      rw [if_neg (by omega), if_pos (by omega)]
      refine if_n (by omega) ?_
      refine if_n (by omega) ?_
      refine if_n (by omega) ?_
      refine if_n (by omega) ?_
      refine if_n (by omega) ?_
      refine if_n (by omega) ?_
      refine if_n (by omega) ?_
      refine if_n (by omega) ?_
      refine if_n (by omega) ?_
      refine if_n (by omega) ?_
      refine if_y (by omega) ?_
      refine cI_of (t_allWarmth (by omega) kT w) ?_
      refine cI_of (c_T_answer xs d _ h) ?_
      rfl
    · rw [c_M_told, if_neg (by omega), if_neg (by omega), if_neg (by omega)]
      refine if_n (by omega) ?_
      refine if_n (by omega) ?_
      refine if_y (by omega) ?_
      refine cI_of (m_together (kM.z0 0) w (g := 5) (by omega)) ?_
      refine cI_of (c_M_gives xs d _ _) ?_
      rfl
  by_cases q31 : x = 11
  · subst q31
    refine QI.ans R 0 (sumN (fun p => c 6 (p : Int)) (c 0 0).toNat) ?_ ?_
    · rw [c_T_told, e_T_told_14]
      rw [if_neg (by omega), if_pos (by omega)]
      refine if_n (by omega) ?_
      refine if_n (by omega) ?_
      refine if_n (by omega) ?_
      refine if_n (by omega) ?_
      refine if_n (by omega) ?_
      refine if_n (by omega) ?_
      refine if_n (by omega) ?_
      refine if_n (by omega) ?_
      refine if_n (by omega) ?_
      refine if_n (by omega) ?_
      refine if_n (by omega) ?_
      refine if_y (by omega) ?_
      refine cI_of (t_allGlasses kT w) ?_
      refine cI_of (c_T_answer xs d _ h) ?_
      rfl
    · rw [c_M_told, if_neg (by omega), if_neg (by omega), if_neg (by omega)]
      refine if_n (by omega) ?_
      refine if_n (by omega) ?_
      refine if_n (by omega) ?_
      skip
      refine cI_of (m_together (kM.z0 0) w (g := 6) (by omega)) ?_
      refine cI_of (c_M_gives xs d _ _) ?_
      rfl
  omega

theorem q_person (R : Rel h) (x y : Int) : QI xs d h 16 140 [mI x, mI y] := by
  obtain ⟨c, k⟩ := R.co
  have kT := k.1
  have kM := CoM.z.mp k.2.1
  have w := k.2.2.1
  have hn := w.1
  by_cases q : 0 ≤ x ∧ x < c 0 0
  rotate_left
  · refine QI.ans R 1 (-1) ?_ ?_
    · rw [c_T_person]
      refine cI_of (t_has12 kT x) ?_
      rw [if_pos (b2i_0.mpr q)]
      refine cI_of (c_T_refuse xs d _ h) ?_
      rfl
    · rw [c_M_person]
      refine cI_of (m_isPerson (kM.z0 1) x) ?_
      rw [if_pos (b2i_0.mpr q)]
      refine cI_of (c_M_refuse xs d _ _) ?_
      rfl
  obtain ⟨a1, a2, a3, a4, a5⟩ := w.2.2.2.2.2.2.2.2 x q.1 q.2
  have hT : ∀ s v, (y ≠ 4 → y ≠ 5 → X xs d k_T_person 23 [mR 0, mI x, mI y, mC 0] [mI 0] h = some ([mI v], upM h 0 0 s)) → ((y = 4 ∨ y = 5) → X xs d k_T_person 23 [mR 0, mI x, mI y, mC 0] [mI 1] h = some ([mI v], upM h 0 0 s)) → 0 ≤ y → y ≤ 6 → C xs d 16 0 [mR 0, mI x, mI y] h = some ([mI v], upM h 0 0 s) := by
    intro s v g1 g2 y0 y6
    rw [c_T_person]
    refine cI_of (t_has12 kT x) ?_
    rw [if_neg (fun z => b2i_0.mp z q)]
    refine cI_of (t_within) ?_
    rw [if_neg (fun z => b2i_0.mp z ⟨y0, y6⟩)]
    by_cases q4 : y = 4
    · rw [if_pos q4, e_T_person_20]
      exact g2 (Or.inl q4)
    · rw [if_neg q4]
      by_cases q5 : y = 5
      · rw [if_pos q5, e_T_person_20]
        exact g2 (Or.inr q5)
      · rw [if_neg q5]
        exact g1 q4 q5
  have hM : ∀ s, C xs d 126 0 [mR 130, mI x] (upM h 0 0 s) = some ([mI (b2i (0 ≤ x ∧ x < c 0 0))], upM h 0 0 s) := fun s => m_isPerson (kM.z0 s) x
  by_cases qy : y < 0 ∨ 6 < y
  · refine QI.ans R 1 (-1) ?_ ?_
    · rw [c_T_person]
      refine cI_of (t_has12 kT x) ?_
      rw [if_neg (fun z => b2i_0.mp z q)]
      refine cI_of (t_within) ?_
      rw [if_pos (b2i_0.mpr (by omega))]
      refine cI_of (c_T_refuse xs d _ h) ?_
      rfl
    · rw [c_M_person]
      refine cI_of (hM 1) ?_
      rw [if_neg (fun z => b2i_0.mp z q)]
      by_cases q2 : y < 0
      · rw [if_pos q2]
        refine cI_of (c_M_refuse xs d _ _) ?_
        rfl
      · rw [if_neg q2, if_pos (by omega)]
        refine cI_of (c_M_refuse xs d _ _) ?_
        rfl
  by_cases qy0 : y = 0
  · subst qy0
    refine QI.ans R 0 (c 3 x) (hT 0 _ (fun _ _ => ?_) (by omega) (by omega) (by omega)) ?_
    · rw [e_T_person_23, if_pos rfl, e_T_person_35, show h 14 x = c 3 x from kT.p x q.1 q.2]

      refine if_y (by omega) ?_
      refine if_y (by omega) ?_
      refine cI_of (c_T_answer xs d _ h) ?_
      rfl
    · rw [c_M_person]
      refine cI_of (hM 0) ?_
      rw [if_neg (fun z => b2i_0.mp z q), if_neg (by omega), if_neg (by omega), if_pos (by omega)]
      refine cI_of (m_personOf (by omega) (by omega)) ?_
      rw [(kM.z0 0).p x q.1 q.2]
      refine cI_of (c_M_gives xs d _ _) ?_
      rfl
  by_cases qy1 : y = 1
  · subst qy1
    refine QI.ans R 0 (c 4 x) (hT 0 _ (fun _ _ => ?_) (by omega) (by omega) (by omega)) ?_
    · rw [e_T_person_23, if_pos rfl, e_T_person_35, show h 15 x = c 4 x from kT.m x q.1 q.2]
      refine if_n (by omega) ?_
      refine if_y (by omega) ?_
      refine if_y (by omega) ?_
      refine cI_of (c_T_answer xs d _ h) ?_
      rfl
    · rw [c_M_person]
      refine cI_of (hM 0) ?_
      rw [if_neg (fun z => b2i_0.mp z q), if_neg (by omega), if_neg (by omega), if_pos (by omega)]
      refine cI_of (m_personOf (by omega) (by omega)) ?_
      rw [(kM.z0 0).m x q.1 q.2]
      refine cI_of (c_M_gives xs d _ _) ?_
      rfl
  by_cases qy2 : y = 2
  · subst qy2
    refine QI.ans R 0 (c 5 x) (hT 0 _ (fun _ _ => ?_) (by omega) (by omega) (by omega)) ?_
    · rw [e_T_person_23, if_pos rfl, e_T_person_35, show h 16 x = c 5 x from kT.w x q.1 q.2]
      refine if_n (by omega) ?_
      refine if_n (by omega) ?_
      refine if_y (by omega) ?_
      refine if_y (by omega) ?_
      refine cI_of (c_T_answer xs d _ h) ?_
      rfl
    · rw [c_M_person]
      refine cI_of (hM 0) ?_
      rw [if_neg (fun z => b2i_0.mp z q), if_neg (by omega), if_neg (by omega), if_pos (by omega)]
      refine cI_of (m_personOf (by omega) (by omega)) ?_
      rw [(kM.z0 0).w x q.1 q.2]
      refine cI_of (c_M_gives xs d _ _) ?_
      rfl
  by_cases qy3 : y = 3
  · subst qy3
    refine QI.ans R 0 (c 6 x) (hT 0 _ (fun _ _ => ?_) (by omega) (by omega) (by omega)) ?_
    · rw [e_T_person_23, if_pos rfl, e_T_person_35, show h 17 x = c 6 x from kT.l x q.1 q.2]
      refine if_n (by omega) ?_
      refine if_n (by omega) ?_
      refine if_n (by omega) ?_
      refine if_y (by omega) ?_
      refine if_y (by omega) ?_
      refine cI_of (c_T_answer xs d _ h) ?_
      rfl
    · rw [c_M_person]
      refine cI_of (hM 0) ?_
      rw [if_neg (fun z => b2i_0.mp z q), if_neg (by omega), if_neg (by omega), if_pos (by omega)]
      refine cI_of (m_personOf (by omega) (by omega)) ?_
      rw [(kM.z0 0).l x q.1 q.2]
      refine cI_of (c_M_gives xs d _ _) ?_
      rfl
  by_cases qy6 : y = 6
  · subst qy6
    refine QI.ans R 0 ((sq (warB c x) (c 0 0).toNat : Nat) : Int) (hT 0 _ (fun _ _ => ?_) (by omega) (by omega) (by omega)) ?_
    · rw [e_T_person_23, if_pos rfl, e_T_person_35]
      refine if_n (by omega) ?_
      refine if_n (by omega) ?_
      refine if_n (by omega) ?_
      refine if_n (by omega) ?_
      refine if_n (by omega) ?_
      refine if_n (by omega) ?_
      refine cI_of (t_warmersOf kT w x) ?_
      refine cI_of (c_T_answer xs d _ h) ?_
      rfl
    · rw [c_M_person]
      refine cI_of (hM 0) ?_
      rw [if_neg (fun z => b2i_0.mp z q), if_neg (by omega), if_neg (by omega), if_neg (by omega), if_pos rfl]
      refine cI_of (m_warmersOf (kM.z0 0) w x) ?_
      refine cI_of (c_M_gives xs d _ _) ?_
      rfl
  by_cases qw : c 7 x = -1
  · refine QI.ans R 6 (-1) (hT 6 _ (by omega) (fun _ => ?_) (by omega) (by omega)) ?_
    · rw [e_T_person_23, if_neg (by omega)]
      refine cI_of (t_hasWhom kT w q) ?_
      rw [if_pos (b2i_0.mpr (fun z => z qw))]
      refine cI_of (c_T_refuse xs d _ h) ?_
      rfl
    · rw [c_M_person]
      refine cI_of (hM 6) ?_
      rw [if_neg (fun z => b2i_0.mp z q), if_neg (by omega), if_neg (by omega), if_neg (by omega), if_neg (by omega)]
      refine cI_of (m_whomOf (kM.z0 6) w q) ?_
      rw [if_pos qw]
      refine cI_of (c_M_refuse xs d _ _) ?_
      rfl
  by_cases qy4 : y = 4
  · subst qy4
    refine QI.ans R 0 (c 7 x) (hT 0 _ (by omega) (fun _ => ?_) (by omega) (by omega)) ?_
    · rw [e_T_person_23, if_neg (by omega)]
      refine cI_of (t_hasWhom kT w q) ?_
      rw [if_neg (fun z => b2i_0.mp z qw), e_T_person_35, show h 18 x = c 7 x from kT.q x q.1 q.2]
      refine if_n (by omega) ?_
      refine if_n (by omega) ?_
      refine if_n (by omega) ?_
      refine if_n (by omega) ?_
      refine if_y (by omega) ?_
      refine if_y (by omega) ?_
      refine cI_of (c_T_answer xs d _ h) ?_
      rfl
    · rw [c_M_person]
      refine cI_of (hM 0) ?_
      rw [if_neg (fun z => b2i_0.mp z q), if_neg (by omega), if_neg (by omega), if_neg (by omega), if_neg (by omega)]
      refine cI_of (m_whomOf (kM.z0 0) w q) ?_
      rw [if_neg qw, if_pos rfl]
      refine cI_of (m_whomOf (kM.z0 0) w q) ?_
      refine cI_of (c_M_gives xs d _ _) ?_
      rfl
  · obtain rfl : y = 5 := by omega
    refine QI.ans R 0 (warmI c x) (hT 0 _ (by omega) (fun _ => ?_) (by omega) (by omega)) ?_
    · rw [e_T_person_23, if_neg (by omega)]
      refine cI_of (t_hasWhom kT w q) ?_
      rw [if_neg (fun z => b2i_0.mp z qw), e_T_person_35]
      refine if_n (by omega) ?_
      refine if_n (by omega) ?_
      refine if_n (by omega) ?_
      refine if_n (by omega) ?_
      refine if_n (by omega) ?_
      refine if_y (by omega) ?_
      refine cI_of (t_warmOf (by omega) kT w q) ?_
      rw [if_neg qw]
      refine cI_of (c_T_answer xs d _ h) ?_
      rfl
    · rw [c_M_person]
      refine cI_of (hM 0) ?_
      rw [if_neg (fun z => b2i_0.mp z q), if_neg (by omega), if_neg (by omega), if_neg (by omega), if_neg (by omega)]
      refine cI_of (m_whomOf (kM.z0 0) w q) ?_
      rw [if_neg qw, if_neg (by omega)]
      refine cI_of (m_warmOf (kM.z0 0) w q qw) ?_
      refine cI_of (c_M_gives xs d _ _) ?_
      rfl
end
end
section
/-! EQUIV 6: calls by which people change -/
theorem CoT.set {b : Nat} {c : Kc} {h : mM} (k : CoT b c h) {f : Nat} (hf : 3 ≤ f ∧ f ≤ 7) (p v : Int) : CoT b (setC c f p v) (upM h (b + (f - 1)) p v) := by
  have e0 : ∀ g i, g ≠ f → setC c f p v g i = c g i := fun g i hg => if_neg (fun z => hg z.1)
  have key : ∀ g, 3 ≤ g → g ≤ 7 → (∀ i, 0 ≤ i → i < c 0 0 → h (b + (g - 1)) i = c g i) → ∀ i, 0 ≤ i → i < setC c f p v 0 0 → upM h (b + (f - 1)) p v (b + (g - 1)) i = setC c f p v g i := by
    intro g g1 g2 hk i h1 h2
    rw [e0 0 0 (by omega)] at h2
    unfold setC upM
    by_cases e : g = f ∧ i = p
    · rw [if_pos e, if_pos (by omega)]
    · rw [if_neg e, if_neg (by omega), hk i h1 h2]
  refine ⟨?_, ?_, fun i h1 h2 => ?_, key 3 (by omega) (by omega) k.p, key 4 (by omega) (by omega) k.m, key 5 (by omega) (by omega) k.w, key 6 (by omega) (by omega) k.l, key 7 (by omega) (by omega) k.q⟩
  · rw [up_ne (by omega), e0 0 0 (by omega)]; exact k.n
  · rw [up_ne (by omega), e0 1 0 (by omega)]; exact k.g
  · rw [up_ne (by omega), e0 2 i (by omega)]; exact k.r i h1 h2
theorem setC_wf {c : Kc} (w : WfC c) {f : Nat} {p v : Int} (hv : (f = 3 ∧ 0 ≤ v ∧ v ≤ 59) ∨ (f = 4 ∧ 0 ≤ v ∧ v ≤ 9) ∨ (f = 5 ∧ 0 ≤ v ∧ v ≤ 99) ∨ (f = 6 ∧ 0 ≤ v ∧ v ≤ 9) ∨ (f = 7 ∧ 0 ≤ v ∧ v < c 0 0)) : WfC (setC c f p v) := by
  obtain ⟨hn, hg, r1, r2, r3, r4, r5, r6, hw⟩ := w
  have e : ∀ g i, g < 3 → setC c f p v g i = c g i := fun g i hg => if_neg (by omega)
  unfold WfC WfP
  simp only [e 0 _ (by omega), e 1 _ (by omega), e 2 _ (by omega)]
  refine ⟨hn, hg, r1, r2, r3, r4, r5, r6, fun i h1 h2 => ?_⟩
  obtain ⟨b1, b2, b3, b4, b5⟩ := hw i h1 h2
  unfold setC
  refine ⟨?_, ?_, ?_, ?_, ?_⟩
  · by_cases q : 3 = f ∧ i = p
    · rw [if_pos q]; omega
    · rw [if_neg q]; exact b1
  · by_cases q : 4 = f ∧ i = p
    · rw [if_pos q]; omega
    · rw [if_neg q]; exact b2
  · by_cases q : 5 = f ∧ i = p
    · rw [if_pos q]; omega
    · rw [if_neg q]; exact b3
  · by_cases q : 6 = f ∧ i = p
    · rw [if_pos q]; omega
    · rw [if_neg q]; exact b4
  · by_cases q : 7 = f ∧ i = p
    · rw [if_pos q]; omega
    · rw [if_neg q]; exact b5
section
variable {xs : List Int} {d : Nat} {h : mM}
theorem q_drink (R : Rel h) (x : Int) : QI xs d h 18 144 [mI x] := by
  obtain ⟨c, k⟩ := R.co
  have kT := k.1
  have kM := CoM.z.mp k.2.1
  have w := k.2.2.1
  have hg := k.2.2.2.1
  have hn := w.1
  by_cases q : 0 ≤ x ∧ x < c 0 0
  rotate_left
  · refine QI.ans R 1 (-1) ?_ ?_
    · rw [c_T_drink]
      refine cI_of (t_has12 kT x) ?_
      rw [if_pos (b2i_0.mpr q)]
      refine cI_of (c_T_refuse xs d _ h) ?_
      rfl
    · rw [c_M_drink]
      refine cI_of (m_isPerson (kM.z0 1) x) ?_
      rw [if_pos (b2i_0.mpr q)]
      refine cI_of (c_M_refuse xs d _ _) ?_
      rfl
  by_cases q2 : c 7 x ≠ -1 ∧ c 6 x ≠ 0
  rotate_left
  · refine QI.ans R 7 (-1) ?_ ?_
    · rw [c_T_drink]
      refine cI_of (t_has12 kT x) ?_
      rw [if_neg (fun z => b2i_0.mp z q)]
      refine cI_of (t_canDrink (by omega) kT w q) ?_
      rw [if_pos (b2i_0.mpr q2)]
      refine cI_of (c_T_refuse xs d _ h) ?_
      rfl
    · rw [c_M_drink]
      refine cI_of (m_isPerson (kM.z0 7) x) ?_
      rw [if_neg (fun z => b2i_0.mp z q)]
      refine cI_of (m_drinksNo (kM.z0 7) w q q2) ?_
      rw [if_pos rfl]
      refine cI_of (c_M_refuse xs d _ _) ?_
      rfl
  obtain ⟨a1, a2, a3, a4, a5⟩ := w.2.2.2.2.2.2.2.2 x q.1 q.2
  have kT2 := drC_T (p := x) kT
  have wd := drC_wf w q q2.1 q2.2
  have nd : drC c x 0 0 = c 0 0 := drC_0
  have e7 : drC c x 7 x = c 7 x := by unfold drC; rw [if_neg (by omega), if_neg (by omega)]
  have e5 : drC c x 5 (c 7 x) = min 99 (c 5 (c 7 x) + warmI c x) := by unfold drC; rw [if_neg (by omega), if_pos ⟨rfl, rfl⟩]
  obtain ⟨g2, s1, s2, s3⟩ := m_drinks (xs := xs) (d := d) (h := upM (upM (upM h (12 + 5) x (c 6 x - 1)) (12 + 4) (c 7 x) (min 99 (c 5 (c 7 x) + warmI c x))) 0 0 0) (kM.mv (by rw [up_row (by omega), up_row (by omega), up_row (by omega)])) w q q2.1 q2.2
  refine QI.mkU R k (min 99 (c 5 (c 7 x) + warmI c x)) 0 (g1 := upM (upM h (12 + 5) x (c 6 x - 1)) (12 + 4) (c 7 x) (min 99 (c 5 (c 7 x) + warmI c x))) ?_ kT2 (Keep.ow (L := [16, 17]) ((Ow.rf.up (by simp)).up (by simp)) (by decide)) ?_ s2 (Keep.oc s3) (fun a h1 h2 => by rw [s3.1 a (by omega) (by omega), up_row (by omega)]) (s3.1 0 (by omega) (by omega)) wd (by show c 1 0 ≤ 9999; exact hg) nd
  · rw [c_T_drink]
    refine cI_of (t_has12 kT x) ?_
    rw [if_neg (fun z => b2i_0.mp z q)]
    refine cI_of (t_canDrink (by omega) kT w q) ?_
    rw [if_neg (fun z => b2i_0.mp z q2)]
    refine cI_of (t_letDrink (by omega) kT w q q2.1 q2.2) ?_
    refine cI_of (c_T_answer xs d _ _) ?_
    rfl
  · rw [c_M_drink]
    refine cI_of (m_isPerson (kM.mv (by rw [up_row (by omega), up_row (by omega), up_row (by omega)])) x) ?_
    rw [if_neg (fun z => b2i_0.mp z q)]
    refine cI_of (s1) ?_
    rw [if_neg (by omega)]
    refine cI_of (m_whomOf s2 wd (by rw [nd]; exact q)) ?_
    refine cI_of (m_personOf (by omega) (by omega)) ?_
    rw [s2.w _ (by omega) (by omega), e7, e5]
    refine cI_of (c_M_gives xs d _ _) ?_
    rfl
theorem q_night (R : Rel h) (x : Int) : QI xs d h 19 148 [mI x] := by
  obtain ⟨c, k⟩ := R.co
  have kT := k.1
  have kM := CoM.z.mp k.2.1
  have w := k.2.2.1
  have hg := k.2.2.2.1
  have hn := w.1
  have hg0 := w.2.1
  by_cases q : 1 ≤ x ∧ x ≤ 99
  rotate_left
  · refine QI.ans R 1 (-1) ?_ ?_
    · rw [c_T_night]
      refine cI_of (t_within) ?_
      rw [if_pos (b2i_0.mpr q)]
      refine cI_of (c_T_refuse xs d _ h) ?_
      rfl
    · rw [c_M_night]
      refine cI_of (m_isFrom) ?_
      rw [if_pos (b2i_0.mpr q)]
      refine cI_of (c_M_refuse xs d _ _) ?_
      rfl
  by_cases q2 : c 1 0 + x ≤ 9999
  rotate_left
  · refine QI.ans R 4 (-1) ?_ ?_
    · rw [c_T_night]
      refine cI_of (t_within) ?_
      rw [if_neg (fun z => b2i_0.mp z q)]
      refine cI_of (t_hasNights (by omega) kT w (by omega)) ?_
      rw [if_pos (b2i_0.mpr q2)]
      refine cI_of (c_T_refuse xs d _ h) ?_
      rfl
    · rw [c_M_night]
      refine cI_of (m_isFrom) ?_
      rw [if_neg (fun z => b2i_0.mp z q), (kM.z0 4).g]
      refine if_y (by omega) ?_
      refine if_y (by omega) ?_
      refine cI_of (c_M_refuse xs d _ _) ?_
      rfl
  have kT2 := ntC_T (n := x) kT
  have wd := ntC_wf w (n := x) (by omega) (by omega)
  have nd : ntC c x 0 0 = c 0 0 := by unfold ntC; rw [if_neg (by omega), if_neg (by omega)]
  have gd : ntC c x 1 0 = c 1 0 + x := by unfold ntC; rw [if_neg (by omega), if_pos rfl]
  have e131 : ntM h 12 c x 131 = h 131 := by unfold ntM; rw [rowU_ne (by omega), up_row (by omega)]
  obtain ⟨g2, s1, s2, s3⟩ := m_nightsGo (xs := xs) (d := d) (h := upM (ntM h 12 c x) 0 0 0) (kM.mv (by rw [up_row (by omega), e131])) w (n := x) (by omega) (by omega)
  refine QI.mkU R k ((sq (litB (ntC c x)) (ntC c x 0 0).toNat : Nat) : Int) 0 (g1 := ntM h 12 c x) ?_ kT2 (Keep.ow (L := [12, 16]) (by unfold ntM; exact (Ow.rf.up (by simp)).row (by simp)) (by decide)) ?_ s2 (Keep.oc s3) (fun a h1 h2 => by rw [s3.1 a (by omega) (by omega), up_row (by omega)]) (s3.1 0 (by omega) (by omega)) wd (by rw [gd]; omega) nd
  · rw [c_T_night]
    refine cI_of (t_within) ?_
    rw [if_neg (fun z => b2i_0.mp z q)]
    refine cI_of (t_hasNights (by omega) kT w (by omega)) ?_
    rw [if_neg (fun z => b2i_0.mp z q2)]
    refine cV_of (t_passNights (by omega) kT w (by omega)) ?_
    refine cI_of (t_litSet (by omega) kT2 wd) ?_
    refine cI_of (c_T_answer xs d _ _) ?_
    rfl
  · rw [c_M_night]
    refine cI_of (m_isFrom) ?_
    have kM1 : CoM c (upM (ntM h 12 c x) 0 0 0) := kM.mv (by rw [up_row (by omega), e131])
    rw [if_neg (fun z => b2i_0.mp z q), kM1.g]
    refine if_y (by omega) ?_
    refine if_n (by omega) ?_
    refine cV_of (s1) ?_
    refine cI_of (m_areLit s2 wd) ?_
    refine cI_of (c_M_gives xs d _ _) ?_
    rfl
theorem q_evening (R : Rel h) : QI xs d h 20 150 [] := by
  obtain ⟨c, k⟩ := R.co
  have kT := k.1
  have kM := CoM.z.mp k.2.1
  have w := k.2.2.1
  have hg := k.2.2.2.1
  have hn := w.1
  have hg0 := w.2.1
  by_cases q2 : c 1 0 + 1 ≤ 9999
  rotate_left
  · refine QI.ans R 4 (-1) ?_ ?_
    · rw [c_T_evening]
      refine cI_of (t_hasNights (by omega) kT w (by omega)) ?_
      rw [if_pos (b2i_0.mpr q2)]
      refine cI_of (c_T_refuse xs d _ h) ?_
      rfl
    · rw [c_M_evening, (kM.z0 4).g]
      refine if_y (by omega) ?_
      refine cI_of (c_M_refuse xs d _ _) ?_
      rfl
  obtain ⟨g1, r1, r2, r3⟩ := t_passEvening (xs := xs) (d := d) (b := 12) (by omega) kT w (by omega) (-1) (by omega)
  have e131 : g1 131 = h 131 := r3 131 (by decide)
  obtain ⟨g2, s1, s2, s3⟩ := m_eveningGoes (xs := xs) (d := d) (h := upM g1 0 0 0) (kM.mv (by rw [up_row (by omega), e131])) w (by omega) (aw := -1) (Or.inl rfl)
  have nd : evC c (-1) 0 0 = c 0 0 := by unfold evC ntC; rw [if_neg (by omega), if_neg (by omega)]; rfl
  have gd : evC c (-1) 1 0 = c 1 0 + 1 := by unfold evC ntC; rw [if_neg (by omega), if_pos rfl]; rfl
  refine QI.mkU R k ((sq (evB c (-1)) (c 0 0).toNat : Nat) : Int) 0 (g1 := g1) ?_ r2 (Keep.ow (L := [12, 12 + 4, 12 + 8]) r3 (by decide)) ?_ s2 (Keep.oc s3) (fun a h1 h2 => by rw [s3.1 a (by omega) (by omega), up_row (by omega)]) (s3.1 0 (by omega) (by omega)) (evC_wf w (by omega)) (by rw [gd]; omega) nd
  · rw [c_T_evening]
    refine cI_of (t_hasNights (by omega) kT w (by omega)) ?_
    rw [if_neg (fun z => b2i_0.mp z q2)]
    refine cI_of (r1) ?_
    refine cI_of (c_T_answer xs d _ _) ?_
    rfl
  · have kM1 : CoM c (upM g1 0 0 0) := kM.mv (by rw [up_row (by omega), e131])
    rw [c_M_evening, kM1.g]
    refine if_n (by omega) ?_
    refine cI_of (s1) ?_
    refine cI_of (c_M_gives xs d _ _) ?_
    rfl

theorem q_fill (R : Rel h) (x y : Int) : QI xs d h 21 152 [mI x, mI y] := by
  obtain ⟨c, k⟩ := R.co
  have kT := k.1
  have kM := CoM.z.mp k.2.1
  have w := k.2.2.1
  have hg := k.2.2.2.1
  have hn := w.1
  by_cases q : 0 ≤ x ∧ x < c 0 0
  rotate_left
  · refine QI.ans R 1 (-1) ?_ ?_
    · rw [c_T_fill]
      refine cI_of (t_has12 kT x) ?_
      rw [if_pos (b2i_0.mpr q)]
      refine cI_of (c_T_refuse xs d _ h) ?_
      rfl
    · rw [c_M_fill]
      refine cI_of (m_isPerson (kM.z0 1) x) ?_
      rw [if_pos (b2i_0.mpr q)]
      refine cI_of (c_M_refuse xs d _ _) ?_
      rfl
  by_cases q2 : 0 ≤ y ∧ y ≤ 9
  rotate_left
  · refine QI.ans R 1 (-1) ?_ ?_
    · rw [c_T_fill]
      refine cI_of (t_has12 kT x) ?_
      rw [if_neg (fun z => b2i_0.mp z q)]
      refine cI_of (t_within) ?_
      rw [if_pos (b2i_0.mpr q2)]
      refine cI_of (c_T_refuse xs d _ h) ?_
      rfl
    · rw [c_M_fill]
      refine cI_of (m_isPerson (kM.z0 1) x) ?_
      rw [if_neg (fun z => b2i_0.mp z q)]
      refine cI_of (m_isFrom) ?_
      rw [if_pos (b2i_0.mpr q2)]
      refine cI_of (c_M_refuse xs d _ _) ?_
      rfl
  have kT2 : CoT 12 (setC c 6 x y) (upM h 17 x y) := kT.set (f := 6) (by omega) x y
  have kM1 : CoM c (upM (upM h 17 x y) 0 0 0) := kM.mv (by rw [up_row (by omega), up_row (by omega)])
  have kM2 : CoM (setC c 6 x y) (upM (upM (upM h 17 x y) 0 0 0) 131 (10 + 5 * x + 3) y) := kM1.set (f := 3) (by omega) (by omega)
  have nd : setC c 6 x y 0 0 = c 0 0 := if_neg (by omega)
  refine QI.mkU R k (c 6 x) 0 (g1 := upM h 17 x y) (g2 := upM (upM (upM h 17 x y) 0 0 0) 131 (10 + 5 * x + 3) y) ?_ kT2 (Keep.ow (L := [17]) (Ow.rf.up (by simp)) (by decide)) ?_ kM2 (Keep.oc (Oc.rf.up (by omega))) (fun a h1 h2 => by rw [up_row (by omega), up_row (by omega)]) (up_row (by omega)) (setC_wf w (by omega)) (by show c 1 0 ≤ 9999; exact hg) nd
  · rw [c_T_fill]
    refine cI_of (t_has12 kT x) ?_
    rw [if_neg (fun z => b2i_0.mp z q)]
    refine cI_of (t_within) ?_
    rw [if_neg (fun z => b2i_0.mp z q2), show h 17 x = c 6 x from kT.l x q.1 q.2]
    refine if_y (by omega) ?_
    refine if_y (by omega) ?_
    refine cI_of (c_T_answer xs d _ _) ?_
    rfl
  · rw [c_M_fill]
    refine cI_of (m_isPerson kM1 x) ?_
    rw [if_neg (fun z => b2i_0.mp z q)]
    refine cI_of (m_isFrom) ?_
    rw [if_neg (fun z => b2i_0.mp z q2)]
    refine cI_of (m_personOf (by omega) (by omega)) ?_
    rw [kM1.l x q.1 q.2]
    refine cI_of (v := b2i (c 6 x ≠ y)) (h := upM (upM (upM h 17 x y) 0 0 0) 131 (10 + 5 * x + 3) y) ?_ ?_
    · rw [c_M_fills]
      refine cI_of (m_personOf (by omega) (by omega)) ?_
      rw [kM1.l x q.1 q.2]
      by_cases q3 : c 6 x = y
      · rw [if_pos q3, b2i_n (fun z => z q3)]
        refine cI_of (m_personRow (by omega)) ?_
        refine if_y (by omega) ?_
        refine if_y (by omega) ?_
        rfl
      · rw [if_neg q3, b2i_y q3]
        refine cI_of (m_personRow (by omega)) ?_
        refine if_y (by omega) ?_
        refine if_y (by omega) ?_
        rfl
    · refine cI_of (c_M_gives xs d _ _) ?_
      rfl

theorem q_means (R : Rel h) (x y : Int) : QI xs d h 22 153 [mI x, mI y] := by
  obtain ⟨c, k⟩ := R.co
  have kT := k.1
  have kM := CoM.z.mp k.2.1
  have w := k.2.2.1
  have hg := k.2.2.2.1
  have hn := w.1
  by_cases q : 0 ≤ x ∧ x < c 0 0
  rotate_left
  · refine QI.ans R 1 (-1) ?_ ?_
    · rw [c_T_means]
      refine cI_of (t_has12 kT x) ?_
      rw [if_pos (b2i_0.mpr q)]
      refine cI_of (c_T_refuse xs d _ h) ?_
      rfl
    · rw [c_M_means]
      refine cI_of (m_isPerson (kM.z0 1) x) ?_
      rw [if_pos (b2i_0.mpr q)]
      refine cI_of (c_M_refuse xs d _ _) ?_
      rfl
  by_cases q2 : 0 ≤ y ∧ y ≤ 9
  rotate_left
  · refine QI.ans R 1 (-1) ?_ ?_
    · rw [c_T_means]
      refine cI_of (t_has12 kT x) ?_
      rw [if_neg (fun z => b2i_0.mp z q)]
      refine cI_of (t_within) ?_
      rw [if_pos (b2i_0.mpr q2)]
      refine cI_of (c_T_refuse xs d _ h) ?_
      rfl
    · rw [c_M_means]
      refine cI_of (m_isPerson (kM.z0 1) x) ?_
      rw [if_neg (fun z => b2i_0.mp z q)]
      refine cI_of (m_isFrom) ?_
      rw [if_pos (b2i_0.mpr q2)]
      refine cI_of (c_M_refuse xs d _ _) ?_
      rfl
  have kT2 : CoT 12 (setC c 4 x y) (upM h 15 x y) := kT.set (f := 4) (by omega) x y
  have kM1 : CoM c (upM (upM h 15 x y) 0 0 0) := kM.mv (by rw [up_row (by omega), up_row (by omega)])
  have kM2 : CoM (setC c 4 x y) (upM (upM (upM h 15 x y) 0 0 0) 131 (10 + 5 * x + 1) y) := kM1.set (f := 1) (by omega) (by omega)
  have nd : setC c 4 x y 0 0 = c 0 0 := if_neg (by omega)
  refine QI.mkU R k (c 4 x) 0 (g1 := upM h 15 x y) (g2 := upM (upM (upM h 15 x y) 0 0 0) 131 (10 + 5 * x + 1) y) ?_ kT2 (Keep.ow (L := [15]) (Ow.rf.up (by simp)) (by decide)) ?_ kM2 (Keep.oc (Oc.rf.up (by omega))) (fun a h1 h2 => by rw [up_row (by omega), up_row (by omega)]) (up_row (by omega)) (setC_wf w (by omega)) (by show c 1 0 ≤ 9999; exact hg) nd
  · rw [c_T_means]
    refine cI_of (t_has12 kT x) ?_
    rw [if_neg (fun z => b2i_0.mp z q)]
    refine cI_of (t_within) ?_
    rw [if_neg (fun z => b2i_0.mp z q2), show h 15 x = c 4 x from kT.m x q.1 q.2]
    refine if_y (by omega) ?_
    refine if_y (by omega) ?_
    refine cI_of (c_T_answer xs d _ _) ?_
    rfl
  · rw [c_M_means]
    refine cI_of (m_isPerson kM1 x) ?_
    rw [if_neg (fun z => b2i_0.mp z q)]
    refine cI_of (m_isFrom) ?_
    rw [if_neg (fun z => b2i_0.mp z q2)]
    refine cI_of (m_personOf (by omega) (by omega)) ?_
    rw [kM1.m x q.1 q.2]
    refine cI_of (m_personRow (by omega)) ?_
    refine if_y (by omega) ?_
    refine if_y (by omega) ?_
    refine cI_of (c_M_gives xs d _ _) ?_
    rfl

theorem q_move (R : Rel h) (x y : Int) : QI xs d h 23 154 [mI x, mI y] := by
  obtain ⟨c, k⟩ := R.co
  have kT := k.1
  have kM := CoM.z.mp k.2.1
  have w := k.2.2.1
  have hg := k.2.2.2.1
  have hn := w.1
  by_cases q : 0 ≤ x ∧ x < c 0 0
  rotate_left
  · refine QI.ans R 1 (-1) ?_ ?_
    · rw [c_T_move]
      refine cI_of (t_has12 kT x) ?_
      rw [if_pos (b2i_0.mpr q)]
      refine cI_of (c_T_refuse xs d _ h) ?_
      rfl
    · rw [c_M_move]
      refine cI_of (m_isPerson (kM.z0 1) x) ?_
      rw [if_pos (b2i_0.mpr q)]
      refine cI_of (c_M_refuse xs d _ _) ?_
      rfl
  by_cases q2 : 0 ≤ y ∧ y ≤ 59
  rotate_left
  · refine QI.ans R 1 (-1) ?_ ?_
    · rw [c_T_move]
      refine cI_of (t_has12 kT x) ?_
      rw [if_neg (fun z => b2i_0.mp z q)]
      refine cI_of (t_within) ?_
      rw [if_pos (b2i_0.mpr q2)]
      refine cI_of (c_T_refuse xs d _ h) ?_
      rfl
    · rw [c_M_move]
      refine cI_of (m_isPerson (kM.z0 1) x) ?_
      rw [if_neg (fun z => b2i_0.mp z q)]
      refine cI_of (m_isFrom) ?_
      rw [if_pos (b2i_0.mpr q2)]
      refine cI_of (c_M_refuse xs d _ _) ?_
      rfl
  have kT2 : CoT 12 (setC c 3 x y) (upM h 14 x y) := kT.set (f := 3) (by omega) x y
  have kM1 : CoM c (upM (upM h 14 x y) 0 0 0) := kM.mv (by rw [up_row (by omega), up_row (by omega)])
  have kM2 : CoM (setC c 3 x y) (upM (upM (upM h 14 x y) 0 0 0) 131 (10 + 5 * x + 0) y) := kM1.set (f := 0) (by omega) (by omega)
  have nd : setC c 3 x y 0 0 = c 0 0 := if_neg (by omega)
  refine QI.mkU R k (c 3 x) 0 (g1 := upM h 14 x y) (g2 := upM (upM (upM h 14 x y) 0 0 0) 131 (10 + 5 * x + 0) y) ?_ kT2 (Keep.ow (L := [14]) (Ow.rf.up (by simp)) (by decide)) ?_ kM2 (Keep.oc (Oc.rf.up (by omega))) (fun a h1 h2 => by rw [up_row (by omega), up_row (by omega)]) (up_row (by omega)) (setC_wf w (by omega)) (by show c 1 0 ≤ 9999; exact hg) nd
  · rw [c_T_move]
    refine cI_of (t_has12 kT x) ?_
    rw [if_neg (fun z => b2i_0.mp z q)]
    refine cI_of (t_within) ?_
    rw [if_neg (fun z => b2i_0.mp z q2), show h 14 x = c 3 x from kT.p x q.1 q.2]
    refine if_y (by omega) ?_
    refine if_y (by omega) ?_
    refine cI_of (c_T_answer xs d _ _) ?_
    rfl
  · rw [c_M_move]
    refine cI_of (m_isPerson kM1 x) ?_
    rw [if_neg (fun z => b2i_0.mp z q)]
    refine cI_of (m_isFrom) ?_
    rw [if_neg (fun z => b2i_0.mp z q2)]
    refine cI_of (m_personOf (by omega) (by omega)) ?_
    rw [kM1.p x q.1 q.2]
    refine cI_of (m_personRow (by omega)) ?_
    refine if_y (by omega) ?_
    refine cI_of (c_M_gives xs d _ _) ?_
    rw [Int.add_zero]

theorem q_aim (R : Rel h) (x y : Int) : QI xs d h 24 155 [mI x, mI y] := by
  obtain ⟨c, k⟩ := R.co
  have kT := k.1
  have kM := CoM.z.mp k.2.1
  have w := k.2.2.1
  have hg := k.2.2.2.1
  have hn := w.1
  by_cases q : (0 ≤ x ∧ x < c 0 0) ∧ (0 ≤ y ∧ y < c 0 0) ∧ x ≠ y
  rotate_left
  · refine QI.ans R 1 (-1) ?_ ?_
    · rw [c_T_aim]
      refine cI_of (t_isCouple kT x y) ?_
      rw [if_pos (b2i_0.mpr q)]
      refine cI_of (c_T_refuse xs d _ h) ?_
      rfl
    · rw [c_M_aim]
      refine cI_of (m_areTwo (kM.z0 1) x y) ?_
      rw [if_pos (b2i_0.mpr q)]
      refine cI_of (c_M_refuse xs d _ _) ?_
      rfl
  have e18 : h 18 x = c 7 x := kT.q x q.1.1 q.1.2
  obtain ⟨a1, a2, a3, a4, a5⟩ := w.2.2.2.2.2.2.2.2 x q.1.1 q.1.2
  by_cases q2 : c 7 x = y
  · refine QI.ans R 7 (-1) ?_ ?_
    · rw [c_T_aim]
      refine cI_of (t_isCouple kT x y) ?_
      rw [if_neg (fun z => b2i_0.mp z q), e18]
      refine if_y (by omega) ?_
      refine if_y (by omega) ?_
      refine cI_of (c_T_refuse xs d _ h) ?_
      rfl
    · rw [c_M_aim]
      refine cI_of (m_areTwo (kM.z0 7) x y) ?_
      rw [if_neg (fun z => b2i_0.mp z q)]
      refine cI_of (m_whomOf (kM.z0 7) w q.1) ?_
      refine if_y (by omega) ?_
      refine cI_of (c_M_refuse xs d _ _) ?_
      rfl
  have kT2 : CoT 12 (setC c 7 x y) (upM h 18 x y) := kT.set (f := 7) (by omega) x y
  have kM1 : CoM c (upM (upM h 18 x y) 0 0 0) := kM.mv (by rw [up_row (by omega), up_row (by omega)])
  have kM2 : CoM (setC c 7 x y) (upM (upM (upM h 18 x y) 0 0 0) 131 (10 + 5 * x + 4) y) := kM1.set (f := 4) (by omega) (by omega)
  have nd : setC c 7 x y 0 0 = c 0 0 := if_neg (by omega)
  refine QI.mkU R k (if c 7 x = -1 then c 0 0 else c 7 x) 0 (g1 := upM h 18 x y) (g2 := upM (upM (upM h 18 x y) 0 0 0) 131 (10 + 5 * x + 4) y) ?_ kT2 (Keep.ow (L := [18]) (Ow.rf.up (by simp)) (by decide)) ?_ kM2 (Keep.oc (Oc.rf.up (by omega))) (fun a h1 h2 => by rw [up_row (by omega), up_row (by omega)]) (up_row (by omega)) (setC_wf w (by omega)) (by show c 1 0 ≤ 9999; exact hg) nd
  · rw [c_T_aim]
    refine cI_of (t_isCouple kT x y) ?_
    rw [if_neg (fun z => b2i_0.mp z q), e18, show h 12 0 = c 0 0 from kT.n]
    refine if_y (by omega) ?_
    refine if_n (by omega) ?_
    refine if_y (by omega) ?_
    by_cases q3 : c 7 x = -1
    · rw [if_pos q3, if_pos q3]
      refine cI_of (c_T_answer xs d _ _) ?_
      rfl
    · rw [if_neg q3, if_neg q3]
      refine cI_of (c_T_answer xs d _ _) ?_
      rfl
  · rw [c_M_aim]
    refine cI_of (m_areTwo kM1 x y) ?_
    rw [if_neg (fun z => b2i_0.mp z q)]
    refine cI_of (m_whomOf kM1 w q.1) ?_
    refine if_n (by omega) ?_
    refine cI_of (m_personRow (by omega)) ?_
    refine if_y (by omega) ?_
    refine if_y (by omega) ?_
    rw [kM2.n, nd]
    by_cases q3 : c 7 x = -1
    · rw [if_pos q3, if_pos q3]
      refine cI_of (c_M_gives xs d _ _) ?_
      rfl
    · rw [if_neg q3, if_neg q3]
      refine cI_of (c_M_gives xs d _ _) ?_
      rfl

/-- the rules' bounds -/
def loR (x : Int) : Int := if x = 3 then 1 else if x < 5 then 0 else 1
def hiR (x : Int) : Int := if x = 1 then 16 else if x = 2 then 16 else if x = 3 then 99 else if x = 4 then 30 else if x = 5 then 20 else 9
theorem CT_rule (xs : List Int) {x : Int} (hx : 1 ≤ x ∧ x ≤ 6) : (nth (CT xs 2) x.toNat).getD 0 = loR x ∧ (nth (CT xs 3) x.toNat).getD 0 = hiR x := by
  have : x = 1 ∨ x = 2 ∨ x = 3 ∨ x = 4 ∨ x = 5 ∨ x = 6 := by omega
  rcases this with rfl | rfl | rfl | rfl | rfl | rfl <;> exact ⟨rfl, rfl⟩
def ruC (c : Kc) (x v : Int) : Kc := fun f i => if f = 2 ∧ i = x then v else c f i
theorem q_rule (R : Rel h) (x y : Int) : QI xs d h 26 157 [mI x, mI y] := by
  obtain ⟨c, k⟩ := R.co
  have kT := k.1
  have kM := CoM.z.mp k.2.1
  have w := k.2.2.1
  have hg := k.2.2.2.1
  have hn := w.1
  by_cases q : 1 ≤ x ∧ x ≤ 6
  rotate_left
  · refine QI.ans R 1 0 ?_ ?_
    · rw [c_T_rule]
      refine cI_of (t_within) ?_
      rw [if_pos (b2i_0.mpr q)]
      refine cI_of (c_T_deny xs d _ h) ?_
      refine if_y (by omega) ?_
      rfl
    · rw [c_M_rule]
      by_cases q1 : x < 1
      · rw [if_pos q1]
        refine cI_of (c_M_is xs d _ _) ?_
        refine if_y (by omega) ?_
        rfl
      · rw [if_neg q1, if_pos (by omega)]
        refine cI_of (c_M_is xs d _ _) ?_
        refine if_y (by omega) ?_
        rfl
  obtain ⟨e1, e2⟩ := CT_rule xs q
  have mL0 : ∀ g : mM, C xs d 115 0 [mI x] g = some ([mI (loR x)], g) := fun g => by
    rw [c_M_leastOf]
    unfold loR
    split
    · rfl
    · split <;> rfl
  have mH0 : ∀ g : mM, C xs d 116 0 [mI x] g = some ([mI (hiR x)], g) := fun g => by
    rw [c_M_mostOf]
    unfold hiR
    split
    · rfl
    split
    · rfl
    split
    · rfl
    split
    · rfl
    split
    · rfl
    · rfl
  by_cases q2 : loR x ≤ y ∧ y ≤ hiR x
  rotate_left
  · refine QI.ans R 1 0 ?_ ?_
    · rw [c_T_rule]
      refine cI_of (t_within) ?_
      rw [if_neg (fun z => b2i_0.mp z q), e1, e2]
      refine if_y (by omega) ?_
      refine if_y (by omega) ?_
      refine cI_of (t_within) ?_
      rw [if_pos (b2i_0.mpr q2)]
      refine cI_of (c_T_deny xs d _ h) ?_
      refine if_y (by omega) ?_
      rfl
    · rw [c_M_rule, if_neg (by omega), if_neg (by omega)]
      refine cI_of (mL0 _) ?_
      refine cI_of (mH0 _) ?_
      refine cI_of (m_isFrom) ?_
      rw [if_pos (b2i_0.mpr q2)]
      refine cI_of (c_M_is xs d _ _) ?_
      refine if_y (by omega) ?_
      rfl
  have bd : (x = 1 → 0 ≤ y ∧ y ≤ 16) ∧ (x = 2 → 0 ≤ y ∧ y ≤ 16) ∧ (x = 3 → 1 ≤ y ∧ y ≤ 99) ∧ (x = 4 → 0 ≤ y ∧ y ≤ 30) ∧ (x = 5 → 1 ≤ y ∧ y ≤ 20) ∧ (x = 6 → 1 ≤ y ∧ y ≤ 9) := by
    have : x = 1 ∨ x = 2 ∨ x = 3 ∨ x = 4 ∨ x = 5 ∨ x = 6 := by omega
    unfold loR hiR at q2
    rcases this with rfl | rfl | rfl | rfl | rfl | rfl <;> simp at q2 <;> omega
  have ee : ∀ f i, f ≠ 2 → ruC c x y f i = c f i := fun f i hf => if_neg (fun z => hf z.1)
  have kT2 : CoT 12 (ruC c x y) (upM h 13 x y) := by
    have rw_ : ∀ a, a ≠ 13 → upM h 13 x y a = h a := fun a ha => up_row ha
    unfold CoT
    rw [ee 0 0 (by omega), ee 1 0 (by omega)]
    refine ⟨by rw [rw_ 12 (by omega)]; exact kT.n, by rw [rw_ 12 (by omega)]; exact kT.g, fun i h1 h2 => ?_, fun i h1 h2 => by rw [rw_ _ (by omega), kT.p i h1 h2, ee 3 i (by omega)], fun i h1 h2 => by rw [rw_ _ (by omega), kT.m i h1 h2, ee 4 i (by omega)], fun i h1 h2 => by rw [rw_ _ (by omega), kT.w i h1 h2, ee 5 i (by omega)], fun i h1 h2 => by rw [rw_ _ (by omega), kT.l i h1 h2, ee 6 i (by omega)], fun i h1 h2 => by rw [rw_ _ (by omega), kT.q i h1 h2, ee 7 i (by omega)]⟩
    show upM h 13 x y 13 i = _
    rw [up_at]
    unfold ruC
    by_cases e : i = x
    · rw [if_pos e, if_pos ⟨rfl, e⟩]
    · rw [if_neg e, if_neg (fun z => e z.2)]
      exact kT.r i h1 h2
  have kM1 : CoM c (upM (upM h 13 x y) 0 0 0) := kM.mv (by rw [up_row (by omega), up_row (by omega)])
  have kM2 : CoM (ruC c x y) (upM (upM (upM h 13 x y) 0 0 0) 131 x y) := by
    unfold CoM
    rw [ee 0 0 (by omega), ee 1 0 (by omega)]
    refine ⟨by rw [up_at, if_neg (by omega)]; exact kM1.n, by rw [up_at, if_neg (by omega)]; exact kM1.g, fun i h1 h2 => ?_, fun i h1 h2 => by rw [up_at, if_neg (by omega), kM1.p i h1 h2, ee 3 i (by omega)], fun i h1 h2 => by rw [up_at, if_neg (by omega), kM1.m i h1 h2, ee 4 i (by omega)], fun i h1 h2 => by rw [up_at, if_neg (by omega), kM1.w i h1 h2, ee 5 i (by omega)], fun i h1 h2 => by rw [up_at, if_neg (by omega), kM1.l i h1 h2, ee 6 i (by omega)], fun i h1 h2 => by rw [up_at, if_neg (by omega), kM1.q i h1 h2, ee 7 i (by omega)]⟩
    rw [up_at]
    unfold ruC
    by_cases e : i = x
    · rw [if_pos e, if_pos ⟨rfl, e⟩]
    · rw [if_neg e, if_neg (fun z => e z.2)]
      exact kM1.r i h1 h2
  have w2 : WfC (ruC c x y) := by
    obtain ⟨hn, hg, r1, r2, r3, r4, r5, r6, hw⟩ := w
    have er : ∀ i, ruC c x y 2 i = if i = x then y else c 2 i := fun i => by
      unfold ruC
      by_cases e : i = x
      · rw [if_pos e, if_pos ⟨rfl, e⟩]
      · rw [if_neg e, if_neg (fun z => e z.2)]
    unfold WfC WfP
    simp only [ee 0 _ (by omega), ee 1 _ (by omega), ee 3 _ (by omega), ee 4 _ (by omega), ee 5 _ (by omega), ee 6 _ (by omega), ee 7 _ (by omega), er]
    refine ⟨hn, hg, ?_, ?_, ?_, ?_, ?_, ?_, hw⟩
    · split <;> omega
    · split <;> omega
    · split <;> omega
    · split <;> omega
    · split <;> omega
    · split <;> omega
  refine QI.mkU R k 1 0 (g1 := upM h 13 x y) (g2 := upM (upM (upM h 13 x y) 0 0 0) 131 x y) ?_ kT2 (Keep.ow (L := [13]) (Ow.rf.up (by simp)) (by decide)) ?_ kM2 (Keep.oc (Oc.rf.up (by omega))) (fun a h1 h2 => by rw [up_row (by omega), up_row (by omega)]) (up_row (by omega)) w2 (by rw [ee 1 0 (by omega)]; exact hg) (ee 0 0 (by omega))
  · rw [c_T_rule]
    refine cI_of (t_within) ?_
    rw [if_neg (fun z => b2i_0.mp z q), e1, e2]
    refine if_y (by omega) ?_
    refine if_y (by omega) ?_
    refine cI_of (t_within) ?_
    rw [if_neg (fun z => b2i_0.mp z q2)]
    refine if_y (by omega) ?_
    refine cI_of (c_T_grant xs d _) ?_
    refine if_y (by omega) ?_
    rfl
  · rw [c_M_rule, if_neg (by omega), if_neg (by omega)]
    refine cI_of (mL0 _) ?_
    refine cI_of (mH0 _) ?_
    refine cI_of (m_isFrom) ?_
    rw [if_neg (fun z => b2i_0.mp z q2)]
    refine if_y (by omega) ?_
    refine cI_of (c_M_is xs d _ _) ?_
    refine if_y (by omega) ?_
    rfl
end
end
section
/-! EQUIV 7: a new state of the map as a whole; come -/
def keptM : List Nat := [3, 4, 5, 6, 7, 8, 11, 56, 59, 60, 61, 62, 63, 64, 65, 66, 68, 69, 70, 71, 72, 73, 74, 75, 76, 77, 78, 79, 80, 81, 82, 84, 85, 86, 87, 88, 89, 90, 91, 92, 93, 94, 95, 96, 97, 98, 100, 101, 102, 103, 104, 105, 106, 133, 134, 135]
theorem Rel.gen {h h' : mM} (R : Rel h) {c' : Kc} (k' : SlotR 12 30 c' h' 0 0) (hs : h' 0 0 = h' 130 2) (hf : h' 0 1 = h' 130 3 ∧ h' 0 2 = h' 130 4) (ht : h' 9 2 = h' 130 10 ∧ (0 ≤ h' 9 2 ∧ h' 9 2 ≤ 900) ∧ ∀ i, 0 ≤ i → i < h' 9 2 → h' 10 i = h' 136 i ∧ inB (h' 10 i)) (hfa : h' 9 11 = h' 130 16 ∧ h' 9 12 = h' 130 17)
    (hl : h' 0 3 = h' 130 44 ∧ (h' 0 3 = 0 ∨ h' 0 3 = 1) ∧ (h' 107 7 = 0 ∨ h' 107 7 = 1) ∧ (h' 0 3 = 1 → h' 107 3 = h' 152 0 ∧ h' 107 4 = h' 152 1 ∧ h' 107 5 = h' 152 2 ∧ h' 107 6 = h' 152 3 ∧ h' 107 7 = h' 152 4))
    (e : ∀ a, keptM.elem a = true → h' a = h a) (h132 : ∀ k, 7 ≤ k → k < 28 → h' 132 k = h 132 k) (h131 : ∀ k, 414 ≤ k → k < 1656 → h' 131 k = h 131 k) (hm : h' 130 45 = h 130 45) : Rel h' := by
  obtain ⟨R1, R2, R3, R4, R5, -, R7, R8, R9⟩ := R
  refine ⟨hs, hf, ?_, ht, hfa, ⟨c', k'⟩, ?_, hl, ?_⟩
  · intro t ht
    rw [e 7 (by decide), e 8 (by decide), e 133 (by decide), e 134 (by decide), e 135 (by decide)]
    have : keptM.elem (3 + t) = true := by
      have : t = 0 ∨ t = 1 ∨ t = 2 ∨ t = 3 := by omega
      rcases this with rfl | rfl | rfl | rfl <;> decide
    rw [e _ this]
    exact R3 t ht
  · rw [e 56 (by decide), hm]
    refine ⟨R7.1, R7.2.1, fun j hj => ?_⟩
    have hj3 : j = 0 ∨ j = 1 ∨ j = 2 := by have := R7.2.1; omega
    obtain ⟨cj, k1, k2, k3, k4, k5, k6⟩ := R7.2.2 j hj
    have hn := k3.1
    have ea : ∀ a, 59 + 16 * j ≤ a → a ≤ 66 + 16 * j → h' a = h a := fun a h1 h2 => e a (by
      have : a = 59 + 16 * j ∨ a = 60 + 16 * j ∨ a = 61 + 16 * j ∨ a = 62 + 16 * j ∨ a = 63 + 16 * j ∨ a = 64 + 16 * j ∨ a = 65 + 16 * j ∨ a = 66 + 16 * j := by omega
      rcases hj3 with rfl | rfl | rfl <;> rcases this with rfl | rfl | rfl | rfl | rfl | rfl | rfl | rfl <;> decide)
    have et : ∀ a, 68 + 16 * j ≤ a → a ≤ 74 + 16 * j → h' a = h a := fun a h1 h2 => e a (by
      have : a = 68 + 16 * j ∨ a = 69 + 16 * j ∨ a = 70 + 16 * j ∨ a = 71 + 16 * j ∨ a = 72 + 16 * j ∨ a = 73 + 16 * j ∨ a = 74 + 16 * j := by omega
      rcases hj3 with rfl | rfl | rfl <;> rcases this with rfl | rfl | rfl | rfl | rfl | rfl | rfl <;> decide)
    have er : ∀ k, 0 ≤ k → k < 414 → h' 131 (414 * ((j : Int) + 1) + k) = h 131 (414 * ((j : Int) + 1) + k) := fun k h1 h2 => h131 _ (by omega) (by omega)
    refine ⟨cj, k1.mv (fun a h1 h2 => ea a (by omega) (by omega)), ?_, k3, k4, k5.mv (fun p h1 h2 => by rw [ea _ (by omega) (by omega)]) (fun p h1 h2 => h132 _ (by omega) (by omega)), k6.mv (fun a h1 h2 => et a (by omega) (by omega)) (fun i hi => er i (by omega) (by omega))⟩
    obtain ⟨m1, m2, m3, m4, m5, m6, m7, m8⟩ := k2
    exact ⟨(er _ (by omega) (by omega)).trans m1, (er _ (by omega) (by omega)).trans m2, fun i a b => (er _ (by omega) (by omega)).trans (m3 i a b), fun i a b => (er _ (by omega) (by omega)).trans (m4 i a b), fun i a b => (er _ (by omega) (by omega)).trans (m5 i a b), fun i a b => (er _ (by omega) (by omega)).trans (m6 i a b), fun i a b => (er _ (by omega) (by omega)).trans (m7 i a b), fun i a b => (er _ (by omega) (by omega)).trans (m8 i a b)⟩
  · rw [e 11 (by decide)]; exact R9
/-- one more person -/
def coC (c : Kc) (x : Int) : Kc := fun f i => if f = 0 then c 0 0 + 1 else if i = c 0 0 ∧ 3 ≤ f then (if f = 3 then x else if f = 4 then 1 else if f = 5 then 0 else if f = 6 then 2 else -1) else c f i
theorem coC_wf {c : Kc} (w : WfC c) {x : Int} (hx : 0 ≤ x ∧ x ≤ 59) (h7 : c 0 0 < 7) : WfC (coC c x) := by
  obtain ⟨hn, hg, r1, r2, r3, r4, r5, r6, hw⟩ := w
  have e : ∀ f i, f = 1 ∨ f = 2 → coC c x f i = c f i := fun f i hf => by unfold coC; rw [if_neg (by omega), if_neg (by omega)]
  have e0 : coC c x 0 0 = c 0 0 + 1 := if_pos rfl
  unfold WfC
  rw [e0, e 1 0 (by omega), e 2 1 (by omega), e 2 2 (by omega), e 2 3 (by omega), e 2 4 (by omega), e 2 5 (by omega), e 2 6 (by omega)]
  refine ⟨by omega, hg, r1, r2, r3, r4, r5, r6, fun i h1 h2 => ?_⟩
  unfold WfP
  rw [e0]
  by_cases q : i = c 0 0
  · have v : ∀ f, 3 ≤ f → coC c x f i = (if f = 3 then x else if f = 4 then 1 else if f = 5 then 0 else if f = 6 then 2 else -1) := fun f hf => by unfold coC; rw [if_neg (by omega), if_pos ⟨q, hf⟩]
    rw [v 3 (by omega), v 4 (by omega), v 5 (by omega), v 6 (by omega), v 7 (by omega)]
    exact ⟨hx, (show (0 : Int) ≤ 1 ∧ (1 : Int) ≤ 9 by omega), (show (0 : Int) ≤ 0 ∧ (0 : Int) ≤ 99 by omega), (show (0 : Int) ≤ 2 ∧ (2 : Int) ≤ 9 by omega), Or.inl rfl⟩
  · have v : ∀ f, 3 ≤ f → coC c x f i = c f i := fun f hf => by unfold coC; rw [if_neg (by omega), if_neg (fun z => q z.1)]
    rw [v 3 (by omega), v 4 (by omega), v 5 (by omega), v 6 (by omega), v 7 (by omega)]
    obtain ⟨b1, b2, b3, b4, b5⟩ := hw i h1 (by omega)
    exact ⟨b1, b2, b3, b4, by omega⟩
/-- the class's cells with one more -/
def adT (h : mM) (b : Nat) (n x nm : Int) : mM := upM (upM (upM (upM (upM (upM (upM h (b + 2) n x) (b + 3) n 1) (b + 4) n 0) (b + 5) n 2) (b + 6) n (-1)) (b + 7) n nm) b 0 (n + 1)
theorem t_add {xs : List Int} {d : Nat} {b : Nat} {c : Kc} {h : mM} (hb : b = 12 ∨ b = 38) (k : CoT b c h) (h7 : 0 ≤ c 0 0 ∧ c 0 0 < 7) (x nm : Int) : C xs d 230 0 [mR b, mI x, mL nm] h = some ([mI (c 0 0)], adT h b (c 0 0) x nm) := by
  rw [c_Co_add xs d hb, k.n, show min (c 0 0) 6 = c 0 0 by omega]
  refine if_y (by omega) ?_
  refine if_y (by omega) ?_
  refine if_y (by omega) ?_
  refine if_y (by omega) ?_
  refine if_y (by omega) ?_
  refine if_y (by omega) ?_
  refine if_y (by omega) ?_
  rfl
theorem adT_co {b : Nat} {c : Kc} {h : mM} (k : CoT b c h) (h7 : 0 ≤ c 0 0) (x nm : Int) : CoT b (coC c x) (adT h b (c 0 0) x nm) := by
  have e0 : coC c x 0 0 = c 0 0 + 1 := if_pos rfl
  have e : ∀ f i, f = 1 ∨ f = 2 → coC c x f i = c f i := fun f i hf => by unfold coC; rw [if_neg (by omega), if_neg (by omega)]
  unfold CoT adT
  rw [e0, e 1 0 (by omega)]
  refine ⟨up_eq, ?_, fun i h1 h2 => ?_, fun i h1 h2 => ?_, fun i h1 h2 => ?_, fun i h1 h2 => ?_, fun i h1 h2 => ?_, fun i h1 h2 => ?_⟩
  · rw [up_at, if_neg (by omega), up_ne (by omega), up_ne (by omega), up_ne (by omega), up_ne (by omega), up_ne (by omega), up_ne (by omega)]; exact k.g
  · rw [up_ne (by omega), up_ne (by omega), up_ne (by omega), up_ne (by omega), up_ne (by omega), up_ne (by omega), up_ne (by omega), e 2 i (by omega)]; exact k.r i h1 h2
  · rw [up_ne (by omega), up_ne (by omega), up_ne (by omega), up_ne (by omega), up_ne (by omega), up_ne (by omega), up_at]
    unfold coC
    by_cases q : i = c 0 0
    · rw [if_pos q, if_neg (by omega), if_pos ⟨q, by omega⟩]; rfl
    · rw [if_neg q, if_neg (by omega), if_neg (fun z => q z.1)]; exact k.p i h1 (by omega)
  · rw [up_ne (by omega), up_ne (by omega), up_ne (by omega), up_ne (by omega), up_ne (by omega), up_at, up_ne (by omega)]
    unfold coC
    by_cases q : i = c 0 0
    · rw [if_pos q, if_neg (by omega), if_pos ⟨q, by omega⟩]; rfl
    · rw [if_neg q, if_neg (by omega), if_neg (fun z => q z.1)]; exact k.m i h1 (by omega)
  · rw [up_ne (by omega), up_ne (by omega), up_ne (by omega), up_ne (by omega), up_at, up_ne (by omega), up_ne (by omega)]
    unfold coC
    by_cases q : i = c 0 0
    · rw [if_pos q, if_neg (by omega), if_pos ⟨q, by omega⟩]; rfl
    · rw [if_neg q, if_neg (by omega), if_neg (fun z => q z.1)]; exact k.w i h1 (by omega)
  · rw [up_ne (by omega), up_ne (by omega), up_ne (by omega), up_at, up_ne (by omega), up_ne (by omega), up_ne (by omega)]
    unfold coC
    by_cases q : i = c 0 0
    · rw [if_pos q, if_neg (by omega), if_pos ⟨q, by omega⟩]; rfl
    · rw [if_neg q, if_neg (by omega), if_neg (fun z => q z.1)]; exact k.l i h1 (by omega)
  · rw [up_ne (by omega), up_ne (by omega), up_at, up_ne (by omega), up_ne (by omega), up_ne (by omega), up_ne (by omega)]
    unfold coC
    by_cases q : i = c 0 0
    · rw [if_pos q, if_neg (by omega), if_pos ⟨q, by omega⟩]; rfl
    · rw [if_neg q, if_neg (by omega), if_neg (fun z => q z.1)]; exact k.q i h1 (by omega)
theorem adT_ne {h : mM} {b : Nat} {n x nm : Int} {a : Nat} (ha : a < b ∨ b + 7 < a ∨ a = b + 1) : adT h b n x nm a = h a := by
  unfold adT
  rw [up_row (by omega), up_row (by omega), up_row (by omega), up_row (by omega), up_row (by omega), up_row (by omega), up_row (by omega)]
theorem adT_nm {h : mM} {b : Nat} {n x nm : Int} (p : Int) : adT h b n x nm (b + 7) p = if p = n then nm else h (b + 7) p := by
  unfold adT
  rw [up_ne (by omega), up_at]
  by_cases q : p = n
  · rw [if_pos q, if_pos q]
  · rw [if_neg q, if_neg q, up_ne (by omega), up_ne (by omega), up_ne (by omega), up_ne (by omega), up_ne (by omega)]
theorem q_come {xs : List Int} {d : Nat} {h : mM} (R : Rel h) (x : Int) : QI xs d h 25 156 [mI x] := by
  obtain ⟨c, k⟩ := R.co
  have kT := k.1
  have kM := CoM.z.mp k.2.1
  have w := k.2.2.1
  have hg := k.2.2.2.1
  have hn := w.1
  by_cases q : 0 ≤ x ∧ x ≤ 59
  rotate_left
  · refine QI.ans R 1 (-1) ?_ ?_
    · rw [c_T_come]
      refine cI_of (t_within) ?_
      rw [if_pos (b2i_0.mpr q)]
      refine cI_of (c_T_refuse xs d _ h) ?_
      rfl
    · rw [c_M_come]
      refine cI_of (m_isFrom) ?_
      rw [if_pos (b2i_0.mpr q)]
      refine cI_of (c_M_refuse xs d _ _) ?_
      rfl
  have tF : C xs d 229 0 [mR 12] h = some ([mI (b2i (¬ c 0 0 < 7))], h) := by
    rw [c_Co_isFull xs d (by omega), show h 12 0 = c 0 0 from kT.n]
    by_cases q2 : c 0 0 < 7
    · rw [if_pos q2, b2i_n (fun z => z q2)]
    · rw [if_neg q2, b2i_y q2]
  by_cases q2 : c 0 0 < 7
  rotate_left
  · refine QI.ans R 4 (-1) ?_ ?_
    · rw [c_T_come]
      refine cI_of (t_within) ?_
      rw [if_neg (fun z => b2i_0.mp z q)]
      refine cI_of (tF) ?_
      rw [if_neg (fun z => b2i_0.mp z q2)]
      refine cI_of (c_T_refuse xs d _ h) ?_
      rfl
    · rw [c_M_come]
      refine cI_of (m_isFrom) ?_
      rw [if_neg (fun z => b2i_0.mp z q), (kM.z0 4).n, if_pos (by omega)]
      refine cI_of (c_M_refuse xs d _ _) ?_
      rfl
  have e131 : adT h 12 (c 0 0) x 0 131 = h 131 := adT_ne (by omega)
  have kM1 : CoM c (upM (adT h 12 (c 0 0) x 0) 0 0 0) := kM.mv (by rw [up_row (by omega), e131])
  generalize hG : upM (adT h 12 (c 0 0) x 0) 0 0 0 = G at kM1
  have gr : ∀ a, a ≠ 0 → G a = adT h 12 (c 0 0) x 0 a := fun a ha => by rw [← hG, up_row ha]
  have g0 : ∀ i, i ≠ 0 → G 0 i = h 0 i := fun i hi => by rw [← hG, up_at, if_neg hi, adT_ne (by omega)]
  have g00 : G 0 0 = 0 := by rw [← hG, up_eq]
  generalize hE : upM (upM (upM (upM (upM (upM (upM G 131 0 (c 0 0 + 1)) 131 (10 + 5 * c 0 0) x) 131 (10 + 5 * c 0 0 + 1) 1) 131 (10 + 5 * c 0 0 + 2) 0) 131 (10 + 5 * c 0 0 + 3) 2) 131 (10 + 5 * c 0 0 + 4) (-1)) 132 (c 0 0) 0 = E
  have er : ∀ a, a ≠ 131 → a ≠ 132 → E a = G a := fun a h1 h2 => by rw [← hE, up_row h2, up_row h1, up_row h1, up_row h1, up_row h1, up_row h1, up_row h1]
  have e1 : ∀ i, i ≠ 0 → (i < 10 + 5 * c 0 0 ∨ 10 + 5 * c 0 0 + 4 < i) → E 131 i = h 131 i := fun i h0 hi => by
    rw [← hE, up_ne (by omega), up_at, if_neg (by omega), up_at, if_neg (by omega), up_at, if_neg (by omega), up_at, if_neg (by omega), up_at, if_neg (by omega), up_at, if_neg h0, gr 131 (by omega), e131]
  have e2 : ∀ i, i ≠ c 0 0 → E 132 i = h 132 i := fun i hi => by
    rw [← hE, up_at, if_neg hi, up_ne (by omega), up_ne (by omega), up_ne (by omega), up_ne (by omega), up_ne (by omega), up_ne (by omega), gr 132 (by omega), adT_ne (by omega)]
  have kM2 : CoM (coC c x) E := by
    have e0 : coC c x 0 0 = c 0 0 + 1 := if_pos rfl
    have ee : ∀ f i, f = 1 ∨ f = 2 → coC c x f i = c f i := fun f i hf => by unfold coC; rw [if_neg (by omega), if_neg (by omega)]
    have v : ∀ f i, i = c 0 0 → 3 ≤ f → coC c x f i = (if f = 3 then x else if f = 4 then 1 else if f = 5 then 0 else if f = 6 then 2 else -1) := fun f i q hf => by unfold coC; rw [if_neg (by omega), if_pos ⟨q, hf⟩]
    have vn : ∀ f i, i ≠ c 0 0 → 3 ≤ f → coC c x f i = c f i := fun f i q hf => by unfold coC; rw [if_neg (by omega), if_neg (fun z => q z.1)]
    unfold CoM
    rw [e0, ee 1 0 (by omega)]
    refine ⟨?_, ?_, fun i h1 h2 => ?_, fun i h1 h2 => ?_, fun i h1 h2 => ?_, fun i h1 h2 => ?_, fun i h1 h2 => ?_, fun i h1 h2 => ?_⟩
    · rw [← hE, up_ne (by omega), up_at, if_neg (by omega), up_at, if_neg (by omega), up_at, if_neg (by omega), up_at, if_neg (by omega), up_at, if_neg (by omega), up_eq]
    · rw [e1 7 (by omega) (by omega)]; exact kM.g
    · rw [e1 i (by omega) (by omega), ee 2 i (by omega)]; exact kM.r i h1 h2
    · by_cases z : i = c 0 0
      · rw [v 3 i z (by omega), z, ← hE, up_ne (by omega), up_at, if_neg (by omega), up_at, if_neg (by omega), up_at, if_neg (by omega), up_at, if_neg (by omega), up_at, if_pos (by omega)]; rfl
      · rw [vn 3 i z (by omega), e1 _ (by omega) (by omega)]; exact kM.p i h1 (by omega)
    · by_cases z : i = c 0 0
      · rw [v 4 i z (by omega), z, ← hE, up_ne (by omega), up_at, if_neg (by omega), up_at, if_neg (by omega), up_at, if_neg (by omega), up_at, if_pos (by omega)]; rfl
      · rw [vn 4 i z (by omega), e1 _ (by omega) (by omega)]; exact kM.m i h1 (by omega)
    · by_cases z : i = c 0 0
      · rw [v 5 i z (by omega), z, ← hE, up_ne (by omega), up_at, if_neg (by omega), up_at, if_neg (by omega), up_at, if_pos (by omega)]; rfl
      · rw [vn 5 i z (by omega), e1 _ (by omega) (by omega)]; exact kM.w i h1 (by omega)
    · by_cases z : i = c 0 0
      · rw [v 6 i z (by omega), z, ← hE, up_ne (by omega), up_at, if_neg (by omega), up_at, if_pos (by omega)]; rfl
      · rw [vn 6 i z (by omega), e1 _ (by omega) (by omega)]; exact kM.l i h1 (by omega)
    · by_cases z : i = c 0 0
      · rw [v 7 i z (by omega), z, ← hE, up_ne (by omega), up_at, if_pos (by omega)]; rfl
      · rw [vn 7 i z (by omega), e1 _ (by omega) (by omega)]; exact kM.q i h1 (by omega)
  have fin : ∀ a, a ≠ 130 → upM E 130 2 0 a = E a := fun a ha => up_row ha
  refine ⟨c 0 0, G, upM E 130 2 0, ?_, ?_, ?_⟩
  · rw [c_T_come]
    refine cI_of (t_within) ?_
    rw [if_neg (fun z => b2i_0.mp z q)]
    refine cI_of (tF) ?_
    rw [if_pos (b2i_0.mpr (fun z => z q2))]
    refine cI_of (t_add (by omega) kT (by omega) x 0) ?_
    refine cI_of (c_T_answer xs d _ _) ?_
    rw [← hG]
  · rw [c_M_come]
    refine cI_of (m_isFrom) ?_
    rw [if_neg (fun z => b2i_0.mp z q), kM1.n]
    refine if_n (by omega) ?_
    refine cI_of (m_personRow (by omega)) ?_
    rw [kM1.n]
    refine if_y (by omega) ?_
    refine if_y (by omega) ?_
    refine if_y (by omega) ?_
    refine if_y (by omega) ?_
    refine if_y (by omega) ?_
    refine if_y (by omega) ?_
    refine if_y (by omega) ?_
    refine if_y (by omega) ?_
    refine if_y (by omega) ?_
    refine if_y (by omega) ?_
    refine if_y (by omega) ?_
    rw [hE]
    refine cI_of (c_M_gives xs d _ _) ?_
    rfl
  · have ek : ∀ a, a ≠ 131 → a ≠ 132 → a ≠ 130 → a ≠ 0 → (a < 12 ∨ 19 < a) → upM E 130 2 0 a = h a := fun a h1 h2 h3 h4 h5 => by rw [fin a h3, er a h1 h2, gr a h4, adT_ne (by omega)]
    have e0k : ∀ i, i ≠ 0 → upM E 130 2 0 0 i = h 0 i := fun i hi => by rw [fin 0 (by omega), er 0 (by omega) (by omega), g0 i hi]
    have e3k : ∀ i, i ≠ 2 → upM E 130 2 0 130 i = h 130 i := fun i hi => by rw [up_at, if_neg hi, er 130 (by omega) (by omega), gr 130 (by omega), adT_ne (by omega)]
    refine R.gen (c' := coC c x) ⟨?_, ?_, coC_wf w q q2, ?_, ?_, ?_⟩ ?_ ?_ ?_ ?_ ?_ (fun a ha => ?_) (fun i h1 h2 => ?_) (fun i h1 h2 => ?_) (e3k 45 (by omega))
    · exact (adT_co kT hn.1 x 0).mv (fun a h1 h2 => by rw [fin a (by omega), er a (by omega) (by omega), gr a (by omega)])
    · exact CoM.z.mpr (kM2.mv (fin 131 (by omega)))
    · rw [show coC c x 1 0 = c 1 0 by unfold coC; rw [if_neg (by omega), if_neg (by omega)]]; exact hg
    · rw [show coC c x 0 0 = c 0 0 + 1 from if_pos rfl]
      intro p h1 h2
      have ea : upM E 130 2 0 (12 + 7) p = if p = c 0 0 then 0 else h 19 p := by rw [fin _ (by omega), er _ (by omega) (by omega), gr _ (by omega), adT_nm]
      have eb : upM E 130 2 0 132 (0 + p) = if p = c 0 0 then 0 else h 132 (0 + p) := by
        rw [fin 132 (by omega), Int.zero_add]
        by_cases z : p = c 0 0
        · rw [if_pos z, z, ← hE, up_eq]
        · rw [if_neg z, e2 p z]
      by_cases z : p = c 0 0
      · exact ⟨[], ⟨by simp, by simp⟩, ea.trans (if_pos z), eb.trans (if_pos z)⟩
      · obtain ⟨ww, w1, w2, w3⟩ := k.2.2.2.2.1 p h1 (by omega)
        exact ⟨ww, w1, (ea.trans (if_neg z)).trans w2, (eb.trans (if_neg z)).trans w3⟩
    · refine (k.2.2.2.2.2.mv (fun a h1 h2 => ek a (by omega) (by omega) (by omega) (by omega) (by omega)) (fun j hj => ?_)).n (by rw [show coC c x 0 0 = c 0 0 + 1 from if_pos rfl]; omega)
      rw [Int.zero_add, fin 131 (by omega), e1 j (by omega) (by omega)]
    · rw [fin 0 (by omega), er 0 (by omega) (by omega), g00, up_eq]
    · rw [e0k 1 (by omega), e0k 2 (by omega), e3k 3 (by omega), e3k 4 (by omega)]; exact R.2.1
    · rw [ek 9 (by omega) (by omega) (by omega) (by omega) (by omega), ek 10 (by omega) (by omega) (by omega) (by omega) (by omega), ek 136 (by omega) (by omega) (by omega) (by omega) (by omega), e3k 10 (by omega)]; exact R.2.2.2.1
    · rw [ek 9 (by omega) (by omega) (by omega) (by omega) (by omega), e3k 16 (by omega), e3k 17 (by omega)]; exact R.2.2.2.2.1
    · rw [ek 107 (by omega) (by omega) (by omega) (by omega) (by omega), ek 152 (by omega) (by omega) (by omega) (by omega) (by omega), e0k 3 (by omega), e3k 44 (by omega)]; exact R.2.2.2.2.2.2.2.1
    · exact ek a (fun z => by subst z; exact absurd ha (by decide)) (fun z => by subst z; exact absurd ha (by decide)) (fun z => by subst z; exact absurd ha (by decide)) (fun z => by subst z; exact absurd ha (by decide)) (by
        by_cases z : a < 12 ∨ 19 < a
        · exact z
        · have : a = 12 ∨ a = 13 ∨ a = 14 ∨ a = 15 ∨ a = 16 ∨ a = 17 ∨ a = 18 ∨ a = 19 := by omega
          rcases this with rfl | rfl | rfl | rfl | rfl | rfl | rfl | rfl <;> exact absurd ha (by decide))
    · rw [fin 132 (by omega), e2 i (by omega)]
    · rw [fin 131 (by omega), e1 i (by omega) (by omega)]
end
section
/-! EQUIV 8: looking ahead -/
theorem cpy_row {h : mM} {a b a' : Nat} {i j n : Int} (e : a' ≠ b) : mCpy h a i b j n a' = h a' := funext fun k => if_neg (fun z => e z.1)
theorem cpy_in {h : mM} {a b : Nat} {n k : Int} (hk : 0 ≤ k ∧ k < n) : mCpy h a 0 b 0 n b k = h a k := by
  unfold mCpy
  rw [if_pos ⟨rfl, by omega⟩, show 0 + (k - 0) = k by omega]
theorem Ow.cpy {L : List Nat} {h k : mM} {a b : Nat} {i j n : Int} (p : Ow L h k) (hb : b ∈ L) : Ow L h (mCpy k a i b j n) := fun x hx => by
  have e : x ≠ b := fun z => hx (z ▸ hb)
  rw [cpy_row e, p x hx]
def coL (b : Nat) : List Nat := [b, b + 1, b + 2, b + 3, b + 4, b + 5, b + 6, b + 7, b + 8]
section
variable {xs : List Int} {d : Nat} {c : Kc} {h : mM}
theorem t_takeFrom {b0 b1 : Nat} (hb : (b0 = 116 ∧ b1 = 12) ∨ (b0 = 12 ∧ b1 = 38) ∨ (b0 = 12 ∧ b1 = 59) ∨ (b0 = 12 ∧ b1 = 75) ∨ (b0 = 12 ∧ b1 = 91) ∨ (b0 = 21 ∧ b1 = 12) ∨ (b0 = 59 ∧ b1 = 12) ∨ (b0 = 75 ∧ b1 = 12) ∨ (b0 = 91 ∧ b1 = 12)) (k : CoT b1 c h) (hn : 0 ≤ c 0 0 ∧ c 0 0 ≤ 7) : ∃ h', C xs d 227 0 [mR b0, mR b1] h = some ([], h') ∧ CoT b0 c h' ∧ (∀ p, 0 ≤ p → p < c 0 0 → h' (b0 + 7) p = h (b1 + 7) p) ∧ Ow (coL b0) h h' := by
  rw [c_Co_takeFrom xs d hb, k.n, k.g]
  refine ⟨_, if_y (by omega) (if_y (by omega) (if_y (by omega) (if_y (by omega) (if_y (by omega) (if_y (by omega) (if_y (by omega) rfl)))))), ?_, fun p h1 h2 => ?_, ?_⟩
  · have far : b1 + 8 < b0 ∨ b0 + 8 < b1 := by omega
    unfold CoT
    refine ⟨?_, ?_, fun i h1 h2 => ?_, fun i h1 h2 => ?_, fun i h1 h2 => ?_, fun i h1 h2 => ?_, fun i h1 h2 => ?_, fun i h1 h2 => ?_⟩
    · rw [cpy_row (by omega), cpy_row (by omega), cpy_row (by omega), cpy_row (by omega), cpy_row (by omega), cpy_row (by omega), cpy_row (by omega), up_at, if_neg (by omega), up_eq]
    · rw [cpy_row (by omega), cpy_row (by omega), cpy_row (by omega), cpy_row (by omega), cpy_row (by omega), cpy_row (by omega), cpy_row (by omega), up_eq]
    · rw [cpy_row (by omega), cpy_row (by omega), cpy_row (by omega), cpy_row (by omega), cpy_row (by omega), cpy_row (by omega), cpy_in (by omega), up_ne (by omega), up_ne (by omega)]; exact k.r i h1 h2
    · rw [cpy_row (by omega), cpy_row (by omega), cpy_row (by omega), cpy_row (by omega), cpy_row (by omega), cpy_in (by omega), cpy_row (by omega), up_ne (by omega), up_ne (by omega)]; exact k.p i h1 h2
    · rw [cpy_row (by omega), cpy_row (by omega), cpy_row (by omega), cpy_row (by omega), cpy_in (by omega), cpy_row (by omega), cpy_row (by omega), up_ne (by omega), up_ne (by omega)]; exact k.m i h1 h2
    · rw [cpy_row (by omega), cpy_row (by omega), cpy_row (by omega), cpy_in (by omega), cpy_row (by omega), cpy_row (by omega), cpy_row (by omega), up_ne (by omega), up_ne (by omega)]; exact k.w i h1 h2
    · rw [cpy_row (by omega), cpy_row (by omega), cpy_in (by omega), cpy_row (by omega), cpy_row (by omega), cpy_row (by omega), cpy_row (by omega), up_ne (by omega), up_ne (by omega)]; exact k.l i h1 h2
    · rw [cpy_row (by omega), cpy_in (by omega), cpy_row (by omega), cpy_row (by omega), cpy_row (by omega), cpy_row (by omega), cpy_row (by omega), up_ne (by omega), up_ne (by omega)]; exact k.q i h1 h2
  · have far : b1 + 8 < b0 ∨ b0 + 8 < b1 := by omega
    rw [cpy_in (by omega), cpy_row (by omega), cpy_row (by omega), cpy_row (by omega), cpy_row (by omega), cpy_row (by omega), cpy_row (by omega), up_ne (by omega), up_ne (by omega)]
  · exact ((((((((Ow.rf.up (by simp [coL])).up (by simp [coL])).cpy (by simp [coL])).cpy (by simp [coL])).cpy (by simp [coL])).cpy (by simp [coL])).cpy (by simp [coL])).cpy (by simp [coL])).cpy (by simp [coL])
/-- behind so many evenings -/
def evK (c : Kc) : Nat → Kc
  | 0 => c
  | k + 1 => evC (evK c k) (-1)
theorem evC_0 {aw : Int} : evC c aw 0 0 = c 0 0 := by unfold evC ntC; rw [if_neg (by omega), if_neg (by omega)]; rfl
theorem evC_1 {aw : Int} : evC c aw 1 0 = c 1 0 + 1 := by unfold evC ntC; rw [if_neg (by omega), if_pos rfl]; rfl
theorem evK_n : ∀ k, evK c k 0 0 = c 0 0 := fun k => by
  induction k with
  | zero => rfl
  | succ k ih => rw [evK, evC_0, ih]
theorem evK_g : ∀ k, evK c k 1 0 = c 1 0 + (k : Int) := fun k => by
  induction k with
  | zero => simp [evK]
  | succ k ih => rw [evK, evC_1, ih]; omega
theorem evK_wf (w : WfC c) (hg : c 1 0 ≤ 9999) : ∀ k, k ≤ 1000 → WfC (evK c k) := fun k => by
  induction k with
  | zero => intro _; exact w
  | succ k ih =>
    intro hk
    rw [evK]
    exact evC_wf (ih (by omega)) (by rw [evK_g]; omega)
theorem t_evLoop {n : Nat} (hn : n ≤ 60) (w : WfC c) (hg : c 1 0 ≤ 9999) (k : CoT 21 c h) : ∃ h', X xs d k_T_lookAhead 7 [mR 0, mI (n : Int), mI 0] [] h = some ([], h') ∧ CoT 21 (evK c n) h' ∧ Ow (coL 21) h h' := by
  have key : ∀ (m i : Nat) (g : mM), i + m = n → CoT 21 (evK c i) g → Ow (coL 21) h g → ∃ h', X xs d k_T_lookAhead 7 [mR 0, mI (n : Int), mI (i : Int)] [] g = some ([], h') ∧ CoT 21 (evK c n) h' ∧ Ow (coL 21) h h' := by
    intro m
    induction m with
    | zero =>
      intro i g hi kg og
      obtain rfl : i = n := by omega
      rw [e_T_lookAhead_7, if_neg (by omega)]
      exact ⟨g, rfl, kg, og⟩
    | succ m ih =>
      intro i g hi kg og
      obtain ⟨g2, r1, r2, r3⟩ := t_passEvening (xs := xs) (d := d) (b := 21) (by omega) kg (evK_wf w hg i (by omega)) (by rw [evK_g]; omega) (-1) (by omega)
      obtain ⟨h', s1, s2, s3⟩ := ih (i + 1) g2 (by omega) r2 (og.tr (N := coL 21) r3 (fun a z => z) (by simp [coL]))
      refine ⟨h', ?_, s2, s3⟩
      rw [e_T_lookAhead_7, if_pos (by omega)]
      refine cI_of (r1) ?_
      refine if_y (by omega) ?_
      exact s1
  exact key n 0 h (by omega) k Ow.rf
theorem t_lookAhead {n : Nat} (hn : n ≤ 60) (w : WfC c) (hg : c 1 0 ≤ 9999) (k : CoT 12 c h) : ∃ h', C xs d 33 0 [mR 0, mI (n : Int)] h = some ([], h') ∧ CoT 21 (evK c n) h' ∧ Ow (coL 21) h h' := by
  obtain ⟨g, r1, r2, -, r4⟩ := t_takeFrom (xs := xs) (d := d) (b0 := 21) (b1 := 12) (by omega) k w.1
  obtain ⟨h', s1, s2, s3⟩ := t_evLoop (xs := xs) (d := d) hn w hg r2
  refine ⟨h', ?_, s2, r4.tr (N := coL 21) s3 (fun a z => z) (fun a z => z)⟩
  rw [c_T_lookAhead]
  refine cV_of (r1) ?_
  exact s1
/-- the people's cells kept at a place -/
def kpM (h : mM) (to : Int) : mM := rowW h 131 to 46 (fun k => h 131 (k - to))
def rsM (h : mM) (fr : Int) : mM := rowU h 131 46 (fun k => h 131 (fr + k))
theorem m_keeps {to : Int} (ht : 46 ≤ to ∧ to ≤ 2300) : C xs d 159 0 [mR 130, mI to] h = some ([], kpM h to) := by
  rw [c_M_keeps]
  have st : ∀ i : Nat, i < 46 → X xs d k_M_keeps 2 [mR 130, mI to, mI (i : Int)] [] (rowW h 131 to i (fun k => h 131 (k - to))) = X xs d k_M_keeps 2 [mR 130, mI to, mI ((i + 1 : Nat) : Int)] [] (rowW h 131 to ((i + 1 : Nat) : Int) (fun k => h 131 (k - to))) := by
    intro i hi
    rw [e_M_keeps_2, rowW_out (show ¬ (to ≤ (i : Int) ∧ (i : Int) < to + (i : Int)) by omega)]
    refine if_y (by omega) ?_
    refine if_y (by omega) ?_
    refine if_y (by omega) ?_
    refine if_y (by omega) ?_
    refine if_y (by omega) ?_
    rw [rowW_up (by omega) (by show _ = h 131 (to + (i : Int) - to); congr 1; omega)]
    rfl
  refine (congrArg (fun g => X xs d k_M_keeps 2 [mR 130, mI to, mI 0] [] g) (rowW_0 (h := h) (a := 131) (lo := to) (f := fun k => h 131 (k - to))).symm).trans ?_
  refine (run_to (fun i : Nat => X xs d k_M_keeps 2 [mR 130, mI to, mI (i : Int)] [] (rowW h 131 to i (fun k => h 131 (k - to)))) st).trans ?_
  show X xs d k_M_keeps 2 [mR 130, mI to, mI 46] [] (rowW h 131 to 46 _) = _
  rw [e_M_keeps_2, if_neg (by omega)]
  rfl
theorem m_restores {fr : Int} (ht : 46 ≤ fr ∧ fr ≤ 2300) : C xs d 160 0 [mR 130, mI fr] h = some ([], rsM h fr) := by
  rw [c_M_restores]
  have st : ∀ i : Nat, i < 46 → X xs d k_M_restores 2 [mR 130, mI fr, mI (i : Int)] [] (rowU h 131 i (fun k => h 131 (fr + k))) = X xs d k_M_restores 2 [mR 130, mI fr, mI ((i + 1 : Nat) : Int)] [] (rowU h 131 ((i + 1 : Nat) : Int) (fun k => h 131 (fr + k))) := by
    intro i hi
    rw [e_M_restores_2, rowU_out (show ¬ (0 ≤ fr + (i : Int) ∧ fr + (i : Int) < (i : Int)) by omega)]
    refine if_y (by omega) ?_
    refine if_y (by omega) ?_
    refine if_y (by omega) ?_
    refine if_y (by omega) ?_
    refine if_y (by omega) ?_
    rw [rowU_up (by omega) rfl]
    rfl
  refine (congrArg (fun g => X xs d k_M_restores 2 [mR 130, mI fr, mI 0] [] g) (rowU_0 (h := h) (a := 131) (f := fun k => h 131 (fr + k))).symm).trans ?_
  refine (run_to (fun i : Nat => X xs d k_M_restores 2 [mR 130, mI fr, mI (i : Int)] [] (rowU h 131 i (fun k => h 131 (fr + k)))) st).trans ?_
  show X xs d k_M_restores 2 [mR 130, mI fr, mI 46] [] (rowU h 131 46 _) = _
  rw [e_M_restores_2, if_neg (by omega)]
  rfl
theorem kpM_co (k : CoM c h) (hn : c 0 0 ≤ 7) {to : Int} (ht : 46 ≤ to) : CoM c (kpM h to) := by
  have e : ∀ i, i < 46 → kpM h to 131 i = h 131 i := fun i hi => rowW_out (by omega)
  obtain ⟨k1, k2, k3, k4, k5, k6, k7, k8⟩ := k
  exact ⟨(e _ (by omega)).trans k1, (e _ (by omega)).trans k2, fun i a b => (e _ (by omega)).trans (k3 i a b), fun i a b => (e _ (by omega)).trans (k4 i a b), fun i a b => (e _ (by omega)).trans (k5 i a b), fun i a b => (e _ (by omega)).trans (k6 i a b), fun i a b => (e _ (by omega)).trans (k7 i a b), fun i a b => (e _ (by omega)).trans (k8 i a b)⟩
/-- all is back, but for places of work -/
def Lk (h h' : mM) : Prop := (∀ a, a ≠ 131 → a ≠ 139 → h' a = h a) ∧ ∀ k, 0 ≤ k → k < 1656 → h' 131 k = h 131 k
theorem Lk.tr {h k g : mM} (p : Lk h k) (q : Lk k g) : Lk h g := ⟨fun a h1 h2 => (q.1 a h1 h2).trans (p.1 a h1 h2), fun j h1 h2 => (q.2 j h1 h2).trans (p.2 j h1 h2)⟩
theorem Lk.co {h' : mM} (p : Lk h h') (k : CoM c h) (hn : c 0 0 ≤ 7) : CoM c h' := by
  have e : ∀ i, 0 ≤ i → i < 1656 → h' 131 i = h 131 i := p.2
  obtain ⟨k1, k2, k3, k4, k5, k6, k7, k8⟩ := k
  exact ⟨(e _ (by omega) (by omega)).trans k1, (e _ (by omega) (by omega)).trans k2, fun i a b => (e _ (by omega) (by omega)).trans (k3 i a b), fun i a b => (e _ (by omega) (by omega)).trans (k4 i a b), fun i a b => (e _ (by omega) (by omega)).trans (k5 i a b), fun i a b => (e _ (by omega) (by omega)).trans (k6 i a b), fun i a b => (e _ (by omega) (by omega)).trans (k7 i a b), fun i a b => (e _ (by omega) (by omega)).trans (k8 i a b)⟩
theorem Lk.keep {h' : mM} (p : Lk h h') : Keep h h' := ⟨fun a z => p.1 a (fun e => by subst e; exact absurd z (by decide)) (fun e => by subst e; exact absurd z (by decide)), fun j _ => by rw [p.1 0 (by omega) (by omega)], fun j _ => by rw [p.1 130 (by omega) (by omega)], fun j hj => p.2 j (by omega) (by omega)⟩
theorem Lk.of {g : mM} {to : Int} (ht : 2070 ≤ to) (o : Oc (kpM h to) g) : Lk h (rsM g to) := by
  refine ⟨fun a h1 h2 => ?_, fun k h1 h2 => ?_⟩
  · unfold rsM
    rw [rowU_ne h1, o.1 a h1 h2]
    exact rowW_ne h1
  · unfold rsM
    by_cases q : k < 46
    · rw [rowU_in ⟨h1, q⟩, o.2 _ (by omega)]
      unfold kpM
      rw [rowW_in (by omega), show to + k - to = k by omega]
    · rw [rowU_out (by omega), o.2 k (by omega)]
      exact rowW_out (by omega)
theorem m_eveningsGo {n : Nat} (hn : n ≤ 300) (w : WfC c) (hg : c 1 0 ≤ 9999) (k : CoM c h) : ∃ h', C xs d 164 0 [mR 130, mI (n : Int)] h = some ([], h') ∧ CoM (evK c n) h' ∧ Oc h h' := by
  rw [c_M_eveningsGo]
  have key : ∀ (m i : Nat) (g : mM), i + m = n → CoM (evK c i) g → Oc h g → ∃ h', X xs d k_M_eveningsGo 2 [mR 130, mI (n : Int), mI (i : Int)] [] g = some ([], h') ∧ CoM (evK c n) h' ∧ Oc h h' := by
    intro m
    induction m with
    | zero =>
      intro i g hi kg og
      obtain rfl : i = n := by omega
      rw [e_M_eveningsGo_2, if_neg (by omega)]
      exact ⟨g, rfl, kg, og⟩
    | succ m ih =>
      intro i g hi kg og
      obtain ⟨g2, r1, r2, r3⟩ := m_eveningGoes (xs := xs) (d := d) kg (evK_wf w hg i (by omega)) (by rw [evK_g]; omega) (aw := -1) (Or.inl rfl)
      obtain ⟨h', s1, s2, s3⟩ := ih (i + 1) g2 (by omega) r2 (og.tr r3)
      refine ⟨h', ?_, s2, s3⟩
      rw [e_M_eveningsGo_2, if_pos (by omega)]
      refine cI_of (r1) ?_
      refine if_y (by omega) ?_
      exact s1
  exact key n 0 h (by omega) k Oc.rf
/-- the class changed free rows, the reference is as it was -/
theorem QI.mkA {iT iM : Nat} {a : List mv} (R : Rel h) (k0 : SlotR 12 30 c h 0 0) (v s : Int) {g1 g2 : mM} {L : List Nat} (hT : C xs d iT 0 (mR 0 :: a) h = some ([mI v], upM g1 0 0 s)) (o1 : Ow L h g1) (hL : ∀ a ∈ L, keptL.elem a = false ∧ a ≠ 0 ∧ a ≠ 130 ∧ a ≠ 131 ∧ (a < 12 ∨ 18 < a)) (hM : C xs d iM 0 (mR 130 :: a) (upM g1 0 0 s) = some ([mI v], upM g2 130 2 s)) (o2 : Lk (upM g1 0 0 s) g2) : QI xs d h iT iM a := by
  have k1 : CoT 12 c g1 := k0.1.mv (fun b h1 h2 => o1 b (fun z => by have := (hL b z).2.2.2.2; omega))
  have kM : CoM c (upM g1 0 0 s) := (CoM.z.mp k0.2.1).mv (by rw [up_row (by omega), o1 131 (fun z => (hL 131 z).2.2.2.1 rfl)])
  exact QI.mkU R k0 v s hT k1 (Keep.ow o1 (fun a z => ⟨(hL a z).1, (hL a z).2.1, (hL a z).2.2.1, (hL a z).2.2.2.1⟩)) hM (o2.co kM k0.2.2.1.1.2) o2.keep (fun b h1 h2 => by rw [o2.1 b (by omega) (by omega), up_row (by omega)]) (o2.1 0 (by omega) (by omega)) k0.2.2.1 k0.2.2.2.1 rfl
theorem coL_21 : ∀ a ∈ coL 21, keptL.elem a = false ∧ a ≠ 0 ∧ a ≠ 130 ∧ a ≠ 131 ∧ (a < 12 ∨ 18 < a) := by decide
end
section
variable {xs : List Int} {d : Nat} {h : mM}
theorem q_eveningIn (R : Rel h) (x y : Int) : QI xs d h 29 165 [mI x, mI y] := by
  obtain ⟨c, k⟩ := R.co
  have kT := k.1
  have kM := CoM.z.mp k.2.1
  have w := k.2.2.1
  have hg := k.2.2.2.1
  have hn := w.1
  by_cases q : 0 ≤ x ∧ x < c 0 0
  rotate_left
  · refine QI.ans R 1 (-1) ?_ ?_
    · rw [c_T_eveningIn]
      refine cI_of (t_has12 kT x) ?_
      rw [if_pos (b2i_0.mpr q)]
      refine cI_of (c_T_refuse xs d _ h) ?_
      rfl
    · rw [c_M_eveningIn]
      refine cI_of (m_isPerson (kM.z0 1) x) ?_
      rw [if_pos (b2i_0.mpr q)]
      refine cI_of (c_M_refuse xs d _ _) ?_
      rfl
  by_cases q2 : 0 ≤ y ∧ y ≤ 60
  rotate_left
  · refine QI.ans R 1 (-1) ?_ ?_
    · rw [c_T_eveningIn]
      refine cI_of (t_has12 kT x) ?_
      rw [if_neg (fun z => b2i_0.mp z q)]
      refine cI_of (t_within) ?_
      rw [if_pos (b2i_0.mpr q2)]
      refine cI_of (c_T_refuse xs d _ h) ?_
      rfl
    · rw [c_M_eveningIn]
      refine cI_of (m_isPerson (kM.z0 1) x) ?_
      rw [if_neg (fun z => b2i_0.mp z q)]
      refine cI_of (m_isFrom) ?_
      rw [if_pos (b2i_0.mpr q2)]
      refine cI_of (c_M_refuse xs d _ _) ?_
      rfl
  obtain ⟨n, rfl⟩ : ∃ n : Nat, y = (n : Int) := ⟨y.toNat, by omega⟩
  obtain ⟨g1, r1, r2, r3⟩ := t_lookAhead (xs := xs) (d := d) (n := n) (by omega) w hg kT
  have kM1 : CoM c (upM g1 0 0 0) := kM.mv (by rw [up_row (by omega), r3 131 (by decide)])
  obtain ⟨g2, s1, s2, s3⟩ := m_eveningsGo (xs := xs) (d := d) (n := n) (by omega) w hg (kpM_co kM1 hn.2 (to := 2070) (by omega))
  refine QI.mkA R k (evK c n 5 x) 0 (g1 := g1) (g2 := rsM g2 2070) ?_ r3 coL_21 ?_ (Lk.of (by omega) s3)
  · rw [c_T_eveningIn]
    refine cI_of (t_has12 kT x) ?_
    rw [if_neg (fun z => b2i_0.mp z q)]
    refine cI_of (t_within) ?_
    rw [if_neg (fun z => b2i_0.mp z q2)]
    refine cV_of (r1) ?_
    refine if_y (by omega) ?_
    rw [show g1 25 x = evK c n 5 x from r2.w x q.1 (by rw [evK_n]; exact q.2)]
    refine cI_of (c_T_answer xs d _ _) ?_
    rfl
  · rw [c_M_eveningIn]
    refine cI_of (m_isPerson kM1 x) ?_
    rw [if_neg (fun z => b2i_0.mp z q)]
    refine cI_of (m_isFrom) ?_
    rw [if_neg (fun z => b2i_0.mp z q2)]
    refine cV_of (m_keeps (by omega)) ?_
    refine cV_of (s1) ?_
    refine cI_of (m_personOf (by omega) (by omega)) ?_
    rw [s2.w x q.1 (by rw [evK_n]; exact q.2)]
    refine cV_of (m_restores (by omega)) ?_
    refine cI_of (c_M_gives xs d _ _) ?_
    rfl
theorem q_litIn (R : Rel h) (y : Int) : QI xs d h 30 166 [mI y] := by
  obtain ⟨c, k⟩ := R.co
  have kT := k.1
  have kM := CoM.z.mp k.2.1
  have w := k.2.2.1
  have hg := k.2.2.2.1
  have hn := w.1
  by_cases q2 : 0 ≤ y ∧ y ≤ 60
  rotate_left
  · refine QI.ans R 1 (-1) ?_ ?_
    · rw [c_T_litIn]
      refine cI_of (t_within) ?_
      rw [if_pos (b2i_0.mpr q2)]
      refine cI_of (c_T_refuse xs d _ h) ?_
      rfl
    · rw [c_M_litIn]
      refine cI_of (m_isFrom) ?_
      rw [if_pos (b2i_0.mpr q2)]
      refine cI_of (c_M_refuse xs d _ _) ?_
      rfl
  obtain ⟨n, rfl⟩ : ∃ n : Nat, y = (n : Int) := ⟨y.toNat, by omega⟩
  obtain ⟨g1, r1, r2, r3⟩ := t_lookAhead (xs := xs) (d := d) (n := n) (by omega) w hg kT
  have kM1 : CoM c (upM g1 0 0 0) := kM.mv (by rw [up_row (by omega), r3 131 (by decide)])
  obtain ⟨g2, s1, s2, s3⟩ := m_eveningsGo (xs := xs) (d := d) (n := n) (by omega) w hg (kpM_co kM1 hn.2 (to := 2070) (by omega))
  have wn := evK_wf w hg n (by omega)
  refine QI.mkA R k ((sq (litB (evK c n)) (evK c n 0 0).toNat : Nat) : Int) 0 (g1 := g1) (g2 := rsM g2 2070) ?_ r3 coL_21 ?_ (Lk.of (by omega) s3)
  · rw [c_T_litIn]
    refine cI_of (t_within) ?_
    rw [if_neg (fun z => b2i_0.mp z q2)]
    refine cV_of (r1) ?_
    refine cI_of (t_litSet (by omega) r2 wn) ?_
    refine cI_of (c_T_answer xs d _ _) ?_
    rfl
  · rw [c_M_litIn]
    refine cI_of (m_isFrom) ?_
    rw [if_neg (fun z => b2i_0.mp z q2)]
    refine cV_of (m_keeps (by omega)) ?_
    refine cV_of (s1) ?_
    refine cI_of (m_areLit s2 wn) ?_
    refine cV_of (m_restores (by omega)) ?_
    refine cI_of (c_M_gives xs d _ _) ?_
    rfl
theorem m_litBehind {c : Kc} (k : CoM c h) (w : WfC c) (hg : c 1 0 ≤ 9999) {aw : Int} (haw : aw = -1 ∨ 0 ≤ aw ∧ aw < c 0 0) : ∃ h', C xs d 182 0 [mR 130, mI aw] h = some ([mI ((sq (litB (evC c aw)) (evC c aw 0 0).toNat : Nat) : Int)], h') ∧ Lk h h' := by
  obtain ⟨g2, s1, s2, s3⟩ := m_eveningGoes (xs := xs) (d := d) (kpM_co k w.1.2 (to := 2070) (by omega)) w (by omega) haw
  refine ⟨rsM g2 2070, ?_, Lk.of (by omega) s3⟩
  rw [c_M_litBehind]
  refine cV_of (m_keeps (by omega)) ?_
  refine cI_of (s1) ?_
  refine cI_of (m_areLit s2 (evC_wf w (by omega))) ?_
  refine cV_of (m_restores (by omega)) ?_
  rfl
theorem q_misses (R : Rel h) (x : Int) : QI xs d h 43 183 [mI x] := by
  obtain ⟨c, k⟩ := R.co
  have kT := k.1
  have kM := CoM.z.mp k.2.1
  have w := k.2.2.1
  have hg := k.2.2.2.1
  have hn := w.1
  by_cases q : 0 ≤ x ∧ x < c 0 0
  rotate_left
  · refine QI.ans R 1 (-1) ?_ ?_
    · rw [c_T_misses]
      refine cI_of (t_has12 kT x) ?_
      rw [if_pos (b2i_0.mpr q)]
      refine cI_of (c_T_refuse xs d _ h) ?_
      rfl
    · rw [c_M_misses]
      refine cI_of (m_isPerson (kM.z0 1) x) ?_
      rw [if_pos (b2i_0.mpr q)]
      refine cI_of (c_M_refuse xs d _ _) ?_
      rfl
  obtain ⟨g1, r1, r2, r3⟩ := t_lookAhead (xs := xs) (d := d) (n := 1) (by omega) w hg kT
  have kT1 : CoT 12 c g1 := kT.mv (fun a h1 h2 => r3 a (by simp [coL]; omega))
  obtain ⟨g3, u1, u2, -, u4⟩ := t_takeFrom (xs := xs) (d := d) (b0 := 21) (b1 := 12) (by omega) kT1 hn
  obtain ⟨g4, v1, v2, v3⟩ := t_passEvening (xs := xs) (d := d) (b := 21) (by omega) u2 w (by omega) x (by omega)
  have o4 : Ow (coL 21) h g4 := (r3.tr (N := coL 21) u4 (fun a z => z) (fun a z => z)).tr (N := coL 21) v3 (fun a z => z) (by simp [coL])
  have kM1 : CoM c (upM g4 0 0 0) := kM.mv (by rw [up_row (by omega), o4 131 (by decide)])
  obtain ⟨g5, s1, s2⟩ := m_litBehind (xs := xs) (d := d) kM1 w hg (aw := -1) (Or.inl rfl)
  obtain ⟨g6, p1, p2⟩ := m_litBehind (xs := xs) (d := d) (s2.co kM1 hn.2) w hg (aw := x) (Or.inr q)
  have wn := evC_wf w (by omega) (aw := -1)
  have wx := evC_wf w (by omega) (aw := x)
  refine QI.mkA R k (fAnd ((sq (litB (evC c (-1))) (evC c (-1) 0 0).toNat : Nat) : Int) (fXor ((sq (litB (evC c x)) (evC c x 0 0).toNat : Nat) : Int) (-1))) 0 (g1 := g4) (g2 := g6) ?_ o4 coL_21 ?_ (s2.tr p2)
  · rw [c_T_misses]
    refine cI_of (t_has12 kT x) ?_
    rw [if_neg (fun z => b2i_0.mp z q)]
    refine cV_of (r1) ?_
    refine cI_of (t_litSet (by omega) r2 wn) ?_
    refine cV_of (u1) ?_
    refine cI_of (v1) ?_
    refine cI_of (t_litSet (by omega) v2 wx) ?_
    refine cI_of (c_T_answer xs d _ _) ?_
    rfl
  · rw [c_M_misses]
    refine cI_of (m_isPerson kM1 x) ?_
    rw [if_neg (fun z => b2i_0.mp z q)]
    refine cI_of (s1) ?_
    refine cI_of (p1) ?_
    refine cI_of (c_M_gives xs d _ _) ?_
    rfl
end
end
