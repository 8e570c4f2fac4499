section
-- ===== PART A: goes FIRST, ahead of the names: the tables' words, and 'selects' of the private methods out of them =====
/-- a private method of a class that the tables say can be made, by its rows of tables_1 -/
def lw_okq (q : MethodName × Nat) : Prop := (q.1.cls ≠ "java/lang/invoke/MethodHandle" ∧ q.1.cls ≠ "java/lang/invoke/VarHandle") ∧ Cond.instantiable q.1.cls q.2 ∈ tables_1 ∧ Cond.privateMethod q.1 ∈ tables_1 ∧ Cond.instanceMethod q.1 ∈ tables_1
theorem lw_p0 : lw_okq (⟨"OvenDays$UndoStack", "stateAt", "(I)LOvenDays$Village;"⟩, 3) := ⟨⟨by decide +kernel, by decide +kernel⟩, List.mem_of_getElem? (i := 181) (by decide +kernel), List.mem_of_getElem? (i := 250) (by decide +kernel), List.mem_of_getElem? (i := 251) (by decide +kernel)⟩
theorem lw_p1 : lw_okq (⟨"OvenDays", "doughOfArrangedDay", "(I)I"⟩, 5) := ⟨⟨by decide +kernel, by decide +kernel⟩, List.mem_of_getElem? (i := 27) (by decide +kernel), List.mem_of_getElem? (i := 356) (by decide +kernel), List.mem_of_getElem? (i := 357) (by decide +kernel)⟩
theorem lw_p2 : lw_okq (⟨"OvenDays$DayPlan", "startWaiting", "(LOvenDays$Batches;)V"⟩, 7) := ⟨⟨by decide +kernel, by decide +kernel⟩, List.mem_of_getElem? (i := 151) (by decide +kernel), List.mem_of_getElem? (i := 369) (by decide +kernel), List.mem_of_getElem? (i := 370) (by decide +kernel)⟩
theorem lw_p3 : lw_okq (⟨"OvenDays$DayPlan", "kindForHeat", "()I"⟩, 7) := ⟨⟨by decide +kernel, by decide +kernel⟩, List.mem_of_getElem? (i := 151) (by decide +kernel), List.mem_of_getElem? (i := 377) (by decide +kernel), List.mem_of_getElem? (i := 378) (by decide +kernel)⟩
theorem lw_p4 : lw_okq (⟨"OvenDays$DayPlan", "bakeLoad", "(LOvenDays$Batches;I)V"⟩, 7) := ⟨⟨by decide +kernel, by decide +kernel⟩, List.mem_of_getElem? (i := 151) (by decide +kernel), List.mem_of_getElem? (i := 385) (by decide +kernel), List.mem_of_getElem? (i := 386) (by decide +kernel)⟩
theorem lw_p5 : lw_okq (⟨"OvenDays$DayPlan", "isTooHotForSome", "()Z"⟩, 7) := ⟨⟨by decide +kernel, by decide +kernel⟩, List.mem_of_getElem? (i := 151) (by decide +kernel), List.mem_of_getElem? (i := 403) (by decide +kernel), List.mem_of_getElem? (i := 404) (by decide +kernel)⟩
theorem lw_p6 : lw_okq (⟨"OvenDays$CommandText", "skipSpaces", "()V"⟩, 6) := ⟨⟨by decide +kernel, by decide +kernel⟩, List.mem_of_getElem? (i := 200) (by decide +kernel), List.mem_of_getElem? (i := 457) (by decide +kernel), List.mem_of_getElem? (i := 458) (by decide +kernel)⟩
theorem lw_p7 : lw_okq (⟨"OvenDays$CommandText", "stands", "(C)Z"⟩, 6) := ⟨⟨by decide +kernel, by decide +kernel⟩, List.mem_of_getElem? (i := 200) (by decide +kernel), List.mem_of_getElem? (i := 461) (by decide +kernel), List.mem_of_getElem? (i := 462) (by decide +kernel)⟩
theorem lw_p8 : lw_okq (⟨"OvenDays$CommandText", "here", "()I"⟩, 6) := ⟨⟨by decide +kernel, by decide +kernel⟩, List.mem_of_getElem? (i := 200) (by decide +kernel), List.mem_of_getElem? (i := 465) (by decide +kernel), List.mem_of_getElem? (i := 466) (by decide +kernel)⟩
theorem lw_p9 : lw_okq (⟨"OvenDays$CommandText", "readWord", "()Z"⟩, 6) := ⟨⟨by decide +kernel, by decide +kernel⟩, List.mem_of_getElem? (i := 200) (by decide +kernel), List.mem_of_getElem? (i := 469) (by decide +kernel), List.mem_of_getElem? (i := 470) (by decide +kernel)⟩
theorem lw_p10 : lw_okq (⟨"OvenDays$CommandText", "wordBetween", "(II)LOvenDays$Word;"⟩, 6) := ⟨⟨by decide +kernel, by decide +kernel⟩, List.mem_of_getElem? (i := 200) (by decide +kernel), List.mem_of_getElem? (i := 473) (by decide +kernel), List.mem_of_getElem? (i := 474) (by decide +kernel)⟩
theorem lw_p11 : lw_okq (⟨"OvenDays$CommandText", "isBetween", "(Ljava/lang/String;II)Z"⟩, 6) := ⟨⟨by decide +kernel, by decide +kernel⟩, List.mem_of_getElem? (i := 200) (by decide +kernel), List.mem_of_getElem? (i := 479) (by decide +kernel), List.mem_of_getElem? (i := 480) (by decide +kernel)⟩
theorem lw_p12 : lw_okq (⟨"OvenDays$CommandText", "failAt", "(I)Z"⟩, 6) := ⟨⟨by decide +kernel, by decide +kernel⟩, List.mem_of_getElem? (i := 200) (by decide +kernel), List.mem_of_getElem? (i := 531) (by decide +kernel), List.mem_of_getElem? (i := 532) (by decide +kernel)⟩
theorem lw_p13 : lw_okq (⟨"OvenDays$CommandText", "readNumbers", "()Z"⟩, 6) := ⟨⟨by decide +kernel, by decide +kernel⟩, List.mem_of_getElem? (i := 200) (by decide +kernel), List.mem_of_getElem? (i := 535) (by decide +kernel), List.mem_of_getElem? (i := 536) (by decide +kernel)⟩
theorem lw_p14 : lw_okq (⟨"OvenDays$CommandText", "standsDigit", "()Z"⟩, 6) := ⟨⟨by decide +kernel, by decide +kernel⟩, List.mem_of_getElem? (i := 200) (by decide +kernel), List.mem_of_getElem? (i := 539) (by decide +kernel), List.mem_of_getElem? (i := 540) (by decide +kernel)⟩
theorem lw_p15 : lw_okq (⟨"OvenDays$CommandText", "readDigits", "()I"⟩, 6) := ⟨⟨by decide +kernel, by decide +kernel⟩, List.mem_of_getElem? (i := 200) (by decide +kernel), List.mem_of_getElem? (i := 543) (by decide +kernel), List.mem_of_getElem? (i := 544) (by decide +kernel)⟩
def lw_privs_1 : List (MethodName × Nat) := [(⟨"OvenDays$UndoStack", "stateAt", "(I)LOvenDays$Village;"⟩, 3), (⟨"OvenDays", "doughOfArrangedDay", "(I)I"⟩, 5), (⟨"OvenDays$DayPlan", "startWaiting", "(LOvenDays$Batches;)V"⟩, 7), (⟨"OvenDays$DayPlan", "kindForHeat", "()I"⟩, 7), (⟨"OvenDays$DayPlan", "bakeLoad", "(LOvenDays$Batches;I)V"⟩, 7), (⟨"OvenDays$DayPlan", "isTooHotForSome", "()Z"⟩, 7), (⟨"OvenDays$CommandText", "skipSpaces", "()V"⟩, 6), (⟨"OvenDays$CommandText", "stands", "(C)Z"⟩, 6), (⟨"OvenDays$CommandText", "here", "()I"⟩, 6), (⟨"OvenDays$CommandText", "readWord", "()Z"⟩, 6), (⟨"OvenDays$CommandText", "wordBetween", "(II)LOvenDays$Word;"⟩, 6), (⟨"OvenDays$CommandText", "isBetween", "(Ljava/lang/String;II)Z"⟩, 6), (⟨"OvenDays$CommandText", "failAt", "(I)Z"⟩, 6), (⟨"OvenDays$CommandText", "readNumbers", "()Z"⟩, 6), (⟨"OvenDays$CommandText", "standsDigit", "()Z"⟩, 6), (⟨"OvenDays$CommandText", "readDigits", "()I"⟩, 6)]
theorem lw_r1 : ∀ q ∈ lw_privs_1, lw_okq q := List.forall_mem_cons.mpr ⟨lw_p0, List.forall_mem_cons.mpr ⟨lw_p1, List.forall_mem_cons.mpr ⟨lw_p2, List.forall_mem_cons.mpr ⟨lw_p3, List.forall_mem_cons.mpr ⟨lw_p4, List.forall_mem_cons.mpr ⟨lw_p5, List.forall_mem_cons.mpr ⟨lw_p6, List.forall_mem_cons.mpr ⟨lw_p7, List.forall_mem_cons.mpr ⟨lw_p8, List.forall_mem_cons.mpr ⟨lw_p9, List.forall_mem_cons.mpr ⟨lw_p10, List.forall_mem_cons.mpr ⟨lw_p11, List.forall_mem_cons.mpr ⟨lw_p12, List.forall_mem_cons.mpr ⟨lw_p13, List.forall_mem_cons.mpr ⟨lw_p14, List.forall_mem_cons.mpr ⟨lw_p15, fun _ h => absurd h List.not_mem_nil⟩⟩⟩⟩⟩⟩⟩⟩⟩⟩⟩⟩⟩⟩⟩⟩
theorem lw_p16 : lw_okq (⟨"OvenDays", "carryOut", "(LOvenDays$Word;III)I"⟩, 5) := ⟨⟨by decide +kernel, by decide +kernel⟩, List.mem_of_getElem? (i := 27) (by decide +kernel), List.mem_of_getElem? (i := 557) (by decide +kernel), List.mem_of_getElem? (i := 558) (by decide +kernel)⟩
theorem lw_p17 : lw_okq (⟨"OvenDays", "whyNoCommand", "(LOvenDays$Word;III)I"⟩, 5) := ⟨⟨by decide +kernel, by decide +kernel⟩, List.mem_of_getElem? (i := 27) (by decide +kernel), List.mem_of_getElem? (i := 561) (by decide +kernel), List.mem_of_getElem? (i := 562) (by decide +kernel)⟩
theorem lw_p18 : lw_okq (⟨"OvenDays$Village", "bakeLoads", "(LOvenDays$DayPlan;)I"⟩, 8) := ⟨⟨by decide +kernel, by decide +kernel⟩, List.mem_of_getElem? (i := 35) (by decide +kernel), List.mem_of_getElem? (i := 644) (by decide +kernel), List.mem_of_getElem? (i := 645) (by decide +kernel)⟩
theorem lw_p19 : lw_okq (⟨"OvenDays$Village", "bakeBatch", "(II)V"⟩, 8) := ⟨⟨by decide +kernel, by decide +kernel⟩, List.mem_of_getElem? (i := 35) (by decide +kernel), List.mem_of_getElem? (i := 660) (by decide +kernel), List.mem_of_getElem? (i := 661) (by decide +kernel)⟩
theorem lw_p20 : lw_okq (⟨"OvenDays$Village", "blur", "(I)I"⟩, 8) := ⟨⟨by decide +kernel, by decide +kernel⟩, List.mem_of_getElem? (i := 35) (by decide +kernel), List.mem_of_getElem? (i := 676) (by decide +kernel), List.mem_of_getElem? (i := 677) (by decide +kernel)⟩
theorem lw_p21 : lw_okq (⟨"OvenDays$Village", "draw", "(I)I"⟩, 8) := ⟨⟨by decide +kernel, by decide +kernel⟩, List.mem_of_getElem? (i := 35) (by decide +kernel), List.mem_of_getElem? (i := 680) (by decide +kernel), List.mem_of_getElem? (i := 681) (by decide +kernel)⟩
theorem lw_p22 : lw_okq (⟨"OvenDays$Loaves", "give", "(II)V"⟩, 3) := ⟨⟨by decide +kernel, by decide +kernel⟩, List.mem_of_getElem? (i := 100) (by decide +kernel), List.mem_of_getElem? (i := 715) (by decide +kernel), List.mem_of_getElem? (i := 716) (by decide +kernel)⟩
theorem lw_p23 : lw_okq (⟨"java/lang/Throwable", "fillInStackTrace", "(I)Ljava/lang/Throwable;"⟩, 6) := ⟨⟨by decide +kernel, by decide +kernel⟩, List.mem_of_getElem? (i := 823) (by decide +kernel), List.mem_of_getElem? (i := 821) (by decide +kernel), List.mem_of_getElem? (i := 822) (by decide +kernel)⟩
theorem lw_p24 : lw_okq (⟨"OvenDays", "mixHouseholds", "(J)J"⟩, 5) := ⟨⟨by decide +kernel, by decide +kernel⟩, List.mem_of_getElem? (i := 27) (by decide +kernel), List.mem_of_getElem? (i := 905) (by decide +kernel), List.mem_of_getElem? (i := 906) (by decide +kernel)⟩
theorem lw_p25 : lw_okq (⟨"OvenDays", "mixBatches", "(J)J"⟩, 5) := ⟨⟨by decide +kernel, by decide +kernel⟩, List.mem_of_getElem? (i := 27) (by decide +kernel), List.mem_of_getElem? (i := 931) (by decide +kernel), List.mem_of_getElem? (i := 932) (by decide +kernel)⟩
theorem lw_p26 : lw_okq (⟨"OvenDays", "mixLoaves", "(J)J"⟩, 5) := ⟨⟨by decide +kernel, by decide +kernel⟩, List.mem_of_getElem? (i := 27) (by decide +kernel), List.mem_of_getElem? (i := 948) (by decide +kernel), List.mem_of_getElem? (i := 949) (by decide +kernel)⟩
theorem lw_p27 : lw_okq (⟨"OvenDays", "mixLoads", "(J)J"⟩, 5) := ⟨⟨by decide +kernel, by decide +kernel⟩, List.mem_of_getElem? (i := 27) (by decide +kernel), List.mem_of_getElem? (i := 962) (by decide +kernel), List.mem_of_getElem? (i := 963) (by decide +kernel)⟩
theorem lw_p28 : lw_okq (⟨"OvenDaysModel", "refused", "(I)Z"⟩, 15) := ⟨⟨by decide +kernel, by decide +kernel⟩, List.mem_of_getElem? (i := 1136) (by decide +kernel), List.mem_of_getElem? (i := 1196) (by decide +kernel), List.mem_of_getElem? (i := 1197) (by decide +kernel)⟩
theorem lw_p29 : lw_okq (⟨"OvenDaysModel", "badJoin", "(I)I"⟩, 15) := ⟨⟨by decide +kernel, by decide +kernel⟩, List.mem_of_getElem? (i := 1136) (by decide +kernel), List.mem_of_getElem? (i := 1204) (by decide +kernel), List.mem_of_getElem? (i := 1205) (by decide +kernel)⟩
theorem lw_p30 : lw_okq (⟨"OvenDaysModel", "isTaken", "(II)Z"⟩, 15) := ⟨⟨by decide +kernel, by decide +kernel⟩, List.mem_of_getElem? (i := 1136) (by decide +kernel), List.mem_of_getElem? (i := 1215) (by decide +kernel), List.mem_of_getElem? (i := 1216) (by decide +kernel)⟩
theorem lw_p31 : lw_okq (⟨"OvenDaysModel", "of", "(II)I"⟩, 15) := ⟨⟨by decide +kernel, by decide +kernel⟩, List.mem_of_getElem? (i := 1136) (by decide +kernel), List.mem_of_getElem? (i := 1219) (by decide +kernel), List.mem_of_getElem? (i := 1220) (by decide +kernel)⟩
def lw_privs_2 : List (MethodName × Nat) := [(⟨"OvenDays", "carryOut", "(LOvenDays$Word;III)I"⟩, 5), (⟨"OvenDays", "whyNoCommand", "(LOvenDays$Word;III)I"⟩, 5), (⟨"OvenDays$Village", "bakeLoads", "(LOvenDays$DayPlan;)I"⟩, 8), (⟨"OvenDays$Village", "bakeBatch", "(II)V"⟩, 8), (⟨"OvenDays$Village", "blur", "(I)I"⟩, 8), (⟨"OvenDays$Village", "draw", "(I)I"⟩, 8), (⟨"OvenDays$Loaves", "give", "(II)V"⟩, 3), (⟨"java/lang/Throwable", "fillInStackTrace", "(I)Ljava/lang/Throwable;"⟩, 6), (⟨"OvenDays", "mixHouseholds", "(J)J"⟩, 5), (⟨"OvenDays", "mixBatches", "(J)J"⟩, 5), (⟨"OvenDays", "mixLoaves", "(J)J"⟩, 5), (⟨"OvenDays", "mixLoads", "(J)J"⟩, 5), (⟨"OvenDaysModel", "refused", "(I)Z"⟩, 15), (⟨"OvenDaysModel", "badJoin", "(I)I"⟩, 15), (⟨"OvenDaysModel", "isTaken", "(II)Z"⟩, 15), (⟨"OvenDaysModel", "of", "(II)I"⟩, 15)]
theorem lw_r2 : ∀ q ∈ lw_privs_2, lw_okq q := List.forall_mem_cons.mpr ⟨lw_p16, List.forall_mem_cons.mpr ⟨lw_p17, List.forall_mem_cons.mpr ⟨lw_p18, List.forall_mem_cons.mpr ⟨lw_p19, List.forall_mem_cons.mpr ⟨lw_p20, List.forall_mem_cons.mpr ⟨lw_p21, List.forall_mem_cons.mpr ⟨lw_p22, List.forall_mem_cons.mpr ⟨lw_p23, List.forall_mem_cons.mpr ⟨lw_p24, List.forall_mem_cons.mpr ⟨lw_p25, List.forall_mem_cons.mpr ⟨lw_p26, List.forall_mem_cons.mpr ⟨lw_p27, List.forall_mem_cons.mpr ⟨lw_p28, List.forall_mem_cons.mpr ⟨lw_p29, List.forall_mem_cons.mpr ⟨lw_p30, List.forall_mem_cons.mpr ⟨lw_p31, fun _ h => absurd h List.not_mem_nil⟩⟩⟩⟩⟩⟩⟩⟩⟩⟩⟩⟩⟩⟩⟩⟩
theorem lw_p32 : lw_okq (⟨"OvenDaysModel", "saves", "()V"⟩, 15) := ⟨⟨by decide +kernel, by decide +kernel⟩, List.mem_of_getElem? (i := 1136) (by decide +kernel), List.mem_of_getElem? (i := 1223) (by decide +kernel), List.mem_of_getElem? (i := 1224) (by decide +kernel)⟩
theorem lw_p33 : lw_okq (⟨"OvenDaysModel", "joins", "(I)I"⟩, 15) := ⟨⟨by decide +kernel, by decide +kernel⟩, List.mem_of_getElem? (i := 1136) (by decide +kernel), List.mem_of_getElem? (i := 1227) (by decide +kernel), List.mem_of_getElem? (i := 1228) (by decide +kernel)⟩
theorem lw_p34 : lw_okq (⟨"OvenDaysModel", "lays", "(III)V"⟩, 15) := ⟨⟨by decide +kernel, by decide +kernel⟩, List.mem_of_getElem? (i := 1136) (by decide +kernel), List.mem_of_getElem? (i := 1231) (by decide +kernel), List.mem_of_getElem? (i := 1232) (by decide +kernel)⟩
theorem lw_p35 : lw_okq (⟨"OvenDaysModel", "isHouse", "(I)Z"⟩, 15) := ⟨⟨by decide +kernel, by decide +kernel⟩, List.mem_of_getElem? (i := 1136) (by decide +kernel), List.mem_of_getElem? (i := 1239) (by decide +kernel), List.mem_of_getElem? (i := 1240) (by decide +kernel)⟩
theorem lw_p36 : lw_okq (⟨"OvenDaysModel", "excused", "()I"⟩, 15) := ⟨⟨by decide +kernel, by decide +kernel⟩, List.mem_of_getElem? (i := 1136) (by decide +kernel), List.mem_of_getElem? (i := 1247) (by decide +kernel), List.mem_of_getElem? (i := 1248) (by decide +kernel)⟩
theorem lw_p37 : lw_okq (⟨"OvenDaysModel", "badBatch", "(III)I"⟩, 15) := ⟨⟨by decide +kernel, by decide +kernel⟩, List.mem_of_getElem? (i := 1136) (by decide +kernel), List.mem_of_getElem? (i := 1255) (by decide +kernel), List.mem_of_getElem? (i := 1256) (by decide +kernel)⟩
theorem lw_p38 : lw_okq (⟨"OvenDaysModel", "brings", "(III)I"⟩, 15) := ⟨⟨by decide +kernel, by decide +kernel⟩, List.mem_of_getElem? (i := 1136) (by decide +kernel), List.mem_of_getElem? (i := 1259) (by decide +kernel), List.mem_of_getElem? (i := 1260) (by decide +kernel)⟩
theorem lw_p39 : lw_okq (⟨"OvenDaysModel", "dropsBatch", "(I)V"⟩, 15) := ⟨⟨by decide +kernel, by decide +kernel⟩, List.mem_of_getElem? (i := 1136) (by decide +kernel), List.mem_of_getElem? (i := 1267) (by decide +kernel), List.mem_of_getElem? (i := 1268) (by decide +kernel)⟩
theorem lw_p40 : lw_okq (⟨"OvenDaysModel", "badDay", "(I)I"⟩, 15) := ⟨⟨by decide +kernel, by decide +kernel⟩, List.mem_of_getElem? (i := 1136) (by decide +kernel), List.mem_of_getElem? (i := 1279) (by decide +kernel), List.mem_of_getElem? (i := 1280) (by decide +kernel)⟩
theorem lw_p41 : lw_okq (⟨"OvenDaysModel", "dayWith", "(I)I"⟩, 15) := ⟨⟨by decide +kernel, by decide +kernel⟩, List.mem_of_getElem? (i := 1136) (by decide +kernel), List.mem_of_getElem? (i := 1286) (by decide +kernel), List.mem_of_getElem? (i := 1287) (by decide +kernel)⟩
theorem lw_p42 : lw_okq (⟨"OvenDaysModel", "next", "()I"⟩, 15) := ⟨⟨by decide +kernel, by decide +kernel⟩, List.mem_of_getElem? (i := 1136) (by decide +kernel), List.mem_of_getElem? (i := 1290) (by decide +kernel), List.mem_of_getElem? (i := 1291) (by decide +kernel)⟩
theorem lw_p43 : lw_okq (⟨"OvenDaysModel", "dueOf", "(I)J"⟩, 15) := ⟨⟨by decide +kernel, by decide +kernel⟩, List.mem_of_getElem? (i := 1136) (by decide +kernel), List.mem_of_getElem? (i := 1294) (by decide +kernel), List.mem_of_getElem? (i := 1295) (by decide +kernel)⟩
theorem lw_p44 : lw_okq (⟨"OvenDaysModel", "sum", "(I)I"⟩, 15) := ⟨⟨by decide +kernel, by decide +kernel⟩, List.mem_of_getElem? (i := 1136) (by decide +kernel), List.mem_of_getElem? (i := 1298) (by decide +kernel), List.mem_of_getElem? (i := 1299) (by decide +kernel)⟩
theorem lw_p45 : lw_okq (⟨"OvenDaysModel", "kindNow", "()I"⟩, 15) := ⟨⟨by decide +kernel, by decide +kernel⟩, List.mem_of_getElem? (i := 1136) (by decide +kernel), List.mem_of_getElem? (i := 1302) (by decide +kernel), List.mem_of_getElem? (i := 1303) (by decide +kernel)⟩
theorem lw_p46 : lw_okq (⟨"OvenDaysModel", "waits", "(I)Z"⟩, 15) := ⟨⟨by decide +kernel, by decide +kernel⟩, List.mem_of_getElem? (i := 1136) (by decide +kernel), List.mem_of_getElem? (i := 1306) (by decide +kernel), List.mem_of_getElem? (i := 1307) (by decide +kernel)⟩
theorem lw_p47 : lw_okq (⟨"OvenDaysModel", "falls", "(I)V"⟩, 15) := ⟨⟨by decide +kernel, by decide +kernel⟩, List.mem_of_getElem? (i := 1136) (by decide +kernel), List.mem_of_getElem? (i := 1316) (by decide +kernel), List.mem_of_getElem? (i := 1317) (by decide +kernel)⟩
def lw_privs_3 : List (MethodName × Nat) := [(⟨"OvenDaysModel", "saves", "()V"⟩, 15), (⟨"OvenDaysModel", "joins", "(I)I"⟩, 15), (⟨"OvenDaysModel", "lays", "(III)V"⟩, 15), (⟨"OvenDaysModel", "isHouse", "(I)Z"⟩, 15), (⟨"OvenDaysModel", "excused", "()I"⟩, 15), (⟨"OvenDaysModel", "badBatch", "(III)I"⟩, 15), (⟨"OvenDaysModel", "brings", "(III)I"⟩, 15), (⟨"OvenDaysModel", "dropsBatch", "(I)V"⟩, 15), (⟨"OvenDaysModel", "badDay", "(I)I"⟩, 15), (⟨"OvenDaysModel", "dayWith", "(I)I"⟩, 15), (⟨"OvenDaysModel", "next", "()I"⟩, 15), (⟨"OvenDaysModel", "dueOf", "(I)J"⟩, 15), (⟨"OvenDaysModel", "sum", "(I)I"⟩, 15), (⟨"OvenDaysModel", "kindNow", "()I"⟩, 15), (⟨"OvenDaysModel", "waits", "(I)Z"⟩, 15), (⟨"OvenDaysModel", "falls", "(I)V"⟩, 15)]
theorem lw_r3 : ∀ q ∈ lw_privs_3, lw_okq q := List.forall_mem_cons.mpr ⟨lw_p32, List.forall_mem_cons.mpr ⟨lw_p33, List.forall_mem_cons.mpr ⟨lw_p34, List.forall_mem_cons.mpr ⟨lw_p35, List.forall_mem_cons.mpr ⟨lw_p36, List.forall_mem_cons.mpr ⟨lw_p37, List.forall_mem_cons.mpr ⟨lw_p38, List.forall_mem_cons.mpr ⟨lw_p39, List.forall_mem_cons.mpr ⟨lw_p40, List.forall_mem_cons.mpr ⟨lw_p41, List.forall_mem_cons.mpr ⟨lw_p42, List.forall_mem_cons.mpr ⟨lw_p43, List.forall_mem_cons.mpr ⟨lw_p44, List.forall_mem_cons.mpr ⟨lw_p45, List.forall_mem_cons.mpr ⟨lw_p46, List.forall_mem_cons.mpr ⟨lw_p47, fun _ h => absurd h List.not_mem_nil⟩⟩⟩⟩⟩⟩⟩⟩⟩⟩⟩⟩⟩⟩⟩⟩
theorem lw_p48 : lw_okq (⟨"OvenDaysModel", "bakes", "(II)V"⟩, 15) := ⟨⟨by decide +kernel, by decide +kernel⟩, List.mem_of_getElem? (i := 1136) (by decide +kernel), List.mem_of_getElem? (i := 1320) (by decide +kernel), List.mem_of_getElem? (i := 1321) (by decide +kernel)⟩
theorem lw_p49 : lw_okq (⟨"OvenDaysModel", "fills", "(II)I"⟩, 15) := ⟨⟨by decide +kernel, by decide +kernel⟩, List.mem_of_getElem? (i := 1136) (by decide +kernel), List.mem_of_getElem? (i := 1324) (by decide +kernel), List.mem_of_getElem? (i := 1325) (by decide +kernel)⟩
theorem lw_p50 : lw_okq (⟨"OvenDaysModel", "comesOut", "(IIZ)V"⟩, 15) := ⟨⟨by decide +kernel, by decide +kernel⟩, List.mem_of_getElem? (i := 1136) (by decide +kernel), List.mem_of_getElem? (i := 1331) (by decide +kernel), List.mem_of_getElem? (i := 1332) (by decide +kernel)⟩
theorem lw_p51 : lw_okq (⟨"OvenDaysModel", "draw", "(I)I"⟩, 15) := ⟨⟨by decide +kernel, by decide +kernel⟩, List.mem_of_getElem? (i := 1136) (by decide +kernel), List.mem_of_getElem? (i := 1338) (by decide +kernel), List.mem_of_getElem? (i := 1339) (by decide +kernel)⟩
theorem lw_p52 : lw_okq (⟨"OvenDaysModel", "sorts", "(II)V"⟩, 15) := ⟨⟨by decide +kernel, by decide +kernel⟩, List.mem_of_getElem? (i := 1136) (by decide +kernel), List.mem_of_getElem? (i := 1349) (by decide +kernel), List.mem_of_getElem? (i := 1350) (by decide +kernel)⟩
theorem lw_p53 : lw_okq (⟨"OvenDaysModel", "firstKept", "()I"⟩, 15) := ⟨⟨by decide +kernel, by decide +kernel⟩, List.mem_of_getElem? (i := 1136) (by decide +kernel), List.mem_of_getElem? (i := 1353) (by decide +kernel), List.mem_of_getElem? (i := 1354) (by decide +kernel)⟩
theorem lw_p54 : lw_okq (⟨"OvenDaysModel", "loafOf", "(II)I"⟩, 15) := ⟨⟨by decide +kernel, by decide +kernel⟩, List.mem_of_getElem? (i := 1136) (by decide +kernel), List.mem_of_getElem? (i := 1357) (by decide +kernel), List.mem_of_getElem? (i := 1358) (by decide +kernel)⟩
theorem lw_p55 : lw_okq (⟨"OvenDaysModel", "meant", "(II)I"⟩, 15) := ⟨⟨by decide +kernel, by decide +kernel⟩, List.mem_of_getElem? (i := 1136) (by decide +kernel), List.mem_of_getElem? (i := 1361) (by decide +kernel), List.mem_of_getElem? (i := 1362) (by decide +kernel)⟩
theorem lw_p56 : lw_okq (⟨"OvenDaysModel", "claims", "(I)I"⟩, 15) := ⟨⟨by decide +kernel, by decide +kernel⟩, List.mem_of_getElem? (i := 1136) (by decide +kernel), List.mem_of_getElem? (i := 1369) (by decide +kernel), List.mem_of_getElem? (i := 1370) (by decide +kernel)⟩
theorem lw_p57 : lw_okq (⟨"OvenDaysModel", "balanceOf", "(II)I"⟩, 15) := ⟨⟨by decide +kernel, by decide +kernel⟩, List.mem_of_getElem? (i := 1136) (by decide +kernel), List.mem_of_getElem? (i := 1373) (by decide +kernel), List.mem_of_getElem? (i := 1374) (by decide +kernel)⟩
theorem lw_p58 : lw_okq (⟨"OvenDaysModel", "returns", "(I)I"⟩, 15) := ⟨⟨by decide +kernel, by decide +kernel⟩, List.mem_of_getElem? (i := 1136) (by decide +kernel), List.mem_of_getElem? (i := 1381) (by decide +kernel), List.mem_of_getElem? (i := 1382) (by decide +kernel)⟩
theorem lw_p59 : lw_okq (⟨"OvenDaysModel", "gives", "()I"⟩, 15) := ⟨⟨by decide +kernel, by decide +kernel⟩, List.mem_of_getElem? (i := 1136) (by decide +kernel), List.mem_of_getElem? (i := 1389) (by decide +kernel), List.mem_of_getElem? (i := 1390) (by decide +kernel)⟩
theorem lw_p60 : lw_okq (⟨"OvenDaysModel", "tellHouse", "(II)I"⟩, 15) := ⟨⟨by decide +kernel, by decide +kernel⟩, List.mem_of_getElem? (i := 1136) (by decide +kernel), List.mem_of_getElem? (i := 1397) (by decide +kernel), List.mem_of_getElem? (i := 1398) (by decide +kernel)⟩
theorem lw_p61 : lw_okq (⟨"OvenDaysModel", "kept", "(IZZ)I"⟩, 15) := ⟨⟨by decide +kernel, by decide +kernel⟩, List.mem_of_getElem? (i := 1136) (by decide +kernel), List.mem_of_getElem? (i := 1401) (by decide +kernel), List.mem_of_getElem? (i := 1402) (by decide +kernel)⟩
theorem lw_p62 : lw_okq (⟨"OvenDaysModel", "placeOf", "(I)I"⟩, 15) := ⟨⟨by decide +kernel, by decide +kernel⟩, List.mem_of_getElem? (i := 1136) (by decide +kernel), List.mem_of_getElem? (i := 1421) (by decide +kernel), List.mem_of_getElem? (i := 1422) (by decide +kernel)⟩
theorem lw_p63 : lw_okq (⟨"OvenDaysModel", "behind", "(I)I"⟩, 15) := ⟨⟨by decide +kernel, by decide +kernel⟩, List.mem_of_getElem? (i := 1136) (by decide +kernel), List.mem_of_getElem? (i := 1425) (by decide +kernel), List.mem_of_getElem? (i := 1426) (by decide +kernel)⟩
def lw_privs_4 : List (MethodName × Nat) := [(⟨"OvenDaysModel", "bakes", "(II)V"⟩, 15), (⟨"OvenDaysModel", "fills", "(II)I"⟩, 15), (⟨"OvenDaysModel", "comesOut", "(IIZ)V"⟩, 15), (⟨"OvenDaysModel", "draw", "(I)I"⟩, 15), (⟨"OvenDaysModel", "sorts", "(II)V"⟩, 15), (⟨"OvenDaysModel", "firstKept", "()I"⟩, 15), (⟨"OvenDaysModel", "loafOf", "(II)I"⟩, 15), (⟨"OvenDaysModel", "meant", "(II)I"⟩, 15), (⟨"OvenDaysModel", "claims", "(I)I"⟩, 15), (⟨"OvenDaysModel", "balanceOf", "(II)I"⟩, 15), (⟨"OvenDaysModel", "returns", "(I)I"⟩, 15), (⟨"OvenDaysModel", "gives", "()I"⟩, 15), (⟨"OvenDaysModel", "tellHouse", "(II)I"⟩, 15), (⟨"OvenDaysModel", "kept", "(IZZ)I"⟩, 15), (⟨"OvenDaysModel", "placeOf", "(I)I"⟩, 15), (⟨"OvenDaysModel", "behind", "(I)I"⟩, 15)]
theorem lw_r4 : ∀ q ∈ lw_privs_4, lw_okq q := List.forall_mem_cons.mpr ⟨lw_p48, List.forall_mem_cons.mpr ⟨lw_p49, List.forall_mem_cons.mpr ⟨lw_p50, List.forall_mem_cons.mpr ⟨lw_p51, List.forall_mem_cons.mpr ⟨lw_p52, List.forall_mem_cons.mpr ⟨lw_p53, List.forall_mem_cons.mpr ⟨lw_p54, List.forall_mem_cons.mpr ⟨lw_p55, List.forall_mem_cons.mpr ⟨lw_p56, List.forall_mem_cons.mpr ⟨lw_p57, List.forall_mem_cons.mpr ⟨lw_p58, List.forall_mem_cons.mpr ⟨lw_p59, List.forall_mem_cons.mpr ⟨lw_p60, List.forall_mem_cons.mpr ⟨lw_p61, List.forall_mem_cons.mpr ⟨lw_p62, List.forall_mem_cons.mpr ⟨lw_p63, fun _ h => absurd h List.not_mem_nil⟩⟩⟩⟩⟩⟩⟩⟩⟩⟩⟩⟩⟩⟩⟩⟩
theorem lw_p64 : lw_okq (⟨"OvenDaysModel", "tellWhole", "(I)I"⟩, 15) := ⟨⟨by decide +kernel, by decide +kernel⟩, List.mem_of_getElem? (i := 1136) (by decide +kernel), List.mem_of_getElem? (i := 1441) (by decide +kernel), List.mem_of_getElem? (i := 1442) (by decide +kernel)⟩
theorem lw_p65 : lw_okq (⟨"OvenDaysModel", "keptWith", "(Z)I"⟩, 15) := ⟨⟨by decide +kernel, by decide +kernel⟩, List.mem_of_getElem? (i := 1136) (by decide +kernel), List.mem_of_getElem? (i := 1445) (by decide +kernel), List.mem_of_getElem? (i := 1446) (by decide +kernel)⟩
theorem lw_p66 : lw_okq (⟨"OvenDaysModel", "doughOf", "(I)I"⟩, 15) := ⟨⟨by decide +kernel, by decide +kernel⟩, List.mem_of_getElem? (i := 1136) (by decide +kernel), List.mem_of_getElem? (i := 1453) (by decide +kernel), List.mem_of_getElem? (i := 1454) (by decide +kernel)⟩
theorem lw_p67 : lw_okq (⟨"OvenDaysModel", "keeps", "()V"⟩, 15) := ⟨⟨by decide +kernel, by decide +kernel⟩, List.mem_of_getElem? (i := 1136) (by decide +kernel), List.mem_of_getElem? (i := 1457) (by decide +kernel), List.mem_of_getElem? (i := 1458) (by decide +kernel)⟩
theorem lw_p68 : lw_okq (⟨"OvenDaysModel", "takesBack", "()V"⟩, 15) := ⟨⟨by decide +kernel, by decide +kernel⟩, List.mem_of_getElem? (i := 1136) (by decide +kernel), List.mem_of_getElem? (i := 1461) (by decide +kernel), List.mem_of_getElem? (i := 1462) (by decide +kernel)⟩
theorem lw_p69 : lw_okq (⟨"OvenDaysModel", "likes", "()I"⟩, 15) := ⟨⟨by decide +kernel, by decide +kernel⟩, List.mem_of_getElem? (i := 1136) (by decide +kernel), List.mem_of_getElem? (i := 1473) (by decide +kernel), List.mem_of_getElem? (i := 1474) (by decide +kernel)⟩
theorem lw_p70 : lw_okq (⟨"OvenDaysModel", "skips", "()Z"⟩, 15) := ⟨⟨by decide +kernel, by decide +kernel⟩, List.mem_of_getElem? (i := 1136) (by decide +kernel), List.mem_of_getElem? (i := 1496) (by decide +kernel), List.mem_of_getElem? (i := 1497) (by decide +kernel)⟩
theorem lw_p71 : lw_okq (⟨"OvenDaysModel", "isAt", "(II)Z"⟩, 15) := ⟨⟨by decide +kernel, by decide +kernel⟩, List.mem_of_getElem? (i := 1136) (by decide +kernel), List.mem_of_getElem? (i := 1500) (by decide +kernel), List.mem_of_getElem? (i := 1501) (by decide +kernel)⟩
theorem lw_p72 : lw_okq (⟨"OvenDaysModel", "reads", "()Z"⟩, 15) := ⟨⟨by decide +kernel, by decide +kernel⟩, List.mem_of_getElem? (i := 1136) (by decide +kernel), List.mem_of_getElem? (i := 1504) (by decide +kernel), List.mem_of_getElem? (i := 1505) (by decide +kernel)⟩
theorem lw_p73 : lw_okq (⟨"OvenDaysModel", "wordFrom", "(I)I"⟩, 15) := ⟨⟨by decide +kernel, by decide +kernel⟩, List.mem_of_getElem? (i := 1136) (by decide +kernel), List.mem_of_getElem? (i := 1508) (by decide +kernel), List.mem_of_getElem? (i := 1509) (by decide +kernel)⟩
theorem lw_p74 : lw_okq (⟨"OvenDaysModel", "readsNumber", "()I"⟩, 15) := ⟨⟨by decide +kernel, by decide +kernel⟩, List.mem_of_getElem? (i := 1136) (by decide +kernel), List.mem_of_getElem? (i := 1515) (by decide +kernel), List.mem_of_getElem? (i := 1516) (by decide +kernel)⟩
theorem lw_p75 : lw_okq (⟨"OvenDaysModel", "does", "()I"⟩, 15) := ⟨⟨by decide +kernel, by decide +kernel⟩, List.mem_of_getElem? (i := 1136) (by decide +kernel), List.mem_of_getElem? (i := 1519) (by decide +kernel), List.mem_of_getElem? (i := 1520) (by decide +kernel)⟩
theorem lw_p76 : lw_okq (⟨"OvenDaysModel", "mix", "(J)V"⟩, 15) := ⟨⟨by decide +kernel, by decide +kernel⟩, List.mem_of_getElem? (i := 1136) (by decide +kernel), List.mem_of_getElem? (i := 1532) (by decide +kernel), List.mem_of_getElem? (i := 1533) (by decide +kernel)⟩
def lw_privs_5 : List (MethodName × Nat) := [(⟨"OvenDaysModel", "tellWhole", "(I)I"⟩, 15), (⟨"OvenDaysModel", "keptWith", "(Z)I"⟩, 15), (⟨"OvenDaysModel", "doughOf", "(I)I"⟩, 15), (⟨"OvenDaysModel", "keeps", "()V"⟩, 15), (⟨"OvenDaysModel", "takesBack", "()V"⟩, 15), (⟨"OvenDaysModel", "likes", "()I"⟩, 15), (⟨"OvenDaysModel", "skips", "()Z"⟩, 15), (⟨"OvenDaysModel", "isAt", "(II)Z"⟩, 15), (⟨"OvenDaysModel", "reads", "()Z"⟩, 15), (⟨"OvenDaysModel", "wordFrom", "(I)I"⟩, 15), (⟨"OvenDaysModel", "readsNumber", "()I"⟩, 15), (⟨"OvenDaysModel", "does", "()I"⟩, 15), (⟨"OvenDaysModel", "mix", "(J)V"⟩, 15)]
theorem lw_r5 : ∀ q ∈ lw_privs_5, lw_okq q := List.forall_mem_cons.mpr ⟨lw_p64, List.forall_mem_cons.mpr ⟨lw_p65, List.forall_mem_cons.mpr ⟨lw_p66, List.forall_mem_cons.mpr ⟨lw_p67, List.forall_mem_cons.mpr ⟨lw_p68, List.forall_mem_cons.mpr ⟨lw_p69, List.forall_mem_cons.mpr ⟨lw_p70, List.forall_mem_cons.mpr ⟨lw_p71, List.forall_mem_cons.mpr ⟨lw_p72, List.forall_mem_cons.mpr ⟨lw_p73, List.forall_mem_cons.mpr ⟨lw_p74, List.forall_mem_cons.mpr ⟨lw_p75, List.forall_mem_cons.mpr ⟨lw_p76, fun _ h => absurd h List.not_mem_nil⟩⟩⟩⟩⟩⟩⟩⟩⟩⟩⟩⟩⟩
def lw_privs : List (MethodName × Nat) := lw_privs_1 ++ (lw_privs_2 ++ (lw_privs_3 ++ (lw_privs_4 ++ (lw_privs_5))))
def lw_tbl : List Cond := k2_sels lw_privs ++ tables_1
theorem lw_privs_ok : ∀ q ∈ lw_privs, lw_okq q := by
  show ∀ q ∈ lw_privs_1 ++ (lw_privs_2 ++ (lw_privs_3 ++ (lw_privs_4 ++ (lw_privs_5)))), lw_okq q
  exact List.forall_mem_append.mpr ⟨lw_r1, List.forall_mem_append.mpr ⟨lw_r2, List.forall_mem_append.mpr ⟨lw_r3, List.forall_mem_append.mpr ⟨lw_r4, lw_r5⟩⟩⟩⟩
-- ===== end of PART A; then your names; then what follows =====
end
section
def va_AOA (ty : FieldType) (U : State) : Prop := (Cond.arrayOver (.array ty)).before #[] U = true
theorem va_AOA.of {ty : FieldType} {A : Array Value} {U : State} (h : (Cond.arrayOver (.array ty)).before A U = true) : va_AOA ty U := h
theorem va_AOA.use {ty : FieldType} {A : Array Value} {U : State} (h : va_AOA ty U) : (Cond.arrayOver (.array ty)).before A U = true := h

/-! ===== BEGIN words of one list among another's, by their places ===== -/
theorem goodIn_r {big : List Cond} (ws : List Cond) (ps : List Nat) (hp : ws = ps.filterMap (fun i => big[i]?)) (h : ws.all goodWord = true) : GoodIn big ws := by
  intro w hw
  have h1 := List.all_eq_true.mp h w hw
  rw [hp] at hw
  obtain ⟨i, -, hi⟩ := List.mem_filterMap.mp hw
  have hm : w ∈ big := by first | exact List.mem_of_getElem? hi | exact List.getElem?_mem hi
  exact ⟨hm, good_of_word h1⟩
theorem goodIn_app {big a b : List Cond} (ha : GoodIn big a) (hb : GoodIn big b) : GoodIn big (a ++ b) := fun w h => (List.mem_append.mp h).elim (ha w) (hb w)
theorem goodIn_ca {big a b : List Cond} {c : Cond} (ha : GoodIn big (c :: a)) (hb : GoodIn big b) : GoodIn big (c :: (a ++ b)) := fun w h => (List.mem_cons.mp h).elim (fun e => ha w (List.mem_cons.mpr (Or.inl e))) (fun h => (List.mem_append.mp h).elim (fun h => ha w (List.mem_cons.mpr (Or.inr h))) (hb w))
theorem goodIn_sub {big ws : List Cond} (hm : ∀ w ∈ ws, w ∈ big) (h : ws.all goodWord = true) : GoodIn big ws := fun w hw => ⟨hm w hw, good_of_word (List.all_eq_true.mp h w hw)⟩
/-! ===== END ===== -/

/-! ===== BEGIN new T[n][m]: the outer array a place, the inner ones among the pooled ===== -/
/-- f, but v at every address of l -/
def vr_up {α : Type} (f : Nat → α) (l : List Nat) (v : α) : Nat → α := fun a => if a ∈ l then v else f a
theorem vr_up_in {α : Type} {f : Nat → α} {l : List Nat} {v : α} {a : Nat} (h : a ∈ l) : vr_up f l v a = v := if_pos h
theorem vr_up_ne {α : Type} {f : Nat → α} {l : List Nat} {v : α} {a : Nat} (h : a ∉ l) : vr_up f l v a = f a := if_neg h
theorem vr_rows {L l : List Nat} {f : Nat → va_E} {e : va_E} (h : ∀ a, a ∈ l → a ∉ L) : va_pl L f ++ l.map (fun a => (a, e)) = va_pl (L ++ l) (vr_up f l e) := by
  unfold va_pl
  rw [List.map_append]
  congr 1
  · apply List.map_congr_left
    intro a ha
    rw [vr_up_ne (fun q => h a q ha)]
  · apply List.map_congr_left
    intro a ha
    rw [vr_up_in ha]
theorem vr_lay {X rows : va_W} {x : Nat × va_E} {pl : va_W} {D : va_G} {cl : List vw_C} {H : Heap} (hP : va_P D cl (((X ++ pl) ++ [x]) ++ rows) H) : va_P D cl ((X ++ [x]) ++ (pl ++ rows)) H := by
  rw [List.append_assoc (X ++ pl)] at hP
  have h := va_P.swap hP
  rw [← List.append_assoc X] at h
  have h2 := va_P.swap h
  rw [List.append_assoc (X ++ [x])] at h2
  exact h2
theorem vr_layD {X rows : va_W} {x : Nat × va_E} {pl : va_W} {A : Nat → Prop} (hD : va_D A (((X ++ pl) ++ [x]) ++ rows)) : va_D A ((X ++ [x]) ++ (pl ++ rows)) := by
  rw [List.append_assoc (X ++ pl)] at hD
  have h := va_D.swap hD
  rw [← List.append_assoc X] at h
  have h2 := va_D.swap h
  rw [List.append_assoc (X ++ [x])] at h2
  exact h2
theorem vr_outer (c : ClassId) (N h0 : Nat) : ∀ i : Nat, Jvm.Free.Multi.outerC c N h0 i = arrV c N (fun j => va_rf (if j < i then some (h0 + 1 + j) else none))
  | 0 => by
    show ({ cls := c, slots := Array.replicate N .null, vm := .none } : Cell) = _
    rw [arrV_new]
    refine congrArg (arrV c N) (funext fun j => ?_)
    simp [va_rf]
  | i + 1 => by
    show (Jvm.Free.Multi.outerC c N h0 i).setSlot i (.ref (h0 + 1 + i)) = _
    rw [vr_outer c N h0 i, arrV_store]
    refine congrArg (arrV c N) (funext fun j => ?_)
    by_cases e : j = i
    · subst e
      simp [updV, va_rf]
    · by_cases h : j < i
      · simp [updV, e, h, Nat.lt_succ_of_lt h]
      · simp [updV, e, h, show ¬ j < i + 1 by omega]
section VGM
variable {p : Program} {l : Launch} {e : Env} {R : Room} {s : State} {m : MethodId} {args : Array Value} {below : List Frame} {meth : Method} {c : Code} {H : Heap} {locs : List Loc} {cells slots : Nat} {Q : State → Prop}
variable {cc : ByteArray} {pc : Nat} {ls : Array Slot} {rest : List Value} {D : va_G} {cl : List vw_C} {A : Nat → Prop} {a : Nat} {tys : List (ClassId × FieldType)} {ws : va_W} {H0 : Heap}
theorem va_mna {X : va_W} {L : List Nat} {f : Nat → va_E} {cc : ByteArray} (hexec : p.tables.exec = Jvm.exec) (hb : c.code = cc) {own : String} {index : Nat} {ty : FieldType} {cy : ClassId} (hown : s.vm.findClass own = some m.cls) (hclink : (Cond.classLink own index ("[" ++ (FieldType.array ty).toString)).before args s = true) (hover : va_AOA ty s) (harr : (Cond.arrayClass ty).before args s = true) (hcy : s.vm.findClass (FieldType.array ty).toString = some cy)
    (hK : va_K D cl tys s) (hP : va_P D cl (X ++ va_pl L f) H) (hD : va_D A (X ++ va_pl L f)) (hS : va_S A H0 H locs) (hA : ∀ q, H0.size ≤ q → A q) {n k : Int32} {N' K' : Nat} {z : vp_A} (hn : ¬ n < 0) (hk : ¬ k < 0) (hN : n.toNatClampNeg = N') (hM : k.toNatClampNeg = K')
    (hb1 : N' * 4 ≤ 536870912) (hb2 : K' * componentBytes ty ≤ 536870912) (hb3 : K' ≤ 536870912) (hdf : fits ty (defaultValue ty) = true) (hdd : (defaultValue ty).isDefault = true) (hcells : cells + (1 + N') ≤ R.cells) (hslots : slots + (N' + N' * K') ≤ R.slots) (hz : ∀ c : ClassId, Jvm.Free.Multi.innerC c K' (defaultValue ty) = vp_cell c z) (hdg : decode cc pc = .ok (.multianewarray index 2, 4))
    (kk : ∀ (q : Nat) (r : Nat → Nat) (cA : ClassId) (H1 : Heap), (∀ i j : Nat, i < N' → j < N' → r i = r j → i = j) → (∀ i : Nat, i < N' → r i ∉ L) → va_K D cl (tys ++ [(cA, .array ty)]) s →
      va_P D cl ((X ++ [(q, .inl (cA, N', .inr (.inr (.inr (.inr (fun i => if i < N' then some (r i) else none))))))]) ++ va_pl (L ++ (List.range N').map r) (vr_up f ((List.range N').map r) (.inl (cy, z)))) H1 → va_D A ((X ++ [(q, .inl (cA, N', .inr (.inr (.inr (.inr (fun i => if i < N' then some (r i) else none))))))]) ++ va_pl (L ++ (List.range N').map r) (vr_up f ((List.range N').map r) (.inl (cy, z)))) → va_S A H0 H1 locs →
      W p l e R s m args below meth c H1 locs (cells + 1 + N') (slots + N' + N' * K') Q (F0 m (pc + 4) ls (.ref q :: rest))) : W p l e R s m args below meth c H locs cells slots Q (F0 m pc ls (.int k :: .int n :: rest)) := by
  subst hN
  subst hM
  intro T hT Xs
  obtain ⟨vm₁, cA, comp, -, fA, fC, hO, -, X', step⟩ := Xs.multianewarray2F hexec hown hclink (va_AOA.use hover) harr (g := F0 m pc ls (.int k :: .int n :: rest)) rfl (by rw [hb]; exact hdg) rfl hn hk hb1 hb2 hb3 hdf hdd hcells hslots
  have ec : some cy = some comp := hcy.symm.trans fC
  cases ec
  generalize hF : Jvm.Free.Multi.fill (T.setVm vm₁) cA cy n.toNatClampNeg k.toNatClampNeg (defaultValue ty) n.toNatClampNeg = F at X' step
  have hTh : (T.setVm vm₁).heap = H := hT
  obtain ⟨f1, f2, -, -⟩ := Jvm.Free.Multi.fill_facts (T.setVm vm₁) cA cy n.toNatClampNeg k.toNatClampNeg (defaultValue ty) n.toNatClampNeg
  rw [hF, hTh] at f1 f2
  have hold : ∀ x : Nat, x < H.size → F.heap[x]? = H[x]? := fun x hx => by
    have := Jvm.Free.Multi.fill_old (T.setVm vm₁) cA cy n.toNatClampNeg k.toNatClampNeg (defaultValue ty) (a := x) (by rw [hTh]; exact hx) n.toNatClampNeg
    rw [hF, hTh] at this
    exact this
  have hrow : ∀ j : Nat, j < n.toNatClampNeg → F.heap[H.size + 1 + j]? = some (vp_cell cy z) := fun j hj => by
    have := Jvm.Free.Multi.fill_inner (T.setVm vm₁) cA cy n.toNatClampNeg k.toNatClampNeg (defaultValue ty) n.toNatClampNeg j hj
    rw [hF, hTh, hz] at this
    exact this
  have hout : Jvm.Free.Multi.outerC cA n.toNatClampNeg H.size n.toNatClampNeg = vp_cell cA (n.toNatClampNeg, .inr (.inr (.inr (.inr (fun i => if i < n.toNatClampNeg then some (H.size + 1 + i) else none))))) := by
    rw [vp_cell_q]
    exact vr_outer cA n.toNatClampNeg H.size n.toNatClampNeg
  rw [hout] at f2
  have hlt : ∀ a, a ∈ L → a < H.size := fun a ha => by
    obtain ⟨k9, hk9⟩ := va_pl_get (X := X) (f := f) ha
    exact (hP k9 _ hk9).lt
  have hnl : ∀ i : Nat, i < n.toNatClampNeg → H.size + 1 + i ∉ L := fun i _ h => by
    have := hlt _ h
    omega
  have hnm : ∀ a, a ∈ (List.range n.toNatClampNeg).map (fun i => H.size + 1 + i) → a ∉ L := fun a ha h => by
    obtain ⟨i, -, rfl⟩ := List.mem_map.mp ha
    have := hlt _ h
    omega
  have hP0 : va_P D cl (X ++ va_pl L f) F.heap := hP.kept (fun k9 x hx => hold x.1 ((hP k9 x hx).lt))
  have hP1 : va_P D cl ((X ++ va_pl L f) ++ [(H.size, .inl (cA, n.toNatClampNeg, .inr (.inr (.inr (.inr (fun i => if i < n.toNatClampNeg then some (H.size + 1 + i) else none))))))]) F.heap := hP0.app (fun k9 x hx => by
    have h0 : k9 < 1 := (List.getElem?_eq_some_iff.mp hx).1
    rw [show k9 = 0 by omega] at hx
    cases hx
    exact f2)
  have hP2 : va_P D cl (((X ++ va_pl L f) ++ [(H.size, .inl (cA, n.toNatClampNeg, .inr (.inr (.inr (.inr (fun i => if i < n.toNatClampNeg then some (H.size + 1 + i) else none))))))]) ++ ((List.range n.toNatClampNeg).map (fun i => H.size + 1 + i)).map (fun a => (a, .inl (cy, z)))) F.heap := hP1.app (fun k9 x hx => by
    obtain ⟨a, ha, rfl⟩ := List.mem_map.mp (List.mem_of_getElem? hx)
    obtain ⟨i, hi, rfl⟩ := List.mem_map.mp ha
    exact hrow i (List.mem_range.mp hi))
  have hD2 : va_D A (((X ++ va_pl L f) ++ [(H.size, .inl (cA, n.toNatClampNeg, .inr (.inr (.inr (.inr (fun i => if i < n.toNatClampNeg then some (H.size + 1 + i) else none))))))]) ++ ((List.range n.toNatClampNeg).map (fun i => H.size + 1 + i)).map (fun a => (a, .inl (cy, z)))) := by
    have hD1 := hD.push (e := .inl (cA, n.toNatClampNeg, .inr (.inr (.inr (.inr (fun i => if i < n.toNatClampNeg then some (H.size + 1 + i) else none)))))) hP rfl (hA _ hS.1)
    generalize hW1 : (X ++ va_pl L f) ++ [(H.size, .inl (cA, n.toNatClampNeg, .inr (.inr (.inr (.inr (fun i => if i < n.toNatClampNeg then some (H.size + 1 + i) else none))))))] = W1 at hD1 hP1 ⊢
    have hle : ∀ (k9 : Nat) (x : Nat × va_E), W1[k9]? = some x → x.1 ≤ H.size := fun k9 x hx => by
      rw [← hW1] at hx
      by_cases hl : k9 < (X ++ va_pl L f).length
      · rw [List.getElem?_append_left hl] at hx
        exact Nat.le_of_lt ((hP k9 x hx).lt)
      · rw [List.getElem?_append_right (by omega)] at hx
        have h0 : k9 - (X ++ va_pl L f).length < 1 := (List.getElem?_eq_some_iff.mp hx).1
        rw [show k9 - (X ++ va_pl L f).length = 0 by omega] at hx
        cases hx
        exact Nat.le_refl _
    have hr : ∀ (k9 : Nat) (x : Nat × va_E), (((List.range n.toNatClampNeg).map (fun i => H.size + 1 + i)).map (fun a => ((a, .inl (cy, z)) : Nat × va_E)))[k9]? = some x → x.1 = H.size + 1 + k9 := fun k9 x hx => by
      rw [List.getElem?_map, List.getElem?_map] at hx
      by_cases h9 : k9 < n.toNatClampNeg
      · rw [List.getElem?_range h9] at hx
        cases hx
        rfl
      · have hn0 : (List.range n.toNatClampNeg)[k9]? = none := List.getElem?_eq_none (by rw [List.length_range]; omega)
        rw [hn0] at hx
        cases hx
    refine ⟨fun i j x y hi hj hxy => ?_, fun k9 x hx => ?_⟩
    · by_cases h1 : i < W1.length <;> by_cases h2 : j < W1.length
      · rw [List.getElem?_append_left h1] at hi
        rw [List.getElem?_append_left h2] at hj
        exact hD1.1 i j x y hi hj hxy
      · rw [List.getElem?_append_left h1] at hi
        rw [List.getElem?_append_right (by omega)] at hj
        have := hle _ _ hi
        have := hr _ _ hj
        omega
      · rw [List.getElem?_append_right (by omega)] at hi
        rw [List.getElem?_append_left h2] at hj
        have := hle _ _ hj
        have := hr _ _ hi
        omega
      · rw [List.getElem?_append_right (by omega)] at hi hj
        have := hr _ _ hi
        have := hr _ _ hj
        omega
    · by_cases h1 : k9 < W1.length
      · rw [List.getElem?_append_left h1] at hx
        exact hD1.2 k9 x hx
      · rw [List.getElem?_append_right (by omega)] at hx
        have := hr _ _ hx
        exact hA _ (by have := hS.1; omega)
  have hAr : ArrOfT s cA (.array ty) := fun N9 z9 => by
    obtain ⟨-, k9, hk9, cm9, hkk9⟩ := (hO 0 0 0).1
    exact ⟨(fun q hq => by cases hq), k9, hk9, cm9, hkk9⟩
  have hK2 : va_K D cl (tys ++ [(cA, .array ty)]) s := ⟨hK.1, fun k9 x hx => by
    by_cases hl : k9 < tys.length
    · rw [List.getElem?_append_left hl] at hx
      exact hK.2 k9 x hx
    · rw [List.getElem?_append_right (by omega)] at hx
      have h0 : k9 - tys.length < 1 := (List.getElem?_eq_some_iff.mp hx).1
      rw [show k9 - tys.length = 0 by omega] at hx
      cases hx
      exact ⟨hAr, fA⟩⟩
  obtain ⟨t, a1, b1⟩ := kk H.size (fun i => H.size + 1 + i) cA F.heap (fun i j _ _ h => by have h9 : H.size + 1 + i = H.size + 1 + j := h; omega) hnl hK2 (by rw [← vr_rows hnm]; exact vr_lay hP2) (by rw [← vr_rows hnm]; exact vr_layD hD2) ⟨by rw [f1]; have := hS.1; omega, fun x h1 h2 => (hold x (Nat.lt_of_lt_of_le h1 hS.1)).trans (hS.2.1 x h1 h2), hS.2.2⟩ F rfl X'
  refine ⟨t, step t ?_, b1⟩
  have e : T.heap.size = H.size := by rw [hT]
  rw [e]
  exact a1
end VGM
/-! ===== END ===== -/

/-! ===== BEGIN exceptions that leave a method, and their catching by the caller (launches without stack traces) ===== -/
section VXA
/-! The laws vx_back, vx_callV, vx_callS, vx_callSW, vx_throw0, vx_throwS follow proofs of the library, with one case more: JvmDerived/Free/Laws.lean (Back.of_free), Shelf42/LK1.lean (callV, callS), Shelf/KitTraced.lean (throwNew0V, throwNewS). -/
/-- where a method has thrown q: the class by its name, the cell, what was written, the world -/
def vx_T (XC : String → State → State → Prop) (st : State) (q : Addr) (t : State) (mc ms : Nat) (free : Addr → Prop) : Prop :=
  ∃ (E : String) (ce : Cell) (L : List Loc), XC E st t ∧ t.heap[q]? = some ce ∧ ce.vm = .none ∧ st.vm.findClass E = some ce.cls ∧ st.WarmedH t.vm ∧ st.sameButNew ({ t with vm := st.vm } : State) L mc ms ∧ ∀ z ∈ L, free z.base
def vx_Q (Qc : Array Value → State → Outcome → State → Prop) (XC : String → State → State → Prop) (mc ms : Nat) (free : Addr → Prop) : Array Value → State → Outcome → State → Prop := fun a st o t =>
  (Qc a st o t ∧ ∃ L, FrameEnd st o t L mc ms ∧ ∀ q ∈ L, free q.base) ∨ ∃ q, o = .threw q ∧ vx_T XC st q t mc ms free
/-- a callee that returns or throws -/
def vx_Met (l : Launch) (y : MethodName) (ws : List Cond) (rm : Room) (Pc : Array Value → State → Prop) (Qc : Array Value → State → Outcome → State → Prop) (XC : String → State → State → Prop) (mc ms : Nat) (free : Addr → Prop) : Prop :=
  MetFree l y (headSpec ws rm) Pc (fun _ _ _ _ _ => True) (vx_Q Qc XC mc ms free)
def vx_Post (XC : String → State → State → Prop) (mc ms : Nat) (free : Addr → Prop) : Pt → Array Value → Addr → Pt → Prop := fun A a q B =>
  ∃ (g : JFrame) (mk : MethodId) (t : State) (L : List Loc) (E : String) (ce : Cell), B.U.heap = t.heap ∧ B.U.vm = t.vm ∧ XC E (A.U.calling g mk a) t ∧ t.heap[q]? = some ce ∧ ce.vm = .none ∧ A.U.vm.findClass E = some ce.cls ∧ B.locs = A.locs ++ L ∧ (∀ z ∈ L, free z.base) ∧ B.cells = A.cells + mc ∧ B.slots = A.slots + ms
def vx_Back (l : Launch) (R : Room) (p : Program) (e : Env) (below : List Frame) (s : State) (sargs : Array Value) (y : MethodName) (len W9 : Nat)
    (Pre : Pt → Array Value → Prop) (Post : Pt → Array Value → Option Value → Pt → Prop) (PostX : Pt → Array Value → Addr → Pt → Prop) : Prop :=
  ∀ (m : MethodId) (meth : Method) (c : Code) (A : Pt) (g : JFrame) (ig : Instr) (mk : MethodId) (a : Array Value),
    Stand p l e R s m sargs below meth c A.U A.locs A.cells A.slots → g.method = m → g.locals.size = c.maxLocals → decode c.code g.pc = .ok (ig, len) →
    2 * g.monitorRoom + (g.stack.map fun v => v.category).sum ≤ W9 → A.U.methodNamed? y = some mk → Pre A a →
    (∃ (v : Option Value) (B : Pt), Stand p l e R s m sargs below meth c B.U B.locs B.cells B.slots ∧ Post A a v B ∧
      Steps p.tables e below (doInvoke e (A.U.setTop g) [] mk a).1 (B.U.setTop { g with pc := g.pc + len, stack := v.toList ++ g.stack })) ∨
    (∃ (q : Addr) (B : Pt), Stand p l e R s m sargs below meth c B.U B.locs B.cells B.slots ∧ PostX A a q B ∧
      Steps p.tables e below (doInvoke e (A.U.setTop g) [] mk a).1 ((B.U.setTop g).pushFrame (.throwing q)))
section Payer
variable {l : Launch} {R : Room} {p : Program} {e : Env} {below : List Frame} {s : State} {sargs : Array Value} {y : MethodName} {len W9 : Nat}
theorem vx_back {ws : List Cond} {rm : Room} {Pc : Array Value → State → Prop} {Qc : Array Value → State → Outcome → State → Prop} {XC : String → State → State → Prop} {mc ms : Nat} {free : Addr → Prop} {bytes : ByteArray} {maxL : Nat} {ret : Option FieldType}
    (hM : vx_Met l y ws rm Pc Qc XC mc ms free) (hblind : FrameBlind Pc) (hrc : rm.cells = mc) (hrs : rm.slots = ms)
    (hframes : rm.frames + 1 ≤ R.frames) (hlocals : W9 + (maxL + 11) + rm.locals ≤ R.locals)
    (hws : ∀ w ∈ ws, ∀ a' U, s.WarmedH U.vm → w.before a' U = true) (hcode : Cond.code y bytes maxL ret ∈ ws) (hinit : ∀ a' U, s.WarmedH U.vm → (Cond.initialized y.cls).before a' U = true) :
    vx_Back l R p e below s sargs y len W9 (PreOf R mc ms Pc) (PostOf Qc mc ms free) (vx_Post XC mc ms free) := by
  intro m meth c A g ig mk a X hg hsize hdg hW hn hp
  have h1 : (headSpec ws rm).pre.before a A.U = true := atoms_intro fun w hw => hws w hw _ _ X.warmed
  have h2 : (Cond.code y bytes maxL ret).before a A.U = true := hws _ hcode _ _ X.warmed
  have h3 : (Cond.initialized y.cls).before a A.U = true := hinit _ _ X.warmed
  have h4 : A.cells + (headSpec ws rm).room.cells ≤ R.cells := by rw [show (headSpec ws rm).room.cells = mc from hrc]; exact hp.1
  have h5 : A.slots + (headSpec ws rm).room.slots ≤ R.slots := by rw [show (headSpec ws rm).room.slots = ms from hrs]; exact hp.2.1
  have hPc : Pc a (A.U.calling g mk a) := hblind _ _ _ _ hp.2.2
  obtain ⟨U, Ls, c0, s0⟩ := A
  dsimp only [Pt.U, Pt.locs, Pt.cells, Pt.slots] at h1 h2 h3 h4 h5 X hn hPc ⊢
  obtain ⟨methY, cY, hmY, hcY, -, hlY, -, -, -, -⟩ := Cond.code_spec hn h2
  obtain ⟨kY, hkY, -⟩ := className_of_methodNamed hn
  have hinitY : kY.init = .initialized := Cond.initialized_spec (findClass_of_methodNamed hn) hkY h3
  have h : At U g.method c below := by rw [hg]; exact X.here
  have hlocals9 : W9 + (maxL + 11) + (headSpec ws rm).room.locals ≤ R.locals := hlocals
  have happ : (headSpec ws rm).appliesLoose y e.platform (U.calling g mk a) = true :=
    Spec.appliesLoose_calling (g := g) h hdg hn hkY hinitY
      (X.room_calling (g := g) (R' := (headSpec ws rm).room) hsize hmY hcY hframes (by rw [hlY]; omega) h4 h5) h1
  obtain ⟨mid, hmid⟩ := h.above
  have hfr : (U.setTop g).frames = (.java g :: mid) ++ below := by rw [State.frames_setTop' g h.top, hmid]; rfl
  obtain ⟨o, s₂, hsteps, -, hend, hq⟩ := Steps.callFree hM p X.admits X.cas X.clock (acts := []) hfr happ hPc trivial
  have hq' : vx_Q Qc XC mc ms free a (U.calling g mk a) o s₂ := hq
  rw [State.frames_setTop' g h.top] at hend
  obtain ⟨g₀, hg0⟩ := Option.isSome_iff_exists.mp h.top
  obtain ⟨r, hr⟩ := State.topJava?_eq_some.mp hg0
  have hr' : (({ U with heap := s₂.heap, slotsUsed := s₂.slotsUsed } : State).setVm s₂.vm).frames = .java g₀ :: r := hr
  rcases hq' with ⟨hqc, L, hfe, hL⟩ | ⟨q, rfl, E, ce, L, hx, hce, hcv, hcl, hW₂, hsm, hL⟩
  · obtain ⟨⟨v, rfl⟩, hW₂, e2, q2, q3, q4, q5, q6⟩ := id hfe
    have e3 : s₂ = ({ (U.calling g mk a).setFrames s₂.frames with heap := s₂.heap, slotsUsed := s₂.slotsUsed } : State).setVm s₂.vm := by
      have : s₂ = ({ s₂ with vm := (U.calling g mk a).vm } : State).setVm s₂.vm := rfl
      rw [e2] at this
      exact this
    obtain ⟨c₂, i₂, len₂, hc₂, hd₂, hf₂⟩ := hend
    have hW' : U.WarmedH s₂.vm := hW₂
    have hcc : c₂ = c := by
      have h1 : s₂.code? g.method = U.code? g.method := by
        rw [State.code?_eq, State.code?_eq, hW'.alike.method?]
      exact Option.some.inj (hc₂.symm.trans (h1.trans h.code))
    subst hcc
    have hlen : len₂ = len := by rw [hdg] at hd₂; cases hd₂; rfl
    subst hlen
    have hs₂ : s₂ = (({ U with heap := s₂.heap, slotsUsed := s₂.slotsUsed } : State).setVm s₂.vm).setTop { g with pc := g.pc + len₂, stack := v.toList ++ g.stack } := by
      refine e3.trans ?_
      rw [hf₂, State.calling_eq h.top, State.setFrames_setFrames, State.setTop_of_frames _ hr', hr]
      rfl
    have hsame : U.sameButNew ({ U with heap := s₂.heap, slotsUsed := s₂.slotsUsed } : State) L mc ms := by
      refine ⟨?_, q2, q3, q4, q5, q6⟩
      obtain ⟨t, ht, -⟩ := State.frames_cons hr
      show ({ U with heap := s₂.heap, slotsUsed := s₂.slotsUsed } : State) = { U.setFrames U.frames with heap := s₂.heap, slotsUsed := s₂.slotsUsed }
      rw [State.setFrames_self ht]
    subst hg
    refine Or.inl ⟨v, ⟨(({ U with heap := s₂.heap, slotsUsed := s₂.slotsUsed } : State).setVm s₂.vm), Ls ++ L, c0 + mc, s0 + ms⟩,
      ⟨X.admits, X.cas, X.clock, X.frames, X.room, X.hears, X.method, X.code, (X.here.setHeapUsed s₂.heap s₂.slotsUsed).setVm hW'.alike, X.tail, State.WarmedH.trans X.warmed hW', X.limits, X.bytes, X.same.trans (hsame.setVm s.vm)⟩,
      ⟨g, mk, s₂, L, rfl, rfl, hqc, rfl, hL, rfl, rfl⟩, ?_⟩
    show Steps p.tables e below _ ((({ U with heap := s₂.heap, slotsUsed := s₂.slotsUsed } : State).setVm s₂.vm).setTop { g with pc := g.pc + len₂, stack := v.toList ++ g.stack })
    rw [← hs₂]
    exact hsteps
  · obtain ⟨e2, q2, q3, q4, q5, q6⟩ := id hsm
    have e3 : s₂ = ({ (U.calling g mk a).setFrames s₂.frames with heap := s₂.heap, slotsUsed := s₂.slotsUsed } : State).setVm s₂.vm := by
      have : s₂ = ({ s₂ with vm := (U.calling g mk a).vm } : State).setVm s₂.vm := rfl
      rw [e2] at this
      exact this
    have hf₂ : s₂.frames = .throwing q :: .java g :: U.frames.tail := hend
    have hW' : U.WarmedH s₂.vm := hW₂
    have hs₂ : s₂ = ((({ U with heap := s₂.heap, slotsUsed := s₂.slotsUsed } : State).setVm s₂.vm).setTop g).pushFrame (.throwing q) := by
      refine e3.trans ?_
      rw [hf₂, State.calling_eq h.top, State.setFrames_setFrames, State.pushFrame, State.frames_setTop _ hr', State.setTop_of_frames _ hr', State.setFrames_setFrames, hr]
      rfl
    have hsame : U.sameButNew ({ U with heap := s₂.heap, slotsUsed := s₂.slotsUsed } : State) L mc ms := by
      refine ⟨?_, q2, q3, q4, q5, q6⟩
      obtain ⟨t, ht, -⟩ := State.frames_cons hr
      show ({ U with heap := s₂.heap, slotsUsed := s₂.slotsUsed } : State) = { U.setFrames U.frames with heap := s₂.heap, slotsUsed := s₂.slotsUsed }
      rw [State.setFrames_self ht]
    subst hg
    refine Or.inr ⟨q, ⟨(({ U with heap := s₂.heap, slotsUsed := s₂.slotsUsed } : State).setVm s₂.vm), Ls ++ L, c0 + mc, s0 + ms⟩,
      ⟨X.admits, X.cas, X.clock, X.frames, X.room, X.hears, X.method, X.code, (X.here.setHeapUsed s₂.heap s₂.slotsUsed).setVm hW'.alike, X.tail, State.WarmedH.trans X.warmed hW', X.limits, X.bytes, X.same.trans (hsame.setVm s.vm)⟩,
      ⟨g, mk, s₂, L, E, ce, rfl, rfl, hx, hce, hcv, hcl, rfl, hL, rfl, rfl⟩, ?_⟩
    show Steps p.tables e below _ (((({ U with heap := s₂.heap, slotsUsed := s₂.slotsUsed } : State).setVm s₂.vm).setTop g).pushFrame (.throwing q))
    rw [← hs₂]
    exact hsteps
end Payer
section Calls
variable {p : Program} {l : Launch} {e : Env} {R : Room} {s : State} {m : MethodId} {args : Array Value} {below : List Frame} {meth : Method} {c : Code} {T : State} {locs : List Loc} {cells slots : Nat}
theorem vx_callV (X : Stand p l e R s m args below meth c T locs cells slots) (hexec : p.tables.exec = Jvm.exec) {own C : String} {index : Nat} {y : MethodName} {bytes : ByteArray} {maxL : Nat} {ret : Option FieldType}
    (hown : s.vm.findClass own = some m.cls) (hlink : (Cond.methodLink own index y).before args s = true) (hinst : (Cond.instanceMethod y).before args s = true) (hsel : (Cond.selects C y y).before args s = true)
    (hcode : (Cond.code y bytes maxL ret).before args s = true) (hy : y.cls ≠ "java/lang/invoke/MethodHandle" ∧ y.cls ≠ "java/lang/invoke/VarHandle")
    {W9 : Nat} {Pre : Pt → Array Value → Prop} {Post : Pt → Array Value → Option Value → Pt → Prop} {PostX : Pt → Array Value → Addr → Pt → Prop} (hK : vx_Back l R p e below s args y 3 W9 Pre Post PostX)
    {b : Addr} {cellB : Cell} (hcell : T.heap[b]? = some cellB) (hobj : cellB.vm.isStatics = false) (hcls : s.vm.findClass C = some cellB.cls)
    {g : JFrame} (hg : g.method = m) (hsize : g.locals.size = c.maxLocals) {argsL rest : List Value} (hlen : ∀ sig, parseMethodDescriptor y.desc = some sig → argsL.length = sig.parameters.length)
    (hstack : g.stack = argsL.reverse ++ .ref b :: rest) (hW : 2 * g.monitorRoom + (rest.map fun v => v.category).sum ≤ W9) (hdg : decode c.code g.pc = .ok (.invokevirtual index, 3))
    (hpre : ∀ vm₁, s.WarmedH vm₁ → Pre ⟨T.setVm vm₁, locs, cells, slots⟩ (Value.ref b :: argsL).toArray) :
    (∃ (v : Option Value) (vm₁ : Vm) (B : Pt), s.WarmedH vm₁ ∧ Stand p l e R s m args below meth c B.U B.locs B.cells B.slots ∧ Post ⟨T.setVm vm₁, locs, cells, slots⟩ (Value.ref b :: argsL).toArray v B ∧
      ∀ target, Steps p.tables e below (B.U.setTop { g with pc := g.pc + 3, stack := v.toList ++ rest }) target → Steps p.tables e below (T.setTop g) target) ∨
    (∃ (q : Addr) (vm₁ : Vm) (B : Pt), s.WarmedH vm₁ ∧ Stand p l e R s m args below meth c B.U B.locs B.cells B.slots ∧ PostX ⟨T.setVm vm₁, locs, cells, slots⟩ (Value.ref b :: argsL).toArray q B ∧
      Steps p.tables e below (T.setTop g) ((B.U.setTop { g with stack := rest }).pushFrame (.throwing q))) := by
  obtain ⟨mk, methM, hnamed, hmethM, hstM, habM⟩ := Cond.instanceMethod_spec hinst
  obtain ⟨methM', cM, hmethM', -, -, -, -, -, -, hsigM⟩ := Cond.code_spec hnamed hcode
  cases hmethM.symm.trans hmethM'
  obtain ⟨c2, r2, m2, q1, q2, q3, q4, kP, hkP, hkPi⟩ := Cond.selects_spec hsel
  cases hcls.symm.trans q1
  cases (State.methodFound?_of_named hnamed hy).symm.trans q2
  cases hnamed.symm.trans q3
  have hselP : selectMethod e.platform s.vm cellB.cls mk = .method mk := by rw [Launch.admits_selectMethod X.admits]; exact q4
  obtain ⟨vm₁, X₁, hstep₁⟩ := X.invokevirtual hexec hown hlink hnamed hmethM hstM hkP hkPi hy (a := b) (cell := cellB) hcell
    (fun z h => by rw [h] at hobj; cases hobj) hselP hmethM habM hkP hkPi (g := g) hg (argsL := argsL) (rest := rest) (hlen _ hsigM) hstack hdg
  rcases hK m meth c ⟨T.setVm vm₁, locs, cells, slots⟩ { g with stack := rest } (.invokevirtual index) mk (Value.ref b :: argsL).toArray X₁ hg hsize hdg hW (X₁.named hnamed) (hpre vm₁ X₁.warmed) with ⟨v, B, X', hpost, hsteps⟩ | ⟨q, B, X', hpost, hsteps⟩
  · exact Or.inl ⟨v, vm₁, B, X₁.warmed, X', hpost, fun target h => hstep₁ _ fun acts => by rw [doInvoke_state]; exact hsteps.trans h⟩
  · exact Or.inr ⟨q, vm₁, B, X₁.warmed, X', hpost, hstep₁ _ fun acts => by rw [doInvoke_state]; exact hsteps⟩
theorem vx_callS (X : Stand p l e R s m args below meth c T locs cells slots) (hexec : p.tables.exec = Jvm.exec) {own : String} {index : Nat} {y : MethodName} {bytes : ByteArray} {maxL : Nat} {ret : Option FieldType}
    (hown : s.vm.findClass own = some m.cls) (hlink : (Cond.methodLink own index y).before args s = true) (hstat : (Cond.static y).before args s = true) (hinit : (Cond.initialized y.cls).before args s = true)
    (hcode : (Cond.code y bytes maxL ret).before args s = true) (hy : y.cls ≠ "java/lang/invoke/MethodHandle" ∧ y.cls ≠ "java/lang/invoke/VarHandle")
    {W9 : Nat} {Pre : Pt → Array Value → Prop} {Post : Pt → Array Value → Option Value → Pt → Prop} {PostX : Pt → Array Value → Addr → Pt → Prop} (hK : vx_Back l R p e below s args y 3 W9 Pre Post PostX)
    {g : JFrame} (hg : g.method = m) (hsize : g.locals.size = c.maxLocals) {argsL rest : List Value} (hlen : ∀ sig, parseMethodDescriptor y.desc = some sig → argsL.length = sig.parameters.length)
    (hstack : g.stack = argsL.reverse ++ rest) (hW : 2 * g.monitorRoom + (rest.map fun v => v.category).sum ≤ W9) (hdg : decode c.code g.pc = .ok (.invokestatic index, 3))
    (hpre : ∀ vm₁, s.WarmedH vm₁ → Pre ⟨T.setVm vm₁, locs, cells, slots⟩ argsL.toArray) :
    (∃ (v : Option Value) (vm₁ : Vm) (B : Pt), s.WarmedH vm₁ ∧ Stand p l e R s m args below meth c B.U B.locs B.cells B.slots ∧ Post ⟨T.setVm vm₁, locs, cells, slots⟩ argsL.toArray v B ∧
      ∀ target, Steps p.tables e below (B.U.setTop { g with pc := g.pc + 3, stack := v.toList ++ rest }) target → Steps p.tables e below (T.setTop g) target) ∨
    (∃ (q : Addr) (vm₁ : Vm) (B : Pt), s.WarmedH vm₁ ∧ Stand p l e R s m args below meth c B.U B.locs B.cells B.slots ∧ PostX ⟨T.setVm vm₁, locs, cells, slots⟩ argsL.toArray q B ∧
      Steps p.tables e below (T.setTop g) ((B.U.setTop { g with stack := rest }).pushFrame (.throwing q))) := by
  obtain ⟨mk, hnamed⟩ := Cond.code_named hcode
  obtain ⟨methM, cM, hmethM, -, -, -, -, -, -, hsigM⟩ := Cond.code_spec hnamed hcode
  have hstatic : methM.isStatic = true := Cond.static_spec hnamed hmethM hstat
  obtain ⟨kP, hkP, -⟩ := className_of_methodNamed hnamed
  have hinitP : kP.init = .initialized := Cond.initialized_spec (findClass_of_methodNamed hnamed) hkP hinit
  obtain ⟨vm₁, X₁, hstep₁⟩ := X.invokestatic hexec hown hlink hnamed hmethM hstatic hkP hinitP hy (g := g) hg (argsL := argsL) (rest := rest) (hlen _ hsigM) hstack hdg
  rcases hK m meth c ⟨T.setVm vm₁, locs, cells, slots⟩ { g with stack := rest } (.invokestatic index) mk argsL.toArray X₁ hg hsize hdg hW (X₁.named hnamed) (hpre vm₁ X₁.warmed) with ⟨v, B, X', hpost, hsteps⟩ | ⟨q, B, X', hpost, hsteps⟩
  · exact Or.inl ⟨v, vm₁, B, X₁.warmed, X', hpost, fun target h => hstep₁ _ fun acts => by rw [doInvoke_state]; exact hsteps.trans h⟩
  · exact Or.inr ⟨q, vm₁, B, X₁.warmed, X', hpost, hstep₁ _ fun acts => by rw [doInvoke_state]; exact hsteps⟩
end Calls
theorem vx_cls {s : State} {T : State} {vm₁ : Vm} {E : String} {k : ClassId} (hW : s.WarmedH vm₁) (h : (T.setVm vm₁).vm.findClass E = some k) : s.vm.findClass E = some k := by
  have h1 : vm₁.findClass E = some k := h
  rw [hW.alike.findClass] at h1
  exact h1
/-- the method's frame g, with q thrown over it -/
def vx_W (p : Program) (l : Launch) (e : Env) (R : Room) (s : State) (m : MethodId) (args : Array Value) (below : List Frame) (meth : Method) (c : Code) (H : Heap) (locs : List Loc) (cells slots : Nat) (Q : State → Prop) (g : JFrame) (q : Addr) : Prop :=
  ∀ T : State, T.heap = H → Stand p l e R s m args below meth c T locs cells slots → ∃ t, Steps p.tables e below ((T.setTop g).pushFrame (.throwing q)) t ∧ Q t
def vx_Run (p : Program) (l : Launch) (e : Env) (R : Room) (s : State) (m : MethodId) (args : Array Value) (below : List Frame) (meth : Method) (c : Code) (H : Heap) (locs : List Loc) (cells slots mc ms : Nat) (g : JFrame) (rest : List Value) (Qa : State → Outcome → State → Prop) (XC : String → State → State → Prop) (free : Addr → Prop) : Prop :=
  ∀ T : State, T.heap = H → Stand p l e R s m args below meth c T locs cells slots →
    (∃ (v : Option Value) (st₀ t T' : State) (L : List Loc), st₀.heap = H ∧ Stand p l e R s m args below meth c T' (locs ++ L) (cells + mc) (slots + ms) ∧ (∀ q ∈ L, free q.base) ∧ T'.heap = t.heap ∧ T'.vm = t.vm ∧ Qa st₀ (.returned v) t ∧
      Goes p e below T g T' { g with pc := g.pc + 3, stack := v.toList ++ rest }) ∨
    (∃ (q : Addr) (st₀ t T' : State) (L : List Loc) (E : String) (ce : Cell), st₀.heap = H ∧ Stand p l e R s m args below meth c T' (locs ++ L) (cells + mc) (slots + ms) ∧ (∀ z ∈ L, free z.base) ∧ T'.heap = t.heap ∧ T'.vm = t.vm ∧ XC E st₀ t ∧ t.heap[q]? = some ce ∧ ce.vm = .none ∧ s.vm.findClass E = some ce.cls ∧
      Steps p.tables e below (T.setTop g) ((T'.setTop { g with stack := rest }).pushFrame (.throwing q)))
def vx_X {S : Type} (px : S → Prop) (B : String → S → State → Prop) (A : Nat → Prop) : String → State → State → Prop := fun E st t => ∃ u : S, px u ∧ B E u t ∧ va_F A st t
section Runs
variable {p : Program} {l : Launch} {e : Env} {R : Room} {s : State} {m : MethodId} {args : Array Value} {below : List Frame} {meth : Method} {c : Code} {H : Heap} {locs : List Loc} {cells slots : Nat}
variable {y : MethodName} {bytes cc : ByteArray} {maxL nL mc ms n index : Nat} {ret : Option FieldType} {ws : List Cond} {rm : Room} {Pc : Array Value → State → Prop} {Qc : Array Value → State → Outcome → State → Prop} {XC : String → State → State → Prop} {free : Addr → Prop} {Ts : List Cond} {own C : String} {b : Addr} {As rest : List Value} {g : JFrame}
theorem vx_callBack (cb : CallB R s args own index y bytes maxL ret ws rm mc ms n) (hM : vx_Met l y ws rm Pc Qc XC mc ms free) (hbl : FrameBlind Pc) : vx_Back l R p e below s args y 3 8 (PreOf R mc ms Pc) (PostOf Qc mc ms free) (vx_Post XC mc ms free) := by
  obtain ⟨hrc, hrs, hfr, hlo, hws, hcw, -, hini, -⟩ := cb
  exact vx_back (bytes := bytes) (maxL := maxL) (ret := ret) hM hbl hrc hrs hfr hlo hws hcw (fun a' U hW => word_at hW (Or.inl (by first | rfl | simp [Cond.onTables, Cond.keeps, Cond.steady])) hini)
theorem vx_runV (S : CallFix p m c cc nL s args Ts own) (hM : vx_Met l y ws rm Pc Qc XC mc ms free) (cw : CallW R s args own C index y bytes maxL ret ws rm mc ms n) (hp : PreV s H C b Pc As)
    (hg : g.method = m) (hn : As.length = n) (hsize : g.locals.size = nL) (hstack : g.stack = As.reverse ++ .ref b :: rest) (hW : 2 * g.monitorRoom + (rest.map fun v => v.category).sum ≤ 8) (hdg : decode cc g.pc = .ok (.invokevirtual index, 3)) (hf : cells + mc ≤ R.cells ∧ slots + ms ≤ R.slots) :
    vx_Run p l e R s m args below meth c H locs cells slots mc ms g rest (Qc (Value.ref b :: As).toArray) XC free := by
  have hK : vx_Back l R p e below s args y 3 8 (PreOf R mc ms Pc) (PostOf Qc mc ms free) (vx_Post XC mc ms free) := vx_callBack cw.1 hM hp.1
  obtain ⟨⟨-, -, -, -, -, -, hcode, -, hy, hlen, hl⟩, hin, hse⟩ := cw
  obtain ⟨hx, hb, hml, ho, -⟩ := S
  obtain ⟨-, ⟨cellB, hcB, hoB, hclB⟩, hPc⟩ := hp
  intro T hT X
  rcases vx_callV X hx (C := C) (bytes := bytes) (maxL := maxL) (ret := ret) ho hl hin hse hcode hy hK (by rw [hT]; exact hcB) hoB hclB hg (hsize.trans hml.symm) (argsL := As) (rest := rest) (fun sig h => hn.trans (hlen sig h)) hstack hW (by rw [hb]; exact hdg)
    (fun vm₁ hW₁ => ⟨hf.1, hf.2, hPc (T.setVm vm₁) hT hW₁⟩) with ⟨v, vm₁, ⟨U', l2, c2, s2⟩, hW₁, X', ⟨g', mk, t, L, e1, e2, hq, h1, hL, h2, h3⟩, st⟩ | ⟨q, vm₁, ⟨U', l2, c2, s2⟩, hW₁, X', ⟨g', mk, t, L, E, ce, e1, e2, hq, hce, hcv, hcl, h1, hL, h2, h3⟩, st⟩
  · dsimp only [Pt.U, Pt.locs, Pt.cells, Pt.slots] at X' e1 e2 h1 h2 h3 st
    subst h1; subst h2; subst h3
    exact Or.inl ⟨v, (T.setVm vm₁).calling g' mk (Value.ref b :: As).toArray, t, U', L, hT, X', hL, e1, e2, hq, st⟩
  · dsimp only [Pt.U, Pt.locs, Pt.cells, Pt.slots] at X' e1 e2 h1 h2 h3 st hcl
    subst h1; subst h2; subst h3
    exact Or.inr ⟨q, (T.setVm vm₁).calling g' mk (Value.ref b :: As).toArray, t, U', L, E, ce, hT, X', hL, e1, e2, hq, hce, hcv, vx_cls hW₁ hcl, st⟩
theorem vx_runS (S : CallFix p m c cc nL s args Ts own) (hM : vx_Met l y ws rm Pc Qc XC mc ms free) (cw : CallB R s args own index y bytes maxL ret ws rm mc ms n ∧ (Cond.static y).before args s = true) (hp : PreS s H Pc As)
    (hg : g.method = m) (hn : As.length = n) (hsize : g.locals.size = nL) (hstack : g.stack = As.reverse ++ rest) (hW : 2 * g.monitorRoom + (rest.map fun v => v.category).sum ≤ 8) (hdg : decode cc g.pc = .ok (.invokestatic index, 3)) (hf : cells + mc ≤ R.cells ∧ slots + ms ≤ R.slots) :
    vx_Run p l e R s m args below meth c H locs cells slots mc ms g rest (Qc As.toArray) XC free := by
  have hK : vx_Back l R p e below s args y 3 8 (PreOf R mc ms Pc) (PostOf Qc mc ms free) (vx_Post XC mc ms free) := vx_callBack cw.1 hM hp.1
  obtain ⟨⟨-, -, -, -, -, -, hcode, hini, hy, hlen, hl⟩, hstt⟩ := cw
  obtain ⟨hx, hb, hml, ho, -⟩ := S
  intro T hT X
  rcases vx_callS X hx (bytes := bytes) (maxL := maxL) (ret := ret) ho hl hstt hini hcode hy hK hg (hsize.trans hml.symm) (argsL := As) (rest := rest) (fun sig h => hn.trans (hlen sig h)) hstack hW (by rw [hb]; exact hdg)
    (fun vm₁ hW₁ => ⟨hf.1, hf.2, hp.2 (T.setVm vm₁) hT hW₁⟩) with ⟨v, vm₁, ⟨U', l2, c2, s2⟩, hW₁, X', ⟨g', mk, t, L, e1, e2, hq, h1, hL, h2, h3⟩, st⟩ | ⟨q, vm₁, ⟨U', l2, c2, s2⟩, hW₁, X', ⟨g', mk, t, L, E, ce, e1, e2, hq, hce, hcv, hcl, h1, hL, h2, h3⟩, st⟩
  · dsimp only [Pt.U, Pt.locs, Pt.cells, Pt.slots] at X' e1 e2 h1 h2 h3 st
    subst h1; subst h2; subst h3
    exact Or.inl ⟨v, (T.setVm vm₁).calling g' mk As.toArray, t, U', L, hT, X', hL, e1, e2, hq, st⟩
  · dsimp only [Pt.U, Pt.locs, Pt.cells, Pt.slots] at X' e1 e2 h1 h2 h3 st hcl
    subst h1; subst h2; subst h3
    exact Or.inr ⟨q, (T.setVm vm₁).calling g' mk As.toArray, t, U', L, E, ce, hT, X', hL, e1, e2, hq, hce, hcv, vx_cls hW₁ hcl, st⟩
end Runs
section Rows
variable {p : Program} {l : Launch} {e : Env} {R : Room} {s : State} {m : MethodId} {args : Array Value} {below : List Frame} {meth : Method} {c : Code} {H : Heap} {locs : List Loc} {cells slots : Nat} {Q : State → Prop}
variable {mc ms : Nat} {free : Addr → Prop} {A0 A1 : Nat → Prop} {H0 : Heap} {a : Array Value} {pc : Nat} {ls : Array Slot} {st0 rest : List Value}
theorem vx_keep {st₀ t T' : State} {L : List Loc} (h0 : st₀.heap = H) (e1 : T'.heap = t.heap) (hS : va_S A0 H0 H locs) (hA : ∀ q, q < H.size → A1 q → A0 q) (hf : ∀ q, free q → A0 q) (hL : ∀ q ∈ L, free q.base) (hF : va_F A1 st₀ t) :
    H.size ≤ T'.heap.size ∧ (∀ q : Nat, q < H.size → ¬ A1 q → T'.heap[q]? = H[q]?) ∧ va_S A0 H0 T'.heap (locs ++ L) := by
  obtain ⟨hz, hk⟩ := hF
  rw [h0] at hz hk
  exact ⟨by rw [e1]; exact hz, fun q h1 h2 => by rw [e1]; exact hk q h1 h2,
    ⟨Nat.le_trans hS.1 (by rw [e1]; exact hz), fun q h1 h2 => by rw [e1, hk q (Nat.lt_of_lt_of_le h1 hS.1) (fun z => h2 (hA q (Nat.lt_of_lt_of_le h1 hS.1) z))]; exact hS.2.1 q h1 h2, fun q hq => by
      rcases List.mem_append.mp hq with h | h
      · exact hS.2.2 q h
      · exact hf _ (hL q h)⟩⟩
theorem vx_calli {S SX : Type} {post : Int32 → S → Prop} {px : SX → Prop} {B : S → State → Prop} {BX : String → SX → State → Prop} {AX : Nat → Prop} (hr : vx_Run p l e R s m args below meth c H locs cells slots mc ms (F0 m pc ls st0) rest (va_Qi post B A1 a) (vx_X px BX AX) free) (hS : va_S A0 H0 H locs) (hA : ∀ q, q < H.size → A1 q → A0 q) (hf : ∀ q, free q → A0 q) (hAX : ∀ q, q < H.size → AX q → A0 q)
    (kx : ∀ (E : String) (ce : Cell) (q9 : Addr) (u : SX) (t : State) (H1 : Heap) (locs1 : List Loc), t.heap = H1 → s.vm.Alike t.vm → px u → BX E u t → H.size ≤ H1.size → (∀ q : Nat, q < H.size → ¬ AX q → H1[q]? = H[q]?) → va_S A0 H0 H1 locs1 → H1[q9]? = some ce → ce.vm = .none → s.vm.findClass E = some ce.cls → vx_W p l e R s m args below meth c H1 locs1 (cells + mc) (slots + ms) Q (F0 m pc ls rest) q9)
    (kk : ∀ (r : Int32) (u : S) (t : State) (H1 : Heap) (locs1 : List Loc), t.heap = H1 → s.vm.Alike t.vm → post r u → B u t → H.size ≤ H1.size → (∀ q : Nat, q < H.size → ¬ A1 q → H1[q]? = H[q]?) → va_S A0 H0 H1 locs1 → W p l e R s m args below meth c H1 locs1 (cells + mc) (slots + ms) Q (F0 m (pc + 3) ls (.int r :: rest))) : W p l e R s m args below meth c H locs cells slots Q (F0 m pc ls st0) := by
  intro T hT X
  rcases hr T hT X with ⟨v, st₀, t, T', L, h0, X', hL, e1, e2, ⟨⟨r, u, hv, hp, hb⟩, hF⟩, st⟩ | ⟨q, st₀, t, T', L, E, ce, h0, X', hL, e1, e2, ⟨u, hp, hb, hF⟩, hce, hcv, hcl, st⟩
  · cases hv
    obtain ⟨k1, k2, k3⟩ := vx_keep h0 e1 hS hA hf hL hF
    obtain ⟨t2, a1, b1⟩ := kk r u t T'.heap (locs ++ L) e1.symm (by rw [← e2]; exact X'.warmed.alike) hp hb k1 k2 k3 T' rfl X'
    exact ⟨t2, st t2 a1, b1⟩
  · obtain ⟨k1, k2, k3⟩ := vx_keep h0 e1 hS hAX hf hL hF
    obtain ⟨t2, a1, b1⟩ := kx E ce q u t T'.heap (locs ++ L) e1.symm (by rw [← e2]; exact X'.warmed.alike) hp hb k1 k2 k3 (by rw [e1]; exact hce) hcv hcl T' rfl X'
    exact ⟨t2, st.trans a1, b1⟩
theorem vx_calll {S SX : Type} {post : Int64 → S → Prop} {px : SX → Prop} {B : S → State → Prop} {BX : String → SX → State → Prop} {AX : Nat → Prop} (hr : vx_Run p l e R s m args below meth c H locs cells slots mc ms (F0 m pc ls st0) rest (va_Ql post B A1 a) (vx_X px BX AX) free) (hS : va_S A0 H0 H locs) (hA : ∀ q, q < H.size → A1 q → A0 q) (hf : ∀ q, free q → A0 q) (hAX : ∀ q, q < H.size → AX q → A0 q)
    (kx : ∀ (E : String) (ce : Cell) (q9 : Addr) (u : SX) (t : State) (H1 : Heap) (locs1 : List Loc), t.heap = H1 → s.vm.Alike t.vm → px u → BX E u t → H.size ≤ H1.size → (∀ q : Nat, q < H.size → ¬ AX q → H1[q]? = H[q]?) → va_S A0 H0 H1 locs1 → H1[q9]? = some ce → ce.vm = .none → s.vm.findClass E = some ce.cls → vx_W p l e R s m args below meth c H1 locs1 (cells + mc) (slots + ms) Q (F0 m pc ls rest) q9)
    (kk : ∀ (r : Int64) (u : S) (t : State) (H1 : Heap) (locs1 : List Loc), t.heap = H1 → s.vm.Alike t.vm → post r u → B u t → H.size ≤ H1.size → (∀ q : Nat, q < H.size → ¬ A1 q → H1[q]? = H[q]?) → va_S A0 H0 H1 locs1 → W p l e R s m args below meth c H1 locs1 (cells + mc) (slots + ms) Q (F0 m (pc + 3) ls (.long r :: rest))) : W p l e R s m args below meth c H locs cells slots Q (F0 m pc ls st0) := by
  intro T hT X
  rcases hr T hT X with ⟨v, st₀, t, T', L, h0, X', hL, e1, e2, ⟨⟨r, u, hv, hp, hb⟩, hF⟩, st⟩ | ⟨q, st₀, t, T', L, E, ce, h0, X', hL, e1, e2, ⟨u, hp, hb, hF⟩, hce, hcv, hcl, st⟩
  · cases hv
    obtain ⟨k1, k2, k3⟩ := vx_keep h0 e1 hS hA hf hL hF
    obtain ⟨t2, a1, b1⟩ := kk r u t T'.heap (locs ++ L) e1.symm (by rw [← e2]; exact X'.warmed.alike) hp hb k1 k2 k3 T' rfl X'
    exact ⟨t2, st t2 a1, b1⟩
  · obtain ⟨k1, k2, k3⟩ := vx_keep h0 e1 hS hAX hf hL hF
    obtain ⟨t2, a1, b1⟩ := kx E ce q u t T'.heap (locs ++ L) e1.symm (by rw [← e2]; exact X'.warmed.alike) hp hb k1 k2 k3 (by rw [e1]; exact hce) hcv hcl T' rfl X'
    exact ⟨t2, st.trans a1, b1⟩
theorem vx_callf {S SX : Type} {post : UInt32 → S → Prop} {px : SX → Prop} {B : S → State → Prop} {BX : String → SX → State → Prop} {AX : Nat → Prop} (hr : vx_Run p l e R s m args below meth c H locs cells slots mc ms (F0 m pc ls st0) rest (va_Qf post B A1 a) (vx_X px BX AX) free) (hS : va_S A0 H0 H locs) (hA : ∀ q, q < H.size → A1 q → A0 q) (hf : ∀ q, free q → A0 q) (hAX : ∀ q, q < H.size → AX q → A0 q)
    (kx : ∀ (E : String) (ce : Cell) (q9 : Addr) (u : SX) (t : State) (H1 : Heap) (locs1 : List Loc), t.heap = H1 → s.vm.Alike t.vm → px u → BX E u t → H.size ≤ H1.size → (∀ q : Nat, q < H.size → ¬ AX q → H1[q]? = H[q]?) → va_S A0 H0 H1 locs1 → H1[q9]? = some ce → ce.vm = .none → s.vm.findClass E = some ce.cls → vx_W p l e R s m args below meth c H1 locs1 (cells + mc) (slots + ms) Q (F0 m pc ls rest) q9)
    (kk : ∀ (r : UInt32) (u : S) (t : State) (H1 : Heap) (locs1 : List Loc), t.heap = H1 → s.vm.Alike t.vm → post r u → B u t → H.size ≤ H1.size → (∀ q : Nat, q < H.size → ¬ A1 q → H1[q]? = H[q]?) → va_S A0 H0 H1 locs1 → W p l e R s m args below meth c H1 locs1 (cells + mc) (slots + ms) Q (F0 m (pc + 3) ls (.float r :: rest))) : W p l e R s m args below meth c H locs cells slots Q (F0 m pc ls st0) := by
  intro T hT X
  rcases hr T hT X with ⟨v, st₀, t, T', L, h0, X', hL, e1, e2, ⟨⟨r, u, hv, hp, hb⟩, hF⟩, st⟩ | ⟨q, st₀, t, T', L, E, ce, h0, X', hL, e1, e2, ⟨u, hp, hb, hF⟩, hce, hcv, hcl, st⟩
  · cases hv
    obtain ⟨k1, k2, k3⟩ := vx_keep h0 e1 hS hA hf hL hF
    obtain ⟨t2, a1, b1⟩ := kk r u t T'.heap (locs ++ L) e1.symm (by rw [← e2]; exact X'.warmed.alike) hp hb k1 k2 k3 T' rfl X'
    exact ⟨t2, st t2 a1, b1⟩
  · obtain ⟨k1, k2, k3⟩ := vx_keep h0 e1 hS hAX hf hL hF
    obtain ⟨t2, a1, b1⟩ := kx E ce q u t T'.heap (locs ++ L) e1.symm (by rw [← e2]; exact X'.warmed.alike) hp hb k1 k2 k3 (by rw [e1]; exact hce) hcv hcl T' rfl X'
    exact ⟨t2, st.trans a1, b1⟩
theorem vx_calld {S SX : Type} {post : UInt64 → S → Prop} {px : SX → Prop} {B : S → State → Prop} {BX : String → SX → State → Prop} {AX : Nat → Prop} (hr : vx_Run p l e R s m args below meth c H locs cells slots mc ms (F0 m pc ls st0) rest (va_Qd post B A1 a) (vx_X px BX AX) free) (hS : va_S A0 H0 H locs) (hA : ∀ q, q < H.size → A1 q → A0 q) (hf : ∀ q, free q → A0 q) (hAX : ∀ q, q < H.size → AX q → A0 q)
    (kx : ∀ (E : String) (ce : Cell) (q9 : Addr) (u : SX) (t : State) (H1 : Heap) (locs1 : List Loc), t.heap = H1 → s.vm.Alike t.vm → px u → BX E u t → H.size ≤ H1.size → (∀ q : Nat, q < H.size → ¬ AX q → H1[q]? = H[q]?) → va_S A0 H0 H1 locs1 → H1[q9]? = some ce → ce.vm = .none → s.vm.findClass E = some ce.cls → vx_W p l e R s m args below meth c H1 locs1 (cells + mc) (slots + ms) Q (F0 m pc ls rest) q9)
    (kk : ∀ (r : UInt64) (u : S) (t : State) (H1 : Heap) (locs1 : List Loc), t.heap = H1 → s.vm.Alike t.vm → post r u → B u t → H.size ≤ H1.size → (∀ q : Nat, q < H.size → ¬ A1 q → H1[q]? = H[q]?) → va_S A0 H0 H1 locs1 → W p l e R s m args below meth c H1 locs1 (cells + mc) (slots + ms) Q (F0 m (pc + 3) ls (.double r :: rest))) : W p l e R s m args below meth c H locs cells slots Q (F0 m pc ls st0) := by
  intro T hT X
  rcases hr T hT X with ⟨v, st₀, t, T', L, h0, X', hL, e1, e2, ⟨⟨r, u, hv, hp, hb⟩, hF⟩, st⟩ | ⟨q, st₀, t, T', L, E, ce, h0, X', hL, e1, e2, ⟨u, hp, hb, hF⟩, hce, hcv, hcl, st⟩
  · cases hv
    obtain ⟨k1, k2, k3⟩ := vx_keep h0 e1 hS hA hf hL hF
    obtain ⟨t2, a1, b1⟩ := kk r u t T'.heap (locs ++ L) e1.symm (by rw [← e2]; exact X'.warmed.alike) hp hb k1 k2 k3 T' rfl X'
    exact ⟨t2, st t2 a1, b1⟩
  · obtain ⟨k1, k2, k3⟩ := vx_keep h0 e1 hS hAX hf hL hF
    obtain ⟨t2, a1, b1⟩ := kx E ce q u t T'.heap (locs ++ L) e1.symm (by rw [← e2]; exact X'.warmed.alike) hp hb k1 k2 k3 (by rw [e1]; exact hce) hcv hcl T' rfl X'
    exact ⟨t2, st.trans a1, b1⟩
theorem vx_callv {S SX : Type} {post : S → Prop} {px : SX → Prop} {B : S → State → Prop} {BX : String → SX → State → Prop} {AX : Nat → Prop} (hr : vx_Run p l e R s m args below meth c H locs cells slots mc ms (F0 m pc ls st0) rest (va_Qv post B A1 a) (vx_X px BX AX) free) (hS : va_S A0 H0 H locs) (hA : ∀ q, q < H.size → A1 q → A0 q) (hf : ∀ q, free q → A0 q) (hAX : ∀ q, q < H.size → AX q → A0 q)
    (kx : ∀ (E : String) (ce : Cell) (q9 : Addr) (u : SX) (t : State) (H1 : Heap) (locs1 : List Loc), t.heap = H1 → s.vm.Alike t.vm → px u → BX E u t → H.size ≤ H1.size → (∀ q : Nat, q < H.size → ¬ AX q → H1[q]? = H[q]?) → va_S A0 H0 H1 locs1 → H1[q9]? = some ce → ce.vm = .none → s.vm.findClass E = some ce.cls → vx_W p l e R s m args below meth c H1 locs1 (cells + mc) (slots + ms) Q (F0 m pc ls rest) q9)
    (kk : ∀ (u : S) (t : State) (H1 : Heap) (locs1 : List Loc), t.heap = H1 → s.vm.Alike t.vm → post u → B u t → H.size ≤ H1.size → (∀ q : Nat, q < H.size → ¬ A1 q → H1[q]? = H[q]?) → va_S A0 H0 H1 locs1 → W p l e R s m args below meth c H1 locs1 (cells + mc) (slots + ms) Q (F0 m (pc + 3) ls (rest))) : W p l e R s m args below meth c H locs cells slots Q (F0 m pc ls st0) := by
  intro T hT X
  rcases hr T hT X with ⟨v, st₀, t, T', L, h0, X', hL, e1, e2, ⟨⟨u, hv, hp, hb⟩, hF⟩, st⟩ | ⟨q, st₀, t, T', L, E, ce, h0, X', hL, e1, e2, ⟨u, hp, hb, hF⟩, hce, hcv, hcl, st⟩
  · cases hv
    obtain ⟨k1, k2, k3⟩ := vx_keep h0 e1 hS hA hf hL hF
    obtain ⟨t2, a1, b1⟩ := kk u t T'.heap (locs ++ L) e1.symm (by rw [← e2]; exact X'.warmed.alike) hp hb k1 k2 k3 T' rfl X'
    exact ⟨t2, st t2 a1, b1⟩
  · obtain ⟨k1, k2, k3⟩ := vx_keep h0 e1 hS hAX hf hL hF
    obtain ⟨t2, a1, b1⟩ := kx E ce q u t T'.heap (locs ++ L) e1.symm (by rw [← e2]; exact X'.warmed.alike) hp hb k1 k2 k3 (by rw [e1]; exact hce) hcv hcl T' rfl X'
    exact ⟨t2, st.trans a1, b1⟩
/-- caught by the row x of this method's table; the rows ahead don't take it -/
theorem vx_catch {own name : String} {E : String} {ce : Cell} {q : Addr} (hown : s.vm.findClass own = some m.cls) (pre : List ExceptionTableEntry) (x : ExceptionTableEntry) (suf : List ExceptionTableEntry) (hsplit : c.exceptionTable.toList = pre ++ x :: suf)
    (hpass : ∀ z ∈ pre, covers z pc = false ∨ (z.catchType ≠ 0 ∧ ∃ nm : String, (Cond.classLink own z.catchType nm).before args s = true ∧ va_Nc E nm s)) (hx : covers x pc = true) (h0 : x.catchType ≠ 0)
    (hlink : (Cond.classLink own x.catchType name).before args s = true) (hcast : (Cond.castable E name).before args s = true) (hcell : H[q]? = some ce) (hv : ce.vm = .none) (hcl : s.vm.findClass E = some ce.cls)
    (kk : W p l e R s m args below meth c H locs cells slots Q (F0 m x.handlerPc ls [.ref q])) : vx_W p l e R s m args below meth c H locs cells slots Q (F0 m pc ls rest) q := by
  intro T hT X
  have hpl : e.platform.magicAccessors = ({} : Platform).magicAccessors := by rw [X.admits.platform]
  obtain ⟨c3, c4, hc3, hc4, hasg⟩ := Cond.castable_spec hcast
  cases Option.some.inj (hc3.symm.trans hcl)
  obtain ⟨c5, hc5, hcl5⟩ := Cond.classLink_spec hown hlink e.platform hpl
  cases Option.some.inj (hc4.symm.trans hc5)
  obtain ⟨vm', X', st⟩ := X.thenCaughtThrough q (g := F0 m pc ls rest) rfl (Steps.refl _) (by rw [hT]; exact hcell) (by rw [hv]; rfl) (by obtain ⟨k9, h9, -⟩ := Vm.findClass_spec hcl; exact ⟨k9, h9⟩) pre x suf hsplit
    (fun z hz => by
      rcases hpass z hz with h | ⟨hz0, nm, hl1, hn1⟩
      · exact Or.inl h
      · obtain ⟨c6, hc6, hcl6⟩ := Cond.classLink_spec hown hl1 e.platform hpl
        obtain ⟨a8, b8, h1, h2, h3⟩ := hn1
        cases Option.some.inj (h1.symm.trans hcl)
        cases Option.some.inj (h2.symm.trans hc6)
        exact Or.inr ⟨hz0, _, hcl6, h3⟩) hx (Or.inr ⟨h0, c4, hcl5, hasg⟩)
  obtain ⟨t, a1, b1⟩ := kk (T.setVm vm') hT X'
  exact ⟨t, st.trans a1, b1⟩
end Rows
section Ends
variable {p : Program} {l : Launch} {e : Env} {R : Room} {s : State} {m : MethodId} {args : Array Value} {below : List Frame} {meth : Method} {c : Code} {H : Heap} {locs : List Loc} {cells slots : Nat} {Q : State → Prop}
variable {mc ms : Nat} {free : Addr → Prop} {A0 A1 : Nat → Prop} {H0 : Heap} {a : Array Value} {ls : Array Slot} {st0 rest : List Value}
variable {Qc : Array Value → State → Outcome → State → Prop} {XC : String → State → State → Prop}
/-- what a body that may throw owes at its end -/
def vx_MQ (below : List Frame) (Qc : Array Value → State → Outcome → State → Prop) (XC : String → State → State → Prop) (a : Array Value) (s : State) (mc ms : Nat) (free : Addr → Prop) : State → Prop := fun t =>
  ∃ o, t.status = .running ∧ Ended t below o ∧ vx_Q Qc XC mc ms free a s o t
theorem vx_ret {g : JFrame} {mc ms : Nat} (k : W p l e R s m args below meth c H locs cells slots (MQ below Qc args s mc ms free) g) : W p l e R s m args below meth c H locs cells slots (vx_MQ below Qc XC args s mc ms free) g := by
  intro T hT X
  obtain ⟨t, a1, o, b1, b2, b3, b4⟩ := k T hT X
  exact ⟨t, a1, o, b1, b2, Or.inl ⟨b3, b4⟩⟩
/-- not caught here: it goes on to the caller -/
theorem vx_widen {g : JFrame} {q : Addr} {k n : Nat} (h1 : cells ≤ k) (h2 : slots ≤ n) (kk : vx_W p l e R s m args below meth c H locs k n Q g q) : vx_W p l e R s m args below meth c H locs cells slots Q g q := fun T hT X => kk T hT (stand_widen X h1 h2)
theorem vx_out {pc : Nat} {E : String} {ce : Cell} {q : Addr} {mc ms : Nat} (hout : ∀ x ∈ c.exceptionTable.toList, covers x pc = false) (hlocks : meth.locks = false) (hcell : H[q]? = some ce) (hv : ce.vm = .none) (hcl : s.vm.findClass E = some ce.cls)
    (hx : ∀ t : State, t.heap = H → s.vm.Alike t.vm → XC E s t) (hf : ∀ z ∈ locs, free z.base) (hc : cells ≤ mc) (hs : slots ≤ ms) :
    vx_W p l e R s m args below meth c H locs cells slots (vx_MQ below Qc XC args s mc ms free) (F0 m pc ls rest) q := by
  intro T hT X
  obtain ⟨st1, hrun, hend, hW, hsm⟩ := X.leaveThrown q (g := F0 m pc ls rest) rfl rfl rfl hout hlocks
  have hcell9 : (T.setFrames (.throwing q :: below)).heap[q]? = some ce := by
    show T.heap[q]? = some ce
    rw [hT]; exact hcell
  exact ⟨_, st1, .threw q, hrun, hend, Or.inr ⟨q, rfl, E, ce, locs, hx _ hT hW.alike, hcell9, hv, hcl, hW, hsm.mono hc hs, hf⟩⟩
theorem vx_frame {U : State} {k n : Nat} (h : s.sameButNew ({ U with vm := s.vm } : State) locs k n) : s.heap.size ≤ U.heap.size ∧ ∀ q : Nat, q < s.heap.size → (∀ z ∈ locs, z.base ≠ q) → U.heap[q]? = s.heap[q]? := by
  obtain ⟨-, h2, -, -, -, h6⟩ := h
  refine ⟨h2, fun q hq hz => ?_⟩
  obtain ⟨c9, e1, e2, e3, e4⟩ := h6 q _ (Array.getElem?_eq_getElem hq)
  have hs : c9.slots = (s.heap[q]).slots := Array.ext_getElem? fun i => e4 i fun hm => hz _ hm rfl
  have h9 : c9 = s.heap[q] := by
    rw [hs] at e2
    exact e2
  have e5 : U.heap[q]? = some c9 := e1
  rw [e5, h9, Array.getElem?_eq_getElem hq]
/-- the words of a throw but the four that speak of the heap -/
def vx_no (w : Cond) : Bool := decide (w ≠ .isRef (.static Bundle.tN "UNASSIGNED_STACK" Bundle.steD)) && decide (w ≠ .isRef (.static Bundle.tN "SUPPRESSED_SENTINEL" Bundle.listD)) && decide (w ≠ .laysStatic Bundle.tN "UNASSIGNED_STACK" Bundle.steD) && decide (w ≠ .laysStatic Bundle.tN "SUPPRESSED_SENTINEL" Bundle.listD)
def vx_at0 (own : String) (ic : Nat) (X : String) (names : List String) : List Cond := (Bundle.ownAtoms0 own ic X names).filter vx_no
def vx_atS (own : String) (ic : Nat) (X : String) (names : List String) : List Cond := (Bundle.ownAtoms own ic X names).filter vx_no
/-- a word that the tables alone decide, or a good one -/
def vx_ot (w : Cond) : Bool := w.onTables || goodWord w
theorem vx_ot_at {args a' : Array Value} {s U : State} {w : Cond} (hW : s.WarmedH U.vm) (hvm : s.vm = U.vm) (hg : vx_ot w = true) (h : w.before args s = true) : w.before a' U = true := by
  simp only [vx_ot, Bool.or_eq_true] at hg
  rcases hg with hg | hg
  · exact va_tabs hg hvm h
  · exact word_at hW (good_of_word hg) h
/-- a list's words: the good ones out of the method's own list, the others by premises of their own -/
theorem vx_hat {args : Array Value} {s : State} {L B : List Cond} (h1 : ∀ w ∈ L.filter goodWord, w.before args s = true) (h2 : ∀ w ∈ L.filter (fun w => !goodWord w), w ∈ B) (h3 : ∀ w ∈ B, w.before args s = true) : ∀ w ∈ L, w.before args s = true := by
  intro w hw
  by_cases g : goodWord w = true
  · exact h1 w (List.mem_filter.mpr ⟨hw, g⟩)
  · refine h3 w (h2 w (List.mem_filter.mpr ⟨hw, ?_⟩))
    show (!goodWord w) = true
    cases hgw : goodWord w
    · rfl
    · exact absurd hgw g
theorem vx_c {args : Array Value} {s : State} {w : Cond} {B : List Cond} (h : w.before args s = true) (t : ∀ w ∈ B, w.before args s = true) : ∀ w' ∈ w :: B, w'.before args s = true := fun w' h' => (List.mem_cons.mp h').elim (fun e => by rw [e]; exact h) (t w')
theorem vx_n {args : Array Value} {s : State} : ∀ w ∈ ([] : List Cond), w.before args s = true := fun _ h => nomatch h
theorem vx_own {args : Array Value} {s : State} {L : List Cond} (h1 : ∀ w ∈ L.filter vx_no, w.before args s = true)
    (hU : (Cond.isRef (.static Bundle.tN "UNASSIGNED_STACK" Bundle.steD)).before args s = true) (hN : (Cond.isRef (.static Bundle.tN "SUPPRESSED_SENTINEL" Bundle.listD)).before args s = true)
    (lU : (Cond.laysStatic Bundle.tN "UNASSIGNED_STACK" Bundle.steD).before args s = true) (lN : (Cond.laysStatic Bundle.tN "SUPPRESSED_SENTINEL" Bundle.listD).before args s = true) : ∀ w ∈ L, w.before args s = true := by
  intro w hw
  by_cases e1 : w = .isRef (.static Bundle.tN "UNASSIGNED_STACK" Bundle.steD)
  · rw [e1]; exact hU
  · by_cases e2 : w = .isRef (.static Bundle.tN "SUPPRESSED_SENTINEL" Bundle.listD)
    · rw [e2]; exact hN
    · by_cases e3 : w = .laysStatic Bundle.tN "UNASSIGNED_STACK" Bundle.steD
      · rw [e3]; exact lU
      · by_cases e4 : w = .laysStatic Bundle.tN "SUPPRESSED_SENTINEL" Bundle.listD
        · rw [e4]; exact lN
        · exact h1 w (List.mem_filter.mpr ⟨hw, by unfold vx_no; rw [decide_eq_true e1, decide_eq_true e2, decide_eq_true e3, decide_eq_true e4]; rfl⟩)
/-- where a static field lies, its class's statics cell in H -/
def vx_L (C n d : String) (A : Nat → Prop) (U : State) (H : Heap) : Prop := ∃ (c : ClassId) (k : Class) (i : Nat) (f : Field) (a : Nat) (cell : Cell), U.vm.findClass C = some c ∧ U.fieldFound? C n d = some (c, k, i, f) ∧ f.isStatic = true ∧ k.statics = some a ∧ H[a]? = some cell ∧ cell.vm.isStatics = true ∧ cell.cls = c ∧ f.slot < cell.slots.size ∧ k.staticTypes[f.slot]? = some f.type ∧ ¬ A a
theorem vx_L.moved {C n d : String} {A : Nat → Prop} {u U : State} {H : Heap} (hvm : u.vm.Alike U.vm) (h : vx_L C n d A u H) : vx_L C n d A U H := by
  obtain ⟨c, k, i, f, a, cell, h1, h2, h3, h4, h5, h6, h7, h8, h9, h10⟩ := h
  obtain ⟨k', hi', he⟩ := State.fieldFound?_setVm hvm h2
  exact ⟨c, k', i, f, a, cell, by rw [hvm.findClass]; exact h1, hi', h3, by rw [he]; exact h4, h5, h6, h7, h8, by rw [he]; exact h9, h10⟩
theorem vx_L.kept {C n d : String} {A : Nat → Prop} {U : State} {H H1 : Heap} (h : vx_L C n d A U H) (hq : ∀ a : Nat, a < H.size → ¬ A a → H1[a]? = H[a]?) : vx_L C n d A U H1 := by
  obtain ⟨c, k, i, f, a, cell, h1, h2, h3, h4, h5, h6, h7, h8, h9, h10⟩ := h
  exact ⟨c, k, i, f, a, cell, h1, h2, h3, h4, by rw [hq a (Array.getElem?_eq_some_iff.mp h5).1 h10]; exact h5, h6, h7, h8, h9, h10⟩
theorem vx_L.narrow {C n d : String} {A B : Nat → Prop} {U : State} {H : Heap} (h : vx_L C n d A U H) (hAB : ∀ q, B q → A q) : vx_L C n d B U H := by
  obtain ⟨c, k, i, f, a, cell, h1, h2, h3, h4, h5, h6, h7, h8, h9, h10⟩ := h
  exact ⟨c, k, i, f, a, cell, h1, h2, h3, h4, h5, h6, h7, h8, h9, fun z => h10 (hAB _ z)⟩
theorem vx_L.word {C n d : String} {A : Nat → Prop} {s : State} {args : Array Value} (h : vx_L C n d A s s.heap) : (Cond.laysStatic C n d).before args s = true := by
  obtain ⟨c, k, i, f, a, cell, h1, h2, h3, h4, h5, h6, h7, h8, h9, -⟩ := h
  show (Cond.laysStatic C n d).holds args s none s [] = true
  exact Cond.laysStatic_of h1 h2 h3 h4 h5 h6 h7 h8 h9
/-- .. and what it holds: null or some reference -/
def vx_Zq (C n d : String) (A : Nat → Prop) (U : State) (H : Heap) : Prop := va_Zq C n d A U H ∧ vx_L C n d A U H
theorem vx_Zq.moved {C n d : String} {A : Nat → Prop} {u U : State} {H : Heap} (hvm : u.vm.Alike U.vm) (h : vx_Zq C n d A u H) : vx_Zq C n d A U H := ⟨va_Zq.moved hvm h.1, vx_L.moved hvm h.2⟩
theorem vx_Zq.kept {C n d : String} {A : Nat → Prop} {U : State} {H H1 : Heap} (h : vx_Zq C n d A U H) (hq : ∀ a : Nat, a < H.size → ¬ A a → H1[a]? = H[a]?) : vx_Zq C n d A U H1 := ⟨va_Zq.kept h.1 hq, vx_L.kept h.2 hq⟩
theorem vx_Zq.narrow {C n d : String} {A B : Nat → Prop} {U : State} {H : Heap} (h : vx_Zq C n d A U H) (hAB : ∀ q, B q → A q) : vx_Zq C n d B U H := ⟨va_Zq.narrow h.1 hAB, vx_L.narrow h.2 hAB⟩
theorem vx_Zqof {args : Array Value} {s : State} {C n d : String} {A : Nat → Prop} (hl : (Cond.laysStatic C n d).before args s = true) (hini : (Cond.initialized C).before args s = true) (h : (Cond.isRef (.static C n d)).before args s = true) (hA : ∀ a : Nat, a < s.heap.size → ¬ A a) : vx_Zq C n d A s s.heap := by
  refine ⟨va_Zqof hl hini h hA, ?_⟩
  obtain ⟨c, k, i, f, a, cell, h1, h2, h3, h4, h5, h6, h7, h8, h9⟩ := Cond.laysStatic_spec hl
  exact ⟨c, k, i, f, a, cell, h1, h2, h3, h4, h5, h6, h7, h8, h9, hA a (Array.getElem?_eq_some_iff.mp h5).1⟩
theorem vx_isRef {C n d : String} {v : Value} {A : Nat → Prop} {s : State} {args : Array Value} (h : va_Z C n d v A s s.heap) (hv : v.isRef = true) : (Cond.isRef (.static C n d)).before args s = true := by
  obtain ⟨cf, kf, fi, f, a, cell, h1, h2, h3, h4, h5, h6, h7, -⟩ := h
  have he : (Term.static C n d).eval args s none [] s = some v := by
    simp [Term.eval, State.fieldNamed?, h1, h2, h4, h5, h6, h7]
  simp only [Cond.before, Cond.holds, Cond.value, he]
  cases v <;> simp_all [Value.isRef]
theorem vx_isRefq {C n d : String} {A : Nat → Prop} {s : State} {args : Array Value} (h : va_Zq C n d A s s.heap) : (Cond.isRef (.static C n d)).before args s = true := by
  rcases h with h | ⟨t, h⟩
  · exact vx_isRef h rfl
  · exact vx_isRef h rfl
/-- the same frame, seen from here: as if the method were called anew in this heap -/
theorem vx_rebase {T : State} (X : Stand p l e R s m args below meth c T locs cells slots) {R' : Room} (hf : R'.frames ≤ R.frames) (hl : R'.locals ≤ R.locals) (hc : cells + R'.cells ≤ R.cells) (hs : slots + R'.slots ≤ R.slots) :
    Stand p l e R' ((T.setVm s.vm).setFrames (.invoking m args :: below)) m args below meth c T [] 0 0 := by
  have htop : (T.setVm s.vm).topJava?.isSome := X.here.top
  have hF : ((T.setVm s.vm).setFrames (.invoking m args :: below)).frames = .invoking m args :: below := State.frames_setFrames _ (State.cur_lt_of_top htop)
  obtain ⟨g₀, hg0⟩ := Option.isSome_iff_exists.mp htop
  obtain ⟨r, hr⟩ := State.topJava?_eq_some.mp hg0
  have hl9 : e.platform.stackLimits (T.setVm s.vm).me = e.platform.stackLimits s.me := X.limits
  have hb9 : (T.setVm s.vm).me.stackBytes = s.me.stackBytes := X.bytes
  refine ⟨X.admits, X.cas, X.clock, hF, ?_, X.hears, X.method, X.code, X.here, X.tail, X.warmed, ?_, ?_, ?_⟩
  · have h := X.room
    have hU : ((T.setVm s.vm).setFrames (.invoking m args :: below)).localsInUse = s.localsInUse := by
      rw [State.localsInUse_invoking hF (meth := meth) (c := c) X.method X.code, State.localsInUse_invoking X.frames X.method X.code]
    simp only [State.hasRoom, Bool.and_eq_true, decide_eq_true_eq] at h ⊢
    obtain ⟨⟨⟨⟨h1, h2, h3, h4, h5, h6⟩, h7⟩, h8⟩, h9⟩ := h
    rw [X.frames, List.length_cons] at h2 h3
    have q1 := X.heapSize
    have q2 := X.used
    simp only [hF, hU, List.length_cons, State.stackLimits_setFrames, State.stackBytes_setFrames, hl9, hb9]
    refine ⟨⟨⟨⟨by omega, by omega, by omega, by omega, by omega, h6⟩, ?_⟩, ?_⟩, X.book⟩
    · show T.heap.size + R'.cells ≤ e.platform.maxCells
      omega
    · show T.slotsUsed + R'.slots ≤ e.platform.maxSlots
      omega
  · rw [State.stackLimits_setFrames]; rfl
  · rw [State.stackBytes_setFrames]; rfl
  · refine ⟨?_, Nat.le_refl _, Nat.le_refl _, ?_, ?_, fun a c9 h9 => ⟨c9, h9, rfl, rfl, fun _ _ => rfl⟩⟩
    · obtain ⟨t, ht, -⟩ := State.frames_cons hr
      show T.setVm s.vm = { ((T.setVm s.vm).setFrames (.invoking m args :: below)).setFrames (T.setVm s.vm).frames with heap := T.heap, slotsUsed := T.slotsUsed }
      rw [State.setFrames_setFrames, State.setFrames_self ht]
      rfl
    · show T.slotsUsed = T.slotsUsed + ((T.heap.toList.drop T.heap.size).map (·.slots.size)).sum
      rw [List.drop_eq_nil_of_le (Nat.le_of_eq Array.length_toList)]
      rfl
    · show ((T.heap.toList.drop T.heap.size).map (·.slots.size)).sum ≤ 0
      rw [List.drop_eq_nil_of_le (Nat.le_of_eq Array.length_toList)]
      exact Nat.le_refl _
/-- 'throw new E()': new; dup; invokespecial; athrow -/
theorem vx_throw0 {cc : ByteArray} {pc : Nat} (hexec : p.tables.exec = Jvm.exec) (hb : c.code = cc) (hl : l.stackTraces = false) {own cls : String} {names : List String} {ik ic mc ms : Nat} {A : Nat → Prop}
    (hown : s.vm.findClass own = some m.cls) (hcls : Bundle.fit cls = true) (hnames : ∀ n ∈ names, Bundle.fit n = true)
    (hk : (Cond.classLink own ik cls).before args s = true) (hini : (Cond.initialized cls).before args s = true) (hat : ∀ w ∈ vx_at0 own ic cls names, w.before args s = true)
    (hgood : ∀ w ∈ Cond.classLink own ik cls :: Cond.initialized cls :: vx_at0 own ic cls names, vx_ot w = true)
    (hU : vx_Zq Bundle.tN "UNASSIGNED_STACK" Bundle.steD A s s.heap) (hN : vx_Zq Bundle.tN "SUPPRESSED_SENTINEL" Bundle.listD A s s.heap) (hS : va_S A s.heap H locs) (hsize : ls.size = c.maxLocals)
    (d0 : decode cc pc = .ok (.new ik, 3)) (d3 : decode cc (pc + 3) = .ok (.dup, 1)) (d4 : decode cc (pc + 4) = .ok (.invokespecial ic, 3)) (d7 : decode cc (pc + 7) = .ok (.athrow, 1))
    (hout : ∀ x ∈ c.exceptionTable.toList, covers x (pc + 7) = false)
    (hRframes : names.length + 3 < R.frames) (hRlocals : (rest.map fun v => v.category).sum + (13 * (names.length + 1) + 42) ≤ R.locals) (hRcells : cells + 1 ≤ R.cells) (hRslots : slots + 6 ≤ R.slots) (hlocks : meth.locks = false)
    (hx : ∀ t : State, s.vm.Alike t.vm → H.size ≤ t.heap.size → (∀ q : Nat, q < H.size → t.heap[q]? = H[q]?) → XC cls s t)
    (hf : ∀ z ∈ locs, free z.base) (hc : cells + 1 ≤ mc) (hs : slots + 6 ≤ ms) :
    W p l e R s m args below meth c H locs cells slots (vx_MQ below Qc XC args s mc ms free) (F0 m pc ls rest) := by
  intro T hT X
  have htr : e.platform.stackTraces = false := (show e.platform.stackTraces = l.stackTraces by rw [X.admits.platform]).trans hl
  have Y := vx_rebase X (R' := { frames := R.frames, locals := R.locals, cells := 1, slots := 6 }) (Nat.le_refl _) (Nat.le_refl _) hRcells hRslots
  obtain ⟨s', hA⟩ : ∃ z, z = (T.setVm s.vm).setFrames (.invoking m args :: below) := ⟨_, rfl⟩
  rw [← hA] at Y
  have hvm : s'.vm = s.vm := by rw [hA]; rfl
  have hhp : s'.heap = H := by rw [hA]; exact hT
  have hW0 : s.WarmedH s'.vm := by rw [hvm]; exact State.WarmedH.refl s
  have hat' : ∀ w ∈ vx_at0 own ic cls names, w.before args s' = true := fun w hw => vx_ot_at hW0 hvm.symm (hgood w (List.mem_cons_of_mem _ (List.mem_cons_of_mem _ hw))) (hat w hw)
  have hk' : (Cond.classLink own ik cls).before args s' = true := vx_ot_at hW0 hvm.symm (hgood _ List.mem_cons_self) hk
  have hini' : (Cond.initialized cls).before args s' = true := vx_ot_at hW0 hvm.symm (hgood _ (List.mem_cons_of_mem _ List.mem_cons_self)) hini
  have hU' : vx_Zq Bundle.tN "UNASSIGNED_STACK" Bundle.steD A s' s'.heap := by rw [hhp]; exact vx_Zq.moved hW0.alike (hU.kept hS.2.1)
  have hN' : vx_Zq Bundle.tN "SUPPRESSED_SENTINEL" Bundle.listD A s' s'.heap := by rw [hhp]; exact vx_Zq.moved hW0.alike (hN.kept hS.2.1)
  have h : ∀ w ∈ Bundle.ownAtoms0 own ic cls names, w.before args s' = true := vx_own hat' (vx_isRefq hU'.1) (vx_isRefq hN'.1) hU'.2.word hN'.2.word
  have hown' : s'.vm.findClass own = some m.cls := by rw [hvm]; exact hown
  have hins : (Cond.instantiable cls 6).before args s' = true := h _ (by simp [Bundle.ownAtoms0])
  obtain ⟨vm₁, cX, kX, hfX, hkX, -, -, X₁, st1⟩ := Y.newCold hexec (own := own) (C := cls) (index := ik) (n := 6) hown' hk' hins hini'
    (g := F0 m pc ls rest) rfl (by rw [hb]; exact d0) (Nat.le_refl _) (Nat.le_refl _)
  generalize hT1 : (T.setVm vm₁).pushCell { cls := cX, slots := kX.instanceTypes.map defaultValue, vm := .none } = T1 at X₁ st1
  have hcat : (Value.ref T.heap.size).category = 1 := rfl
  have hcellA : T1.heap[T.heap.size]? = some (freshCell cX kX) := by rw [← hT1]; exact State.heap_pushCell_size _ _
  have d3' : decode c.code (pc + 3) = .ok (.dup, 1) := by rw [hb]; exact d3
  obtain ⟨U, hsteps, hrun, hend, hW, hsame, ce, hce, hO⟩ := X₁.ctorThrow0 hexec htr (own := own) (cls := cls) (names := names) (ic := ic) hown' hcls hnames h (fun x hx => nomatch hx) hfX hkX hcellA (by rw [hhp, hT]; exact Nat.le_refl _)
    (g := { method := m, pc := pc + 4, locals := ls, stack := .ref T.heap.size :: .ref T.heap.size :: rest, locked := none }) rfl hsize rfl rfl (rest := rest) rfl
    (by rw [hb]; exact d4) (by rw [hb]; exact d7) hout hRframes (by simp only [List.map_cons, List.sum_cons, hcat]; omega) hlocks
  obtain ⟨f1, f2⟩ := vx_frame hsame
  rw [hhp] at f1 f2
  have hWs : s.WarmedH U.vm := State.WarmedH.trans hW0 hW
  have hcl : s.vm.findClass cls = some ce.cls := by
    have h9 := hO.cls
    rw [hvm] at h9
    exact h9
  have hall : s.sameButNew ({ U with vm := s.vm } : State) locs mc ms := by
    subst hA
    obtain ⟨e1, e2⟩ := hsame
    rw [State.setFrames_setFrames] at e1
    have h2 : (T.setVm s.vm).sameButNew ({ U with vm := s.vm } : State) [] (0 + 1) (0 + 6) := ⟨e1, e2⟩
    have h3 := X.same.trans h2
    rw [List.append_nil] at h3
    exact h3.mono hc hs
  refine ⟨U, ?_, .threw T.heap.size, hrun, hend, Or.inr ⟨T.heap.size, rfl, cls, ce, locs, hx U hWs.alike f1 (fun q hq => f2 q hq (fun z hz => nomatch hz)), hce, hO.vm, hcl, hWs, hall, hf⟩⟩
  refine st1 _ ?_
  show Steps p.tables e below (T1.setTop { method := m, pc := pc + 3, locals := ls, stack := .ref T.heap.size :: rest, locked := none }) _
  jvm_step X₁.here [X₁.here.top, hexec, d3', Value.category]
  exact hsteps
/-- 'throw new E("text")': new; dup; ldc; invokespecial; athrow -/
theorem vx_throwS {cc : ByteArray} {pc : Nat} (hexec : p.tables.exec = Jvm.exec) (hb : c.code = cc) (hl : l.stackTraces = false) {own cls text : String} {names : List String} {ik is ic mc ms sa : Nat} {A : Nat → Prop}
    (hown : s.vm.findClass own = some m.cls) (hcls : Bundle.fit cls = true) (hnames : ∀ n ∈ names, Bundle.fit n = true)
    (hk : (Cond.classLink own ik cls).before args s = true) (hini : (Cond.initialized cls).before args s = true) (hstr : vk_R own is text sa s) (hat : ∀ w ∈ vx_atS own ic cls names, w.before args s = true)
    (hgood : ∀ w ∈ Cond.classLink own ik cls :: Cond.initialized cls :: vx_atS own ic cls names, vx_ot w = true)
    (hU : vx_Zq Bundle.tN "UNASSIGNED_STACK" Bundle.steD A s s.heap) (hN : vx_Zq Bundle.tN "SUPPRESSED_SENTINEL" Bundle.listD A s s.heap) (hS : va_S A s.heap H locs) (hsize : ls.size = c.maxLocals)
    (d0 : decode cc pc = .ok (.new ik, 3)) (d3 : decode cc (pc + 3) = .ok (.dup, 1)) (d4 : decode cc (pc + 4) = .ok (.ldc is, 2)) (d6 : decode cc (pc + 6) = .ok (.invokespecial ic, 3)) (d9 : decode cc (pc + 9) = .ok (.athrow, 1))
    (hout : ∀ x ∈ c.exceptionTable.toList, covers x (pc + 9) = false)
    (hRframes : names.length + 3 < R.frames) (hRlocals : (rest.map fun v => v.category).sum + (13 * (names.length + 1) + 43) ≤ R.locals) (hRcells : cells + 1 ≤ R.cells) (hRslots : slots + 6 ≤ R.slots) (hlocks : meth.locks = false)
    (hx : ∀ t : State, s.vm.Alike t.vm → H.size ≤ t.heap.size → (∀ q : Nat, q < H.size → t.heap[q]? = H[q]?) → XC cls s t)
    (hf : ∀ z ∈ locs, free z.base) (hc : cells + 1 ≤ mc) (hs : slots + 6 ≤ ms) :
    W p l e R s m args below meth c H locs cells slots (vx_MQ below Qc XC args s mc ms free) (F0 m pc ls rest) := by
  intro T hT X
  have htr : e.platform.stackTraces = false := (show e.platform.stackTraces = l.stackTraces by rw [X.admits.platform]).trans hl
  have Y := vx_rebase X (R' := { frames := R.frames, locals := R.locals, cells := 1, slots := 6 }) (Nat.le_refl _) (Nat.le_refl _) hRcells hRslots
  obtain ⟨s', hA⟩ : ∃ z, z = (T.setVm s.vm).setFrames (.invoking m args :: below) := ⟨_, rfl⟩
  rw [← hA] at Y
  have hvm : s'.vm = s.vm := by rw [hA]; rfl
  have hhp : s'.heap = H := by rw [hA]; exact hT
  have hW0 : s.WarmedH s'.vm := by rw [hvm]; exact State.WarmedH.refl s
  have hat' : ∀ w ∈ vx_atS own ic cls names, w.before args s' = true := fun w hw => vx_ot_at hW0 hvm.symm (hgood w (List.mem_cons_of_mem _ (List.mem_cons_of_mem _ hw))) (hat w hw)
  have hk' : (Cond.classLink own ik cls).before args s' = true := vx_ot_at hW0 hvm.symm (hgood _ List.mem_cons_self) hk
  have hini' : (Cond.initialized cls).before args s' = true := vx_ot_at hW0 hvm.symm (hgood _ (List.mem_cons_of_mem _ List.mem_cons_self)) hini
  have hU' : vx_Zq Bundle.tN "UNASSIGNED_STACK" Bundle.steD A s' s'.heap := by rw [hhp]; exact vx_Zq.moved hW0.alike (hU.kept hS.2.1)
  have hN' : vx_Zq Bundle.tN "SUPPRESSED_SENTINEL" Bundle.listD A s' s'.heap := by rw [hhp]; exact vx_Zq.moved hW0.alike (hN.kept hS.2.1)
  have h : ∀ w ∈ Bundle.ownAtoms own ic cls names, w.before args s' = true := vx_own hat' (vx_isRefq hU'.1) (vx_isRefq hN'.1) hU'.2.word hN'.2.word
  have hown' : s'.vm.findClass own = some m.cls := by rw [hvm]; exact hown
  have hins : (Cond.instantiable cls 6).before args s' = true := h _ (by simp [Bundle.ownAtoms])
  obtain ⟨vm₁, cX, kX, hfX, hkX, -, -, X₁, st1⟩ := Y.newCold hexec (own := own) (C := cls) (index := ik) (n := 6) hown' hk' hins hini'
    (g := F0 m pc ls rest) rfl (by rw [hb]; exact d0) (Nat.le_refl _) (Nat.le_refl _)
  generalize hT1 : (T.setVm vm₁).pushCell { cls := cX, slots := kX.instanceTypes.map defaultValue, vm := .none } = T1 at X₁ st1
  have hcat : (Value.ref T.heap.size).category = 1 := rfl
  have hcellA : T1.heap[T.heap.size]? = some (freshCell cX kX) := by rw [← hT1]; exact State.heap_pushCell_size _ _
  have d3' : decode c.code (pc + 3) = .ok (.dup, 1) := by rw [hb]; exact d3
  have d4' : decode c.code (pc + 4) = .ok (.ldc is, 2) := by rw [hb]; exact d4
  have hstr' : vk_R own is text sa s' := vk_R.warm hW0 hstr
  obtain ⟨U, hsteps, hrun, hend, hW, hsame, ce, hce, hO⟩ := X₁.ctorThrowS hexec htr (own := own) (cls := cls) (names := names) (ic := ic) hown' hcls hnames h (fun x hx => nomatch hx) hfX hkX hcellA (by rw [hhp, hT]; exact Nat.le_refl _) (msg := .ref sa) rfl
    (g := { method := m, pc := pc + 6, locals := ls, stack := .ref sa :: .ref T.heap.size :: .ref T.heap.size :: rest, locked := none }) rfl hsize rfl rfl (rest := rest) rfl
    (by rw [hb]; exact d6) (by rw [hb]; exact d9) hout hRframes (by simp only [List.map_cons, List.sum_cons, hcat]; omega) hlocks
  obtain ⟨f1, f2⟩ := vx_frame hsame
  rw [hhp] at f1 f2
  have hWs : s.WarmedH U.vm := State.WarmedH.trans hW0 hW
  have hcl : s.vm.findClass cls = some ce.cls := by
    have h9 := hO.cls
    rw [hvm] at h9
    exact h9
  have hall : s.sameButNew ({ U with vm := s.vm } : State) locs mc ms := by
    subst hA
    obtain ⟨e1, e2⟩ := hsame
    rw [State.setFrames_setFrames] at e1
    have h2 : (T.setVm s.vm).sameButNew ({ U with vm := s.vm } : State) [] (0 + 1) (0 + 6) := ⟨e1, e2⟩
    have h3 := X.same.trans h2
    rw [List.append_nil] at h3
    exact h3.mono hc hs
  refine ⟨U, ?_, .threw T.heap.size, hrun, hend, Or.inr ⟨T.heap.size, rfl, cls, ce, locs, hx U hWs.alike f1 (fun q hq => f2 q hq (fun z hz => nomatch hz)), hce, hO.vm, hcl, hWs, hall, hf⟩⟩
  refine st1 _ ?_
  show Steps p.tables e below (T1.setTop { method := m, pc := pc + 3, locals := ls, stack := .ref T.heap.size :: rest, locked := none }) _
  jvm_step X₁.here [X₁.here.top, hexec, d3', Value.category]
  exact X₁.ldcString hexec (own := own) (text := text) (index := is) (a := sa) hown' hstr'.1 hstr'.2
    (g := { method := m, pc := pc + 4, locals := ls, stack := .ref T.heap.size :: .ref T.heap.size :: rest, locked := none }) rfl d4' _ hsteps
/-- 'throw new E("text")', the text by a wide index -/
theorem vx_throwSW {cc : ByteArray} {pc : Nat} (hexec : p.tables.exec = Jvm.exec) (hb : c.code = cc) (hl : l.stackTraces = false) {own cls text : String} {names : List String} {ik is ic mc ms sa : Nat} {A : Nat → Prop}
    (hown : s.vm.findClass own = some m.cls) (hcls : Bundle.fit cls = true) (hnames : ∀ n ∈ names, Bundle.fit n = true)
    (hk : (Cond.classLink own ik cls).before args s = true) (hini : (Cond.initialized cls).before args s = true) (hstr : vk_R own is text sa s) (hat : ∀ w ∈ vx_atS own ic cls names, w.before args s = true)
    (hgood : ∀ w ∈ Cond.classLink own ik cls :: Cond.initialized cls :: vx_atS own ic cls names, vx_ot w = true)
    (hU : vx_Zq Bundle.tN "UNASSIGNED_STACK" Bundle.steD A s s.heap) (hN : vx_Zq Bundle.tN "SUPPRESSED_SENTINEL" Bundle.listD A s s.heap) (hS : va_S A s.heap H locs) (hsize : ls.size = c.maxLocals)
    (d0 : decode cc pc = .ok (.new ik, 3)) (d3 : decode cc (pc + 3) = .ok (.dup, 1)) (d4 : decode cc (pc + 4) = .ok (.ldc_w is, 3)) (d7 : decode cc (pc + 7) = .ok (.invokespecial ic, 3)) (d10 : decode cc (pc + 10) = .ok (.athrow, 1))
    (hout : ∀ x ∈ c.exceptionTable.toList, covers x (pc + 10) = false)
    (hRframes : names.length + 3 < R.frames) (hRlocals : (rest.map fun v => v.category).sum + (13 * (names.length + 1) + 43) ≤ R.locals) (hRcells : cells + 1 ≤ R.cells) (hRslots : slots + 6 ≤ R.slots) (hlocks : meth.locks = false)
    (hx : ∀ t : State, s.vm.Alike t.vm → H.size ≤ t.heap.size → (∀ q : Nat, q < H.size → t.heap[q]? = H[q]?) → XC cls s t)
    (hf : ∀ z ∈ locs, free z.base) (hc : cells + 1 ≤ mc) (hs : slots + 6 ≤ ms) :
    W p l e R s m args below meth c H locs cells slots (vx_MQ below Qc XC args s mc ms free) (F0 m pc ls rest) := by
  intro T hT X
  have htr : e.platform.stackTraces = false := (show e.platform.stackTraces = l.stackTraces by rw [X.admits.platform]).trans hl
  have Y := vx_rebase X (R' := { frames := R.frames, locals := R.locals, cells := 1, slots := 6 }) (Nat.le_refl _) (Nat.le_refl _) hRcells hRslots
  obtain ⟨s', hA⟩ : ∃ z, z = (T.setVm s.vm).setFrames (.invoking m args :: below) := ⟨_, rfl⟩
  rw [← hA] at Y
  have hvm : s'.vm = s.vm := by rw [hA]; rfl
  have hhp : s'.heap = H := by rw [hA]; exact hT
  have hW0 : s.WarmedH s'.vm := by rw [hvm]; exact State.WarmedH.refl s
  have hat' : ∀ w ∈ vx_atS own ic cls names, w.before args s' = true := fun w hw => vx_ot_at hW0 hvm.symm (hgood w (List.mem_cons_of_mem _ (List.mem_cons_of_mem _ hw))) (hat w hw)
  have hk' : (Cond.classLink own ik cls).before args s' = true := vx_ot_at hW0 hvm.symm (hgood _ List.mem_cons_self) hk
  have hini' : (Cond.initialized cls).before args s' = true := vx_ot_at hW0 hvm.symm (hgood _ (List.mem_cons_of_mem _ List.mem_cons_self)) hini
  have hU' : vx_Zq Bundle.tN "UNASSIGNED_STACK" Bundle.steD A s' s'.heap := by rw [hhp]; exact vx_Zq.moved hW0.alike (hU.kept hS.2.1)
  have hN' : vx_Zq Bundle.tN "SUPPRESSED_SENTINEL" Bundle.listD A s' s'.heap := by rw [hhp]; exact vx_Zq.moved hW0.alike (hN.kept hS.2.1)
  have h : ∀ w ∈ Bundle.ownAtoms own ic cls names, w.before args s' = true := vx_own hat' (vx_isRefq hU'.1) (vx_isRefq hN'.1) hU'.2.word hN'.2.word
  have hown' : s'.vm.findClass own = some m.cls := by rw [hvm]; exact hown
  have hins : (Cond.instantiable cls 6).before args s' = true := h _ (by simp [Bundle.ownAtoms])
  obtain ⟨vm₁, cX, kX, hfX, hkX, -, -, X₁, st1⟩ := Y.newCold hexec (own := own) (C := cls) (index := ik) (n := 6) hown' hk' hins hini'
    (g := F0 m pc ls rest) rfl (by rw [hb]; exact d0) (Nat.le_refl _) (Nat.le_refl _)
  generalize hT1 : (T.setVm vm₁).pushCell { cls := cX, slots := kX.instanceTypes.map defaultValue, vm := .none } = T1 at X₁ st1
  have hcat : (Value.ref T.heap.size).category = 1 := rfl
  have hcellA : T1.heap[T.heap.size]? = some (freshCell cX kX) := by rw [← hT1]; exact State.heap_pushCell_size _ _
  have d3' : decode c.code (pc + 3) = .ok (.dup, 1) := by rw [hb]; exact d3
  have d4' : decode c.code (pc + 4) = .ok (.ldc_w is, 3) := by rw [hb]; exact d4
  have hstr' : vk_R own is text sa s' := vk_R.warm hW0 hstr
  obtain ⟨U, hsteps, hrun, hend, hW, hsame, ce, hce, hO⟩ := X₁.ctorThrowS hexec htr (own := own) (cls := cls) (names := names) (ic := ic) hown' hcls hnames h (fun x hx => nomatch hx) hfX hkX hcellA (by rw [hhp, hT]; exact Nat.le_refl _) (msg := .ref sa) rfl
    (g := { method := m, pc := pc + 7, locals := ls, stack := .ref sa :: .ref T.heap.size :: .ref T.heap.size :: rest, locked := none }) rfl hsize rfl rfl (rest := rest) rfl
    (by rw [hb]; exact d7) (by rw [hb]; exact d10) hout hRframes (by simp only [List.map_cons, List.sum_cons, hcat]; omega) hlocks
  obtain ⟨f1, f2⟩ := vx_frame hsame
  rw [hhp] at f1 f2
  have hWs : s.WarmedH U.vm := State.WarmedH.trans hW0 hW
  have hcl : s.vm.findClass cls = some ce.cls := by
    have h9 := hO.cls
    rw [hvm] at h9
    exact h9
  have hall : s.sameButNew ({ U with vm := s.vm } : State) locs mc ms := by
    subst hA
    obtain ⟨e1, e2⟩ := hsame
    rw [State.setFrames_setFrames] at e1
    have h2 : (T.setVm s.vm).sameButNew ({ U with vm := s.vm } : State) [] (0 + 1) (0 + 6) := ⟨e1, e2⟩
    have h3 := X.same.trans h2
    rw [List.append_nil] at h3
    exact h3.mono hc hs
  refine ⟨U, ?_, .threw T.heap.size, hrun, hend, Or.inr ⟨T.heap.size, rfl, cls, ce, locs, hx U hWs.alike f1 (fun q hq => f2 q hq (fun z hz => nomatch hz)), hce, hO.vm, hcl, hWs, hall, hf⟩⟩
  refine st1 _ ?_
  show Steps p.tables e below (T1.setTop { method := m, pc := pc + 3, locals := ls, stack := .ref T.heap.size :: rest, locked := none }) _
  jvm_step X₁.here [X₁.here.top, hexec, d3', Value.category]
  exact X₁.ldcStringW hexec (own := own) (text := text) (index := is) (a := sa) hown' hstr'.1 hstr'.2
    (g := { method := m, pc := pc + 4, locals := ls, stack := .ref T.heap.size :: .ref T.heap.size :: rest, locked := none }) rfl d4' _ hsteps
end Ends
section Bodies
variable {l : Launch}
theorem vx_ofW {y : MethodName} {ws ws' : List Cond} {rm : Room} {Pc : Array Value → State → Prop} {Qc : Array Value → State → Outcome → State → Prop} {XC : String → State → State → Prop} {mc ms : Nat} {free : Addr → Prop} {cc : ByteArray} {maxL : Nat} {ret : Option FieldType}
    (hy : plainName y.cls = true) (hw : ws = Cond.code y cc maxL ret :: ws')
    (body : ∀ p e s m args below meth c s₁, BodyLoose p l y (headSpec ws rm) cc maxL ret e s m args below meth c s₁ → c.maxLocals = maxL → (∀ x ∈ c.exceptionTable.toList, False) → Pc args s →
      W p l e (headSpec ws rm).room s m args below meth c s.heap [] 0 0 (vx_MQ below Qc XC args s mc ms free) (entryFrame m args maxL)) : vx_Met l y ws rm Pc Qc XC mc ms free := by
  refine MetFree.of_bodyS (code := cc) (maxLocals := maxL) (ret := ret) hy ?_ ?_
  · intro args s m h hn
    obtain ⟨meth, c, h1, h2, h3, h4, h5, h6, -, -⟩ := Cond.code_spec hn (atoms_spec (ws := ws) h _ (by rw [hw]; exact List.mem_cons_self))
    exact ⟨meth, c, h1, h2, h3, h4, h5, h6⟩
  · intro p e s m args below meth c s₁ B hml hP _
    have hh0 : s₁.heap = s.heap := by rw [B.state]; rfl
    have ht : ∀ x ∈ c.exceptionTable.toList, False := by
      obtain ⟨meth9, c9, h1, h2, -, -, -, -, h7, -⟩ := Cond.code_spec B.named (atoms_spec (ws := ws) B.pre _ (by rw [hw]; exact List.mem_cons_self))
      cases Option.some.inj (h1.symm.trans B.method)
      cases Option.some.inj (h2.symm.trans (Stand.of_body B).code)
      intro x hx
      rw [Array.isEmpty_iff.mp h7] at hx
      cases hx
    obtain ⟨t, a1, o, b1, b2, b3⟩ := body p e s m args below meth c s₁ B hml ht hP s₁ hh0 (Stand.of_body B)
    exact ⟨t, o, a1, b1, b2, b3⟩
/-- the table of a body with handlers -/
theorem vx_table {p : Program} {x y : MethodName} {S : Spec} {cc bytes : ByteArray} {maxL maxL' : Nat} {ret ret' : Option FieldType} {e : Env} {s s₁ : State} {m : MethodId} {args : Array Value} {below : List Frame} {meth : Method} {c : Code} {hh : List (Nat × Nat × Nat × Nat)}
    (B : BodyLoose p l y S cc maxL ret e s m args below meth c s₁) (h : (Cond.codeWith y bytes maxL' ret' hh).before args s = true) : c.exceptionTable.toList = tableOf hh := by
  obtain ⟨m9, meth9, c9, hn9, h1, h2, -, -, h6, -⟩ := Cond.codeWith_spec h
  cases Option.some.inj (hn9.symm.trans B.named)
  cases Option.some.inj (h1.symm.trans B.method)
  cases Option.some.inj (h2.symm.trans (Stand.of_body B).code)
  rw [← h6, table_eq]
end Bodies
end VXA
/-! ===== END ===== -/
/-! ===== BEGIN a static call of a method with an exception table ===== -/
section VXS
variable {p : Program} {l : Launch} {e : Env} {R : Room} {s : State} {m : MethodId} {args : Array Value} {below : List Frame} {meth : Method} {c : Code} {T : State} {H : Heap} {locs : List Loc} {cells slots : Nat}
abbrev vx_CSW (R : Room) (s : State) (args : Array Value) (own : String) (index : Nat) (y : MethodName) (bytes : ByteArray) (maxL : Nat) (ret : Option FieldType) (hh : List (Nat × Nat × Nat × Nat)) (ws : List Cond) (rm : Room) (mc ms n : Nat) : Prop :=
  (rm.cells = mc ∧ rm.slots = ms ∧ rm.frames + 1 ≤ R.frames ∧ 8 + (maxL + 11) + rm.locals ≤ R.locals ∧ (∀ w ∈ ws, ∀ (a' : Array Value) (U : State), s.WarmedH U.vm → w.before a' U = true) ∧ Cond.codeWith y bytes maxL ret hh ∈ ws) ∧
  (Cond.codeWith y bytes maxL ret hh).before args s = true ∧ (Cond.initialized y.cls).before args s = true ∧ (y.cls ≠ "java/lang/invoke/MethodHandle" ∧ y.cls ≠ "java/lang/invoke/VarHandle") ∧
  (∀ sig, parseMethodDescriptor y.desc = some sig → n = sig.parameters.length) ∧ (Cond.methodLink own index y).before args s = true ∧ (Cond.static y).before args s = true
theorem vx_cwSW {own : String} {index maxL mc ms : Nat} {y : MethodName} {bytes : ByteArray} {ret : Option FieldType} {hh : List (Nat × Nat × Nat × Nat)} {Ts ws ws' : List Cond} {rm : Room} (n : Nat) (ht : ∀ w ∈ Ts, w.before args s = true) (hT : GoodIn Ts (va_wsS own index y ws)) (hw : ws = Cond.codeWith y bytes maxL ret hh :: ws') (hrc : rm.cells = mc) (hrs : rm.slots = ms)
    (hd : y.cls ≠ "java/lang/invoke/MethodHandle" ∧ y.cls ≠ "java/lang/invoke/VarHandle" ∧ (parseMethodDescriptor y.desc).map (fun d => d.parameters.length) = some n) (hR : rm.frames + 1 ≤ R.frames ∧ 8 + (maxL + 11) + rm.locals ≤ R.locals) :
    vx_CSW R s args own index y bytes maxL ret hh ws rm mc ms n := by
  have ok : ∀ w ∈ va_wsS own index y ws, w.before args s = true := fun w h => ht w (hT w h).1
  have hG : GoodIn Ts ws := fun w h => hT w (by unfold va_wsS; exact List.mem_append_right _ h)
  have hc : Cond.codeWith y bytes maxL ret hh ∈ ws := by rw [hw]; exact List.mem_cons_self
  refine ⟨⟨hrc, hrs, hR.1, hR.2, pay_in ht hG, hc⟩, ht _ (hG _ hc).1, ok _ (by simp [va_wsS]), ⟨hd.1, hd.2.1⟩, fun sig h => ?_, ok _ (by simp [va_wsS]), ok _ (by simp [va_wsS])⟩
  have h2 := hd.2.2
  rw [h] at h2
  exact (Option.some.inj h2).symm
theorem vx_callSW (X : Stand p l e R s m args below meth c T locs cells slots) (hexec : p.tables.exec = Jvm.exec) {own : String} {index : Nat} {y : MethodName} {bytes : ByteArray} {maxL : Nat} {ret : Option FieldType} {hh : List (Nat × Nat × Nat × Nat)}
    (hown : s.vm.findClass own = some m.cls) (hlink : (Cond.methodLink own index y).before args s = true) (hstat : (Cond.static y).before args s = true) (hinit : (Cond.initialized y.cls).before args s = true)
    (hcode : (Cond.codeWith y bytes maxL ret hh).before args s = true) (hy : y.cls ≠ "java/lang/invoke/MethodHandle" ∧ y.cls ≠ "java/lang/invoke/VarHandle")
    {W9 : Nat} {Pre : Pt → Array Value → Prop} {Post : Pt → Array Value → Option Value → Pt → Prop} (hK : Back l R p e below s args y 3 W9 Pre Post)
    {g : JFrame} (hg : g.method = m) (hsize : g.locals.size = c.maxLocals) {argsL rest : List Value} (hlen : ∀ sig, parseMethodDescriptor y.desc = some sig → argsL.length = sig.parameters.length)
    (hstack : g.stack = argsL.reverse ++ rest) (hW : 2 * g.monitorRoom + (rest.map fun v => v.category).sum ≤ W9) (hdg : decode c.code g.pc = .ok (.invokestatic index, 3))
    (hpre : ∀ vm₁, s.WarmedH vm₁ → Pre ⟨T.setVm vm₁, locs, cells, slots⟩ argsL.toArray) :
    ∃ (v : Option Value) (vm₁ : Vm) (B : Pt), s.WarmedH vm₁ ∧ Stand p l e R s m args below meth c B.U B.locs B.cells B.slots ∧ Post ⟨T.setVm vm₁, locs, cells, slots⟩ argsL.toArray v B ∧
      ∀ target, Steps p.tables e below (B.U.setTop { g with pc := g.pc + 3, stack := v.toList ++ rest }) target → Steps p.tables e below (T.setTop g) target := by
  obtain ⟨mk, methM, cM, hnamed, hmethM, -, -, -, -, -, -, hsigM⟩ := Cond.codeWith_spec hcode
  have hstatic : methM.isStatic = true := Cond.static_spec hnamed hmethM hstat
  obtain ⟨kP, hkP, -⟩ := className_of_methodNamed hnamed
  have hinitP : kP.init = .initialized := Cond.initialized_spec (findClass_of_methodNamed hnamed) hkP hinit
  obtain ⟨vm₁, X₁, hstep₁⟩ := X.invokestatic hexec hown hlink hnamed hmethM hstatic hkP hinitP hy (g := g) hg (argsL := argsL) (rest := rest) (hlen _ hsigM) hstack hdg
  obtain ⟨v, B, X', hpost, hsteps⟩ := hK m meth c ⟨T.setVm vm₁, locs, cells, slots⟩ { g with stack := rest } (.invokestatic index) mk argsL.toArray X₁ hg hsize hdg hW (X₁.named hnamed) (hpre vm₁ X₁.warmed)
  exact ⟨v, vm₁, B, X₁.warmed, X', hpost, fun target h => hstep₁ _ fun acts => by rw [doInvoke_state]; exact hsteps.trans h⟩
theorem vx_runSW {y : MethodName} {bytes cc : ByteArray} {maxL nL mc ms n index : Nat} {ret : Option FieldType} {hh : List (Nat × Nat × Nat × Nat)} {ws : List Cond} {rm : Room} {Pc : Array Value → State → Prop} {Qc : Array Value → State → Outcome → State → Prop} {free : Addr → Prop} {Ts : List Cond} {own : String} {As rest : List Value} {g : JFrame}
    (S : CallFix p m c cc nL s args Ts own) (hM : Met l y ws rm Pc Qc mc ms free) (cw : vx_CSW R s args own index y bytes maxL ret hh ws rm mc ms n) (hp : PreS s H Pc As)
    (hg : g.method = m) (hn : As.length = n) (hsize : g.locals.size = nL) (hstack : g.stack = As.reverse ++ rest) (hW : 2 * g.monitorRoom + (rest.map fun v => v.category).sum ≤ 8) (hdg : decode cc g.pc = .ok (.invokestatic index, 3)) (hf : cells + mc ≤ R.cells ∧ slots + ms ≤ R.slots) :
    va_Run p l e R s m args below meth c H locs cells slots mc ms g rest (Qc As.toArray) (free) := by
  obtain ⟨⟨hrc, hrs, hfr, hlo, hws, hcw⟩, hcode, hini, hy, hlen, hl, hstt⟩ := cw
  have hK : Back l R p e below s args y 3 8 (PreOf R mc ms Pc) (PostOf Qc mc ms free) := va_backW (hh := hh) (bytes := bytes) (maxL := maxL) (ret := ret) hM hp.1 hrc hrs hfr hlo hws hcw (fun a' U hW => word_at hW (Or.inl (by first | rfl | simp [Cond.onTables, Cond.keeps, Cond.steady])) hini)
  obtain ⟨hx, hb, hml, ho, -⟩ := S
  intro T hT X
  obtain ⟨v, vm₁, ⟨U', l2, c2, s2⟩, hW₁, X', ⟨g', mk, t, L, e1, e2, hq, h1, hL, h2, h3⟩, st⟩ := vx_callSW X hx (hh := hh) (bytes := bytes) (maxL := maxL) (ret := ret) ho hl hstt hini hcode hy hK hg (hsize.trans hml.symm) (argsL := As) (rest := rest) (fun sig h => hn.trans (hlen sig h)) hstack hW (by rw [hb]; exact hdg)
    (fun vm₁ hW₁ => ⟨hf.1, hf.2, hp.2 (T.setVm vm₁) hT hW₁⟩)
  dsimp only [Pt.U, Pt.locs, Pt.cells, Pt.slots] at X' e1 e2 h1 h2 h3 st
  subst h1; subst h2; subst h3
  exact ⟨v, (T.setVm vm₁).calling g' mk As.toArray, t, U', L, hT, X', hL, e1, e2, hq, st⟩
/-- not caught here, past rows that name other classes: it goes on to the caller -/
theorem vx_outP {p : Program} {l : Launch} {e : Env} {R : Room} {s : State} {m : MethodId} {args : Array Value} {below : List Frame} {meth : Method} {c : Code} {H : Heap} {locs : List Loc} {cells slots : Nat} {free : Addr → Prop} {ls : Array Slot} {rest : List Value} {Qc : Array Value → State → Outcome → State → Prop} {XC : String → State → State → Prop}
    {pc : Nat} {own E : String} {ce : Cell} {q : Addr} {mc ms : Nat} (hown : s.vm.findClass own = some m.cls) (hlocks : meth.locks = false)
    (hpass : ∀ z ∈ c.exceptionTable.toList, covers z pc = false ∨ (z.catchType ≠ 0 ∧ ∃ nm : String, (Cond.classLink own z.catchType nm).before args s = true ∧ va_Nc E nm s)) (hcell : H[q]? = some ce) (hv : ce.vm = .none) (hcl : s.vm.findClass E = some ce.cls)
    (hx : ∀ t : State, t.heap = H → s.vm.Alike t.vm → XC E s t) (hf : ∀ z ∈ locs, free z.base) (hc : cells ≤ mc) (hs : slots ≤ ms) :
    vx_W p l e R s m args below meth c H locs cells slots (vx_MQ below Qc XC args s mc ms free) (F0 m pc ls rest) q := by
  intro T hT X
  have hpl : e.platform.magicAccessors = ({} : Platform).magicAccessors := by rw [X.admits.platform]
  obtain ⟨vm', hW', X', st⟩ := X.outThrough hlocks q (g := F0 m pc ls rest) rfl rfl rfl (cell := ce) (by rw [hT]; exact hcell) (by rw [hv]; rfl)
    (by obtain ⟨k9, h9, -⟩ := Vm.findClass_spec hcl; exact ⟨k9, h9⟩) (fun z hz => by
      rcases hpass z hz with h | ⟨hz0, nm, hl1, hn1⟩
      · exact Or.inl h
      · obtain ⟨c6, hc6, hcl6⟩ := Cond.classLink_spec hown hl1 e.platform hpl
        obtain ⟨a8, b8, h1, h2, h3⟩ := hn1
        cases Option.some.inj (h1.symm.trans hcl)
        cases Option.some.inj (h2.symm.trans hc6)
        exact Or.inr ⟨hz0, _, hcl6, h3⟩)
  obtain ⟨g₀, hfr⟩ := X'.frames_eq
  have hcell9 : ((T.setVm vm').setFrames (.throwing q :: below)).heap[q]? = some ce := by
    show T.heap[q]? = some ce
    rw [hT]; exact hcell
  have hend : Ended ((T.setVm vm').setFrames (.throwing q :: below)) below (.threw q) := State.frames_setFrames _ (State.cur_lt_of_frames hfr)
  refine ⟨(T.setVm vm').setFrames (.throwing q :: below), ?_, .threw q, X'.here.running, hend, Or.inr ⟨q, rfl, E, ce, locs, hx _ hT (X'.ends _).1.alike, hcell9, hv, hcl, (X'.ends _).1, (X'.ends _).2.mono hc hs, hf⟩⟩
  rw [X.pushThrowing_eq]
  exact st
/-- a thing of a world lies in the heap -/
theorem vx_lt {D : va_G} {cl : List vw_C} {ws : va_W} {H1 : Heap} (h : va_P D cl ws H1) {k : Nat} {q : Nat × va_E} (hk : ws[k]? = some q) : q.1 < H1.size := (h k q hk).lt
end VXS
/-! ===== END ===== -/
/-! ===== BEGIN methods with a table of their own: called by a name, returning or throwing ===== -/
section VXH
/-! vx_backW, vx_callVX, vx_callSX, vx_callVW, vx_runVW, vx_runVX, vx_runSX, vx_ofWH follow the same proofs as their sisters above (Free/Laws.lean, Shelf42/LK1.lean); vx_outP calls Shelf42/NT130.lean (outThrough). -/
section
variable {l : Launch} {R : Room} {p : Program} {e : Env} {below : List Frame} {s : State} {sargs : Array Value} {y : MethodName} {len W9 : Nat}
theorem vx_backW {ws : List Cond} {rm : Room} {Pc : Array Value → State → Prop} {Qc : Array Value → State → Outcome → State → Prop} {XC : String → State → State → Prop} {mc ms : Nat} {free : Addr → Prop} {bytes : ByteArray} {maxL : Nat} {ret : Option FieldType} {hh : List (Nat × Nat × Nat × Nat)}
    (hM : vx_Met l y ws rm Pc Qc XC mc ms free) (hblind : FrameBlind Pc) (hrc : rm.cells = mc) (hrs : rm.slots = ms)
    (hframes : rm.frames + 1 ≤ R.frames) (hlocals : W9 + (maxL + 11) + rm.locals ≤ R.locals)
    (hws : ∀ w ∈ ws, ∀ a' U, s.WarmedH U.vm → w.before a' U = true) (hcode : Cond.codeWith y bytes maxL ret hh ∈ ws) (hinit : ∀ a' U, s.WarmedH U.vm → (Cond.initialized y.cls).before a' U = true) :
    vx_Back l R p e below s sargs y len W9 (PreOf R mc ms Pc) (PostOf Qc mc ms free) (vx_Post XC mc ms free) := by
  intro m meth c A g ig mk a X hg hsize hdg hW hn hp
  have h1 : (headSpec ws rm).pre.before a A.U = true := atoms_intro fun w hw => hws w hw _ _ X.warmed
  have h2 : (Cond.codeWith y bytes maxL ret hh).before a A.U = true := hws _ hcode _ _ X.warmed
  have h3 : (Cond.initialized y.cls).before a A.U = true := hinit _ _ X.warmed
  have h4 : A.cells + (headSpec ws rm).room.cells ≤ R.cells := by rw [show (headSpec ws rm).room.cells = mc from hrc]; exact hp.1
  have h5 : A.slots + (headSpec ws rm).room.slots ≤ R.slots := by rw [show (headSpec ws rm).room.slots = ms from hrs]; exact hp.2.1
  have hPc : Pc a (A.U.calling g mk a) := hblind _ _ _ _ hp.2.2
  obtain ⟨U, Ls, c0, s0⟩ := A
  dsimp only [Pt.U, Pt.locs, Pt.cells, Pt.slots] at h1 h2 h3 h4 h5 X hn hPc ⊢
  obtain ⟨m9, methY, cY, hn9, hmY, hcY, -, hlY, -⟩ := Cond.codeWith_spec h2
  cases Option.some.inj (hn9.symm.trans hn)
  obtain ⟨kY, hkY, -⟩ := className_of_methodNamed hn
  have hinitY : kY.init = .initialized := Cond.initialized_spec (findClass_of_methodNamed hn) hkY h3
  have h : At U g.method c below := by rw [hg]; exact X.here
  have hlocals9 : W9 + (maxL + 11) + (headSpec ws rm).room.locals ≤ R.locals := hlocals
  have happ : (headSpec ws rm).appliesLoose y e.platform (U.calling g mk a) = true :=
    Spec.appliesLoose_calling (g := g) h hdg hn hkY hinitY
      (X.room_calling (g := g) (R' := (headSpec ws rm).room) hsize hmY hcY hframes (by rw [hlY]; omega) h4 h5) h1
  obtain ⟨mid, hmid⟩ := h.above
  have hfr : (U.setTop g).frames = (.java g :: mid) ++ below := by rw [State.frames_setTop' g h.top, hmid]; rfl
  obtain ⟨o, s₂, hsteps, -, hend, hq⟩ := Steps.callFree hM p X.admits X.cas X.clock (acts := []) hfr happ hPc trivial
  have hq' : vx_Q Qc XC mc ms free a (U.calling g mk a) o s₂ := hq
  rw [State.frames_setTop' g h.top] at hend
  obtain ⟨g₀, hg0⟩ := Option.isSome_iff_exists.mp h.top
  obtain ⟨r, hr⟩ := State.topJava?_eq_some.mp hg0
  have hr' : (({ U with heap := s₂.heap, slotsUsed := s₂.slotsUsed } : State).setVm s₂.vm).frames = .java g₀ :: r := hr
  rcases hq' with ⟨hqc, L, hfe, hL⟩ | ⟨q, rfl, E, ce, L, hx, hce, hcv, hcl, hW₂, hsm, hL⟩
  · obtain ⟨⟨v, rfl⟩, hW₂, e2, q2, q3, q4, q5, q6⟩ := id hfe
    have e3 : s₂ = ({ (U.calling g mk a).setFrames s₂.frames with heap := s₂.heap, slotsUsed := s₂.slotsUsed } : State).setVm s₂.vm := by
      have : s₂ = ({ s₂ with vm := (U.calling g mk a).vm } : State).setVm s₂.vm := rfl
      rw [e2] at this
      exact this
    obtain ⟨c₂, i₂, len₂, hc₂, hd₂, hf₂⟩ := hend
    have hW' : U.WarmedH s₂.vm := hW₂
    have hcc : c₂ = c := by
      have h1 : s₂.code? g.method = U.code? g.method := by
        rw [State.code?_eq, State.code?_eq, hW'.alike.method?]
      exact Option.some.inj (hc₂.symm.trans (h1.trans h.code))
    subst hcc
    have hlen : len₂ = len := by rw [hdg] at hd₂; cases hd₂; rfl
    subst hlen
    have hs₂ : s₂ = (({ U with heap := s₂.heap, slotsUsed := s₂.slotsUsed } : State).setVm s₂.vm).setTop { g with pc := g.pc + len₂, stack := v.toList ++ g.stack } := by
      refine e3.trans ?_
      rw [hf₂, State.calling_eq h.top, State.setFrames_setFrames, State.setTop_of_frames _ hr', hr]
      rfl
    have hsame : U.sameButNew ({ U with heap := s₂.heap, slotsUsed := s₂.slotsUsed } : State) L mc ms := by
      refine ⟨?_, q2, q3, q4, q5, q6⟩
      obtain ⟨t, ht, -⟩ := State.frames_cons hr
      show ({ U with heap := s₂.heap, slotsUsed := s₂.slotsUsed } : State) = { U.setFrames U.frames with heap := s₂.heap, slotsUsed := s₂.slotsUsed }
      rw [State.setFrames_self ht]
    subst hg
    refine Or.inl ⟨v, ⟨(({ U with heap := s₂.heap, slotsUsed := s₂.slotsUsed } : State).setVm s₂.vm), Ls ++ L, c0 + mc, s0 + ms⟩,
      ⟨X.admits, X.cas, X.clock, X.frames, X.room, X.hears, X.method, X.code, (X.here.setHeapUsed s₂.heap s₂.slotsUsed).setVm hW'.alike, X.tail, State.WarmedH.trans X.warmed hW', X.limits, X.bytes, X.same.trans (hsame.setVm s.vm)⟩,
      ⟨g, mk, s₂, L, rfl, rfl, hqc, rfl, hL, rfl, rfl⟩, ?_⟩
    show Steps p.tables e below _ ((({ U with heap := s₂.heap, slotsUsed := s₂.slotsUsed } : State).setVm s₂.vm).setTop { g with pc := g.pc + len₂, stack := v.toList ++ g.stack })
    rw [← hs₂]
    exact hsteps
  · obtain ⟨e2, q2, q3, q4, q5, q6⟩ := id hsm
    have e3 : s₂ = ({ (U.calling g mk a).setFrames s₂.frames with heap := s₂.heap, slotsUsed := s₂.slotsUsed } : State).setVm s₂.vm := by
      have : s₂ = ({ s₂ with vm := (U.calling g mk a).vm } : State).setVm s₂.vm := rfl
      rw [e2] at this
      exact this
    have hf₂ : s₂.frames = .throwing q :: .java g :: U.frames.tail := hend
    have hW' : U.WarmedH s₂.vm := hW₂
    have hs₂ : s₂ = ((({ U with heap := s₂.heap, slotsUsed := s₂.slotsUsed } : State).setVm s₂.vm).setTop g).pushFrame (.throwing q) := by
      refine e3.trans ?_
      rw [hf₂, State.calling_eq h.top, State.setFrames_setFrames, State.pushFrame, State.frames_setTop _ hr', State.setTop_of_frames _ hr', State.setFrames_setFrames, hr]
      rfl
    have hsame : U.sameButNew ({ U with heap := s₂.heap, slotsUsed := s₂.slotsUsed } : State) L mc ms := by
      refine ⟨?_, q2, q3, q4, q5, q6⟩
      obtain ⟨t, ht, -⟩ := State.frames_cons hr
      show ({ U with heap := s₂.heap, slotsUsed := s₂.slotsUsed } : State) = { U.setFrames U.frames with heap := s₂.heap, slotsUsed := s₂.slotsUsed }
      rw [State.setFrames_self ht]
    subst hg
    refine Or.inr ⟨q, ⟨(({ U with heap := s₂.heap, slotsUsed := s₂.slotsUsed } : State).setVm s₂.vm), Ls ++ L, c0 + mc, s0 + ms⟩,
      ⟨X.admits, X.cas, X.clock, X.frames, X.room, X.hears, X.method, X.code, (X.here.setHeapUsed s₂.heap s₂.slotsUsed).setVm hW'.alike, X.tail, State.WarmedH.trans X.warmed hW', X.limits, X.bytes, X.same.trans (hsame.setVm s.vm)⟩,
      ⟨g, mk, s₂, L, E, ce, rfl, rfl, hx, hce, hcv, hcl, rfl, hL, rfl, rfl⟩, ?_⟩
    show Steps p.tables e below _ (((({ U with heap := s₂.heap, slotsUsed := s₂.slotsUsed } : State).setVm s₂.vm).setTop g).pushFrame (.throwing q))
    rw [← hs₂]
    exact hsteps
end
variable {p : Program} {l : Launch} {e : Env} {R : Room} {s : State} {m : MethodId} {args : Array Value} {below : List Frame} {meth : Method} {c : Code} {T : State} {H : Heap} {locs : List Loc} {cells slots : Nat}
theorem vx_callVX (X : Stand p l e R s m args below meth c T locs cells slots) (hexec : p.tables.exec = Jvm.exec) {own C : String} {index : Nat} {y : MethodName} {bytes : ByteArray} {maxL : Nat} {ret : Option FieldType} {hh : List (Nat × Nat × Nat × Nat)}
    (hown : s.vm.findClass own = some m.cls) (hlink : (Cond.methodLink own index y).before args s = true) (hinst : (Cond.instanceMethod y).before args s = true) (hsel : (Cond.selects C y y).before args s = true)
    (hcode : (Cond.codeWith y bytes maxL ret hh).before args s = true) (hy : y.cls ≠ "java/lang/invoke/MethodHandle" ∧ y.cls ≠ "java/lang/invoke/VarHandle")
    {W9 : Nat} {Pre : Pt → Array Value → Prop} {Post : Pt → Array Value → Option Value → Pt → Prop} {PostX : Pt → Array Value → Addr → Pt → Prop} (hK : vx_Back l R p e below s args y 3 W9 Pre Post PostX)
    {b : Addr} {cellB : Cell} (hcell : T.heap[b]? = some cellB) (hobj : cellB.vm.isStatics = false) (hcls : s.vm.findClass C = some cellB.cls)
    {g : JFrame} (hg : g.method = m) (hsize : g.locals.size = c.maxLocals) {argsL rest : List Value} (hlen : ∀ sig, parseMethodDescriptor y.desc = some sig → argsL.length = sig.parameters.length)
    (hstack : g.stack = argsL.reverse ++ .ref b :: rest) (hW : 2 * g.monitorRoom + (rest.map fun v => v.category).sum ≤ W9) (hdg : decode c.code g.pc = .ok (.invokevirtual index, 3))
    (hpre : ∀ vm₁, s.WarmedH vm₁ → Pre ⟨T.setVm vm₁, locs, cells, slots⟩ (Value.ref b :: argsL).toArray) :
    (∃ (v : Option Value) (vm₁ : Vm) (B : Pt), s.WarmedH vm₁ ∧ Stand p l e R s m args below meth c B.U B.locs B.cells B.slots ∧ Post ⟨T.setVm vm₁, locs, cells, slots⟩ (Value.ref b :: argsL).toArray v B ∧
      ∀ target, Steps p.tables e below (B.U.setTop { g with pc := g.pc + 3, stack := v.toList ++ rest }) target → Steps p.tables e below (T.setTop g) target) ∨
    (∃ (q : Addr) (vm₁ : Vm) (B : Pt), s.WarmedH vm₁ ∧ Stand p l e R s m args below meth c B.U B.locs B.cells B.slots ∧ PostX ⟨T.setVm vm₁, locs, cells, slots⟩ (Value.ref b :: argsL).toArray q B ∧
      Steps p.tables e below (T.setTop g) ((B.U.setTop { g with stack := rest }).pushFrame (.throwing q))) := by
  obtain ⟨mk, methM, hnamed, hmethM, hstM, habM⟩ := Cond.instanceMethod_spec hinst
  obtain ⟨m8, methM', cM, hn8, hmethM', -, -, -, -, -, -, hsigM⟩ := Cond.codeWith_spec hcode
  cases Option.some.inj (hn8.symm.trans hnamed)
  cases hmethM.symm.trans hmethM'
  obtain ⟨c2, r2, m2, q1, q2, q3, q4, kP, hkP, hkPi⟩ := Cond.selects_spec hsel
  cases hcls.symm.trans q1
  cases (State.methodFound?_of_named hnamed hy).symm.trans q2
  cases hnamed.symm.trans q3
  have hselP : selectMethod e.platform s.vm cellB.cls mk = .method mk := by rw [Launch.admits_selectMethod X.admits]; exact q4
  obtain ⟨vm₁, X₁, hstep₁⟩ := X.invokevirtual hexec hown hlink hnamed hmethM hstM hkP hkPi hy (a := b) (cell := cellB) hcell
    (fun z h => by rw [h] at hobj; cases hobj) hselP hmethM habM hkP hkPi (g := g) hg (argsL := argsL) (rest := rest) (hlen _ hsigM) hstack hdg
  rcases hK m meth c ⟨T.setVm vm₁, locs, cells, slots⟩ { g with stack := rest } (.invokevirtual index) mk (Value.ref b :: argsL).toArray X₁ hg hsize hdg hW (X₁.named hnamed) (hpre vm₁ X₁.warmed) with ⟨v, B, X', hpost, hsteps⟩ | ⟨q, B, X', hpost, hsteps⟩
  · exact Or.inl ⟨v, vm₁, B, X₁.warmed, X', hpost, fun target h => hstep₁ _ fun acts => by rw [doInvoke_state]; exact hsteps.trans h⟩
  · exact Or.inr ⟨q, vm₁, B, X₁.warmed, X', hpost, hstep₁ _ fun acts => by rw [doInvoke_state]; exact hsteps⟩
theorem vx_callSX (X : Stand p l e R s m args below meth c T locs cells slots) (hexec : p.tables.exec = Jvm.exec) {own : String} {index : Nat} {y : MethodName} {bytes : ByteArray} {maxL : Nat} {ret : Option FieldType} {hh : List (Nat × Nat × Nat × Nat)}
    (hown : s.vm.findClass own = some m.cls) (hlink : (Cond.methodLink own index y).before args s = true) (hstat : (Cond.static y).before args s = true) (hinit : (Cond.initialized y.cls).before args s = true)
    (hcode : (Cond.codeWith y bytes maxL ret hh).before args s = true) (hy : y.cls ≠ "java/lang/invoke/MethodHandle" ∧ y.cls ≠ "java/lang/invoke/VarHandle")
    {W9 : Nat} {Pre : Pt → Array Value → Prop} {Post : Pt → Array Value → Option Value → Pt → Prop} {PostX : Pt → Array Value → Addr → Pt → Prop} (hK : vx_Back l R p e below s args y 3 W9 Pre Post PostX)
    {g : JFrame} (hg : g.method = m) (hsize : g.locals.size = c.maxLocals) {argsL rest : List Value} (hlen : ∀ sig, parseMethodDescriptor y.desc = some sig → argsL.length = sig.parameters.length)
    (hstack : g.stack = argsL.reverse ++ rest) (hW : 2 * g.monitorRoom + (rest.map fun v => v.category).sum ≤ W9) (hdg : decode c.code g.pc = .ok (.invokestatic index, 3))
    (hpre : ∀ vm₁, s.WarmedH vm₁ → Pre ⟨T.setVm vm₁, locs, cells, slots⟩ argsL.toArray) :
    (∃ (v : Option Value) (vm₁ : Vm) (B : Pt), s.WarmedH vm₁ ∧ Stand p l e R s m args below meth c B.U B.locs B.cells B.slots ∧ Post ⟨T.setVm vm₁, locs, cells, slots⟩ argsL.toArray v B ∧
      ∀ target, Steps p.tables e below (B.U.setTop { g with pc := g.pc + 3, stack := v.toList ++ rest }) target → Steps p.tables e below (T.setTop g) target) ∨
    (∃ (q : Addr) (vm₁ : Vm) (B : Pt), s.WarmedH vm₁ ∧ Stand p l e R s m args below meth c B.U B.locs B.cells B.slots ∧ PostX ⟨T.setVm vm₁, locs, cells, slots⟩ argsL.toArray q B ∧
      Steps p.tables e below (T.setTop g) ((B.U.setTop { g with stack := rest }).pushFrame (.throwing q))) := by
  obtain ⟨mk, methM, cM, hnamed, hmethM, -, -, -, -, -, -, hsigM⟩ := Cond.codeWith_spec hcode
  have hstatic : methM.isStatic = true := Cond.static_spec hnamed hmethM hstat
  obtain ⟨kP, hkP, -⟩ := className_of_methodNamed hnamed
  have hinitP : kP.init = .initialized := Cond.initialized_spec (findClass_of_methodNamed hnamed) hkP hinit
  obtain ⟨vm₁, X₁, hstep₁⟩ := X.invokestatic hexec hown hlink hnamed hmethM hstatic hkP hinitP hy (g := g) hg (argsL := argsL) (rest := rest) (hlen _ hsigM) hstack hdg
  rcases hK m meth c ⟨T.setVm vm₁, locs, cells, slots⟩ { g with stack := rest } (.invokestatic index) mk argsL.toArray X₁ hg hsize hdg hW (X₁.named hnamed) (hpre vm₁ X₁.warmed) with ⟨v, B, X', hpost, hsteps⟩ | ⟨q, B, X', hpost, hsteps⟩
  · exact Or.inl ⟨v, vm₁, B, X₁.warmed, X', hpost, fun target h => hstep₁ _ fun acts => by rw [doInvoke_state]; exact hsteps.trans h⟩
  · exact Or.inr ⟨q, vm₁, B, X₁.warmed, X', hpost, hstep₁ _ fun acts => by rw [doInvoke_state]; exact hsteps⟩
theorem vx_callVW (X : Stand p l e R s m args below meth c T locs cells slots) (hexec : p.tables.exec = Jvm.exec) {own C : String} {index : Nat} {y : MethodName} {bytes : ByteArray} {maxL : Nat} {ret : Option FieldType} {hh : List (Nat × Nat × Nat × Nat)}
    (hown : s.vm.findClass own = some m.cls) (hlink : (Cond.methodLink own index y).before args s = true) (hinst : (Cond.instanceMethod y).before args s = true) (hsel : (Cond.selects C y y).before args s = true)
    (hcode : (Cond.codeWith y bytes maxL ret hh).before args s = true) (hy : y.cls ≠ "java/lang/invoke/MethodHandle" ∧ y.cls ≠ "java/lang/invoke/VarHandle")
    {W9 : Nat} {Pre : Pt → Array Value → Prop} {Post : Pt → Array Value → Option Value → Pt → Prop} (hK : Back l R p e below s args y 3 W9 Pre Post)
    {b : Addr} {cellB : Cell} (hcell : T.heap[b]? = some cellB) (hobj : cellB.vm.isStatics = false) (hcls : s.vm.findClass C = some cellB.cls)
    {g : JFrame} (hg : g.method = m) (hsize : g.locals.size = c.maxLocals) {argsL rest : List Value} (hlen : ∀ sig, parseMethodDescriptor y.desc = some sig → argsL.length = sig.parameters.length)
    (hstack : g.stack = argsL.reverse ++ .ref b :: rest) (hW : 2 * g.monitorRoom + (rest.map fun v => v.category).sum ≤ W9) (hdg : decode c.code g.pc = .ok (.invokevirtual index, 3))
    (hpre : ∀ vm₁, s.WarmedH vm₁ → Pre ⟨T.setVm vm₁, locs, cells, slots⟩ (Value.ref b :: argsL).toArray) :
    ∃ (v : Option Value) (vm₁ : Vm) (B : Pt), s.WarmedH vm₁ ∧ Stand p l e R s m args below meth c B.U B.locs B.cells B.slots ∧ Post ⟨T.setVm vm₁, locs, cells, slots⟩ (Value.ref b :: argsL).toArray v B ∧
      ∀ target, Steps p.tables e below (B.U.setTop { g with pc := g.pc + 3, stack := v.toList ++ rest }) target → Steps p.tables e below (T.setTop g) target := by
  obtain ⟨mk, methM, hnamed, hmethM, hstM, habM⟩ := Cond.instanceMethod_spec hinst
  obtain ⟨m8, methM', cM, hn8, hmethM', -, -, -, -, -, -, hsigM⟩ := Cond.codeWith_spec hcode
  cases Option.some.inj (hn8.symm.trans hnamed)
  cases hmethM.symm.trans hmethM'
  obtain ⟨c2, r2, m2, q1, q2, q3, q4, kP, hkP, hkPi⟩ := Cond.selects_spec hsel
  cases hcls.symm.trans q1
  cases (State.methodFound?_of_named hnamed hy).symm.trans q2
  cases hnamed.symm.trans q3
  have hselP : selectMethod e.platform s.vm cellB.cls mk = .method mk := by rw [Launch.admits_selectMethod X.admits]; exact q4
  obtain ⟨vm₁, X₁, hstep₁⟩ := X.invokevirtual hexec hown hlink hnamed hmethM hstM hkP hkPi hy (a := b) (cell := cellB) hcell
    (fun z h => by rw [h] at hobj; cases hobj) hselP hmethM habM hkP hkPi (g := g) hg (argsL := argsL) (rest := rest) (hlen _ hsigM) hstack hdg
  obtain ⟨v, B, X', hpost, hsteps⟩ := hK m meth c ⟨T.setVm vm₁, locs, cells, slots⟩ { g with stack := rest } (.invokevirtual index) mk (Value.ref b :: argsL).toArray X₁ hg hsize hdg hW (X₁.named hnamed) (hpre vm₁ X₁.warmed)
  exact ⟨v, vm₁, B, X₁.warmed, X', hpost, fun target h => hstep₁ _ fun acts => by rw [doInvoke_state]; exact hsteps.trans h⟩
abbrev vx_CVW (R : Room) (s : State) (args : Array Value) (own C : String) (index : Nat) (y : MethodName) (bytes : ByteArray) (maxL : Nat) (ret : Option FieldType) (hh : List (Nat × Nat × Nat × Nat)) (ws : List Cond) (rm : Room) (mc ms n : Nat) : Prop :=
  (rm.cells = mc ∧ rm.slots = ms ∧ rm.frames + 1 ≤ R.frames ∧ 8 + (maxL + 11) + rm.locals ≤ R.locals ∧ (∀ w ∈ ws, ∀ (a' : Array Value) (U : State), s.WarmedH U.vm → w.before a' U = true) ∧ Cond.codeWith y bytes maxL ret hh ∈ ws) ∧
  (Cond.codeWith y bytes maxL ret hh).before args s = true ∧ (Cond.initialized y.cls).before args s = true ∧ (y.cls ≠ "java/lang/invoke/MethodHandle" ∧ y.cls ≠ "java/lang/invoke/VarHandle") ∧
  (∀ sig, parseMethodDescriptor y.desc = some sig → n = sig.parameters.length) ∧ (Cond.methodLink own index y).before args s = true ∧ (Cond.instanceMethod y).before args s = true ∧ (Cond.selects C y y).before args s = true
theorem vx_cwVW {own C : String} {index maxL mc ms : Nat} {y : MethodName} {bytes : ByteArray} {ret : Option FieldType} {hh : List (Nat × Nat × Nat × Nat)} {Ts ws ws' : List Cond} {rm : Room} (n : Nat) (ht : ∀ w ∈ Ts, w.before args s = true) (hT : GoodIn Ts (wsV own index C y ws)) (hw : ws = Cond.codeWith y bytes maxL ret hh :: ws') (hrc : rm.cells = mc) (hrs : rm.slots = ms)
    (hd : y.cls = C ∧ y.cls ≠ "java/lang/invoke/MethodHandle" ∧ y.cls ≠ "java/lang/invoke/VarHandle" ∧ (parseMethodDescriptor y.desc).map (fun d => d.parameters.length) = some n) (hR : rm.frames + 1 ≤ R.frames ∧ 8 + (maxL + 11) + rm.locals ≤ R.locals) :
    vx_CVW R s args own C index y bytes maxL ret hh ws rm mc ms n := by
  obtain ⟨hC, hd⟩ := hd
  subst hC
  have ok : ∀ w ∈ wsV own index y.cls y ws, w.before args s = true := fun w h => ht w (hT w h).1
  have hG : GoodIn Ts ws := fun w h => hT w (by unfold wsV; exact List.mem_append_right _ h)
  have hc : Cond.codeWith y bytes maxL ret hh ∈ ws := by rw [hw]; exact List.mem_cons_self
  refine ⟨⟨hrc, hrs, hR.1, hR.2, pay_in ht hG, hc⟩, ht _ (hG _ hc).1, ok _ (by simp [wsV]), ⟨hd.1, hd.2.1⟩, fun sig h => ?_, ok _ (by simp [wsV]), ok _ (by simp [wsV]), ok _ (by simp [wsV])⟩
  have h2 := hd.2.2
  rw [h] at h2
  exact (Option.some.inj h2).symm
theorem vx_runVW {y : MethodName} {bytes cc : ByteArray} {maxL nL mc ms n index : Nat} {ret : Option FieldType} {hh : List (Nat × Nat × Nat × Nat)} {ws : List Cond} {rm : Room} {Pc : Array Value → State → Prop} {Qc : Array Value → State → Outcome → State → Prop} {free : Addr → Prop} {Ts : List Cond} {own C : String} {b : Addr} {As rest : List Value} {g : JFrame}
    (S : CallFix p m c cc nL s args Ts own) (hM : Met l y ws rm Pc Qc mc ms free) (cw : vx_CVW R s args own C index y bytes maxL ret hh ws rm mc ms n) (hp : PreV s H C b Pc As)
    (hg : g.method = m) (hn : As.length = n) (hsize : g.locals.size = nL) (hstack : g.stack = As.reverse ++ .ref b :: rest) (hW : 2 * g.monitorRoom + (rest.map fun v => v.category).sum ≤ 8) (hdg : decode cc g.pc = .ok (.invokevirtual index, 3)) (hf : cells + mc ≤ R.cells ∧ slots + ms ≤ R.slots) :
    va_Run p l e R s m args below meth c H locs cells slots mc ms g rest (Qc (Value.ref b :: As).toArray) free := by
  obtain ⟨⟨hrc, hrs, hfr, hlo, hws, hcw⟩, hcode, hini, hy, hlen, hl, hin, hse⟩ := cw
  have hK : Back l R p e below s args y 3 8 (PreOf R mc ms Pc) (PostOf Qc mc ms free) := va_backW (hh := hh) (bytes := bytes) (maxL := maxL) (ret := ret) hM hp.1 hrc hrs hfr hlo hws hcw (fun a' U hW => word_at hW (Or.inl (by first | rfl | simp [Cond.onTables, Cond.keeps, Cond.steady])) hini)
  obtain ⟨hx, hb, hml, ho, -⟩ := S
  obtain ⟨-, ⟨cellB, hcB, hoB, hclB⟩, hPc⟩ := hp
  intro T hT X
  obtain ⟨v, vm₁, ⟨U', l2, c2, s2⟩, hW₁, X', ⟨g', mk, t, L, e1, e2, hq, h1, hL, h2, h3⟩, st⟩ := vx_callVW X hx (C := C) (hh := hh) (bytes := bytes) (maxL := maxL) (ret := ret) ho hl hin hse hcode hy hK (by rw [hT]; exact hcB) hoB hclB hg (hsize.trans hml.symm) (argsL := As) (rest := rest) (fun sig h => hn.trans (hlen sig h)) hstack hW (by rw [hb]; exact hdg)
    (fun vm₁ hW₁ => ⟨hf.1, hf.2, hPc (T.setVm vm₁) hT hW₁⟩)
  dsimp only [Pt.U, Pt.locs, Pt.cells, Pt.slots] at X' e1 e2 h1 h2 h3 st
  subst h1; subst h2; subst h3
  exact ⟨v, (T.setVm vm₁).calling g' mk (Value.ref b :: As).toArray, t, U', L, hT, X', hL, e1, e2, hq, st⟩
section
variable {y : MethodName} {bytes cc : ByteArray} {maxL nL mc ms n index : Nat} {ret : Option FieldType} {ws : List Cond} {rm : Room} {Pc : Array Value → State → Prop} {Qc : Array Value → State → Outcome → State → Prop} {XC : String → State → State → Prop} {free : Addr → Prop} {Ts : List Cond} {own C : String} {b : Addr} {As rest : List Value} {g : JFrame}
theorem vx_runVX {hh : List (Nat × Nat × Nat × Nat)} (S : CallFix p m c cc nL s args Ts own) (hM : vx_Met l y ws rm Pc Qc XC mc ms free) (cw : vx_CVW R s args own C index y bytes maxL ret hh ws rm mc ms n) (hp : PreV s H C b Pc As)
    (hg : g.method = m) (hn : As.length = n) (hsize : g.locals.size = nL) (hstack : g.stack = As.reverse ++ .ref b :: rest) (hW : 2 * g.monitorRoom + (rest.map fun v => v.category).sum ≤ 8) (hdg : decode cc g.pc = .ok (.invokevirtual index, 3)) (hf : cells + mc ≤ R.cells ∧ slots + ms ≤ R.slots) :
    vx_Run p l e R s m args below meth c H locs cells slots mc ms g rest (Qc (Value.ref b :: As).toArray) XC free := by
  obtain ⟨⟨hrc, hrs, hfr, hlo, hws, hcw⟩, hcode, hini, hy, hlen, hl, hin, hse⟩ := cw
  have hK : vx_Back l R p e below s args y 3 8 (PreOf R mc ms Pc) (PostOf Qc mc ms free) (vx_Post XC mc ms free) := vx_backW (hh := hh) (bytes := bytes) (maxL := maxL) (ret := ret) hM hp.1 hrc hrs hfr hlo hws hcw (fun a' U hW => word_at hW (Or.inl (by first | rfl | simp [Cond.onTables, Cond.keeps, Cond.steady])) hini)
  obtain ⟨hx, hb, hml, ho, -⟩ := S
  obtain ⟨-, ⟨cellB, hcB, hoB, hclB⟩, hPc⟩ := hp
  intro T hT X
  rcases vx_callVX X hx (C := C) (hh := hh) (bytes := bytes) (maxL := maxL) (ret := ret) ho hl hin hse hcode hy hK (by rw [hT]; exact hcB) hoB hclB hg (hsize.trans hml.symm) (argsL := As) (rest := rest) (fun sig h => hn.trans (hlen sig h)) hstack hW (by rw [hb]; exact hdg)
    (fun vm₁ hW₁ => ⟨hf.1, hf.2, hPc (T.setVm vm₁) hT hW₁⟩) with ⟨v, vm₁, ⟨U', l2, c2, s2⟩, hW₁, X', ⟨g', mk, t, L, e1, e2, hq, h1, hL, h2, h3⟩, st⟩ | ⟨q, vm₁, ⟨U', l2, c2, s2⟩, hW₁, X', ⟨g', mk, t, L, E, ce, e1, e2, hq, hce, hcv, hcl, h1, hL, h2, h3⟩, st⟩
  · dsimp only [Pt.U, Pt.locs, Pt.cells, Pt.slots] at X' e1 e2 h1 h2 h3 st
    subst h1; subst h2; subst h3
    exact Or.inl ⟨v, (T.setVm vm₁).calling g' mk (Value.ref b :: As).toArray, t, U', L, hT, X', hL, e1, e2, hq, st⟩
  · dsimp only [Pt.U, Pt.locs, Pt.cells, Pt.slots] at X' e1 e2 h1 h2 h3 st hcl
    subst h1; subst h2; subst h3
    exact Or.inr ⟨q, (T.setVm vm₁).calling g' mk (Value.ref b :: As).toArray, t, U', L, E, ce, hT, X', hL, e1, e2, hq, hce, hcv, vx_cls hW₁ hcl, st⟩
theorem vx_runSX {hh : List (Nat × Nat × Nat × Nat)} (S : CallFix p m c cc nL s args Ts own) (hM : vx_Met l y ws rm Pc Qc XC mc ms free) (cw : vx_CSW R s args own index y bytes maxL ret hh ws rm mc ms n) (hp : PreS s H Pc As)
    (hg : g.method = m) (hn : As.length = n) (hsize : g.locals.size = nL) (hstack : g.stack = As.reverse ++ rest) (hW : 2 * g.monitorRoom + (rest.map fun v => v.category).sum ≤ 8) (hdg : decode cc g.pc = .ok (.invokestatic index, 3)) (hf : cells + mc ≤ R.cells ∧ slots + ms ≤ R.slots) :
    vx_Run p l e R s m args below meth c H locs cells slots mc ms g rest (Qc As.toArray) XC free := by
  obtain ⟨⟨hrc, hrs, hfr, hlo, hws, hcw⟩, hcode, hini, hy, hlen, hl, hstt⟩ := cw
  have hK : vx_Back l R p e below s args y 3 8 (PreOf R mc ms Pc) (PostOf Qc mc ms free) (vx_Post XC mc ms free) := vx_backW (hh := hh) (bytes := bytes) (maxL := maxL) (ret := ret) hM hp.1 hrc hrs hfr hlo hws hcw (fun a' U hW => word_at hW (Or.inl (by first | rfl | simp [Cond.onTables, Cond.keeps, Cond.steady])) hini)
  obtain ⟨hx, hb, hml, ho, -⟩ := S
  intro T hT X
  rcases vx_callSX X hx (hh := hh) (bytes := bytes) (maxL := maxL) (ret := ret) ho hl hstt hini hcode hy hK hg (hsize.trans hml.symm) (argsL := As) (rest := rest) (fun sig h => hn.trans (hlen sig h)) hstack hW (by rw [hb]; exact hdg)
    (fun vm₁ hW₁ => ⟨hf.1, hf.2, hp.2 (T.setVm vm₁) hT hW₁⟩) with ⟨v, vm₁, ⟨U', l2, c2, s2⟩, hW₁, X', ⟨g', mk, t, L, e1, e2, hq, h1, hL, h2, h3⟩, st⟩ | ⟨q, vm₁, ⟨U', l2, c2, s2⟩, hW₁, X', ⟨g', mk, t, L, E, ce, e1, e2, hq, hce, hcv, hcl, h1, hL, h2, h3⟩, st⟩
  · dsimp only [Pt.U, Pt.locs, Pt.cells, Pt.slots] at X' e1 e2 h1 h2 h3 st
    subst h1; subst h2; subst h3
    exact Or.inl ⟨v, (T.setVm vm₁).calling g' mk As.toArray, t, U', L, hT, X', hL, e1, e2, hq, st⟩
  · dsimp only [Pt.U, Pt.locs, Pt.cells, Pt.slots] at X' e1 e2 h1 h2 h3 st hcl
    subst h1; subst h2; subst h3
    exact Or.inr ⟨q, (T.setVm vm₁).calling g' mk As.toArray, t, U', L, E, ce, hT, X', hL, e1, e2, hq, hce, hcv, vx_cls hW₁ hcl, st⟩
end
end VXH
theorem vx_ofWH {l : Launch} {y : MethodName} {ws ws' : List Cond} {rm : Room} {Pc : Array Value → State → Prop} {Qc : Array Value → State → Outcome → State → Prop} {XC : String → State → State → Prop} {mc ms : Nat} {free : Addr → Prop} {cc : ByteArray} {maxL : Nat} {ret : Option FieldType} {hh : List (Nat × Nat × Nat × Nat)}
    (hy : plainName y.cls = true) (hw : ws = Cond.codeWith y cc maxL ret hh :: ws')
    (body : ∀ p e s m args below meth c s₁, BodyLoose p l y (headSpec ws rm) cc maxL ret e s m args below meth c s₁ → c.maxLocals = maxL → Pc args s →
      W p l e (headSpec ws rm).room s m args below meth c s.heap [] 0 0 (vx_MQ below Qc XC args s mc ms free) (entryFrame m args maxL)) : vx_Met l y ws rm Pc Qc XC mc ms free := by
  refine MetFree.of_bodyS (code := cc) (maxLocals := maxL) (ret := ret) hy ?_ ?_
  · intro args s m h hn
    obtain ⟨m9, meth, c, hn9, h1, h2, h3, h4, -, h5, h6, -⟩ := Cond.codeWith_spec (atoms_spec (ws := ws) h _ (by rw [hw]; exact List.mem_cons_self))
    cases hn.symm.trans hn9
    exact ⟨meth, c, h1, h2, h3, h4, h5, h6⟩
  · intro p e s m args below meth c s₁ B hml hP _
    have hh0 : s₁.heap = s.heap := by rw [B.state]; rfl
    obtain ⟨t, a1, o, b1, b2, b3⟩ := body p e s m args below meth c s₁ B hml hP s₁ hh0 (Stand.of_body B)
    exact ⟨t, o, a1, b1, b2, b3⟩
/-! ===== END ===== -/
end
section
/-! ===== BEGIN printed: names, fields, word lists, decode rows ===== -/
def RX0 : String := "OvenDays$1"
def TX0 : u_T := fun k => match k with
  | _ => ("", "", "", false)
def tyX0 : Nat → FieldType := fun k => match k with
  | _ => .int
abbrev wsX00 : List Cond := u_ws RX0 TX0 0
theorem nmX0 : ∀ a, a < 0 → ∀ b, b < 0 → a ≠ b → (TX0 a).2.1 ≠ (TX0 b).2.1 := by decide +kernel
theorem tyX0_ok : ∀ k, k < 0 → parseFieldDescriptor (TX0 k).2.2.1 = some (tyX0 k) := by decide +kernel
def RX1 : String := "OvenDays$Batches"
def TX1 : u_T := fun k => match k with
  | 0 => ("OvenDays$Batches", "rows", "LOvenDays$Table;", true)
  | _ => ("OvenDays$Batches", "count", "I", false)
def tyX1 : Nat → FieldType := fun k => match k with
  | 0 => .object "OvenDays$Table"
  | _ => .int
abbrev wsX10 : List Cond := u_ws RX1 TX1 2
theorem nmX1 : ∀ a, a < 2 → ∀ b, b < 2 → a ≠ b → (TX1 a).2.1 ≠ (TX1 b).2.1 := by decide +kernel
theorem tyX1_ok : ∀ k, k < 2 → parseFieldDescriptor (TX1 k).2.2.1 = some (tyX1 k) := by decide +kernel
abbrev cX1_init : ByteArray := prog_3_method_1_code
def yX1_init : MethodName := ⟨RX1, "<init>", "()V"⟩
abbrev cX1_copyFrom : ByteArray := prog_3_method_2_code
def yX1_copyFrom : MethodName := ⟨RX1, "copyFrom", "(LOvenDays$Batches;)V"⟩
abbrev cX1_size : ByteArray := prog_3_method_3_code
def yX1_size : MethodName := ⟨RX1, "size", "()I"⟩
abbrev cX1_has : ByteArray := prog_3_method_4_code
def yX1_has : MethodName := ⟨RX1, "has", "(I)Z"⟩
abbrev cX1_isFull : ByteArray := prog_3_method_5_code
def yX1_isFull : MethodName := ⟨RX1, "isFull", "()Z"⟩
abbrev cX1_value : ByteArray := prog_3_method_6_code
def yX1_value : MethodName := ⟨RX1, "value", "(II)I"⟩
abbrev cX1_countOf : ByteArray := prog_3_method_7_code
def yX1_countOf : MethodName := ⟨RX1, "countOf", "(I)I"⟩
abbrev cX1_add : ByteArray := prog_3_method_8_code
def yX1_add : MethodName := ⟨RX1, "add", "(III)I"⟩
abbrev cX1_remove : ByteArray := prog_3_method_9_code
def yX1_remove : MethodName := ⟨RX1, "remove", "(I)I"⟩
abbrev cX1_clear : ByteArray := prog_3_method_10_code
def yX1_clear : MethodName := ⟨RX1, "clear", "()V"⟩
def RX2 : String := "OvenDays$CommandText"
def TX2 : u_T := fun k => match k with
  | 0 => ("OvenDays$CommandText", "bytes", "[B", true)
  | 1 => ("OvenDays$CommandText", "numbers", "[I", true)
  | 2 => ("OvenDays$CommandText", "word", "LOvenDays$Word;", false)
  | 3 => ("OvenDays$CommandText", "length", "I", false)
  | 4 => ("OvenDays$CommandText", "position", "I", false)
  | _ => ("OvenDays$CommandText", "fault", "I", false)
def tyX2 : Nat → FieldType := fun k => match k with
  | 0 => .array .byte
  | 1 => .array .int
  | 2 => .object "OvenDays$Word"
  | 3 => .int
  | 4 => .int
  | _ => .int
abbrev wsX20 : List Cond := u_ws RX2 TX2 6
theorem nmX2 : ∀ a, a < 6 → ∀ b, b < 6 → a ≠ b → (TX2 a).2.1 ≠ (TX2 b).2.1 := by decide +kernel
theorem tyX2_ok : ∀ k, k < 6 → parseFieldDescriptor (TX2 k).2.2.1 = some (tyX2 k) := by decide +kernel
abbrev cX2_init : ByteArray := prog_4_method_1_code
def yX2_init : MethodName := ⟨RX2, "<init>", "()V"⟩
abbrev cX2_length : ByteArray := prog_4_method_2_code
def yX2_length : MethodName := ⟨RX2, "length", "()I"⟩
abbrev cX2_isFull : ByteArray := prog_4_method_3_code
def yX2_isFull : MethodName := ⟨RX2, "isFull", "()Z"⟩
abbrev cX2_append : ByteArray := prog_4_method_4_code
def yX2_append : MethodName := ⟨RX2, "append", "(I)I"⟩
abbrev cX2_empty : ByteArray := prog_4_method_5_code
def yX2_empty : MethodName := ⟨RX2, "empty", "()I"⟩
abbrev cX2_word : ByteArray := prog_4_method_6_code
def yX2_word : MethodName := ⟨RX2, "word", "()LOvenDays$Word;"⟩
abbrev cX2_number : ByteArray := prog_4_method_7_code
def yX2_number : MethodName := ⟨RX2, "number", "(I)I"⟩
abbrev cX2_rewind : ByteArray := prog_4_method_8_code
def yX2_rewind : MethodName := ⟨RX2, "rewind", "()V"⟩
abbrev cX2_findFault : ByteArray := prog_4_method_9_code
def yX2_findFault : MethodName := ⟨RX2, "findFault", "()I"⟩
abbrev cX2_readCommand : ByteArray := prog_4_method_10_code
def yX2_readCommand : MethodName := ⟨RX2, "readCommand", "()Z"⟩
abbrev cX2_failAt : ByteArray := prog_4_method_11_code
def yX2_failAt : MethodName := ⟨RX2, "failAt", "(I)Z"⟩
abbrev cX2_here : ByteArray := prog_4_method_12_code
def yX2_here : MethodName := ⟨RX2, "here", "()I"⟩
abbrev cX2_stands : ByteArray := prog_4_method_13_code
def yX2_stands : MethodName := ⟨RX2, "stands", "(C)Z"⟩
abbrev cX2_standsDigit : ByteArray := prog_4_method_14_code
def yX2_standsDigit : MethodName := ⟨RX2, "standsDigit", "()Z"⟩
abbrev cX2_skipSpaces : ByteArray := prog_4_method_15_code
def yX2_skipSpaces : MethodName := ⟨RX2, "skipSpaces", "()V"⟩
abbrev cX2_readWord : ByteArray := prog_4_method_16_code
def yX2_readWord : MethodName := ⟨RX2, "readWord", "()Z"⟩
abbrev cX2_wordBetween : ByteArray := prog_4_method_17_code
def yX2_wordBetween : MethodName := ⟨RX2, "wordBetween", "(II)LOvenDays$Word;"⟩
abbrev cX2_isBetween : ByteArray := prog_4_method_18_code
def yX2_isBetween : MethodName := ⟨RX2, "isBetween", "(Ljava/lang/String;II)Z"⟩
abbrev cX2_readNumbers : ByteArray := prog_4_method_19_code
def yX2_readNumbers : MethodName := ⟨RX2, "readNumbers", "()Z"⟩
abbrev cX2_readDigits : ByteArray := prog_4_method_20_code
def yX2_readDigits : MethodName := ⟨RX2, "readDigits", "()I"⟩
def RX3 : String := "OvenDays$DayPlan"
def TX3 : u_T := fun k => match k with
  | 0 => ("OvenDays$DayPlan", "order", "[I", true)
  | 1 => ("OvenDays$DayPlan", "loadAt", "[I", true)
  | 2 => ("OvenDays$DayPlan", "waiting", "[I", true)
  | 3 => ("OvenDays$DayPlan", "loads", "LOvenDays$Loads;", true)
  | 4 => ("OvenDays$DayPlan", "count", "I", false)
  | 5 => ("OvenDays$DayPlan", "left", "I", false)
  | _ => ("OvenDays$DayPlan", "heat", "I", false)
def tyX3 : Nat → FieldType := fun k => match k with
  | 0 => .array .int
  | 1 => .array .int
  | 2 => .array .int
  | 3 => .object "OvenDays$Loads"
  | 4 => .int
  | 5 => .int
  | _ => .int
abbrev wsX30 : List Cond := u_ws RX3 TX3 7
theorem nmX3 : ∀ a, a < 7 → ∀ b, b < 7 → a ≠ b → (TX3 a).2.1 ≠ (TX3 b).2.1 := by decide +kernel
theorem tyX3_ok : ∀ k, k < 7 → parseFieldDescriptor (TX3 k).2.2.1 = some (tyX3 k) := by decide +kernel
abbrev cX3_init : ByteArray := prog_5_method_1_code
def yX3_init : MethodName := ⟨RX3, "<init>", "()V"⟩
abbrev cX3_paleBelow : ByteArray := prog_5_method_2_code
def yX3_paleBelow : MethodName := ⟨RX3, "paleBelow", "(I)I"⟩
abbrev cX3_arrange : ByteArray := prog_5_method_3_code
def yX3_arrange : MethodName := ⟨RX3, "arrange", "(LOvenDays$Batches;II)V"⟩
abbrev cX3_fire : ByteArray := prog_5_method_4_code
def yX3_fire : MethodName := ⟨RX3, "fire", "(LOvenDays$Batches;I)V"⟩
abbrev cX3_startWaiting : ByteArray := prog_5_method_5_code
def yX3_startWaiting : MethodName := ⟨RX3, "startWaiting", "(LOvenDays$Batches;)V"⟩
abbrev cX3_kindForHeat : ByteArray := prog_5_method_6_code
def yX3_kindForHeat : MethodName := ⟨RX3, "kindForHeat", "()I"⟩
abbrev cX3_isTooHotForSome : ByteArray := prog_5_method_7_code
def yX3_isTooHotForSome : MethodName := ⟨RX3, "isTooHotForSome", "()Z"⟩
abbrev cX3_bakeLoad : ByteArray := prog_5_method_8_code
def yX3_bakeLoad : MethodName := ⟨RX3, "bakeLoad", "(LOvenDays$Batches;I)V"⟩
abbrev cX3_size : ByteArray := prog_5_method_9_code
def yX3_size : MethodName := ⟨RX3, "size", "()I"⟩
abbrev cX3_loads : ByteArray := prog_5_method_10_code
def yX3_loads : MethodName := ⟨RX3, "loads", "()LOvenDays$Loads;"⟩
abbrev cX3_heat : ByteArray := prog_5_method_11_code
def yX3_heat : MethodName := ⟨RX3, "heat", "()I"⟩
abbrev cX3_batchAt : ByteArray := prog_5_method_12_code
def yX3_batchAt : MethodName := ⟨RX3, "batchAt", "(I)I"⟩
abbrev cX3_loadAt : ByteArray := prog_5_method_13_code
def yX3_loadAt : MethodName := ⟨RX3, "loadAt", "(I)I"⟩
abbrev cX3_placeOf : ByteArray := prog_5_method_14_code
def yX3_placeOf : MethodName := ⟨RX3, "placeOf", "(I)I"⟩
abbrev cX3_dough : ByteArray := prog_5_method_15_code
def yX3_dough : MethodName := ⟨RX3, "dough", "(LOvenDays$Batches;)I"⟩
def RX4 : String := "OvenDays$Households"
def TX4 : u_T := fun k => match k with
  | 0 => ("OvenDays$Households", "rows", "LOvenDays$Table;", true)
  | _ => ("OvenDays$Households", "count", "I", false)
def tyX4 : Nat → FieldType := fun k => match k with
  | 0 => .object "OvenDays$Table"
  | _ => .int
abbrev wsX40 : List Cond := u_ws RX4 TX4 2
theorem nmX4 : ∀ a, a < 2 → ∀ b, b < 2 → a ≠ b → (TX4 a).2.1 ≠ (TX4 b).2.1 := by decide +kernel
theorem tyX4_ok : ∀ k, k < 2 → parseFieldDescriptor (TX4 k).2.2.1 = some (tyX4 k) := by decide +kernel
abbrev cX4_init : ByteArray := prog_6_method_1_code
def yX4_init : MethodName := ⟨RX4, "<init>", "()V"⟩
abbrev cX4_copyFrom : ByteArray := prog_6_method_2_code
def yX4_copyFrom : MethodName := ⟨RX4, "copyFrom", "(LOvenDays$Households;)V"⟩
abbrev cX4_size : ByteArray := prog_6_method_3_code
def yX4_size : MethodName := ⟨RX4, "size", "()I"⟩
abbrev cX4_has : ByteArray := prog_6_method_4_code
def yX4_has : MethodName := ⟨RX4, "has", "(I)Z"⟩
abbrev cX4_isFull : ByteArray := prog_6_method_5_code
def yX4_isFull : MethodName := ⟨RX4, "isFull", "()Z"⟩
abbrev cX4_value : ByteArray := prog_6_method_6_code
def yX4_value : MethodName := ⟨RX4, "value", "(II)I"⟩
abbrev cX4_sumOf : ByteArray := prog_6_method_7_code
def yX4_sumOf : MethodName := ⟨RX4, "sumOf", "(I)I"⟩
abbrev cX4_withMark : ByteArray := prog_6_method_8_code
def yX4_withMark : MethodName := ⟨RX4, "withMark", "(I)I"⟩
abbrev cX4_add : ByteArray := prog_6_method_9_code
def yX4_add : MethodName := ⟨RX4, "add", "(I)I"⟩
abbrev cX4_changeMark : ByteArray := prog_6_method_10_code
def yX4_changeMark : MethodName := ⟨RX4, "changeMark", "(II)I"⟩
abbrev cX4_excuseOne : ByteArray := prog_6_method_11_code
def yX4_excuseOne : MethodName := ⟨RX4, "excuseOne", "(I)I"⟩
abbrev cX4_putIn : ByteArray := prog_6_method_12_code
def yX4_putIn : MethodName := ⟨RX4, "putIn", "(II)V"⟩
abbrev cX4_bringWood : ByteArray := prog_6_method_13_code
def yX4_bringWood : MethodName := ⟨RX4, "bringWood", "(I)V"⟩
abbrev cX4_dueOf : ByteArray := prog_6_method_14_code
def yX4_dueOf : MethodName := ⟨RX4, "dueOf", "(I)J"⟩
abbrev cX4_nextOne : ByteArray := prog_6_method_15_code
def yX4_nextOne : MethodName := ⟨RX4, "nextOne", "()I"⟩
abbrev cX4_takerOf : ByteArray := prog_6_method_16_code
def yX4_takerOf : MethodName := ⟨RX4, "takerOf", "(II)I"⟩
abbrev cX4_likePairs : ByteArray := prog_6_method_17_code
def yX4_likePairs : MethodName := ⟨RX4, "likePairs", "()I"⟩
abbrev cX4_hasLike : ByteArray := prog_6_method_18_code
def yX4_hasLike : MethodName := ⟨RX4, "hasLike", "(I)Z"⟩
abbrev cX4_alike : ByteArray := prog_6_method_19_code
def yX4_alike : MethodName := ⟨RX4, "alike", "(II)Z"⟩
def RX5 : String := "OvenDays$Loads"
def TX5 : u_T := fun k => match k with
  | 0 => ("OvenDays$Loads", "rows", "LOvenDays$Table;", true)
  | _ => ("OvenDays$Loads", "count", "I", false)
def tyX5 : Nat → FieldType := fun k => match k with
  | 0 => .object "OvenDays$Table"
  | _ => .int
abbrev wsX50 : List Cond := u_ws RX5 TX5 2
theorem nmX5 : ∀ a, a < 2 → ∀ b, b < 2 → a ≠ b → (TX5 a).2.1 ≠ (TX5 b).2.1 := by decide +kernel
theorem tyX5_ok : ∀ k, k < 2 → parseFieldDescriptor (TX5 k).2.2.1 = some (tyX5 k) := by decide +kernel
abbrev cX5_init : ByteArray := prog_7_method_1_code
def yX5_init : MethodName := ⟨RX5, "<init>", "()V"⟩
abbrev cX5_copyFrom : ByteArray := prog_7_method_2_code
def yX5_copyFrom : MethodName := ⟨RX5, "copyFrom", "(LOvenDays$Loads;)V"⟩
abbrev cX5_size : ByteArray := prog_7_method_3_code
def yX5_size : MethodName := ⟨RX5, "size", "()I"⟩
abbrev cX5_value : ByteArray := prog_7_method_4_code
def yX5_value : MethodName := ⟨RX5, "value", "(II)I"⟩
abbrev cX5_clear : ByteArray := prog_7_method_5_code
def yX5_clear : MethodName := ⟨RX5, "clear", "()V"⟩
abbrev cX5_add : ByteArray := prog_7_method_6_code
def yX5_add : MethodName := ⟨RX5, "add", "(IIIII)V"⟩
def RX6 : String := "OvenDays$Loaves"
def TX6 : u_T := fun k => match k with
  | 0 => ("OvenDays$Loaves", "rows", "LOvenDays$Table;", true)
  | 1 => ("OvenDays$Loaves", "cameOut", "I", false)
  | _ => ("OvenDays$Loaves", "pale", "I", false)
def tyX6 : Nat → FieldType := fun k => match k with
  | 0 => .object "OvenDays$Table"
  | 1 => .int
  | _ => .int
abbrev wsX60 : List Cond := u_ws RX6 TX6 3
theorem nmX6 : ∀ a, a < 3 → ∀ b, b < 3 → a ≠ b → (TX6 a).2.1 ≠ (TX6 b).2.1 := by decide +kernel
theorem tyX6_ok : ∀ k, k < 3 → parseFieldDescriptor (TX6 k).2.2.1 = some (tyX6 k) := by decide +kernel
abbrev cX6_init : ByteArray := prog_8_method_1_code
def yX6_init : MethodName := ⟨RX6, "<init>", "()V"⟩
abbrev cX6_copyFrom : ByteArray := prog_8_method_2_code
def yX6_copyFrom : MethodName := ⟨RX6, "copyFrom", "(LOvenDays$Loaves;)V"⟩
abbrev cX6_cameOut : ByteArray := prog_8_method_3_code
def yX6_cameOut : MethodName := ⟨RX6, "cameOut", "()I"⟩
abbrev cX6_pale : ByteArray := prog_8_method_4_code
def yX6_pale : MethodName := ⟨RX6, "pale", "()I"⟩
abbrev cX6_kept : ByteArray := prog_8_method_5_code
def yX6_kept : MethodName := ⟨RX6, "kept", "()I"⟩
abbrev cX6_firstKept : ByteArray := prog_8_method_6_code
def yX6_firstKept : MethodName := ⟨RX6, "firstKept", "()I"⟩
abbrev cX6_keeps : ByteArray := prog_8_method_7_code
def yX6_keeps : MethodName := ⟨RX6, "keeps", "(I)Z"⟩
abbrev cX6_value : ByteArray := prog_8_method_8_code
def yX6_value : MethodName := ⟨RX6, "value", "(II)I"⟩
abbrev cX6_give : ByteArray := prog_8_method_9_code
def yX6_give : MethodName := ⟨RX6, "give", "(II)V"⟩
abbrev cX6_add : ByteArray := prog_8_method_10_code
def yX6_add : MethodName := ⟨RX6, "add", "(IIIZII)V"⟩
abbrev cX6_sortFrom : ByteArray := prog_8_method_11_code
def yX6_sortFrom : MethodName := ⟨RX6, "sortFrom", "(ILOvenDays$Households;I)V"⟩
abbrev cX6_countWith : ByteArray := prog_8_method_12_code
def yX6_countWith : MethodName := ⟨RX6, "countWith", "(II)I"⟩
abbrev cX6_countWithBoth : ByteArray := prog_8_method_13_code
def yX6_countWithBoth : MethodName := ⟨RX6, "countWithBoth", "(IIII)I"⟩
abbrev cX6_countWithOthers : ByteArray := prog_8_method_14_code
def yX6_countWithOthers : MethodName := ⟨RX6, "countWithOthers", "()I"⟩
abbrev cX6_balanceOf : ByteArray := prog_8_method_15_code
def yX6_balanceOf : MethodName := ⟨RX6, "balanceOf", "(II)I"⟩
abbrev cX6_moveFromShelf : ByteArray := prog_8_method_16_code
def yX6_moveFromShelf : MethodName := ⟨RX6, "moveFromShelf", "(II)I"⟩
abbrev cX6_moveToShelf : ByteArray := prog_8_method_17_code
def yX6_moveToShelf : MethodName := ⟨RX6, "moveToShelf", "(I)I"⟩
abbrev cX6_emptyShelf : ByteArray := prog_8_method_18_code
def yX6_emptyShelf : MethodName := ⟨RX6, "emptyShelf", "()I"⟩
def RX7 : String := "OvenDays$Table"
def TX7 : u_T := fun k => match k with
  | 0 => ("OvenDays$Table", "columns", "[[I", true)
  | _ => ("OvenDays$Table", "room", "I", true)
def tyX7 : Nat → FieldType := fun k => match k with
  | 0 => .array (.array .int)
  | _ => .int
abbrev wsX70 : List Cond := u_ws RX7 TX7 2
theorem nmX7 : ∀ a, a < 2 → ∀ b, b < 2 → a ≠ b → (TX7 a).2.1 ≠ (TX7 b).2.1 := by decide +kernel
theorem tyX7_ok : ∀ k, k < 2 → parseFieldDescriptor (TX7 k).2.2.1 = some (tyX7 k) := by decide +kernel
abbrev cX7_init : ByteArray := prog_9_method_1_code
def yX7_init : MethodName := ⟨RX7, "<init>", "(II)V"⟩
abbrev cX7_get : ByteArray := prog_9_method_2_code
def yX7_get : MethodName := ⟨RX7, "get", "(II)I"⟩
abbrev cX7_put : ByteArray := prog_9_method_3_code
def yX7_put : MethodName := ⟨RX7, "put", "(III)V"⟩
abbrev cX7_count : ByteArray := prog_9_method_4_code
def yX7_count : MethodName := ⟨RX7, "count", "(III)I"⟩
abbrev cX7_countBoth : ByteArray := prog_9_method_5_code
def yX7_countBoth : MethodName := ⟨RX7, "countBoth", "(IIIII)I"⟩
abbrev cX7_sum : ByteArray := prog_9_method_6_code
def yX7_sum : MethodName := ⟨RX7, "sum", "(II)I"⟩
abbrev cX7_remove : ByteArray := prog_9_method_7_code
def yX7_remove : MethodName := ⟨RX7, "remove", "(II)V"⟩
abbrev cX7_copyFrom : ByteArray := prog_9_method_8_code
def yX7_copyFrom : MethodName := ⟨RX7, "copyFrom", "(LOvenDays$Table;I)V"⟩
def RX8 : String := "OvenDays$UndoStack"
def TX8 : u_T := fun k => match k with
  | 0 => ("OvenDays$UndoStack", "states", "[LOvenDays$Village;", true)
  | 1 => ("OvenDays$UndoStack", "latest", "I", false)
  | _ => ("OvenDays$UndoStack", "count", "I", false)
def tyX8 : Nat → FieldType := fun k => match k with
  | 0 => .array (.object "OvenDays$Village")
  | 1 => .int
  | _ => .int
abbrev wsX80 : List Cond := u_ws RX8 TX8 3
theorem nmX8 : ∀ a, a < 3 → ∀ b, b < 3 → a ≠ b → (TX8 a).2.1 ≠ (TX8 b).2.1 := by decide +kernel
theorem tyX8_ok : ∀ k, k < 3 → parseFieldDescriptor (TX8 k).2.2.1 = some (tyX8 k) := by decide +kernel
abbrev cX8_init : ByteArray := prog_10_method_1_code
def yX8_init : MethodName := ⟨RX8, "<init>", "()V"⟩
abbrev cX8_size : ByteArray := prog_10_method_2_code
def yX8_size : MethodName := ⟨RX8, "size", "()I"⟩
abbrev cX8_push : ByteArray := prog_10_method_3_code
def yX8_push : MethodName := ⟨RX8, "push", "(LOvenDays$Village;)V"⟩
abbrev cX8_popInto : ByteArray := prog_10_method_4_code
def yX8_popInto : MethodName := ⟨RX8, "popInto", "(LOvenDays$Village;)I"⟩
abbrev cX8_stateAt : ByteArray := prog_10_method_5_code
def yX8_stateAt : MethodName := ⟨RX8, "stateAt", "(I)LOvenDays$Village;"⟩
def RX9 : String := "OvenDays$Village"
def TX9 : u_T := fun k => match k with
  | 0 => ("OvenDays$Village", "households", "LOvenDays$Households;", true)
  | 1 => ("OvenDays$Village", "batches", "LOvenDays$Batches;", true)
  | 2 => ("OvenDays$Village", "loads", "LOvenDays$Loads;", true)
  | 3 => ("OvenDays$Village", "loaves", "LOvenDays$Loaves;", true)
  | 4 => ("OvenDays$Village", "heat", "I", false)
  | 5 => ("OvenDays$Village", "s", "I", false)
  | 6 => ("OvenDays$Village", "days", "I", false)
  | _ => ("OvenDays$Village", "dough", "I", false)
def tyX9 : Nat → FieldType := fun k => match k with
  | 0 => .object "OvenDays$Households"
  | 1 => .object "OvenDays$Batches"
  | 2 => .object "OvenDays$Loads"
  | 3 => .object "OvenDays$Loaves"
  | 4 => .int
  | 5 => .int
  | 6 => .int
  | _ => .int
abbrev wsX90 : List Cond := u_ws RX9 TX9 8
theorem nmX9 : ∀ a, a < 8 → ∀ b, b < 8 → a ≠ b → (TX9 a).2.1 ≠ (TX9 b).2.1 := by decide +kernel
theorem tyX9_ok : ∀ k, k < 8 → parseFieldDescriptor (TX9 k).2.2.1 = some (tyX9 k) := by decide +kernel
abbrev cX9_init : ByteArray := prog_11_method_1_code
def yX9_init : MethodName := ⟨RX9, "<init>", "()V"⟩
abbrev cX9_copyFrom : ByteArray := prog_11_method_2_code
def yX9_copyFrom : MethodName := ⟨RX9, "copyFrom", "(LOvenDays$Village;)V"⟩
abbrev cX9_whyNoHousehold : ByteArray := prog_11_method_3_code
def yX9_whyNoHousehold : MethodName := ⟨RX9, "whyNoHousehold", "(I)I"⟩
abbrev cX9_whyNoJoining : ByteArray := prog_11_method_4_code
def yX9_whyNoJoining : MethodName := ⟨RX9, "whyNoJoining", "(I)I"⟩
abbrev cX9_whyNoOtherMark : ByteArray := prog_11_method_5_code
def yX9_whyNoOtherMark : MethodName := ⟨RX9, "whyNoOtherMark", "(II)I"⟩
abbrev cX9_whyNoBatch : ByteArray := prog_11_method_6_code
def yX9_whyNoBatch : MethodName := ⟨RX9, "whyNoBatch", "(III)I"⟩
abbrev cX9_whyNoDay : ByteArray := prog_11_method_7_code
def yX9_whyNoDay : MethodName := ⟨RX9, "whyNoDay", "(I)I"⟩
abbrev cX9_changeS : ByteArray := prog_11_method_8_code
def yX9_changeS : MethodName := ⟨RX9, "changeS", "(I)I"⟩
abbrev cX9_letClaim : ByteArray := prog_11_method_9_code
def yX9_letClaim : MethodName := ⟨RX9, "letClaim", "(I)I"⟩
abbrev cX9_heatWith : ByteArray := prog_11_method_10_code
def yX9_heatWith : MethodName := ⟨RX9, "heatWith", "(I)I"⟩
abbrev cX9_arrangeNextDay : ByteArray := prog_11_method_11_code
def yX9_arrangeNextDay : MethodName := ⟨RX9, "arrangeNextDay", "(LOvenDays$DayPlan;)V"⟩
abbrev cX9_haveDay : ByteArray := prog_11_method_12_code
def yX9_haveDay : MethodName := ⟨RX9, "haveDay", "(ILOvenDays$DayPlan;)I"⟩
abbrev cX9_bakeLoads : ByteArray := prog_11_method_13_code
def yX9_bakeLoads : MethodName := ⟨RX9, "bakeLoads", "(LOvenDays$DayPlan;)I"⟩
abbrev cX9_bakeBatch : ByteArray := prog_11_method_14_code
def yX9_bakeBatch : MethodName := ⟨RX9, "bakeBatch", "(II)V"⟩
abbrev cX9_blur : ByteArray := prog_11_method_15_code
def yX9_blur : MethodName := ⟨RX9, "blur", "(I)I"⟩
abbrev cX9_draw : ByteArray := prog_11_method_16_code
def yX9_draw : MethodName := ⟨RX9, "draw", "(I)I"⟩
def RX10 : String := "OvenDays$Word"
def TX10 : u_T := fun k => match k with
  | _ => ("", "", "", false)
def tyX10 : Nat → FieldType := fun k => match k with
  | _ => .int
abbrev wsX100 : List Cond := u_ws RX10 TX10 0
theorem nmX10 : ∀ a, a < 0 → ∀ b, b < 0 → a ≠ b → (TX10 a).2.1 ≠ (TX10 b).2.1 := by decide +kernel
theorem tyX10_ok : ∀ k, k < 0 → parseFieldDescriptor (TX10 k).2.2.1 = some (tyX10 k) := by decide +kernel
def RX11 : String := "OvenDays"
def TX11 : u_T := fun k => match k with
  | 0 => ("OvenDays", "village", "LOvenDays$Village;", true)
  | 1 => ("OvenDays", "plan", "LOvenDays$DayPlan;", true)
  | 2 => ("OvenDays", "undoStack", "LOvenDays$UndoStack;", true)
  | 3 => ("OvenDays", "text", "LOvenDays$CommandText;", true)
  | _ => ("OvenDays", "stop", "I", false)
def tyX11 : Nat → FieldType := fun k => match k with
  | 0 => .object "OvenDays$Village"
  | 1 => .object "OvenDays$DayPlan"
  | 2 => .object "OvenDays$UndoStack"
  | 3 => .object "OvenDays$CommandText"
  | _ => .int
abbrev wsX110 : List Cond := u_ws RX11 TX11 5
theorem nmX11 : ∀ a, a < 5 → ∀ b, b < 5 → a ≠ b → (TX11 a).2.1 ≠ (TX11 b).2.1 := by decide +kernel
theorem tyX11_ok : ∀ k, k < 5 → parseFieldDescriptor (TX11 k).2.2.1 = some (tyX11 k) := by decide +kernel
abbrev cX11_init : ByteArray := prog_1_method_1_code
def yX11_init : MethodName := ⟨RX11, "<init>", "()V"⟩
abbrev cX11_join : ByteArray := prog_1_method_2_code
def yX11_join : MethodName := ⟨RX11, "join", "(I)I"⟩
abbrev cX11_remark : ByteArray := prog_1_method_3_code
def yX11_remark : MethodName := ⟨RX11, "remark", "(II)I"⟩
abbrev cX11_excuse : ByteArray := prog_1_method_4_code
def yX11_excuse : MethodName := ⟨RX11, "excuse", "(I)I"⟩
abbrev cX11_bring : ByteArray := prog_1_method_5_code
def yX11_bring : MethodName := ⟨RX11, "bring", "(III)I"⟩
abbrev cX11_takeBack : ByteArray := prog_1_method_6_code
def yX11_takeBack : MethodName := ⟨RX11, "takeBack", "(I)I"⟩
abbrev cX11_setS : ByteArray := prog_1_method_7_code
def yX11_setS : MethodName := ⟨RX11, "setS", "(I)I"⟩
abbrev cX11_bake : ByteArray := prog_1_method_8_code
def yX11_bake : MethodName := ⟨RX11, "bake", "(I)I"⟩
abbrev cX11_claim : ByteArray := prog_1_method_9_code
def yX11_claim : MethodName := ⟨RX11, "claim", "(I)I"⟩
abbrev cX11_returnLoaves : ByteArray := prog_1_method_10_code
def yX11_returnLoaves : MethodName := ⟨RX11, "returnLoaves", "(I)I"⟩
abbrev cX11_giveAway : ByteArray := prog_1_method_11_code
def yX11_giveAway : MethodName := ⟨RX11, "giveAway", "()I"⟩
abbrev cX11_household : ByteArray := prog_1_method_12_code
def yX11_household : MethodName := ⟨RX11, "household", "(II)I"⟩
abbrev cX11_due : ByteArray := prog_1_method_13_code
def yX11_due : MethodName := ⟨RX11, "due", "(I)J"⟩
abbrev cX11_nextForWood : ByteArray := prog_1_method_14_code
def yX11_nextForWood : MethodName := ⟨RX11, "nextForWood", "()I"⟩
abbrev cX11_balance : ByteArray := prog_1_method_15_code
def yX11_balance : MethodName := ⟨RX11, "balance", "(II)I"⟩
abbrev cX11_batch : ByteArray := prog_1_method_16_code
def yX11_batch : MethodName := ⟨RX11, "batch", "(II)I"⟩
abbrev cX11_loaf : ByteArray := prog_1_method_17_code
def yX11_loaf : MethodName := ⟨RX11, "loaf", "(II)I"⟩
abbrev cX11_load : ByteArray := prog_1_method_18_code
def yX11_load : MethodName := ⟨RX11, "load", "(II)I"⟩
abbrev cX11_whole : ByteArray := prog_1_method_19_code
def yX11_whole : MethodName := ⟨RX11, "whole", "(I)I"⟩
abbrev cX11_doughWith : ByteArray := prog_1_method_20_code
def yX11_doughWith : MethodName := ⟨RX11, "doughWith", "(I)I"⟩
abbrev cX11_bestWood : ByteArray := prog_1_method_21_code
def yX11_bestWood : MethodName := ⟨RX11, "bestWood", "()I"⟩
abbrev cX11_likeMarks : ByteArray := prog_1_method_22_code
def yX11_likeMarks : MethodName := ⟨RX11, "likeMarks", "()I"⟩
abbrev cX11_freeMark : ByteArray := prog_1_method_23_code
def yX11_freeMark : MethodName := ⟨RX11, "freeMark", "(I)I"⟩
abbrev cX11_type : ByteArray := prog_1_method_24_code
def yX11_type : MethodName := ⟨RX11, "type", "(I)I"⟩
abbrev cX11_clearCommands : ByteArray := prog_1_method_25_code
def yX11_clearCommands : MethodName := ⟨RX11, "clearCommands", "()I"⟩
abbrev cX11_runCommands : ByteArray := prog_1_method_26_code
def yX11_runCommands : MethodName := ⟨RX11, "runCommands", "()I"⟩
abbrev cX11_stop : ByteArray := prog_1_method_27_code
def yX11_stop : MethodName := ⟨RX11, "stop", "()I"⟩
abbrev cX11_undo : ByteArray := prog_1_method_28_code
def yX11_undo : MethodName := ⟨RX11, "undo", "()I"⟩
abbrev cX11_digest : ByteArray := prog_1_method_29_code
def yX11_digest : MethodName := ⟨RX11, "digest", "()J"⟩
abbrev cX11_refuse : ByteArray := prog_1_method_30_code
def yX11_refuse : MethodName := ⟨RX11, "refuse", "(I)V"⟩
abbrev cX11_whyNotWithin : ByteArray := prog_1_method_31_code
def yX11_whyNotWithin : MethodName := ⟨RX11, "whyNotWithin", "(III)I"⟩
abbrev cX11_whyNotBelow : ByteArray := prog_1_method_32_code
def yX11_whyNotBelow : MethodName := ⟨RX11, "whyNotBelow", "(II)I"⟩
abbrev cX11_doughOfArrangedDay : ByteArray := prog_1_method_33_code
def yX11_doughOfArrangedDay : MethodName := ⟨RX11, "doughOfArrangedDay", "(I)I"⟩
abbrev cX11_nextWithAsMany : ByteArray := prog_1_method_34_code
def yX11_nextWithAsMany : MethodName := ⟨RX11, "nextWithAsMany", "(I)I"⟩
abbrev cX11_carryOut : ByteArray := prog_1_method_35_code
def yX11_carryOut : MethodName := ⟨RX11, "carryOut", "(LOvenDays$Word;III)I"⟩
abbrev cX11_whyNoCommand : ByteArray := prog_1_method_36_code
def yX11_whyNoCommand : MethodName := ⟨RX11, "whyNoCommand", "(LOvenDays$Word;III)I"⟩
abbrev cX11_mix : ByteArray := prog_1_method_37_code
def yX11_mix : MethodName := ⟨RX11, "mix", "(JJ)J"⟩
abbrev cX11_mixHouseholds : ByteArray := prog_1_method_38_code
def yX11_mixHouseholds : MethodName := ⟨RX11, "mixHouseholds", "(J)J"⟩
abbrev cX11_mixBatches : ByteArray := prog_1_method_39_code
def yX11_mixBatches : MethodName := ⟨RX11, "mixBatches", "(J)J"⟩
abbrev cX11_mixLoaves : ByteArray := prog_1_method_40_code
def yX11_mixLoaves : MethodName := ⟨RX11, "mixLoaves", "(J)J"⟩
abbrev cX11_mixLoads : ByteArray := prog_1_method_41_code
def yX11_mixLoads : MethodName := ⟨RX11, "mixLoads", "(J)J"⟩
abbrev cX11_contains : ByteArray := prog_1_method_42_code
def yX11_contains : MethodName := ⟨RX11, "contains", "(II)Z"⟩
def RX12 : String := "OvenDaysModel"
def TX12 : u_T := fun k => match k with
  | 0 => ("OvenDaysModel", "now", "[I", true)
  | 1 => ("OvenDaysModel", "past", "[I", true)
  | 2 => ("OvenDaysModel", "aside", "[I", true)
  | 3 => ("OvenDaysModel", "saved", "I", false)
  | 4 => ("OvenDaysModel", "refusal", "I", false)
  | 5 => ("OvenDaysModel", "commands", "[I", true)
  | 6 => ("OvenDaysModel", "length", "I", false)
  | 7 => ("OvenDaysModel", "stopped", "I", false)
  | 8 => ("OvenDaysModel", "inOven", "[I", true)
  | 9 => ("OvenDaysModel", "inMany", "I", false)
  | 10 => ("OvenDaysModel", "baked", "I", false)
  | 11 => ("OvenDaysModel", "spot", "I", false)
  | 12 => ("OvenDaysModel", "word", "I", false)
  | 13 => ("OvenDaysModel", "numbers", "[I", true)
  | _ => ("OvenDaysModel", "hash", "J", false)
def tyX12 : Nat → FieldType := fun k => match k with
  | 0 => .array .int
  | 1 => .array .int
  | 2 => .array .int
  | 3 => .int
  | 4 => .int
  | 5 => .array .int
  | 6 => .int
  | 7 => .int
  | 8 => .array .int
  | 9 => .int
  | 10 => .int
  | 11 => .int
  | 12 => .int
  | 13 => .array .int
  | _ => .long
abbrev wsX120 : List Cond := u_ws RX12 TX12 15
theorem nmX12 : ∀ a, a < 15 → ∀ b, b < 15 → a ≠ b → (TX12 a).2.1 ≠ (TX12 b).2.1 := by decide +kernel
theorem tyX12_ok : ∀ k, k < 15 → parseFieldDescriptor (TX12 k).2.2.1 = some (tyX12 k) := by decide +kernel
abbrev cX12_init : ByteArray := prog_14_method_1_code
def yX12_init : MethodName := ⟨RX12, "<init>", "()V"⟩
abbrev cX12_thrown : ByteArray := prog_14_method_2_code
def yX12_thrown : MethodName := ⟨RX12, "thrown", "()I"⟩
abbrev cX12_refused : ByteArray := prog_14_method_3_code
def yX12_refused : MethodName := ⟨RX12, "refused", "(I)Z"⟩
abbrev cX12_in : ByteArray := prog_14_method_4_code
def yX12_in : MethodName := ⟨RX12, "in", "(III)Z"⟩
abbrev cX12_bits : ByteArray := prog_14_method_5_code
def yX12_bits : MethodName := ⟨RX12, "bits", "(I)I"⟩
abbrev cX12_saves : ByteArray := prog_14_method_6_code
def yX12_saves : MethodName := ⟨RX12, "saves", "()V"⟩
abbrev cX12_undo : ByteArray := prog_14_method_7_code
def yX12_undo : MethodName := ⟨RX12, "undo", "()I"⟩
abbrev cX12_keeps : ByteArray := prog_14_method_8_code
def yX12_keeps : MethodName := ⟨RX12, "keeps", "()V"⟩
abbrev cX12_takesBack : ByteArray := prog_14_method_9_code
def yX12_takesBack : MethodName := ⟨RX12, "takesBack", "()V"⟩
abbrev cX12_isHouse : ByteArray := prog_14_method_10_code
def yX12_isHouse : MethodName := ⟨RX12, "isHouse", "(I)Z"⟩
abbrev cX12_of : ByteArray := prog_14_method_11_code
def yX12_of : MethodName := ⟨RX12, "of", "(II)I"⟩
abbrev cX12_lays : ByteArray := prog_14_method_12_code
def yX12_lays : MethodName := ⟨RX12, "lays", "(III)V"⟩
abbrev cX12_isMark : ByteArray := prog_14_method_13_code
def yX12_isMark : MethodName := ⟨RX12, "isMark", "(I)Z"⟩
abbrev cX12_isTaken : ByteArray := prog_14_method_14_code
def yX12_isTaken : MethodName := ⟨RX12, "isTaken", "(II)Z"⟩
abbrev cX12_badJoin : ByteArray := prog_14_method_15_code
def yX12_badJoin : MethodName := ⟨RX12, "badJoin", "(I)I"⟩
abbrev cX12_joins : ByteArray := prog_14_method_16_code
def yX12_joins : MethodName := ⟨RX12, "joins", "(I)I"⟩
abbrev cX12_join : ByteArray := prog_14_method_17_code
def yX12_join : MethodName := ⟨RX12, "join", "(I)I"⟩
abbrev cX12_remark : ByteArray := prog_14_method_18_code
def yX12_remark : MethodName := ⟨RX12, "remark", "(II)I"⟩
abbrev cX12_excused : ByteArray := prog_14_method_19_code
def yX12_excused : MethodName := ⟨RX12, "excused", "()I"⟩
abbrev cX12_excuse : ByteArray := prog_14_method_20_code
def yX12_excuse : MethodName := ⟨RX12, "excuse", "(I)I"⟩
abbrev cX12_sum : ByteArray := prog_14_method_21_code
def yX12_sum : MethodName := ⟨RX12, "sum", "(I)I"⟩
abbrev cX12_dueOf : ByteArray := prog_14_method_22_code
def yX12_dueOf : MethodName := ⟨RX12, "dueOf", "(I)J"⟩
abbrev cX12_next : ByteArray := prog_14_method_23_code
def yX12_next : MethodName := ⟨RX12, "next", "()I"⟩
abbrev cX12_badBatch : ByteArray := prog_14_method_24_code
def yX12_badBatch : MethodName := ⟨RX12, "badBatch", "(III)I"⟩
abbrev cX12_brings : ByteArray := prog_14_method_25_code
def yX12_brings : MethodName := ⟨RX12, "brings", "(III)I"⟩
abbrev cX12_bring : ByteArray := prog_14_method_26_code
def yX12_bring : MethodName := ⟨RX12, "bring", "(III)I"⟩
abbrev cX12_dropsBatch : ByteArray := prog_14_method_27_code
def yX12_dropsBatch : MethodName := ⟨RX12, "dropsBatch", "(I)V"⟩
abbrev cX12_takeBack : ByteArray := prog_14_method_28_code
def yX12_takeBack : MethodName := ⟨RX12, "takeBack", "(I)I"⟩
abbrev cX12_setS : ByteArray := prog_14_method_29_code
def yX12_setS : MethodName := ⟨RX12, "setS", "(I)I"⟩
abbrev cX12_draw : ByteArray := prog_14_method_30_code
def yX12_draw : MethodName := ⟨RX12, "draw", "(I)I"⟩
abbrev cX12_loafAt : ByteArray := prog_14_method_31_code
def yX12_loafAt : MethodName := ⟨RX12, "loafAt", "(I)I"⟩
abbrev cX12_firstKept : ByteArray := prog_14_method_32_code
def yX12_firstKept : MethodName := ⟨RX12, "firstKept", "()I"⟩
abbrev cX12_loafOf : ByteArray := prog_14_method_33_code
def yX12_loafOf : MethodName := ⟨RX12, "loafOf", "(II)I"⟩
abbrev cX12_comesOut : ByteArray := prog_14_method_34_code
def yX12_comesOut : MethodName := ⟨RX12, "comesOut", "(IIZ)V"⟩
abbrev cX12_meant : ByteArray := prog_14_method_35_code
def yX12_meant : MethodName := ⟨RX12, "meant", "(II)I"⟩
abbrev cX12_sorts : ByteArray := prog_14_method_36_code
def yX12_sorts : MethodName := ⟨RX12, "sorts", "(II)V"⟩
abbrev cX12_lowest : ByteArray := prog_14_method_37_code
def yX12_lowest : MethodName := ⟨RX12, "lowest", "(I)I"⟩
abbrev cX12_highest : ByteArray := prog_14_method_38_code
def yX12_highest : MethodName := ⟨RX12, "highest", "(I)I"⟩
abbrev cX12_ticksOf : ByteArray := prog_14_method_39_code
def yX12_ticksOf : MethodName := ⟨RX12, "ticksOf", "(I)I"⟩
abbrev cX12_waits : ByteArray := prog_14_method_40_code
def yX12_waits : MethodName := ⟨RX12, "waits", "(I)Z"⟩
abbrev cX12_falls : ByteArray := prog_14_method_41_code
def yX12_falls : MethodName := ⟨RX12, "falls", "(I)V"⟩
abbrev cX12_fills : ByteArray := prog_14_method_42_code
def yX12_fills : MethodName := ⟨RX12, "fills", "(II)I"⟩
abbrev cX12_bakes : ByteArray := prog_14_method_43_code
def yX12_bakes : MethodName := ⟨RX12, "bakes", "(II)V"⟩
abbrev cX12_kindNow : ByteArray := prog_14_method_44_code
def yX12_kindNow : MethodName := ⟨RX12, "kindNow", "()I"⟩
abbrev cX12_dayWith : ByteArray := prog_14_method_45_code
def yX12_dayWith : MethodName := ⟨RX12, "dayWith", "(I)I"⟩
abbrev cX12_isWood : ByteArray := prog_14_method_46_code
def yX12_isWood : MethodName := ⟨RX12, "isWood", "(I)Z"⟩
abbrev cX12_badDay : ByteArray := prog_14_method_47_code
def yX12_badDay : MethodName := ⟨RX12, "badDay", "(I)I"⟩
abbrev cX12_bake : ByteArray := prog_14_method_48_code
def yX12_bake : MethodName := ⟨RX12, "bake", "(I)I"⟩
abbrev cX12_balanceOf : ByteArray := prog_14_method_49_code
def yX12_balanceOf : MethodName := ⟨RX12, "balanceOf", "(II)I"⟩
abbrev cX12_claims : ByteArray := prog_14_method_50_code
def yX12_claims : MethodName := ⟨RX12, "claims", "(I)I"⟩
abbrev cX12_returns : ByteArray := prog_14_method_51_code
def yX12_returns : MethodName := ⟨RX12, "returns", "(I)I"⟩
abbrev cX12_gives : ByteArray := prog_14_method_52_code
def yX12_gives : MethodName := ⟨RX12, "gives", "()I"⟩
abbrev cX12_claim : ByteArray := prog_14_method_53_code
def yX12_claim : MethodName := ⟨RX12, "claim", "(I)I"⟩
abbrev cX12_returnLoaves : ByteArray := prog_14_method_54_code
def yX12_returnLoaves : MethodName := ⟨RX12, "returnLoaves", "(I)I"⟩
abbrev cX12_giveAway : ByteArray := prog_14_method_55_code
def yX12_giveAway : MethodName := ⟨RX12, "giveAway", "()I"⟩
abbrev cX12_kept : ByteArray := prog_14_method_56_code
def yX12_kept : MethodName := ⟨RX12, "kept", "(IZZ)I"⟩
abbrev cX12_tellHouse : ByteArray := prog_14_method_57_code
def yX12_tellHouse : MethodName := ⟨RX12, "tellHouse", "(II)I"⟩
abbrev cX12_household : ByteArray := prog_14_method_58_code
def yX12_household : MethodName := ⟨RX12, "household", "(II)I"⟩
abbrev cX12_due : ByteArray := prog_14_method_59_code
def yX12_due : MethodName := ⟨RX12, "due", "(I)J"⟩
abbrev cX12_nextForWood : ByteArray := prog_14_method_60_code
def yX12_nextForWood : MethodName := ⟨RX12, "nextForWood", "()I"⟩
abbrev cX12_balance : ByteArray := prog_14_method_61_code
def yX12_balance : MethodName := ⟨RX12, "balance", "(II)I"⟩
abbrev cX12_behind : ByteArray := prog_14_method_62_code
def yX12_behind : MethodName := ⟨RX12, "behind", "(I)I"⟩
abbrev cX12_placeOf : ByteArray := prog_14_method_63_code
def yX12_placeOf : MethodName := ⟨RX12, "placeOf", "(I)I"⟩
abbrev cX12_batch : ByteArray := prog_14_method_64_code
def yX12_batch : MethodName := ⟨RX12, "batch", "(II)I"⟩
abbrev cX12_loaf : ByteArray := prog_14_method_65_code
def yX12_loaf : MethodName := ⟨RX12, "loaf", "(II)I"⟩
abbrev cX12_load : ByteArray := prog_14_method_66_code
def yX12_load : MethodName := ⟨RX12, "load", "(II)I"⟩
abbrev cX12_keptWith : ByteArray := prog_14_method_67_code
def yX12_keptWith : MethodName := ⟨RX12, "keptWith", "(Z)I"⟩
abbrev cX12_tellWhole : ByteArray := prog_14_method_68_code
def yX12_tellWhole : MethodName := ⟨RX12, "tellWhole", "(I)I"⟩
abbrev cX12_whole : ByteArray := prog_14_method_69_code
def yX12_whole : MethodName := ⟨RX12, "whole", "(I)I"⟩
abbrev cX12_doughOf : ByteArray := prog_14_method_70_code
def yX12_doughOf : MethodName := ⟨RX12, "doughOf", "(I)I"⟩
abbrev cX12_doughWith : ByteArray := prog_14_method_71_code
def yX12_doughWith : MethodName := ⟨RX12, "doughWith", "(I)I"⟩
abbrev cX12_bestWood : ByteArray := prog_14_method_72_code
def yX12_bestWood : MethodName := ⟨RX12, "bestWood", "()I"⟩
abbrev cX12_isLike : ByteArray := prog_14_method_73_code
def yX12_isLike : MethodName := ⟨RX12, "isLike", "(II)Z"⟩
abbrev cX12_likes : ByteArray := prog_14_method_74_code
def yX12_likes : MethodName := ⟨RX12, "likes", "()I"⟩
abbrev cX12_likeMarks : ByteArray := prog_14_method_75_code
def yX12_likeMarks : MethodName := ⟨RX12, "likeMarks", "()I"⟩
abbrev cX12_freeMark : ByteArray := prog_14_method_76_code
def yX12_freeMark : MethodName := ⟨RX12, "freeMark", "(I)I"⟩
abbrev cX12_type : ByteArray := prog_14_method_77_code
def yX12_type : MethodName := ⟨RX12, "type", "(I)I"⟩
abbrev cX12_clearCommands : ByteArray := prog_14_method_78_code
def yX12_clearCommands : MethodName := ⟨RX12, "clearCommands", "()I"⟩
abbrev cX12_isAt : ByteArray := prog_14_method_79_code
def yX12_isAt : MethodName := ⟨RX12, "isAt", "(II)Z"⟩
abbrev cX12_skips : ByteArray := prog_14_method_80_code
def yX12_skips : MethodName := ⟨RX12, "skips", "()Z"⟩
abbrev cX12_letterAt : ByteArray := prog_14_method_81_code
def yX12_letterAt : MethodName := ⟨RX12, "letterAt", "(II)I"⟩
abbrev cX12_wordFrom : ByteArray := prog_14_method_82_code
def yX12_wordFrom : MethodName := ⟨RX12, "wordFrom", "(I)I"⟩
abbrev cX12_readsNumber : ByteArray := prog_14_method_83_code
def yX12_readsNumber : MethodName := ⟨RX12, "readsNumber", "()I"⟩
abbrev cX12_reads : ByteArray := prog_14_method_84_code
def yX12_reads : MethodName := ⟨RX12, "reads", "()Z"⟩
abbrev cX12_does : ByteArray := prog_14_method_85_code
def yX12_does : MethodName := ⟨RX12, "does", "()I"⟩
abbrev cX12_runCommands : ByteArray := prog_14_method_86_code
def yX12_runCommands : MethodName := ⟨RX12, "runCommands", "()I"⟩
abbrev cX12_stop : ByteArray := prog_14_method_87_code
def yX12_stop : MethodName := ⟨RX12, "stop", "()I"⟩
abbrev cX12_mix : ByteArray := prog_14_method_88_code
def yX12_mix : MethodName := ⟨RX12, "mix", "(J)V"⟩
abbrev cX12_digest : ByteArray := prog_14_method_89_code
def yX12_digest : MethodName := ⟨RX12, "digest", "()J"⟩
def RJx29ce0 : String := "java/lang/Enum"
def TJx29ce0 : u_T := fun k => match k with
  | _ => ("", "", "", false)
def tyJx29ce0 : Nat → FieldType := fun k => match k with
  | _ => .int
abbrev wsJx29ce00 : List Cond := u_ws RJx29ce0 TJx29ce0 0
theorem nmJx29ce0 : ∀ a, a < 0 → ∀ b, b < 0 → a ≠ b → (TJx29ce0 a).2.1 ≠ (TJx29ce0 b).2.1 := by decide +kernel
theorem tyJx29ce0_ok : ∀ k, k < 0 → parseFieldDescriptor (TJx29ce0 k).2.2.1 = some (tyJx29ce0 k) := by decide +kernel
abbrev cJx29ce0_ordinal_8abf5 : ByteArray := prog_15_method_2_code
def yJx29ce0_ordinal_8abf5 : MethodName := ⟨RJx29ce0, "ordinal", "()I"⟩
def RJ6 : String := "java/lang/Integer"
def TJ6 : u_T := fun k => match k with
  | _ => ("", "", "", false)
def tyJ6 : Nat → FieldType := fun k => match k with
  | _ => .int
abbrev wsJ60 : List Cond := u_ws RJ6 TJ6 0
theorem nmJ6 : ∀ a, a < 0 → ∀ b, b < 0 → a ≠ b → (TJ6 a).2.1 ≠ (TJ6 b).2.1 := by decide +kernel
theorem tyJ6_ok : ∀ k, k < 0 → parseFieldDescriptor (TJ6 k).2.2.1 = some (tyJ6 k) := by decide +kernel
abbrev cJ6_bitCount_0f7a4 : ByteArray := prog_20_method_49_code
def yJ6_bitCount_0f7a4 : MethodName := ⟨RJ6, "bitCount", "(I)I"⟩
def RJ9 : String := "java/lang/Math"
def TJ9 : u_T := fun k => match k with
  | _ => ("", "", "", false)
def tyJ9 : Nat → FieldType := fun k => match k with
  | _ => .int
abbrev wsJ90 : List Cond := u_ws RJ9 TJ9 0
theorem nmJ9 : ∀ a, a < 0 → ∀ b, b < 0 → a ≠ b → (TJ9 a).2.1 ≠ (TJ9 b).2.1 := by decide +kernel
theorem tyJ9_ok : ∀ k, k < 0 → parseFieldDescriptor (TJ9 k).2.2.1 = some (tyJ9 k) := by decide +kernel
abbrev cJ9_max_7cf53 : ByteArray := prog_21_method_65_code
def yJ9_max_7cf53 : MethodName := ⟨RJ9, "max", "(II)I"⟩
abbrev cJ9_min_7cf53 : ByteArray := prog_21_method_69_code
def yJ9_min_7cf53 : MethodName := ⟨RJ9, "min", "(II)I"⟩
def RJ0 : String := "java/lang/String"
def TJ0 : u_T := fun k => match k with
  | _ => ("", "", "", false)
def tyJ0 : Nat → FieldType := fun k => match k with
  | _ => .int
abbrev wsJ00 : List Cond := u_ws RJ0 TJ0 0
theorem nmJ0 : ∀ a, a < 0 → ∀ b, b < 0 → a ≠ b → (TJ0 a).2.1 ≠ (TJ0 b).2.1 := by decide +kernel
theorem tyJ0_ok : ∀ k, k < 0 → parseFieldDescriptor (TJ0 k).2.2.1 = some (tyJ0 k) := by decide +kernel
abbrev cJ0_length_8abf5 : ByteArray := prog_23_method_54_code
def yJ0_length_8abf5 : MethodName := ⟨RJ0, "length", "()I"⟩
abbrev cJ0_charAt_5068e : ByteArray := prog_23_method_56_code
def yJ0_charAt_5068e : MethodName := ⟨RJ0, "charAt", "(I)C"⟩
abbrev cJ0_coder_7d493 : ByteArray := prog_23_method_152_code
def yJ0_coder_7d493 : MethodName := ⟨RJ0, "coder", "()B"⟩
abbrev cJ0_isLatin1_aae02 : ByteArray := prog_23_method_154_code
def yJ0_isLatin1_aae02 : MethodName := ⟨RJ0, "isLatin1", "()Z"⟩
abbrev cJ0_checkIndex_df160 : ByteArray := prog_23_method_155_code
def yJ0_checkIndex_df160 : MethodName := ⟨RJ0, "checkIndex", "(II)V"⟩
def RJ1 : String := "java/lang/StringLatin1"
def TJ1 : u_T := fun k => match k with
  | _ => ("", "", "", false)
def tyJ1 : Nat → FieldType := fun k => match k with
  | _ => .int
abbrev wsJ10 : List Cond := u_ws RJ1 TJ1 0
theorem nmJ1 : ∀ a, a < 0 → ∀ b, b < 0 → a ≠ b → (TJ1 a).2.1 ≠ (TJ1 b).2.1 := by decide +kernel
theorem tyJ1_ok : ∀ k, k < 0 → parseFieldDescriptor (TJ1 k).2.2.1 = some (tyJ1 k) := by decide +kernel
abbrev cJ1_charAt_3b067 : ByteArray := prog_24_method_2_code
def yJ1_charAt_3b067 : MethodName := ⟨RJ1, "charAt", "([BI)C"⟩
def RJ2 : String := "java/lang/StringUTF16"
def TJ2 : u_T := fun k => match k with
  | _ => ("", "", "", false)
def tyJ2 : Nat → FieldType := fun k => match k with
  | _ => .int
abbrev wsJ20 : List Cond := u_ws RJ2 TJ2 0
theorem nmJ2 : ∀ a, a < 0 → ∀ b, b < 0 → a ≠ b → (TJ2 a).2.1 ≠ (TJ2 b).2.1 := by decide +kernel
theorem tyJ2_ok : ∀ k, k < 0 → parseFieldDescriptor (TJ2 k).2.2.1 = some (tyJ2 k) := by decide +kernel
abbrev cJ2_getChar_3b067 : ByteArray := prog_25_method_5_code
def yJ2_getChar_3b067 : MethodName := ⟨RJ2, "getChar", "([BI)C"⟩
abbrev cJ2_length_9d52b : ByteArray := prog_25_method_6_code
def yJ2_length_9d52b : MethodName := ⟨RJ2, "length", "([B)I"⟩
abbrev cJ2_charAt_3b067 : ByteArray := prog_25_method_83_code
def yJ2_charAt_3b067 : MethodName := ⟨RJ2, "charAt", "([BI)C"⟩
abbrev cJ2_checkIndex_2214a : ByteArray := prog_25_method_91_code
def yJ2_checkIndex_2214a : MethodName := ⟨RJ2, "checkIndex", "(I[B)V"⟩
def RJ10 : String := "java/lang/System"
def TJ10 : u_T := fun k => match k with
  | _ => ("", "", "", false)
def tyJ10 : Nat → FieldType := fun k => match k with
  | _ => .int
abbrev wsJ100 : List Cond := u_ws RJ10 TJ10 0
theorem nmJ10 : ∀ a, a < 0 → ∀ b, b < 0 → a ≠ b → (TJ10 a).2.1 ≠ (TJ10 b).2.1 := by decide +kernel
theorem tyJ10_ok : ∀ k, k < 0 → parseFieldDescriptor (TJ10 k).2.2.1 = some (tyJ10 k) := by decide +kernel
def RJ3 : String := "jdk/internal/util/Preconditions"
def TJ3 : u_T := fun k => match k with
  | _ => ("", "", "", false)
def tyJ3 : Nat → FieldType := fun k => match k with
  | _ => .int
abbrev wsJ30 : List Cond := u_ws RJ3 TJ3 0
theorem nmJ3 : ∀ a, a < 0 → ∀ b, b < 0 → a ≠ b → (TJ3 a).2.1 ≠ (TJ3 b).2.1 := by decide +kernel
theorem tyJ3_ok : ∀ k, k < 0 → parseFieldDescriptor (TJ3 k).2.2.1 = some (tyJ3 k) := by decide +kernel
abbrev cJ3_checkIndex_8e157 : ByteArray := prog_28_method_11_code
def yJ3_checkIndex_8e157 : MethodName := ⟨RJ3, "checkIndex", "(IILjava/util/function/BiFunction;)I"⟩
def RL : String := "OvenDaysLaw"
abbrev cL_join : ByteArray := method_3_code
def yL_join : MethodName := ⟨RL, "join", "(LOvenDays;I[J)I"⟩
abbrev cL_remark : ByteArray := method_4_code
def yL_remark : MethodName := ⟨RL, "remark", "(LOvenDays;II[J)I"⟩
abbrev cL_excuse : ByteArray := method_5_code
def yL_excuse : MethodName := ⟨RL, "excuse", "(LOvenDays;I[J)I"⟩
abbrev cL_bring : ByteArray := method_6_code
def yL_bring : MethodName := ⟨RL, "bring", "(LOvenDays;III[J)I"⟩
abbrev cL_takeBack : ByteArray := method_7_code
def yL_takeBack : MethodName := ⟨RL, "takeBack", "(LOvenDays;I[J)I"⟩
abbrev cL_setS : ByteArray := method_8_code
def yL_setS : MethodName := ⟨RL, "setS", "(LOvenDays;I[J)I"⟩
abbrev cL_bake : ByteArray := method_9_code
def yL_bake : MethodName := ⟨RL, "bake", "(LOvenDays;I[J)I"⟩
abbrev cL_claim : ByteArray := method_10_code
def yL_claim : MethodName := ⟨RL, "claim", "(LOvenDays;I[J)I"⟩
abbrev cL_returnLoaves : ByteArray := method_11_code
def yL_returnLoaves : MethodName := ⟨RL, "returnLoaves", "(LOvenDays;I[J)I"⟩
abbrev cL_household : ByteArray := method_12_code
def yL_household : MethodName := ⟨RL, "household", "(LOvenDays;II[J)I"⟩
abbrev cL_due : ByteArray := method_13_code
def yL_due : MethodName := ⟨RL, "due", "(LOvenDays;I[J)I"⟩
abbrev cL_balance : ByteArray := method_14_code
def yL_balance : MethodName := ⟨RL, "balance", "(LOvenDays;II[J)I"⟩
abbrev cL_batch : ByteArray := method_15_code
def yL_batch : MethodName := ⟨RL, "batch", "(LOvenDays;II[J)I"⟩
abbrev cL_loaf : ByteArray := method_16_code
def yL_loaf : MethodName := ⟨RL, "loaf", "(LOvenDays;II[J)I"⟩
abbrev cL_load : ByteArray := method_17_code
def yL_load : MethodName := ⟨RL, "load", "(LOvenDays;II[J)I"⟩
abbrev cL_whole : ByteArray := method_18_code
def yL_whole : MethodName := ⟨RL, "whole", "(LOvenDays;I[J)I"⟩
abbrev cL_doughWith : ByteArray := method_19_code
def yL_doughWith : MethodName := ⟨RL, "doughWith", "(LOvenDays;I[J)I"⟩
abbrev cL_freeMark : ByteArray := method_20_code
def yL_freeMark : MethodName := ⟨RL, "freeMark", "(LOvenDays;I[J)I"⟩
abbrev cL_type : ByteArray := method_21_code
def yL_type : MethodName := ⟨RL, "type", "(LOvenDays;I[J)I"⟩
abbrev cL_undo : ByteArray := method_22_code
def yL_undo : MethodName := ⟨RL, "undo", "(LOvenDays;[J)I"⟩
abbrev cL_law : ByteArray := code
def yL_law : MethodName := ⟨RL, "law", "([I)Z"⟩
def wsX7_init : List Cond := .code yX7_init cX7_init 3 none :: ([.methodLink RX7 1 objectInit, .instanceMethod objectInit, .code objectInit ⟨#[0xb1]⟩ 1 none, .classLink RX7 7 "[[I", .arrayClass .int, .fieldLink RX7 9 "OvenDays$Table" "columns" "[[I", .fieldLink RX7 14 "OvenDays$Table" "room" "I"] ++ wsX70)
def wsX1_init : List Cond := .code yX1_init cX1_init 1 none :: ([.methodLink RX1 3 objectInit, .instanceMethod objectInit, .code objectInit ⟨#[0xb1]⟩ 1 none, .classLink RX1 9 RX7, .instantiable RX7 2, .initialized RX7, .fieldLink RX1 14 "OvenDays$Batches" "rows" "LOvenDays$Table;", .methodLink RX1 11 yX7_init, .instanceMethod yX7_init, .code yX7_init cX7_init 3 none, .methodLink RX7 1 objectInit, .classLink RX7 7 "[[I", .arrayClass .int, .fieldLink RX7 9 "OvenDays$Table" "columns" "[[I", .fieldLink RX7 14 "OvenDays$Table" "room" "I"] ++ wsX70 ++ wsX10)
def wsX7_copyFrom : List Cond := .code yX7_copyFrom cX7_copyFrom 4 none :: ([.fieldLink RX7 14 "OvenDays$Table" "room" "I", .fieldLink RX7 9 "OvenDays$Table" "columns" "[[I", .methodLink RX7 22 arraycopyName, .native arraycopyName, .static arraycopyName, .initialized "java/lang/System"] ++ wsX70)
def wsX1_copyFrom : List Cond := .code yX1_copyFrom cX1_copyFrom 2 none :: ([.fieldLink RX1 14 "OvenDays$Batches" "rows" "LOvenDays$Table;", .fieldLink RX1 20 "OvenDays$Batches" "count" "I", .methodLink RX1 24 yX7_copyFrom, .instanceMethod yX7_copyFrom, .selects RX7 yX7_copyFrom yX7_copyFrom, .initialized RX7, .code yX7_copyFrom cX7_copyFrom 4 none, .fieldLink RX7 14 "OvenDays$Table" "room" "I", .fieldLink RX7 9 "OvenDays$Table" "columns" "[[I", .methodLink RX7 22 arraycopyName, .native arraycopyName, .static arraycopyName, .initialized "java/lang/System"] ++ wsX10 ++ wsX70)
def wsX1_size : List Cond := .code yX1_size cX1_size 1 (some .int) :: ([.fieldLink RX1 20 "OvenDays$Batches" "count" "I"] ++ wsX10)
def wsX1_has : List Cond := .code yX1_has cX1_has 2 (some .boolean) :: ([.fieldLink RX1 20 "OvenDays$Batches" "count" "I"] ++ wsX10)
def wsX1_isFull : List Cond := .code yX1_isFull cX1_isFull 1 (some .boolean) :: ([.fieldLink RX1 20 "OvenDays$Batches" "count" "I"] ++ wsX10)
def wsX7_get : List Cond := .code yX7_get cX7_get 3 (some .int) :: ([.fieldLink RX7 14 "OvenDays$Table" "room" "I", .fieldLink RX7 9 "OvenDays$Table" "columns" "[[I"] ++ wsX70)
def wsX1_value : List Cond := .code yX1_value cX1_value 3 (some .int) :: ([.fieldLink RX1 14 "OvenDays$Batches" "rows" "LOvenDays$Table;", .methodLink RX1 28 yX7_get, .instanceMethod yX7_get, .selects RX7 yX7_get yX7_get, .initialized RX7, .code yX7_get cX7_get 3 (some .int), .fieldLink RX7 14 "OvenDays$Table" "room" "I", .fieldLink RX7 9 "OvenDays$Table" "columns" "[[I"] ++ wsX10 ++ wsX70)
def wsX7_countBoth : List Cond := .code yX7_countBoth cX7_countBoth 10 (some .int) :: ([.fieldLink RX7 9 "OvenDays$Table" "columns" "[[I", .fieldLink RX7 14 "OvenDays$Table" "room" "I"] ++ wsX70)
def wsX7_count : List Cond := .code yX7_count cX7_count 4 (some .int) :: ([.methodLink RX7 18 yX7_countBoth, .instanceMethod yX7_countBoth, .selects RX7 yX7_countBoth yX7_countBoth, .initialized RX7, .code yX7_countBoth cX7_countBoth 10 (some .int), .fieldLink RX7 9 "OvenDays$Table" "columns" "[[I", .fieldLink RX7 14 "OvenDays$Table" "room" "I"] ++ wsX70)
def wsX1_countOf : List Cond := .code yX1_countOf cX1_countOf 2 (some .int) :: ([.fieldLink RX1 14 "OvenDays$Batches" "rows" "LOvenDays$Table;", .fieldLink RX1 20 "OvenDays$Batches" "count" "I", .methodLink RX1 32 yX7_count, .instanceMethod yX7_count, .selects RX7 yX7_count yX7_count, .initialized RX7, .code yX7_count cX7_count 4 (some .int), .methodLink RX7 18 yX7_countBoth, .instanceMethod yX7_countBoth, .selects RX7 yX7_countBoth yX7_countBoth, .code yX7_countBoth cX7_countBoth 10 (some .int), .fieldLink RX7 9 "OvenDays$Table" "columns" "[[I", .fieldLink RX7 14 "OvenDays$Table" "room" "I"] ++ wsX10 ++ wsX70)
def wsX7_put : List Cond := .code yX7_put cX7_put 4 none :: ([.fieldLink RX7 14 "OvenDays$Table" "room" "I", .fieldLink RX7 9 "OvenDays$Table" "columns" "[[I"] ++ wsX70)
def wsX1_add : List Cond := .code yX1_add cX1_add 5 (some .int) :: ([.fieldLink RX1 20 "OvenDays$Batches" "count" "I", .fieldLink RX1 14 "OvenDays$Batches" "rows" "LOvenDays$Table;", .methodLink RX1 35 yX7_put, .instanceMethod yX7_put, .selects RX7 yX7_put yX7_put, .initialized RX7, .code yX7_put cX7_put 4 none, .fieldLink RX7 14 "OvenDays$Table" "room" "I", .fieldLink RX7 9 "OvenDays$Table" "columns" "[[I"] ++ wsX10 ++ wsX70)
def wsX7_remove : List Cond := .code yX7_remove cX7_remove 4 none :: ([.fieldLink RX7 14 "OvenDays$Table" "room" "I", .fieldLink RX7 9 "OvenDays$Table" "columns" "[[I", .methodLink RX7 22 arraycopyName, .native arraycopyName, .static arraycopyName, .initialized "java/lang/System"] ++ wsX70)
def wsX1_remove : List Cond := .code yX1_remove cX1_remove 3 (some .int) :: ([.fieldLink RX1 14 "OvenDays$Batches" "rows" "LOvenDays$Table;", .fieldLink RX1 20 "OvenDays$Batches" "count" "I", .methodLink RX1 28 yX7_get, .instanceMethod yX7_get, .selects RX7 yX7_get yX7_get, .initialized RX7, .code yX7_get cX7_get 3 (some .int), .fieldLink RX7 14 "OvenDays$Table" "room" "I", .fieldLink RX7 9 "OvenDays$Table" "columns" "[[I", .methodLink RX1 39 yX7_remove, .instanceMethod yX7_remove, .selects RX7 yX7_remove yX7_remove, .code yX7_remove cX7_remove 4 none, .methodLink RX7 22 arraycopyName, .native arraycopyName, .static arraycopyName, .initialized "java/lang/System"] ++ wsX10 ++ wsX70)
def wsX1_clear : List Cond := .code yX1_clear cX1_clear 1 none :: ([.fieldLink RX1 20 "OvenDays$Batches" "count" "I"] ++ wsX10)
def wsX2_init : List Cond := .code yX2_init cX2_init 1 none :: ([.methodLink RX2 3 objectInit, .instanceMethod objectInit, .code objectInit ⟨#[0xb1]⟩ 1 none, .arrayClass .byte, .fieldLink RX2 11 "OvenDays$CommandText" "bytes" "[B", .arrayClass .int, .fieldLink RX2 15 "OvenDays$CommandText" "numbers" "[I", .fieldLink RX2 19 "OvenDays$CommandText" "fault" "I"] ++ wsX20)
def wsX2_length : List Cond := .code yX2_length cX2_length 1 (some .int) :: ([.fieldLink RX2 23 "OvenDays$CommandText" "length" "I"] ++ wsX20)
def wsX2_isFull : List Cond := .code yX2_isFull cX2_isFull 1 (some .boolean) :: ([.fieldLink RX2 23 "OvenDays$CommandText" "length" "I"] ++ wsX20)
def wsX2_append : List Cond := .code yX2_append cX2_append 2 (some .int) :: ([.fieldLink RX2 11 "OvenDays$CommandText" "bytes" "[B", .fieldLink RX2 23 "OvenDays$CommandText" "length" "I", .methodLink RX2 26 yX2_isFull, .instanceMethod yX2_isFull, .selects RX2 yX2_isFull yX2_isFull, .initialized RX2, .code yX2_isFull cX2_isFull 1 (some .boolean)] ++ wsX20)
def wsX2_empty : List Cond := .code yX2_empty cX2_empty 2 (some .int) :: ([.fieldLink RX2 23 "OvenDays$CommandText" "length" "I"] ++ wsX20)
def wsX2_word : List Cond := .code yX2_word cX2_word 1 (some (.object "OvenDays$Word")) :: ([.fieldLink RX2 30 "OvenDays$CommandText" "word" "LOvenDays$Word;"] ++ wsX20)
def wsX2_number : List Cond := .code yX2_number cX2_number 2 (some .int) :: ([.fieldLink RX2 15 "OvenDays$CommandText" "numbers" "[I"] ++ wsX20)
def wsX2_rewind : List Cond := .code yX2_rewind cX2_rewind 1 none :: ([.fieldLink RX2 34 "OvenDays$CommandText" "position" "I", .fieldLink RX2 19 "OvenDays$CommandText" "fault" "I"] ++ wsX20)
def wsX2_here : List Cond := .code yX2_here cX2_here 1 (some .int) :: ([.fieldLink RX2 34 "OvenDays$CommandText" "position" "I", .fieldLink RX2 23 "OvenDays$CommandText" "length" "I", .fieldLink RX2 11 "OvenDays$CommandText" "bytes" "[B"] ++ wsX20)
def wsX2_stands : List Cond := .code yX2_stands cX2_stands 2 (some .boolean) :: ([.methodLink RX2 60 yX2_here, .instanceMethod yX2_here, .selects RX2 yX2_here yX2_here, .initialized RX2, .code yX2_here cX2_here 1 (some .int), .fieldLink RX2 34 "OvenDays$CommandText" "position" "I", .fieldLink RX2 23 "OvenDays$CommandText" "length" "I", .fieldLink RX2 11 "OvenDays$CommandText" "bytes" "[B"] ++ wsX20)
def wsX2_skipSpaces : List Cond := .code yX2_skipSpaces cX2_skipSpaces 1 none :: ([.fieldLink RX2 34 "OvenDays$CommandText" "position" "I", .fieldLink RX2 23 "OvenDays$CommandText" "length" "I", .methodLink RX2 52 yX2_stands, .instanceMethod yX2_stands, .selects RX2 yX2_stands yX2_stands, .initialized RX2, .code yX2_stands cX2_stands 2 (some .boolean), .methodLink RX2 60 yX2_here, .instanceMethod yX2_here, .selects RX2 yX2_here yX2_here, .code yX2_here cX2_here 1 (some .int), .fieldLink RX2 11 "OvenDays$CommandText" "bytes" "[B"] ++ wsX20)
def wsJ0_coder_7d493 : List Cond := .code yJ0_coder_7d493 cJ0_coder_7d493 1 (some .byte) :: ([.fieldLink RJ0 38 "java/lang/String" "COMPACT_STRINGS" "Z", .fieldLink RJ0 15 "java/lang/String" "coder" "B"])
def wsJ0_length_8abf5 : List Cond := .code yJ0_length_8abf5 cJ0_length_8abf5 1 (some .int) :: ([.fieldLink RJ0 9 "java/lang/String" "value" "[B", .methodLink RJ0 335 yJ0_coder_7d493, .instanceMethod yJ0_coder_7d493, .selects RJ0 yJ0_coder_7d493 yJ0_coder_7d493, .initialized RJ0, .code yJ0_coder_7d493 cJ0_coder_7d493 1 (some .byte), .fieldLink RJ0 38 "java/lang/String" "COMPACT_STRINGS" "Z", .fieldLink RJ0 15 "java/lang/String" "coder" "B"])
def wsJ0_isLatin1_aae02 : List Cond := .code yJ0_isLatin1_aae02 cJ0_isLatin1_aae02 1 (some .boolean) :: ([.fieldLink RJ0 38 "java/lang/String" "COMPACT_STRINGS" "Z", .fieldLink RJ0 15 "java/lang/String" "coder" "B"])
def wsJ3_checkIndex_8e157 : List Cond := .code yJ3_checkIndex_8e157 cJ3_checkIndex_8e157 3 (some .int) :: ([])
def wsJ0_checkIndex_df160 : List Cond := .code yJ0_checkIndex_df160 cJ0_checkIndex_df160 2 none :: ([.fieldLink RJ0 1053 "jdk/internal/util/Preconditions" "SIOOBE_FORMATTER" "Ljava/util/function/BiFunction;", .methodLink RJ0 1059 yJ3_checkIndex_8e157, .static yJ3_checkIndex_8e157, .initialized RJ3, .code yJ3_checkIndex_8e157 cJ3_checkIndex_8e157 3 (some .int)])
def wsJ1_charAt_3b067 : List Cond := .code yJ1_charAt_3b067 cJ1_charAt_3b067 2 (some .char) :: ([.methodLink RJ1 9 yJ0_checkIndex_df160, .static yJ0_checkIndex_df160, .initialized RJ0, .code yJ0_checkIndex_df160 cJ0_checkIndex_df160 2 none, .fieldLink RJ0 1053 "jdk/internal/util/Preconditions" "SIOOBE_FORMATTER" "Ljava/util/function/BiFunction;", .methodLink RJ0 1059 yJ3_checkIndex_8e157, .static yJ3_checkIndex_8e157, .initialized RJ3, .code yJ3_checkIndex_8e157 cJ3_checkIndex_8e157 3 (some .int)])
def wsJ2_length_9d52b : List Cond := .code yJ2_length_9d52b cJ2_length_9d52b 1 (some .int) :: ([])
def wsJ2_checkIndex_2214a : List Cond := .code yJ2_checkIndex_2214a cJ2_checkIndex_2214a 2 none :: ([.methodLink RJ2 48 yJ2_length_9d52b, .static yJ2_length_9d52b, .initialized RJ2, .code yJ2_length_9d52b cJ2_length_9d52b 1 (some .int), .methodLink RJ2 414 yJ0_checkIndex_df160, .static yJ0_checkIndex_df160, .initialized RJ0, .code yJ0_checkIndex_df160 cJ0_checkIndex_df160 2 none, .fieldLink RJ0 1053 "jdk/internal/util/Preconditions" "SIOOBE_FORMATTER" "Ljava/util/function/BiFunction;", .methodLink RJ0 1059 yJ3_checkIndex_8e157, .static yJ3_checkIndex_8e157, .initialized RJ3, .code yJ3_checkIndex_8e157 cJ3_checkIndex_8e157 3 (some .int)])
def wsJ2_getChar_3b067 : List Cond := .code yJ2_getChar_3b067 cJ2_getChar_3b067 2 (some .char) :: ([.fieldLink RJ2 44 "java/lang/StringUTF16" "$assertionsDisabled" "Z", .fieldLink RJ2 59 "java/lang/StringUTF16" "HI_BYTE_SHIFT" "I", .fieldLink RJ2 63 "java/lang/StringUTF16" "LO_BYTE_SHIFT" "I", .methodLink RJ2 48 yJ2_length_9d52b, .static yJ2_length_9d52b, .initialized RJ2, .code yJ2_length_9d52b cJ2_length_9d52b 1 (some .int)])
def wsJ2_charAt_3b067 : List Cond := .code yJ2_charAt_3b067 cJ2_charAt_3b067 2 (some .char) :: ([.methodLink RJ2 67 yJ2_checkIndex_2214a, .static yJ2_checkIndex_2214a, .initialized RJ2, .code yJ2_checkIndex_2214a cJ2_checkIndex_2214a 2 none, .methodLink RJ2 48 yJ2_length_9d52b, .static yJ2_length_9d52b, .code yJ2_length_9d52b cJ2_length_9d52b 1 (some .int), .methodLink RJ2 414 yJ0_checkIndex_df160, .static yJ0_checkIndex_df160, .initialized RJ0, .code yJ0_checkIndex_df160 cJ0_checkIndex_df160 2 none, .fieldLink RJ0 1053 "jdk/internal/util/Preconditions" "SIOOBE_FORMATTER" "Ljava/util/function/BiFunction;", .methodLink RJ0 1059 yJ3_checkIndex_8e157, .static yJ3_checkIndex_8e157, .initialized RJ3, .code yJ3_checkIndex_8e157 cJ3_checkIndex_8e157 3 (some .int), .methodLink RJ2 71 yJ2_getChar_3b067, .static yJ2_getChar_3b067, .code yJ2_getChar_3b067 cJ2_getChar_3b067 2 (some .char), .fieldLink RJ2 44 "java/lang/StringUTF16" "$assertionsDisabled" "Z", .fieldLink RJ2 59 "java/lang/StringUTF16" "HI_BYTE_SHIFT" "I", .fieldLink RJ2 63 "java/lang/StringUTF16" "LO_BYTE_SHIFT" "I"])
def wsJ0_charAt_5068e_r1 : List Cond := [Cond.fieldLink RJ0 9 "java/lang/String" "value" "[B", Cond.methodLink RJ0 492 yJ0_isLatin1_aae02, Cond.instanceMethod yJ0_isLatin1_aae02, Cond.selects RJ0 yJ0_isLatin1_aae02 yJ0_isLatin1_aae02, Cond.initialized RJ0, Cond.code yJ0_isLatin1_aae02 cJ0_isLatin1_aae02 1 (some .boolean), Cond.fieldLink RJ0 38 "java/lang/String" "COMPACT_STRINGS" "Z", Cond.fieldLink RJ0 15 "java/lang/String" "coder" "B", Cond.methodLink RJ0 495 yJ1_charAt_3b067, Cond.static yJ1_charAt_3b067, Cond.initialized RJ1, Cond.code yJ1_charAt_3b067 cJ1_charAt_3b067 2 (some .char), Cond.methodLink RJ1 9 yJ0_checkIndex_df160, Cond.static yJ0_checkIndex_df160, Cond.code yJ0_checkIndex_df160 cJ0_checkIndex_df160 2 none, Cond.fieldLink RJ0 1053 "jdk/internal/util/Preconditions" "SIOOBE_FORMATTER" "Ljava/util/function/BiFunction;", Cond.methodLink RJ0 1059 yJ3_checkIndex_8e157, Cond.static yJ3_checkIndex_8e157, Cond.initialized RJ3, Cond.code yJ3_checkIndex_8e157 cJ3_checkIndex_8e157 3 (some .int), Cond.methodLink RJ0 498 yJ2_charAt_3b067, Cond.static yJ2_charAt_3b067, Cond.initialized RJ2, Cond.code yJ2_charAt_3b067 cJ2_charAt_3b067 2 (some .char)]
def wsJ0_charAt_5068e_r2 : List Cond := [Cond.methodLink RJ2 67 yJ2_checkIndex_2214a, Cond.static yJ2_checkIndex_2214a, Cond.code yJ2_checkIndex_2214a cJ2_checkIndex_2214a 2 none, Cond.methodLink RJ2 48 yJ2_length_9d52b, Cond.static yJ2_length_9d52b, Cond.code yJ2_length_9d52b cJ2_length_9d52b 1 (some .int), Cond.methodLink RJ2 414 yJ0_checkIndex_df160, Cond.methodLink RJ2 71 yJ2_getChar_3b067, Cond.static yJ2_getChar_3b067, Cond.code yJ2_getChar_3b067 cJ2_getChar_3b067 2 (some .char), Cond.fieldLink RJ2 44 "java/lang/StringUTF16" "$assertionsDisabled" "Z", Cond.fieldLink RJ2 59 "java/lang/StringUTF16" "HI_BYTE_SHIFT" "I", Cond.fieldLink RJ2 63 "java/lang/StringUTF16" "LO_BYTE_SHIFT" "I"]
def wsJ0_charAt_5068e : List Cond := .code yJ0_charAt_5068e cJ0_charAt_5068e 2 (some .char) :: ((wsJ0_charAt_5068e_r1 ++ wsJ0_charAt_5068e_r2))
def wsX2_isBetween_r1 : List Cond := [Cond.fieldLink RX2 11 "OvenDays$CommandText" "bytes" "[B", Cond.methodLink RX2 82 yJ0_length_8abf5, Cond.instanceMethod yJ0_length_8abf5, Cond.selects RJ0 yJ0_length_8abf5 yJ0_length_8abf5, Cond.initialized RJ0, Cond.code yJ0_length_8abf5 cJ0_length_8abf5 1 (some .int), Cond.fieldLink RJ0 9 "java/lang/String" "value" "[B", Cond.methodLink RJ0 335 yJ0_coder_7d493, Cond.instanceMethod yJ0_coder_7d493, Cond.selects RJ0 yJ0_coder_7d493 yJ0_coder_7d493, Cond.code yJ0_coder_7d493 cJ0_coder_7d493 1 (some .byte), Cond.fieldLink RJ0 38 "java/lang/String" "COMPACT_STRINGS" "Z", Cond.fieldLink RJ0 15 "java/lang/String" "coder" "B", Cond.methodLink RX2 86 yJ0_charAt_5068e, Cond.instanceMethod yJ0_charAt_5068e, Cond.selects RJ0 yJ0_charAt_5068e yJ0_charAt_5068e, Cond.code yJ0_charAt_5068e cJ0_charAt_5068e 2 (some .char), Cond.methodLink RJ0 492 yJ0_isLatin1_aae02, Cond.instanceMethod yJ0_isLatin1_aae02, Cond.selects RJ0 yJ0_isLatin1_aae02 yJ0_isLatin1_aae02, Cond.code yJ0_isLatin1_aae02 cJ0_isLatin1_aae02 1 (some .boolean), Cond.methodLink RJ0 495 yJ1_charAt_3b067, Cond.static yJ1_charAt_3b067, Cond.initialized RJ1]
def wsX2_isBetween_r2 : List Cond := [Cond.code yJ1_charAt_3b067 cJ1_charAt_3b067 2 (some .char), Cond.methodLink RJ1 9 yJ0_checkIndex_df160, Cond.static yJ0_checkIndex_df160, Cond.code yJ0_checkIndex_df160 cJ0_checkIndex_df160 2 none, Cond.fieldLink RJ0 1053 "jdk/internal/util/Preconditions" "SIOOBE_FORMATTER" "Ljava/util/function/BiFunction;", Cond.methodLink RJ0 1059 yJ3_checkIndex_8e157, Cond.static yJ3_checkIndex_8e157, Cond.initialized RJ3, Cond.code yJ3_checkIndex_8e157 cJ3_checkIndex_8e157 3 (some .int), Cond.methodLink RJ0 498 yJ2_charAt_3b067, Cond.static yJ2_charAt_3b067, Cond.initialized RJ2, Cond.code yJ2_charAt_3b067 cJ2_charAt_3b067 2 (some .char), Cond.methodLink RJ2 67 yJ2_checkIndex_2214a, Cond.static yJ2_checkIndex_2214a, Cond.code yJ2_checkIndex_2214a cJ2_checkIndex_2214a 2 none, Cond.methodLink RJ2 48 yJ2_length_9d52b, Cond.static yJ2_length_9d52b, Cond.code yJ2_length_9d52b cJ2_length_9d52b 1 (some .int), Cond.methodLink RJ2 414 yJ0_checkIndex_df160, Cond.methodLink RJ2 71 yJ2_getChar_3b067, Cond.static yJ2_getChar_3b067, Cond.code yJ2_getChar_3b067 cJ2_getChar_3b067 2 (some .char), Cond.fieldLink RJ2 44 "java/lang/StringUTF16" "$assertionsDisabled" "Z"]
def wsX2_isBetween_r3 : List Cond := [Cond.fieldLink RJ2 59 "java/lang/StringUTF16" "HI_BYTE_SHIFT" "I", Cond.fieldLink RJ2 63 "java/lang/StringUTF16" "LO_BYTE_SHIFT" "I"]
def wsX2_isBetween : List Cond := .code yX2_isBetween cX2_isBetween 5 (some .boolean) :: ((wsX2_isBetween_r1 ++ (wsX2_isBetween_r2 ++ wsX2_isBetween_r3)) ++ wsX20)
def wsX2_wordBetween_r1 : List Cond := [Cond.fieldLink RX2 68 "OvenDays$CommandText" "WORDS" "[LOvenDays$Word;", Cond.methodLink RX2 78 yX2_isBetween, Cond.instanceMethod yX2_isBetween, Cond.selects RX2 yX2_isBetween yX2_isBetween, Cond.initialized RX2, Cond.code yX2_isBetween cX2_isBetween 5 (some .boolean), Cond.fieldLink RX2 11 "OvenDays$CommandText" "bytes" "[B", Cond.methodLink RX2 82 yJ0_length_8abf5, Cond.instanceMethod yJ0_length_8abf5, Cond.selects RJ0 yJ0_length_8abf5 yJ0_length_8abf5, Cond.initialized RJ0, Cond.code yJ0_length_8abf5 cJ0_length_8abf5 1 (some .int), Cond.fieldLink RJ0 9 "java/lang/String" "value" "[B", Cond.methodLink RJ0 335 yJ0_coder_7d493, Cond.instanceMethod yJ0_coder_7d493, Cond.selects RJ0 yJ0_coder_7d493 yJ0_coder_7d493, Cond.code yJ0_coder_7d493 cJ0_coder_7d493 1 (some .byte), Cond.fieldLink RJ0 38 "java/lang/String" "COMPACT_STRINGS" "Z", Cond.fieldLink RJ0 15 "java/lang/String" "coder" "B", Cond.methodLink RX2 86 yJ0_charAt_5068e, Cond.instanceMethod yJ0_charAt_5068e, Cond.selects RJ0 yJ0_charAt_5068e yJ0_charAt_5068e, Cond.code yJ0_charAt_5068e cJ0_charAt_5068e 2 (some .char), Cond.methodLink RJ0 492 yJ0_isLatin1_aae02]
def wsX2_wordBetween_r2 : List Cond := [Cond.instanceMethod yJ0_isLatin1_aae02, Cond.selects RJ0 yJ0_isLatin1_aae02 yJ0_isLatin1_aae02, Cond.code yJ0_isLatin1_aae02 cJ0_isLatin1_aae02 1 (some .boolean), Cond.methodLink RJ0 495 yJ1_charAt_3b067, Cond.static yJ1_charAt_3b067, Cond.initialized RJ1, Cond.code yJ1_charAt_3b067 cJ1_charAt_3b067 2 (some .char), Cond.methodLink RJ1 9 yJ0_checkIndex_df160, Cond.static yJ0_checkIndex_df160, Cond.code yJ0_checkIndex_df160 cJ0_checkIndex_df160 2 none, Cond.fieldLink RJ0 1053 "jdk/internal/util/Preconditions" "SIOOBE_FORMATTER" "Ljava/util/function/BiFunction;", Cond.methodLink RJ0 1059 yJ3_checkIndex_8e157, Cond.static yJ3_checkIndex_8e157, Cond.initialized RJ3, Cond.code yJ3_checkIndex_8e157 cJ3_checkIndex_8e157 3 (some .int), Cond.methodLink RJ0 498 yJ2_charAt_3b067, Cond.static yJ2_charAt_3b067, Cond.initialized RJ2, Cond.code yJ2_charAt_3b067 cJ2_charAt_3b067 2 (some .char), Cond.methodLink RJ2 67 yJ2_checkIndex_2214a, Cond.static yJ2_checkIndex_2214a, Cond.code yJ2_checkIndex_2214a cJ2_checkIndex_2214a 2 none, Cond.methodLink RJ2 48 yJ2_length_9d52b, Cond.static yJ2_length_9d52b]
def wsX2_wordBetween_r3 : List Cond := [Cond.code yJ2_length_9d52b cJ2_length_9d52b 1 (some .int), Cond.methodLink RJ2 414 yJ0_checkIndex_df160, Cond.methodLink RJ2 71 yJ2_getChar_3b067, Cond.static yJ2_getChar_3b067, Cond.code yJ2_getChar_3b067 cJ2_getChar_3b067 2 (some .char), Cond.fieldLink RJ2 44 "java/lang/StringUTF16" "$assertionsDisabled" "Z", Cond.fieldLink RJ2 59 "java/lang/StringUTF16" "HI_BYTE_SHIFT" "I", Cond.fieldLink RJ2 63 "java/lang/StringUTF16" "LO_BYTE_SHIFT" "I"]
def wsX2_wordBetween : List Cond := .code yX2_wordBetween cX2_wordBetween 5 (some (.object "OvenDays$Word")) :: ((wsX2_wordBetween_r1 ++ (wsX2_wordBetween_r2 ++ wsX2_wordBetween_r3)) ++ wsX20)
def wsX2_failAt : List Cond := .code yX2_failAt cX2_failAt 2 (some .boolean) :: ([.fieldLink RX2 19 "OvenDays$CommandText" "fault" "I"] ++ wsX20)
def wsX2_readWord_r1 : List Cond := [Cond.fieldLink RX2 34 "OvenDays$CommandText" "position" "I", Cond.fieldLink RX2 23 "OvenDays$CommandText" "length" "I", Cond.fieldLink RX2 30 "OvenDays$CommandText" "word" "LOvenDays$Word;", Cond.methodLink RX2 60 yX2_here, Cond.instanceMethod yX2_here, Cond.selects RX2 yX2_here yX2_here, Cond.initialized RX2, Cond.code yX2_here cX2_here 1 (some .int), Cond.fieldLink RX2 11 "OvenDays$CommandText" "bytes" "[B", Cond.methodLink RX2 64 yX2_wordBetween, Cond.instanceMethod yX2_wordBetween, Cond.selects RX2 yX2_wordBetween yX2_wordBetween, Cond.code yX2_wordBetween cX2_wordBetween 5 (some (.object "OvenDays$Word")), Cond.fieldLink RX2 68 "OvenDays$CommandText" "WORDS" "[LOvenDays$Word;", Cond.methodLink RX2 78 yX2_isBetween, Cond.instanceMethod yX2_isBetween, Cond.selects RX2 yX2_isBetween yX2_isBetween, Cond.code yX2_isBetween cX2_isBetween 5 (some .boolean), Cond.methodLink RX2 82 yJ0_length_8abf5, Cond.instanceMethod yJ0_length_8abf5, Cond.selects RJ0 yJ0_length_8abf5 yJ0_length_8abf5, Cond.initialized RJ0, Cond.code yJ0_length_8abf5 cJ0_length_8abf5 1 (some .int), Cond.fieldLink RJ0 9 "java/lang/String" "value" "[B"]
def wsX2_readWord_r2 : List Cond := [Cond.methodLink RJ0 335 yJ0_coder_7d493, Cond.instanceMethod yJ0_coder_7d493, Cond.selects RJ0 yJ0_coder_7d493 yJ0_coder_7d493, Cond.code yJ0_coder_7d493 cJ0_coder_7d493 1 (some .byte), Cond.fieldLink RJ0 38 "java/lang/String" "COMPACT_STRINGS" "Z", Cond.fieldLink RJ0 15 "java/lang/String" "coder" "B", Cond.methodLink RX2 86 yJ0_charAt_5068e, Cond.instanceMethod yJ0_charAt_5068e, Cond.selects RJ0 yJ0_charAt_5068e yJ0_charAt_5068e, Cond.code yJ0_charAt_5068e cJ0_charAt_5068e 2 (some .char), Cond.methodLink RJ0 492 yJ0_isLatin1_aae02, Cond.instanceMethod yJ0_isLatin1_aae02, Cond.selects RJ0 yJ0_isLatin1_aae02 yJ0_isLatin1_aae02, Cond.code yJ0_isLatin1_aae02 cJ0_isLatin1_aae02 1 (some .boolean), Cond.methodLink RJ0 495 yJ1_charAt_3b067, Cond.static yJ1_charAt_3b067, Cond.initialized RJ1, Cond.code yJ1_charAt_3b067 cJ1_charAt_3b067 2 (some .char), Cond.methodLink RJ1 9 yJ0_checkIndex_df160, Cond.static yJ0_checkIndex_df160, Cond.code yJ0_checkIndex_df160 cJ0_checkIndex_df160 2 none, Cond.fieldLink RJ0 1053 "jdk/internal/util/Preconditions" "SIOOBE_FORMATTER" "Ljava/util/function/BiFunction;", Cond.methodLink RJ0 1059 yJ3_checkIndex_8e157, Cond.static yJ3_checkIndex_8e157]
def wsX2_readWord_r3 : List Cond := [Cond.initialized RJ3, Cond.code yJ3_checkIndex_8e157 cJ3_checkIndex_8e157 3 (some .int), Cond.methodLink RJ0 498 yJ2_charAt_3b067, Cond.static yJ2_charAt_3b067, Cond.initialized RJ2, Cond.code yJ2_charAt_3b067 cJ2_charAt_3b067 2 (some .char), Cond.methodLink RJ2 67 yJ2_checkIndex_2214a, Cond.static yJ2_checkIndex_2214a, Cond.code yJ2_checkIndex_2214a cJ2_checkIndex_2214a 2 none, Cond.methodLink RJ2 48 yJ2_length_9d52b, Cond.static yJ2_length_9d52b, Cond.code yJ2_length_9d52b cJ2_length_9d52b 1 (some .int), Cond.methodLink RJ2 414 yJ0_checkIndex_df160, Cond.methodLink RJ2 71 yJ2_getChar_3b067, Cond.static yJ2_getChar_3b067, Cond.code yJ2_getChar_3b067 cJ2_getChar_3b067 2 (some .char), Cond.fieldLink RJ2 44 "java/lang/StringUTF16" "$assertionsDisabled" "Z", Cond.fieldLink RJ2 59 "java/lang/StringUTF16" "HI_BYTE_SHIFT" "I", Cond.fieldLink RJ2 63 "java/lang/StringUTF16" "LO_BYTE_SHIFT" "I", Cond.methodLink RX2 56 yX2_failAt, Cond.instanceMethod yX2_failAt, Cond.selects RX2 yX2_failAt yX2_failAt, Cond.code yX2_failAt cX2_failAt 2 (some .boolean), Cond.fieldLink RX2 19 "OvenDays$CommandText" "fault" "I"]
def wsX2_readWord : List Cond := .code yX2_readWord cX2_readWord 2 (some .boolean) :: ((wsX2_readWord_r1 ++ (wsX2_readWord_r2 ++ wsX2_readWord_r3)) ++ wsX20)
def wsX2_standsDigit : List Cond := .code yX2_standsDigit cX2_standsDigit 1 (some .boolean) :: ([.methodLink RX2 60 yX2_here, .instanceMethod yX2_here, .selects RX2 yX2_here yX2_here, .initialized RX2, .code yX2_here cX2_here 1 (some .int), .fieldLink RX2 34 "OvenDays$CommandText" "position" "I", .fieldLink RX2 23 "OvenDays$CommandText" "length" "I", .fieldLink RX2 11 "OvenDays$CommandText" "bytes" "[B"] ++ wsX20)
def wsX2_readDigits : List Cond := .code yX2_readDigits cX2_readDigits 3 (some .int) :: ([.fieldLink RX2 34 "OvenDays$CommandText" "position" "I", .methodLink RX2 92 yX2_standsDigit, .instanceMethod yX2_standsDigit, .selects RX2 yX2_standsDigit yX2_standsDigit, .initialized RX2, .code yX2_standsDigit cX2_standsDigit 1 (some .boolean), .methodLink RX2 60 yX2_here, .instanceMethod yX2_here, .selects RX2 yX2_here yX2_here, .code yX2_here cX2_here 1 (some .int), .fieldLink RX2 23 "OvenDays$CommandText" "length" "I", .fieldLink RX2 11 "OvenDays$CommandText" "bytes" "[B"] ++ wsX20)
def wsX2_readNumbers_r1 : List Cond := [Cond.fieldLink RX2 30 "OvenDays$CommandText" "word" "LOvenDays$Word;", Cond.fieldLink RX2 34 "OvenDays$CommandText" "position" "I", Cond.fieldLink RX2 15 "OvenDays$CommandText" "numbers" "[I", Cond.methodLink RX2 52 yX2_stands, Cond.instanceMethod yX2_stands, Cond.selects RX2 yX2_stands yX2_stands, Cond.initialized RX2, Cond.code yX2_stands cX2_stands 2 (some .boolean), Cond.methodLink RX2 60 yX2_here, Cond.instanceMethod yX2_here, Cond.selects RX2 yX2_here yX2_here, Cond.code yX2_here cX2_here 1 (some .int), Cond.fieldLink RX2 23 "OvenDays$CommandText" "length" "I", Cond.fieldLink RX2 11 "OvenDays$CommandText" "bytes" "[B", Cond.methodLink RX2 56 yX2_failAt, Cond.instanceMethod yX2_failAt, Cond.selects RX2 yX2_failAt yX2_failAt, Cond.code yX2_failAt cX2_failAt 2 (some .boolean), Cond.fieldLink RX2 19 "OvenDays$CommandText" "fault" "I", Cond.methodLink RX2 43 yX2_skipSpaces, Cond.instanceMethod yX2_skipSpaces, Cond.selects RX2 yX2_skipSpaces yX2_skipSpaces, Cond.code yX2_skipSpaces cX2_skipSpaces 1 none, Cond.methodLink RX2 92 yX2_standsDigit]
def wsX2_readNumbers_r2 : List Cond := [Cond.instanceMethod yX2_standsDigit, Cond.selects RX2 yX2_standsDigit yX2_standsDigit, Cond.code yX2_standsDigit cX2_standsDigit 1 (some .boolean), Cond.methodLink RX2 95 yX2_readDigits, Cond.instanceMethod yX2_readDigits, Cond.selects RX2 yX2_readDigits yX2_readDigits, Cond.code yX2_readDigits cX2_readDigits 3 (some .int)]
def wsX2_readNumbers : List Cond := .code yX2_readNumbers cX2_readNumbers 3 (some .boolean) :: ((wsX2_readNumbers_r1 ++ wsX2_readNumbers_r2) ++ wsX20)
def wsX2_readCommand_r1 : List Cond := [Cond.fieldLink RX2 34 "OvenDays$CommandText" "position" "I", Cond.fieldLink RX2 23 "OvenDays$CommandText" "length" "I", Cond.methodLink RX2 43 yX2_skipSpaces, Cond.instanceMethod yX2_skipSpaces, Cond.selects RX2 yX2_skipSpaces yX2_skipSpaces, Cond.initialized RX2, Cond.code yX2_skipSpaces cX2_skipSpaces 1 none, Cond.methodLink RX2 52 yX2_stands, Cond.instanceMethod yX2_stands, Cond.selects RX2 yX2_stands yX2_stands, Cond.code yX2_stands cX2_stands 2 (some .boolean), Cond.methodLink RX2 60 yX2_here, Cond.instanceMethod yX2_here, Cond.selects RX2 yX2_here yX2_here, Cond.code yX2_here cX2_here 1 (some .int), Cond.fieldLink RX2 11 "OvenDays$CommandText" "bytes" "[B", Cond.methodLink RX2 46 yX2_readWord, Cond.instanceMethod yX2_readWord, Cond.selects RX2 yX2_readWord yX2_readWord, Cond.code yX2_readWord cX2_readWord 2 (some .boolean), Cond.fieldLink RX2 30 "OvenDays$CommandText" "word" "LOvenDays$Word;", Cond.methodLink RX2 64 yX2_wordBetween, Cond.instanceMethod yX2_wordBetween, Cond.selects RX2 yX2_wordBetween yX2_wordBetween]
def wsX2_readCommand_r2 : List Cond := [Cond.code yX2_wordBetween cX2_wordBetween 5 (some (.object "OvenDays$Word")), Cond.fieldLink RX2 68 "OvenDays$CommandText" "WORDS" "[LOvenDays$Word;", Cond.methodLink RX2 78 yX2_isBetween, Cond.instanceMethod yX2_isBetween, Cond.selects RX2 yX2_isBetween yX2_isBetween, Cond.code yX2_isBetween cX2_isBetween 5 (some .boolean), Cond.methodLink RX2 82 yJ0_length_8abf5, Cond.instanceMethod yJ0_length_8abf5, Cond.selects RJ0 yJ0_length_8abf5 yJ0_length_8abf5, Cond.initialized RJ0, Cond.code yJ0_length_8abf5 cJ0_length_8abf5 1 (some .int), Cond.fieldLink RJ0 9 "java/lang/String" "value" "[B", Cond.methodLink RJ0 335 yJ0_coder_7d493, Cond.instanceMethod yJ0_coder_7d493, Cond.selects RJ0 yJ0_coder_7d493 yJ0_coder_7d493, Cond.code yJ0_coder_7d493 cJ0_coder_7d493 1 (some .byte), Cond.fieldLink RJ0 38 "java/lang/String" "COMPACT_STRINGS" "Z", Cond.fieldLink RJ0 15 "java/lang/String" "coder" "B", Cond.methodLink RX2 86 yJ0_charAt_5068e, Cond.instanceMethod yJ0_charAt_5068e, Cond.selects RJ0 yJ0_charAt_5068e yJ0_charAt_5068e, Cond.code yJ0_charAt_5068e cJ0_charAt_5068e 2 (some .char), Cond.methodLink RJ0 492 yJ0_isLatin1_aae02, Cond.instanceMethod yJ0_isLatin1_aae02]
def wsX2_readCommand_r3 : List Cond := [Cond.selects RJ0 yJ0_isLatin1_aae02 yJ0_isLatin1_aae02, Cond.code yJ0_isLatin1_aae02 cJ0_isLatin1_aae02 1 (some .boolean), Cond.methodLink RJ0 495 yJ1_charAt_3b067, Cond.static yJ1_charAt_3b067, Cond.initialized RJ1, Cond.code yJ1_charAt_3b067 cJ1_charAt_3b067 2 (some .char), Cond.methodLink RJ1 9 yJ0_checkIndex_df160, Cond.static yJ0_checkIndex_df160, Cond.code yJ0_checkIndex_df160 cJ0_checkIndex_df160 2 none, Cond.fieldLink RJ0 1053 "jdk/internal/util/Preconditions" "SIOOBE_FORMATTER" "Ljava/util/function/BiFunction;", Cond.methodLink RJ0 1059 yJ3_checkIndex_8e157, Cond.static yJ3_checkIndex_8e157, Cond.initialized RJ3, Cond.code yJ3_checkIndex_8e157 cJ3_checkIndex_8e157 3 (some .int), Cond.methodLink RJ0 498 yJ2_charAt_3b067, Cond.static yJ2_charAt_3b067, Cond.initialized RJ2, Cond.code yJ2_charAt_3b067 cJ2_charAt_3b067 2 (some .char), Cond.methodLink RJ2 67 yJ2_checkIndex_2214a, Cond.static yJ2_checkIndex_2214a, Cond.code yJ2_checkIndex_2214a cJ2_checkIndex_2214a 2 none, Cond.methodLink RJ2 48 yJ2_length_9d52b, Cond.static yJ2_length_9d52b, Cond.code yJ2_length_9d52b cJ2_length_9d52b 1 (some .int)]
def wsX2_readCommand_r4 : List Cond := [Cond.methodLink RJ2 414 yJ0_checkIndex_df160, Cond.methodLink RJ2 71 yJ2_getChar_3b067, Cond.static yJ2_getChar_3b067, Cond.code yJ2_getChar_3b067 cJ2_getChar_3b067 2 (some .char), Cond.fieldLink RJ2 44 "java/lang/StringUTF16" "$assertionsDisabled" "Z", Cond.fieldLink RJ2 59 "java/lang/StringUTF16" "HI_BYTE_SHIFT" "I", Cond.fieldLink RJ2 63 "java/lang/StringUTF16" "LO_BYTE_SHIFT" "I", Cond.methodLink RX2 56 yX2_failAt, Cond.instanceMethod yX2_failAt, Cond.selects RX2 yX2_failAt yX2_failAt, Cond.code yX2_failAt cX2_failAt 2 (some .boolean), Cond.fieldLink RX2 19 "OvenDays$CommandText" "fault" "I", Cond.methodLink RX2 49 yX2_readNumbers, Cond.instanceMethod yX2_readNumbers, Cond.selects RX2 yX2_readNumbers yX2_readNumbers, Cond.code yX2_readNumbers cX2_readNumbers 3 (some .boolean), Cond.fieldLink RX2 15 "OvenDays$CommandText" "numbers" "[I", Cond.methodLink RX2 92 yX2_standsDigit, Cond.instanceMethod yX2_standsDigit, Cond.selects RX2 yX2_standsDigit yX2_standsDigit, Cond.code yX2_standsDigit cX2_standsDigit 1 (some .boolean), Cond.methodLink RX2 95 yX2_readDigits, Cond.instanceMethod yX2_readDigits, Cond.selects RX2 yX2_readDigits yX2_readDigits]
def wsX2_readCommand_r5 : List Cond := [Cond.code yX2_readDigits cX2_readDigits 3 (some .int)]
def wsX2_readCommand : List Cond := .code yX2_readCommand cX2_readCommand 1 (some .boolean) :: ((wsX2_readCommand_r1 ++ (wsX2_readCommand_r2 ++ (wsX2_readCommand_r3 ++ (wsX2_readCommand_r4 ++ wsX2_readCommand_r5)))) ++ wsX20)
def wsX2_findFault_r1 : List Cond := [Cond.fieldLink RX2 19 "OvenDays$CommandText" "fault" "I", Cond.methodLink RX2 37 yX2_rewind, Cond.instanceMethod yX2_rewind, Cond.selects RX2 yX2_rewind yX2_rewind, Cond.initialized RX2, Cond.code yX2_rewind cX2_rewind 1 none, Cond.fieldLink RX2 34 "OvenDays$CommandText" "position" "I", Cond.methodLink RX2 40 yX2_readCommand, Cond.instanceMethod yX2_readCommand, Cond.selects RX2 yX2_readCommand yX2_readCommand, Cond.code yX2_readCommand cX2_readCommand 1 (some .boolean), Cond.fieldLink RX2 23 "OvenDays$CommandText" "length" "I", Cond.methodLink RX2 43 yX2_skipSpaces, Cond.instanceMethod yX2_skipSpaces, Cond.selects RX2 yX2_skipSpaces yX2_skipSpaces, Cond.code yX2_skipSpaces cX2_skipSpaces 1 none, Cond.methodLink RX2 52 yX2_stands, Cond.instanceMethod yX2_stands, Cond.selects RX2 yX2_stands yX2_stands, Cond.code yX2_stands cX2_stands 2 (some .boolean), Cond.methodLink RX2 60 yX2_here, Cond.instanceMethod yX2_here, Cond.selects RX2 yX2_here yX2_here, Cond.code yX2_here cX2_here 1 (some .int)]
def wsX2_findFault_r2 : List Cond := [Cond.fieldLink RX2 11 "OvenDays$CommandText" "bytes" "[B", Cond.methodLink RX2 46 yX2_readWord, Cond.instanceMethod yX2_readWord, Cond.selects RX2 yX2_readWord yX2_readWord, Cond.code yX2_readWord cX2_readWord 2 (some .boolean), Cond.fieldLink RX2 30 "OvenDays$CommandText" "word" "LOvenDays$Word;", Cond.methodLink RX2 64 yX2_wordBetween, Cond.instanceMethod yX2_wordBetween, Cond.selects RX2 yX2_wordBetween yX2_wordBetween, Cond.code yX2_wordBetween cX2_wordBetween 5 (some (.object "OvenDays$Word")), Cond.fieldLink RX2 68 "OvenDays$CommandText" "WORDS" "[LOvenDays$Word;", Cond.methodLink RX2 78 yX2_isBetween, Cond.instanceMethod yX2_isBetween, Cond.selects RX2 yX2_isBetween yX2_isBetween, Cond.code yX2_isBetween cX2_isBetween 5 (some .boolean), Cond.methodLink RX2 82 yJ0_length_8abf5, Cond.instanceMethod yJ0_length_8abf5, Cond.selects RJ0 yJ0_length_8abf5 yJ0_length_8abf5, Cond.initialized RJ0, Cond.code yJ0_length_8abf5 cJ0_length_8abf5 1 (some .int), Cond.fieldLink RJ0 9 "java/lang/String" "value" "[B", Cond.methodLink RJ0 335 yJ0_coder_7d493, Cond.instanceMethod yJ0_coder_7d493, Cond.selects RJ0 yJ0_coder_7d493 yJ0_coder_7d493]
def wsX2_findFault_r3 : List Cond := [Cond.code yJ0_coder_7d493 cJ0_coder_7d493 1 (some .byte), Cond.fieldLink RJ0 38 "java/lang/String" "COMPACT_STRINGS" "Z", Cond.fieldLink RJ0 15 "java/lang/String" "coder" "B", Cond.methodLink RX2 86 yJ0_charAt_5068e, Cond.instanceMethod yJ0_charAt_5068e, Cond.selects RJ0 yJ0_charAt_5068e yJ0_charAt_5068e, Cond.code yJ0_charAt_5068e cJ0_charAt_5068e 2 (some .char), Cond.methodLink RJ0 492 yJ0_isLatin1_aae02, Cond.instanceMethod yJ0_isLatin1_aae02, Cond.selects RJ0 yJ0_isLatin1_aae02 yJ0_isLatin1_aae02, Cond.code yJ0_isLatin1_aae02 cJ0_isLatin1_aae02 1 (some .boolean), Cond.methodLink RJ0 495 yJ1_charAt_3b067, Cond.static yJ1_charAt_3b067, Cond.initialized RJ1, Cond.code yJ1_charAt_3b067 cJ1_charAt_3b067 2 (some .char), Cond.methodLink RJ1 9 yJ0_checkIndex_df160, Cond.static yJ0_checkIndex_df160, Cond.code yJ0_checkIndex_df160 cJ0_checkIndex_df160 2 none, Cond.fieldLink RJ0 1053 "jdk/internal/util/Preconditions" "SIOOBE_FORMATTER" "Ljava/util/function/BiFunction;", Cond.methodLink RJ0 1059 yJ3_checkIndex_8e157, Cond.static yJ3_checkIndex_8e157, Cond.initialized RJ3, Cond.code yJ3_checkIndex_8e157 cJ3_checkIndex_8e157 3 (some .int), Cond.methodLink RJ0 498 yJ2_charAt_3b067]
def wsX2_findFault_r4 : List Cond := [Cond.static yJ2_charAt_3b067, Cond.initialized RJ2, Cond.code yJ2_charAt_3b067 cJ2_charAt_3b067 2 (some .char), Cond.methodLink RJ2 67 yJ2_checkIndex_2214a, Cond.static yJ2_checkIndex_2214a, Cond.code yJ2_checkIndex_2214a cJ2_checkIndex_2214a 2 none, Cond.methodLink RJ2 48 yJ2_length_9d52b, Cond.static yJ2_length_9d52b, Cond.code yJ2_length_9d52b cJ2_length_9d52b 1 (some .int), Cond.methodLink RJ2 414 yJ0_checkIndex_df160, Cond.methodLink RJ2 71 yJ2_getChar_3b067, Cond.static yJ2_getChar_3b067, Cond.code yJ2_getChar_3b067 cJ2_getChar_3b067 2 (some .char), Cond.fieldLink RJ2 44 "java/lang/StringUTF16" "$assertionsDisabled" "Z", Cond.fieldLink RJ2 59 "java/lang/StringUTF16" "HI_BYTE_SHIFT" "I", Cond.fieldLink RJ2 63 "java/lang/StringUTF16" "LO_BYTE_SHIFT" "I", Cond.methodLink RX2 56 yX2_failAt, Cond.instanceMethod yX2_failAt, Cond.selects RX2 yX2_failAt yX2_failAt, Cond.code yX2_failAt cX2_failAt 2 (some .boolean), Cond.methodLink RX2 49 yX2_readNumbers, Cond.instanceMethod yX2_readNumbers, Cond.selects RX2 yX2_readNumbers yX2_readNumbers, Cond.code yX2_readNumbers cX2_readNumbers 3 (some .boolean)]
def wsX2_findFault_r5 : List Cond := [Cond.fieldLink RX2 15 "OvenDays$CommandText" "numbers" "[I", Cond.methodLink RX2 92 yX2_standsDigit, Cond.instanceMethod yX2_standsDigit, Cond.selects RX2 yX2_standsDigit yX2_standsDigit, Cond.code yX2_standsDigit cX2_standsDigit 1 (some .boolean), Cond.methodLink RX2 95 yX2_readDigits, Cond.instanceMethod yX2_readDigits, Cond.selects RX2 yX2_readDigits yX2_readDigits, Cond.code yX2_readDigits cX2_readDigits 3 (some .int)]
def wsX2_findFault : List Cond := .code yX2_findFault cX2_findFault 2 (some .int) :: ((wsX2_findFault_r1 ++ (wsX2_findFault_r2 ++ (wsX2_findFault_r3 ++ (wsX2_findFault_r4 ++ wsX2_findFault_r5)))) ++ wsX20)
def wsX5_init : List Cond := .code yX5_init cX5_init 1 none :: ([.methodLink RX5 3 objectInit, .instanceMethod objectInit, .code objectInit ⟨#[0xb1]⟩ 1 none, .classLink RX5 9 RX7, .instantiable RX7 2, .initialized RX7, .fieldLink RX5 14 "OvenDays$Loads" "rows" "LOvenDays$Table;", .methodLink RX5 11 yX7_init, .instanceMethod yX7_init, .code yX7_init cX7_init 3 none, .methodLink RX7 1 objectInit, .classLink RX7 7 "[[I", .arrayClass .int, .fieldLink RX7 9 "OvenDays$Table" "columns" "[[I", .fieldLink RX7 14 "OvenDays$Table" "room" "I"] ++ wsX70 ++ wsX50)
def wsX3_init_r1 : List Cond := [Cond.methodLink RX3 3 objectInit, Cond.instanceMethod objectInit, Cond.code objectInit ⟨#[0xb1]⟩ 1 none, Cond.arrayClass .int, Cond.fieldLink RX3 9 "OvenDays$DayPlan" "order" "[I", Cond.fieldLink RX3 15 "OvenDays$DayPlan" "loadAt" "[I", Cond.fieldLink RX3 18 "OvenDays$DayPlan" "waiting" "[I", Cond.classLink RX3 21 RX5, Cond.instantiable RX5 2, Cond.initialized RX5, Cond.fieldLink RX3 24 "OvenDays$DayPlan" "loads" "LOvenDays$Loads;", Cond.instanceMethod yX5_init, Cond.code yX5_init cX5_init 1 none, Cond.methodLink RX5 3 objectInit, Cond.classLink RX5 9 RX7, Cond.instantiable RX7 2, Cond.initialized RX7, Cond.fieldLink RX5 14 "OvenDays$Loads" "rows" "LOvenDays$Table;", Cond.methodLink RX5 11 yX7_init, Cond.instanceMethod yX7_init, Cond.code yX7_init cX7_init 3 none, Cond.methodLink RX7 1 objectInit, Cond.classLink RX7 7 "[[I", Cond.fieldLink RX7 9 "OvenDays$Table" "columns" "[[I"]
def wsX3_init_r2 : List Cond := [Cond.fieldLink RX7 14 "OvenDays$Table" "room" "I"]
def wsX3_init : List Cond := .code yX3_init cX3_init 1 none :: ((wsX3_init_r1 ++ wsX3_init_r2) ++ wsX30 ++ wsX50 ++ wsX70)
def wsX3_paleBelow : List Cond := .code yX3_paleBelow cX3_paleBelow 1 (some .int) :: ([.fieldLink RX3 28 "OvenDays$DayPlan" "LOWEST" "[I"])
def wsX3_arrange : List Cond := .code yX3_arrange cX3_arrange 7 none :: ([.fieldLink RX3 31 "OvenDays$DayPlan" "count" "I", .fieldLink RX3 9 "OvenDays$DayPlan" "order" "[I", .methodLink RX3 35 yX1_size, .instanceMethod yX1_size, .selects RX1 yX1_size yX1_size, .initialized RX1, .code yX1_size cX1_size 1 (some .int), .fieldLink RX1 20 "OvenDays$Batches" "count" "I", .methodLink RX3 41 yX1_value, .instanceMethod yX1_value, .selects RX1 yX1_value yX1_value, .code yX1_value cX1_value 3 (some .int), .fieldLink RX1 14 "OvenDays$Batches" "rows" "LOvenDays$Table;", .methodLink RX1 28 yX7_get, .instanceMethod yX7_get, .selects RX7 yX7_get yX7_get, .initialized RX7, .code yX7_get cX7_get 3 (some .int), .fieldLink RX7 14 "OvenDays$Table" "room" "I", .fieldLink RX7 9 "OvenDays$Table" "columns" "[[I"] ++ wsX30 ++ wsX10 ++ wsX70)
def wsX5_clear : List Cond := .code yX5_clear cX5_clear 1 none :: ([.fieldLink RX5 20 "OvenDays$Loads" "count" "I"] ++ wsX50)
def wsX3_startWaiting_r1 : List Cond := [Cond.fieldLink RX3 24 "OvenDays$DayPlan" "loads" "LOvenDays$Loads;", Cond.fieldLink RX3 31 "OvenDays$DayPlan" "count" "I", Cond.fieldLink RX3 52 "OvenDays$DayPlan" "left" "I", Cond.fieldLink RX3 18 "OvenDays$DayPlan" "waiting" "[I", Cond.fieldLink RX3 15 "OvenDays$DayPlan" "loadAt" "[I", Cond.fieldLink RX3 9 "OvenDays$DayPlan" "order" "[I", Cond.methodLink RX3 71 yX5_clear, Cond.instanceMethod yX5_clear, Cond.selects RX5 yX5_clear yX5_clear, Cond.initialized RX5, Cond.code yX5_clear cX5_clear 1 none, Cond.fieldLink RX5 20 "OvenDays$Loads" "count" "I", Cond.methodLink RX3 41 yX1_value, Cond.instanceMethod yX1_value, Cond.selects RX1 yX1_value yX1_value, Cond.initialized RX1, Cond.code yX1_value cX1_value 3 (some .int), Cond.fieldLink RX1 14 "OvenDays$Batches" "rows" "LOvenDays$Table;", Cond.methodLink RX1 28 yX7_get, Cond.instanceMethod yX7_get, Cond.selects RX7 yX7_get yX7_get, Cond.initialized RX7, Cond.code yX7_get cX7_get 3 (some .int), Cond.fieldLink RX7 14 "OvenDays$Table" "room" "I"]
def wsX3_startWaiting_r2 : List Cond := [Cond.fieldLink RX7 9 "OvenDays$Table" "columns" "[[I"]
def wsX3_startWaiting : List Cond := .code yX3_startWaiting cX3_startWaiting 4 none :: ((wsX3_startWaiting_r1 ++ wsX3_startWaiting_r2) ++ wsX30 ++ wsX50 ++ wsX10 ++ wsX70)
def wsX3_kindForHeat : List Cond := .code yX3_kindForHeat cX3_kindForHeat 2 (some .int) :: ([.fieldLink RX3 18 "OvenDays$DayPlan" "waiting" "[I", .fieldLink RX3 45 "OvenDays$DayPlan" "heat" "I", .fieldLink RX3 28 "OvenDays$DayPlan" "LOWEST" "[I", .fieldLink RX3 74 "OvenDays$DayPlan" "GREATEST" "[I"] ++ wsX30)
def wsX5_size : List Cond := .code yX5_size cX5_size 1 (some .int) :: ([.fieldLink RX5 20 "OvenDays$Loads" "count" "I"] ++ wsX50)
def wsX5_add : List Cond := .code yX5_add cX5_add 6 none :: ([.fieldLink RX5 14 "OvenDays$Loads" "rows" "LOvenDays$Table;", .fieldLink RX5 20 "OvenDays$Loads" "count" "I", .methodLink RX5 32 yX7_put, .instanceMethod yX7_put, .selects RX7 yX7_put yX7_put, .initialized RX7, .code yX7_put cX7_put 4 none, .fieldLink RX7 14 "OvenDays$Table" "room" "I", .fieldLink RX7 9 "OvenDays$Table" "columns" "[[I"] ++ wsX50 ++ wsX70)
def wsX3_bakeLoad_r1 : List Cond := [Cond.fieldLink RX3 45 "OvenDays$DayPlan" "heat" "I", Cond.fieldLink RX3 31 "OvenDays$DayPlan" "count" "I", Cond.fieldLink RX3 9 "OvenDays$DayPlan" "order" "[I", Cond.fieldLink RX3 15 "OvenDays$DayPlan" "loadAt" "[I", Cond.fieldLink RX3 24 "OvenDays$DayPlan" "loads" "LOvenDays$Loads;", Cond.fieldLink RX3 52 "OvenDays$DayPlan" "left" "I", Cond.fieldLink RX3 18 "OvenDays$DayPlan" "waiting" "[I", Cond.fieldLink RX3 78 "OvenDays$DayPlan" "TICKS" "[I", Cond.methodLink RX3 66 Lib.Math.max.name, Cond.static Lib.Math.max.name, Cond.initialized "java/lang/Math", Cond.code Lib.Math.max.name Lib.Math.max.code 2 (some .int), Cond.methodLink RX3 41 yX1_value, Cond.instanceMethod yX1_value, Cond.selects RX1 yX1_value yX1_value, Cond.initialized RX1, Cond.code yX1_value cX1_value 3 (some .int), Cond.fieldLink RX1 14 "OvenDays$Batches" "rows" "LOvenDays$Table;", Cond.methodLink RX1 28 yX7_get, Cond.instanceMethod yX7_get, Cond.selects RX7 yX7_get yX7_get, Cond.initialized RX7, Cond.code yX7_get cX7_get 3 (some .int), Cond.fieldLink RX7 14 "OvenDays$Table" "room" "I"]
def wsX3_bakeLoad_r2 : List Cond := [Cond.fieldLink RX7 9 "OvenDays$Table" "columns" "[[I", Cond.methodLink RX3 77 yX5_size, Cond.instanceMethod yX5_size, Cond.selects RX5 yX5_size yX5_size, Cond.initialized RX5, Cond.code yX5_size cX5_size 1 (some .int), Cond.fieldLink RX5 20 "OvenDays$Loads" "count" "I", Cond.methodLink RX3 81 yX5_add, Cond.instanceMethod yX5_add, Cond.selects RX5 yX5_add yX5_add, Cond.code yX5_add cX5_add 6 none, Cond.fieldLink RX5 14 "OvenDays$Loads" "rows" "LOvenDays$Table;", Cond.methodLink RX5 32 yX7_put, Cond.instanceMethod yX7_put, Cond.selects RX7 yX7_put yX7_put, Cond.code yX7_put cX7_put 4 none]
def wsX3_bakeLoad : List Cond := .code yX3_bakeLoad cX3_bakeLoad 9 none :: ((wsX3_bakeLoad_r1 ++ wsX3_bakeLoad_r2) ++ wsX30 ++ wsX10 ++ wsX70 ++ wsX50)
def wsX3_isTooHotForSome : List Cond := .code yX3_isTooHotForSome cX3_isTooHotForSome 2 (some .boolean) :: ([.fieldLink RX3 18 "OvenDays$DayPlan" "waiting" "[I", .fieldLink RX3 45 "OvenDays$DayPlan" "heat" "I", .fieldLink RX3 74 "OvenDays$DayPlan" "GREATEST" "[I"] ++ wsX30)
def wsX3_fire_r1 : List Cond := [Cond.fieldLink RX3 45 "OvenDays$DayPlan" "heat" "I", Cond.fieldLink RX3 52 "OvenDays$DayPlan" "left" "I", Cond.methodLink RX3 66 Lib.Math.max.name, Cond.static Lib.Math.max.name, Cond.initialized "java/lang/Math", Cond.code Lib.Math.max.name Lib.Math.max.code 2 (some .int), Cond.methodLink RX3 48 yX3_startWaiting, Cond.instanceMethod yX3_startWaiting, Cond.selects RX3 yX3_startWaiting yX3_startWaiting, Cond.initialized RX3, Cond.code yX3_startWaiting cX3_startWaiting 4 none, Cond.fieldLink RX3 24 "OvenDays$DayPlan" "loads" "LOvenDays$Loads;", Cond.fieldLink RX3 31 "OvenDays$DayPlan" "count" "I", Cond.fieldLink RX3 18 "OvenDays$DayPlan" "waiting" "[I", Cond.fieldLink RX3 15 "OvenDays$DayPlan" "loadAt" "[I", Cond.fieldLink RX3 9 "OvenDays$DayPlan" "order" "[I", Cond.methodLink RX3 71 yX5_clear, Cond.instanceMethod yX5_clear, Cond.selects RX5 yX5_clear yX5_clear, Cond.initialized RX5, Cond.code yX5_clear cX5_clear 1 none, Cond.fieldLink RX5 20 "OvenDays$Loads" "count" "I", Cond.methodLink RX3 41 yX1_value, Cond.instanceMethod yX1_value]
def wsX3_fire_r2 : List Cond := [Cond.selects RX1 yX1_value yX1_value, Cond.initialized RX1, Cond.code yX1_value cX1_value 3 (some .int), Cond.fieldLink RX1 14 "OvenDays$Batches" "rows" "LOvenDays$Table;", Cond.methodLink RX1 28 yX7_get, Cond.instanceMethod yX7_get, Cond.selects RX7 yX7_get yX7_get, Cond.initialized RX7, Cond.code yX7_get cX7_get 3 (some .int), Cond.fieldLink RX7 14 "OvenDays$Table" "room" "I", Cond.fieldLink RX7 9 "OvenDays$Table" "columns" "[[I", Cond.methodLink RX3 55 yX3_kindForHeat, Cond.instanceMethod yX3_kindForHeat, Cond.selects RX3 yX3_kindForHeat yX3_kindForHeat, Cond.code yX3_kindForHeat cX3_kindForHeat 2 (some .int), Cond.fieldLink RX3 28 "OvenDays$DayPlan" "LOWEST" "[I", Cond.fieldLink RX3 74 "OvenDays$DayPlan" "GREATEST" "[I", Cond.methodLink RX3 58 yX3_bakeLoad, Cond.instanceMethod yX3_bakeLoad, Cond.selects RX3 yX3_bakeLoad yX3_bakeLoad, Cond.code yX3_bakeLoad cX3_bakeLoad 9 none, Cond.fieldLink RX3 78 "OvenDays$DayPlan" "TICKS" "[I", Cond.methodLink RX3 77 yX5_size, Cond.instanceMethod yX5_size]
def wsX3_fire_r3 : List Cond := [Cond.selects RX5 yX5_size yX5_size, Cond.code yX5_size cX5_size 1 (some .int), Cond.methodLink RX3 81 yX5_add, Cond.instanceMethod yX5_add, Cond.selects RX5 yX5_add yX5_add, Cond.code yX5_add cX5_add 6 none, Cond.fieldLink RX5 14 "OvenDays$Loads" "rows" "LOvenDays$Table;", Cond.methodLink RX5 32 yX7_put, Cond.instanceMethod yX7_put, Cond.selects RX7 yX7_put yX7_put, Cond.code yX7_put cX7_put 4 none, Cond.methodLink RX3 62 yX3_isTooHotForSome, Cond.instanceMethod yX3_isTooHotForSome, Cond.selects RX3 yX3_isTooHotForSome yX3_isTooHotForSome, Cond.code yX3_isTooHotForSome cX3_isTooHotForSome 2 (some .boolean)]
def wsX3_fire : List Cond := .code yX3_fire cX3_fire 5 none :: ((wsX3_fire_r1 ++ (wsX3_fire_r2 ++ wsX3_fire_r3)) ++ wsX30 ++ wsX50 ++ wsX10 ++ wsX70)
def wsX3_size : List Cond := .code yX3_size cX3_size 1 (some .int) :: ([.fieldLink RX3 31 "OvenDays$DayPlan" "count" "I"] ++ wsX30)
def wsX3_loads : List Cond := .code yX3_loads cX3_loads 1 (some (.object "OvenDays$Loads")) :: ([.fieldLink RX3 24 "OvenDays$DayPlan" "loads" "LOvenDays$Loads;"] ++ wsX30)
def wsX3_heat : List Cond := .code yX3_heat cX3_heat 1 (some .int) :: ([.fieldLink RX3 45 "OvenDays$DayPlan" "heat" "I"] ++ wsX30)
def wsX3_batchAt : List Cond := .code yX3_batchAt cX3_batchAt 2 (some .int) :: ([.fieldLink RX3 31 "OvenDays$DayPlan" "count" "I", .fieldLink RX3 9 "OvenDays$DayPlan" "order" "[I"] ++ wsX30)
def wsX3_loadAt : List Cond := .code yX3_loadAt cX3_loadAt 2 (some .int) :: ([.fieldLink RX3 31 "OvenDays$DayPlan" "count" "I", .fieldLink RX3 15 "OvenDays$DayPlan" "loadAt" "[I"] ++ wsX30)
def wsX3_placeOf : List Cond := .code yX3_placeOf cX3_placeOf 3 (some .int) :: ([.fieldLink RX3 31 "OvenDays$DayPlan" "count" "I", .methodLink RX3 85 yX3_batchAt, .instanceMethod yX3_batchAt, .selects RX3 yX3_batchAt yX3_batchAt, .initialized RX3, .code yX3_batchAt cX3_batchAt 2 (some .int), .fieldLink RX3 9 "OvenDays$DayPlan" "order" "[I"] ++ wsX30)
def wsX3_dough_r1 : List Cond := [Cond.fieldLink RX3 31 "OvenDays$DayPlan" "count" "I", Cond.methodLink RX3 89 yX3_loadAt, Cond.instanceMethod yX3_loadAt, Cond.selects RX3 yX3_loadAt yX3_loadAt, Cond.initialized RX3, Cond.code yX3_loadAt cX3_loadAt 2 (some .int), Cond.fieldLink RX3 15 "OvenDays$DayPlan" "loadAt" "[I", Cond.methodLink RX3 85 yX3_batchAt, Cond.instanceMethod yX3_batchAt, Cond.selects RX3 yX3_batchAt yX3_batchAt, Cond.code yX3_batchAt cX3_batchAt 2 (some .int), Cond.fieldLink RX3 9 "OvenDays$DayPlan" "order" "[I", Cond.methodLink RX3 41 yX1_value, Cond.instanceMethod yX1_value, Cond.selects RX1 yX1_value yX1_value, Cond.initialized RX1, Cond.code yX1_value cX1_value 3 (some .int), Cond.fieldLink RX1 14 "OvenDays$Batches" "rows" "LOvenDays$Table;", Cond.methodLink RX1 28 yX7_get, Cond.instanceMethod yX7_get, Cond.selects RX7 yX7_get yX7_get, Cond.initialized RX7, Cond.code yX7_get cX7_get 3 (some .int), Cond.fieldLink RX7 14 "OvenDays$Table" "room" "I"]
def wsX3_dough_r2 : List Cond := [Cond.fieldLink RX7 9 "OvenDays$Table" "columns" "[[I"]
def wsX3_dough : List Cond := .code yX3_dough cX3_dough 4 (some .int) :: ((wsX3_dough_r1 ++ wsX3_dough_r2) ++ wsX30 ++ wsX10 ++ wsX70)
def wsX4_init : List Cond := .code yX4_init cX4_init 1 none :: ([.methodLink RX4 3 objectInit, .instanceMethod objectInit, .code objectInit ⟨#[0xb1]⟩ 1 none, .classLink RX4 9 RX7, .instantiable RX7 2, .initialized RX7, .fieldLink RX4 14 "OvenDays$Households" "rows" "LOvenDays$Table;", .methodLink RX4 11 yX7_init, .instanceMethod yX7_init, .code yX7_init cX7_init 3 none, .methodLink RX7 1 objectInit, .classLink RX7 7 "[[I", .arrayClass .int, .fieldLink RX7 9 "OvenDays$Table" "columns" "[[I", .fieldLink RX7 14 "OvenDays$Table" "room" "I"] ++ wsX70 ++ wsX40)
def wsX4_copyFrom : List Cond := .code yX4_copyFrom cX4_copyFrom 2 none :: ([.fieldLink RX4 14 "OvenDays$Households" "rows" "LOvenDays$Table;", .fieldLink RX4 20 "OvenDays$Households" "count" "I", .methodLink RX4 24 yX7_copyFrom, .instanceMethod yX7_copyFrom, .selects RX7 yX7_copyFrom yX7_copyFrom, .initialized RX7, .code yX7_copyFrom cX7_copyFrom 4 none, .fieldLink RX7 14 "OvenDays$Table" "room" "I", .fieldLink RX7 9 "OvenDays$Table" "columns" "[[I", .methodLink RX7 22 arraycopyName, .native arraycopyName, .static arraycopyName, .initialized "java/lang/System"] ++ wsX40 ++ wsX70)
def wsX4_size : List Cond := .code yX4_size cX4_size 1 (some .int) :: ([.fieldLink RX4 20 "OvenDays$Households" "count" "I"] ++ wsX40)
def wsX4_has : List Cond := .code yX4_has cX4_has 2 (some .boolean) :: ([.fieldLink RX4 20 "OvenDays$Households" "count" "I"] ++ wsX40)
def wsX4_isFull : List Cond := .code yX4_isFull cX4_isFull 1 (some .boolean) :: ([.fieldLink RX4 20 "OvenDays$Households" "count" "I"] ++ wsX40)
def wsX4_value : List Cond := .code yX4_value cX4_value 3 (some .int) :: ([.fieldLink RX4 14 "OvenDays$Households" "rows" "LOvenDays$Table;", .methodLink RX4 28 yX7_get, .instanceMethod yX7_get, .selects RX7 yX7_get yX7_get, .initialized RX7, .code yX7_get cX7_get 3 (some .int), .fieldLink RX7 14 "OvenDays$Table" "room" "I", .fieldLink RX7 9 "OvenDays$Table" "columns" "[[I"] ++ wsX40 ++ wsX70)
def wsX7_sum : List Cond := .code yX7_sum cX7_sum 6 (some .int) :: ([.fieldLink RX7 9 "OvenDays$Table" "columns" "[[I", .fieldLink RX7 14 "OvenDays$Table" "room" "I"] ++ wsX70)
def wsX4_sumOf : List Cond := .code yX4_sumOf cX4_sumOf 2 (some .int) :: ([.fieldLink RX4 14 "OvenDays$Households" "rows" "LOvenDays$Table;", .fieldLink RX4 20 "OvenDays$Households" "count" "I", .methodLink RX4 32 yX7_sum, .instanceMethod yX7_sum, .selects RX7 yX7_sum yX7_sum, .initialized RX7, .code yX7_sum cX7_sum 6 (some .int), .fieldLink RX7 9 "OvenDays$Table" "columns" "[[I", .fieldLink RX7 14 "OvenDays$Table" "room" "I"] ++ wsX40 ++ wsX70)
def wsX4_withMark : List Cond := .code yX4_withMark cX4_withMark 3 (some .int) :: ([.fieldLink RX4 20 "OvenDays$Households" "count" "I", .fieldLink RX4 14 "OvenDays$Households" "rows" "LOvenDays$Table;", .methodLink RX4 28 yX7_get, .instanceMethod yX7_get, .selects RX7 yX7_get yX7_get, .initialized RX7, .code yX7_get cX7_get 3 (some .int), .fieldLink RX7 14 "OvenDays$Table" "room" "I", .fieldLink RX7 9 "OvenDays$Table" "columns" "[[I"] ++ wsX40 ++ wsX70)
def wsX4_add : List Cond := .code yX4_add cX4_add 3 (some .int) :: ([.fieldLink RX4 20 "OvenDays$Households" "count" "I", .fieldLink RX4 14 "OvenDays$Households" "rows" "LOvenDays$Table;", .methodLink RX4 35 yX7_put, .instanceMethod yX7_put, .selects RX7 yX7_put yX7_put, .initialized RX7, .code yX7_put cX7_put 4 none, .fieldLink RX7 14 "OvenDays$Table" "room" "I", .fieldLink RX7 9 "OvenDays$Table" "columns" "[[I"] ++ wsX40 ++ wsX70)
def wsX4_changeMark : List Cond := .code yX4_changeMark cX4_changeMark 4 (some .int) :: ([.fieldLink RX4 14 "OvenDays$Households" "rows" "LOvenDays$Table;", .methodLink RX4 28 yX7_get, .instanceMethod yX7_get, .selects RX7 yX7_get yX7_get, .initialized RX7, .code yX7_get cX7_get 3 (some .int), .fieldLink RX7 14 "OvenDays$Table" "room" "I", .fieldLink RX7 9 "OvenDays$Table" "columns" "[[I", .methodLink RX4 35 yX7_put, .instanceMethod yX7_put, .selects RX7 yX7_put yX7_put, .code yX7_put cX7_put 4 none] ++ wsX40 ++ wsX70)
def wsX4_excuseOne : List Cond := .code yX4_excuseOne cX4_excuseOne 2 (some .int) :: ([.fieldLink RX4 14 "OvenDays$Households" "rows" "LOvenDays$Table;", .fieldLink RX4 20 "OvenDays$Households" "count" "I", .methodLink RX4 35 yX7_put, .instanceMethod yX7_put, .selects RX7 yX7_put yX7_put, .initialized RX7, .code yX7_put cX7_put 4 none, .fieldLink RX7 14 "OvenDays$Table" "room" "I", .fieldLink RX7 9 "OvenDays$Table" "columns" "[[I", .methodLink RX4 39 yX7_count, .instanceMethod yX7_count, .selects RX7 yX7_count yX7_count, .code yX7_count cX7_count 4 (some .int), .methodLink RX7 18 yX7_countBoth, .instanceMethod yX7_countBoth, .selects RX7 yX7_countBoth yX7_countBoth, .code yX7_countBoth cX7_countBoth 10 (some .int)] ++ wsX40 ++ wsX70)
def wsX4_putIn : List Cond := .code yX4_putIn cX4_putIn 3 none :: ([.fieldLink RX4 14 "OvenDays$Households" "rows" "LOvenDays$Table;", .methodLink RX4 28 yX7_get, .instanceMethod yX7_get, .selects RX7 yX7_get yX7_get, .initialized RX7, .code yX7_get cX7_get 3 (some .int), .fieldLink RX7 14 "OvenDays$Table" "room" "I", .fieldLink RX7 9 "OvenDays$Table" "columns" "[[I", .methodLink RX4 35 yX7_put, .instanceMethod yX7_put, .selects RX7 yX7_put yX7_put, .code yX7_put cX7_put 4 none] ++ wsX40 ++ wsX70)
def wsX4_dueOf : List Cond := .code yX4_dueOf cX4_dueOf 6 (some .long) :: ([.fieldLink RX4 14 "OvenDays$Households" "rows" "LOvenDays$Table;", .fieldLink RX4 20 "OvenDays$Households" "count" "I", .methodLink RX4 32 yX7_sum, .instanceMethod yX7_sum, .selects RX7 yX7_sum yX7_sum, .initialized RX7, .code yX7_sum cX7_sum 6 (some .int), .fieldLink RX7 9 "OvenDays$Table" "columns" "[[I", .fieldLink RX7 14 "OvenDays$Table" "room" "I", .methodLink RX4 28 yX7_get, .instanceMethod yX7_get, .selects RX7 yX7_get yX7_get, .code yX7_get cX7_get 3 (some .int)] ++ wsX40 ++ wsX70)
def wsX4_nextOne_r1 : List Cond := [Cond.fieldLink RX4 14 "OvenDays$Households" "rows" "LOvenDays$Table;", Cond.fieldLink RX4 20 "OvenDays$Households" "count" "I", Cond.methodLink RX4 39 yX7_count, Cond.instanceMethod yX7_count, Cond.selects RX7 yX7_count yX7_count, Cond.initialized RX7, Cond.code yX7_count cX7_count 4 (some .int), Cond.methodLink RX7 18 yX7_countBoth, Cond.instanceMethod yX7_countBoth, Cond.selects RX7 yX7_countBoth yX7_countBoth, Cond.code yX7_countBoth cX7_countBoth 10 (some .int), Cond.fieldLink RX7 9 "OvenDays$Table" "columns" "[[I", Cond.fieldLink RX7 14 "OvenDays$Table" "room" "I", Cond.methodLink RX4 28 yX7_get, Cond.instanceMethod yX7_get, Cond.selects RX7 yX7_get yX7_get, Cond.code yX7_get cX7_get 3 (some .int), Cond.methodLink RX4 46 yX4_dueOf, Cond.instanceMethod yX4_dueOf, Cond.selects RX4 yX4_dueOf yX4_dueOf, Cond.initialized RX4, Cond.code yX4_dueOf cX4_dueOf 6 (some .long), Cond.methodLink RX4 32 yX7_sum, Cond.instanceMethod yX7_sum]
def wsX4_nextOne_r2 : List Cond := [Cond.selects RX7 yX7_sum yX7_sum, Cond.code yX7_sum cX7_sum 6 (some .int)]
def wsX4_nextOne : List Cond := .code yX4_nextOne cX4_nextOne 8 (some .int) :: ((wsX4_nextOne_r1 ++ wsX4_nextOne_r2) ++ wsX40 ++ wsX70)
def wsX4_bringWood_r1 : List Cond := [Cond.fieldLink RX4 14 "OvenDays$Households" "rows" "LOvenDays$Table;", Cond.fieldLink RX4 20 "OvenDays$Households" "count" "I", Cond.methodLink RX4 42 yX4_nextOne, Cond.instanceMethod yX4_nextOne, Cond.selects RX4 yX4_nextOne yX4_nextOne, Cond.initialized RX4, Cond.code yX4_nextOne cX4_nextOne 8 (some .int), Cond.methodLink RX4 39 yX7_count, Cond.instanceMethod yX7_count, Cond.selects RX7 yX7_count yX7_count, Cond.initialized RX7, Cond.code yX7_count cX7_count 4 (some .int), Cond.methodLink RX7 18 yX7_countBoth, Cond.instanceMethod yX7_countBoth, Cond.selects RX7 yX7_countBoth yX7_countBoth, Cond.code yX7_countBoth cX7_countBoth 10 (some .int), Cond.fieldLink RX7 9 "OvenDays$Table" "columns" "[[I", Cond.fieldLink RX7 14 "OvenDays$Table" "room" "I", Cond.methodLink RX4 28 yX7_get, Cond.instanceMethod yX7_get, Cond.selects RX7 yX7_get yX7_get, Cond.code yX7_get cX7_get 3 (some .int), Cond.methodLink RX4 46 yX4_dueOf, Cond.instanceMethod yX4_dueOf]
def wsX4_bringWood_r2 : List Cond := [Cond.selects RX4 yX4_dueOf yX4_dueOf, Cond.code yX4_dueOf cX4_dueOf 6 (some .long), Cond.methodLink RX4 32 yX7_sum, Cond.instanceMethod yX7_sum, Cond.selects RX7 yX7_sum yX7_sum, Cond.code yX7_sum cX7_sum 6 (some .int), Cond.methodLink RX4 35 yX7_put, Cond.instanceMethod yX7_put, Cond.selects RX7 yX7_put yX7_put, Cond.code yX7_put cX7_put 4 none]
def wsX4_bringWood : List Cond := .code yX4_bringWood cX4_bringWood 4 none :: ((wsX4_bringWood_r1 ++ wsX4_bringWood_r2) ++ wsX40 ++ wsX70)
def wsX11_contains : List Cond := .code yX11_contains cX11_contains 2 (some .boolean) :: ([])
def wsJ6_bitCount_0f7a4 : List Cond := .code yJ6_bitCount_0f7a4 cJ6_bitCount_0f7a4 1 (some .int) :: ([.constant RJ6 265 (1431655765), .constant RJ6 266 (858993459), .constant RJ6 267 (252645135)])
def wsX4_takerOf : List Cond := .code yX4_takerOf cX4_takerOf 8 (some .int) :: ([.fieldLink RX4 20 "OvenDays$Households" "count" "I", .fieldLink RX4 14 "OvenDays$Households" "rows" "LOvenDays$Table;", .methodLink RX4 28 yX7_get, .instanceMethod yX7_get, .selects RX7 yX7_get yX7_get, .initialized RX7, .code yX7_get cX7_get 3 (some .int), .fieldLink RX7 14 "OvenDays$Table" "room" "I", .fieldLink RX7 9 "OvenDays$Table" "columns" "[[I", .static yX11_contains, .initialized RX11, .code yX11_contains cX11_contains 2 (some .boolean), .methodLink RX4 54 yJ6_bitCount_0f7a4, .static yJ6_bitCount_0f7a4, .initialized RJ6, .code yJ6_bitCount_0f7a4 cJ6_bitCount_0f7a4 1 (some .int), .constant RJ6 265 (1431655765), .constant RJ6 266 (858993459), .constant RJ6 267 (252645135)] ++ wsX40 ++ wsX70)
def wsX4_alike : List Cond := .code yX4_alike cX4_alike 2 (some .boolean) :: ([.static yX11_contains, .initialized RX11, .code yX11_contains cX11_contains 2 (some .boolean)])
def wsX4_likePairs : List Cond := .code yX4_likePairs cX4_likePairs 4 (some .int) :: ([.fieldLink RX4 20 "OvenDays$Households" "count" "I", .fieldLink RX4 14 "OvenDays$Households" "rows" "LOvenDays$Table;", .methodLink RX4 28 yX7_get, .instanceMethod yX7_get, .selects RX7 yX7_get yX7_get, .initialized RX7, .code yX7_get cX7_get 3 (some .int), .fieldLink RX7 14 "OvenDays$Table" "room" "I", .fieldLink RX7 9 "OvenDays$Table" "columns" "[[I", .methodLink RX4 60 yX4_alike, .static yX4_alike, .initialized RX4, .code yX4_alike cX4_alike 2 (some .boolean), .static yX11_contains, .initialized RX11, .code yX11_contains cX11_contains 2 (some .boolean)] ++ wsX40 ++ wsX70)
def wsX4_hasLike : List Cond := .code yX4_hasLike cX4_hasLike 3 (some .boolean) :: ([.fieldLink RX4 20 "OvenDays$Households" "count" "I", .fieldLink RX4 14 "OvenDays$Households" "rows" "LOvenDays$Table;", .methodLink RX4 28 yX7_get, .instanceMethod yX7_get, .selects RX7 yX7_get yX7_get, .initialized RX7, .code yX7_get cX7_get 3 (some .int), .fieldLink RX7 14 "OvenDays$Table" "room" "I", .fieldLink RX7 9 "OvenDays$Table" "columns" "[[I", .methodLink RX4 60 yX4_alike, .static yX4_alike, .initialized RX4, .code yX4_alike cX4_alike 2 (some .boolean), .static yX11_contains, .initialized RX11, .code yX11_contains cX11_contains 2 (some .boolean)] ++ wsX40 ++ wsX70)
def wsX5_copyFrom : List Cond := .code yX5_copyFrom cX5_copyFrom 2 none :: ([.fieldLink RX5 14 "OvenDays$Loads" "rows" "LOvenDays$Table;", .fieldLink RX5 20 "OvenDays$Loads" "count" "I", .methodLink RX5 24 yX7_copyFrom, .instanceMethod yX7_copyFrom, .selects RX7 yX7_copyFrom yX7_copyFrom, .initialized RX7, .code yX7_copyFrom cX7_copyFrom 4 none, .fieldLink RX7 14 "OvenDays$Table" "room" "I", .fieldLink RX7 9 "OvenDays$Table" "columns" "[[I", .methodLink RX7 22 arraycopyName, .native arraycopyName, .static arraycopyName, .initialized "java/lang/System"] ++ wsX50 ++ wsX70)
def wsX5_value : List Cond := .code yX5_value cX5_value 3 (some .int) :: ([.fieldLink RX5 14 "OvenDays$Loads" "rows" "LOvenDays$Table;", .methodLink RX5 28 yX7_get, .instanceMethod yX7_get, .selects RX7 yX7_get yX7_get, .initialized RX7, .code yX7_get cX7_get 3 (some .int), .fieldLink RX7 14 "OvenDays$Table" "room" "I", .fieldLink RX7 9 "OvenDays$Table" "columns" "[[I"] ++ wsX50 ++ wsX70)
def wsX6_init : List Cond := .code yX6_init cX6_init 1 none :: ([.methodLink RX6 3 objectInit, .instanceMethod objectInit, .code objectInit ⟨#[0xb1]⟩ 1 none, .classLink RX6 9 RX7, .instantiable RX7 2, .initialized RX7, .fieldLink RX6 16 "OvenDays$Loaves" "rows" "LOvenDays$Table;", .methodLink RX6 13 yX7_init, .instanceMethod yX7_init, .code yX7_init cX7_init 3 none, .methodLink RX7 1 objectInit, .classLink RX7 7 "[[I", .arrayClass .int, .fieldLink RX7 9 "OvenDays$Table" "columns" "[[I", .fieldLink RX7 14 "OvenDays$Table" "room" "I"] ++ wsX70 ++ wsX60)
def wsX6_kept : List Cond := .code yX6_kept cX6_kept 1 (some .int) :: ([.fieldLink RX6 28 "OvenDays$Loaves" "cameOut" "I", .methodLink RX6 35 Lib.Math.min.name, .static Lib.Math.min.name, .initialized "java/lang/Math", .code Lib.Math.min.name Lib.Math.min.code 2 (some .int)] ++ wsX60)
def wsX6_copyFrom : List Cond := .code yX6_copyFrom cX6_copyFrom 2 none :: ([.fieldLink RX6 16 "OvenDays$Loaves" "rows" "LOvenDays$Table;", .fieldLink RX6 28 "OvenDays$Loaves" "cameOut" "I", .fieldLink RX6 32 "OvenDays$Loaves" "pale" "I", .methodLink RX6 20 yX6_kept, .instanceMethod yX6_kept, .selects RX6 yX6_kept yX6_kept, .initialized RX6, .code yX6_kept cX6_kept 1 (some .int), .methodLink RX6 35 Lib.Math.min.name, .static Lib.Math.min.name, .initialized "java/lang/Math", .code Lib.Math.min.name Lib.Math.min.code 2 (some .int), .methodLink RX6 24 yX7_copyFrom, .instanceMethod yX7_copyFrom, .selects RX7 yX7_copyFrom yX7_copyFrom, .initialized RX7, .code yX7_copyFrom cX7_copyFrom 4 none, .fieldLink RX7 14 "OvenDays$Table" "room" "I", .fieldLink RX7 9 "OvenDays$Table" "columns" "[[I", .methodLink RX7 22 arraycopyName, .native arraycopyName, .static arraycopyName, .initialized "java/lang/System"] ++ wsX60 ++ wsX70)
def wsX6_cameOut : List Cond := .code yX6_cameOut cX6_cameOut 1 (some .int) :: ([.fieldLink RX6 28 "OvenDays$Loaves" "cameOut" "I"] ++ wsX60)
def wsX6_pale : List Cond := .code yX6_pale cX6_pale 1 (some .int) :: ([.fieldLink RX6 32 "OvenDays$Loaves" "pale" "I"] ++ wsX60)
def wsX6_firstKept : List Cond := .code yX6_firstKept cX6_firstKept 1 (some .int) :: ([.fieldLink RX6 28 "OvenDays$Loaves" "cameOut" "I", .methodLink RX6 20 yX6_kept, .instanceMethod yX6_kept, .selects RX6 yX6_kept yX6_kept, .initialized RX6, .code yX6_kept cX6_kept 1 (some .int), .methodLink RX6 35 Lib.Math.min.name, .static Lib.Math.min.name, .initialized "java/lang/Math", .code Lib.Math.min.name Lib.Math.min.code 2 (some .int)] ++ wsX60)
def wsX6_keeps : List Cond := .code yX6_keeps cX6_keeps 2 (some .boolean) :: ([.fieldLink RX6 28 "OvenDays$Loaves" "cameOut" "I", .methodLink RX6 41 yX6_firstKept, .instanceMethod yX6_firstKept, .selects RX6 yX6_firstKept yX6_firstKept, .initialized RX6, .code yX6_firstKept cX6_firstKept 1 (some .int), .methodLink RX6 20 yX6_kept, .instanceMethod yX6_kept, .selects RX6 yX6_kept yX6_kept, .code yX6_kept cX6_kept 1 (some .int), .methodLink RX6 35 Lib.Math.min.name, .static Lib.Math.min.name, .initialized "java/lang/Math", .code Lib.Math.min.name Lib.Math.min.code 2 (some .int)] ++ wsX60)
def wsX6_value : List Cond := .code yX6_value cX6_value 3 (some .int) :: ([.fieldLink RX6 16 "OvenDays$Loaves" "rows" "LOvenDays$Table;", .methodLink RX6 44 yX7_get, .instanceMethod yX7_get, .selects RX7 yX7_get yX7_get, .initialized RX7, .code yX7_get cX7_get 3 (some .int), .fieldLink RX7 14 "OvenDays$Table" "room" "I", .fieldLink RX7 9 "OvenDays$Table" "columns" "[[I"] ++ wsX60 ++ wsX70)
def wsX6_give : List Cond := .code yX6_give cX6_give 3 none :: ([.fieldLink RX6 16 "OvenDays$Loaves" "rows" "LOvenDays$Table;", .methodLink RX6 47 yX7_put, .instanceMethod yX7_put, .selects RX7 yX7_put yX7_put, .initialized RX7, .code yX7_put cX7_put 4 none, .fieldLink RX7 14 "OvenDays$Table" "room" "I", .fieldLink RX7 9 "OvenDays$Table" "columns" "[[I"] ++ wsX60 ++ wsX70)
def wsX6_add : List Cond := .code yX6_add cX6_add 8 none :: ([.fieldLink RX6 28 "OvenDays$Loaves" "cameOut" "I", .fieldLink RX6 16 "OvenDays$Loaves" "rows" "LOvenDays$Table;", .fieldLink RX6 32 "OvenDays$Loaves" "pale" "I", .methodLink RX6 47 yX7_put, .instanceMethod yX7_put, .selects RX7 yX7_put yX7_put, .initialized RX7, .code yX7_put cX7_put 4 none, .fieldLink RX7 14 "OvenDays$Table" "room" "I", .fieldLink RX7 9 "OvenDays$Table" "columns" "[[I", .methodLink RX6 51 yJ6_bitCount_0f7a4, .static yJ6_bitCount_0f7a4, .initialized RJ6, .code yJ6_bitCount_0f7a4 cJ6_bitCount_0f7a4 1 (some .int), .constant RJ6 265 (1431655765), .constant RJ6 266 (858993459), .constant RJ6 267 (252645135)] ++ wsX60 ++ wsX70)
def wsX6_sortFrom_r1 : List Cond := [Cond.methodLink RX6 57 Lib.Math.max.name, Cond.static Lib.Math.max.name, Cond.initialized "java/lang/Math", Cond.code Lib.Math.max.name Lib.Math.max.code 2 (some .int), Cond.fieldLink RX6 28 "OvenDays$Loaves" "cameOut" "I", Cond.methodLink RX6 41 yX6_firstKept, Cond.instanceMethod yX6_firstKept, Cond.selects RX6 yX6_firstKept yX6_firstKept, Cond.initialized RX6, Cond.code yX6_firstKept cX6_firstKept 1 (some .int), Cond.methodLink RX6 20 yX6_kept, Cond.instanceMethod yX6_kept, Cond.selects RX6 yX6_kept yX6_kept, Cond.code yX6_kept cX6_kept 1 (some .int), Cond.methodLink RX6 35 Lib.Math.min.name, Cond.static Lib.Math.min.name, Cond.code Lib.Math.min.name Lib.Math.min.code 2 (some .int), Cond.methodLink RX6 60 yX6_value, Cond.instanceMethod yX6_value, Cond.selects RX6 yX6_value yX6_value, Cond.code yX6_value cX6_value 3 (some .int), Cond.fieldLink RX6 16 "OvenDays$Loaves" "rows" "LOvenDays$Table;", Cond.methodLink RX6 44 yX7_get, Cond.instanceMethod yX7_get]
def wsX6_sortFrom_r2 : List Cond := [Cond.selects RX7 yX7_get yX7_get, Cond.initialized RX7, Cond.code yX7_get cX7_get 3 (some .int), Cond.fieldLink RX7 14 "OvenDays$Table" "room" "I", Cond.fieldLink RX7 9 "OvenDays$Table" "columns" "[[I", Cond.methodLink RX6 63 yX4_takerOf, Cond.instanceMethod yX4_takerOf, Cond.selects RX4 yX4_takerOf yX4_takerOf, Cond.initialized RX4, Cond.code yX4_takerOf cX4_takerOf 8 (some .int), Cond.fieldLink RX4 20 "OvenDays$Households" "count" "I", Cond.fieldLink RX4 14 "OvenDays$Households" "rows" "LOvenDays$Table;", Cond.methodLink RX4 28 yX7_get, Cond.static yX11_contains, Cond.initialized RX11, Cond.code yX11_contains cX11_contains 2 (some .boolean), Cond.methodLink RX4 54 yJ6_bitCount_0f7a4, Cond.static yJ6_bitCount_0f7a4, Cond.initialized RJ6, Cond.code yJ6_bitCount_0f7a4 cJ6_bitCount_0f7a4 1 (some .int), Cond.constant RJ6 265 (1431655765), Cond.constant RJ6 266 (858993459), Cond.constant RJ6 267 (252645135), Cond.methodLink RX6 68 yX6_give]
def wsX6_sortFrom_r3 : List Cond := [Cond.instanceMethod yX6_give, Cond.selects RX6 yX6_give yX6_give, Cond.code yX6_give cX6_give 3 none, Cond.methodLink RX6 47 yX7_put, Cond.instanceMethod yX7_put, Cond.selects RX7 yX7_put yX7_put, Cond.code yX7_put cX7_put 4 none]
def wsX6_sortFrom : List Cond := .code yX6_sortFrom cX6_sortFrom 5 none :: ((wsX6_sortFrom_r1 ++ (wsX6_sortFrom_r2 ++ wsX6_sortFrom_r3)) ++ wsX60 ++ wsX70 ++ wsX40)
def wsX6_countWith : List Cond := .code yX6_countWith cX6_countWith 3 (some .int) :: ([.fieldLink RX6 16 "OvenDays$Loaves" "rows" "LOvenDays$Table;", .methodLink RX6 20 yX6_kept, .instanceMethod yX6_kept, .selects RX6 yX6_kept yX6_kept, .initialized RX6, .code yX6_kept cX6_kept 1 (some .int), .fieldLink RX6 28 "OvenDays$Loaves" "cameOut" "I", .methodLink RX6 35 Lib.Math.min.name, .static Lib.Math.min.name, .initialized "java/lang/Math", .code Lib.Math.min.name Lib.Math.min.code 2 (some .int), .methodLink RX6 71 yX7_count, .instanceMethod yX7_count, .selects RX7 yX7_count yX7_count, .initialized RX7, .code yX7_count cX7_count 4 (some .int), .methodLink RX7 18 yX7_countBoth, .instanceMethod yX7_countBoth, .selects RX7 yX7_countBoth yX7_countBoth, .code yX7_countBoth cX7_countBoth 10 (some .int), .fieldLink RX7 9 "OvenDays$Table" "columns" "[[I", .fieldLink RX7 14 "OvenDays$Table" "room" "I"] ++ wsX60 ++ wsX70)
def wsX6_countWithBoth : List Cond := .code yX6_countWithBoth cX6_countWithBoth 5 (some .int) :: ([.fieldLink RX6 16 "OvenDays$Loaves" "rows" "LOvenDays$Table;", .methodLink RX6 20 yX6_kept, .instanceMethod yX6_kept, .selects RX6 yX6_kept yX6_kept, .initialized RX6, .code yX6_kept cX6_kept 1 (some .int), .fieldLink RX6 28 "OvenDays$Loaves" "cameOut" "I", .methodLink RX6 35 Lib.Math.min.name, .static Lib.Math.min.name, .initialized "java/lang/Math", .code Lib.Math.min.name Lib.Math.min.code 2 (some .int), .methodLink RX6 75 yX7_countBoth, .instanceMethod yX7_countBoth, .selects RX7 yX7_countBoth yX7_countBoth, .initialized RX7, .code yX7_countBoth cX7_countBoth 10 (some .int), .fieldLink RX7 9 "OvenDays$Table" "columns" "[[I", .fieldLink RX7 14 "OvenDays$Table" "room" "I"] ++ wsX60 ++ wsX70)
def wsX6_countWithOthers : List Cond := .code yX6_countWithOthers cX6_countWithOthers 4 (some .int) :: ([.fieldLink RX6 16 "OvenDays$Loaves" "rows" "LOvenDays$Table;", .methodLink RX6 20 yX6_kept, .instanceMethod yX6_kept, .selects RX6 yX6_kept yX6_kept, .initialized RX6, .code yX6_kept cX6_kept 1 (some .int), .fieldLink RX6 28 "OvenDays$Loaves" "cameOut" "I", .methodLink RX6 35 Lib.Math.min.name, .static Lib.Math.min.name, .initialized "java/lang/Math", .code Lib.Math.min.name Lib.Math.min.code 2 (some .int), .methodLink RX6 44 yX7_get, .instanceMethod yX7_get, .selects RX7 yX7_get yX7_get, .initialized RX7, .code yX7_get cX7_get 3 (some .int), .fieldLink RX7 14 "OvenDays$Table" "room" "I", .fieldLink RX7 9 "OvenDays$Table" "columns" "[[I"] ++ wsX60 ++ wsX70)
def wsX6_balanceOf : List Cond := .code yX6_balanceOf cX6_balanceOf 3 (some .int) :: ([.methodLink RX6 79 yX6_countWithBoth, .instanceMethod yX6_countWithBoth, .selects RX6 yX6_countWithBoth yX6_countWithBoth, .initialized RX6, .code yX6_countWithBoth cX6_countWithBoth 5 (some .int), .fieldLink RX6 16 "OvenDays$Loaves" "rows" "LOvenDays$Table;", .methodLink RX6 20 yX6_kept, .instanceMethod yX6_kept, .selects RX6 yX6_kept yX6_kept, .code yX6_kept cX6_kept 1 (some .int), .fieldLink RX6 28 "OvenDays$Loaves" "cameOut" "I", .methodLink RX6 35 Lib.Math.min.name, .static Lib.Math.min.name, .initialized "java/lang/Math", .code Lib.Math.min.name Lib.Math.min.code 2 (some .int), .methodLink RX6 75 yX7_countBoth, .instanceMethod yX7_countBoth, .selects RX7 yX7_countBoth yX7_countBoth, .initialized RX7, .code yX7_countBoth cX7_countBoth 10 (some .int), .fieldLink RX7 9 "OvenDays$Table" "columns" "[[I", .fieldLink RX7 14 "OvenDays$Table" "room" "I"] ++ wsX60 ++ wsX70)
def wsX6_moveFromShelf_r1 : List Cond := [Cond.fieldLink RX6 28 "OvenDays$Loaves" "cameOut" "I", Cond.methodLink RX6 83 yX6_balanceOf, Cond.instanceMethod yX6_balanceOf, Cond.selects RX6 yX6_balanceOf yX6_balanceOf, Cond.initialized RX6, Cond.code yX6_balanceOf cX6_balanceOf 3 (some .int), Cond.methodLink RX6 79 yX6_countWithBoth, Cond.instanceMethod yX6_countWithBoth, Cond.selects RX6 yX6_countWithBoth yX6_countWithBoth, Cond.code yX6_countWithBoth cX6_countWithBoth 5 (some .int), Cond.fieldLink RX6 16 "OvenDays$Loaves" "rows" "LOvenDays$Table;", Cond.methodLink RX6 20 yX6_kept, Cond.instanceMethod yX6_kept, Cond.selects RX6 yX6_kept yX6_kept, Cond.code yX6_kept cX6_kept 1 (some .int), Cond.methodLink RX6 35 Lib.Math.min.name, Cond.static Lib.Math.min.name, Cond.initialized "java/lang/Math", Cond.code Lib.Math.min.name Lib.Math.min.code 2 (some .int), Cond.methodLink RX6 75 yX7_countBoth, Cond.instanceMethod yX7_countBoth, Cond.selects RX7 yX7_countBoth yX7_countBoth, Cond.initialized RX7, Cond.code yX7_countBoth cX7_countBoth 10 (some .int)]
def wsX6_moveFromShelf_r2 : List Cond := [Cond.fieldLink RX7 9 "OvenDays$Table" "columns" "[[I", Cond.fieldLink RX7 14 "OvenDays$Table" "room" "I", Cond.methodLink RX6 41 yX6_firstKept, Cond.instanceMethod yX6_firstKept, Cond.selects RX6 yX6_firstKept yX6_firstKept, Cond.code yX6_firstKept cX6_firstKept 1 (some .int), Cond.methodLink RX6 60 yX6_value, Cond.instanceMethod yX6_value, Cond.selects RX6 yX6_value yX6_value, Cond.code yX6_value cX6_value 3 (some .int), Cond.methodLink RX6 44 yX7_get, Cond.instanceMethod yX7_get, Cond.selects RX7 yX7_get yX7_get, Cond.code yX7_get cX7_get 3 (some .int), Cond.static yX11_contains, Cond.initialized RX11, Cond.code yX11_contains cX11_contains 2 (some .boolean), Cond.methodLink RX6 68 yX6_give, Cond.instanceMethod yX6_give, Cond.selects RX6 yX6_give yX6_give, Cond.code yX6_give cX6_give 3 none, Cond.methodLink RX6 47 yX7_put, Cond.instanceMethod yX7_put, Cond.selects RX7 yX7_put yX7_put]
def wsX6_moveFromShelf_r3 : List Cond := [Cond.code yX7_put cX7_put 4 none]
def wsX6_moveFromShelf : List Cond := .code yX6_moveFromShelf cX6_moveFromShelf 7 (some .int) :: ((wsX6_moveFromShelf_r1 ++ (wsX6_moveFromShelf_r2 ++ wsX6_moveFromShelf_r3)) ++ wsX60 ++ wsX70)
def wsX6_moveToShelf_r1 : List Cond := [Cond.fieldLink RX6 28 "OvenDays$Loaves" "cameOut" "I", Cond.methodLink RX6 83 yX6_balanceOf, Cond.instanceMethod yX6_balanceOf, Cond.selects RX6 yX6_balanceOf yX6_balanceOf, Cond.initialized RX6, Cond.code yX6_balanceOf cX6_balanceOf 3 (some .int), Cond.methodLink RX6 79 yX6_countWithBoth, Cond.instanceMethod yX6_countWithBoth, Cond.selects RX6 yX6_countWithBoth yX6_countWithBoth, Cond.code yX6_countWithBoth cX6_countWithBoth 5 (some .int), Cond.fieldLink RX6 16 "OvenDays$Loaves" "rows" "LOvenDays$Table;", Cond.methodLink RX6 20 yX6_kept, Cond.instanceMethod yX6_kept, Cond.selects RX6 yX6_kept yX6_kept, Cond.code yX6_kept cX6_kept 1 (some .int), Cond.methodLink RX6 35 Lib.Math.min.name, Cond.static Lib.Math.min.name, Cond.initialized "java/lang/Math", Cond.code Lib.Math.min.name Lib.Math.min.code 2 (some .int), Cond.methodLink RX6 75 yX7_countBoth, Cond.instanceMethod yX7_countBoth, Cond.selects RX7 yX7_countBoth yX7_countBoth, Cond.initialized RX7, Cond.code yX7_countBoth cX7_countBoth 10 (some .int)]
def wsX6_moveToShelf_r2 : List Cond := [Cond.fieldLink RX7 9 "OvenDays$Table" "columns" "[[I", Cond.fieldLink RX7 14 "OvenDays$Table" "room" "I", Cond.methodLink RX6 41 yX6_firstKept, Cond.instanceMethod yX6_firstKept, Cond.selects RX6 yX6_firstKept yX6_firstKept, Cond.code yX6_firstKept cX6_firstKept 1 (some .int), Cond.methodLink RX6 60 yX6_value, Cond.instanceMethod yX6_value, Cond.selects RX6 yX6_value yX6_value, Cond.code yX6_value cX6_value 3 (some .int), Cond.methodLink RX6 44 yX7_get, Cond.instanceMethod yX7_get, Cond.selects RX7 yX7_get yX7_get, Cond.code yX7_get cX7_get 3 (some .int), Cond.methodLink RX6 68 yX6_give, Cond.instanceMethod yX6_give, Cond.selects RX6 yX6_give yX6_give, Cond.code yX6_give cX6_give 3 none, Cond.methodLink RX6 47 yX7_put, Cond.instanceMethod yX7_put, Cond.selects RX7 yX7_put yX7_put, Cond.code yX7_put cX7_put 4 none]
def wsX6_moveToShelf : List Cond := .code yX6_moveToShelf cX6_moveToShelf 6 (some .int) :: ((wsX6_moveToShelf_r1 ++ wsX6_moveToShelf_r2) ++ wsX60 ++ wsX70)
def wsX6_emptyShelf : List Cond := .code yX6_emptyShelf cX6_emptyShelf 3 (some .int) :: ([.fieldLink RX6 16 "OvenDays$Loaves" "rows" "LOvenDays$Table;", .methodLink RX6 20 yX6_kept, .instanceMethod yX6_kept, .selects RX6 yX6_kept yX6_kept, .initialized RX6, .code yX6_kept cX6_kept 1 (some .int), .fieldLink RX6 28 "OvenDays$Loaves" "cameOut" "I", .methodLink RX6 35 Lib.Math.min.name, .static Lib.Math.min.name, .initialized "java/lang/Math", .code Lib.Math.min.name Lib.Math.min.code 2 (some .int), .methodLink RX6 44 yX7_get, .instanceMethod yX7_get, .selects RX7 yX7_get yX7_get, .initialized RX7, .code yX7_get cX7_get 3 (some .int), .fieldLink RX7 14 "OvenDays$Table" "room" "I", .fieldLink RX7 9 "OvenDays$Table" "columns" "[[I", .methodLink RX6 47 yX7_put, .instanceMethod yX7_put, .selects RX7 yX7_put yX7_put, .code yX7_put cX7_put 4 none] ++ wsX60 ++ wsX70)
def wsX9_init_r1 : List Cond := [Cond.methodLink RX9 3 objectInit, Cond.instanceMethod objectInit, Cond.code objectInit ⟨#[0xb1]⟩ 1 none, Cond.classLink RX9 9 RX4, Cond.instantiable RX4 2, Cond.initialized RX4, Cond.fieldLink RX9 12 "OvenDays$Village" "households" "LOvenDays$Households;", Cond.classLink RX9 18 RX1, Cond.instantiable RX1 2, Cond.initialized RX1, Cond.fieldLink RX9 21 "OvenDays$Village" "batches" "LOvenDays$Batches;", Cond.classLink RX9 25 RX5, Cond.instantiable RX5 2, Cond.initialized RX5, Cond.fieldLink RX9 28 "OvenDays$Village" "loads" "LOvenDays$Loads;", Cond.classLink RX9 32 RX6, Cond.instantiable RX6 3, Cond.initialized RX6, Cond.fieldLink RX9 35 "OvenDays$Village" "loaves" "LOvenDays$Loaves;", Cond.fieldLink RX9 39 "OvenDays$Village" "heat" "I", Cond.fieldLink RX9 43 "OvenDays$Village" "s" "I", Cond.instanceMethod yX4_init, Cond.code yX4_init cX4_init 1 none, Cond.methodLink RX4 3 objectInit]
def wsX9_init_r2 : List Cond := [Cond.classLink RX4 9 RX7, Cond.instantiable RX7 2, Cond.initialized RX7, Cond.fieldLink RX4 14 "OvenDays$Households" "rows" "LOvenDays$Table;", Cond.methodLink RX4 11 yX7_init, Cond.instanceMethod yX7_init, Cond.code yX7_init cX7_init 3 none, Cond.methodLink RX7 1 objectInit, Cond.classLink RX7 7 "[[I", Cond.arrayClass .int, Cond.fieldLink RX7 9 "OvenDays$Table" "columns" "[[I", Cond.fieldLink RX7 14 "OvenDays$Table" "room" "I", Cond.instanceMethod yX1_init, Cond.code yX1_init cX1_init 1 none, Cond.methodLink RX1 3 objectInit, Cond.classLink RX1 9 RX7, Cond.fieldLink RX1 14 "OvenDays$Batches" "rows" "LOvenDays$Table;", Cond.methodLink RX1 11 yX7_init, Cond.instanceMethod yX5_init, Cond.code yX5_init cX5_init 1 none, Cond.methodLink RX5 3 objectInit, Cond.classLink RX5 9 RX7, Cond.fieldLink RX5 14 "OvenDays$Loads" "rows" "LOvenDays$Table;", Cond.methodLink RX5 11 yX7_init]
def wsX9_init_r3 : List Cond := [Cond.instanceMethod yX6_init, Cond.code yX6_init cX6_init 1 none, Cond.methodLink RX6 3 objectInit, Cond.classLink RX6 9 RX7, Cond.fieldLink RX6 16 "OvenDays$Loaves" "rows" "LOvenDays$Table;", Cond.methodLink RX6 13 yX7_init]
def wsX9_init : List Cond := .code yX9_init cX9_init 1 none :: ((wsX9_init_r1 ++ (wsX9_init_r2 ++ wsX9_init_r3)) ++ wsX40 ++ wsX90 ++ wsX10 ++ wsX50 ++ wsX60 ++ wsX70)
def wsX8_init_r1 : List Cond := [Cond.methodLink RX8 1 objectInit, Cond.instanceMethod objectInit, Cond.code objectInit ⟨#[0xb1]⟩ 1 none, Cond.classLink RX8 9 RX9, Cond.fieldLink RX8 11 "OvenDays$UndoStack" "states" "[LOvenDays$Village;", Cond.instantiable RX9 8, Cond.initialized RX9, Cond.instanceMethod yX9_init, Cond.code yX9_init cX9_init 1 none, Cond.methodLink RX9 3 objectInit, Cond.classLink RX9 9 RX4, Cond.instantiable RX4 2, Cond.initialized RX4, Cond.fieldLink RX9 12 "OvenDays$Village" "households" "LOvenDays$Households;", Cond.classLink RX9 18 RX1, Cond.instantiable RX1 2, Cond.initialized RX1, Cond.fieldLink RX9 21 "OvenDays$Village" "batches" "LOvenDays$Batches;", Cond.classLink RX9 25 RX5, Cond.instantiable RX5 2, Cond.initialized RX5, Cond.fieldLink RX9 28 "OvenDays$Village" "loads" "LOvenDays$Loads;", Cond.classLink RX9 32 RX6, Cond.instantiable RX6 3]
def wsX8_init_r2 : List Cond := [Cond.initialized RX6, Cond.fieldLink RX9 35 "OvenDays$Village" "loaves" "LOvenDays$Loaves;", Cond.fieldLink RX9 39 "OvenDays$Village" "heat" "I", Cond.fieldLink RX9 43 "OvenDays$Village" "s" "I", Cond.instanceMethod yX4_init, Cond.code yX4_init cX4_init 1 none, Cond.methodLink RX4 3 objectInit, Cond.classLink RX4 9 RX7, Cond.instantiable RX7 2, Cond.initialized RX7, Cond.fieldLink RX4 14 "OvenDays$Households" "rows" "LOvenDays$Table;", Cond.methodLink RX4 11 yX7_init, Cond.instanceMethod yX7_init, Cond.code yX7_init cX7_init 3 none, Cond.methodLink RX7 1 objectInit, Cond.classLink RX7 7 "[[I", Cond.arrayClass .int, Cond.fieldLink RX7 9 "OvenDays$Table" "columns" "[[I", Cond.fieldLink RX7 14 "OvenDays$Table" "room" "I", Cond.instanceMethod yX1_init, Cond.code yX1_init cX1_init 1 none, Cond.methodLink RX1 3 objectInit, Cond.classLink RX1 9 RX7, Cond.fieldLink RX1 14 "OvenDays$Batches" "rows" "LOvenDays$Table;"]
def wsX8_init_r3 : List Cond := [Cond.methodLink RX1 11 yX7_init, Cond.instanceMethod yX5_init, Cond.code yX5_init cX5_init 1 none, Cond.methodLink RX5 3 objectInit, Cond.classLink RX5 9 RX7, Cond.fieldLink RX5 14 "OvenDays$Loads" "rows" "LOvenDays$Table;", Cond.methodLink RX5 11 yX7_init, Cond.instanceMethod yX6_init, Cond.code yX6_init cX6_init 1 none, Cond.methodLink RX6 3 objectInit, Cond.classLink RX6 9 RX7, Cond.fieldLink RX6 16 "OvenDays$Loaves" "rows" "LOvenDays$Table;", Cond.methodLink RX6 13 yX7_init]
def wsX8_init : List Cond := .code yX8_init cX8_init 2 none :: ((wsX8_init_r1 ++ (wsX8_init_r2 ++ wsX8_init_r3)) ++ wsX80 ++ wsX90 ++ wsX40 ++ wsX10 ++ wsX50 ++ wsX60 ++ wsX70)
def wsX8_size : List Cond := .code yX8_size cX8_size 1 (some .int) :: ([.fieldLink RX8 16 "OvenDays$UndoStack" "count" "I"] ++ wsX80)
def wsX8_stateAt : List Cond := .code yX8_stateAt cX8_stateAt 2 (some (.object "OvenDays$Village")) :: ([.fieldLink RX8 11 "OvenDays$UndoStack" "states" "[LOvenDays$Village;"] ++ wsX80)
def wsX9_copyFrom_r1 : List Cond := [Cond.fieldLink RX9 12 "OvenDays$Village" "households" "LOvenDays$Households;", Cond.fieldLink RX9 21 "OvenDays$Village" "batches" "LOvenDays$Batches;", Cond.fieldLink RX9 28 "OvenDays$Village" "loads" "LOvenDays$Loads;", Cond.fieldLink RX9 35 "OvenDays$Village" "loaves" "LOvenDays$Loaves;", Cond.fieldLink RX9 39 "OvenDays$Village" "heat" "I", Cond.fieldLink RX9 43 "OvenDays$Village" "s" "I", Cond.fieldLink RX9 59 "OvenDays$Village" "days" "I", Cond.fieldLink RX9 62 "OvenDays$Village" "dough" "I", Cond.methodLink RX9 46 yX4_copyFrom, Cond.instanceMethod yX4_copyFrom, Cond.selects RX4 yX4_copyFrom yX4_copyFrom, Cond.initialized RX4, Cond.code yX4_copyFrom cX4_copyFrom 2 none, Cond.fieldLink RX4 14 "OvenDays$Households" "rows" "LOvenDays$Table;", Cond.fieldLink RX4 20 "OvenDays$Households" "count" "I", Cond.methodLink RX4 24 yX7_copyFrom, Cond.instanceMethod yX7_copyFrom, Cond.selects RX7 yX7_copyFrom yX7_copyFrom, Cond.initialized RX7, Cond.code yX7_copyFrom cX7_copyFrom 4 none, Cond.fieldLink RX7 14 "OvenDays$Table" "room" "I", Cond.fieldLink RX7 9 "OvenDays$Table" "columns" "[[I", Cond.methodLink RX7 22 arraycopyName, Cond.native arraycopyName]
def wsX9_copyFrom_r2 : List Cond := [Cond.static arraycopyName, Cond.initialized "java/lang/System", Cond.methodLink RX9 50 yX1_copyFrom, Cond.instanceMethod yX1_copyFrom, Cond.selects RX1 yX1_copyFrom yX1_copyFrom, Cond.initialized RX1, Cond.code yX1_copyFrom cX1_copyFrom 2 none, Cond.fieldLink RX1 14 "OvenDays$Batches" "rows" "LOvenDays$Table;", Cond.fieldLink RX1 20 "OvenDays$Batches" "count" "I", Cond.methodLink RX1 24 yX7_copyFrom, Cond.methodLink RX9 53 yX5_copyFrom, Cond.instanceMethod yX5_copyFrom, Cond.selects RX5 yX5_copyFrom yX5_copyFrom, Cond.initialized RX5, Cond.code yX5_copyFrom cX5_copyFrom 2 none, Cond.fieldLink RX5 14 "OvenDays$Loads" "rows" "LOvenDays$Table;", Cond.fieldLink RX5 20 "OvenDays$Loads" "count" "I", Cond.methodLink RX5 24 yX7_copyFrom, Cond.methodLink RX9 56 yX6_copyFrom, Cond.instanceMethod yX6_copyFrom, Cond.selects RX6 yX6_copyFrom yX6_copyFrom, Cond.initialized RX6, Cond.code yX6_copyFrom cX6_copyFrom 2 none, Cond.fieldLink RX6 16 "OvenDays$Loaves" "rows" "LOvenDays$Table;"]
def wsX9_copyFrom_r3 : List Cond := [Cond.fieldLink RX6 28 "OvenDays$Loaves" "cameOut" "I", Cond.fieldLink RX6 32 "OvenDays$Loaves" "pale" "I", Cond.methodLink RX6 20 yX6_kept, Cond.instanceMethod yX6_kept, Cond.selects RX6 yX6_kept yX6_kept, Cond.code yX6_kept cX6_kept 1 (some .int), Cond.methodLink RX6 35 Lib.Math.min.name, Cond.static Lib.Math.min.name, Cond.initialized "java/lang/Math", Cond.code Lib.Math.min.name Lib.Math.min.code 2 (some .int), Cond.methodLink RX6 24 yX7_copyFrom]
def wsX9_copyFrom : List Cond := .code yX9_copyFrom cX9_copyFrom 2 none :: ((wsX9_copyFrom_r1 ++ (wsX9_copyFrom_r2 ++ wsX9_copyFrom_r3)) ++ wsX90 ++ wsX40 ++ wsX70 ++ wsX10 ++ wsX50 ++ wsX60)
def wsX8_push_r1 : List Cond := [Cond.fieldLink RX8 20 "OvenDays$UndoStack" "latest" "I", Cond.fieldLink RX8 16 "OvenDays$UndoStack" "count" "I", Cond.methodLink RX8 31 Lib.Math.min.name, Cond.static Lib.Math.min.name, Cond.initialized "java/lang/Math", Cond.code Lib.Math.min.name Lib.Math.min.code 2 (some .int), Cond.methodLink RX8 23 yX8_stateAt, Cond.instanceMethod yX8_stateAt, Cond.selects RX8 yX8_stateAt yX8_stateAt, Cond.initialized RX8, Cond.code yX8_stateAt cX8_stateAt 2 (some (.object "OvenDays$Village")), Cond.fieldLink RX8 11 "OvenDays$UndoStack" "states" "[LOvenDays$Village;", Cond.methodLink RX8 27 yX9_copyFrom, Cond.instanceMethod yX9_copyFrom, Cond.selects RX9 yX9_copyFrom yX9_copyFrom, Cond.initialized RX9, Cond.code yX9_copyFrom cX9_copyFrom 2 none, Cond.fieldLink RX9 12 "OvenDays$Village" "households" "LOvenDays$Households;", Cond.fieldLink RX9 21 "OvenDays$Village" "batches" "LOvenDays$Batches;", Cond.fieldLink RX9 28 "OvenDays$Village" "loads" "LOvenDays$Loads;", Cond.fieldLink RX9 35 "OvenDays$Village" "loaves" "LOvenDays$Loaves;", Cond.fieldLink RX9 39 "OvenDays$Village" "heat" "I", Cond.fieldLink RX9 43 "OvenDays$Village" "s" "I", Cond.fieldLink RX9 59 "OvenDays$Village" "days" "I"]
def wsX8_push_r2 : List Cond := [Cond.fieldLink RX9 62 "OvenDays$Village" "dough" "I", Cond.methodLink RX9 46 yX4_copyFrom, Cond.instanceMethod yX4_copyFrom, Cond.selects RX4 yX4_copyFrom yX4_copyFrom, Cond.initialized RX4, Cond.code yX4_copyFrom cX4_copyFrom 2 none, Cond.fieldLink RX4 14 "OvenDays$Households" "rows" "LOvenDays$Table;", Cond.fieldLink RX4 20 "OvenDays$Households" "count" "I", Cond.methodLink RX4 24 yX7_copyFrom, Cond.instanceMethod yX7_copyFrom, Cond.selects RX7 yX7_copyFrom yX7_copyFrom, Cond.initialized RX7, Cond.code yX7_copyFrom cX7_copyFrom 4 none, Cond.fieldLink RX7 14 "OvenDays$Table" "room" "I", Cond.fieldLink RX7 9 "OvenDays$Table" "columns" "[[I", Cond.methodLink RX7 22 arraycopyName, Cond.native arraycopyName, Cond.static arraycopyName, Cond.initialized "java/lang/System", Cond.methodLink RX9 50 yX1_copyFrom, Cond.instanceMethod yX1_copyFrom, Cond.selects RX1 yX1_copyFrom yX1_copyFrom, Cond.initialized RX1, Cond.code yX1_copyFrom cX1_copyFrom 2 none]
def wsX8_push_r3 : List Cond := [Cond.fieldLink RX1 14 "OvenDays$Batches" "rows" "LOvenDays$Table;", Cond.fieldLink RX1 20 "OvenDays$Batches" "count" "I", Cond.methodLink RX1 24 yX7_copyFrom, Cond.methodLink RX9 53 yX5_copyFrom, Cond.instanceMethod yX5_copyFrom, Cond.selects RX5 yX5_copyFrom yX5_copyFrom, Cond.initialized RX5, Cond.code yX5_copyFrom cX5_copyFrom 2 none, Cond.fieldLink RX5 14 "OvenDays$Loads" "rows" "LOvenDays$Table;", Cond.fieldLink RX5 20 "OvenDays$Loads" "count" "I", Cond.methodLink RX5 24 yX7_copyFrom, Cond.methodLink RX9 56 yX6_copyFrom, Cond.instanceMethod yX6_copyFrom, Cond.selects RX6 yX6_copyFrom yX6_copyFrom, Cond.initialized RX6, Cond.code yX6_copyFrom cX6_copyFrom 2 none, Cond.fieldLink RX6 16 "OvenDays$Loaves" "rows" "LOvenDays$Table;", Cond.fieldLink RX6 28 "OvenDays$Loaves" "cameOut" "I", Cond.fieldLink RX6 32 "OvenDays$Loaves" "pale" "I", Cond.methodLink RX6 20 yX6_kept, Cond.instanceMethod yX6_kept, Cond.selects RX6 yX6_kept yX6_kept, Cond.code yX6_kept cX6_kept 1 (some .int), Cond.methodLink RX6 35 Lib.Math.min.name]
def wsX8_push_r4 : List Cond := [Cond.methodLink RX6 24 yX7_copyFrom]
def wsX8_push : List Cond := .code yX8_push cX8_push 3 none :: ((wsX8_push_r1 ++ (wsX8_push_r2 ++ (wsX8_push_r3 ++ wsX8_push_r4))) ++ wsX80 ++ wsX90 ++ wsX40 ++ wsX70 ++ wsX10 ++ wsX50 ++ wsX60)
def wsX8_popInto_r1 : List Cond := [Cond.fieldLink RX8 20 "OvenDays$UndoStack" "latest" "I", Cond.fieldLink RX8 16 "OvenDays$UndoStack" "count" "I", Cond.methodLink RX8 23 yX8_stateAt, Cond.instanceMethod yX8_stateAt, Cond.selects RX8 yX8_stateAt yX8_stateAt, Cond.initialized RX8, Cond.code yX8_stateAt cX8_stateAt 2 (some (.object "OvenDays$Village")), Cond.fieldLink RX8 11 "OvenDays$UndoStack" "states" "[LOvenDays$Village;", Cond.methodLink RX8 27 yX9_copyFrom, Cond.instanceMethod yX9_copyFrom, Cond.selects RX9 yX9_copyFrom yX9_copyFrom, Cond.initialized RX9, Cond.code yX9_copyFrom cX9_copyFrom 2 none, Cond.fieldLink RX9 12 "OvenDays$Village" "households" "LOvenDays$Households;", Cond.fieldLink RX9 21 "OvenDays$Village" "batches" "LOvenDays$Batches;", Cond.fieldLink RX9 28 "OvenDays$Village" "loads" "LOvenDays$Loads;", Cond.fieldLink RX9 35 "OvenDays$Village" "loaves" "LOvenDays$Loaves;", Cond.fieldLink RX9 39 "OvenDays$Village" "heat" "I", Cond.fieldLink RX9 43 "OvenDays$Village" "s" "I", Cond.fieldLink RX9 59 "OvenDays$Village" "days" "I", Cond.fieldLink RX9 62 "OvenDays$Village" "dough" "I", Cond.methodLink RX9 46 yX4_copyFrom, Cond.instanceMethod yX4_copyFrom, Cond.selects RX4 yX4_copyFrom yX4_copyFrom]
def wsX8_popInto_r2 : List Cond := [Cond.initialized RX4, Cond.code yX4_copyFrom cX4_copyFrom 2 none, Cond.fieldLink RX4 14 "OvenDays$Households" "rows" "LOvenDays$Table;", Cond.fieldLink RX4 20 "OvenDays$Households" "count" "I", Cond.methodLink RX4 24 yX7_copyFrom, Cond.instanceMethod yX7_copyFrom, Cond.selects RX7 yX7_copyFrom yX7_copyFrom, Cond.initialized RX7, Cond.code yX7_copyFrom cX7_copyFrom 4 none, Cond.fieldLink RX7 14 "OvenDays$Table" "room" "I", Cond.fieldLink RX7 9 "OvenDays$Table" "columns" "[[I", Cond.methodLink RX7 22 arraycopyName, Cond.native arraycopyName, Cond.static arraycopyName, Cond.initialized "java/lang/System", Cond.methodLink RX9 50 yX1_copyFrom, Cond.instanceMethod yX1_copyFrom, Cond.selects RX1 yX1_copyFrom yX1_copyFrom, Cond.initialized RX1, Cond.code yX1_copyFrom cX1_copyFrom 2 none, Cond.fieldLink RX1 14 "OvenDays$Batches" "rows" "LOvenDays$Table;", Cond.fieldLink RX1 20 "OvenDays$Batches" "count" "I", Cond.methodLink RX1 24 yX7_copyFrom, Cond.methodLink RX9 53 yX5_copyFrom]
def wsX8_popInto_r3 : List Cond := [Cond.instanceMethod yX5_copyFrom, Cond.selects RX5 yX5_copyFrom yX5_copyFrom, Cond.initialized RX5, Cond.code yX5_copyFrom cX5_copyFrom 2 none, Cond.fieldLink RX5 14 "OvenDays$Loads" "rows" "LOvenDays$Table;", Cond.fieldLink RX5 20 "OvenDays$Loads" "count" "I", Cond.methodLink RX5 24 yX7_copyFrom, Cond.methodLink RX9 56 yX6_copyFrom, Cond.instanceMethod yX6_copyFrom, Cond.selects RX6 yX6_copyFrom yX6_copyFrom, Cond.initialized RX6, Cond.code yX6_copyFrom cX6_copyFrom 2 none, Cond.fieldLink RX6 16 "OvenDays$Loaves" "rows" "LOvenDays$Table;", Cond.fieldLink RX6 28 "OvenDays$Loaves" "cameOut" "I", Cond.fieldLink RX6 32 "OvenDays$Loaves" "pale" "I", Cond.methodLink RX6 20 yX6_kept, Cond.instanceMethod yX6_kept, Cond.selects RX6 yX6_kept yX6_kept, Cond.code yX6_kept cX6_kept 1 (some .int), Cond.methodLink RX6 35 Lib.Math.min.name, Cond.static Lib.Math.min.name, Cond.initialized "java/lang/Math", Cond.code Lib.Math.min.name Lib.Math.min.code 2 (some .int), Cond.methodLink RX6 24 yX7_copyFrom]
def wsX8_popInto : List Cond := .code yX8_popInto cX8_popInto 3 (some .int) :: ((wsX8_popInto_r1 ++ (wsX8_popInto_r2 ++ wsX8_popInto_r3)) ++ wsX80 ++ wsX90 ++ wsX40 ++ wsX70 ++ wsX10 ++ wsX50 ++ wsX60)
def wsX9_whyNoHousehold : List Cond := .code yX9_whyNoHousehold cX9_whyNoHousehold 2 (some .int) :: ([.fieldLink RX9 12 "OvenDays$Village" "households" "LOvenDays$Households;", .methodLink RX9 65 yX4_has, .instanceMethod yX4_has, .selects RX4 yX4_has yX4_has, .initialized RX4, .code yX4_has cX4_has 2 (some .boolean), .fieldLink RX4 20 "OvenDays$Households" "count" "I"] ++ wsX90 ++ wsX40)
def wsX11_whyNotWithin : List Cond := .code yX11_whyNotWithin cX11_whyNotWithin 3 (some .int) :: ([])
def wsX9_whyNoJoining : List Cond := .code yX9_whyNoJoining cX9_whyNoJoining 2 (some .int) :: ([.constant RX9 69 (65535), .fieldLink RX9 12 "OvenDays$Village" "households" "LOvenDays$Households;", .static yX11_whyNotWithin, .initialized RX11, .code yX11_whyNotWithin cX11_whyNotWithin 3 (some .int), .methodLink RX9 74 yX4_isFull, .instanceMethod yX4_isFull, .selects RX4 yX4_isFull yX4_isFull, .initialized RX4, .code yX4_isFull cX4_isFull 1 (some .boolean), .fieldLink RX4 20 "OvenDays$Households" "count" "I", .methodLink RX9 78 yX4_withMark, .instanceMethod yX4_withMark, .selects RX4 yX4_withMark yX4_withMark, .code yX4_withMark cX4_withMark 3 (some .int), .fieldLink RX4 14 "OvenDays$Households" "rows" "LOvenDays$Table;", .methodLink RX4 28 yX7_get, .instanceMethod yX7_get, .selects RX7 yX7_get yX7_get, .initialized RX7, .code yX7_get cX7_get 3 (some .int), .fieldLink RX7 14 "OvenDays$Table" "room" "I", .fieldLink RX7 9 "OvenDays$Table" "columns" "[[I"] ++ wsX90 ++ wsX40 ++ wsX70)
def wsX9_whyNoOtherMark : List Cond := .code yX9_whyNoOtherMark cX9_whyNoOtherMark 4 (some .int) :: ([.fieldLink RX9 12 "OvenDays$Village" "households" "LOvenDays$Households;", .constant RX9 69 (65535), .methodLink RX9 65 yX4_has, .instanceMethod yX4_has, .selects RX4 yX4_has yX4_has, .initialized RX4, .code yX4_has cX4_has 2 (some .boolean), .fieldLink RX4 20 "OvenDays$Households" "count" "I", .static yX11_whyNotWithin, .initialized RX11, .code yX11_whyNotWithin cX11_whyNotWithin 3 (some .int), .methodLink RX9 78 yX4_withMark, .instanceMethod yX4_withMark, .selects RX4 yX4_withMark yX4_withMark, .code yX4_withMark cX4_withMark 3 (some .int), .fieldLink RX4 14 "OvenDays$Households" "rows" "LOvenDays$Table;", .methodLink RX4 28 yX7_get, .instanceMethod yX7_get, .selects RX7 yX7_get yX7_get, .initialized RX7, .code yX7_get cX7_get 3 (some .int), .fieldLink RX7 14 "OvenDays$Table" "room" "I", .fieldLink RX7 9 "OvenDays$Table" "columns" "[[I"] ++ wsX90 ++ wsX40 ++ wsX70)
def wsX11_whyNotBelow : List Cond := .code yX11_whyNotBelow cX11_whyNotBelow 2 (some .int) :: ([.methodLink RX11 197 yX11_whyNotWithin, .static yX11_whyNotWithin, .initialized RX11, .code yX11_whyNotWithin cX11_whyNotWithin 3 (some .int)])
def wsX9_whyNoBatch : List Cond := .code yX9_whyNoBatch cX9_whyNoBatch 4 (some .int) :: ([.fieldLink RX9 12 "OvenDays$Village" "households" "LOvenDays$Households;", .fieldLink RX9 21 "OvenDays$Village" "batches" "LOvenDays$Batches;", .methodLink RX9 65 yX4_has, .instanceMethod yX4_has, .selects RX4 yX4_has yX4_has, .initialized RX4, .code yX4_has cX4_has 2 (some .boolean), .fieldLink RX4 20 "OvenDays$Households" "count" "I", .static yX11_whyNotBelow, .initialized RX11, .code yX11_whyNotBelow cX11_whyNotBelow 2 (some .int), .methodLink RX11 197 yX11_whyNotWithin, .static yX11_whyNotWithin, .code yX11_whyNotWithin cX11_whyNotWithin 3 (some .int), .methodLink RX9 86 yX1_isFull, .instanceMethod yX1_isFull, .selects RX1 yX1_isFull yX1_isFull, .initialized RX1, .code yX1_isFull cX1_isFull 1 (some .boolean), .fieldLink RX1 20 "OvenDays$Batches" "count" "I"] ++ wsX90 ++ wsX40 ++ wsX10)
def wsX9_whyNoDay : List Cond := .code yX9_whyNoDay cX9_whyNoDay 2 (some .int) :: ([.fieldLink RX9 21 "OvenDays$Village" "batches" "LOvenDays$Batches;", .static yX11_whyNotWithin, .initialized RX11, .code yX11_whyNotWithin cX11_whyNotWithin 3 (some .int), .methodLink RX9 87 yX1_size, .instanceMethod yX1_size, .selects RX1 yX1_size yX1_size, .initialized RX1, .code yX1_size cX1_size 1 (some .int), .fieldLink RX1 20 "OvenDays$Batches" "count" "I"] ++ wsX90 ++ wsX10)
def wsX9_changeS : List Cond := .code yX9_changeS cX9_changeS 3 (some .int) :: ([.fieldLink RX9 43 "OvenDays$Village" "s" "I"] ++ wsX90)
def wsX9_letClaim_r1 : List Cond := [Cond.fieldLink RX9 35 "OvenDays$Village" "loaves" "LOvenDays$Loaves;", Cond.fieldLink RX9 12 "OvenDays$Village" "households" "LOvenDays$Households;", Cond.methodLink RX9 91 yX4_value, Cond.instanceMethod yX4_value, Cond.selects RX4 yX4_value yX4_value, Cond.initialized RX4, Cond.code yX4_value cX4_value 3 (some .int), Cond.fieldLink RX4 14 "OvenDays$Households" "rows" "LOvenDays$Table;", Cond.methodLink RX4 28 yX7_get, Cond.instanceMethod yX7_get, Cond.selects RX7 yX7_get yX7_get, Cond.initialized RX7, Cond.code yX7_get cX7_get 3 (some .int), Cond.fieldLink RX7 14 "OvenDays$Table" "room" "I", Cond.fieldLink RX7 9 "OvenDays$Table" "columns" "[[I", Cond.methodLink RX9 94 yX6_moveFromShelf, Cond.instanceMethod yX6_moveFromShelf, Cond.selects RX6 yX6_moveFromShelf yX6_moveFromShelf, Cond.initialized RX6, Cond.code yX6_moveFromShelf cX6_moveFromShelf 7 (some .int), Cond.fieldLink RX6 28 "OvenDays$Loaves" "cameOut" "I", Cond.methodLink RX6 83 yX6_balanceOf, Cond.instanceMethod yX6_balanceOf, Cond.selects RX6 yX6_balanceOf yX6_balanceOf]
def wsX9_letClaim_r2 : List Cond := [Cond.code yX6_balanceOf cX6_balanceOf 3 (some .int), Cond.methodLink RX6 79 yX6_countWithBoth, Cond.instanceMethod yX6_countWithBoth, Cond.selects RX6 yX6_countWithBoth yX6_countWithBoth, Cond.code yX6_countWithBoth cX6_countWithBoth 5 (some .int), Cond.fieldLink RX6 16 "OvenDays$Loaves" "rows" "LOvenDays$Table;", Cond.methodLink RX6 20 yX6_kept, Cond.instanceMethod yX6_kept, Cond.selects RX6 yX6_kept yX6_kept, Cond.code yX6_kept cX6_kept 1 (some .int), Cond.methodLink RX6 35 Lib.Math.min.name, Cond.static Lib.Math.min.name, Cond.initialized "java/lang/Math", Cond.code Lib.Math.min.name Lib.Math.min.code 2 (some .int), Cond.methodLink RX6 75 yX7_countBoth, Cond.instanceMethod yX7_countBoth, Cond.selects RX7 yX7_countBoth yX7_countBoth, Cond.code yX7_countBoth cX7_countBoth 10 (some .int), Cond.methodLink RX6 41 yX6_firstKept, Cond.instanceMethod yX6_firstKept, Cond.selects RX6 yX6_firstKept yX6_firstKept, Cond.code yX6_firstKept cX6_firstKept 1 (some .int), Cond.methodLink RX6 60 yX6_value, Cond.instanceMethod yX6_value]
def wsX9_letClaim_r3 : List Cond := [Cond.selects RX6 yX6_value yX6_value, Cond.code yX6_value cX6_value 3 (some .int), Cond.methodLink RX6 44 yX7_get, Cond.static yX11_contains, Cond.initialized RX11, Cond.code yX11_contains cX11_contains 2 (some .boolean), Cond.methodLink RX6 68 yX6_give, Cond.instanceMethod yX6_give, Cond.selects RX6 yX6_give yX6_give, Cond.code yX6_give cX6_give 3 none, Cond.methodLink RX6 47 yX7_put, Cond.instanceMethod yX7_put, Cond.selects RX7 yX7_put yX7_put, Cond.code yX7_put cX7_put 4 none]
def wsX9_letClaim : List Cond := .code yX9_letClaim cX9_letClaim 2 (some .int) :: ((wsX9_letClaim_r1 ++ (wsX9_letClaim_r2 ++ wsX9_letClaim_r3)) ++ wsX90 ++ wsX40 ++ wsX70 ++ wsX60)
def wsX9_heatWith : List Cond := .code yX9_heatWith cX9_heatWith 2 (some .int) :: ([.fieldLink RX9 39 "OvenDays$Village" "heat" "I", .methodLink RX9 97 Lib.Math.min.name, .static Lib.Math.min.name, .initialized "java/lang/Math", .code Lib.Math.min.name Lib.Math.min.code 2 (some .int)] ++ wsX90)
def wsX9_arrangeNextDay_r1 : List Cond := [Cond.fieldLink RX9 21 "OvenDays$Village" "batches" "LOvenDays$Batches;", Cond.fieldLink RX9 12 "OvenDays$Village" "households" "LOvenDays$Households;", Cond.methodLink RX9 102 yX4_size, Cond.instanceMethod yX4_size, Cond.selects RX4 yX4_size yX4_size, Cond.initialized RX4, Cond.code yX4_size cX4_size 1 (some .int), Cond.fieldLink RX4 20 "OvenDays$Households" "count" "I", Cond.methodLink RX9 103 yX4_nextOne, Cond.instanceMethod yX4_nextOne, Cond.selects RX4 yX4_nextOne yX4_nextOne, Cond.code yX4_nextOne cX4_nextOne 8 (some .int), Cond.fieldLink RX4 14 "OvenDays$Households" "rows" "LOvenDays$Table;", Cond.methodLink RX4 39 yX7_count, Cond.instanceMethod yX7_count, Cond.selects RX7 yX7_count yX7_count, Cond.initialized RX7, Cond.code yX7_count cX7_count 4 (some .int), Cond.methodLink RX7 18 yX7_countBoth, Cond.instanceMethod yX7_countBoth, Cond.selects RX7 yX7_countBoth yX7_countBoth, Cond.code yX7_countBoth cX7_countBoth 10 (some .int), Cond.fieldLink RX7 9 "OvenDays$Table" "columns" "[[I", Cond.fieldLink RX7 14 "OvenDays$Table" "room" "I"]
def wsX9_arrangeNextDay_r2 : List Cond := [Cond.methodLink RX4 28 yX7_get, Cond.instanceMethod yX7_get, Cond.selects RX7 yX7_get yX7_get, Cond.code yX7_get cX7_get 3 (some .int), Cond.methodLink RX4 46 yX4_dueOf, Cond.instanceMethod yX4_dueOf, Cond.selects RX4 yX4_dueOf yX4_dueOf, Cond.code yX4_dueOf cX4_dueOf 6 (some .long), Cond.methodLink RX4 32 yX7_sum, Cond.instanceMethod yX7_sum, Cond.selects RX7 yX7_sum yX7_sum, Cond.code yX7_sum cX7_sum 6 (some .int), Cond.methodLink RX9 106 yX3_arrange, Cond.instanceMethod yX3_arrange, Cond.selects RX3 yX3_arrange yX3_arrange, Cond.initialized RX3, Cond.code yX3_arrange cX3_arrange 7 none, Cond.fieldLink RX3 31 "OvenDays$DayPlan" "count" "I", Cond.fieldLink RX3 9 "OvenDays$DayPlan" "order" "[I", Cond.methodLink RX3 35 yX1_size, Cond.instanceMethod yX1_size, Cond.selects RX1 yX1_size yX1_size, Cond.initialized RX1, Cond.code yX1_size cX1_size 1 (some .int)]
def wsX9_arrangeNextDay_r3 : List Cond := [Cond.fieldLink RX1 20 "OvenDays$Batches" "count" "I", Cond.methodLink RX3 41 yX1_value, Cond.instanceMethod yX1_value, Cond.selects RX1 yX1_value yX1_value, Cond.code yX1_value cX1_value 3 (some .int), Cond.fieldLink RX1 14 "OvenDays$Batches" "rows" "LOvenDays$Table;", Cond.methodLink RX1 28 yX7_get]
def wsX9_arrangeNextDay : List Cond := .code yX9_arrangeNextDay cX9_arrangeNextDay 2 none :: ((wsX9_arrangeNextDay_r1 ++ (wsX9_arrangeNextDay_r2 ++ wsX9_arrangeNextDay_r3)) ++ wsX90 ++ wsX40 ++ wsX70 ++ wsX30 ++ wsX10)
def wsX9_draw : List Cond := .code yX9_draw cX9_draw 2 (some .int) :: ([.constantLong RX9 182 (1103515245), .fieldLink RX9 43 "OvenDays$Village" "s" "I", .constantLong RX9 184 (12345), .constantLong RX9 186 (2147483647)] ++ wsX90)
def wsX9_blur : List Cond := .code yX9_blur cX9_blur 5 (some .int) :: ([.methodLink RX9 179 yX9_draw, .instanceMethod yX9_draw, .selects RX9 yX9_draw yX9_draw, .initialized RX9, .code yX9_draw cX9_draw 2 (some .int), .constantLong RX9 182 (1103515245), .fieldLink RX9 43 "OvenDays$Village" "s" "I", .constantLong RX9 184 (12345), .constantLong RX9 186 (2147483647)] ++ wsX90)
def wsX9_bakeBatch_r1 : List Cond := [Cond.fieldLink RX9 21 "OvenDays$Village" "batches" "LOvenDays$Batches;", Cond.fieldLink RX9 12 "OvenDays$Village" "households" "LOvenDays$Households;", Cond.fieldLink RX9 35 "OvenDays$Village" "loaves" "LOvenDays$Loaves;", Cond.fieldLink RX9 59 "OvenDays$Village" "days" "I", Cond.methodLink RX9 165 yX1_value, Cond.instanceMethod yX1_value, Cond.selects RX1 yX1_value yX1_value, Cond.initialized RX1, Cond.code yX1_value cX1_value 3 (some .int), Cond.fieldLink RX1 14 "OvenDays$Batches" "rows" "LOvenDays$Table;", Cond.methodLink RX1 28 yX7_get, Cond.instanceMethod yX7_get, Cond.selects RX7 yX7_get yX7_get, Cond.initialized RX7, Cond.code yX7_get cX7_get 3 (some .int), Cond.fieldLink RX7 14 "OvenDays$Table" "room" "I", Cond.fieldLink RX7 9 "OvenDays$Table" "columns" "[[I", Cond.methodLink RX9 91 yX4_value, Cond.instanceMethod yX4_value, Cond.selects RX4 yX4_value yX4_value, Cond.initialized RX4, Cond.code yX4_value cX4_value 3 (some .int), Cond.fieldLink RX4 14 "OvenDays$Households" "rows" "LOvenDays$Table;", Cond.methodLink RX4 28 yX7_get]
def wsX9_bakeBatch_r2 : List Cond := [Cond.methodLink RX9 166 yX3_paleBelow, Cond.static yX3_paleBelow, Cond.initialized RX3, Cond.code yX3_paleBelow cX3_paleBelow 1 (some .int), Cond.fieldLink RX3 28 "OvenDays$DayPlan" "LOWEST" "[I", Cond.methodLink RX9 169 yX4_putIn, Cond.instanceMethod yX4_putIn, Cond.selects RX4 yX4_putIn yX4_putIn, Cond.code yX4_putIn cX4_putIn 3 none, Cond.methodLink RX4 35 yX7_put, Cond.instanceMethod yX7_put, Cond.selects RX7 yX7_put yX7_put, Cond.code yX7_put cX7_put 4 none, Cond.methodLink RX9 172 yX9_blur, Cond.instanceMethod yX9_blur, Cond.selects RX9 yX9_blur yX9_blur, Cond.initialized RX9, Cond.code yX9_blur cX9_blur 5 (some .int), Cond.methodLink RX9 179 yX9_draw, Cond.instanceMethod yX9_draw, Cond.selects RX9 yX9_draw yX9_draw, Cond.code yX9_draw cX9_draw 2 (some .int), Cond.constantLong RX9 182 (1103515245), Cond.fieldLink RX9 43 "OvenDays$Village" "s" "I"]
def wsX9_bakeBatch_r3 : List Cond := [Cond.constantLong RX9 184 (12345), Cond.constantLong RX9 186 (2147483647), Cond.methodLink RX9 175 yX6_add, Cond.instanceMethod yX6_add, Cond.selects RX6 yX6_add yX6_add, Cond.initialized RX6, Cond.code yX6_add cX6_add 8 none, Cond.fieldLink RX6 28 "OvenDays$Loaves" "cameOut" "I", Cond.fieldLink RX6 16 "OvenDays$Loaves" "rows" "LOvenDays$Table;", Cond.fieldLink RX6 32 "OvenDays$Loaves" "pale" "I", Cond.methodLink RX6 47 yX7_put, Cond.methodLink RX6 51 yJ6_bitCount_0f7a4, Cond.static yJ6_bitCount_0f7a4, Cond.initialized RJ6, Cond.code yJ6_bitCount_0f7a4 cJ6_bitCount_0f7a4 1 (some .int), Cond.constant RJ6 265 (1431655765), Cond.constant RJ6 266 (858993459), Cond.constant RJ6 267 (252645135)]
def wsX9_bakeBatch : List Cond := .code yX9_bakeBatch cX9_bakeBatch 9 none :: ((wsX9_bakeBatch_r1 ++ (wsX9_bakeBatch_r2 ++ wsX9_bakeBatch_r3)) ++ wsX90 ++ wsX10 ++ wsX70 ++ wsX40 ++ wsX60)
def wsX9_bakeLoads_r1 : List Cond := [Cond.fieldLink RX9 28 "OvenDays$Village" "loads" "LOvenDays$Loads;", Cond.fieldLink RX9 21 "OvenDays$Village" "batches" "LOvenDays$Batches;", Cond.methodLink RX9 152 yX5_size, Cond.instanceMethod yX5_size, Cond.selects RX5 yX5_size yX5_size, Cond.initialized RX5, Cond.code yX5_size cX5_size 1 (some .int), Cond.fieldLink RX5 20 "OvenDays$Loads" "count" "I", Cond.methodLink RX9 153 yX3_size, Cond.instanceMethod yX3_size, Cond.selects RX3 yX3_size yX3_size, Cond.initialized RX3, Cond.code yX3_size cX3_size 1 (some .int), Cond.fieldLink RX3 31 "OvenDays$DayPlan" "count" "I", Cond.methodLink RX9 154 yX3_loadAt, Cond.instanceMethod yX3_loadAt, Cond.selects RX3 yX3_loadAt yX3_loadAt, Cond.code yX3_loadAt cX3_loadAt 2 (some .int), Cond.fieldLink RX3 15 "OvenDays$DayPlan" "loadAt" "[I", Cond.methodLink RX9 157 yX3_batchAt, Cond.instanceMethod yX3_batchAt, Cond.selects RX3 yX3_batchAt yX3_batchAt, Cond.code yX3_batchAt cX3_batchAt 2 (some .int), Cond.fieldLink RX3 9 "OvenDays$DayPlan" "order" "[I"]
def wsX9_bakeLoads_r2 : List Cond := [Cond.methodLink RX9 160 yX5_value, Cond.instanceMethod yX5_value, Cond.selects RX5 yX5_value yX5_value, Cond.code yX5_value cX5_value 3 (some .int), Cond.fieldLink RX5 14 "OvenDays$Loads" "rows" "LOvenDays$Table;", Cond.methodLink RX5 28 yX7_get, Cond.instanceMethod yX7_get, Cond.selects RX7 yX7_get yX7_get, Cond.initialized RX7, Cond.code yX7_get cX7_get 3 (some .int), Cond.fieldLink RX7 14 "OvenDays$Table" "room" "I", Cond.fieldLink RX7 9 "OvenDays$Table" "columns" "[[I", Cond.methodLink RX9 161 yX9_bakeBatch, Cond.instanceMethod yX9_bakeBatch, Cond.selects RX9 yX9_bakeBatch yX9_bakeBatch, Cond.initialized RX9, Cond.code yX9_bakeBatch cX9_bakeBatch 9 none, Cond.fieldLink RX9 12 "OvenDays$Village" "households" "LOvenDays$Households;", Cond.fieldLink RX9 35 "OvenDays$Village" "loaves" "LOvenDays$Loaves;", Cond.fieldLink RX9 59 "OvenDays$Village" "days" "I", Cond.methodLink RX9 165 yX1_value, Cond.instanceMethod yX1_value, Cond.selects RX1 yX1_value yX1_value, Cond.initialized RX1]
def wsX9_bakeLoads_r3 : List Cond := [Cond.code yX1_value cX1_value 3 (some .int), Cond.fieldLink RX1 14 "OvenDays$Batches" "rows" "LOvenDays$Table;", Cond.methodLink RX1 28 yX7_get, Cond.methodLink RX9 91 yX4_value, Cond.instanceMethod yX4_value, Cond.selects RX4 yX4_value yX4_value, Cond.initialized RX4, Cond.code yX4_value cX4_value 3 (some .int), Cond.fieldLink RX4 14 "OvenDays$Households" "rows" "LOvenDays$Table;", Cond.methodLink RX4 28 yX7_get, Cond.methodLink RX9 166 yX3_paleBelow, Cond.static yX3_paleBelow, Cond.code yX3_paleBelow cX3_paleBelow 1 (some .int), Cond.fieldLink RX3 28 "OvenDays$DayPlan" "LOWEST" "[I", Cond.methodLink RX9 169 yX4_putIn, Cond.instanceMethod yX4_putIn, Cond.selects RX4 yX4_putIn yX4_putIn, Cond.code yX4_putIn cX4_putIn 3 none, Cond.methodLink RX4 35 yX7_put, Cond.instanceMethod yX7_put, Cond.selects RX7 yX7_put yX7_put, Cond.code yX7_put cX7_put 4 none, Cond.methodLink RX9 172 yX9_blur, Cond.instanceMethod yX9_blur]
def wsX9_bakeLoads_r4 : List Cond := [Cond.selects RX9 yX9_blur yX9_blur, Cond.code yX9_blur cX9_blur 5 (some .int), Cond.methodLink RX9 179 yX9_draw, Cond.instanceMethod yX9_draw, Cond.selects RX9 yX9_draw yX9_draw, Cond.code yX9_draw cX9_draw 2 (some .int), Cond.constantLong RX9 182 (1103515245), Cond.fieldLink RX9 43 "OvenDays$Village" "s" "I", Cond.constantLong RX9 184 (12345), Cond.constantLong RX9 186 (2147483647), Cond.methodLink RX9 175 yX6_add, Cond.instanceMethod yX6_add, Cond.selects RX6 yX6_add yX6_add, Cond.initialized RX6, Cond.code yX6_add cX6_add 8 none, Cond.fieldLink RX6 28 "OvenDays$Loaves" "cameOut" "I", Cond.fieldLink RX6 16 "OvenDays$Loaves" "rows" "LOvenDays$Table;", Cond.fieldLink RX6 32 "OvenDays$Loaves" "pale" "I", Cond.methodLink RX6 47 yX7_put, Cond.methodLink RX6 51 yJ6_bitCount_0f7a4, Cond.static yJ6_bitCount_0f7a4, Cond.initialized RJ6, Cond.code yJ6_bitCount_0f7a4 cJ6_bitCount_0f7a4 1 (some .int), Cond.constant RJ6 265 (1431655765)]
def wsX9_bakeLoads_r5 : List Cond := [Cond.constant RJ6 266 (858993459), Cond.constant RJ6 267 (252645135)]
def wsX9_bakeLoads : List Cond := .code yX9_bakeLoads cX9_bakeLoads 6 (some .int) :: ((wsX9_bakeLoads_r1 ++ (wsX9_bakeLoads_r2 ++ (wsX9_bakeLoads_r3 ++ (wsX9_bakeLoads_r4 ++ wsX9_bakeLoads_r5)))) ++ wsX90 ++ wsX50 ++ wsX30 ++ wsX70 ++ wsX10 ++ wsX40 ++ wsX60)
def wsX9_haveDay_r1 : List Cond := [Cond.fieldLink RX9 35 "OvenDays$Village" "loaves" "LOvenDays$Loaves;", Cond.fieldLink RX9 12 "OvenDays$Village" "households" "LOvenDays$Households;", Cond.fieldLink RX9 21 "OvenDays$Village" "batches" "LOvenDays$Batches;", Cond.fieldLink RX9 28 "OvenDays$Village" "loads" "LOvenDays$Loads;", Cond.fieldLink RX9 62 "OvenDays$Village" "dough" "I", Cond.methodLink RX9 146 Lib.Math.max.name, Cond.static Lib.Math.max.name, Cond.initialized "java/lang/Math", Cond.code Lib.Math.max.name Lib.Math.max.code 2 (some .int), Cond.fieldLink RX9 39 "OvenDays$Village" "heat" "I", Cond.fieldLink RX9 59 "OvenDays$Village" "days" "I", Cond.methodLink RX9 112 yX6_cameOut, Cond.instanceMethod yX6_cameOut, Cond.selects RX6 yX6_cameOut yX6_cameOut, Cond.initialized RX6, Cond.code yX6_cameOut cX6_cameOut 1 (some .int), Cond.fieldLink RX6 28 "OvenDays$Loaves" "cameOut" "I", Cond.methodLink RX9 115 yX9_arrangeNextDay, Cond.instanceMethod yX9_arrangeNextDay, Cond.selects RX9 yX9_arrangeNextDay yX9_arrangeNextDay, Cond.initialized RX9, Cond.code yX9_arrangeNextDay cX9_arrangeNextDay 2 none, Cond.methodLink RX9 102 yX4_size, Cond.instanceMethod yX4_size]
def wsX9_haveDay_r2 : List Cond := [Cond.selects RX4 yX4_size yX4_size, Cond.initialized RX4, Cond.code yX4_size cX4_size 1 (some .int), Cond.fieldLink RX4 20 "OvenDays$Households" "count" "I", Cond.methodLink RX9 103 yX4_nextOne, Cond.instanceMethod yX4_nextOne, Cond.selects RX4 yX4_nextOne yX4_nextOne, Cond.code yX4_nextOne cX4_nextOne 8 (some .int), Cond.fieldLink RX4 14 "OvenDays$Households" "rows" "LOvenDays$Table;", Cond.methodLink RX4 39 yX7_count, Cond.instanceMethod yX7_count, Cond.selects RX7 yX7_count yX7_count, Cond.initialized RX7, Cond.code yX7_count cX7_count 4 (some .int), Cond.methodLink RX7 18 yX7_countBoth, Cond.instanceMethod yX7_countBoth, Cond.selects RX7 yX7_countBoth yX7_countBoth, Cond.code yX7_countBoth cX7_countBoth 10 (some .int), Cond.fieldLink RX7 9 "OvenDays$Table" "columns" "[[I", Cond.fieldLink RX7 14 "OvenDays$Table" "room" "I", Cond.methodLink RX4 28 yX7_get, Cond.instanceMethod yX7_get, Cond.selects RX7 yX7_get yX7_get, Cond.code yX7_get cX7_get 3 (some .int)]
def wsX9_haveDay_r3 : List Cond := [Cond.methodLink RX4 46 yX4_dueOf, Cond.instanceMethod yX4_dueOf, Cond.selects RX4 yX4_dueOf yX4_dueOf, Cond.code yX4_dueOf cX4_dueOf 6 (some .long), Cond.methodLink RX4 32 yX7_sum, Cond.instanceMethod yX7_sum, Cond.selects RX7 yX7_sum yX7_sum, Cond.code yX7_sum cX7_sum 6 (some .int), Cond.methodLink RX9 106 yX3_arrange, Cond.instanceMethod yX3_arrange, Cond.selects RX3 yX3_arrange yX3_arrange, Cond.initialized RX3, Cond.code yX3_arrange cX3_arrange 7 none, Cond.fieldLink RX3 31 "OvenDays$DayPlan" "count" "I", Cond.fieldLink RX3 9 "OvenDays$DayPlan" "order" "[I", Cond.methodLink RX3 35 yX1_size, Cond.instanceMethod yX1_size, Cond.selects RX1 yX1_size yX1_size, Cond.initialized RX1, Cond.code yX1_size cX1_size 1 (some .int), Cond.fieldLink RX1 20 "OvenDays$Batches" "count" "I", Cond.methodLink RX3 41 yX1_value, Cond.instanceMethod yX1_value, Cond.selects RX1 yX1_value yX1_value]
def wsX9_haveDay_r4 : List Cond := [Cond.code yX1_value cX1_value 3 (some .int), Cond.fieldLink RX1 14 "OvenDays$Batches" "rows" "LOvenDays$Table;", Cond.methodLink RX1 28 yX7_get, Cond.methodLink RX9 119 yX4_bringWood, Cond.instanceMethod yX4_bringWood, Cond.selects RX4 yX4_bringWood yX4_bringWood, Cond.code yX4_bringWood cX4_bringWood 4 none, Cond.methodLink RX4 42 yX4_nextOne, Cond.methodLink RX4 35 yX7_put, Cond.instanceMethod yX7_put, Cond.selects RX7 yX7_put yX7_put, Cond.code yX7_put cX7_put 4 none, Cond.methodLink RX9 123 yX9_heatWith, Cond.instanceMethod yX9_heatWith, Cond.selects RX9 yX9_heatWith yX9_heatWith, Cond.code yX9_heatWith cX9_heatWith 2 (some .int), Cond.methodLink RX9 97 Lib.Math.min.name, Cond.static Lib.Math.min.name, Cond.code Lib.Math.min.name Lib.Math.min.code 2 (some .int), Cond.methodLink RX9 126 yX3_fire, Cond.instanceMethod yX3_fire, Cond.selects RX3 yX3_fire yX3_fire, Cond.code yX3_fire cX3_fire 5 none, Cond.fieldLink RX3 45 "OvenDays$DayPlan" "heat" "I"]
def wsX9_haveDay_r5 : List Cond := [Cond.fieldLink RX3 52 "OvenDays$DayPlan" "left" "I", Cond.methodLink RX3 66 Lib.Math.max.name, Cond.methodLink RX3 48 yX3_startWaiting, Cond.instanceMethod yX3_startWaiting, Cond.selects RX3 yX3_startWaiting yX3_startWaiting, Cond.code yX3_startWaiting cX3_startWaiting 4 none, Cond.fieldLink RX3 24 "OvenDays$DayPlan" "loads" "LOvenDays$Loads;", Cond.fieldLink RX3 18 "OvenDays$DayPlan" "waiting" "[I", Cond.fieldLink RX3 15 "OvenDays$DayPlan" "loadAt" "[I", Cond.methodLink RX3 71 yX5_clear, Cond.instanceMethod yX5_clear, Cond.selects RX5 yX5_clear yX5_clear, Cond.initialized RX5, Cond.code yX5_clear cX5_clear 1 none, Cond.fieldLink RX5 20 "OvenDays$Loads" "count" "I", Cond.methodLink RX3 55 yX3_kindForHeat, Cond.instanceMethod yX3_kindForHeat, Cond.selects RX3 yX3_kindForHeat yX3_kindForHeat, Cond.code yX3_kindForHeat cX3_kindForHeat 2 (some .int), Cond.fieldLink RX3 28 "OvenDays$DayPlan" "LOWEST" "[I", Cond.fieldLink RX3 74 "OvenDays$DayPlan" "GREATEST" "[I", Cond.methodLink RX3 58 yX3_bakeLoad, Cond.instanceMethod yX3_bakeLoad, Cond.selects RX3 yX3_bakeLoad yX3_bakeLoad]
def wsX9_haveDay_r6 : List Cond := [Cond.code yX3_bakeLoad cX3_bakeLoad 9 none, Cond.fieldLink RX3 78 "OvenDays$DayPlan" "TICKS" "[I", Cond.methodLink RX3 77 yX5_size, Cond.instanceMethod yX5_size, Cond.selects RX5 yX5_size yX5_size, Cond.code yX5_size cX5_size 1 (some .int), Cond.methodLink RX3 81 yX5_add, Cond.instanceMethod yX5_add, Cond.selects RX5 yX5_add yX5_add, Cond.code yX5_add cX5_add 6 none, Cond.fieldLink RX5 14 "OvenDays$Loads" "rows" "LOvenDays$Table;", Cond.methodLink RX5 32 yX7_put, Cond.methodLink RX3 62 yX3_isTooHotForSome, Cond.instanceMethod yX3_isTooHotForSome, Cond.selects RX3 yX3_isTooHotForSome yX3_isTooHotForSome, Cond.code yX3_isTooHotForSome cX3_isTooHotForSome 2 (some .boolean), Cond.methodLink RX9 130 yX3_loads, Cond.instanceMethod yX3_loads, Cond.selects RX3 yX3_loads yX3_loads, Cond.code yX3_loads cX3_loads 1 (some (.object "OvenDays$Loads")), Cond.methodLink RX9 53 yX5_copyFrom, Cond.instanceMethod yX5_copyFrom, Cond.selects RX5 yX5_copyFrom yX5_copyFrom, Cond.code yX5_copyFrom cX5_copyFrom 2 none]
def wsX9_haveDay_r7 : List Cond := [Cond.methodLink RX5 24 yX7_copyFrom, Cond.instanceMethod yX7_copyFrom, Cond.selects RX7 yX7_copyFrom yX7_copyFrom, Cond.code yX7_copyFrom cX7_copyFrom 4 none, Cond.methodLink RX7 22 arraycopyName, Cond.native arraycopyName, Cond.static arraycopyName, Cond.initialized "java/lang/System", Cond.methodLink RX9 133 yX9_bakeLoads, Cond.instanceMethod yX9_bakeLoads, Cond.selects RX9 yX9_bakeLoads yX9_bakeLoads, Cond.code yX9_bakeLoads cX9_bakeLoads 6 (some .int), Cond.methodLink RX9 152 yX5_size, Cond.methodLink RX9 153 yX3_size, Cond.instanceMethod yX3_size, Cond.selects RX3 yX3_size yX3_size, Cond.code yX3_size cX3_size 1 (some .int), Cond.methodLink RX9 154 yX3_loadAt, Cond.instanceMethod yX3_loadAt, Cond.selects RX3 yX3_loadAt yX3_loadAt, Cond.code yX3_loadAt cX3_loadAt 2 (some .int), Cond.methodLink RX9 157 yX3_batchAt, Cond.instanceMethod yX3_batchAt, Cond.selects RX3 yX3_batchAt yX3_batchAt]
def wsX9_haveDay_r8 : List Cond := [Cond.code yX3_batchAt cX3_batchAt 2 (some .int), Cond.methodLink RX9 160 yX5_value, Cond.instanceMethod yX5_value, Cond.selects RX5 yX5_value yX5_value, Cond.code yX5_value cX5_value 3 (some .int), Cond.methodLink RX5 28 yX7_get, Cond.methodLink RX9 161 yX9_bakeBatch, Cond.instanceMethod yX9_bakeBatch, Cond.selects RX9 yX9_bakeBatch yX9_bakeBatch, Cond.code yX9_bakeBatch cX9_bakeBatch 9 none, Cond.methodLink RX9 165 yX1_value, Cond.methodLink RX9 91 yX4_value, Cond.instanceMethod yX4_value, Cond.selects RX4 yX4_value yX4_value, Cond.code yX4_value cX4_value 3 (some .int), Cond.methodLink RX9 166 yX3_paleBelow, Cond.static yX3_paleBelow, Cond.code yX3_paleBelow cX3_paleBelow 1 (some .int), Cond.methodLink RX9 169 yX4_putIn, Cond.instanceMethod yX4_putIn, Cond.selects RX4 yX4_putIn yX4_putIn, Cond.code yX4_putIn cX4_putIn 3 none, Cond.methodLink RX9 172 yX9_blur, Cond.instanceMethod yX9_blur]
def wsX9_haveDay_r9 : List Cond := [Cond.selects RX9 yX9_blur yX9_blur, Cond.code yX9_blur cX9_blur 5 (some .int), Cond.methodLink RX9 179 yX9_draw, Cond.instanceMethod yX9_draw, Cond.selects RX9 yX9_draw yX9_draw, Cond.code yX9_draw cX9_draw 2 (some .int), Cond.constantLong RX9 182 (1103515245), Cond.fieldLink RX9 43 "OvenDays$Village" "s" "I", Cond.constantLong RX9 184 (12345), Cond.constantLong RX9 186 (2147483647), Cond.methodLink RX9 175 yX6_add, Cond.instanceMethod yX6_add, Cond.selects RX6 yX6_add yX6_add, Cond.code yX6_add cX6_add 8 none, Cond.fieldLink RX6 16 "OvenDays$Loaves" "rows" "LOvenDays$Table;", Cond.fieldLink RX6 32 "OvenDays$Loaves" "pale" "I", Cond.methodLink RX6 47 yX7_put, Cond.methodLink RX6 51 yJ6_bitCount_0f7a4, Cond.static yJ6_bitCount_0f7a4, Cond.initialized RJ6, Cond.code yJ6_bitCount_0f7a4 cJ6_bitCount_0f7a4 1 (some .int), Cond.constant RJ6 265 (1431655765), Cond.constant RJ6 266 (858993459), Cond.constant RJ6 267 (252645135)]
def wsX9_haveDay_r10 : List Cond := [Cond.methodLink RX9 137 yX6_sortFrom, Cond.instanceMethod yX6_sortFrom, Cond.selects RX6 yX6_sortFrom yX6_sortFrom, Cond.code yX6_sortFrom cX6_sortFrom 5 none, Cond.methodLink RX6 57 Lib.Math.max.name, Cond.methodLink RX6 41 yX6_firstKept, Cond.instanceMethod yX6_firstKept, Cond.selects RX6 yX6_firstKept yX6_firstKept, Cond.code yX6_firstKept cX6_firstKept 1 (some .int), Cond.methodLink RX6 20 yX6_kept, Cond.instanceMethod yX6_kept, Cond.selects RX6 yX6_kept yX6_kept, Cond.code yX6_kept cX6_kept 1 (some .int), Cond.methodLink RX6 35 Lib.Math.min.name, Cond.methodLink RX6 60 yX6_value, Cond.instanceMethod yX6_value, Cond.selects RX6 yX6_value yX6_value, Cond.code yX6_value cX6_value 3 (some .int), Cond.methodLink RX6 44 yX7_get, Cond.methodLink RX6 63 yX4_takerOf, Cond.instanceMethod yX4_takerOf, Cond.selects RX4 yX4_takerOf yX4_takerOf, Cond.code yX4_takerOf cX4_takerOf 8 (some .int), Cond.static yX11_contains]
def wsX9_haveDay_r11 : List Cond := [Cond.initialized RX11, Cond.code yX11_contains cX11_contains 2 (some .boolean), Cond.methodLink RX4 54 yJ6_bitCount_0f7a4, Cond.methodLink RX6 68 yX6_give, Cond.instanceMethod yX6_give, Cond.selects RX6 yX6_give yX6_give, Cond.code yX6_give cX6_give 3 none, Cond.methodLink RX9 141 yX3_dough, Cond.instanceMethod yX3_dough, Cond.selects RX3 yX3_dough yX3_dough, Cond.code yX3_dough cX3_dough 4 (some .int), Cond.methodLink RX3 89 yX3_loadAt, Cond.methodLink RX3 85 yX3_batchAt, Cond.methodLink RX9 144 yX3_heat, Cond.instanceMethod yX3_heat, Cond.selects RX3 yX3_heat yX3_heat, Cond.code yX3_heat cX3_heat 1 (some .int), Cond.methodLink RX9 149 yX1_clear, Cond.instanceMethod yX1_clear, Cond.selects RX1 yX1_clear yX1_clear, Cond.code yX1_clear cX1_clear 1 none]
def wsX9_haveDay : List Cond := .code yX9_haveDay cX9_haveDay 5 (some .int) :: ((wsX9_haveDay_r1 ++ (wsX9_haveDay_r2 ++ (wsX9_haveDay_r3 ++ (wsX9_haveDay_r4 ++ (wsX9_haveDay_r5 ++ (wsX9_haveDay_r6 ++ (wsX9_haveDay_r7 ++ (wsX9_haveDay_r8 ++ (wsX9_haveDay_r9 ++ (wsX9_haveDay_r10 ++ wsX9_haveDay_r11)))))))))) ++ wsX90 ++ wsX60 ++ wsX40 ++ wsX70 ++ wsX30 ++ wsX10 ++ wsX50)
def wsX11_init_r1 : List Cond := [Cond.methodLink RX11 1 objectInit, Cond.instanceMethod objectInit, Cond.code objectInit ⟨#[0xb1]⟩ 1 none, Cond.classLink RX11 7 RX9, Cond.instantiable RX9 8, Cond.initialized RX9, Cond.fieldLink RX11 10 "OvenDays" "village" "LOvenDays$Village;", Cond.classLink RX11 16 RX3, Cond.instantiable RX3 7, Cond.initialized RX3, Cond.fieldLink RX11 19 "OvenDays" "plan" "LOvenDays$DayPlan;", Cond.classLink RX11 23 RX8, Cond.instantiable RX8 3, Cond.initialized RX8, Cond.fieldLink RX11 26 "OvenDays" "undoStack" "LOvenDays$UndoStack;", Cond.classLink RX11 30 RX2, Cond.instantiable RX2 6, Cond.initialized RX2, Cond.fieldLink RX11 33 "OvenDays" "text" "LOvenDays$CommandText;", Cond.fieldLink RX11 37 "OvenDays" "stop" "I", Cond.instanceMethod yX9_init, Cond.code yX9_init cX9_init 1 none, Cond.methodLink RX9 3 objectInit, Cond.classLink RX9 9 RX4]
def wsX11_init_r2 : List Cond := [Cond.instantiable RX4 2, Cond.initialized RX4, Cond.fieldLink RX9 12 "OvenDays$Village" "households" "LOvenDays$Households;", Cond.classLink RX9 18 RX1, Cond.instantiable RX1 2, Cond.initialized RX1, Cond.fieldLink RX9 21 "OvenDays$Village" "batches" "LOvenDays$Batches;", Cond.classLink RX9 25 RX5, Cond.instantiable RX5 2, Cond.initialized RX5, Cond.fieldLink RX9 28 "OvenDays$Village" "loads" "LOvenDays$Loads;", Cond.classLink RX9 32 RX6, Cond.instantiable RX6 3, Cond.initialized RX6, Cond.fieldLink RX9 35 "OvenDays$Village" "loaves" "LOvenDays$Loaves;", Cond.fieldLink RX9 39 "OvenDays$Village" "heat" "I", Cond.fieldLink RX9 43 "OvenDays$Village" "s" "I", Cond.instanceMethod yX4_init, Cond.code yX4_init cX4_init 1 none, Cond.methodLink RX4 3 objectInit, Cond.classLink RX4 9 RX7, Cond.instantiable RX7 2, Cond.initialized RX7, Cond.fieldLink RX4 14 "OvenDays$Households" "rows" "LOvenDays$Table;"]
def wsX11_init_r3 : List Cond := [Cond.methodLink RX4 11 yX7_init, Cond.instanceMethod yX7_init, Cond.code yX7_init cX7_init 3 none, Cond.methodLink RX7 1 objectInit, Cond.classLink RX7 7 "[[I", Cond.arrayClass .int, Cond.fieldLink RX7 9 "OvenDays$Table" "columns" "[[I", Cond.fieldLink RX7 14 "OvenDays$Table" "room" "I", Cond.instanceMethod yX1_init, Cond.code yX1_init cX1_init 1 none, Cond.methodLink RX1 3 objectInit, Cond.classLink RX1 9 RX7, Cond.fieldLink RX1 14 "OvenDays$Batches" "rows" "LOvenDays$Table;", Cond.methodLink RX1 11 yX7_init, Cond.instanceMethod yX5_init, Cond.code yX5_init cX5_init 1 none, Cond.methodLink RX5 3 objectInit, Cond.classLink RX5 9 RX7, Cond.fieldLink RX5 14 "OvenDays$Loads" "rows" "LOvenDays$Table;", Cond.methodLink RX5 11 yX7_init, Cond.instanceMethod yX6_init, Cond.code yX6_init cX6_init 1 none, Cond.methodLink RX6 3 objectInit, Cond.classLink RX6 9 RX7]
def wsX11_init_r4 : List Cond := [Cond.fieldLink RX6 16 "OvenDays$Loaves" "rows" "LOvenDays$Table;", Cond.methodLink RX6 13 yX7_init, Cond.instanceMethod yX3_init, Cond.code yX3_init cX3_init 1 none, Cond.methodLink RX3 3 objectInit, Cond.fieldLink RX3 9 "OvenDays$DayPlan" "order" "[I", Cond.fieldLink RX3 15 "OvenDays$DayPlan" "loadAt" "[I", Cond.fieldLink RX3 18 "OvenDays$DayPlan" "waiting" "[I", Cond.classLink RX3 21 RX5, Cond.fieldLink RX3 24 "OvenDays$DayPlan" "loads" "LOvenDays$Loads;", Cond.methodLink RX11 25 yX8_init, Cond.instanceMethod yX8_init, Cond.code yX8_init cX8_init 2 none, Cond.methodLink RX8 1 objectInit, Cond.classLink RX8 9 RX9, Cond.fieldLink RX8 11 "OvenDays$UndoStack" "states" "[LOvenDays$Village;", Cond.instanceMethod yX2_init, Cond.code yX2_init cX2_init 1 none, Cond.methodLink RX2 3 objectInit, Cond.arrayClass .byte, Cond.fieldLink RX2 11 "OvenDays$CommandText" "bytes" "[B", Cond.fieldLink RX2 15 "OvenDays$CommandText" "numbers" "[I", Cond.fieldLink RX2 19 "OvenDays$CommandText" "fault" "I"]
def wsX11_init : List Cond := .code yX11_init cX11_init 1 none :: ((wsX11_init_r1 ++ (wsX11_init_r2 ++ (wsX11_init_r3 ++ wsX11_init_r4))) ++ wsX90 ++ wsX110 ++ wsX30 ++ wsX80 ++ wsX20 ++ wsX40 ++ wsX10 ++ wsX50 ++ wsX60 ++ wsX70)
def wsX11_refuse : List Cond := .code yX11_refuse cX11_refuse 1 none :: ([.classLink RX11 281 "java/lang/IndexOutOfBoundsException", .initialized "java/lang/IndexOutOfBoundsException", .classLink RX11 288 "java/lang/IllegalArgumentException", .initialized "java/lang/IllegalArgumentException", .classLink RX11 293 "java/lang/IllegalStateException", .initialized "java/lang/IllegalStateException"] ++ (vx_atS RX11 285 "java/lang/IndexOutOfBoundsException" ["java/lang/RuntimeException", "java/lang/Exception"]).filter goodWord ++ (vx_atS RX11 292 "java/lang/IllegalArgumentException" ["java/lang/RuntimeException", "java/lang/Exception"]).filter goodWord ++ (vx_atS RX11 297 "java/lang/IllegalStateException" ["java/lang/RuntimeException", "java/lang/Exception"]).filter goodWord)
def wsX11_join_r1 : List Cond := [Cond.fieldLink RX11 10 "OvenDays" "village" "LOvenDays$Village;", Cond.fieldLink RX11 26 "OvenDays" "undoStack" "LOvenDays$UndoStack;", Cond.methodLink RX11 41 yX9_whyNoJoining, Cond.instanceMethod yX9_whyNoJoining, Cond.selects RX9 yX9_whyNoJoining yX9_whyNoJoining, Cond.initialized RX9, Cond.code yX9_whyNoJoining cX9_whyNoJoining 2 (some .int), Cond.constant RX9 69 (65535), Cond.fieldLink RX9 12 "OvenDays$Village" "households" "LOvenDays$Households;", Cond.static yX11_whyNotWithin, Cond.initialized RX11, Cond.code yX11_whyNotWithin cX11_whyNotWithin 3 (some .int), Cond.methodLink RX9 74 yX4_isFull, Cond.instanceMethod yX4_isFull, Cond.selects RX4 yX4_isFull yX4_isFull, Cond.initialized RX4, Cond.code yX4_isFull cX4_isFull 1 (some .boolean), Cond.fieldLink RX4 20 "OvenDays$Households" "count" "I", Cond.methodLink RX9 78 yX4_withMark, Cond.instanceMethod yX4_withMark, Cond.selects RX4 yX4_withMark yX4_withMark, Cond.code yX4_withMark cX4_withMark 3 (some .int), Cond.fieldLink RX4 14 "OvenDays$Households" "rows" "LOvenDays$Table;", Cond.methodLink RX4 28 yX7_get]
def wsX11_join_r2 : List Cond := [Cond.instanceMethod yX7_get, Cond.selects RX7 yX7_get yX7_get, Cond.initialized RX7, Cond.code yX7_get cX7_get 3 (some .int), Cond.fieldLink RX7 14 "OvenDays$Table" "room" "I", Cond.fieldLink RX7 9 "OvenDays$Table" "columns" "[[I", Cond.methodLink RX11 45 yX11_refuse, Cond.static yX11_refuse, Cond.code yX11_refuse cX11_refuse 1 none, Cond.classLink RX11 281 "java/lang/IndexOutOfBoundsException", Cond.initialized "java/lang/IndexOutOfBoundsException", Cond.classLink RX11 288 "java/lang/IllegalArgumentException", Cond.initialized "java/lang/IllegalArgumentException", Cond.classLink RX11 293 "java/lang/IllegalStateException", Cond.initialized "java/lang/IllegalStateException", Cond.methodLink RX11 49 yX8_push, Cond.instanceMethod yX8_push, Cond.selects RX8 yX8_push yX8_push, Cond.initialized RX8, Cond.code yX8_push cX8_push 3 none, Cond.fieldLink RX8 20 "OvenDays$UndoStack" "latest" "I", Cond.fieldLink RX8 16 "OvenDays$UndoStack" "count" "I", Cond.methodLink RX8 31 Lib.Math.min.name, Cond.static Lib.Math.min.name]
def wsX11_join_r3 : List Cond := [Cond.initialized "java/lang/Math", Cond.code Lib.Math.min.name Lib.Math.min.code 2 (some .int), Cond.methodLink RX8 23 yX8_stateAt, Cond.instanceMethod yX8_stateAt, Cond.selects RX8 yX8_stateAt yX8_stateAt, Cond.code yX8_stateAt cX8_stateAt 2 (some (.object "OvenDays$Village")), Cond.fieldLink RX8 11 "OvenDays$UndoStack" "states" "[LOvenDays$Village;", Cond.methodLink RX8 27 yX9_copyFrom, Cond.instanceMethod yX9_copyFrom, Cond.selects RX9 yX9_copyFrom yX9_copyFrom, Cond.code yX9_copyFrom cX9_copyFrom 2 none, Cond.fieldLink RX9 21 "OvenDays$Village" "batches" "LOvenDays$Batches;", Cond.fieldLink RX9 28 "OvenDays$Village" "loads" "LOvenDays$Loads;", Cond.fieldLink RX9 35 "OvenDays$Village" "loaves" "LOvenDays$Loaves;", Cond.fieldLink RX9 39 "OvenDays$Village" "heat" "I", Cond.fieldLink RX9 43 "OvenDays$Village" "s" "I", Cond.fieldLink RX9 59 "OvenDays$Village" "days" "I", Cond.fieldLink RX9 62 "OvenDays$Village" "dough" "I", Cond.methodLink RX9 46 yX4_copyFrom, Cond.instanceMethod yX4_copyFrom, Cond.selects RX4 yX4_copyFrom yX4_copyFrom, Cond.code yX4_copyFrom cX4_copyFrom 2 none, Cond.methodLink RX4 24 yX7_copyFrom, Cond.instanceMethod yX7_copyFrom]
def wsX11_join_r4 : List Cond := [Cond.selects RX7 yX7_copyFrom yX7_copyFrom, Cond.code yX7_copyFrom cX7_copyFrom 4 none, Cond.methodLink RX7 22 arraycopyName, Cond.native arraycopyName, Cond.static arraycopyName, Cond.initialized "java/lang/System", Cond.methodLink RX9 50 yX1_copyFrom, Cond.instanceMethod yX1_copyFrom, Cond.selects RX1 yX1_copyFrom yX1_copyFrom, Cond.initialized RX1, Cond.code yX1_copyFrom cX1_copyFrom 2 none, Cond.fieldLink RX1 14 "OvenDays$Batches" "rows" "LOvenDays$Table;", Cond.fieldLink RX1 20 "OvenDays$Batches" "count" "I", Cond.methodLink RX1 24 yX7_copyFrom, Cond.methodLink RX9 53 yX5_copyFrom, Cond.instanceMethod yX5_copyFrom, Cond.selects RX5 yX5_copyFrom yX5_copyFrom, Cond.initialized RX5, Cond.code yX5_copyFrom cX5_copyFrom 2 none, Cond.fieldLink RX5 14 "OvenDays$Loads" "rows" "LOvenDays$Table;", Cond.fieldLink RX5 20 "OvenDays$Loads" "count" "I", Cond.methodLink RX5 24 yX7_copyFrom, Cond.methodLink RX9 56 yX6_copyFrom, Cond.instanceMethod yX6_copyFrom]
def wsX11_join_r5 : List Cond := [Cond.selects RX6 yX6_copyFrom yX6_copyFrom, Cond.initialized RX6, Cond.code yX6_copyFrom cX6_copyFrom 2 none, Cond.fieldLink RX6 16 "OvenDays$Loaves" "rows" "LOvenDays$Table;", Cond.fieldLink RX6 28 "OvenDays$Loaves" "cameOut" "I", Cond.fieldLink RX6 32 "OvenDays$Loaves" "pale" "I", Cond.methodLink RX6 20 yX6_kept, Cond.instanceMethod yX6_kept, Cond.selects RX6 yX6_kept yX6_kept, Cond.code yX6_kept cX6_kept 1 (some .int), Cond.methodLink RX6 35 Lib.Math.min.name, Cond.methodLink RX6 24 yX7_copyFrom, Cond.methodLink RX11 57 yX4_add, Cond.instanceMethod yX4_add, Cond.selects RX4 yX4_add yX4_add, Cond.code yX4_add cX4_add 3 (some .int), Cond.methodLink RX4 35 yX7_put, Cond.instanceMethod yX7_put, Cond.selects RX7 yX7_put yX7_put, Cond.code yX7_put cX7_put 4 none]
def wsX11_join : List Cond := .code yX11_join cX11_join 2 (some .int) :: ((wsX11_join_r1 ++ (wsX11_join_r2 ++ (wsX11_join_r3 ++ (wsX11_join_r4 ++ wsX11_join_r5)))) ++ wsX110 ++ wsX90 ++ wsX40 ++ wsX70 ++ wsX80 ++ wsX10 ++ wsX50 ++ wsX60 ++ (vx_atS RX11 285 "java/lang/IndexOutOfBoundsException" ["java/lang/RuntimeException", "java/lang/Exception"]).filter goodWord ++ (vx_atS RX11 292 "java/lang/IllegalArgumentException" ["java/lang/RuntimeException", "java/lang/Exception"]).filter goodWord ++ (vx_atS RX11 297 "java/lang/IllegalStateException" ["java/lang/RuntimeException", "java/lang/Exception"]).filter goodWord)
def wsX11_remark_r1 : List Cond := [Cond.fieldLink RX11 10 "OvenDays" "village" "LOvenDays$Village;", Cond.fieldLink RX11 26 "OvenDays" "undoStack" "LOvenDays$UndoStack;", Cond.methodLink RX11 62 yX9_whyNoOtherMark, Cond.instanceMethod yX9_whyNoOtherMark, Cond.selects RX9 yX9_whyNoOtherMark yX9_whyNoOtherMark, Cond.initialized RX9, Cond.code yX9_whyNoOtherMark cX9_whyNoOtherMark 4 (some .int), Cond.fieldLink RX9 12 "OvenDays$Village" "households" "LOvenDays$Households;", Cond.constant RX9 69 (65535), Cond.methodLink RX9 65 yX4_has, Cond.instanceMethod yX4_has, Cond.selects RX4 yX4_has yX4_has, Cond.initialized RX4, Cond.code yX4_has cX4_has 2 (some .boolean), Cond.fieldLink RX4 20 "OvenDays$Households" "count" "I", Cond.static yX11_whyNotWithin, Cond.initialized RX11, Cond.code yX11_whyNotWithin cX11_whyNotWithin 3 (some .int), Cond.methodLink RX9 78 yX4_withMark, Cond.instanceMethod yX4_withMark, Cond.selects RX4 yX4_withMark yX4_withMark, Cond.code yX4_withMark cX4_withMark 3 (some .int), Cond.fieldLink RX4 14 "OvenDays$Households" "rows" "LOvenDays$Table;", Cond.methodLink RX4 28 yX7_get]
def wsX11_remark_r2 : List Cond := [Cond.instanceMethod yX7_get, Cond.selects RX7 yX7_get yX7_get, Cond.initialized RX7, Cond.code yX7_get cX7_get 3 (some .int), Cond.fieldLink RX7 14 "OvenDays$Table" "room" "I", Cond.fieldLink RX7 9 "OvenDays$Table" "columns" "[[I", Cond.methodLink RX11 45 yX11_refuse, Cond.static yX11_refuse, Cond.code yX11_refuse cX11_refuse 1 none, Cond.classLink RX11 281 "java/lang/IndexOutOfBoundsException", Cond.initialized "java/lang/IndexOutOfBoundsException", Cond.classLink RX11 288 "java/lang/IllegalArgumentException", Cond.initialized "java/lang/IllegalArgumentException", Cond.classLink RX11 293 "java/lang/IllegalStateException", Cond.initialized "java/lang/IllegalStateException", Cond.methodLink RX11 49 yX8_push, Cond.instanceMethod yX8_push, Cond.selects RX8 yX8_push yX8_push, Cond.initialized RX8, Cond.code yX8_push cX8_push 3 none, Cond.fieldLink RX8 20 "OvenDays$UndoStack" "latest" "I", Cond.fieldLink RX8 16 "OvenDays$UndoStack" "count" "I", Cond.methodLink RX8 31 Lib.Math.min.name, Cond.static Lib.Math.min.name]
def wsX11_remark_r3 : List Cond := [Cond.initialized "java/lang/Math", Cond.code Lib.Math.min.name Lib.Math.min.code 2 (some .int), Cond.methodLink RX8 23 yX8_stateAt, Cond.instanceMethod yX8_stateAt, Cond.selects RX8 yX8_stateAt yX8_stateAt, Cond.code yX8_stateAt cX8_stateAt 2 (some (.object "OvenDays$Village")), Cond.fieldLink RX8 11 "OvenDays$UndoStack" "states" "[LOvenDays$Village;", Cond.methodLink RX8 27 yX9_copyFrom, Cond.instanceMethod yX9_copyFrom, Cond.selects RX9 yX9_copyFrom yX9_copyFrom, Cond.code yX9_copyFrom cX9_copyFrom 2 none, Cond.fieldLink RX9 21 "OvenDays$Village" "batches" "LOvenDays$Batches;", Cond.fieldLink RX9 28 "OvenDays$Village" "loads" "LOvenDays$Loads;", Cond.fieldLink RX9 35 "OvenDays$Village" "loaves" "LOvenDays$Loaves;", Cond.fieldLink RX9 39 "OvenDays$Village" "heat" "I", Cond.fieldLink RX9 43 "OvenDays$Village" "s" "I", Cond.fieldLink RX9 59 "OvenDays$Village" "days" "I", Cond.fieldLink RX9 62 "OvenDays$Village" "dough" "I", Cond.methodLink RX9 46 yX4_copyFrom, Cond.instanceMethod yX4_copyFrom, Cond.selects RX4 yX4_copyFrom yX4_copyFrom, Cond.code yX4_copyFrom cX4_copyFrom 2 none, Cond.methodLink RX4 24 yX7_copyFrom, Cond.instanceMethod yX7_copyFrom]
def wsX11_remark_r4 : List Cond := [Cond.selects RX7 yX7_copyFrom yX7_copyFrom, Cond.code yX7_copyFrom cX7_copyFrom 4 none, Cond.methodLink RX7 22 arraycopyName, Cond.native arraycopyName, Cond.static arraycopyName, Cond.initialized "java/lang/System", Cond.methodLink RX9 50 yX1_copyFrom, Cond.instanceMethod yX1_copyFrom, Cond.selects RX1 yX1_copyFrom yX1_copyFrom, Cond.initialized RX1, Cond.code yX1_copyFrom cX1_copyFrom 2 none, Cond.fieldLink RX1 14 "OvenDays$Batches" "rows" "LOvenDays$Table;", Cond.fieldLink RX1 20 "OvenDays$Batches" "count" "I", Cond.methodLink RX1 24 yX7_copyFrom, Cond.methodLink RX9 53 yX5_copyFrom, Cond.instanceMethod yX5_copyFrom, Cond.selects RX5 yX5_copyFrom yX5_copyFrom, Cond.initialized RX5, Cond.code yX5_copyFrom cX5_copyFrom 2 none, Cond.fieldLink RX5 14 "OvenDays$Loads" "rows" "LOvenDays$Table;", Cond.fieldLink RX5 20 "OvenDays$Loads" "count" "I", Cond.methodLink RX5 24 yX7_copyFrom, Cond.methodLink RX9 56 yX6_copyFrom, Cond.instanceMethod yX6_copyFrom]
def wsX11_remark_r5 : List Cond := [Cond.selects RX6 yX6_copyFrom yX6_copyFrom, Cond.initialized RX6, Cond.code yX6_copyFrom cX6_copyFrom 2 none, Cond.fieldLink RX6 16 "OvenDays$Loaves" "rows" "LOvenDays$Table;", Cond.fieldLink RX6 28 "OvenDays$Loaves" "cameOut" "I", Cond.fieldLink RX6 32 "OvenDays$Loaves" "pale" "I", Cond.methodLink RX6 20 yX6_kept, Cond.instanceMethod yX6_kept, Cond.selects RX6 yX6_kept yX6_kept, Cond.code yX6_kept cX6_kept 1 (some .int), Cond.methodLink RX6 35 Lib.Math.min.name, Cond.methodLink RX6 24 yX7_copyFrom, Cond.methodLink RX11 66 yX4_changeMark, Cond.instanceMethod yX4_changeMark, Cond.selects RX4 yX4_changeMark yX4_changeMark, Cond.code yX4_changeMark cX4_changeMark 4 (some .int), Cond.methodLink RX4 35 yX7_put, Cond.instanceMethod yX7_put, Cond.selects RX7 yX7_put yX7_put, Cond.code yX7_put cX7_put 4 none]
def wsX11_remark : List Cond := .code yX11_remark cX11_remark 3 (some .int) :: ((wsX11_remark_r1 ++ (wsX11_remark_r2 ++ (wsX11_remark_r3 ++ (wsX11_remark_r4 ++ wsX11_remark_r5)))) ++ wsX110 ++ wsX90 ++ wsX40 ++ wsX70 ++ wsX80 ++ wsX10 ++ wsX50 ++ wsX60 ++ (vx_atS RX11 285 "java/lang/IndexOutOfBoundsException" ["java/lang/RuntimeException", "java/lang/Exception"]).filter goodWord ++ (vx_atS RX11 292 "java/lang/IllegalArgumentException" ["java/lang/RuntimeException", "java/lang/Exception"]).filter goodWord ++ (vx_atS RX11 297 "java/lang/IllegalStateException" ["java/lang/RuntimeException", "java/lang/Exception"]).filter goodWord)
def wsX11_excuse_r1 : List Cond := [Cond.fieldLink RX11 10 "OvenDays" "village" "LOvenDays$Village;", Cond.fieldLink RX11 26 "OvenDays" "undoStack" "LOvenDays$UndoStack;", Cond.methodLink RX11 69 yX9_whyNoHousehold, Cond.instanceMethod yX9_whyNoHousehold, Cond.selects RX9 yX9_whyNoHousehold yX9_whyNoHousehold, Cond.initialized RX9, Cond.code yX9_whyNoHousehold cX9_whyNoHousehold 2 (some .int), Cond.fieldLink RX9 12 "OvenDays$Village" "households" "LOvenDays$Households;", Cond.methodLink RX9 65 yX4_has, Cond.instanceMethod yX4_has, Cond.selects RX4 yX4_has yX4_has, Cond.initialized RX4, Cond.code yX4_has cX4_has 2 (some .boolean), Cond.fieldLink RX4 20 "OvenDays$Households" "count" "I", Cond.methodLink RX11 45 yX11_refuse, Cond.static yX11_refuse, Cond.initialized RX11, Cond.code yX11_refuse cX11_refuse 1 none, Cond.classLink RX11 281 "java/lang/IndexOutOfBoundsException", Cond.initialized "java/lang/IndexOutOfBoundsException", Cond.classLink RX11 288 "java/lang/IllegalArgumentException", Cond.initialized "java/lang/IllegalArgumentException", Cond.classLink RX11 293 "java/lang/IllegalStateException", Cond.initialized "java/lang/IllegalStateException"]
def wsX11_excuse_r2 : List Cond := [Cond.methodLink RX11 49 yX8_push, Cond.instanceMethod yX8_push, Cond.selects RX8 yX8_push yX8_push, Cond.initialized RX8, Cond.code yX8_push cX8_push 3 none, Cond.fieldLink RX8 20 "OvenDays$UndoStack" "latest" "I", Cond.fieldLink RX8 16 "OvenDays$UndoStack" "count" "I", Cond.methodLink RX8 31 Lib.Math.min.name, Cond.static Lib.Math.min.name, Cond.initialized "java/lang/Math", Cond.code Lib.Math.min.name Lib.Math.min.code 2 (some .int), Cond.methodLink RX8 23 yX8_stateAt, Cond.instanceMethod yX8_stateAt, Cond.selects RX8 yX8_stateAt yX8_stateAt, Cond.code yX8_stateAt cX8_stateAt 2 (some (.object "OvenDays$Village")), Cond.fieldLink RX8 11 "OvenDays$UndoStack" "states" "[LOvenDays$Village;", Cond.methodLink RX8 27 yX9_copyFrom, Cond.instanceMethod yX9_copyFrom, Cond.selects RX9 yX9_copyFrom yX9_copyFrom, Cond.code yX9_copyFrom cX9_copyFrom 2 none, Cond.fieldLink RX9 21 "OvenDays$Village" "batches" "LOvenDays$Batches;", Cond.fieldLink RX9 28 "OvenDays$Village" "loads" "LOvenDays$Loads;", Cond.fieldLink RX9 35 "OvenDays$Village" "loaves" "LOvenDays$Loaves;", Cond.fieldLink RX9 39 "OvenDays$Village" "heat" "I"]
def wsX11_excuse_r3 : List Cond := [Cond.fieldLink RX9 43 "OvenDays$Village" "s" "I", Cond.fieldLink RX9 59 "OvenDays$Village" "days" "I", Cond.fieldLink RX9 62 "OvenDays$Village" "dough" "I", Cond.methodLink RX9 46 yX4_copyFrom, Cond.instanceMethod yX4_copyFrom, Cond.selects RX4 yX4_copyFrom yX4_copyFrom, Cond.code yX4_copyFrom cX4_copyFrom 2 none, Cond.fieldLink RX4 14 "OvenDays$Households" "rows" "LOvenDays$Table;", Cond.methodLink RX4 24 yX7_copyFrom, Cond.instanceMethod yX7_copyFrom, Cond.selects RX7 yX7_copyFrom yX7_copyFrom, Cond.initialized RX7, Cond.code yX7_copyFrom cX7_copyFrom 4 none, Cond.fieldLink RX7 14 "OvenDays$Table" "room" "I", Cond.fieldLink RX7 9 "OvenDays$Table" "columns" "[[I", Cond.methodLink RX7 22 arraycopyName, Cond.native arraycopyName, Cond.static arraycopyName, Cond.initialized "java/lang/System", Cond.methodLink RX9 50 yX1_copyFrom, Cond.instanceMethod yX1_copyFrom, Cond.selects RX1 yX1_copyFrom yX1_copyFrom, Cond.initialized RX1, Cond.code yX1_copyFrom cX1_copyFrom 2 none]
def wsX11_excuse_r4 : List Cond := [Cond.fieldLink RX1 14 "OvenDays$Batches" "rows" "LOvenDays$Table;", Cond.fieldLink RX1 20 "OvenDays$Batches" "count" "I", Cond.methodLink RX1 24 yX7_copyFrom, Cond.methodLink RX9 53 yX5_copyFrom, Cond.instanceMethod yX5_copyFrom, Cond.selects RX5 yX5_copyFrom yX5_copyFrom, Cond.initialized RX5, Cond.code yX5_copyFrom cX5_copyFrom 2 none, Cond.fieldLink RX5 14 "OvenDays$Loads" "rows" "LOvenDays$Table;", Cond.fieldLink RX5 20 "OvenDays$Loads" "count" "I", Cond.methodLink RX5 24 yX7_copyFrom, Cond.methodLink RX9 56 yX6_copyFrom, Cond.instanceMethod yX6_copyFrom, Cond.selects RX6 yX6_copyFrom yX6_copyFrom, Cond.initialized RX6, Cond.code yX6_copyFrom cX6_copyFrom 2 none, Cond.fieldLink RX6 16 "OvenDays$Loaves" "rows" "LOvenDays$Table;", Cond.fieldLink RX6 28 "OvenDays$Loaves" "cameOut" "I", Cond.fieldLink RX6 32 "OvenDays$Loaves" "pale" "I", Cond.methodLink RX6 20 yX6_kept, Cond.instanceMethod yX6_kept, Cond.selects RX6 yX6_kept yX6_kept, Cond.code yX6_kept cX6_kept 1 (some .int), Cond.methodLink RX6 35 Lib.Math.min.name]
def wsX11_excuse_r5 : List Cond := [Cond.methodLink RX6 24 yX7_copyFrom, Cond.methodLink RX11 72 yX4_excuseOne, Cond.instanceMethod yX4_excuseOne, Cond.selects RX4 yX4_excuseOne yX4_excuseOne, Cond.code yX4_excuseOne cX4_excuseOne 2 (some .int), Cond.methodLink RX4 35 yX7_put, Cond.instanceMethod yX7_put, Cond.selects RX7 yX7_put yX7_put, Cond.code yX7_put cX7_put 4 none, Cond.methodLink RX4 39 yX7_count, Cond.instanceMethod yX7_count, Cond.selects RX7 yX7_count yX7_count, Cond.code yX7_count cX7_count 4 (some .int), Cond.methodLink RX7 18 yX7_countBoth, Cond.instanceMethod yX7_countBoth, Cond.selects RX7 yX7_countBoth yX7_countBoth, Cond.code yX7_countBoth cX7_countBoth 10 (some .int)]
def wsX11_excuse : List Cond := .code yX11_excuse cX11_excuse 2 (some .int) :: ((wsX11_excuse_r1 ++ (wsX11_excuse_r2 ++ (wsX11_excuse_r3 ++ (wsX11_excuse_r4 ++ wsX11_excuse_r5)))) ++ wsX110 ++ wsX90 ++ wsX40 ++ wsX80 ++ wsX70 ++ wsX10 ++ wsX50 ++ wsX60 ++ (vx_atS RX11 285 "java/lang/IndexOutOfBoundsException" ["java/lang/RuntimeException", "java/lang/Exception"]).filter goodWord ++ (vx_atS RX11 292 "java/lang/IllegalArgumentException" ["java/lang/RuntimeException", "java/lang/Exception"]).filter goodWord ++ (vx_atS RX11 297 "java/lang/IllegalStateException" ["java/lang/RuntimeException", "java/lang/Exception"]).filter goodWord)
def wsX11_bring_r1 : List Cond := [Cond.fieldLink RX11 10 "OvenDays" "village" "LOvenDays$Village;", Cond.fieldLink RX11 26 "OvenDays" "undoStack" "LOvenDays$UndoStack;", Cond.methodLink RX11 75 yX9_whyNoBatch, Cond.instanceMethod yX9_whyNoBatch, Cond.selects RX9 yX9_whyNoBatch yX9_whyNoBatch, Cond.initialized RX9, Cond.code yX9_whyNoBatch cX9_whyNoBatch 4 (some .int), Cond.fieldLink RX9 12 "OvenDays$Village" "households" "LOvenDays$Households;", Cond.fieldLink RX9 21 "OvenDays$Village" "batches" "LOvenDays$Batches;", Cond.methodLink RX9 65 yX4_has, Cond.instanceMethod yX4_has, Cond.selects RX4 yX4_has yX4_has, Cond.initialized RX4, Cond.code yX4_has cX4_has 2 (some .boolean), Cond.fieldLink RX4 20 "OvenDays$Households" "count" "I", Cond.static yX11_whyNotBelow, Cond.initialized RX11, Cond.code yX11_whyNotBelow cX11_whyNotBelow 2 (some .int), Cond.methodLink RX11 197 yX11_whyNotWithin, Cond.static yX11_whyNotWithin, Cond.code yX11_whyNotWithin cX11_whyNotWithin 3 (some .int), Cond.methodLink RX9 86 yX1_isFull, Cond.instanceMethod yX1_isFull, Cond.selects RX1 yX1_isFull yX1_isFull]
def wsX11_bring_r2 : List Cond := [Cond.initialized RX1, Cond.code yX1_isFull cX1_isFull 1 (some .boolean), Cond.fieldLink RX1 20 "OvenDays$Batches" "count" "I", Cond.methodLink RX11 45 yX11_refuse, Cond.static yX11_refuse, Cond.code yX11_refuse cX11_refuse 1 none, Cond.classLink RX11 281 "java/lang/IndexOutOfBoundsException", Cond.initialized "java/lang/IndexOutOfBoundsException", Cond.classLink RX11 288 "java/lang/IllegalArgumentException", Cond.initialized "java/lang/IllegalArgumentException", Cond.classLink RX11 293 "java/lang/IllegalStateException", Cond.initialized "java/lang/IllegalStateException", Cond.methodLink RX11 49 yX8_push, Cond.instanceMethod yX8_push, Cond.selects RX8 yX8_push yX8_push, Cond.initialized RX8, Cond.code yX8_push cX8_push 3 none, Cond.fieldLink RX8 20 "OvenDays$UndoStack" "latest" "I", Cond.fieldLink RX8 16 "OvenDays$UndoStack" "count" "I", Cond.methodLink RX8 31 Lib.Math.min.name, Cond.static Lib.Math.min.name, Cond.initialized "java/lang/Math", Cond.code Lib.Math.min.name Lib.Math.min.code 2 (some .int), Cond.methodLink RX8 23 yX8_stateAt]
def wsX11_bring_r3 : List Cond := [Cond.instanceMethod yX8_stateAt, Cond.selects RX8 yX8_stateAt yX8_stateAt, Cond.code yX8_stateAt cX8_stateAt 2 (some (.object "OvenDays$Village")), Cond.fieldLink RX8 11 "OvenDays$UndoStack" "states" "[LOvenDays$Village;", Cond.methodLink RX8 27 yX9_copyFrom, Cond.instanceMethod yX9_copyFrom, Cond.selects RX9 yX9_copyFrom yX9_copyFrom, Cond.code yX9_copyFrom cX9_copyFrom 2 none, Cond.fieldLink RX9 28 "OvenDays$Village" "loads" "LOvenDays$Loads;", Cond.fieldLink RX9 35 "OvenDays$Village" "loaves" "LOvenDays$Loaves;", Cond.fieldLink RX9 39 "OvenDays$Village" "heat" "I", Cond.fieldLink RX9 43 "OvenDays$Village" "s" "I", Cond.fieldLink RX9 59 "OvenDays$Village" "days" "I", Cond.fieldLink RX9 62 "OvenDays$Village" "dough" "I", Cond.methodLink RX9 46 yX4_copyFrom, Cond.instanceMethod yX4_copyFrom, Cond.selects RX4 yX4_copyFrom yX4_copyFrom, Cond.code yX4_copyFrom cX4_copyFrom 2 none, Cond.fieldLink RX4 14 "OvenDays$Households" "rows" "LOvenDays$Table;", Cond.methodLink RX4 24 yX7_copyFrom, Cond.instanceMethod yX7_copyFrom, Cond.selects RX7 yX7_copyFrom yX7_copyFrom, Cond.initialized RX7, Cond.code yX7_copyFrom cX7_copyFrom 4 none]
def wsX11_bring_r4 : List Cond := [Cond.fieldLink RX7 14 "OvenDays$Table" "room" "I", Cond.fieldLink RX7 9 "OvenDays$Table" "columns" "[[I", Cond.methodLink RX7 22 arraycopyName, Cond.native arraycopyName, Cond.static arraycopyName, Cond.initialized "java/lang/System", Cond.methodLink RX9 50 yX1_copyFrom, Cond.instanceMethod yX1_copyFrom, Cond.selects RX1 yX1_copyFrom yX1_copyFrom, Cond.code yX1_copyFrom cX1_copyFrom 2 none, Cond.fieldLink RX1 14 "OvenDays$Batches" "rows" "LOvenDays$Table;", Cond.methodLink RX1 24 yX7_copyFrom, Cond.methodLink RX9 53 yX5_copyFrom, Cond.instanceMethod yX5_copyFrom, Cond.selects RX5 yX5_copyFrom yX5_copyFrom, Cond.initialized RX5, Cond.code yX5_copyFrom cX5_copyFrom 2 none, Cond.fieldLink RX5 14 "OvenDays$Loads" "rows" "LOvenDays$Table;", Cond.fieldLink RX5 20 "OvenDays$Loads" "count" "I", Cond.methodLink RX5 24 yX7_copyFrom, Cond.methodLink RX9 56 yX6_copyFrom, Cond.instanceMethod yX6_copyFrom, Cond.selects RX6 yX6_copyFrom yX6_copyFrom, Cond.initialized RX6]
def wsX11_bring_r5 : List Cond := [Cond.code yX6_copyFrom cX6_copyFrom 2 none, Cond.fieldLink RX6 16 "OvenDays$Loaves" "rows" "LOvenDays$Table;", Cond.fieldLink RX6 28 "OvenDays$Loaves" "cameOut" "I", Cond.fieldLink RX6 32 "OvenDays$Loaves" "pale" "I", Cond.methodLink RX6 20 yX6_kept, Cond.instanceMethod yX6_kept, Cond.selects RX6 yX6_kept yX6_kept, Cond.code yX6_kept cX6_kept 1 (some .int), Cond.methodLink RX6 35 Lib.Math.min.name, Cond.methodLink RX6 24 yX7_copyFrom, Cond.methodLink RX11 83 yX1_add, Cond.instanceMethod yX1_add, Cond.selects RX1 yX1_add yX1_add, Cond.code yX1_add cX1_add 5 (some .int), Cond.methodLink RX1 35 yX7_put, Cond.instanceMethod yX7_put, Cond.selects RX7 yX7_put yX7_put, Cond.code yX7_put cX7_put 4 none]
def wsX11_bring : List Cond := .code yX11_bring cX11_bring 4 (some .int) :: ((wsX11_bring_r1 ++ (wsX11_bring_r2 ++ (wsX11_bring_r3 ++ (wsX11_bring_r4 ++ wsX11_bring_r5)))) ++ wsX110 ++ wsX90 ++ wsX40 ++ wsX10 ++ wsX80 ++ wsX70 ++ wsX50 ++ wsX60 ++ (vx_atS RX11 285 "java/lang/IndexOutOfBoundsException" ["java/lang/RuntimeException", "java/lang/Exception"]).filter goodWord ++ (vx_atS RX11 292 "java/lang/IllegalArgumentException" ["java/lang/RuntimeException", "java/lang/Exception"]).filter goodWord ++ (vx_atS RX11 297 "java/lang/IllegalStateException" ["java/lang/RuntimeException", "java/lang/Exception"]).filter goodWord)
def wsX11_takeBack_r1 : List Cond := [Cond.fieldLink RX11 10 "OvenDays" "village" "LOvenDays$Village;", Cond.fieldLink RX11 26 "OvenDays" "undoStack" "LOvenDays$UndoStack;", Cond.methodLink RX11 87 yX1_has, Cond.instanceMethod yX1_has, Cond.selects RX1 yX1_has yX1_has, Cond.initialized RX1, Cond.code yX1_has cX1_has 2 (some .boolean), Cond.fieldLink RX1 20 "OvenDays$Batches" "count" "I", Cond.methodLink RX11 45 yX11_refuse, Cond.static yX11_refuse, Cond.initialized RX11, Cond.code yX11_refuse cX11_refuse 1 none, Cond.classLink RX11 281 "java/lang/IndexOutOfBoundsException", Cond.initialized "java/lang/IndexOutOfBoundsException", Cond.classLink RX11 288 "java/lang/IllegalArgumentException", Cond.initialized "java/lang/IllegalArgumentException", Cond.classLink RX11 293 "java/lang/IllegalStateException", Cond.initialized "java/lang/IllegalStateException", Cond.methodLink RX11 49 yX8_push, Cond.instanceMethod yX8_push, Cond.selects RX8 yX8_push yX8_push, Cond.initialized RX8, Cond.code yX8_push cX8_push 3 none, Cond.fieldLink RX8 20 "OvenDays$UndoStack" "latest" "I"]
def wsX11_takeBack_r2 : List Cond := [Cond.fieldLink RX8 16 "OvenDays$UndoStack" "count" "I", Cond.methodLink RX8 31 Lib.Math.min.name, Cond.static Lib.Math.min.name, Cond.initialized "java/lang/Math", Cond.code Lib.Math.min.name Lib.Math.min.code 2 (some .int), Cond.methodLink RX8 23 yX8_stateAt, Cond.instanceMethod yX8_stateAt, Cond.selects RX8 yX8_stateAt yX8_stateAt, Cond.code yX8_stateAt cX8_stateAt 2 (some (.object "OvenDays$Village")), Cond.fieldLink RX8 11 "OvenDays$UndoStack" "states" "[LOvenDays$Village;", Cond.methodLink RX8 27 yX9_copyFrom, Cond.instanceMethod yX9_copyFrom, Cond.selects RX9 yX9_copyFrom yX9_copyFrom, Cond.initialized RX9, Cond.code yX9_copyFrom cX9_copyFrom 2 none, Cond.fieldLink RX9 12 "OvenDays$Village" "households" "LOvenDays$Households;", Cond.fieldLink RX9 21 "OvenDays$Village" "batches" "LOvenDays$Batches;", Cond.fieldLink RX9 28 "OvenDays$Village" "loads" "LOvenDays$Loads;", Cond.fieldLink RX9 35 "OvenDays$Village" "loaves" "LOvenDays$Loaves;", Cond.fieldLink RX9 39 "OvenDays$Village" "heat" "I", Cond.fieldLink RX9 43 "OvenDays$Village" "s" "I", Cond.fieldLink RX9 59 "OvenDays$Village" "days" "I", Cond.fieldLink RX9 62 "OvenDays$Village" "dough" "I", Cond.methodLink RX9 46 yX4_copyFrom]
def wsX11_takeBack_r3 : List Cond := [Cond.instanceMethod yX4_copyFrom, Cond.selects RX4 yX4_copyFrom yX4_copyFrom, Cond.initialized RX4, Cond.code yX4_copyFrom cX4_copyFrom 2 none, Cond.fieldLink RX4 14 "OvenDays$Households" "rows" "LOvenDays$Table;", Cond.fieldLink RX4 20 "OvenDays$Households" "count" "I", Cond.methodLink RX4 24 yX7_copyFrom, Cond.instanceMethod yX7_copyFrom, Cond.selects RX7 yX7_copyFrom yX7_copyFrom, Cond.initialized RX7, Cond.code yX7_copyFrom cX7_copyFrom 4 none, Cond.fieldLink RX7 14 "OvenDays$Table" "room" "I", Cond.fieldLink RX7 9 "OvenDays$Table" "columns" "[[I", Cond.methodLink RX7 22 arraycopyName, Cond.native arraycopyName, Cond.static arraycopyName, Cond.initialized "java/lang/System", Cond.methodLink RX9 50 yX1_copyFrom, Cond.instanceMethod yX1_copyFrom, Cond.selects RX1 yX1_copyFrom yX1_copyFrom, Cond.code yX1_copyFrom cX1_copyFrom 2 none, Cond.fieldLink RX1 14 "OvenDays$Batches" "rows" "LOvenDays$Table;", Cond.methodLink RX1 24 yX7_copyFrom, Cond.methodLink RX9 53 yX5_copyFrom]
def wsX11_takeBack_r4 : List Cond := [Cond.instanceMethod yX5_copyFrom, Cond.selects RX5 yX5_copyFrom yX5_copyFrom, Cond.initialized RX5, Cond.code yX5_copyFrom cX5_copyFrom 2 none, Cond.fieldLink RX5 14 "OvenDays$Loads" "rows" "LOvenDays$Table;", Cond.fieldLink RX5 20 "OvenDays$Loads" "count" "I", Cond.methodLink RX5 24 yX7_copyFrom, Cond.methodLink RX9 56 yX6_copyFrom, Cond.instanceMethod yX6_copyFrom, Cond.selects RX6 yX6_copyFrom yX6_copyFrom, Cond.initialized RX6, Cond.code yX6_copyFrom cX6_copyFrom 2 none, Cond.fieldLink RX6 16 "OvenDays$Loaves" "rows" "LOvenDays$Table;", Cond.fieldLink RX6 28 "OvenDays$Loaves" "cameOut" "I", Cond.fieldLink RX6 32 "OvenDays$Loaves" "pale" "I", Cond.methodLink RX6 20 yX6_kept, Cond.instanceMethod yX6_kept, Cond.selects RX6 yX6_kept yX6_kept, Cond.code yX6_kept cX6_kept 1 (some .int), Cond.methodLink RX6 35 Lib.Math.min.name, Cond.methodLink RX6 24 yX7_copyFrom, Cond.methodLink RX11 91 yX1_remove, Cond.instanceMethod yX1_remove, Cond.selects RX1 yX1_remove yX1_remove]
def wsX11_takeBack_r5 : List Cond := [Cond.code yX1_remove cX1_remove 3 (some .int), Cond.methodLink RX1 28 yX7_get, Cond.instanceMethod yX7_get, Cond.selects RX7 yX7_get yX7_get, Cond.code yX7_get cX7_get 3 (some .int), Cond.methodLink RX1 39 yX7_remove, Cond.instanceMethod yX7_remove, Cond.selects RX7 yX7_remove yX7_remove, Cond.code yX7_remove cX7_remove 4 none]
def wsX11_takeBack : List Cond := .code yX11_takeBack cX11_takeBack 2 (some .int) :: ((wsX11_takeBack_r1 ++ (wsX11_takeBack_r2 ++ (wsX11_takeBack_r3 ++ (wsX11_takeBack_r4 ++ wsX11_takeBack_r5)))) ++ wsX110 ++ wsX90 ++ wsX10 ++ wsX80 ++ wsX40 ++ wsX70 ++ wsX50 ++ wsX60 ++ (vx_atS RX11 285 "java/lang/IndexOutOfBoundsException" ["java/lang/RuntimeException", "java/lang/Exception"]).filter goodWord ++ (vx_atS RX11 292 "java/lang/IllegalArgumentException" ["java/lang/RuntimeException", "java/lang/Exception"]).filter goodWord ++ (vx_atS RX11 297 "java/lang/IllegalStateException" ["java/lang/RuntimeException", "java/lang/Exception"]).filter goodWord)
def wsX11_setS_r1 : List Cond := [Cond.fieldLink RX11 26 "OvenDays" "undoStack" "LOvenDays$UndoStack;", Cond.fieldLink RX11 10 "OvenDays" "village" "LOvenDays$Village;", Cond.methodLink RX11 45 yX11_refuse, Cond.static yX11_refuse, Cond.initialized RX11, Cond.code yX11_refuse cX11_refuse 1 none, Cond.classLink RX11 281 "java/lang/IndexOutOfBoundsException", Cond.initialized "java/lang/IndexOutOfBoundsException", Cond.classLink RX11 288 "java/lang/IllegalArgumentException", Cond.initialized "java/lang/IllegalArgumentException", Cond.classLink RX11 293 "java/lang/IllegalStateException", Cond.initialized "java/lang/IllegalStateException", Cond.methodLink RX11 49 yX8_push, Cond.instanceMethod yX8_push, Cond.selects RX8 yX8_push yX8_push, Cond.initialized RX8, Cond.code yX8_push cX8_push 3 none, Cond.fieldLink RX8 20 "OvenDays$UndoStack" "latest" "I", Cond.fieldLink RX8 16 "OvenDays$UndoStack" "count" "I", Cond.methodLink RX8 31 Lib.Math.min.name, Cond.static Lib.Math.min.name, Cond.initialized "java/lang/Math", Cond.code Lib.Math.min.name Lib.Math.min.code 2 (some .int), Cond.methodLink RX8 23 yX8_stateAt]
def wsX11_setS_r2 : List Cond := [Cond.instanceMethod yX8_stateAt, Cond.selects RX8 yX8_stateAt yX8_stateAt, Cond.code yX8_stateAt cX8_stateAt 2 (some (.object "OvenDays$Village")), Cond.fieldLink RX8 11 "OvenDays$UndoStack" "states" "[LOvenDays$Village;", Cond.methodLink RX8 27 yX9_copyFrom, Cond.instanceMethod yX9_copyFrom, Cond.selects RX9 yX9_copyFrom yX9_copyFrom, Cond.initialized RX9, Cond.code yX9_copyFrom cX9_copyFrom 2 none, Cond.fieldLink RX9 12 "OvenDays$Village" "households" "LOvenDays$Households;", Cond.fieldLink RX9 21 "OvenDays$Village" "batches" "LOvenDays$Batches;", Cond.fieldLink RX9 28 "OvenDays$Village" "loads" "LOvenDays$Loads;", Cond.fieldLink RX9 35 "OvenDays$Village" "loaves" "LOvenDays$Loaves;", Cond.fieldLink RX9 39 "OvenDays$Village" "heat" "I", Cond.fieldLink RX9 43 "OvenDays$Village" "s" "I", Cond.fieldLink RX9 59 "OvenDays$Village" "days" "I", Cond.fieldLink RX9 62 "OvenDays$Village" "dough" "I", Cond.methodLink RX9 46 yX4_copyFrom, Cond.instanceMethod yX4_copyFrom, Cond.selects RX4 yX4_copyFrom yX4_copyFrom, Cond.initialized RX4, Cond.code yX4_copyFrom cX4_copyFrom 2 none, Cond.fieldLink RX4 14 "OvenDays$Households" "rows" "LOvenDays$Table;", Cond.fieldLink RX4 20 "OvenDays$Households" "count" "I"]
def wsX11_setS_r3 : List Cond := [Cond.methodLink RX4 24 yX7_copyFrom, Cond.instanceMethod yX7_copyFrom, Cond.selects RX7 yX7_copyFrom yX7_copyFrom, Cond.initialized RX7, Cond.code yX7_copyFrom cX7_copyFrom 4 none, Cond.fieldLink RX7 14 "OvenDays$Table" "room" "I", Cond.fieldLink RX7 9 "OvenDays$Table" "columns" "[[I", Cond.methodLink RX7 22 arraycopyName, Cond.native arraycopyName, Cond.static arraycopyName, Cond.initialized "java/lang/System", Cond.methodLink RX9 50 yX1_copyFrom, Cond.instanceMethod yX1_copyFrom, Cond.selects RX1 yX1_copyFrom yX1_copyFrom, Cond.initialized RX1, Cond.code yX1_copyFrom cX1_copyFrom 2 none, Cond.fieldLink RX1 14 "OvenDays$Batches" "rows" "LOvenDays$Table;", Cond.fieldLink RX1 20 "OvenDays$Batches" "count" "I", Cond.methodLink RX1 24 yX7_copyFrom, Cond.methodLink RX9 53 yX5_copyFrom, Cond.instanceMethod yX5_copyFrom, Cond.selects RX5 yX5_copyFrom yX5_copyFrom, Cond.initialized RX5, Cond.code yX5_copyFrom cX5_copyFrom 2 none]
def wsX11_setS_r4 : List Cond := [Cond.fieldLink RX5 14 "OvenDays$Loads" "rows" "LOvenDays$Table;", Cond.fieldLink RX5 20 "OvenDays$Loads" "count" "I", Cond.methodLink RX5 24 yX7_copyFrom, Cond.methodLink RX9 56 yX6_copyFrom, Cond.instanceMethod yX6_copyFrom, Cond.selects RX6 yX6_copyFrom yX6_copyFrom, Cond.initialized RX6, Cond.code yX6_copyFrom cX6_copyFrom 2 none, Cond.fieldLink RX6 16 "OvenDays$Loaves" "rows" "LOvenDays$Table;", Cond.fieldLink RX6 28 "OvenDays$Loaves" "cameOut" "I", Cond.fieldLink RX6 32 "OvenDays$Loaves" "pale" "I", Cond.methodLink RX6 20 yX6_kept, Cond.instanceMethod yX6_kept, Cond.selects RX6 yX6_kept yX6_kept, Cond.code yX6_kept cX6_kept 1 (some .int), Cond.methodLink RX6 35 Lib.Math.min.name, Cond.methodLink RX6 24 yX7_copyFrom, Cond.methodLink RX11 94 yX9_changeS, Cond.instanceMethod yX9_changeS, Cond.selects RX9 yX9_changeS yX9_changeS, Cond.code yX9_changeS cX9_changeS 3 (some .int)]
def wsX11_setS : List Cond := .code yX11_setS cX11_setS 2 (some .int) :: ((wsX11_setS_r1 ++ (wsX11_setS_r2 ++ (wsX11_setS_r3 ++ wsX11_setS_r4))) ++ wsX110 ++ wsX80 ++ wsX90 ++ wsX40 ++ wsX70 ++ wsX10 ++ wsX50 ++ wsX60 ++ (vx_atS RX11 285 "java/lang/IndexOutOfBoundsException" ["java/lang/RuntimeException", "java/lang/Exception"]).filter goodWord ++ (vx_atS RX11 292 "java/lang/IllegalArgumentException" ["java/lang/RuntimeException", "java/lang/Exception"]).filter goodWord ++ (vx_atS RX11 297 "java/lang/IllegalStateException" ["java/lang/RuntimeException", "java/lang/Exception"]).filter goodWord)
def wsX11_bake_r1 : List Cond := [Cond.fieldLink RX11 10 "OvenDays" "village" "LOvenDays$Village;", Cond.fieldLink RX11 26 "OvenDays" "undoStack" "LOvenDays$UndoStack;", Cond.fieldLink RX11 19 "OvenDays" "plan" "LOvenDays$DayPlan;", Cond.methodLink RX11 97 yX9_whyNoDay, Cond.instanceMethod yX9_whyNoDay, Cond.selects RX9 yX9_whyNoDay yX9_whyNoDay, Cond.initialized RX9, Cond.code yX9_whyNoDay cX9_whyNoDay 2 (some .int), Cond.fieldLink RX9 21 "OvenDays$Village" "batches" "LOvenDays$Batches;", Cond.static yX11_whyNotWithin, Cond.initialized RX11, Cond.code yX11_whyNotWithin cX11_whyNotWithin 3 (some .int), Cond.methodLink RX9 87 yX1_size, Cond.instanceMethod yX1_size, Cond.selects RX1 yX1_size yX1_size, Cond.initialized RX1, Cond.code yX1_size cX1_size 1 (some .int), Cond.fieldLink RX1 20 "OvenDays$Batches" "count" "I", Cond.methodLink RX11 45 yX11_refuse, Cond.static yX11_refuse, Cond.code yX11_refuse cX11_refuse 1 none, Cond.classLink RX11 281 "java/lang/IndexOutOfBoundsException", Cond.initialized "java/lang/IndexOutOfBoundsException", Cond.classLink RX11 288 "java/lang/IllegalArgumentException"]
def wsX11_bake_r2 : List Cond := [Cond.initialized "java/lang/IllegalArgumentException", Cond.classLink RX11 293 "java/lang/IllegalStateException", Cond.initialized "java/lang/IllegalStateException", Cond.methodLink RX11 49 yX8_push, Cond.instanceMethod yX8_push, Cond.selects RX8 yX8_push yX8_push, Cond.initialized RX8, Cond.code yX8_push cX8_push 3 none, Cond.fieldLink RX8 20 "OvenDays$UndoStack" "latest" "I", Cond.fieldLink RX8 16 "OvenDays$UndoStack" "count" "I", Cond.methodLink RX8 31 Lib.Math.min.name, Cond.static Lib.Math.min.name, Cond.initialized "java/lang/Math", Cond.code Lib.Math.min.name Lib.Math.min.code 2 (some .int), Cond.methodLink RX8 23 yX8_stateAt, Cond.instanceMethod yX8_stateAt, Cond.selects RX8 yX8_stateAt yX8_stateAt, Cond.code yX8_stateAt cX8_stateAt 2 (some (.object "OvenDays$Village")), Cond.fieldLink RX8 11 "OvenDays$UndoStack" "states" "[LOvenDays$Village;", Cond.methodLink RX8 27 yX9_copyFrom, Cond.instanceMethod yX9_copyFrom, Cond.selects RX9 yX9_copyFrom yX9_copyFrom, Cond.code yX9_copyFrom cX9_copyFrom 2 none, Cond.fieldLink RX9 12 "OvenDays$Village" "households" "LOvenDays$Households;"]
def wsX11_bake_r3 : List Cond := [Cond.fieldLink RX9 28 "OvenDays$Village" "loads" "LOvenDays$Loads;", Cond.fieldLink RX9 35 "OvenDays$Village" "loaves" "LOvenDays$Loaves;", Cond.fieldLink RX9 39 "OvenDays$Village" "heat" "I", Cond.fieldLink RX9 43 "OvenDays$Village" "s" "I", Cond.fieldLink RX9 59 "OvenDays$Village" "days" "I", Cond.fieldLink RX9 62 "OvenDays$Village" "dough" "I", Cond.methodLink RX9 46 yX4_copyFrom, Cond.instanceMethod yX4_copyFrom, Cond.selects RX4 yX4_copyFrom yX4_copyFrom, Cond.initialized RX4, Cond.code yX4_copyFrom cX4_copyFrom 2 none, Cond.fieldLink RX4 14 "OvenDays$Households" "rows" "LOvenDays$Table;", Cond.fieldLink RX4 20 "OvenDays$Households" "count" "I", Cond.methodLink RX4 24 yX7_copyFrom, Cond.instanceMethod yX7_copyFrom, Cond.selects RX7 yX7_copyFrom yX7_copyFrom, Cond.initialized RX7, Cond.code yX7_copyFrom cX7_copyFrom 4 none, Cond.fieldLink RX7 14 "OvenDays$Table" "room" "I", Cond.fieldLink RX7 9 "OvenDays$Table" "columns" "[[I", Cond.methodLink RX7 22 arraycopyName, Cond.native arraycopyName, Cond.static arraycopyName, Cond.initialized "java/lang/System"]
def wsX11_bake_r4 : List Cond := [Cond.methodLink RX9 50 yX1_copyFrom, Cond.instanceMethod yX1_copyFrom, Cond.selects RX1 yX1_copyFrom yX1_copyFrom, Cond.code yX1_copyFrom cX1_copyFrom 2 none, Cond.fieldLink RX1 14 "OvenDays$Batches" "rows" "LOvenDays$Table;", Cond.methodLink RX1 24 yX7_copyFrom, Cond.methodLink RX9 53 yX5_copyFrom, Cond.instanceMethod yX5_copyFrom, Cond.selects RX5 yX5_copyFrom yX5_copyFrom, Cond.initialized RX5, Cond.code yX5_copyFrom cX5_copyFrom 2 none, Cond.fieldLink RX5 14 "OvenDays$Loads" "rows" "LOvenDays$Table;", Cond.fieldLink RX5 20 "OvenDays$Loads" "count" "I", Cond.methodLink RX5 24 yX7_copyFrom, Cond.methodLink RX9 56 yX6_copyFrom, Cond.instanceMethod yX6_copyFrom, Cond.selects RX6 yX6_copyFrom yX6_copyFrom, Cond.initialized RX6, Cond.code yX6_copyFrom cX6_copyFrom 2 none, Cond.fieldLink RX6 16 "OvenDays$Loaves" "rows" "LOvenDays$Table;", Cond.fieldLink RX6 28 "OvenDays$Loaves" "cameOut" "I", Cond.fieldLink RX6 32 "OvenDays$Loaves" "pale" "I", Cond.methodLink RX6 20 yX6_kept, Cond.instanceMethod yX6_kept]
def wsX11_bake_r5 : List Cond := [Cond.selects RX6 yX6_kept yX6_kept, Cond.code yX6_kept cX6_kept 1 (some .int), Cond.methodLink RX6 35 Lib.Math.min.name, Cond.methodLink RX6 24 yX7_copyFrom, Cond.methodLink RX11 100 yX9_haveDay, Cond.instanceMethod yX9_haveDay, Cond.selects RX9 yX9_haveDay yX9_haveDay, Cond.code yX9_haveDay cX9_haveDay 5 (some .int), Cond.methodLink RX9 146 Lib.Math.max.name, Cond.static Lib.Math.max.name, Cond.code Lib.Math.max.name Lib.Math.max.code 2 (some .int), Cond.methodLink RX9 112 yX6_cameOut, Cond.instanceMethod yX6_cameOut, Cond.selects RX6 yX6_cameOut yX6_cameOut, Cond.code yX6_cameOut cX6_cameOut 1 (some .int), Cond.methodLink RX9 115 yX9_arrangeNextDay, Cond.instanceMethod yX9_arrangeNextDay, Cond.selects RX9 yX9_arrangeNextDay yX9_arrangeNextDay, Cond.code yX9_arrangeNextDay cX9_arrangeNextDay 2 none, Cond.methodLink RX9 102 yX4_size, Cond.instanceMethod yX4_size, Cond.selects RX4 yX4_size yX4_size, Cond.code yX4_size cX4_size 1 (some .int), Cond.methodLink RX9 103 yX4_nextOne]
def wsX11_bake_r6 : List Cond := [Cond.instanceMethod yX4_nextOne, Cond.selects RX4 yX4_nextOne yX4_nextOne, Cond.code yX4_nextOne cX4_nextOne 8 (some .int), Cond.methodLink RX4 39 yX7_count, Cond.instanceMethod yX7_count, Cond.selects RX7 yX7_count yX7_count, Cond.code yX7_count cX7_count 4 (some .int), Cond.methodLink RX7 18 yX7_countBoth, Cond.instanceMethod yX7_countBoth, Cond.selects RX7 yX7_countBoth yX7_countBoth, Cond.code yX7_countBoth cX7_countBoth 10 (some .int), Cond.methodLink RX4 28 yX7_get, Cond.instanceMethod yX7_get, Cond.selects RX7 yX7_get yX7_get, Cond.code yX7_get cX7_get 3 (some .int), Cond.methodLink RX4 46 yX4_dueOf, Cond.instanceMethod yX4_dueOf, Cond.selects RX4 yX4_dueOf yX4_dueOf, Cond.code yX4_dueOf cX4_dueOf 6 (some .long), Cond.methodLink RX4 32 yX7_sum, Cond.instanceMethod yX7_sum, Cond.selects RX7 yX7_sum yX7_sum, Cond.code yX7_sum cX7_sum 6 (some .int), Cond.methodLink RX9 106 yX3_arrange]
def wsX11_bake_r7 : List Cond := [Cond.instanceMethod yX3_arrange, Cond.selects RX3 yX3_arrange yX3_arrange, Cond.initialized RX3, Cond.code yX3_arrange cX3_arrange 7 none, Cond.fieldLink RX3 31 "OvenDays$DayPlan" "count" "I", Cond.fieldLink RX3 9 "OvenDays$DayPlan" "order" "[I", Cond.methodLink RX3 35 yX1_size, Cond.methodLink RX3 41 yX1_value, Cond.instanceMethod yX1_value, Cond.selects RX1 yX1_value yX1_value, Cond.code yX1_value cX1_value 3 (some .int), Cond.methodLink RX1 28 yX7_get, Cond.methodLink RX9 119 yX4_bringWood, Cond.instanceMethod yX4_bringWood, Cond.selects RX4 yX4_bringWood yX4_bringWood, Cond.code yX4_bringWood cX4_bringWood 4 none, Cond.methodLink RX4 42 yX4_nextOne, Cond.methodLink RX4 35 yX7_put, Cond.instanceMethod yX7_put, Cond.selects RX7 yX7_put yX7_put, Cond.code yX7_put cX7_put 4 none, Cond.methodLink RX9 123 yX9_heatWith, Cond.instanceMethod yX9_heatWith, Cond.selects RX9 yX9_heatWith yX9_heatWith]
def wsX11_bake_r8 : List Cond := [Cond.code yX9_heatWith cX9_heatWith 2 (some .int), Cond.methodLink RX9 97 Lib.Math.min.name, Cond.methodLink RX9 126 yX3_fire, Cond.instanceMethod yX3_fire, Cond.selects RX3 yX3_fire yX3_fire, Cond.code yX3_fire cX3_fire 5 none, Cond.fieldLink RX3 45 "OvenDays$DayPlan" "heat" "I", Cond.fieldLink RX3 52 "OvenDays$DayPlan" "left" "I", Cond.methodLink RX3 66 Lib.Math.max.name, Cond.methodLink RX3 48 yX3_startWaiting, Cond.instanceMethod yX3_startWaiting, Cond.selects RX3 yX3_startWaiting yX3_startWaiting, Cond.code yX3_startWaiting cX3_startWaiting 4 none, Cond.fieldLink RX3 24 "OvenDays$DayPlan" "loads" "LOvenDays$Loads;", Cond.fieldLink RX3 18 "OvenDays$DayPlan" "waiting" "[I", Cond.fieldLink RX3 15 "OvenDays$DayPlan" "loadAt" "[I", Cond.methodLink RX3 71 yX5_clear, Cond.instanceMethod yX5_clear, Cond.selects RX5 yX5_clear yX5_clear, Cond.code yX5_clear cX5_clear 1 none, Cond.methodLink RX3 55 yX3_kindForHeat, Cond.instanceMethod yX3_kindForHeat, Cond.selects RX3 yX3_kindForHeat yX3_kindForHeat, Cond.code yX3_kindForHeat cX3_kindForHeat 2 (some .int)]
def wsX11_bake_r9 : List Cond := [Cond.fieldLink RX3 28 "OvenDays$DayPlan" "LOWEST" "[I", Cond.fieldLink RX3 74 "OvenDays$DayPlan" "GREATEST" "[I", Cond.methodLink RX3 58 yX3_bakeLoad, Cond.instanceMethod yX3_bakeLoad, Cond.selects RX3 yX3_bakeLoad yX3_bakeLoad, Cond.code yX3_bakeLoad cX3_bakeLoad 9 none, Cond.fieldLink RX3 78 "OvenDays$DayPlan" "TICKS" "[I", Cond.methodLink RX3 77 yX5_size, Cond.instanceMethod yX5_size, Cond.selects RX5 yX5_size yX5_size, Cond.code yX5_size cX5_size 1 (some .int), Cond.methodLink RX3 81 yX5_add, Cond.instanceMethod yX5_add, Cond.selects RX5 yX5_add yX5_add, Cond.code yX5_add cX5_add 6 none, Cond.methodLink RX5 32 yX7_put, Cond.methodLink RX3 62 yX3_isTooHotForSome, Cond.instanceMethod yX3_isTooHotForSome, Cond.selects RX3 yX3_isTooHotForSome yX3_isTooHotForSome, Cond.code yX3_isTooHotForSome cX3_isTooHotForSome 2 (some .boolean), Cond.methodLink RX9 130 yX3_loads, Cond.instanceMethod yX3_loads, Cond.selects RX3 yX3_loads yX3_loads, Cond.code yX3_loads cX3_loads 1 (some (.object "OvenDays$Loads"))]
def wsX11_bake_r10 : List Cond := [Cond.methodLink RX9 133 yX9_bakeLoads, Cond.instanceMethod yX9_bakeLoads, Cond.selects RX9 yX9_bakeLoads yX9_bakeLoads, Cond.code yX9_bakeLoads cX9_bakeLoads 6 (some .int), Cond.methodLink RX9 152 yX5_size, Cond.methodLink RX9 153 yX3_size, Cond.instanceMethod yX3_size, Cond.selects RX3 yX3_size yX3_size, Cond.code yX3_size cX3_size 1 (some .int), Cond.methodLink RX9 154 yX3_loadAt, Cond.instanceMethod yX3_loadAt, Cond.selects RX3 yX3_loadAt yX3_loadAt, Cond.code yX3_loadAt cX3_loadAt 2 (some .int), Cond.methodLink RX9 157 yX3_batchAt, Cond.instanceMethod yX3_batchAt, Cond.selects RX3 yX3_batchAt yX3_batchAt, Cond.code yX3_batchAt cX3_batchAt 2 (some .int), Cond.methodLink RX9 160 yX5_value, Cond.instanceMethod yX5_value, Cond.selects RX5 yX5_value yX5_value, Cond.code yX5_value cX5_value 3 (some .int), Cond.methodLink RX5 28 yX7_get, Cond.methodLink RX9 161 yX9_bakeBatch, Cond.instanceMethod yX9_bakeBatch]
def wsX11_bake_r11 : List Cond := [Cond.selects RX9 yX9_bakeBatch yX9_bakeBatch, Cond.code yX9_bakeBatch cX9_bakeBatch 9 none, Cond.methodLink RX9 165 yX1_value, Cond.methodLink RX9 91 yX4_value, Cond.instanceMethod yX4_value, Cond.selects RX4 yX4_value yX4_value, Cond.code yX4_value cX4_value 3 (some .int), Cond.methodLink RX9 166 yX3_paleBelow, Cond.static yX3_paleBelow, Cond.code yX3_paleBelow cX3_paleBelow 1 (some .int), Cond.methodLink RX9 169 yX4_putIn, Cond.instanceMethod yX4_putIn, Cond.selects RX4 yX4_putIn yX4_putIn, Cond.code yX4_putIn cX4_putIn 3 none, Cond.methodLink RX9 172 yX9_blur, Cond.instanceMethod yX9_blur, Cond.selects RX9 yX9_blur yX9_blur, Cond.code yX9_blur cX9_blur 5 (some .int), Cond.methodLink RX9 179 yX9_draw, Cond.instanceMethod yX9_draw, Cond.selects RX9 yX9_draw yX9_draw, Cond.code yX9_draw cX9_draw 2 (some .int), Cond.constantLong RX9 182 (1103515245), Cond.constantLong RX9 184 (12345)]
def wsX11_bake_r12 : List Cond := [Cond.constantLong RX9 186 (2147483647), Cond.methodLink RX9 175 yX6_add, Cond.instanceMethod yX6_add, Cond.selects RX6 yX6_add yX6_add, Cond.code yX6_add cX6_add 8 none, Cond.methodLink RX6 47 yX7_put, Cond.methodLink RX6 51 yJ6_bitCount_0f7a4, Cond.static yJ6_bitCount_0f7a4, Cond.initialized RJ6, Cond.code yJ6_bitCount_0f7a4 cJ6_bitCount_0f7a4 1 (some .int), Cond.constant RJ6 265 (1431655765), Cond.constant RJ6 266 (858993459), Cond.constant RJ6 267 (252645135), Cond.methodLink RX9 137 yX6_sortFrom, Cond.instanceMethod yX6_sortFrom, Cond.selects RX6 yX6_sortFrom yX6_sortFrom, Cond.code yX6_sortFrom cX6_sortFrom 5 none, Cond.methodLink RX6 57 Lib.Math.max.name, Cond.methodLink RX6 41 yX6_firstKept, Cond.instanceMethod yX6_firstKept, Cond.selects RX6 yX6_firstKept yX6_firstKept, Cond.code yX6_firstKept cX6_firstKept 1 (some .int), Cond.methodLink RX6 60 yX6_value, Cond.instanceMethod yX6_value]
def wsX11_bake_r13 : List Cond := [Cond.selects RX6 yX6_value yX6_value, Cond.code yX6_value cX6_value 3 (some .int), Cond.methodLink RX6 44 yX7_get, Cond.methodLink RX6 63 yX4_takerOf, Cond.instanceMethod yX4_takerOf, Cond.selects RX4 yX4_takerOf yX4_takerOf, Cond.code yX4_takerOf cX4_takerOf 8 (some .int), Cond.static yX11_contains, Cond.code yX11_contains cX11_contains 2 (some .boolean), Cond.methodLink RX4 54 yJ6_bitCount_0f7a4, Cond.methodLink RX6 68 yX6_give, Cond.instanceMethod yX6_give, Cond.selects RX6 yX6_give yX6_give, Cond.code yX6_give cX6_give 3 none, Cond.methodLink RX9 141 yX3_dough, Cond.instanceMethod yX3_dough, Cond.selects RX3 yX3_dough yX3_dough, Cond.code yX3_dough cX3_dough 4 (some .int), Cond.methodLink RX3 89 yX3_loadAt, Cond.methodLink RX3 85 yX3_batchAt, Cond.methodLink RX9 144 yX3_heat, Cond.instanceMethod yX3_heat, Cond.selects RX3 yX3_heat yX3_heat, Cond.code yX3_heat cX3_heat 1 (some .int)]
def wsX11_bake_r14 : List Cond := [Cond.methodLink RX9 149 yX1_clear, Cond.instanceMethod yX1_clear, Cond.selects RX1 yX1_clear yX1_clear, Cond.code yX1_clear cX1_clear 1 none]
def wsX11_bake : List Cond := .code yX11_bake cX11_bake 2 (some .int) :: ((wsX11_bake_r1 ++ (wsX11_bake_r2 ++ (wsX11_bake_r3 ++ (wsX11_bake_r4 ++ (wsX11_bake_r5 ++ (wsX11_bake_r6 ++ (wsX11_bake_r7 ++ (wsX11_bake_r8 ++ (wsX11_bake_r9 ++ (wsX11_bake_r10 ++ (wsX11_bake_r11 ++ (wsX11_bake_r12 ++ (wsX11_bake_r13 ++ wsX11_bake_r14))))))))))))) ++ wsX110 ++ wsX90 ++ wsX10 ++ wsX80 ++ wsX40 ++ wsX70 ++ wsX50 ++ wsX60 ++ wsX30 ++ (vx_atS RX11 285 "java/lang/IndexOutOfBoundsException" ["java/lang/RuntimeException", "java/lang/Exception"]).filter goodWord ++ (vx_atS RX11 292 "java/lang/IllegalArgumentException" ["java/lang/RuntimeException", "java/lang/Exception"]).filter goodWord ++ (vx_atS RX11 297 "java/lang/IllegalStateException" ["java/lang/RuntimeException", "java/lang/Exception"]).filter goodWord)
def wsX11_claim_r1 : List Cond := [Cond.fieldLink RX11 10 "OvenDays" "village" "LOvenDays$Village;", Cond.fieldLink RX11 26 "OvenDays" "undoStack" "LOvenDays$UndoStack;", Cond.methodLink RX11 69 yX9_whyNoHousehold, Cond.instanceMethod yX9_whyNoHousehold, Cond.selects RX9 yX9_whyNoHousehold yX9_whyNoHousehold, Cond.initialized RX9, Cond.code yX9_whyNoHousehold cX9_whyNoHousehold 2 (some .int), Cond.fieldLink RX9 12 "OvenDays$Village" "households" "LOvenDays$Households;", Cond.methodLink RX9 65 yX4_has, Cond.instanceMethod yX4_has, Cond.selects RX4 yX4_has yX4_has, Cond.initialized RX4, Cond.code yX4_has cX4_has 2 (some .boolean), Cond.fieldLink RX4 20 "OvenDays$Households" "count" "I", Cond.methodLink RX11 45 yX11_refuse, Cond.static yX11_refuse, Cond.initialized RX11, Cond.code yX11_refuse cX11_refuse 1 none, Cond.classLink RX11 281 "java/lang/IndexOutOfBoundsException", Cond.initialized "java/lang/IndexOutOfBoundsException", Cond.classLink RX11 288 "java/lang/IllegalArgumentException", Cond.initialized "java/lang/IllegalArgumentException", Cond.classLink RX11 293 "java/lang/IllegalStateException", Cond.initialized "java/lang/IllegalStateException"]
def wsX11_claim_r2 : List Cond := [Cond.methodLink RX11 49 yX8_push, Cond.instanceMethod yX8_push, Cond.selects RX8 yX8_push yX8_push, Cond.initialized RX8, Cond.code yX8_push cX8_push 3 none, Cond.fieldLink RX8 20 "OvenDays$UndoStack" "latest" "I", Cond.fieldLink RX8 16 "OvenDays$UndoStack" "count" "I", Cond.methodLink RX8 31 Lib.Math.min.name, Cond.static Lib.Math.min.name, Cond.initialized "java/lang/Math", Cond.code Lib.Math.min.name Lib.Math.min.code 2 (some .int), Cond.methodLink RX8 23 yX8_stateAt, Cond.instanceMethod yX8_stateAt, Cond.selects RX8 yX8_stateAt yX8_stateAt, Cond.code yX8_stateAt cX8_stateAt 2 (some (.object "OvenDays$Village")), Cond.fieldLink RX8 11 "OvenDays$UndoStack" "states" "[LOvenDays$Village;", Cond.methodLink RX8 27 yX9_copyFrom, Cond.instanceMethod yX9_copyFrom, Cond.selects RX9 yX9_copyFrom yX9_copyFrom, Cond.code yX9_copyFrom cX9_copyFrom 2 none, Cond.fieldLink RX9 21 "OvenDays$Village" "batches" "LOvenDays$Batches;", Cond.fieldLink RX9 28 "OvenDays$Village" "loads" "LOvenDays$Loads;", Cond.fieldLink RX9 35 "OvenDays$Village" "loaves" "LOvenDays$Loaves;", Cond.fieldLink RX9 39 "OvenDays$Village" "heat" "I"]
def wsX11_claim_r3 : List Cond := [Cond.fieldLink RX9 43 "OvenDays$Village" "s" "I", Cond.fieldLink RX9 59 "OvenDays$Village" "days" "I", Cond.fieldLink RX9 62 "OvenDays$Village" "dough" "I", Cond.methodLink RX9 46 yX4_copyFrom, Cond.instanceMethod yX4_copyFrom, Cond.selects RX4 yX4_copyFrom yX4_copyFrom, Cond.code yX4_copyFrom cX4_copyFrom 2 none, Cond.fieldLink RX4 14 "OvenDays$Households" "rows" "LOvenDays$Table;", Cond.methodLink RX4 24 yX7_copyFrom, Cond.instanceMethod yX7_copyFrom, Cond.selects RX7 yX7_copyFrom yX7_copyFrom, Cond.initialized RX7, Cond.code yX7_copyFrom cX7_copyFrom 4 none, Cond.fieldLink RX7 14 "OvenDays$Table" "room" "I", Cond.fieldLink RX7 9 "OvenDays$Table" "columns" "[[I", Cond.methodLink RX7 22 arraycopyName, Cond.native arraycopyName, Cond.static arraycopyName, Cond.initialized "java/lang/System", Cond.methodLink RX9 50 yX1_copyFrom, Cond.instanceMethod yX1_copyFrom, Cond.selects RX1 yX1_copyFrom yX1_copyFrom, Cond.initialized RX1, Cond.code yX1_copyFrom cX1_copyFrom 2 none]
def wsX11_claim_r4 : List Cond := [Cond.fieldLink RX1 14 "OvenDays$Batches" "rows" "LOvenDays$Table;", Cond.fieldLink RX1 20 "OvenDays$Batches" "count" "I", Cond.methodLink RX1 24 yX7_copyFrom, Cond.methodLink RX9 53 yX5_copyFrom, Cond.instanceMethod yX5_copyFrom, Cond.selects RX5 yX5_copyFrom yX5_copyFrom, Cond.initialized RX5, Cond.code yX5_copyFrom cX5_copyFrom 2 none, Cond.fieldLink RX5 14 "OvenDays$Loads" "rows" "LOvenDays$Table;", Cond.fieldLink RX5 20 "OvenDays$Loads" "count" "I", Cond.methodLink RX5 24 yX7_copyFrom, Cond.methodLink RX9 56 yX6_copyFrom, Cond.instanceMethod yX6_copyFrom, Cond.selects RX6 yX6_copyFrom yX6_copyFrom, Cond.initialized RX6, Cond.code yX6_copyFrom cX6_copyFrom 2 none, Cond.fieldLink RX6 16 "OvenDays$Loaves" "rows" "LOvenDays$Table;", Cond.fieldLink RX6 28 "OvenDays$Loaves" "cameOut" "I", Cond.fieldLink RX6 32 "OvenDays$Loaves" "pale" "I", Cond.methodLink RX6 20 yX6_kept, Cond.instanceMethod yX6_kept, Cond.selects RX6 yX6_kept yX6_kept, Cond.code yX6_kept cX6_kept 1 (some .int), Cond.methodLink RX6 35 Lib.Math.min.name]
def wsX11_claim_r5 : List Cond := [Cond.methodLink RX6 24 yX7_copyFrom, Cond.methodLink RX11 104 yX9_letClaim, Cond.instanceMethod yX9_letClaim, Cond.selects RX9 yX9_letClaim yX9_letClaim, Cond.code yX9_letClaim cX9_letClaim 2 (some .int), Cond.methodLink RX9 91 yX4_value, Cond.instanceMethod yX4_value, Cond.selects RX4 yX4_value yX4_value, Cond.code yX4_value cX4_value 3 (some .int), Cond.methodLink RX4 28 yX7_get, Cond.instanceMethod yX7_get, Cond.selects RX7 yX7_get yX7_get, Cond.code yX7_get cX7_get 3 (some .int), Cond.methodLink RX9 94 yX6_moveFromShelf, Cond.instanceMethod yX6_moveFromShelf, Cond.selects RX6 yX6_moveFromShelf yX6_moveFromShelf, Cond.code yX6_moveFromShelf cX6_moveFromShelf 7 (some .int), Cond.methodLink RX6 83 yX6_balanceOf, Cond.instanceMethod yX6_balanceOf, Cond.selects RX6 yX6_balanceOf yX6_balanceOf, Cond.code yX6_balanceOf cX6_balanceOf 3 (some .int), Cond.methodLink RX6 79 yX6_countWithBoth, Cond.instanceMethod yX6_countWithBoth, Cond.selects RX6 yX6_countWithBoth yX6_countWithBoth]
def wsX11_claim_r6 : List Cond := [Cond.code yX6_countWithBoth cX6_countWithBoth 5 (some .int), Cond.methodLink RX6 75 yX7_countBoth, Cond.instanceMethod yX7_countBoth, Cond.selects RX7 yX7_countBoth yX7_countBoth, Cond.code yX7_countBoth cX7_countBoth 10 (some .int), Cond.methodLink RX6 41 yX6_firstKept, Cond.instanceMethod yX6_firstKept, Cond.selects RX6 yX6_firstKept yX6_firstKept, Cond.code yX6_firstKept cX6_firstKept 1 (some .int), Cond.methodLink RX6 60 yX6_value, Cond.instanceMethod yX6_value, Cond.selects RX6 yX6_value yX6_value, Cond.code yX6_value cX6_value 3 (some .int), Cond.methodLink RX6 44 yX7_get, Cond.static yX11_contains, Cond.code yX11_contains cX11_contains 2 (some .boolean), Cond.methodLink RX6 68 yX6_give, Cond.instanceMethod yX6_give, Cond.selects RX6 yX6_give yX6_give, Cond.code yX6_give cX6_give 3 none, Cond.methodLink RX6 47 yX7_put, Cond.instanceMethod yX7_put, Cond.selects RX7 yX7_put yX7_put, Cond.code yX7_put cX7_put 4 none]
def wsX11_claim : List Cond := .code yX11_claim cX11_claim 2 (some .int) :: ((wsX11_claim_r1 ++ (wsX11_claim_r2 ++ (wsX11_claim_r3 ++ (wsX11_claim_r4 ++ (wsX11_claim_r5 ++ wsX11_claim_r6))))) ++ wsX110 ++ wsX90 ++ wsX40 ++ wsX80 ++ wsX70 ++ wsX10 ++ wsX50 ++ wsX60 ++ (vx_atS RX11 285 "java/lang/IndexOutOfBoundsException" ["java/lang/RuntimeException", "java/lang/Exception"]).filter goodWord ++ (vx_atS RX11 292 "java/lang/IllegalArgumentException" ["java/lang/RuntimeException", "java/lang/Exception"]).filter goodWord ++ (vx_atS RX11 297 "java/lang/IllegalStateException" ["java/lang/RuntimeException", "java/lang/Exception"]).filter goodWord)
def wsX11_returnLoaves_r1 : List Cond := [Cond.fieldLink RX11 10 "OvenDays" "village" "LOvenDays$Village;", Cond.fieldLink RX11 26 "OvenDays" "undoStack" "LOvenDays$UndoStack;", Cond.methodLink RX11 69 yX9_whyNoHousehold, Cond.instanceMethod yX9_whyNoHousehold, Cond.selects RX9 yX9_whyNoHousehold yX9_whyNoHousehold, Cond.initialized RX9, Cond.code yX9_whyNoHousehold cX9_whyNoHousehold 2 (some .int), Cond.fieldLink RX9 12 "OvenDays$Village" "households" "LOvenDays$Households;", Cond.methodLink RX9 65 yX4_has, Cond.instanceMethod yX4_has, Cond.selects RX4 yX4_has yX4_has, Cond.initialized RX4, Cond.code yX4_has cX4_has 2 (some .boolean), Cond.fieldLink RX4 20 "OvenDays$Households" "count" "I", Cond.methodLink RX11 45 yX11_refuse, Cond.static yX11_refuse, Cond.initialized RX11, Cond.code yX11_refuse cX11_refuse 1 none, Cond.classLink RX11 281 "java/lang/IndexOutOfBoundsException", Cond.initialized "java/lang/IndexOutOfBoundsException", Cond.classLink RX11 288 "java/lang/IllegalArgumentException", Cond.initialized "java/lang/IllegalArgumentException", Cond.classLink RX11 293 "java/lang/IllegalStateException", Cond.initialized "java/lang/IllegalStateException"]
def wsX11_returnLoaves_r2 : List Cond := [Cond.methodLink RX11 49 yX8_push, Cond.instanceMethod yX8_push, Cond.selects RX8 yX8_push yX8_push, Cond.initialized RX8, Cond.code yX8_push cX8_push 3 none, Cond.fieldLink RX8 20 "OvenDays$UndoStack" "latest" "I", Cond.fieldLink RX8 16 "OvenDays$UndoStack" "count" "I", Cond.methodLink RX8 31 Lib.Math.min.name, Cond.static Lib.Math.min.name, Cond.initialized "java/lang/Math", Cond.code Lib.Math.min.name Lib.Math.min.code 2 (some .int), Cond.methodLink RX8 23 yX8_stateAt, Cond.instanceMethod yX8_stateAt, Cond.selects RX8 yX8_stateAt yX8_stateAt, Cond.code yX8_stateAt cX8_stateAt 2 (some (.object "OvenDays$Village")), Cond.fieldLink RX8 11 "OvenDays$UndoStack" "states" "[LOvenDays$Village;", Cond.methodLink RX8 27 yX9_copyFrom, Cond.instanceMethod yX9_copyFrom, Cond.selects RX9 yX9_copyFrom yX9_copyFrom, Cond.code yX9_copyFrom cX9_copyFrom 2 none, Cond.fieldLink RX9 21 "OvenDays$Village" "batches" "LOvenDays$Batches;", Cond.fieldLink RX9 28 "OvenDays$Village" "loads" "LOvenDays$Loads;", Cond.fieldLink RX9 35 "OvenDays$Village" "loaves" "LOvenDays$Loaves;", Cond.fieldLink RX9 39 "OvenDays$Village" "heat" "I"]
def wsX11_returnLoaves_r3 : List Cond := [Cond.fieldLink RX9 43 "OvenDays$Village" "s" "I", Cond.fieldLink RX9 59 "OvenDays$Village" "days" "I", Cond.fieldLink RX9 62 "OvenDays$Village" "dough" "I", Cond.methodLink RX9 46 yX4_copyFrom, Cond.instanceMethod yX4_copyFrom, Cond.selects RX4 yX4_copyFrom yX4_copyFrom, Cond.code yX4_copyFrom cX4_copyFrom 2 none, Cond.fieldLink RX4 14 "OvenDays$Households" "rows" "LOvenDays$Table;", Cond.methodLink RX4 24 yX7_copyFrom, Cond.instanceMethod yX7_copyFrom, Cond.selects RX7 yX7_copyFrom yX7_copyFrom, Cond.initialized RX7, Cond.code yX7_copyFrom cX7_copyFrom 4 none, Cond.fieldLink RX7 14 "OvenDays$Table" "room" "I", Cond.fieldLink RX7 9 "OvenDays$Table" "columns" "[[I", Cond.methodLink RX7 22 arraycopyName, Cond.native arraycopyName, Cond.static arraycopyName, Cond.initialized "java/lang/System", Cond.methodLink RX9 50 yX1_copyFrom, Cond.instanceMethod yX1_copyFrom, Cond.selects RX1 yX1_copyFrom yX1_copyFrom, Cond.initialized RX1, Cond.code yX1_copyFrom cX1_copyFrom 2 none]
def wsX11_returnLoaves_r4 : List Cond := [Cond.fieldLink RX1 14 "OvenDays$Batches" "rows" "LOvenDays$Table;", Cond.fieldLink RX1 20 "OvenDays$Batches" "count" "I", Cond.methodLink RX1 24 yX7_copyFrom, Cond.methodLink RX9 53 yX5_copyFrom, Cond.instanceMethod yX5_copyFrom, Cond.selects RX5 yX5_copyFrom yX5_copyFrom, Cond.initialized RX5, Cond.code yX5_copyFrom cX5_copyFrom 2 none, Cond.fieldLink RX5 14 "OvenDays$Loads" "rows" "LOvenDays$Table;", Cond.fieldLink RX5 20 "OvenDays$Loads" "count" "I", Cond.methodLink RX5 24 yX7_copyFrom, Cond.methodLink RX9 56 yX6_copyFrom, Cond.instanceMethod yX6_copyFrom, Cond.selects RX6 yX6_copyFrom yX6_copyFrom, Cond.initialized RX6, Cond.code yX6_copyFrom cX6_copyFrom 2 none, Cond.fieldLink RX6 16 "OvenDays$Loaves" "rows" "LOvenDays$Table;", Cond.fieldLink RX6 28 "OvenDays$Loaves" "cameOut" "I", Cond.fieldLink RX6 32 "OvenDays$Loaves" "pale" "I", Cond.methodLink RX6 20 yX6_kept, Cond.instanceMethod yX6_kept, Cond.selects RX6 yX6_kept yX6_kept, Cond.code yX6_kept cX6_kept 1 (some .int), Cond.methodLink RX6 35 Lib.Math.min.name]
def wsX11_returnLoaves_r5 : List Cond := [Cond.methodLink RX6 24 yX7_copyFrom, Cond.methodLink RX11 111 yX6_moveToShelf, Cond.instanceMethod yX6_moveToShelf, Cond.selects RX6 yX6_moveToShelf yX6_moveToShelf, Cond.code yX6_moveToShelf cX6_moveToShelf 6 (some .int), Cond.methodLink RX6 83 yX6_balanceOf, Cond.instanceMethod yX6_balanceOf, Cond.selects RX6 yX6_balanceOf yX6_balanceOf, Cond.code yX6_balanceOf cX6_balanceOf 3 (some .int), Cond.methodLink RX6 79 yX6_countWithBoth, Cond.instanceMethod yX6_countWithBoth, Cond.selects RX6 yX6_countWithBoth yX6_countWithBoth, Cond.code yX6_countWithBoth cX6_countWithBoth 5 (some .int), Cond.methodLink RX6 75 yX7_countBoth, Cond.instanceMethod yX7_countBoth, Cond.selects RX7 yX7_countBoth yX7_countBoth, Cond.code yX7_countBoth cX7_countBoth 10 (some .int), Cond.methodLink RX6 41 yX6_firstKept, Cond.instanceMethod yX6_firstKept, Cond.selects RX6 yX6_firstKept yX6_firstKept, Cond.code yX6_firstKept cX6_firstKept 1 (some .int), Cond.methodLink RX6 60 yX6_value, Cond.instanceMethod yX6_value, Cond.selects RX6 yX6_value yX6_value]
def wsX11_returnLoaves_r6 : List Cond := [Cond.code yX6_value cX6_value 3 (some .int), Cond.methodLink RX6 44 yX7_get, Cond.instanceMethod yX7_get, Cond.selects RX7 yX7_get yX7_get, Cond.code yX7_get cX7_get 3 (some .int), Cond.methodLink RX6 68 yX6_give, Cond.instanceMethod yX6_give, Cond.selects RX6 yX6_give yX6_give, Cond.code yX6_give cX6_give 3 none, Cond.methodLink RX6 47 yX7_put, Cond.instanceMethod yX7_put, Cond.selects RX7 yX7_put yX7_put, Cond.code yX7_put cX7_put 4 none]
def wsX11_returnLoaves : List Cond := .code yX11_returnLoaves cX11_returnLoaves 2 (some .int) :: ((wsX11_returnLoaves_r1 ++ (wsX11_returnLoaves_r2 ++ (wsX11_returnLoaves_r3 ++ (wsX11_returnLoaves_r4 ++ (wsX11_returnLoaves_r5 ++ wsX11_returnLoaves_r6))))) ++ wsX110 ++ wsX90 ++ wsX40 ++ wsX80 ++ wsX70 ++ wsX10 ++ wsX50 ++ wsX60 ++ (vx_atS RX11 285 "java/lang/IndexOutOfBoundsException" ["java/lang/RuntimeException", "java/lang/Exception"]).filter goodWord ++ (vx_atS RX11 292 "java/lang/IllegalArgumentException" ["java/lang/RuntimeException", "java/lang/Exception"]).filter goodWord ++ (vx_atS RX11 297 "java/lang/IllegalStateException" ["java/lang/RuntimeException", "java/lang/Exception"]).filter goodWord)
def wsX11_giveAway_r1 : List Cond := [Cond.fieldLink RX11 26 "OvenDays" "undoStack" "LOvenDays$UndoStack;", Cond.fieldLink RX11 10 "OvenDays" "village" "LOvenDays$Village;", Cond.methodLink RX11 49 yX8_push, Cond.instanceMethod yX8_push, Cond.selects RX8 yX8_push yX8_push, Cond.initialized RX8, Cond.code yX8_push cX8_push 3 none, Cond.fieldLink RX8 20 "OvenDays$UndoStack" "latest" "I", Cond.fieldLink RX8 16 "OvenDays$UndoStack" "count" "I", Cond.methodLink RX8 31 Lib.Math.min.name, Cond.static Lib.Math.min.name, Cond.initialized "java/lang/Math", Cond.code Lib.Math.min.name Lib.Math.min.code 2 (some .int), Cond.methodLink RX8 23 yX8_stateAt, Cond.instanceMethod yX8_stateAt, Cond.selects RX8 yX8_stateAt yX8_stateAt, Cond.code yX8_stateAt cX8_stateAt 2 (some (.object "OvenDays$Village")), Cond.fieldLink RX8 11 "OvenDays$UndoStack" "states" "[LOvenDays$Village;", Cond.methodLink RX8 27 yX9_copyFrom, Cond.instanceMethod yX9_copyFrom, Cond.selects RX9 yX9_copyFrom yX9_copyFrom, Cond.initialized RX9, Cond.code yX9_copyFrom cX9_copyFrom 2 none, Cond.fieldLink RX9 12 "OvenDays$Village" "households" "LOvenDays$Households;"]
def wsX11_giveAway_r2 : List Cond := [Cond.fieldLink RX9 21 "OvenDays$Village" "batches" "LOvenDays$Batches;", Cond.fieldLink RX9 28 "OvenDays$Village" "loads" "LOvenDays$Loads;", Cond.fieldLink RX9 35 "OvenDays$Village" "loaves" "LOvenDays$Loaves;", Cond.fieldLink RX9 39 "OvenDays$Village" "heat" "I", Cond.fieldLink RX9 43 "OvenDays$Village" "s" "I", Cond.fieldLink RX9 59 "OvenDays$Village" "days" "I", Cond.fieldLink RX9 62 "OvenDays$Village" "dough" "I", Cond.methodLink RX9 46 yX4_copyFrom, Cond.instanceMethod yX4_copyFrom, Cond.selects RX4 yX4_copyFrom yX4_copyFrom, Cond.initialized RX4, Cond.code yX4_copyFrom cX4_copyFrom 2 none, Cond.fieldLink RX4 14 "OvenDays$Households" "rows" "LOvenDays$Table;", Cond.fieldLink RX4 20 "OvenDays$Households" "count" "I", Cond.methodLink RX4 24 yX7_copyFrom, Cond.instanceMethod yX7_copyFrom, Cond.selects RX7 yX7_copyFrom yX7_copyFrom, Cond.initialized RX7, Cond.code yX7_copyFrom cX7_copyFrom 4 none, Cond.fieldLink RX7 14 "OvenDays$Table" "room" "I", Cond.fieldLink RX7 9 "OvenDays$Table" "columns" "[[I", Cond.methodLink RX7 22 arraycopyName, Cond.native arraycopyName, Cond.static arraycopyName]
def wsX11_giveAway_r3 : List Cond := [Cond.initialized "java/lang/System", Cond.methodLink RX9 50 yX1_copyFrom, Cond.instanceMethod yX1_copyFrom, Cond.selects RX1 yX1_copyFrom yX1_copyFrom, Cond.initialized RX1, Cond.code yX1_copyFrom cX1_copyFrom 2 none, Cond.fieldLink RX1 14 "OvenDays$Batches" "rows" "LOvenDays$Table;", Cond.fieldLink RX1 20 "OvenDays$Batches" "count" "I", Cond.methodLink RX1 24 yX7_copyFrom, Cond.methodLink RX9 53 yX5_copyFrom, Cond.instanceMethod yX5_copyFrom, Cond.selects RX5 yX5_copyFrom yX5_copyFrom, Cond.initialized RX5, Cond.code yX5_copyFrom cX5_copyFrom 2 none, Cond.fieldLink RX5 14 "OvenDays$Loads" "rows" "LOvenDays$Table;", Cond.fieldLink RX5 20 "OvenDays$Loads" "count" "I", Cond.methodLink RX5 24 yX7_copyFrom, Cond.methodLink RX9 56 yX6_copyFrom, Cond.instanceMethod yX6_copyFrom, Cond.selects RX6 yX6_copyFrom yX6_copyFrom, Cond.initialized RX6, Cond.code yX6_copyFrom cX6_copyFrom 2 none, Cond.fieldLink RX6 16 "OvenDays$Loaves" "rows" "LOvenDays$Table;", Cond.fieldLink RX6 28 "OvenDays$Loaves" "cameOut" "I"]
def wsX11_giveAway_r4 : List Cond := [Cond.fieldLink RX6 32 "OvenDays$Loaves" "pale" "I", Cond.methodLink RX6 20 yX6_kept, Cond.instanceMethod yX6_kept, Cond.selects RX6 yX6_kept yX6_kept, Cond.code yX6_kept cX6_kept 1 (some .int), Cond.methodLink RX6 35 Lib.Math.min.name, Cond.methodLink RX6 24 yX7_copyFrom, Cond.methodLink RX11 116 yX6_emptyShelf, Cond.instanceMethod yX6_emptyShelf, Cond.selects RX6 yX6_emptyShelf yX6_emptyShelf, Cond.code yX6_emptyShelf cX6_emptyShelf 3 (some .int), Cond.methodLink RX6 44 yX7_get, Cond.instanceMethod yX7_get, Cond.selects RX7 yX7_get yX7_get, Cond.code yX7_get cX7_get 3 (some .int), Cond.methodLink RX6 47 yX7_put, Cond.instanceMethod yX7_put, Cond.selects RX7 yX7_put yX7_put, Cond.code yX7_put cX7_put 4 none]
def wsX11_giveAway : List Cond := .code yX11_giveAway cX11_giveAway 1 (some .int) :: ((wsX11_giveAway_r1 ++ (wsX11_giveAway_r2 ++ (wsX11_giveAway_r3 ++ wsX11_giveAway_r4))) ++ wsX110 ++ wsX90 ++ wsX80 ++ wsX40 ++ wsX70 ++ wsX10 ++ wsX50 ++ wsX60)
def wsX11_household_r1 : List Cond := [Cond.fieldLink RX11 10 "OvenDays" "village" "LOvenDays$Village;", Cond.methodLink RX11 69 yX9_whyNoHousehold, Cond.instanceMethod yX9_whyNoHousehold, Cond.selects RX9 yX9_whyNoHousehold yX9_whyNoHousehold, Cond.initialized RX9, Cond.code yX9_whyNoHousehold cX9_whyNoHousehold 2 (some .int), Cond.fieldLink RX9 12 "OvenDays$Village" "households" "LOvenDays$Households;", Cond.methodLink RX9 65 yX4_has, Cond.instanceMethod yX4_has, Cond.selects RX4 yX4_has yX4_has, Cond.initialized RX4, Cond.code yX4_has cX4_has 2 (some .boolean), Cond.fieldLink RX4 20 "OvenDays$Households" "count" "I", Cond.methodLink RX11 45 yX11_refuse, Cond.static yX11_refuse, Cond.initialized RX11, Cond.code yX11_refuse cX11_refuse 1 none, Cond.classLink RX11 281 "java/lang/IndexOutOfBoundsException", Cond.initialized "java/lang/IndexOutOfBoundsException", Cond.classLink RX11 288 "java/lang/IllegalArgumentException", Cond.initialized "java/lang/IllegalArgumentException", Cond.classLink RX11 293 "java/lang/IllegalStateException", Cond.initialized "java/lang/IllegalStateException", Cond.methodLink RX11 120 yX11_whyNotBelow]
def wsX11_household_r2 : List Cond := [Cond.static yX11_whyNotBelow, Cond.code yX11_whyNotBelow cX11_whyNotBelow 2 (some .int), Cond.methodLink RX11 197 yX11_whyNotWithin, Cond.static yX11_whyNotWithin, Cond.code yX11_whyNotWithin cX11_whyNotWithin 3 (some .int), Cond.methodLink RX11 123 yX6_countWith, Cond.instanceMethod yX6_countWith, Cond.selects RX6 yX6_countWith yX6_countWith, Cond.initialized RX6, Cond.code yX6_countWith cX6_countWith 3 (some .int), Cond.fieldLink RX6 16 "OvenDays$Loaves" "rows" "LOvenDays$Table;", Cond.methodLink RX6 20 yX6_kept, Cond.instanceMethod yX6_kept, Cond.selects RX6 yX6_kept yX6_kept, Cond.code yX6_kept cX6_kept 1 (some .int), Cond.fieldLink RX6 28 "OvenDays$Loaves" "cameOut" "I", Cond.methodLink RX6 35 Lib.Math.min.name, Cond.static Lib.Math.min.name, Cond.initialized "java/lang/Math", Cond.code Lib.Math.min.name Lib.Math.min.code 2 (some .int), Cond.methodLink RX6 71 yX7_count, Cond.instanceMethod yX7_count, Cond.selects RX7 yX7_count yX7_count, Cond.initialized RX7]
def wsX11_household_r3 : List Cond := [Cond.code yX7_count cX7_count 4 (some .int), Cond.methodLink RX7 18 yX7_countBoth, Cond.instanceMethod yX7_countBoth, Cond.selects RX7 yX7_countBoth yX7_countBoth, Cond.code yX7_countBoth cX7_countBoth 10 (some .int), Cond.fieldLink RX7 9 "OvenDays$Table" "columns" "[[I", Cond.fieldLink RX7 14 "OvenDays$Table" "room" "I", Cond.methodLink RX11 126 yX6_countWithBoth, Cond.instanceMethod yX6_countWithBoth, Cond.selects RX6 yX6_countWithBoth yX6_countWithBoth, Cond.code yX6_countWithBoth cX6_countWithBoth 5 (some .int), Cond.methodLink RX6 75 yX7_countBoth, Cond.methodLink RX11 130 yX1_countOf, Cond.instanceMethod yX1_countOf, Cond.selects RX1 yX1_countOf yX1_countOf, Cond.initialized RX1, Cond.code yX1_countOf cX1_countOf 2 (some .int), Cond.fieldLink RX1 14 "OvenDays$Batches" "rows" "LOvenDays$Table;", Cond.fieldLink RX1 20 "OvenDays$Batches" "count" "I", Cond.methodLink RX1 32 yX7_count, Cond.methodLink RX11 133 yX4_value, Cond.instanceMethod yX4_value, Cond.selects RX4 yX4_value yX4_value, Cond.code yX4_value cX4_value 3 (some .int)]
def wsX11_household_r4 : List Cond := [Cond.fieldLink RX4 14 "OvenDays$Households" "rows" "LOvenDays$Table;", Cond.methodLink RX4 28 yX7_get, Cond.instanceMethod yX7_get, Cond.selects RX7 yX7_get yX7_get, Cond.code yX7_get cX7_get 3 (some .int)]
def wsX11_household : List Cond := .code yX11_household cX11_household 3 (some .int) :: ((wsX11_household_r1 ++ (wsX11_household_r2 ++ (wsX11_household_r3 ++ wsX11_household_r4))) ++ wsX110 ++ wsX90 ++ wsX40 ++ wsX60 ++ wsX70 ++ wsX10 ++ (vx_atS RX11 285 "java/lang/IndexOutOfBoundsException" ["java/lang/RuntimeException", "java/lang/Exception"]).filter goodWord ++ (vx_atS RX11 292 "java/lang/IllegalArgumentException" ["java/lang/RuntimeException", "java/lang/Exception"]).filter goodWord ++ (vx_atS RX11 297 "java/lang/IllegalStateException" ["java/lang/RuntimeException", "java/lang/Exception"]).filter goodWord)
def wsX11_due_r1 : List Cond := [Cond.fieldLink RX11 10 "OvenDays" "village" "LOvenDays$Village;", Cond.methodLink RX11 69 yX9_whyNoHousehold, Cond.instanceMethod yX9_whyNoHousehold, Cond.selects RX9 yX9_whyNoHousehold yX9_whyNoHousehold, Cond.initialized RX9, Cond.code yX9_whyNoHousehold cX9_whyNoHousehold 2 (some .int), Cond.fieldLink RX9 12 "OvenDays$Village" "households" "LOvenDays$Households;", Cond.methodLink RX9 65 yX4_has, Cond.instanceMethod yX4_has, Cond.selects RX4 yX4_has yX4_has, Cond.initialized RX4, Cond.code yX4_has cX4_has 2 (some .boolean), Cond.fieldLink RX4 20 "OvenDays$Households" "count" "I", Cond.methodLink RX11 45 yX11_refuse, Cond.static yX11_refuse, Cond.initialized RX11, Cond.code yX11_refuse cX11_refuse 1 none, Cond.classLink RX11 281 "java/lang/IndexOutOfBoundsException", Cond.initialized "java/lang/IndexOutOfBoundsException", Cond.classLink RX11 288 "java/lang/IllegalArgumentException", Cond.initialized "java/lang/IllegalArgumentException", Cond.classLink RX11 293 "java/lang/IllegalStateException", Cond.initialized "java/lang/IllegalStateException", Cond.methodLink RX11 136 yX4_dueOf]
def wsX11_due_r2 : List Cond := [Cond.instanceMethod yX4_dueOf, Cond.selects RX4 yX4_dueOf yX4_dueOf, Cond.code yX4_dueOf cX4_dueOf 6 (some .long), Cond.fieldLink RX4 14 "OvenDays$Households" "rows" "LOvenDays$Table;", Cond.methodLink RX4 32 yX7_sum, Cond.instanceMethod yX7_sum, Cond.selects RX7 yX7_sum yX7_sum, Cond.initialized RX7, Cond.code yX7_sum cX7_sum 6 (some .int), Cond.fieldLink RX7 9 "OvenDays$Table" "columns" "[[I", Cond.fieldLink RX7 14 "OvenDays$Table" "room" "I", Cond.methodLink RX4 28 yX7_get, Cond.instanceMethod yX7_get, Cond.selects RX7 yX7_get yX7_get, Cond.code yX7_get cX7_get 3 (some .int)]
def wsX11_due : List Cond := .code yX11_due cX11_due 2 (some .long) :: ((wsX11_due_r1 ++ wsX11_due_r2) ++ wsX110 ++ wsX90 ++ wsX40 ++ wsX70 ++ (vx_atS RX11 285 "java/lang/IndexOutOfBoundsException" ["java/lang/RuntimeException", "java/lang/Exception"]).filter goodWord ++ (vx_atS RX11 292 "java/lang/IllegalArgumentException" ["java/lang/RuntimeException", "java/lang/Exception"]).filter goodWord ++ (vx_atS RX11 297 "java/lang/IllegalStateException" ["java/lang/RuntimeException", "java/lang/Exception"]).filter goodWord)
def wsX11_nextForWood_r1 : List Cond := [Cond.fieldLink RX11 10 "OvenDays" "village" "LOvenDays$Village;", Cond.methodLink RX11 140 yX4_nextOne, Cond.instanceMethod yX4_nextOne, Cond.selects RX4 yX4_nextOne yX4_nextOne, Cond.initialized RX4, Cond.code yX4_nextOne cX4_nextOne 8 (some .int), Cond.fieldLink RX4 14 "OvenDays$Households" "rows" "LOvenDays$Table;", Cond.fieldLink RX4 20 "OvenDays$Households" "count" "I", Cond.methodLink RX4 39 yX7_count, Cond.instanceMethod yX7_count, Cond.selects RX7 yX7_count yX7_count, Cond.initialized RX7, Cond.code yX7_count cX7_count 4 (some .int), Cond.methodLink RX7 18 yX7_countBoth, Cond.instanceMethod yX7_countBoth, Cond.selects RX7 yX7_countBoth yX7_countBoth, Cond.code yX7_countBoth cX7_countBoth 10 (some .int), Cond.fieldLink RX7 9 "OvenDays$Table" "columns" "[[I", Cond.fieldLink RX7 14 "OvenDays$Table" "room" "I", Cond.methodLink RX4 28 yX7_get, Cond.instanceMethod yX7_get, Cond.selects RX7 yX7_get yX7_get, Cond.code yX7_get cX7_get 3 (some .int), Cond.methodLink RX4 46 yX4_dueOf]
def wsX11_nextForWood_r2 : List Cond := [Cond.instanceMethod yX4_dueOf, Cond.selects RX4 yX4_dueOf yX4_dueOf, Cond.code yX4_dueOf cX4_dueOf 6 (some .long), Cond.methodLink RX4 32 yX7_sum, Cond.instanceMethod yX7_sum, Cond.selects RX7 yX7_sum yX7_sum, Cond.code yX7_sum cX7_sum 6 (some .int)]
def wsX11_nextForWood : List Cond := .code yX11_nextForWood cX11_nextForWood 1 (some .int) :: ((wsX11_nextForWood_r1 ++ wsX11_nextForWood_r2) ++ wsX110 ++ wsX90 ++ wsX40 ++ wsX70)
def wsX11_balance_r1 : List Cond := [Cond.fieldLink RX11 10 "OvenDays" "village" "LOvenDays$Village;", Cond.methodLink RX11 69 yX9_whyNoHousehold, Cond.instanceMethod yX9_whyNoHousehold, Cond.selects RX9 yX9_whyNoHousehold yX9_whyNoHousehold, Cond.initialized RX9, Cond.code yX9_whyNoHousehold cX9_whyNoHousehold 2 (some .int), Cond.fieldLink RX9 12 "OvenDays$Village" "households" "LOvenDays$Households;", Cond.methodLink RX9 65 yX4_has, Cond.instanceMethod yX4_has, Cond.selects RX4 yX4_has yX4_has, Cond.initialized RX4, Cond.code yX4_has cX4_has 2 (some .boolean), Cond.fieldLink RX4 20 "OvenDays$Households" "count" "I", Cond.methodLink RX11 45 yX11_refuse, Cond.static yX11_refuse, Cond.initialized RX11, Cond.code yX11_refuse cX11_refuse 1 none, Cond.classLink RX11 281 "java/lang/IndexOutOfBoundsException", Cond.initialized "java/lang/IndexOutOfBoundsException", Cond.classLink RX11 288 "java/lang/IllegalArgumentException", Cond.initialized "java/lang/IllegalArgumentException", Cond.classLink RX11 293 "java/lang/IllegalStateException", Cond.initialized "java/lang/IllegalStateException", Cond.methodLink RX11 120 yX11_whyNotBelow]
def wsX11_balance_r2 : List Cond := [Cond.static yX11_whyNotBelow, Cond.code yX11_whyNotBelow cX11_whyNotBelow 2 (some .int), Cond.methodLink RX11 197 yX11_whyNotWithin, Cond.static yX11_whyNotWithin, Cond.code yX11_whyNotWithin cX11_whyNotWithin 3 (some .int), Cond.methodLink RX11 143 yX6_balanceOf, Cond.instanceMethod yX6_balanceOf, Cond.selects RX6 yX6_balanceOf yX6_balanceOf, Cond.initialized RX6, Cond.code yX6_balanceOf cX6_balanceOf 3 (some .int), Cond.methodLink RX6 79 yX6_countWithBoth, Cond.instanceMethod yX6_countWithBoth, Cond.selects RX6 yX6_countWithBoth yX6_countWithBoth, Cond.code yX6_countWithBoth cX6_countWithBoth 5 (some .int), Cond.fieldLink RX6 16 "OvenDays$Loaves" "rows" "LOvenDays$Table;", Cond.methodLink RX6 20 yX6_kept, Cond.instanceMethod yX6_kept, Cond.selects RX6 yX6_kept yX6_kept, Cond.code yX6_kept cX6_kept 1 (some .int), Cond.fieldLink RX6 28 "OvenDays$Loaves" "cameOut" "I", Cond.methodLink RX6 35 Lib.Math.min.name, Cond.static Lib.Math.min.name, Cond.initialized "java/lang/Math", Cond.code Lib.Math.min.name Lib.Math.min.code 2 (some .int)]
def wsX11_balance_r3 : List Cond := [Cond.methodLink RX6 75 yX7_countBoth, Cond.instanceMethod yX7_countBoth, Cond.selects RX7 yX7_countBoth yX7_countBoth, Cond.initialized RX7, Cond.code yX7_countBoth cX7_countBoth 10 (some .int), Cond.fieldLink RX7 9 "OvenDays$Table" "columns" "[[I", Cond.fieldLink RX7 14 "OvenDays$Table" "room" "I"]
def wsX11_balance : List Cond := .code yX11_balance cX11_balance 3 (some .int) :: ((wsX11_balance_r1 ++ (wsX11_balance_r2 ++ wsX11_balance_r3)) ++ wsX110 ++ wsX90 ++ wsX40 ++ wsX60 ++ wsX70 ++ (vx_atS RX11 285 "java/lang/IndexOutOfBoundsException" ["java/lang/RuntimeException", "java/lang/Exception"]).filter goodWord ++ (vx_atS RX11 292 "java/lang/IllegalArgumentException" ["java/lang/RuntimeException", "java/lang/Exception"]).filter goodWord ++ (vx_atS RX11 297 "java/lang/IllegalStateException" ["java/lang/RuntimeException", "java/lang/Exception"]).filter goodWord)
def wsX11_batch_r1 : List Cond := [Cond.fieldLink RX11 10 "OvenDays" "village" "LOvenDays$Village;", Cond.fieldLink RX11 19 "OvenDays" "plan" "LOvenDays$DayPlan;", Cond.methodLink RX11 120 yX11_whyNotBelow, Cond.static yX11_whyNotBelow, Cond.initialized RX11, Cond.code yX11_whyNotBelow cX11_whyNotBelow 2 (some .int), Cond.methodLink RX11 197 yX11_whyNotWithin, Cond.static yX11_whyNotWithin, Cond.code yX11_whyNotWithin cX11_whyNotWithin 3 (some .int), Cond.methodLink RX11 45 yX11_refuse, Cond.static yX11_refuse, Cond.code yX11_refuse cX11_refuse 1 none, Cond.classLink RX11 281 "java/lang/IndexOutOfBoundsException", Cond.initialized "java/lang/IndexOutOfBoundsException", Cond.classLink RX11 288 "java/lang/IllegalArgumentException", Cond.initialized "java/lang/IllegalArgumentException", Cond.classLink RX11 293 "java/lang/IllegalStateException", Cond.initialized "java/lang/IllegalStateException", Cond.methodLink RX11 87 yX1_has, Cond.instanceMethod yX1_has, Cond.selects RX1 yX1_has yX1_has, Cond.initialized RX1, Cond.code yX1_has cX1_has 2 (some .boolean), Cond.fieldLink RX1 20 "OvenDays$Batches" "count" "I"]
def wsX11_batch_r2 : List Cond := [Cond.methodLink RX11 146 yX1_value, Cond.instanceMethod yX1_value, Cond.selects RX1 yX1_value yX1_value, Cond.code yX1_value cX1_value 3 (some .int), Cond.fieldLink RX1 14 "OvenDays$Batches" "rows" "LOvenDays$Table;", Cond.methodLink RX1 28 yX7_get, Cond.instanceMethod yX7_get, Cond.selects RX7 yX7_get yX7_get, Cond.initialized RX7, Cond.code yX7_get cX7_get 3 (some .int), Cond.fieldLink RX7 14 "OvenDays$Table" "room" "I", Cond.fieldLink RX7 9 "OvenDays$Table" "columns" "[[I", Cond.methodLink RX11 147 yX9_arrangeNextDay, Cond.instanceMethod yX9_arrangeNextDay, Cond.selects RX9 yX9_arrangeNextDay yX9_arrangeNextDay, Cond.initialized RX9, Cond.code yX9_arrangeNextDay cX9_arrangeNextDay 2 none, Cond.fieldLink RX9 21 "OvenDays$Village" "batches" "LOvenDays$Batches;", Cond.fieldLink RX9 12 "OvenDays$Village" "households" "LOvenDays$Households;", Cond.methodLink RX9 102 yX4_size, Cond.instanceMethod yX4_size, Cond.selects RX4 yX4_size yX4_size, Cond.initialized RX4, Cond.code yX4_size cX4_size 1 (some .int)]
def wsX11_batch_r3 : List Cond := [Cond.fieldLink RX4 20 "OvenDays$Households" "count" "I", Cond.methodLink RX9 103 yX4_nextOne, Cond.instanceMethod yX4_nextOne, Cond.selects RX4 yX4_nextOne yX4_nextOne, Cond.code yX4_nextOne cX4_nextOne 8 (some .int), Cond.fieldLink RX4 14 "OvenDays$Households" "rows" "LOvenDays$Table;", Cond.methodLink RX4 39 yX7_count, Cond.instanceMethod yX7_count, Cond.selects RX7 yX7_count yX7_count, Cond.code yX7_count cX7_count 4 (some .int), Cond.methodLink RX7 18 yX7_countBoth, Cond.instanceMethod yX7_countBoth, Cond.selects RX7 yX7_countBoth yX7_countBoth, Cond.code yX7_countBoth cX7_countBoth 10 (some .int), Cond.methodLink RX4 28 yX7_get, Cond.methodLink RX4 46 yX4_dueOf, Cond.instanceMethod yX4_dueOf, Cond.selects RX4 yX4_dueOf yX4_dueOf, Cond.code yX4_dueOf cX4_dueOf 6 (some .long), Cond.methodLink RX4 32 yX7_sum, Cond.instanceMethod yX7_sum, Cond.selects RX7 yX7_sum yX7_sum, Cond.code yX7_sum cX7_sum 6 (some .int), Cond.methodLink RX9 106 yX3_arrange]
def wsX11_batch_r4 : List Cond := [Cond.instanceMethod yX3_arrange, Cond.selects RX3 yX3_arrange yX3_arrange, Cond.initialized RX3, Cond.code yX3_arrange cX3_arrange 7 none, Cond.fieldLink RX3 31 "OvenDays$DayPlan" "count" "I", Cond.fieldLink RX3 9 "OvenDays$DayPlan" "order" "[I", Cond.methodLink RX3 35 yX1_size, Cond.instanceMethod yX1_size, Cond.selects RX1 yX1_size yX1_size, Cond.code yX1_size cX1_size 1 (some .int), Cond.methodLink RX3 41 yX1_value, Cond.methodLink RX11 151 yX3_placeOf, Cond.instanceMethod yX3_placeOf, Cond.selects RX3 yX3_placeOf yX3_placeOf, Cond.code yX3_placeOf cX3_placeOf 3 (some .int), Cond.methodLink RX3 85 yX3_batchAt, Cond.instanceMethod yX3_batchAt, Cond.selects RX3 yX3_batchAt yX3_batchAt, Cond.code yX3_batchAt cX3_batchAt 2 (some .int)]
def wsX11_batch : List Cond := .code yX11_batch cX11_batch 3 (some .int) :: ((wsX11_batch_r1 ++ (wsX11_batch_r2 ++ (wsX11_batch_r3 ++ wsX11_batch_r4))) ++ wsX110 ++ wsX90 ++ wsX10 ++ wsX70 ++ wsX40 ++ wsX30 ++ (vx_atS RX11 285 "java/lang/IndexOutOfBoundsException" ["java/lang/RuntimeException", "java/lang/Exception"]).filter goodWord ++ (vx_atS RX11 292 "java/lang/IllegalArgumentException" ["java/lang/RuntimeException", "java/lang/Exception"]).filter goodWord ++ (vx_atS RX11 297 "java/lang/IllegalStateException" ["java/lang/RuntimeException", "java/lang/Exception"]).filter goodWord)
def wsX11_loaf_r1 : List Cond := [Cond.fieldLink RX11 10 "OvenDays" "village" "LOvenDays$Village;", Cond.methodLink RX11 154 yX6_keeps, Cond.instanceMethod yX6_keeps, Cond.selects RX6 yX6_keeps yX6_keeps, Cond.initialized RX6, Cond.code yX6_keeps cX6_keeps 2 (some .boolean), Cond.fieldLink RX6 28 "OvenDays$Loaves" "cameOut" "I", Cond.methodLink RX6 41 yX6_firstKept, Cond.instanceMethod yX6_firstKept, Cond.selects RX6 yX6_firstKept yX6_firstKept, Cond.code yX6_firstKept cX6_firstKept 1 (some .int), Cond.methodLink RX6 20 yX6_kept, Cond.instanceMethod yX6_kept, Cond.selects RX6 yX6_kept yX6_kept, Cond.code yX6_kept cX6_kept 1 (some .int), Cond.methodLink RX6 35 Lib.Math.min.name, Cond.static Lib.Math.min.name, Cond.initialized "java/lang/Math", Cond.code Lib.Math.min.name Lib.Math.min.code 2 (some .int), Cond.methodLink RX11 45 yX11_refuse, Cond.static yX11_refuse, Cond.initialized RX11, Cond.code yX11_refuse cX11_refuse 1 none, Cond.classLink RX11 281 "java/lang/IndexOutOfBoundsException"]
def wsX11_loaf_r2 : List Cond := [Cond.initialized "java/lang/IndexOutOfBoundsException", Cond.classLink RX11 288 "java/lang/IllegalArgumentException", Cond.initialized "java/lang/IllegalArgumentException", Cond.classLink RX11 293 "java/lang/IllegalStateException", Cond.initialized "java/lang/IllegalStateException", Cond.methodLink RX11 120 yX11_whyNotBelow, Cond.static yX11_whyNotBelow, Cond.code yX11_whyNotBelow cX11_whyNotBelow 2 (some .int), Cond.methodLink RX11 197 yX11_whyNotWithin, Cond.static yX11_whyNotWithin, Cond.code yX11_whyNotWithin cX11_whyNotWithin 3 (some .int), Cond.methodLink RX11 157 yX6_value, Cond.instanceMethod yX6_value, Cond.selects RX6 yX6_value yX6_value, Cond.code yX6_value cX6_value 3 (some .int), Cond.fieldLink RX6 16 "OvenDays$Loaves" "rows" "LOvenDays$Table;", Cond.methodLink RX6 44 yX7_get, Cond.instanceMethod yX7_get, Cond.selects RX7 yX7_get yX7_get, Cond.initialized RX7, Cond.code yX7_get cX7_get 3 (some .int), Cond.fieldLink RX7 14 "OvenDays$Table" "room" "I", Cond.fieldLink RX7 9 "OvenDays$Table" "columns" "[[I"]
def wsX11_loaf : List Cond := .code yX11_loaf cX11_loaf 3 (some .int) :: ((wsX11_loaf_r1 ++ wsX11_loaf_r2) ++ wsX110 ++ wsX90 ++ wsX60 ++ wsX70 ++ (vx_atS RX11 285 "java/lang/IndexOutOfBoundsException" ["java/lang/RuntimeException", "java/lang/Exception"]).filter goodWord ++ (vx_atS RX11 292 "java/lang/IllegalArgumentException" ["java/lang/RuntimeException", "java/lang/Exception"]).filter goodWord ++ (vx_atS RX11 297 "java/lang/IllegalStateException" ["java/lang/RuntimeException", "java/lang/Exception"]).filter goodWord)
def wsX11_load_r1 : List Cond := [Cond.fieldLink RX11 10 "OvenDays" "village" "LOvenDays$Village;", Cond.methodLink RX11 120 yX11_whyNotBelow, Cond.static yX11_whyNotBelow, Cond.initialized RX11, Cond.code yX11_whyNotBelow cX11_whyNotBelow 2 (some .int), Cond.methodLink RX11 197 yX11_whyNotWithin, Cond.static yX11_whyNotWithin, Cond.code yX11_whyNotWithin cX11_whyNotWithin 3 (some .int), Cond.methodLink RX11 45 yX11_refuse, Cond.static yX11_refuse, Cond.code yX11_refuse cX11_refuse 1 none, Cond.classLink RX11 281 "java/lang/IndexOutOfBoundsException", Cond.initialized "java/lang/IndexOutOfBoundsException", Cond.classLink RX11 288 "java/lang/IllegalArgumentException", Cond.initialized "java/lang/IllegalArgumentException", Cond.classLink RX11 293 "java/lang/IllegalStateException", Cond.initialized "java/lang/IllegalStateException", Cond.methodLink RX11 162 yX5_size, Cond.instanceMethod yX5_size, Cond.selects RX5 yX5_size yX5_size, Cond.initialized RX5, Cond.code yX5_size cX5_size 1 (some .int), Cond.fieldLink RX5 20 "OvenDays$Loads" "count" "I", Cond.methodLink RX11 167 yX5_value]
def wsX11_load_r2 : List Cond := [Cond.instanceMethod yX5_value, Cond.selects RX5 yX5_value yX5_value, Cond.code yX5_value cX5_value 3 (some .int), Cond.fieldLink RX5 14 "OvenDays$Loads" "rows" "LOvenDays$Table;", Cond.methodLink RX5 28 yX7_get, Cond.instanceMethod yX7_get, Cond.selects RX7 yX7_get yX7_get, Cond.initialized RX7, Cond.code yX7_get cX7_get 3 (some .int), Cond.fieldLink RX7 14 "OvenDays$Table" "room" "I", Cond.fieldLink RX7 9 "OvenDays$Table" "columns" "[[I"]
def wsX11_load : List Cond := .code yX11_load cX11_load 3 (some .int) :: ((wsX11_load_r1 ++ wsX11_load_r2) ++ wsX110 ++ wsX90 ++ wsX50 ++ wsX70 ++ (vx_atS RX11 285 "java/lang/IndexOutOfBoundsException" ["java/lang/RuntimeException", "java/lang/Exception"]).filter goodWord ++ (vx_atS RX11 292 "java/lang/IllegalArgumentException" ["java/lang/RuntimeException", "java/lang/Exception"]).filter goodWord ++ (vx_atS RX11 297 "java/lang/IllegalStateException" ["java/lang/RuntimeException", "java/lang/Exception"]).filter goodWord)
def wsX11_whole_r1 : List Cond := [Cond.fieldLink RX11 10 "OvenDays" "village" "LOvenDays$Village;", Cond.methodLink RX11 120 yX11_whyNotBelow, Cond.static yX11_whyNotBelow, Cond.initialized RX11, Cond.code yX11_whyNotBelow cX11_whyNotBelow 2 (some .int), Cond.methodLink RX11 197 yX11_whyNotWithin, Cond.static yX11_whyNotWithin, Cond.code yX11_whyNotWithin cX11_whyNotWithin 3 (some .int), Cond.methodLink RX11 45 yX11_refuse, Cond.static yX11_refuse, Cond.code yX11_refuse cX11_refuse 1 none, Cond.classLink RX11 281 "java/lang/IndexOutOfBoundsException", Cond.initialized "java/lang/IndexOutOfBoundsException", Cond.classLink RX11 288 "java/lang/IllegalArgumentException", Cond.initialized "java/lang/IllegalArgumentException", Cond.classLink RX11 293 "java/lang/IllegalStateException", Cond.initialized "java/lang/IllegalStateException", Cond.methodLink RX11 168 yX4_size, Cond.instanceMethod yX4_size, Cond.selects RX4 yX4_size yX4_size, Cond.initialized RX4, Cond.code yX4_size cX4_size 1 (some .int), Cond.fieldLink RX4 20 "OvenDays$Households" "count" "I", Cond.methodLink RX11 175 yX1_size]
def wsX11_whole_r2 : List Cond := [Cond.instanceMethod yX1_size, Cond.selects RX1 yX1_size yX1_size, Cond.initialized RX1, Cond.code yX1_size cX1_size 1 (some .int), Cond.fieldLink RX1 20 "OvenDays$Batches" "count" "I", Cond.methodLink RX11 176 yX4_sumOf, Cond.instanceMethod yX4_sumOf, Cond.selects RX4 yX4_sumOf yX4_sumOf, Cond.code yX4_sumOf cX4_sumOf 2 (some .int), Cond.fieldLink RX4 14 "OvenDays$Households" "rows" "LOvenDays$Table;", Cond.methodLink RX4 32 yX7_sum, Cond.instanceMethod yX7_sum, Cond.selects RX7 yX7_sum yX7_sum, Cond.initialized RX7, Cond.code yX7_sum cX7_sum 6 (some .int), Cond.fieldLink RX7 9 "OvenDays$Table" "columns" "[[I", Cond.fieldLink RX7 14 "OvenDays$Table" "room" "I", Cond.methodLink RX11 182 yX6_cameOut, Cond.instanceMethod yX6_cameOut, Cond.selects RX6 yX6_cameOut yX6_cameOut, Cond.initialized RX6, Cond.code yX6_cameOut cX6_cameOut 1 (some .int), Cond.fieldLink RX6 28 "OvenDays$Loaves" "cameOut" "I", Cond.methodLink RX11 185 yX6_pale]
def wsX11_whole_r3 : List Cond := [Cond.instanceMethod yX6_pale, Cond.selects RX6 yX6_pale yX6_pale, Cond.code yX6_pale cX6_pale 1 (some .int), Cond.fieldLink RX6 32 "OvenDays$Loaves" "pale" "I", Cond.methodLink RX11 188 yX6_kept, Cond.instanceMethod yX6_kept, Cond.selects RX6 yX6_kept yX6_kept, Cond.code yX6_kept cX6_kept 1 (some .int), Cond.methodLink RX6 35 Lib.Math.min.name, Cond.static Lib.Math.min.name, Cond.initialized "java/lang/Math", Cond.code Lib.Math.min.name Lib.Math.min.code 2 (some .int), Cond.methodLink RX11 123 yX6_countWith, Cond.instanceMethod yX6_countWith, Cond.selects RX6 yX6_countWith yX6_countWith, Cond.code yX6_countWith cX6_countWith 3 (some .int), Cond.fieldLink RX6 16 "OvenDays$Loaves" "rows" "LOvenDays$Table;", Cond.methodLink RX6 20 yX6_kept, Cond.methodLink RX6 71 yX7_count, Cond.instanceMethod yX7_count, Cond.selects RX7 yX7_count yX7_count, Cond.code yX7_count cX7_count 4 (some .int), Cond.methodLink RX7 18 yX7_countBoth, Cond.instanceMethod yX7_countBoth]
def wsX11_whole_r4 : List Cond := [Cond.selects RX7 yX7_countBoth yX7_countBoth, Cond.code yX7_countBoth cX7_countBoth 10 (some .int), Cond.methodLink RX11 191 yX6_countWithOthers, Cond.instanceMethod yX6_countWithOthers, Cond.selects RX6 yX6_countWithOthers yX6_countWithOthers, Cond.code yX6_countWithOthers cX6_countWithOthers 4 (some .int), Cond.methodLink RX6 44 yX7_get, Cond.instanceMethod yX7_get, Cond.selects RX7 yX7_get yX7_get, Cond.code yX7_get cX7_get 3 (some .int), Cond.methodLink RX11 162 yX5_size, Cond.instanceMethod yX5_size, Cond.selects RX5 yX5_size yX5_size, Cond.initialized RX5, Cond.code yX5_size cX5_size 1 (some .int), Cond.fieldLink RX5 20 "OvenDays$Loads" "count" "I"]
def wsX11_whole : List Cond := .code yX11_whole cX11_whole 2 (some .int) :: ((wsX11_whole_r1 ++ (wsX11_whole_r2 ++ (wsX11_whole_r3 ++ wsX11_whole_r4))) ++ wsX110 ++ wsX90 ++ wsX40 ++ wsX10 ++ wsX70 ++ wsX60 ++ wsX50 ++ (vx_atS RX11 285 "java/lang/IndexOutOfBoundsException" ["java/lang/RuntimeException", "java/lang/Exception"]).filter goodWord ++ (vx_atS RX11 292 "java/lang/IllegalArgumentException" ["java/lang/RuntimeException", "java/lang/Exception"]).filter goodWord ++ (vx_atS RX11 297 "java/lang/IllegalStateException" ["java/lang/RuntimeException", "java/lang/Exception"]).filter goodWord)
def wsX11_doughOfArrangedDay_r1 : List Cond := [Cond.fieldLink RX11 19 "OvenDays" "plan" "LOvenDays$DayPlan;", Cond.fieldLink RX11 10 "OvenDays" "village" "LOvenDays$Village;", Cond.methodLink RX11 298 yX9_heatWith, Cond.instanceMethod yX9_heatWith, Cond.selects RX9 yX9_heatWith yX9_heatWith, Cond.initialized RX9, Cond.code yX9_heatWith cX9_heatWith 2 (some .int), Cond.fieldLink RX9 39 "OvenDays$Village" "heat" "I", Cond.methodLink RX9 97 Lib.Math.min.name, Cond.static Lib.Math.min.name, Cond.initialized "java/lang/Math", Cond.code Lib.Math.min.name Lib.Math.min.code 2 (some .int), Cond.methodLink RX11 301 yX3_fire, Cond.instanceMethod yX3_fire, Cond.selects RX3 yX3_fire yX3_fire, Cond.initialized RX3, Cond.code yX3_fire cX3_fire 5 none, Cond.fieldLink RX3 45 "OvenDays$DayPlan" "heat" "I", Cond.fieldLink RX3 52 "OvenDays$DayPlan" "left" "I", Cond.methodLink RX3 66 Lib.Math.max.name, Cond.static Lib.Math.max.name, Cond.code Lib.Math.max.name Lib.Math.max.code 2 (some .int), Cond.methodLink RX3 48 yX3_startWaiting, Cond.instanceMethod yX3_startWaiting]
def wsX11_doughOfArrangedDay_r2 : List Cond := [Cond.selects RX3 yX3_startWaiting yX3_startWaiting, Cond.code yX3_startWaiting cX3_startWaiting 4 none, Cond.fieldLink RX3 24 "OvenDays$DayPlan" "loads" "LOvenDays$Loads;", Cond.fieldLink RX3 31 "OvenDays$DayPlan" "count" "I", Cond.fieldLink RX3 18 "OvenDays$DayPlan" "waiting" "[I", Cond.fieldLink RX3 15 "OvenDays$DayPlan" "loadAt" "[I", Cond.fieldLink RX3 9 "OvenDays$DayPlan" "order" "[I", Cond.methodLink RX3 71 yX5_clear, Cond.instanceMethod yX5_clear, Cond.selects RX5 yX5_clear yX5_clear, Cond.initialized RX5, Cond.code yX5_clear cX5_clear 1 none, Cond.fieldLink RX5 20 "OvenDays$Loads" "count" "I", Cond.methodLink RX3 41 yX1_value, Cond.instanceMethod yX1_value, Cond.selects RX1 yX1_value yX1_value, Cond.initialized RX1, Cond.code yX1_value cX1_value 3 (some .int), Cond.fieldLink RX1 14 "OvenDays$Batches" "rows" "LOvenDays$Table;", Cond.methodLink RX1 28 yX7_get, Cond.instanceMethod yX7_get, Cond.selects RX7 yX7_get yX7_get, Cond.initialized RX7, Cond.code yX7_get cX7_get 3 (some .int)]
def wsX11_doughOfArrangedDay_r3 : List Cond := [Cond.fieldLink RX7 14 "OvenDays$Table" "room" "I", Cond.fieldLink RX7 9 "OvenDays$Table" "columns" "[[I", Cond.methodLink RX3 55 yX3_kindForHeat, Cond.instanceMethod yX3_kindForHeat, Cond.selects RX3 yX3_kindForHeat yX3_kindForHeat, Cond.code yX3_kindForHeat cX3_kindForHeat 2 (some .int), Cond.fieldLink RX3 28 "OvenDays$DayPlan" "LOWEST" "[I", Cond.fieldLink RX3 74 "OvenDays$DayPlan" "GREATEST" "[I", Cond.methodLink RX3 58 yX3_bakeLoad, Cond.instanceMethod yX3_bakeLoad, Cond.selects RX3 yX3_bakeLoad yX3_bakeLoad, Cond.code yX3_bakeLoad cX3_bakeLoad 9 none, Cond.fieldLink RX3 78 "OvenDays$DayPlan" "TICKS" "[I", Cond.methodLink RX3 77 yX5_size, Cond.instanceMethod yX5_size, Cond.selects RX5 yX5_size yX5_size, Cond.code yX5_size cX5_size 1 (some .int), Cond.methodLink RX3 81 yX5_add, Cond.instanceMethod yX5_add, Cond.selects RX5 yX5_add yX5_add, Cond.code yX5_add cX5_add 6 none, Cond.fieldLink RX5 14 "OvenDays$Loads" "rows" "LOvenDays$Table;", Cond.methodLink RX5 32 yX7_put, Cond.instanceMethod yX7_put]
def wsX11_doughOfArrangedDay_r4 : List Cond := [Cond.selects RX7 yX7_put yX7_put, Cond.code yX7_put cX7_put 4 none, Cond.methodLink RX3 62 yX3_isTooHotForSome, Cond.instanceMethod yX3_isTooHotForSome, Cond.selects RX3 yX3_isTooHotForSome yX3_isTooHotForSome, Cond.code yX3_isTooHotForSome cX3_isTooHotForSome 2 (some .boolean), Cond.methodLink RX11 305 yX3_dough, Cond.instanceMethod yX3_dough, Cond.selects RX3 yX3_dough yX3_dough, Cond.code yX3_dough cX3_dough 4 (some .int), Cond.methodLink RX3 89 yX3_loadAt, Cond.instanceMethod yX3_loadAt, Cond.selects RX3 yX3_loadAt yX3_loadAt, Cond.code yX3_loadAt cX3_loadAt 2 (some .int), Cond.methodLink RX3 85 yX3_batchAt, Cond.instanceMethod yX3_batchAt, Cond.selects RX3 yX3_batchAt yX3_batchAt, Cond.code yX3_batchAt cX3_batchAt 2 (some .int)]
def wsX11_doughOfArrangedDay : List Cond := .code yX11_doughOfArrangedDay cX11_doughOfArrangedDay 2 (some .int) :: ((wsX11_doughOfArrangedDay_r1 ++ (wsX11_doughOfArrangedDay_r2 ++ (wsX11_doughOfArrangedDay_r3 ++ wsX11_doughOfArrangedDay_r4))) ++ wsX110 ++ wsX90 ++ wsX30 ++ wsX50 ++ wsX10 ++ wsX70)
def wsX11_doughWith_r1 : List Cond := [Cond.fieldLink RX11 10 "OvenDays" "village" "LOvenDays$Village;", Cond.fieldLink RX11 19 "OvenDays" "plan" "LOvenDays$DayPlan;", Cond.methodLink RX11 197 yX11_whyNotWithin, Cond.static yX11_whyNotWithin, Cond.initialized RX11, Cond.code yX11_whyNotWithin cX11_whyNotWithin 3 (some .int), Cond.methodLink RX11 45 yX11_refuse, Cond.static yX11_refuse, Cond.code yX11_refuse cX11_refuse 1 none, Cond.classLink RX11 281 "java/lang/IndexOutOfBoundsException", Cond.initialized "java/lang/IndexOutOfBoundsException", Cond.classLink RX11 288 "java/lang/IllegalArgumentException", Cond.initialized "java/lang/IllegalArgumentException", Cond.classLink RX11 293 "java/lang/IllegalStateException", Cond.initialized "java/lang/IllegalStateException", Cond.methodLink RX11 147 yX9_arrangeNextDay, Cond.instanceMethod yX9_arrangeNextDay, Cond.selects RX9 yX9_arrangeNextDay yX9_arrangeNextDay, Cond.initialized RX9, Cond.code yX9_arrangeNextDay cX9_arrangeNextDay 2 none, Cond.fieldLink RX9 21 "OvenDays$Village" "batches" "LOvenDays$Batches;", Cond.fieldLink RX9 12 "OvenDays$Village" "households" "LOvenDays$Households;", Cond.methodLink RX9 102 yX4_size, Cond.instanceMethod yX4_size]
def wsX11_doughWith_r2 : List Cond := [Cond.selects RX4 yX4_size yX4_size, Cond.initialized RX4, Cond.code yX4_size cX4_size 1 (some .int), Cond.fieldLink RX4 20 "OvenDays$Households" "count" "I", Cond.methodLink RX9 103 yX4_nextOne, Cond.instanceMethod yX4_nextOne, Cond.selects RX4 yX4_nextOne yX4_nextOne, Cond.code yX4_nextOne cX4_nextOne 8 (some .int), Cond.fieldLink RX4 14 "OvenDays$Households" "rows" "LOvenDays$Table;", Cond.methodLink RX4 39 yX7_count, Cond.instanceMethod yX7_count, Cond.selects RX7 yX7_count yX7_count, Cond.initialized RX7, Cond.code yX7_count cX7_count 4 (some .int), Cond.methodLink RX7 18 yX7_countBoth, Cond.instanceMethod yX7_countBoth, Cond.selects RX7 yX7_countBoth yX7_countBoth, Cond.code yX7_countBoth cX7_countBoth 10 (some .int), Cond.fieldLink RX7 9 "OvenDays$Table" "columns" "[[I", Cond.fieldLink RX7 14 "OvenDays$Table" "room" "I", Cond.methodLink RX4 28 yX7_get, Cond.instanceMethod yX7_get, Cond.selects RX7 yX7_get yX7_get, Cond.code yX7_get cX7_get 3 (some .int)]
def wsX11_doughWith_r3 : List Cond := [Cond.methodLink RX4 46 yX4_dueOf, Cond.instanceMethod yX4_dueOf, Cond.selects RX4 yX4_dueOf yX4_dueOf, Cond.code yX4_dueOf cX4_dueOf 6 (some .long), Cond.methodLink RX4 32 yX7_sum, Cond.instanceMethod yX7_sum, Cond.selects RX7 yX7_sum yX7_sum, Cond.code yX7_sum cX7_sum 6 (some .int), Cond.methodLink RX9 106 yX3_arrange, Cond.instanceMethod yX3_arrange, Cond.selects RX3 yX3_arrange yX3_arrange, Cond.initialized RX3, Cond.code yX3_arrange cX3_arrange 7 none, Cond.fieldLink RX3 31 "OvenDays$DayPlan" "count" "I", Cond.fieldLink RX3 9 "OvenDays$DayPlan" "order" "[I", Cond.methodLink RX3 35 yX1_size, Cond.instanceMethod yX1_size, Cond.selects RX1 yX1_size yX1_size, Cond.initialized RX1, Cond.code yX1_size cX1_size 1 (some .int), Cond.fieldLink RX1 20 "OvenDays$Batches" "count" "I", Cond.methodLink RX3 41 yX1_value, Cond.instanceMethod yX1_value, Cond.selects RX1 yX1_value yX1_value]
def wsX11_doughWith_r4 : List Cond := [Cond.code yX1_value cX1_value 3 (some .int), Cond.fieldLink RX1 14 "OvenDays$Batches" "rows" "LOvenDays$Table;", Cond.methodLink RX1 28 yX7_get, Cond.methodLink RX11 200 yX11_doughOfArrangedDay, Cond.instanceMethod yX11_doughOfArrangedDay, Cond.selects RX11 yX11_doughOfArrangedDay yX11_doughOfArrangedDay, Cond.code yX11_doughOfArrangedDay cX11_doughOfArrangedDay 2 (some .int), Cond.methodLink RX11 298 yX9_heatWith, Cond.instanceMethod yX9_heatWith, Cond.selects RX9 yX9_heatWith yX9_heatWith, Cond.code yX9_heatWith cX9_heatWith 2 (some .int), Cond.fieldLink RX9 39 "OvenDays$Village" "heat" "I", Cond.methodLink RX9 97 Lib.Math.min.name, Cond.static Lib.Math.min.name, Cond.initialized "java/lang/Math", Cond.code Lib.Math.min.name Lib.Math.min.code 2 (some .int), Cond.methodLink RX11 301 yX3_fire, Cond.instanceMethod yX3_fire, Cond.selects RX3 yX3_fire yX3_fire, Cond.code yX3_fire cX3_fire 5 none, Cond.fieldLink RX3 45 "OvenDays$DayPlan" "heat" "I", Cond.fieldLink RX3 52 "OvenDays$DayPlan" "left" "I", Cond.methodLink RX3 66 Lib.Math.max.name, Cond.static Lib.Math.max.name]
def wsX11_doughWith_r5 : List Cond := [Cond.code Lib.Math.max.name Lib.Math.max.code 2 (some .int), Cond.methodLink RX3 48 yX3_startWaiting, Cond.instanceMethod yX3_startWaiting, Cond.selects RX3 yX3_startWaiting yX3_startWaiting, Cond.code yX3_startWaiting cX3_startWaiting 4 none, Cond.fieldLink RX3 24 "OvenDays$DayPlan" "loads" "LOvenDays$Loads;", Cond.fieldLink RX3 18 "OvenDays$DayPlan" "waiting" "[I", Cond.fieldLink RX3 15 "OvenDays$DayPlan" "loadAt" "[I", Cond.methodLink RX3 71 yX5_clear, Cond.instanceMethod yX5_clear, Cond.selects RX5 yX5_clear yX5_clear, Cond.initialized RX5, Cond.code yX5_clear cX5_clear 1 none, Cond.fieldLink RX5 20 "OvenDays$Loads" "count" "I", Cond.methodLink RX3 55 yX3_kindForHeat, Cond.instanceMethod yX3_kindForHeat, Cond.selects RX3 yX3_kindForHeat yX3_kindForHeat, Cond.code yX3_kindForHeat cX3_kindForHeat 2 (some .int), Cond.fieldLink RX3 28 "OvenDays$DayPlan" "LOWEST" "[I", Cond.fieldLink RX3 74 "OvenDays$DayPlan" "GREATEST" "[I", Cond.methodLink RX3 58 yX3_bakeLoad, Cond.instanceMethod yX3_bakeLoad, Cond.selects RX3 yX3_bakeLoad yX3_bakeLoad, Cond.code yX3_bakeLoad cX3_bakeLoad 9 none]
def wsX11_doughWith_r6 : List Cond := [Cond.fieldLink RX3 78 "OvenDays$DayPlan" "TICKS" "[I", Cond.methodLink RX3 77 yX5_size, Cond.instanceMethod yX5_size, Cond.selects RX5 yX5_size yX5_size, Cond.code yX5_size cX5_size 1 (some .int), Cond.methodLink RX3 81 yX5_add, Cond.instanceMethod yX5_add, Cond.selects RX5 yX5_add yX5_add, Cond.code yX5_add cX5_add 6 none, Cond.fieldLink RX5 14 "OvenDays$Loads" "rows" "LOvenDays$Table;", Cond.methodLink RX5 32 yX7_put, Cond.instanceMethod yX7_put, Cond.selects RX7 yX7_put yX7_put, Cond.code yX7_put cX7_put 4 none, Cond.methodLink RX3 62 yX3_isTooHotForSome, Cond.instanceMethod yX3_isTooHotForSome, Cond.selects RX3 yX3_isTooHotForSome yX3_isTooHotForSome, Cond.code yX3_isTooHotForSome cX3_isTooHotForSome 2 (some .boolean), Cond.methodLink RX11 305 yX3_dough, Cond.instanceMethod yX3_dough, Cond.selects RX3 yX3_dough yX3_dough, Cond.code yX3_dough cX3_dough 4 (some .int), Cond.methodLink RX3 89 yX3_loadAt, Cond.instanceMethod yX3_loadAt]
def wsX11_doughWith_r7 : List Cond := [Cond.selects RX3 yX3_loadAt yX3_loadAt, Cond.code yX3_loadAt cX3_loadAt 2 (some .int), Cond.methodLink RX3 85 yX3_batchAt, Cond.instanceMethod yX3_batchAt, Cond.selects RX3 yX3_batchAt yX3_batchAt, Cond.code yX3_batchAt cX3_batchAt 2 (some .int)]
def wsX11_doughWith : List Cond := .code yX11_doughWith cX11_doughWith 2 (some .int) :: ((wsX11_doughWith_r1 ++ (wsX11_doughWith_r2 ++ (wsX11_doughWith_r3 ++ (wsX11_doughWith_r4 ++ (wsX11_doughWith_r5 ++ (wsX11_doughWith_r6 ++ wsX11_doughWith_r7)))))) ++ wsX110 ++ wsX90 ++ wsX40 ++ wsX70 ++ wsX30 ++ wsX10 ++ wsX50 ++ (vx_atS RX11 285 "java/lang/IndexOutOfBoundsException" ["java/lang/RuntimeException", "java/lang/Exception"]).filter goodWord ++ (vx_atS RX11 292 "java/lang/IllegalArgumentException" ["java/lang/RuntimeException", "java/lang/Exception"]).filter goodWord ++ (vx_atS RX11 297 "java/lang/IllegalStateException" ["java/lang/RuntimeException", "java/lang/Exception"]).filter goodWord)
def wsX11_bestWood_r1 : List Cond := [Cond.fieldLink RX11 10 "OvenDays" "village" "LOvenDays$Village;", Cond.fieldLink RX11 19 "OvenDays" "plan" "LOvenDays$DayPlan;", Cond.methodLink RX11 175 yX1_size, Cond.instanceMethod yX1_size, Cond.selects RX1 yX1_size yX1_size, Cond.initialized RX1, Cond.code yX1_size cX1_size 1 (some .int), Cond.fieldLink RX1 20 "OvenDays$Batches" "count" "I", Cond.methodLink RX11 147 yX9_arrangeNextDay, Cond.instanceMethod yX9_arrangeNextDay, Cond.selects RX9 yX9_arrangeNextDay yX9_arrangeNextDay, Cond.initialized RX9, Cond.code yX9_arrangeNextDay cX9_arrangeNextDay 2 none, Cond.fieldLink RX9 21 "OvenDays$Village" "batches" "LOvenDays$Batches;", Cond.fieldLink RX9 12 "OvenDays$Village" "households" "LOvenDays$Households;", Cond.methodLink RX9 102 yX4_size, Cond.instanceMethod yX4_size, Cond.selects RX4 yX4_size yX4_size, Cond.initialized RX4, Cond.code yX4_size cX4_size 1 (some .int), Cond.fieldLink RX4 20 "OvenDays$Households" "count" "I", Cond.methodLink RX9 103 yX4_nextOne, Cond.instanceMethod yX4_nextOne, Cond.selects RX4 yX4_nextOne yX4_nextOne]
def wsX11_bestWood_r2 : List Cond := [Cond.code yX4_nextOne cX4_nextOne 8 (some .int), Cond.fieldLink RX4 14 "OvenDays$Households" "rows" "LOvenDays$Table;", Cond.methodLink RX4 39 yX7_count, Cond.instanceMethod yX7_count, Cond.selects RX7 yX7_count yX7_count, Cond.initialized RX7, Cond.code yX7_count cX7_count 4 (some .int), Cond.methodLink RX7 18 yX7_countBoth, Cond.instanceMethod yX7_countBoth, Cond.selects RX7 yX7_countBoth yX7_countBoth, Cond.code yX7_countBoth cX7_countBoth 10 (some .int), Cond.fieldLink RX7 9 "OvenDays$Table" "columns" "[[I", Cond.fieldLink RX7 14 "OvenDays$Table" "room" "I", Cond.methodLink RX4 28 yX7_get, Cond.instanceMethod yX7_get, Cond.selects RX7 yX7_get yX7_get, Cond.code yX7_get cX7_get 3 (some .int), Cond.methodLink RX4 46 yX4_dueOf, Cond.instanceMethod yX4_dueOf, Cond.selects RX4 yX4_dueOf yX4_dueOf, Cond.code yX4_dueOf cX4_dueOf 6 (some .long), Cond.methodLink RX4 32 yX7_sum, Cond.instanceMethod yX7_sum, Cond.selects RX7 yX7_sum yX7_sum]
def wsX11_bestWood_r3 : List Cond := [Cond.code yX7_sum cX7_sum 6 (some .int), Cond.methodLink RX9 106 yX3_arrange, Cond.instanceMethod yX3_arrange, Cond.selects RX3 yX3_arrange yX3_arrange, Cond.initialized RX3, Cond.code yX3_arrange cX3_arrange 7 none, Cond.fieldLink RX3 31 "OvenDays$DayPlan" "count" "I", Cond.fieldLink RX3 9 "OvenDays$DayPlan" "order" "[I", Cond.methodLink RX3 35 yX1_size, Cond.methodLink RX3 41 yX1_value, Cond.instanceMethod yX1_value, Cond.selects RX1 yX1_value yX1_value, Cond.code yX1_value cX1_value 3 (some .int), Cond.fieldLink RX1 14 "OvenDays$Batches" "rows" "LOvenDays$Table;", Cond.methodLink RX1 28 yX7_get, Cond.methodLink RX11 200 yX11_doughOfArrangedDay, Cond.instanceMethod yX11_doughOfArrangedDay, Cond.selects RX11 yX11_doughOfArrangedDay yX11_doughOfArrangedDay, Cond.initialized RX11, Cond.code yX11_doughOfArrangedDay cX11_doughOfArrangedDay 2 (some .int), Cond.methodLink RX11 298 yX9_heatWith, Cond.instanceMethod yX9_heatWith, Cond.selects RX9 yX9_heatWith yX9_heatWith, Cond.code yX9_heatWith cX9_heatWith 2 (some .int)]
def wsX11_bestWood_r4 : List Cond := [Cond.fieldLink RX9 39 "OvenDays$Village" "heat" "I", Cond.methodLink RX9 97 Lib.Math.min.name, Cond.static Lib.Math.min.name, Cond.initialized "java/lang/Math", Cond.code Lib.Math.min.name Lib.Math.min.code 2 (some .int), Cond.methodLink RX11 301 yX3_fire, Cond.instanceMethod yX3_fire, Cond.selects RX3 yX3_fire yX3_fire, Cond.code yX3_fire cX3_fire 5 none, Cond.fieldLink RX3 45 "OvenDays$DayPlan" "heat" "I", Cond.fieldLink RX3 52 "OvenDays$DayPlan" "left" "I", Cond.methodLink RX3 66 Lib.Math.max.name, Cond.static Lib.Math.max.name, Cond.code Lib.Math.max.name Lib.Math.max.code 2 (some .int), Cond.methodLink RX3 48 yX3_startWaiting, Cond.instanceMethod yX3_startWaiting, Cond.selects RX3 yX3_startWaiting yX3_startWaiting, Cond.code yX3_startWaiting cX3_startWaiting 4 none, Cond.fieldLink RX3 24 "OvenDays$DayPlan" "loads" "LOvenDays$Loads;", Cond.fieldLink RX3 18 "OvenDays$DayPlan" "waiting" "[I", Cond.fieldLink RX3 15 "OvenDays$DayPlan" "loadAt" "[I", Cond.methodLink RX3 71 yX5_clear, Cond.instanceMethod yX5_clear, Cond.selects RX5 yX5_clear yX5_clear]
def wsX11_bestWood_r5 : List Cond := [Cond.initialized RX5, Cond.code yX5_clear cX5_clear 1 none, Cond.fieldLink RX5 20 "OvenDays$Loads" "count" "I", Cond.methodLink RX3 55 yX3_kindForHeat, Cond.instanceMethod yX3_kindForHeat, Cond.selects RX3 yX3_kindForHeat yX3_kindForHeat, Cond.code yX3_kindForHeat cX3_kindForHeat 2 (some .int), Cond.fieldLink RX3 28 "OvenDays$DayPlan" "LOWEST" "[I", Cond.fieldLink RX3 74 "OvenDays$DayPlan" "GREATEST" "[I", Cond.methodLink RX3 58 yX3_bakeLoad, Cond.instanceMethod yX3_bakeLoad, Cond.selects RX3 yX3_bakeLoad yX3_bakeLoad, Cond.code yX3_bakeLoad cX3_bakeLoad 9 none, Cond.fieldLink RX3 78 "OvenDays$DayPlan" "TICKS" "[I", Cond.methodLink RX3 77 yX5_size, Cond.instanceMethod yX5_size, Cond.selects RX5 yX5_size yX5_size, Cond.code yX5_size cX5_size 1 (some .int), Cond.methodLink RX3 81 yX5_add, Cond.instanceMethod yX5_add, Cond.selects RX5 yX5_add yX5_add, Cond.code yX5_add cX5_add 6 none, Cond.fieldLink RX5 14 "OvenDays$Loads" "rows" "LOvenDays$Table;", Cond.methodLink RX5 32 yX7_put]
def wsX11_bestWood_r6 : List Cond := [Cond.instanceMethod yX7_put, Cond.selects RX7 yX7_put yX7_put, Cond.code yX7_put cX7_put 4 none, Cond.methodLink RX3 62 yX3_isTooHotForSome, Cond.instanceMethod yX3_isTooHotForSome, Cond.selects RX3 yX3_isTooHotForSome yX3_isTooHotForSome, Cond.code yX3_isTooHotForSome cX3_isTooHotForSome 2 (some .boolean), Cond.methodLink RX11 305 yX3_dough, Cond.instanceMethod yX3_dough, Cond.selects RX3 yX3_dough yX3_dough, Cond.code yX3_dough cX3_dough 4 (some .int), Cond.methodLink RX3 89 yX3_loadAt, Cond.instanceMethod yX3_loadAt, Cond.selects RX3 yX3_loadAt yX3_loadAt, Cond.code yX3_loadAt cX3_loadAt 2 (some .int), Cond.methodLink RX3 85 yX3_batchAt, Cond.instanceMethod yX3_batchAt, Cond.selects RX3 yX3_batchAt yX3_batchAt, Cond.code yX3_batchAt cX3_batchAt 2 (some .int)]
def wsX11_bestWood : List Cond := .code yX11_bestWood cX11_bestWood 5 (some .int) :: ((wsX11_bestWood_r1 ++ (wsX11_bestWood_r2 ++ (wsX11_bestWood_r3 ++ (wsX11_bestWood_r4 ++ (wsX11_bestWood_r5 ++ wsX11_bestWood_r6))))) ++ wsX110 ++ wsX90 ++ wsX10 ++ wsX40 ++ wsX70 ++ wsX30 ++ wsX50)
def wsX11_likeMarks : List Cond := .code yX11_likeMarks cX11_likeMarks 1 (some .int) :: ([.fieldLink RX11 10 "OvenDays" "village" "LOvenDays$Village;", .methodLink RX11 203 yX4_likePairs, .instanceMethod yX4_likePairs, .selects RX4 yX4_likePairs yX4_likePairs, .initialized RX4, .code yX4_likePairs cX4_likePairs 4 (some .int), .fieldLink RX4 20 "OvenDays$Households" "count" "I", .fieldLink RX4 14 "OvenDays$Households" "rows" "LOvenDays$Table;", .methodLink RX4 28 yX7_get, .instanceMethod yX7_get, .selects RX7 yX7_get yX7_get, .initialized RX7, .code yX7_get cX7_get 3 (some .int), .fieldLink RX7 14 "OvenDays$Table" "room" "I", .fieldLink RX7 9 "OvenDays$Table" "columns" "[[I", .methodLink RX4 60 yX4_alike, .static yX4_alike, .code yX4_alike cX4_alike 2 (some .boolean), .static yX11_contains, .initialized RX11, .code yX11_contains cX11_contains 2 (some .boolean)] ++ wsX110 ++ wsX90 ++ wsX40 ++ wsX70)
def wsX11_nextWithAsMany : List Cond := .code yX11_nextWithAsMany cX11_nextWithAsMany 3 (some .int) :: ([.constant RX11 308 (65536)])
def wsX11_freeMark_r1 : List Cond := [Cond.constant RX11 206 (65535), Cond.fieldLink RX11 10 "OvenDays" "village" "LOvenDays$Village;", Cond.methodLink RX11 197 yX11_whyNotWithin, Cond.static yX11_whyNotWithin, Cond.initialized RX11, Cond.code yX11_whyNotWithin cX11_whyNotWithin 3 (some .int), Cond.methodLink RX11 45 yX11_refuse, Cond.static yX11_refuse, Cond.code yX11_refuse cX11_refuse 1 none, Cond.classLink RX11 281 "java/lang/IndexOutOfBoundsException", Cond.initialized "java/lang/IndexOutOfBoundsException", Cond.classLink RX11 288 "java/lang/IllegalArgumentException", Cond.initialized "java/lang/IllegalArgumentException", Cond.classLink RX11 293 "java/lang/IllegalStateException", Cond.initialized "java/lang/IllegalStateException", Cond.methodLink RX11 207 yX4_hasLike, Cond.instanceMethod yX4_hasLike, Cond.selects RX4 yX4_hasLike yX4_hasLike, Cond.initialized RX4, Cond.code yX4_hasLike cX4_hasLike 3 (some .boolean), Cond.fieldLink RX4 20 "OvenDays$Households" "count" "I", Cond.fieldLink RX4 14 "OvenDays$Households" "rows" "LOvenDays$Table;", Cond.methodLink RX4 28 yX7_get, Cond.instanceMethod yX7_get]
def wsX11_freeMark_r2 : List Cond := [Cond.selects RX7 yX7_get yX7_get, Cond.initialized RX7, Cond.code yX7_get cX7_get 3 (some .int), Cond.fieldLink RX7 14 "OvenDays$Table" "room" "I", Cond.fieldLink RX7 9 "OvenDays$Table" "columns" "[[I", Cond.methodLink RX4 60 yX4_alike, Cond.static yX4_alike, Cond.code yX4_alike cX4_alike 2 (some .boolean), Cond.static yX11_contains, Cond.code yX11_contains cX11_contains 2 (some .boolean), Cond.methodLink RX11 210 yX11_nextWithAsMany, Cond.static yX11_nextWithAsMany, Cond.code yX11_nextWithAsMany cX11_nextWithAsMany 3 (some .int), Cond.constant RX11 308 (65536)]
def wsX11_freeMark : List Cond := .code yX11_freeMark cX11_freeMark 4 (some .int) :: ((wsX11_freeMark_r1 ++ wsX11_freeMark_r2) ++ wsX110 ++ wsX90 ++ wsX40 ++ wsX70 ++ (vx_atS RX11 285 "java/lang/IndexOutOfBoundsException" ["java/lang/RuntimeException", "java/lang/Exception"]).filter goodWord ++ (vx_atS RX11 292 "java/lang/IllegalArgumentException" ["java/lang/RuntimeException", "java/lang/Exception"]).filter goodWord ++ (vx_atS RX11 297 "java/lang/IllegalStateException" ["java/lang/RuntimeException", "java/lang/Exception"]).filter goodWord)
def wsX11_type_r1 : List Cond := [Cond.fieldLink RX11 33 "OvenDays" "text" "LOvenDays$CommandText;", Cond.methodLink RX11 197 yX11_whyNotWithin, Cond.static yX11_whyNotWithin, Cond.initialized RX11, Cond.code yX11_whyNotWithin cX11_whyNotWithin 3 (some .int), Cond.methodLink RX11 45 yX11_refuse, Cond.static yX11_refuse, Cond.code yX11_refuse cX11_refuse 1 none, Cond.classLink RX11 281 "java/lang/IndexOutOfBoundsException", Cond.initialized "java/lang/IndexOutOfBoundsException", Cond.classLink RX11 288 "java/lang/IllegalArgumentException", Cond.initialized "java/lang/IllegalArgumentException", Cond.classLink RX11 293 "java/lang/IllegalStateException", Cond.initialized "java/lang/IllegalStateException", Cond.methodLink RX11 213 yX2_isFull, Cond.instanceMethod yX2_isFull, Cond.selects RX2 yX2_isFull yX2_isFull, Cond.initialized RX2, Cond.code yX2_isFull cX2_isFull 1 (some .boolean), Cond.fieldLink RX2 23 "OvenDays$CommandText" "length" "I", Cond.methodLink RX11 217 yX2_append, Cond.instanceMethod yX2_append, Cond.selects RX2 yX2_append yX2_append, Cond.code yX2_append cX2_append 2 (some .int)]
def wsX11_type_r2 : List Cond := [Cond.fieldLink RX2 11 "OvenDays$CommandText" "bytes" "[B", Cond.methodLink RX2 26 yX2_isFull]
def wsX11_type : List Cond := .code yX11_type cX11_type 2 (some .int) :: ((wsX11_type_r1 ++ wsX11_type_r2) ++ wsX110 ++ wsX20 ++ (vx_atS RX11 285 "java/lang/IndexOutOfBoundsException" ["java/lang/RuntimeException", "java/lang/Exception"]).filter goodWord ++ (vx_atS RX11 292 "java/lang/IllegalArgumentException" ["java/lang/RuntimeException", "java/lang/Exception"]).filter goodWord ++ (vx_atS RX11 297 "java/lang/IllegalStateException" ["java/lang/RuntimeException", "java/lang/Exception"]).filter goodWord)
def wsX11_clearCommands : List Cond := .code yX11_clearCommands cX11_clearCommands 1 (some .int) :: ([.fieldLink RX11 33 "OvenDays" "text" "LOvenDays$CommandText;", .methodLink RX11 220 yX2_empty, .instanceMethod yX2_empty, .selects RX2 yX2_empty yX2_empty, .initialized RX2, .code yX2_empty cX2_empty 2 (some .int), .fieldLink RX2 23 "OvenDays$CommandText" "length" "I"] ++ wsX110 ++ wsX20)
def wsJx29ce0_ordinal_8abf5 : List Cond := .code yJx29ce0_ordinal_8abf5 cJx29ce0_ordinal_8abf5 1 (some .int) :: ([.fieldLink RJx29ce0 7 "java/lang/Enum" "ordinal" "I"])
def wsX11_whyNoCommand_r1 : List Cond := [Cond.fieldLink RX11 312 "OvenDays$1" "$SwitchMap$OvenDays$Word" "[I", Cond.fieldLink RX11 10 "OvenDays" "village" "LOvenDays$Village;", Cond.methodLink RX11 318 ⟨"OvenDays$Word", "ordinal", "()I"⟩, Cond.sameMethod "OvenDays$Word" "java/lang/Enum" "ordinal" "()I", Cond.selects RX10 ⟨"OvenDays$Word", "ordinal", "()I"⟩ yJx29ce0_ordinal_8abf5, Cond.instanceMethod yJx29ce0_ordinal_8abf5, Cond.initialized RJx29ce0, Cond.code yJx29ce0_ordinal_8abf5 cJx29ce0_ordinal_8abf5 1 (some .int), Cond.fieldLink RJx29ce0 7 "java/lang/Enum" "ordinal" "I", Cond.methodLink RX11 41 yX9_whyNoJoining, Cond.instanceMethod yX9_whyNoJoining, Cond.selects RX9 yX9_whyNoJoining yX9_whyNoJoining, Cond.initialized RX9, Cond.code yX9_whyNoJoining cX9_whyNoJoining 2 (some .int), Cond.constant RX9 69 (65535), Cond.fieldLink RX9 12 "OvenDays$Village" "households" "LOvenDays$Households;", Cond.static yX11_whyNotWithin, Cond.initialized RX11, Cond.code yX11_whyNotWithin cX11_whyNotWithin 3 (some .int), Cond.methodLink RX9 74 yX4_isFull, Cond.instanceMethod yX4_isFull, Cond.selects RX4 yX4_isFull yX4_isFull, Cond.initialized RX4, Cond.code yX4_isFull cX4_isFull 1 (some .boolean)]
def wsX11_whyNoCommand_r2 : List Cond := [Cond.fieldLink RX4 20 "OvenDays$Households" "count" "I", Cond.methodLink RX9 78 yX4_withMark, Cond.instanceMethod yX4_withMark, Cond.selects RX4 yX4_withMark yX4_withMark, Cond.code yX4_withMark cX4_withMark 3 (some .int), Cond.fieldLink RX4 14 "OvenDays$Households" "rows" "LOvenDays$Table;", Cond.methodLink RX4 28 yX7_get, Cond.instanceMethod yX7_get, Cond.selects RX7 yX7_get yX7_get, Cond.initialized RX7, Cond.code yX7_get cX7_get 3 (some .int), Cond.fieldLink RX7 14 "OvenDays$Table" "room" "I", Cond.fieldLink RX7 9 "OvenDays$Table" "columns" "[[I", Cond.methodLink RX11 75 yX9_whyNoBatch, Cond.instanceMethod yX9_whyNoBatch, Cond.selects RX9 yX9_whyNoBatch yX9_whyNoBatch, Cond.code yX9_whyNoBatch cX9_whyNoBatch 4 (some .int), Cond.fieldLink RX9 21 "OvenDays$Village" "batches" "LOvenDays$Batches;", Cond.methodLink RX9 65 yX4_has, Cond.instanceMethod yX4_has, Cond.selects RX4 yX4_has yX4_has, Cond.code yX4_has cX4_has 2 (some .boolean), Cond.static yX11_whyNotBelow, Cond.code yX11_whyNotBelow cX11_whyNotBelow 2 (some .int)]
def wsX11_whyNoCommand_r3 : List Cond := [Cond.methodLink RX11 197 yX11_whyNotWithin, Cond.methodLink RX9 86 yX1_isFull, Cond.instanceMethod yX1_isFull, Cond.selects RX1 yX1_isFull yX1_isFull, Cond.initialized RX1, Cond.code yX1_isFull cX1_isFull 1 (some .boolean), Cond.fieldLink RX1 20 "OvenDays$Batches" "count" "I", Cond.methodLink RX11 97 yX9_whyNoDay, Cond.instanceMethod yX9_whyNoDay, Cond.selects RX9 yX9_whyNoDay yX9_whyNoDay, Cond.code yX9_whyNoDay cX9_whyNoDay 2 (some .int), Cond.methodLink RX9 87 yX1_size, Cond.instanceMethod yX1_size, Cond.selects RX1 yX1_size yX1_size, Cond.code yX1_size cX1_size 1 (some .int), Cond.methodLink RX11 69 yX9_whyNoHousehold, Cond.instanceMethod yX9_whyNoHousehold, Cond.selects RX9 yX9_whyNoHousehold yX9_whyNoHousehold, Cond.code yX9_whyNoHousehold cX9_whyNoHousehold 2 (some .int)]
def wsX11_whyNoCommand : List Cond := .code yX11_whyNoCommand cX11_whyNoCommand 5 (some .int) :: ((wsX11_whyNoCommand_r1 ++ (wsX11_whyNoCommand_r2 ++ wsX11_whyNoCommand_r3)) ++ wsX110 ++ wsX90 ++ wsX40 ++ wsX70 ++ wsX10)
def wsX11_carryOut_r1 : List Cond := [Cond.fieldLink RX11 312 "OvenDays$1" "$SwitchMap$OvenDays$Word" "[I", Cond.fieldLink RX11 10 "OvenDays" "village" "LOvenDays$Village;", Cond.fieldLink RX11 19 "OvenDays" "plan" "LOvenDays$DayPlan;", Cond.methodLink RX11 309 yX11_whyNoCommand, Cond.instanceMethod yX11_whyNoCommand, Cond.selects RX11 yX11_whyNoCommand yX11_whyNoCommand, Cond.initialized RX11, Cond.code yX11_whyNoCommand cX11_whyNoCommand 5 (some .int), Cond.methodLink RX11 318 ⟨"OvenDays$Word", "ordinal", "()I"⟩, Cond.sameMethod "OvenDays$Word" "java/lang/Enum" "ordinal" "()I", Cond.selects RX10 ⟨"OvenDays$Word", "ordinal", "()I"⟩ yJx29ce0_ordinal_8abf5, Cond.instanceMethod yJx29ce0_ordinal_8abf5, Cond.initialized RJx29ce0, Cond.code yJx29ce0_ordinal_8abf5 cJx29ce0_ordinal_8abf5 1 (some .int), Cond.fieldLink RJx29ce0 7 "java/lang/Enum" "ordinal" "I", Cond.methodLink RX11 41 yX9_whyNoJoining, Cond.instanceMethod yX9_whyNoJoining, Cond.selects RX9 yX9_whyNoJoining yX9_whyNoJoining, Cond.initialized RX9, Cond.code yX9_whyNoJoining cX9_whyNoJoining 2 (some .int), Cond.constant RX9 69 (65535), Cond.fieldLink RX9 12 "OvenDays$Village" "households" "LOvenDays$Households;", Cond.static yX11_whyNotWithin, Cond.code yX11_whyNotWithin cX11_whyNotWithin 3 (some .int)]
def wsX11_carryOut_r2 : List Cond := [Cond.methodLink RX9 74 yX4_isFull, Cond.instanceMethod yX4_isFull, Cond.selects RX4 yX4_isFull yX4_isFull, Cond.initialized RX4, Cond.code yX4_isFull cX4_isFull 1 (some .boolean), Cond.fieldLink RX4 20 "OvenDays$Households" "count" "I", Cond.methodLink RX9 78 yX4_withMark, Cond.instanceMethod yX4_withMark, Cond.selects RX4 yX4_withMark yX4_withMark, Cond.code yX4_withMark cX4_withMark 3 (some .int), Cond.fieldLink RX4 14 "OvenDays$Households" "rows" "LOvenDays$Table;", Cond.methodLink RX4 28 yX7_get, Cond.instanceMethod yX7_get, Cond.selects RX7 yX7_get yX7_get, Cond.initialized RX7, Cond.code yX7_get cX7_get 3 (some .int), Cond.fieldLink RX7 14 "OvenDays$Table" "room" "I", Cond.fieldLink RX7 9 "OvenDays$Table" "columns" "[[I", Cond.methodLink RX11 75 yX9_whyNoBatch, Cond.instanceMethod yX9_whyNoBatch, Cond.selects RX9 yX9_whyNoBatch yX9_whyNoBatch, Cond.code yX9_whyNoBatch cX9_whyNoBatch 4 (some .int), Cond.fieldLink RX9 21 "OvenDays$Village" "batches" "LOvenDays$Batches;", Cond.methodLink RX9 65 yX4_has]
def wsX11_carryOut_r3 : List Cond := [Cond.instanceMethod yX4_has, Cond.selects RX4 yX4_has yX4_has, Cond.code yX4_has cX4_has 2 (some .boolean), Cond.static yX11_whyNotBelow, Cond.code yX11_whyNotBelow cX11_whyNotBelow 2 (some .int), Cond.methodLink RX11 197 yX11_whyNotWithin, Cond.methodLink RX9 86 yX1_isFull, Cond.instanceMethod yX1_isFull, Cond.selects RX1 yX1_isFull yX1_isFull, Cond.initialized RX1, Cond.code yX1_isFull cX1_isFull 1 (some .boolean), Cond.fieldLink RX1 20 "OvenDays$Batches" "count" "I", Cond.methodLink RX11 97 yX9_whyNoDay, Cond.instanceMethod yX9_whyNoDay, Cond.selects RX9 yX9_whyNoDay yX9_whyNoDay, Cond.code yX9_whyNoDay cX9_whyNoDay 2 (some .int), Cond.methodLink RX9 87 yX1_size, Cond.instanceMethod yX1_size, Cond.selects RX1 yX1_size yX1_size, Cond.code yX1_size cX1_size 1 (some .int), Cond.methodLink RX11 69 yX9_whyNoHousehold, Cond.instanceMethod yX9_whyNoHousehold, Cond.selects RX9 yX9_whyNoHousehold yX9_whyNoHousehold, Cond.code yX9_whyNoHousehold cX9_whyNoHousehold 2 (some .int)]
def wsX11_carryOut_r4 : List Cond := [Cond.methodLink RX11 57 yX4_add, Cond.instanceMethod yX4_add, Cond.selects RX4 yX4_add yX4_add, Cond.code yX4_add cX4_add 3 (some .int), Cond.methodLink RX4 35 yX7_put, Cond.instanceMethod yX7_put, Cond.selects RX7 yX7_put yX7_put, Cond.code yX7_put cX7_put 4 none, Cond.methodLink RX11 83 yX1_add, Cond.instanceMethod yX1_add, Cond.selects RX1 yX1_add yX1_add, Cond.code yX1_add cX1_add 5 (some .int), Cond.fieldLink RX1 14 "OvenDays$Batches" "rows" "LOvenDays$Table;", Cond.methodLink RX1 35 yX7_put, Cond.methodLink RX11 100 yX9_haveDay, Cond.instanceMethod yX9_haveDay, Cond.selects RX9 yX9_haveDay yX9_haveDay, Cond.code yX9_haveDay cX9_haveDay 5 (some .int), Cond.fieldLink RX9 35 "OvenDays$Village" "loaves" "LOvenDays$Loaves;", Cond.fieldLink RX9 28 "OvenDays$Village" "loads" "LOvenDays$Loads;", Cond.fieldLink RX9 62 "OvenDays$Village" "dough" "I", Cond.methodLink RX9 146 Lib.Math.max.name, Cond.static Lib.Math.max.name, Cond.initialized "java/lang/Math"]
def wsX11_carryOut_r5 : List Cond := [Cond.code Lib.Math.max.name Lib.Math.max.code 2 (some .int), Cond.fieldLink RX9 39 "OvenDays$Village" "heat" "I", Cond.fieldLink RX9 59 "OvenDays$Village" "days" "I", Cond.methodLink RX9 112 yX6_cameOut, Cond.instanceMethod yX6_cameOut, Cond.selects RX6 yX6_cameOut yX6_cameOut, Cond.initialized RX6, Cond.code yX6_cameOut cX6_cameOut 1 (some .int), Cond.fieldLink RX6 28 "OvenDays$Loaves" "cameOut" "I", Cond.methodLink RX9 115 yX9_arrangeNextDay, Cond.instanceMethod yX9_arrangeNextDay, Cond.selects RX9 yX9_arrangeNextDay yX9_arrangeNextDay, Cond.code yX9_arrangeNextDay cX9_arrangeNextDay 2 none, Cond.methodLink RX9 102 yX4_size, Cond.instanceMethod yX4_size, Cond.selects RX4 yX4_size yX4_size, Cond.code yX4_size cX4_size 1 (some .int), Cond.methodLink RX9 103 yX4_nextOne, Cond.instanceMethod yX4_nextOne, Cond.selects RX4 yX4_nextOne yX4_nextOne, Cond.code yX4_nextOne cX4_nextOne 8 (some .int), Cond.methodLink RX4 39 yX7_count, Cond.instanceMethod yX7_count, Cond.selects RX7 yX7_count yX7_count]
def wsX11_carryOut_r6 : List Cond := [Cond.code yX7_count cX7_count 4 (some .int), Cond.methodLink RX7 18 yX7_countBoth, Cond.instanceMethod yX7_countBoth, Cond.selects RX7 yX7_countBoth yX7_countBoth, Cond.code yX7_countBoth cX7_countBoth 10 (some .int), Cond.methodLink RX4 46 yX4_dueOf, Cond.instanceMethod yX4_dueOf, Cond.selects RX4 yX4_dueOf yX4_dueOf, Cond.code yX4_dueOf cX4_dueOf 6 (some .long), Cond.methodLink RX4 32 yX7_sum, Cond.instanceMethod yX7_sum, Cond.selects RX7 yX7_sum yX7_sum, Cond.code yX7_sum cX7_sum 6 (some .int), Cond.methodLink RX9 106 yX3_arrange, Cond.instanceMethod yX3_arrange, Cond.selects RX3 yX3_arrange yX3_arrange, Cond.initialized RX3, Cond.code yX3_arrange cX3_arrange 7 none, Cond.fieldLink RX3 31 "OvenDays$DayPlan" "count" "I", Cond.fieldLink RX3 9 "OvenDays$DayPlan" "order" "[I", Cond.methodLink RX3 35 yX1_size, Cond.methodLink RX3 41 yX1_value, Cond.instanceMethod yX1_value, Cond.selects RX1 yX1_value yX1_value]
def wsX11_carryOut_r7 : List Cond := [Cond.code yX1_value cX1_value 3 (some .int), Cond.methodLink RX1 28 yX7_get, Cond.methodLink RX9 119 yX4_bringWood, Cond.instanceMethod yX4_bringWood, Cond.selects RX4 yX4_bringWood yX4_bringWood, Cond.code yX4_bringWood cX4_bringWood 4 none, Cond.methodLink RX4 42 yX4_nextOne, Cond.methodLink RX9 123 yX9_heatWith, Cond.instanceMethod yX9_heatWith, Cond.selects RX9 yX9_heatWith yX9_heatWith, Cond.code yX9_heatWith cX9_heatWith 2 (some .int), Cond.methodLink RX9 97 Lib.Math.min.name, Cond.static Lib.Math.min.name, Cond.code Lib.Math.min.name Lib.Math.min.code 2 (some .int), Cond.methodLink RX9 126 yX3_fire, Cond.instanceMethod yX3_fire, Cond.selects RX3 yX3_fire yX3_fire, Cond.code yX3_fire cX3_fire 5 none, Cond.fieldLink RX3 45 "OvenDays$DayPlan" "heat" "I", Cond.fieldLink RX3 52 "OvenDays$DayPlan" "left" "I", Cond.methodLink RX3 66 Lib.Math.max.name, Cond.methodLink RX3 48 yX3_startWaiting, Cond.instanceMethod yX3_startWaiting, Cond.selects RX3 yX3_startWaiting yX3_startWaiting]
def wsX11_carryOut_r8 : List Cond := [Cond.code yX3_startWaiting cX3_startWaiting 4 none, Cond.fieldLink RX3 24 "OvenDays$DayPlan" "loads" "LOvenDays$Loads;", Cond.fieldLink RX3 18 "OvenDays$DayPlan" "waiting" "[I", Cond.fieldLink RX3 15 "OvenDays$DayPlan" "loadAt" "[I", Cond.methodLink RX3 71 yX5_clear, Cond.instanceMethod yX5_clear, Cond.selects RX5 yX5_clear yX5_clear, Cond.initialized RX5, Cond.code yX5_clear cX5_clear 1 none, Cond.fieldLink RX5 20 "OvenDays$Loads" "count" "I", Cond.methodLink RX3 55 yX3_kindForHeat, Cond.instanceMethod yX3_kindForHeat, Cond.selects RX3 yX3_kindForHeat yX3_kindForHeat, Cond.code yX3_kindForHeat cX3_kindForHeat 2 (some .int), Cond.fieldLink RX3 28 "OvenDays$DayPlan" "LOWEST" "[I", Cond.fieldLink RX3 74 "OvenDays$DayPlan" "GREATEST" "[I", Cond.methodLink RX3 58 yX3_bakeLoad, Cond.instanceMethod yX3_bakeLoad, Cond.selects RX3 yX3_bakeLoad yX3_bakeLoad, Cond.code yX3_bakeLoad cX3_bakeLoad 9 none, Cond.fieldLink RX3 78 "OvenDays$DayPlan" "TICKS" "[I", Cond.methodLink RX3 77 yX5_size, Cond.instanceMethod yX5_size, Cond.selects RX5 yX5_size yX5_size]
def wsX11_carryOut_r9 : List Cond := [Cond.code yX5_size cX5_size 1 (some .int), Cond.methodLink RX3 81 yX5_add, Cond.instanceMethod yX5_add, Cond.selects RX5 yX5_add yX5_add, Cond.code yX5_add cX5_add 6 none, Cond.fieldLink RX5 14 "OvenDays$Loads" "rows" "LOvenDays$Table;", Cond.methodLink RX5 32 yX7_put, Cond.methodLink RX3 62 yX3_isTooHotForSome, Cond.instanceMethod yX3_isTooHotForSome, Cond.selects RX3 yX3_isTooHotForSome yX3_isTooHotForSome, Cond.code yX3_isTooHotForSome cX3_isTooHotForSome 2 (some .boolean), Cond.methodLink RX9 130 yX3_loads, Cond.instanceMethod yX3_loads, Cond.selects RX3 yX3_loads yX3_loads, Cond.code yX3_loads cX3_loads 1 (some (.object "OvenDays$Loads")), Cond.methodLink RX9 53 yX5_copyFrom, Cond.instanceMethod yX5_copyFrom, Cond.selects RX5 yX5_copyFrom yX5_copyFrom, Cond.code yX5_copyFrom cX5_copyFrom 2 none, Cond.methodLink RX5 24 yX7_copyFrom, Cond.instanceMethod yX7_copyFrom, Cond.selects RX7 yX7_copyFrom yX7_copyFrom, Cond.code yX7_copyFrom cX7_copyFrom 4 none, Cond.methodLink RX7 22 arraycopyName]
def wsX11_carryOut_r10 : List Cond := [Cond.native arraycopyName, Cond.static arraycopyName, Cond.initialized "java/lang/System", Cond.methodLink RX9 133 yX9_bakeLoads, Cond.instanceMethod yX9_bakeLoads, Cond.selects RX9 yX9_bakeLoads yX9_bakeLoads, Cond.code yX9_bakeLoads cX9_bakeLoads 6 (some .int), Cond.methodLink RX9 152 yX5_size, Cond.methodLink RX9 153 yX3_size, Cond.instanceMethod yX3_size, Cond.selects RX3 yX3_size yX3_size, Cond.code yX3_size cX3_size 1 (some .int), Cond.methodLink RX9 154 yX3_loadAt, Cond.instanceMethod yX3_loadAt, Cond.selects RX3 yX3_loadAt yX3_loadAt, Cond.code yX3_loadAt cX3_loadAt 2 (some .int), Cond.methodLink RX9 157 yX3_batchAt, Cond.instanceMethod yX3_batchAt, Cond.selects RX3 yX3_batchAt yX3_batchAt, Cond.code yX3_batchAt cX3_batchAt 2 (some .int), Cond.methodLink RX9 160 yX5_value, Cond.instanceMethod yX5_value, Cond.selects RX5 yX5_value yX5_value, Cond.code yX5_value cX5_value 3 (some .int)]
def wsX11_carryOut_r11 : List Cond := [Cond.methodLink RX5 28 yX7_get, Cond.methodLink RX9 161 yX9_bakeBatch, Cond.instanceMethod yX9_bakeBatch, Cond.selects RX9 yX9_bakeBatch yX9_bakeBatch, Cond.code yX9_bakeBatch cX9_bakeBatch 9 none, Cond.methodLink RX9 165 yX1_value, Cond.methodLink RX9 91 yX4_value, Cond.instanceMethod yX4_value, Cond.selects RX4 yX4_value yX4_value, Cond.code yX4_value cX4_value 3 (some .int), Cond.methodLink RX9 166 yX3_paleBelow, Cond.static yX3_paleBelow, Cond.code yX3_paleBelow cX3_paleBelow 1 (some .int), Cond.methodLink RX9 169 yX4_putIn, Cond.instanceMethod yX4_putIn, Cond.selects RX4 yX4_putIn yX4_putIn, Cond.code yX4_putIn cX4_putIn 3 none, Cond.methodLink RX9 172 yX9_blur, Cond.instanceMethod yX9_blur, Cond.selects RX9 yX9_blur yX9_blur, Cond.code yX9_blur cX9_blur 5 (some .int), Cond.methodLink RX9 179 yX9_draw, Cond.instanceMethod yX9_draw, Cond.selects RX9 yX9_draw yX9_draw]
def wsX11_carryOut_r12 : List Cond := [Cond.code yX9_draw cX9_draw 2 (some .int), Cond.constantLong RX9 182 (1103515245), Cond.fieldLink RX9 43 "OvenDays$Village" "s" "I", Cond.constantLong RX9 184 (12345), Cond.constantLong RX9 186 (2147483647), Cond.methodLink RX9 175 yX6_add, Cond.instanceMethod yX6_add, Cond.selects RX6 yX6_add yX6_add, Cond.code yX6_add cX6_add 8 none, Cond.fieldLink RX6 16 "OvenDays$Loaves" "rows" "LOvenDays$Table;", Cond.fieldLink RX6 32 "OvenDays$Loaves" "pale" "I", Cond.methodLink RX6 47 yX7_put, Cond.methodLink RX6 51 yJ6_bitCount_0f7a4, Cond.static yJ6_bitCount_0f7a4, Cond.initialized RJ6, Cond.code yJ6_bitCount_0f7a4 cJ6_bitCount_0f7a4 1 (some .int), Cond.constant RJ6 265 (1431655765), Cond.constant RJ6 266 (858993459), Cond.constant RJ6 267 (252645135), Cond.methodLink RX9 137 yX6_sortFrom, Cond.instanceMethod yX6_sortFrom, Cond.selects RX6 yX6_sortFrom yX6_sortFrom, Cond.code yX6_sortFrom cX6_sortFrom 5 none, Cond.methodLink RX6 57 Lib.Math.max.name]
def wsX11_carryOut_r13 : List Cond := [Cond.methodLink RX6 41 yX6_firstKept, Cond.instanceMethod yX6_firstKept, Cond.selects RX6 yX6_firstKept yX6_firstKept, Cond.code yX6_firstKept cX6_firstKept 1 (some .int), Cond.methodLink RX6 20 yX6_kept, Cond.instanceMethod yX6_kept, Cond.selects RX6 yX6_kept yX6_kept, Cond.code yX6_kept cX6_kept 1 (some .int), Cond.methodLink RX6 35 Lib.Math.min.name, Cond.methodLink RX6 60 yX6_value, Cond.instanceMethod yX6_value, Cond.selects RX6 yX6_value yX6_value, Cond.code yX6_value cX6_value 3 (some .int), Cond.methodLink RX6 44 yX7_get, Cond.methodLink RX6 63 yX4_takerOf, Cond.instanceMethod yX4_takerOf, Cond.selects RX4 yX4_takerOf yX4_takerOf, Cond.code yX4_takerOf cX4_takerOf 8 (some .int), Cond.static yX11_contains, Cond.code yX11_contains cX11_contains 2 (some .boolean), Cond.methodLink RX4 54 yJ6_bitCount_0f7a4, Cond.methodLink RX6 68 yX6_give, Cond.instanceMethod yX6_give, Cond.selects RX6 yX6_give yX6_give]
def wsX11_carryOut_r14 : List Cond := [Cond.code yX6_give cX6_give 3 none, Cond.methodLink RX9 141 yX3_dough, Cond.instanceMethod yX3_dough, Cond.selects RX3 yX3_dough yX3_dough, Cond.code yX3_dough cX3_dough 4 (some .int), Cond.methodLink RX3 89 yX3_loadAt, Cond.methodLink RX3 85 yX3_batchAt, Cond.methodLink RX9 144 yX3_heat, Cond.instanceMethod yX3_heat, Cond.selects RX3 yX3_heat yX3_heat, Cond.code yX3_heat cX3_heat 1 (some .int), Cond.methodLink RX9 149 yX1_clear, Cond.instanceMethod yX1_clear, Cond.selects RX1 yX1_clear yX1_clear, Cond.code yX1_clear cX1_clear 1 none, Cond.methodLink RX11 104 yX9_letClaim, Cond.instanceMethod yX9_letClaim, Cond.selects RX9 yX9_letClaim yX9_letClaim, Cond.code yX9_letClaim cX9_letClaim 2 (some .int), Cond.methodLink RX9 94 yX6_moveFromShelf, Cond.instanceMethod yX6_moveFromShelf, Cond.selects RX6 yX6_moveFromShelf yX6_moveFromShelf, Cond.code yX6_moveFromShelf cX6_moveFromShelf 7 (some .int), Cond.methodLink RX6 83 yX6_balanceOf]
def wsX11_carryOut_r15 : List Cond := [Cond.instanceMethod yX6_balanceOf, Cond.selects RX6 yX6_balanceOf yX6_balanceOf, Cond.code yX6_balanceOf cX6_balanceOf 3 (some .int), Cond.methodLink RX6 79 yX6_countWithBoth, Cond.instanceMethod yX6_countWithBoth, Cond.selects RX6 yX6_countWithBoth yX6_countWithBoth, Cond.code yX6_countWithBoth cX6_countWithBoth 5 (some .int), Cond.methodLink RX6 75 yX7_countBoth, Cond.methodLink RX11 111 yX6_moveToShelf, Cond.instanceMethod yX6_moveToShelf, Cond.selects RX6 yX6_moveToShelf yX6_moveToShelf, Cond.code yX6_moveToShelf cX6_moveToShelf 6 (some .int), Cond.methodLink RX11 72 yX4_excuseOne, Cond.instanceMethod yX4_excuseOne, Cond.selects RX4 yX4_excuseOne yX4_excuseOne, Cond.code yX4_excuseOne cX4_excuseOne 2 (some .int), Cond.methodLink RX11 116 yX6_emptyShelf, Cond.instanceMethod yX6_emptyShelf, Cond.selects RX6 yX6_emptyShelf yX6_emptyShelf, Cond.code yX6_emptyShelf cX6_emptyShelf 3 (some .int)]
def wsX11_carryOut : List Cond := .code yX11_carryOut cX11_carryOut 6 (some .int) :: ((wsX11_carryOut_r1 ++ (wsX11_carryOut_r2 ++ (wsX11_carryOut_r3 ++ (wsX11_carryOut_r4 ++ (wsX11_carryOut_r5 ++ (wsX11_carryOut_r6 ++ (wsX11_carryOut_r7 ++ (wsX11_carryOut_r8 ++ (wsX11_carryOut_r9 ++ (wsX11_carryOut_r10 ++ (wsX11_carryOut_r11 ++ (wsX11_carryOut_r12 ++ (wsX11_carryOut_r13 ++ (wsX11_carryOut_r14 ++ wsX11_carryOut_r15)))))))))))))) ++ wsX110 ++ wsX90 ++ wsX40 ++ wsX70 ++ wsX10 ++ wsX60 ++ wsX30 ++ wsX50)
def wsX11_runCommands_r1 : List Cond := [Cond.fieldLink RX11 33 "OvenDays" "text" "LOvenDays$CommandText;", Cond.fieldLink RX11 26 "OvenDays" "undoStack" "LOvenDays$UndoStack;", Cond.fieldLink RX11 10 "OvenDays" "village" "LOvenDays$Village;", Cond.fieldLink RX11 37 "OvenDays" "stop" "I", Cond.methodLink RX11 223 yX2_findFault, Cond.instanceMethod yX2_findFault, Cond.selects RX2 yX2_findFault yX2_findFault, Cond.initialized RX2, Cond.code yX2_findFault cX2_findFault 2 (some .int), Cond.fieldLink RX2 19 "OvenDays$CommandText" "fault" "I", Cond.methodLink RX2 37 yX2_rewind, Cond.instanceMethod yX2_rewind, Cond.selects RX2 yX2_rewind yX2_rewind, Cond.code yX2_rewind cX2_rewind 1 none, Cond.fieldLink RX2 34 "OvenDays$CommandText" "position" "I", Cond.methodLink RX2 40 yX2_readCommand, Cond.instanceMethod yX2_readCommand, Cond.selects RX2 yX2_readCommand yX2_readCommand, Cond.code yX2_readCommand cX2_readCommand 1 (some .boolean), Cond.fieldLink RX2 23 "OvenDays$CommandText" "length" "I", Cond.methodLink RX2 43 yX2_skipSpaces, Cond.instanceMethod yX2_skipSpaces, Cond.selects RX2 yX2_skipSpaces yX2_skipSpaces, Cond.code yX2_skipSpaces cX2_skipSpaces 1 none]
def wsX11_runCommands_r2 : List Cond := [Cond.methodLink RX2 52 yX2_stands, Cond.instanceMethod yX2_stands, Cond.selects RX2 yX2_stands yX2_stands, Cond.code yX2_stands cX2_stands 2 (some .boolean), Cond.methodLink RX2 60 yX2_here, Cond.instanceMethod yX2_here, Cond.selects RX2 yX2_here yX2_here, Cond.code yX2_here cX2_here 1 (some .int), Cond.fieldLink RX2 11 "OvenDays$CommandText" "bytes" "[B", Cond.methodLink RX2 46 yX2_readWord, Cond.instanceMethod yX2_readWord, Cond.selects RX2 yX2_readWord yX2_readWord, Cond.code yX2_readWord cX2_readWord 2 (some .boolean), Cond.fieldLink RX2 30 "OvenDays$CommandText" "word" "LOvenDays$Word;", Cond.methodLink RX2 64 yX2_wordBetween, Cond.instanceMethod yX2_wordBetween, Cond.selects RX2 yX2_wordBetween yX2_wordBetween, Cond.code yX2_wordBetween cX2_wordBetween 5 (some (.object "OvenDays$Word")), Cond.fieldLink RX2 68 "OvenDays$CommandText" "WORDS" "[LOvenDays$Word;", Cond.methodLink RX2 78 yX2_isBetween, Cond.instanceMethod yX2_isBetween, Cond.selects RX2 yX2_isBetween yX2_isBetween, Cond.code yX2_isBetween cX2_isBetween 5 (some .boolean), Cond.methodLink RX2 82 yJ0_length_8abf5]
def wsX11_runCommands_r3 : List Cond := [Cond.instanceMethod yJ0_length_8abf5, Cond.selects RJ0 yJ0_length_8abf5 yJ0_length_8abf5, Cond.initialized RJ0, Cond.code yJ0_length_8abf5 cJ0_length_8abf5 1 (some .int), Cond.fieldLink RJ0 9 "java/lang/String" "value" "[B", Cond.methodLink RJ0 335 yJ0_coder_7d493, Cond.instanceMethod yJ0_coder_7d493, Cond.selects RJ0 yJ0_coder_7d493 yJ0_coder_7d493, Cond.code yJ0_coder_7d493 cJ0_coder_7d493 1 (some .byte), Cond.fieldLink RJ0 38 "java/lang/String" "COMPACT_STRINGS" "Z", Cond.fieldLink RJ0 15 "java/lang/String" "coder" "B", Cond.methodLink RX2 86 yJ0_charAt_5068e, Cond.instanceMethod yJ0_charAt_5068e, Cond.selects RJ0 yJ0_charAt_5068e yJ0_charAt_5068e, Cond.code yJ0_charAt_5068e cJ0_charAt_5068e 2 (some .char), Cond.methodLink RJ0 492 yJ0_isLatin1_aae02, Cond.instanceMethod yJ0_isLatin1_aae02, Cond.selects RJ0 yJ0_isLatin1_aae02 yJ0_isLatin1_aae02, Cond.code yJ0_isLatin1_aae02 cJ0_isLatin1_aae02 1 (some .boolean), Cond.methodLink RJ0 495 yJ1_charAt_3b067, Cond.static yJ1_charAt_3b067, Cond.initialized RJ1, Cond.code yJ1_charAt_3b067 cJ1_charAt_3b067 2 (some .char), Cond.methodLink RJ1 9 yJ0_checkIndex_df160]
def wsX11_runCommands_r4 : List Cond := [Cond.static yJ0_checkIndex_df160, Cond.code yJ0_checkIndex_df160 cJ0_checkIndex_df160 2 none, Cond.fieldLink RJ0 1053 "jdk/internal/util/Preconditions" "SIOOBE_FORMATTER" "Ljava/util/function/BiFunction;", Cond.methodLink RJ0 1059 yJ3_checkIndex_8e157, Cond.static yJ3_checkIndex_8e157, Cond.initialized RJ3, Cond.code yJ3_checkIndex_8e157 cJ3_checkIndex_8e157 3 (some .int), Cond.methodLink RJ0 498 yJ2_charAt_3b067, Cond.static yJ2_charAt_3b067, Cond.initialized RJ2, Cond.code yJ2_charAt_3b067 cJ2_charAt_3b067 2 (some .char), Cond.methodLink RJ2 67 yJ2_checkIndex_2214a, Cond.static yJ2_checkIndex_2214a, Cond.code yJ2_checkIndex_2214a cJ2_checkIndex_2214a 2 none, Cond.methodLink RJ2 48 yJ2_length_9d52b, Cond.static yJ2_length_9d52b, Cond.code yJ2_length_9d52b cJ2_length_9d52b 1 (some .int), Cond.methodLink RJ2 414 yJ0_checkIndex_df160, Cond.methodLink RJ2 71 yJ2_getChar_3b067, Cond.static yJ2_getChar_3b067, Cond.code yJ2_getChar_3b067 cJ2_getChar_3b067 2 (some .char), Cond.fieldLink RJ2 44 "java/lang/StringUTF16" "$assertionsDisabled" "Z", Cond.fieldLink RJ2 59 "java/lang/StringUTF16" "HI_BYTE_SHIFT" "I", Cond.fieldLink RJ2 63 "java/lang/StringUTF16" "LO_BYTE_SHIFT" "I"]
def wsX11_runCommands_r5 : List Cond := [Cond.methodLink RX2 56 yX2_failAt, Cond.instanceMethod yX2_failAt, Cond.selects RX2 yX2_failAt yX2_failAt, Cond.code yX2_failAt cX2_failAt 2 (some .boolean), Cond.methodLink RX2 49 yX2_readNumbers, Cond.instanceMethod yX2_readNumbers, Cond.selects RX2 yX2_readNumbers yX2_readNumbers, Cond.code yX2_readNumbers cX2_readNumbers 3 (some .boolean), Cond.fieldLink RX2 15 "OvenDays$CommandText" "numbers" "[I", Cond.methodLink RX2 92 yX2_standsDigit, Cond.instanceMethod yX2_standsDigit, Cond.selects RX2 yX2_standsDigit yX2_standsDigit, Cond.code yX2_standsDigit cX2_standsDigit 1 (some .boolean), Cond.methodLink RX2 95 yX2_readDigits, Cond.instanceMethod yX2_readDigits, Cond.selects RX2 yX2_readDigits yX2_readDigits, Cond.code yX2_readDigits cX2_readDigits 3 (some .int), Cond.methodLink RX11 49 yX8_push, Cond.instanceMethod yX8_push, Cond.selects RX8 yX8_push yX8_push, Cond.initialized RX8, Cond.code yX8_push cX8_push 3 none, Cond.fieldLink RX8 20 "OvenDays$UndoStack" "latest" "I", Cond.fieldLink RX8 16 "OvenDays$UndoStack" "count" "I"]
def wsX11_runCommands_r6 : List Cond := [Cond.methodLink RX8 31 Lib.Math.min.name, Cond.static Lib.Math.min.name, Cond.initialized "java/lang/Math", Cond.code Lib.Math.min.name Lib.Math.min.code 2 (some .int), Cond.methodLink RX8 23 yX8_stateAt, Cond.instanceMethod yX8_stateAt, Cond.selects RX8 yX8_stateAt yX8_stateAt, Cond.code yX8_stateAt cX8_stateAt 2 (some (.object "OvenDays$Village")), Cond.fieldLink RX8 11 "OvenDays$UndoStack" "states" "[LOvenDays$Village;", Cond.methodLink RX8 27 yX9_copyFrom, Cond.instanceMethod yX9_copyFrom, Cond.selects RX9 yX9_copyFrom yX9_copyFrom, Cond.initialized RX9, Cond.code yX9_copyFrom cX9_copyFrom 2 none, Cond.fieldLink RX9 12 "OvenDays$Village" "households" "LOvenDays$Households;", Cond.fieldLink RX9 21 "OvenDays$Village" "batches" "LOvenDays$Batches;", Cond.fieldLink RX9 28 "OvenDays$Village" "loads" "LOvenDays$Loads;", Cond.fieldLink RX9 35 "OvenDays$Village" "loaves" "LOvenDays$Loaves;", Cond.fieldLink RX9 39 "OvenDays$Village" "heat" "I", Cond.fieldLink RX9 43 "OvenDays$Village" "s" "I", Cond.fieldLink RX9 59 "OvenDays$Village" "days" "I", Cond.fieldLink RX9 62 "OvenDays$Village" "dough" "I", Cond.methodLink RX9 46 yX4_copyFrom, Cond.instanceMethod yX4_copyFrom]
def wsX11_runCommands_r7 : List Cond := [Cond.selects RX4 yX4_copyFrom yX4_copyFrom, Cond.initialized RX4, Cond.code yX4_copyFrom cX4_copyFrom 2 none, Cond.fieldLink RX4 14 "OvenDays$Households" "rows" "LOvenDays$Table;", Cond.fieldLink RX4 20 "OvenDays$Households" "count" "I", Cond.methodLink RX4 24 yX7_copyFrom, Cond.instanceMethod yX7_copyFrom, Cond.selects RX7 yX7_copyFrom yX7_copyFrom, Cond.initialized RX7, Cond.code yX7_copyFrom cX7_copyFrom 4 none, Cond.fieldLink RX7 14 "OvenDays$Table" "room" "I", Cond.fieldLink RX7 9 "OvenDays$Table" "columns" "[[I", Cond.methodLink RX7 22 arraycopyName, Cond.native arraycopyName, Cond.static arraycopyName, Cond.initialized "java/lang/System", Cond.methodLink RX9 50 yX1_copyFrom, Cond.instanceMethod yX1_copyFrom, Cond.selects RX1 yX1_copyFrom yX1_copyFrom, Cond.initialized RX1, Cond.code yX1_copyFrom cX1_copyFrom 2 none, Cond.fieldLink RX1 14 "OvenDays$Batches" "rows" "LOvenDays$Table;", Cond.fieldLink RX1 20 "OvenDays$Batches" "count" "I", Cond.methodLink RX1 24 yX7_copyFrom]
def wsX11_runCommands_r8 : List Cond := [Cond.methodLink RX9 53 yX5_copyFrom, Cond.instanceMethod yX5_copyFrom, Cond.selects RX5 yX5_copyFrom yX5_copyFrom, Cond.initialized RX5, Cond.code yX5_copyFrom cX5_copyFrom 2 none, Cond.fieldLink RX5 14 "OvenDays$Loads" "rows" "LOvenDays$Table;", Cond.fieldLink RX5 20 "OvenDays$Loads" "count" "I", Cond.methodLink RX5 24 yX7_copyFrom, Cond.methodLink RX9 56 yX6_copyFrom, Cond.instanceMethod yX6_copyFrom, Cond.selects RX6 yX6_copyFrom yX6_copyFrom, Cond.initialized RX6, Cond.code yX6_copyFrom cX6_copyFrom 2 none, Cond.fieldLink RX6 16 "OvenDays$Loaves" "rows" "LOvenDays$Table;", Cond.fieldLink RX6 28 "OvenDays$Loaves" "cameOut" "I", Cond.fieldLink RX6 32 "OvenDays$Loaves" "pale" "I", Cond.methodLink RX6 20 yX6_kept, Cond.instanceMethod yX6_kept, Cond.selects RX6 yX6_kept yX6_kept, Cond.code yX6_kept cX6_kept 1 (some .int), Cond.methodLink RX6 35 Lib.Math.min.name, Cond.methodLink RX6 24 yX7_copyFrom, Cond.methodLink RX11 226 yX2_rewind, Cond.methodLink RX11 229 yX2_readCommand]
def wsX11_runCommands_r9 : List Cond := [Cond.methodLink RX11 232 yX2_word, Cond.instanceMethod yX2_word, Cond.selects RX2 yX2_word yX2_word, Cond.code yX2_word cX2_word 1 (some (.object "OvenDays$Word")), Cond.methodLink RX11 236 yX2_number, Cond.instanceMethod yX2_number, Cond.selects RX2 yX2_number yX2_number, Cond.code yX2_number cX2_number 2 (some .int), Cond.methodLink RX11 239 yX11_carryOut, Cond.instanceMethod yX11_carryOut, Cond.selects RX11 yX11_carryOut yX11_carryOut, Cond.initialized RX11, Cond.code yX11_carryOut cX11_carryOut 6 (some .int), Cond.fieldLink RX11 312 "OvenDays$1" "$SwitchMap$OvenDays$Word" "[I", Cond.fieldLink RX11 19 "OvenDays" "plan" "LOvenDays$DayPlan;", Cond.methodLink RX11 309 yX11_whyNoCommand, Cond.instanceMethod yX11_whyNoCommand, Cond.selects RX11 yX11_whyNoCommand yX11_whyNoCommand, Cond.code yX11_whyNoCommand cX11_whyNoCommand 5 (some .int), Cond.methodLink RX11 318 ⟨"OvenDays$Word", "ordinal", "()I"⟩, Cond.sameMethod "OvenDays$Word" "java/lang/Enum" "ordinal" "()I", Cond.selects RX10 ⟨"OvenDays$Word", "ordinal", "()I"⟩ yJx29ce0_ordinal_8abf5, Cond.instanceMethod yJx29ce0_ordinal_8abf5, Cond.initialized RJx29ce0]
def wsX11_runCommands_r10 : List Cond := [Cond.code yJx29ce0_ordinal_8abf5 cJx29ce0_ordinal_8abf5 1 (some .int), Cond.fieldLink RJx29ce0 7 "java/lang/Enum" "ordinal" "I", Cond.methodLink RX11 41 yX9_whyNoJoining, Cond.instanceMethod yX9_whyNoJoining, Cond.selects RX9 yX9_whyNoJoining yX9_whyNoJoining, Cond.code yX9_whyNoJoining cX9_whyNoJoining 2 (some .int), Cond.constant RX9 69 (65535), Cond.static yX11_whyNotWithin, Cond.code yX11_whyNotWithin cX11_whyNotWithin 3 (some .int), Cond.methodLink RX9 74 yX4_isFull, Cond.instanceMethod yX4_isFull, Cond.selects RX4 yX4_isFull yX4_isFull, Cond.code yX4_isFull cX4_isFull 1 (some .boolean), Cond.methodLink RX9 78 yX4_withMark, Cond.instanceMethod yX4_withMark, Cond.selects RX4 yX4_withMark yX4_withMark, Cond.code yX4_withMark cX4_withMark 3 (some .int), Cond.methodLink RX4 28 yX7_get, Cond.instanceMethod yX7_get, Cond.selects RX7 yX7_get yX7_get, Cond.code yX7_get cX7_get 3 (some .int), Cond.methodLink RX11 75 yX9_whyNoBatch, Cond.instanceMethod yX9_whyNoBatch, Cond.selects RX9 yX9_whyNoBatch yX9_whyNoBatch]
def wsX11_runCommands_r11 : List Cond := [Cond.code yX9_whyNoBatch cX9_whyNoBatch 4 (some .int), Cond.methodLink RX9 65 yX4_has, Cond.instanceMethod yX4_has, Cond.selects RX4 yX4_has yX4_has, Cond.code yX4_has cX4_has 2 (some .boolean), Cond.static yX11_whyNotBelow, Cond.code yX11_whyNotBelow cX11_whyNotBelow 2 (some .int), Cond.methodLink RX11 197 yX11_whyNotWithin, Cond.methodLink RX9 86 yX1_isFull, Cond.instanceMethod yX1_isFull, Cond.selects RX1 yX1_isFull yX1_isFull, Cond.code yX1_isFull cX1_isFull 1 (some .boolean), Cond.methodLink RX11 97 yX9_whyNoDay, Cond.instanceMethod yX9_whyNoDay, Cond.selects RX9 yX9_whyNoDay yX9_whyNoDay, Cond.code yX9_whyNoDay cX9_whyNoDay 2 (some .int), Cond.methodLink RX9 87 yX1_size, Cond.instanceMethod yX1_size, Cond.selects RX1 yX1_size yX1_size, Cond.code yX1_size cX1_size 1 (some .int), Cond.methodLink RX11 69 yX9_whyNoHousehold, Cond.instanceMethod yX9_whyNoHousehold, Cond.selects RX9 yX9_whyNoHousehold yX9_whyNoHousehold, Cond.code yX9_whyNoHousehold cX9_whyNoHousehold 2 (some .int)]
def wsX11_runCommands_r12 : List Cond := [Cond.methodLink RX11 57 yX4_add, Cond.instanceMethod yX4_add, Cond.selects RX4 yX4_add yX4_add, Cond.code yX4_add cX4_add 3 (some .int), Cond.methodLink RX4 35 yX7_put, Cond.instanceMethod yX7_put, Cond.selects RX7 yX7_put yX7_put, Cond.code yX7_put cX7_put 4 none, Cond.methodLink RX11 83 yX1_add, Cond.instanceMethod yX1_add, Cond.selects RX1 yX1_add yX1_add, Cond.code yX1_add cX1_add 5 (some .int), Cond.methodLink RX1 35 yX7_put, Cond.methodLink RX11 100 yX9_haveDay, Cond.instanceMethod yX9_haveDay, Cond.selects RX9 yX9_haveDay yX9_haveDay, Cond.code yX9_haveDay cX9_haveDay 5 (some .int), Cond.methodLink RX9 146 Lib.Math.max.name, Cond.static Lib.Math.max.name, Cond.code Lib.Math.max.name Lib.Math.max.code 2 (some .int), Cond.methodLink RX9 112 yX6_cameOut, Cond.instanceMethod yX6_cameOut, Cond.selects RX6 yX6_cameOut yX6_cameOut, Cond.code yX6_cameOut cX6_cameOut 1 (some .int)]
def wsX11_runCommands_r13 : List Cond := [Cond.methodLink RX9 115 yX9_arrangeNextDay, Cond.instanceMethod yX9_arrangeNextDay, Cond.selects RX9 yX9_arrangeNextDay yX9_arrangeNextDay, Cond.code yX9_arrangeNextDay cX9_arrangeNextDay 2 none, Cond.methodLink RX9 102 yX4_size, Cond.instanceMethod yX4_size, Cond.selects RX4 yX4_size yX4_size, Cond.code yX4_size cX4_size 1 (some .int), Cond.methodLink RX9 103 yX4_nextOne, Cond.instanceMethod yX4_nextOne, Cond.selects RX4 yX4_nextOne yX4_nextOne, Cond.code yX4_nextOne cX4_nextOne 8 (some .int), Cond.methodLink RX4 39 yX7_count, Cond.instanceMethod yX7_count, Cond.selects RX7 yX7_count yX7_count, Cond.code yX7_count cX7_count 4 (some .int), Cond.methodLink RX7 18 yX7_countBoth, Cond.instanceMethod yX7_countBoth, Cond.selects RX7 yX7_countBoth yX7_countBoth, Cond.code yX7_countBoth cX7_countBoth 10 (some .int), Cond.methodLink RX4 46 yX4_dueOf, Cond.instanceMethod yX4_dueOf, Cond.selects RX4 yX4_dueOf yX4_dueOf, Cond.code yX4_dueOf cX4_dueOf 6 (some .long)]
def wsX11_runCommands_r14 : List Cond := [Cond.methodLink RX4 32 yX7_sum, Cond.instanceMethod yX7_sum, Cond.selects RX7 yX7_sum yX7_sum, Cond.code yX7_sum cX7_sum 6 (some .int), Cond.methodLink RX9 106 yX3_arrange, Cond.instanceMethod yX3_arrange, Cond.selects RX3 yX3_arrange yX3_arrange, Cond.initialized RX3, Cond.code yX3_arrange cX3_arrange 7 none, Cond.fieldLink RX3 31 "OvenDays$DayPlan" "count" "I", Cond.fieldLink RX3 9 "OvenDays$DayPlan" "order" "[I", Cond.methodLink RX3 35 yX1_size, Cond.methodLink RX3 41 yX1_value, Cond.instanceMethod yX1_value, Cond.selects RX1 yX1_value yX1_value, Cond.code yX1_value cX1_value 3 (some .int), Cond.methodLink RX1 28 yX7_get, Cond.methodLink RX9 119 yX4_bringWood, Cond.instanceMethod yX4_bringWood, Cond.selects RX4 yX4_bringWood yX4_bringWood, Cond.code yX4_bringWood cX4_bringWood 4 none, Cond.methodLink RX4 42 yX4_nextOne, Cond.methodLink RX9 123 yX9_heatWith, Cond.instanceMethod yX9_heatWith]
def wsX11_runCommands_r15 : List Cond := [Cond.selects RX9 yX9_heatWith yX9_heatWith, Cond.code yX9_heatWith cX9_heatWith 2 (some .int), Cond.methodLink RX9 97 Lib.Math.min.name, Cond.methodLink RX9 126 yX3_fire, Cond.instanceMethod yX3_fire, Cond.selects RX3 yX3_fire yX3_fire, Cond.code yX3_fire cX3_fire 5 none, Cond.fieldLink RX3 45 "OvenDays$DayPlan" "heat" "I", Cond.fieldLink RX3 52 "OvenDays$DayPlan" "left" "I", Cond.methodLink RX3 66 Lib.Math.max.name, Cond.methodLink RX3 48 yX3_startWaiting, Cond.instanceMethod yX3_startWaiting, Cond.selects RX3 yX3_startWaiting yX3_startWaiting, Cond.code yX3_startWaiting cX3_startWaiting 4 none, Cond.fieldLink RX3 24 "OvenDays$DayPlan" "loads" "LOvenDays$Loads;", Cond.fieldLink RX3 18 "OvenDays$DayPlan" "waiting" "[I", Cond.fieldLink RX3 15 "OvenDays$DayPlan" "loadAt" "[I", Cond.methodLink RX3 71 yX5_clear, Cond.instanceMethod yX5_clear, Cond.selects RX5 yX5_clear yX5_clear, Cond.code yX5_clear cX5_clear 1 none, Cond.methodLink RX3 55 yX3_kindForHeat, Cond.instanceMethod yX3_kindForHeat, Cond.selects RX3 yX3_kindForHeat yX3_kindForHeat]
def wsX11_runCommands_r16 : List Cond := [Cond.code yX3_kindForHeat cX3_kindForHeat 2 (some .int), Cond.fieldLink RX3 28 "OvenDays$DayPlan" "LOWEST" "[I", Cond.fieldLink RX3 74 "OvenDays$DayPlan" "GREATEST" "[I", Cond.methodLink RX3 58 yX3_bakeLoad, Cond.instanceMethod yX3_bakeLoad, Cond.selects RX3 yX3_bakeLoad yX3_bakeLoad, Cond.code yX3_bakeLoad cX3_bakeLoad 9 none, Cond.fieldLink RX3 78 "OvenDays$DayPlan" "TICKS" "[I", Cond.methodLink RX3 77 yX5_size, Cond.instanceMethod yX5_size, Cond.selects RX5 yX5_size yX5_size, Cond.code yX5_size cX5_size 1 (some .int), Cond.methodLink RX3 81 yX5_add, Cond.instanceMethod yX5_add, Cond.selects RX5 yX5_add yX5_add, Cond.code yX5_add cX5_add 6 none, Cond.methodLink RX5 32 yX7_put, Cond.methodLink RX3 62 yX3_isTooHotForSome, Cond.instanceMethod yX3_isTooHotForSome, Cond.selects RX3 yX3_isTooHotForSome yX3_isTooHotForSome, Cond.code yX3_isTooHotForSome cX3_isTooHotForSome 2 (some .boolean), Cond.methodLink RX9 130 yX3_loads, Cond.instanceMethod yX3_loads, Cond.selects RX3 yX3_loads yX3_loads]
def wsX11_runCommands_r17 : List Cond := [Cond.code yX3_loads cX3_loads 1 (some (.object "OvenDays$Loads")), Cond.methodLink RX9 133 yX9_bakeLoads, Cond.instanceMethod yX9_bakeLoads, Cond.selects RX9 yX9_bakeLoads yX9_bakeLoads, Cond.code yX9_bakeLoads cX9_bakeLoads 6 (some .int), Cond.methodLink RX9 152 yX5_size, Cond.methodLink RX9 153 yX3_size, Cond.instanceMethod yX3_size, Cond.selects RX3 yX3_size yX3_size, Cond.code yX3_size cX3_size 1 (some .int), Cond.methodLink RX9 154 yX3_loadAt, Cond.instanceMethod yX3_loadAt, Cond.selects RX3 yX3_loadAt yX3_loadAt, Cond.code yX3_loadAt cX3_loadAt 2 (some .int), Cond.methodLink RX9 157 yX3_batchAt, Cond.instanceMethod yX3_batchAt, Cond.selects RX3 yX3_batchAt yX3_batchAt, Cond.code yX3_batchAt cX3_batchAt 2 (some .int), Cond.methodLink RX9 160 yX5_value, Cond.instanceMethod yX5_value, Cond.selects RX5 yX5_value yX5_value, Cond.code yX5_value cX5_value 3 (some .int), Cond.methodLink RX5 28 yX7_get, Cond.methodLink RX9 161 yX9_bakeBatch]
def wsX11_runCommands_r18 : List Cond := [Cond.instanceMethod yX9_bakeBatch, Cond.selects RX9 yX9_bakeBatch yX9_bakeBatch, Cond.code yX9_bakeBatch cX9_bakeBatch 9 none, Cond.methodLink RX9 165 yX1_value, Cond.methodLink RX9 91 yX4_value, Cond.instanceMethod yX4_value, Cond.selects RX4 yX4_value yX4_value, Cond.code yX4_value cX4_value 3 (some .int), Cond.methodLink RX9 166 yX3_paleBelow, Cond.static yX3_paleBelow, Cond.code yX3_paleBelow cX3_paleBelow 1 (some .int), Cond.methodLink RX9 169 yX4_putIn, Cond.instanceMethod yX4_putIn, Cond.selects RX4 yX4_putIn yX4_putIn, Cond.code yX4_putIn cX4_putIn 3 none, Cond.methodLink RX9 172 yX9_blur, Cond.instanceMethod yX9_blur, Cond.selects RX9 yX9_blur yX9_blur, Cond.code yX9_blur cX9_blur 5 (some .int), Cond.methodLink RX9 179 yX9_draw, Cond.instanceMethod yX9_draw, Cond.selects RX9 yX9_draw yX9_draw, Cond.code yX9_draw cX9_draw 2 (some .int), Cond.constantLong RX9 182 (1103515245)]
def wsX11_runCommands_r19 : List Cond := [Cond.constantLong RX9 184 (12345), Cond.constantLong RX9 186 (2147483647), Cond.methodLink RX9 175 yX6_add, Cond.instanceMethod yX6_add, Cond.selects RX6 yX6_add yX6_add, Cond.code yX6_add cX6_add 8 none, Cond.methodLink RX6 47 yX7_put, Cond.methodLink RX6 51 yJ6_bitCount_0f7a4, Cond.static yJ6_bitCount_0f7a4, Cond.initialized RJ6, Cond.code yJ6_bitCount_0f7a4 cJ6_bitCount_0f7a4 1 (some .int), Cond.constant RJ6 265 (1431655765), Cond.constant RJ6 266 (858993459), Cond.constant RJ6 267 (252645135), Cond.methodLink RX9 137 yX6_sortFrom, Cond.instanceMethod yX6_sortFrom, Cond.selects RX6 yX6_sortFrom yX6_sortFrom, Cond.code yX6_sortFrom cX6_sortFrom 5 none, Cond.methodLink RX6 57 Lib.Math.max.name, Cond.methodLink RX6 41 yX6_firstKept, Cond.instanceMethod yX6_firstKept, Cond.selects RX6 yX6_firstKept yX6_firstKept, Cond.code yX6_firstKept cX6_firstKept 1 (some .int), Cond.methodLink RX6 60 yX6_value]
def wsX11_runCommands_r20 : List Cond := [Cond.instanceMethod yX6_value, Cond.selects RX6 yX6_value yX6_value, Cond.code yX6_value cX6_value 3 (some .int), Cond.methodLink RX6 44 yX7_get, Cond.methodLink RX6 63 yX4_takerOf, Cond.instanceMethod yX4_takerOf, Cond.selects RX4 yX4_takerOf yX4_takerOf, Cond.code yX4_takerOf cX4_takerOf 8 (some .int), Cond.static yX11_contains, Cond.code yX11_contains cX11_contains 2 (some .boolean), Cond.methodLink RX4 54 yJ6_bitCount_0f7a4, Cond.methodLink RX6 68 yX6_give, Cond.instanceMethod yX6_give, Cond.selects RX6 yX6_give yX6_give, Cond.code yX6_give cX6_give 3 none, Cond.methodLink RX9 141 yX3_dough, Cond.instanceMethod yX3_dough, Cond.selects RX3 yX3_dough yX3_dough, Cond.code yX3_dough cX3_dough 4 (some .int), Cond.methodLink RX3 89 yX3_loadAt, Cond.methodLink RX3 85 yX3_batchAt, Cond.methodLink RX9 144 yX3_heat, Cond.instanceMethod yX3_heat, Cond.selects RX3 yX3_heat yX3_heat]
def wsX11_runCommands_r21 : List Cond := [Cond.code yX3_heat cX3_heat 1 (some .int), Cond.methodLink RX9 149 yX1_clear, Cond.instanceMethod yX1_clear, Cond.selects RX1 yX1_clear yX1_clear, Cond.code yX1_clear cX1_clear 1 none, Cond.methodLink RX11 104 yX9_letClaim, Cond.instanceMethod yX9_letClaim, Cond.selects RX9 yX9_letClaim yX9_letClaim, Cond.code yX9_letClaim cX9_letClaim 2 (some .int), Cond.methodLink RX9 94 yX6_moveFromShelf, Cond.instanceMethod yX6_moveFromShelf, Cond.selects RX6 yX6_moveFromShelf yX6_moveFromShelf, Cond.code yX6_moveFromShelf cX6_moveFromShelf 7 (some .int), Cond.methodLink RX6 83 yX6_balanceOf, Cond.instanceMethod yX6_balanceOf, Cond.selects RX6 yX6_balanceOf yX6_balanceOf, Cond.code yX6_balanceOf cX6_balanceOf 3 (some .int), Cond.methodLink RX6 79 yX6_countWithBoth, Cond.instanceMethod yX6_countWithBoth, Cond.selects RX6 yX6_countWithBoth yX6_countWithBoth, Cond.code yX6_countWithBoth cX6_countWithBoth 5 (some .int), Cond.methodLink RX6 75 yX7_countBoth, Cond.methodLink RX11 111 yX6_moveToShelf, Cond.instanceMethod yX6_moveToShelf]
def wsX11_runCommands_r22 : List Cond := [Cond.selects RX6 yX6_moveToShelf yX6_moveToShelf, Cond.code yX6_moveToShelf cX6_moveToShelf 6 (some .int), Cond.methodLink RX11 72 yX4_excuseOne, Cond.instanceMethod yX4_excuseOne, Cond.selects RX4 yX4_excuseOne yX4_excuseOne, Cond.code yX4_excuseOne cX4_excuseOne 2 (some .int), Cond.methodLink RX11 116 yX6_emptyShelf, Cond.instanceMethod yX6_emptyShelf, Cond.selects RX6 yX6_emptyShelf yX6_emptyShelf, Cond.code yX6_emptyShelf cX6_emptyShelf 3 (some .int)]
def wsX11_runCommands : List Cond := .code yX11_runCommands cX11_runCommands 4 (some .int) :: ((wsX11_runCommands_r1 ++ (wsX11_runCommands_r2 ++ (wsX11_runCommands_r3 ++ (wsX11_runCommands_r4 ++ (wsX11_runCommands_r5 ++ (wsX11_runCommands_r6 ++ (wsX11_runCommands_r7 ++ (wsX11_runCommands_r8 ++ (wsX11_runCommands_r9 ++ (wsX11_runCommands_r10 ++ (wsX11_runCommands_r11 ++ (wsX11_runCommands_r12 ++ (wsX11_runCommands_r13 ++ (wsX11_runCommands_r14 ++ (wsX11_runCommands_r15 ++ (wsX11_runCommands_r16 ++ (wsX11_runCommands_r17 ++ (wsX11_runCommands_r18 ++ (wsX11_runCommands_r19 ++ (wsX11_runCommands_r20 ++ (wsX11_runCommands_r21 ++ wsX11_runCommands_r22))))))))))))))))))))) ++ wsX110 ++ wsX20 ++ wsX80 ++ wsX90 ++ wsX40 ++ wsX70 ++ wsX10 ++ wsX50 ++ wsX60 ++ wsX30)
def wsX11_stop : List Cond := .code yX11_stop cX11_stop 1 (some .int) :: ([.fieldLink RX11 37 "OvenDays" "stop" "I"] ++ wsX110)
def wsX11_undo_r1 : List Cond := [Cond.fieldLink RX11 26 "OvenDays" "undoStack" "LOvenDays$UndoStack;", Cond.fieldLink RX11 10 "OvenDays" "village" "LOvenDays$Village;", Cond.methodLink RX11 243 yX8_size, Cond.instanceMethod yX8_size, Cond.selects RX8 yX8_size yX8_size, Cond.initialized RX8, Cond.code yX8_size cX8_size 1 (some .int), Cond.fieldLink RX8 16 "OvenDays$UndoStack" "count" "I", Cond.methodLink RX11 45 yX11_refuse, Cond.static yX11_refuse, Cond.initialized RX11, Cond.code yX11_refuse cX11_refuse 1 none, Cond.classLink RX11 281 "java/lang/IndexOutOfBoundsException", Cond.initialized "java/lang/IndexOutOfBoundsException", Cond.classLink RX11 288 "java/lang/IllegalArgumentException", Cond.initialized "java/lang/IllegalArgumentException", Cond.classLink RX11 293 "java/lang/IllegalStateException", Cond.initialized "java/lang/IllegalStateException", Cond.methodLink RX11 244 yX8_popInto, Cond.instanceMethod yX8_popInto, Cond.selects RX8 yX8_popInto yX8_popInto, Cond.code yX8_popInto cX8_popInto 3 (some .int), Cond.fieldLink RX8 20 "OvenDays$UndoStack" "latest" "I", Cond.methodLink RX8 23 yX8_stateAt]
def wsX11_undo_r2 : List Cond := [Cond.instanceMethod yX8_stateAt, Cond.selects RX8 yX8_stateAt yX8_stateAt, Cond.code yX8_stateAt cX8_stateAt 2 (some (.object "OvenDays$Village")), Cond.fieldLink RX8 11 "OvenDays$UndoStack" "states" "[LOvenDays$Village;", Cond.methodLink RX8 27 yX9_copyFrom, Cond.instanceMethod yX9_copyFrom, Cond.selects RX9 yX9_copyFrom yX9_copyFrom, Cond.initialized RX9, Cond.code yX9_copyFrom cX9_copyFrom 2 none, Cond.fieldLink RX9 12 "OvenDays$Village" "households" "LOvenDays$Households;", Cond.fieldLink RX9 21 "OvenDays$Village" "batches" "LOvenDays$Batches;", Cond.fieldLink RX9 28 "OvenDays$Village" "loads" "LOvenDays$Loads;", Cond.fieldLink RX9 35 "OvenDays$Village" "loaves" "LOvenDays$Loaves;", Cond.fieldLink RX9 39 "OvenDays$Village" "heat" "I", Cond.fieldLink RX9 43 "OvenDays$Village" "s" "I", Cond.fieldLink RX9 59 "OvenDays$Village" "days" "I", Cond.fieldLink RX9 62 "OvenDays$Village" "dough" "I", Cond.methodLink RX9 46 yX4_copyFrom, Cond.instanceMethod yX4_copyFrom, Cond.selects RX4 yX4_copyFrom yX4_copyFrom, Cond.initialized RX4, Cond.code yX4_copyFrom cX4_copyFrom 2 none, Cond.fieldLink RX4 14 "OvenDays$Households" "rows" "LOvenDays$Table;", Cond.fieldLink RX4 20 "OvenDays$Households" "count" "I"]
def wsX11_undo_r3 : List Cond := [Cond.methodLink RX4 24 yX7_copyFrom, Cond.instanceMethod yX7_copyFrom, Cond.selects RX7 yX7_copyFrom yX7_copyFrom, Cond.initialized RX7, Cond.code yX7_copyFrom cX7_copyFrom 4 none, Cond.fieldLink RX7 14 "OvenDays$Table" "room" "I", Cond.fieldLink RX7 9 "OvenDays$Table" "columns" "[[I", Cond.methodLink RX7 22 arraycopyName, Cond.native arraycopyName, Cond.static arraycopyName, Cond.initialized "java/lang/System", Cond.methodLink RX9 50 yX1_copyFrom, Cond.instanceMethod yX1_copyFrom, Cond.selects RX1 yX1_copyFrom yX1_copyFrom, Cond.initialized RX1, Cond.code yX1_copyFrom cX1_copyFrom 2 none, Cond.fieldLink RX1 14 "OvenDays$Batches" "rows" "LOvenDays$Table;", Cond.fieldLink RX1 20 "OvenDays$Batches" "count" "I", Cond.methodLink RX1 24 yX7_copyFrom, Cond.methodLink RX9 53 yX5_copyFrom, Cond.instanceMethod yX5_copyFrom, Cond.selects RX5 yX5_copyFrom yX5_copyFrom, Cond.initialized RX5, Cond.code yX5_copyFrom cX5_copyFrom 2 none]
def wsX11_undo_r4 : List Cond := [Cond.fieldLink RX5 14 "OvenDays$Loads" "rows" "LOvenDays$Table;", Cond.fieldLink RX5 20 "OvenDays$Loads" "count" "I", Cond.methodLink RX5 24 yX7_copyFrom, Cond.methodLink RX9 56 yX6_copyFrom, Cond.instanceMethod yX6_copyFrom, Cond.selects RX6 yX6_copyFrom yX6_copyFrom, Cond.initialized RX6, Cond.code yX6_copyFrom cX6_copyFrom 2 none, Cond.fieldLink RX6 16 "OvenDays$Loaves" "rows" "LOvenDays$Table;", Cond.fieldLink RX6 28 "OvenDays$Loaves" "cameOut" "I", Cond.fieldLink RX6 32 "OvenDays$Loaves" "pale" "I", Cond.methodLink RX6 20 yX6_kept, Cond.instanceMethod yX6_kept, Cond.selects RX6 yX6_kept yX6_kept, Cond.code yX6_kept cX6_kept 1 (some .int), Cond.methodLink RX6 35 Lib.Math.min.name, Cond.static Lib.Math.min.name, Cond.initialized "java/lang/Math", Cond.code Lib.Math.min.name Lib.Math.min.code 2 (some .int), Cond.methodLink RX6 24 yX7_copyFrom]
def wsX11_undo : List Cond := .code yX11_undo cX11_undo 1 (some .int) :: ((wsX11_undo_r1 ++ (wsX11_undo_r2 ++ (wsX11_undo_r3 ++ wsX11_undo_r4))) ++ wsX110 ++ wsX80 ++ wsX90 ++ wsX40 ++ wsX70 ++ wsX10 ++ wsX50 ++ wsX60 ++ (vx_atS RX11 285 "java/lang/IndexOutOfBoundsException" ["java/lang/RuntimeException", "java/lang/Exception"]).filter goodWord ++ (vx_atS RX11 292 "java/lang/IllegalArgumentException" ["java/lang/RuntimeException", "java/lang/Exception"]).filter goodWord ++ (vx_atS RX11 297 "java/lang/IllegalStateException" ["java/lang/RuntimeException", "java/lang/Exception"]).filter goodWord)
def wsX11_mix : List Cond := .code yX11_mix cX11_mix 4 (some .long) :: ([.constantLong RX11 323 (31)])
def wsX11_mixHouseholds_r1 : List Cond := [Cond.fieldLink RX11 10 "OvenDays" "village" "LOvenDays$Village;", Cond.methodLink RX11 168 yX4_size, Cond.instanceMethod yX4_size, Cond.selects RX4 yX4_size yX4_size, Cond.initialized RX4, Cond.code yX4_size cX4_size 1 (some .int), Cond.fieldLink RX4 20 "OvenDays$Households" "count" "I", Cond.methodLink RX11 325 yX11_household, Cond.instanceMethod yX11_household, Cond.selects RX11 yX11_household yX11_household, Cond.initialized RX11, Cond.code yX11_household cX11_household 3 (some .int), Cond.methodLink RX11 69 yX9_whyNoHousehold, Cond.instanceMethod yX9_whyNoHousehold, Cond.selects RX9 yX9_whyNoHousehold yX9_whyNoHousehold, Cond.initialized RX9, Cond.code yX9_whyNoHousehold cX9_whyNoHousehold 2 (some .int), Cond.fieldLink RX9 12 "OvenDays$Village" "households" "LOvenDays$Households;", Cond.methodLink RX9 65 yX4_has, Cond.instanceMethod yX4_has, Cond.selects RX4 yX4_has yX4_has, Cond.code yX4_has cX4_has 2 (some .boolean), Cond.methodLink RX11 45 yX11_refuse, Cond.static yX11_refuse]
def wsX11_mixHouseholds_r2 : List Cond := [Cond.code yX11_refuse cX11_refuse 1 none, Cond.classLink RX11 281 "java/lang/IndexOutOfBoundsException", Cond.initialized "java/lang/IndexOutOfBoundsException", Cond.classLink RX11 288 "java/lang/IllegalArgumentException", Cond.initialized "java/lang/IllegalArgumentException", Cond.classLink RX11 293 "java/lang/IllegalStateException", Cond.initialized "java/lang/IllegalStateException", Cond.methodLink RX11 120 yX11_whyNotBelow, Cond.static yX11_whyNotBelow, Cond.code yX11_whyNotBelow cX11_whyNotBelow 2 (some .int), Cond.methodLink RX11 197 yX11_whyNotWithin, Cond.static yX11_whyNotWithin, Cond.code yX11_whyNotWithin cX11_whyNotWithin 3 (some .int), Cond.methodLink RX11 123 yX6_countWith, Cond.instanceMethod yX6_countWith, Cond.selects RX6 yX6_countWith yX6_countWith, Cond.initialized RX6, Cond.code yX6_countWith cX6_countWith 3 (some .int), Cond.fieldLink RX6 16 "OvenDays$Loaves" "rows" "LOvenDays$Table;", Cond.methodLink RX6 20 yX6_kept, Cond.instanceMethod yX6_kept, Cond.selects RX6 yX6_kept yX6_kept, Cond.code yX6_kept cX6_kept 1 (some .int), Cond.fieldLink RX6 28 "OvenDays$Loaves" "cameOut" "I"]
def wsX11_mixHouseholds_r3 : List Cond := [Cond.methodLink RX6 35 Lib.Math.min.name, Cond.static Lib.Math.min.name, Cond.initialized "java/lang/Math", Cond.code Lib.Math.min.name Lib.Math.min.code 2 (some .int), Cond.methodLink RX6 71 yX7_count, Cond.instanceMethod yX7_count, Cond.selects RX7 yX7_count yX7_count, Cond.initialized RX7, Cond.code yX7_count cX7_count 4 (some .int), Cond.methodLink RX7 18 yX7_countBoth, Cond.instanceMethod yX7_countBoth, Cond.selects RX7 yX7_countBoth yX7_countBoth, Cond.code yX7_countBoth cX7_countBoth 10 (some .int), Cond.fieldLink RX7 9 "OvenDays$Table" "columns" "[[I", Cond.fieldLink RX7 14 "OvenDays$Table" "room" "I", Cond.methodLink RX11 126 yX6_countWithBoth, Cond.instanceMethod yX6_countWithBoth, Cond.selects RX6 yX6_countWithBoth yX6_countWithBoth, Cond.code yX6_countWithBoth cX6_countWithBoth 5 (some .int), Cond.methodLink RX6 75 yX7_countBoth, Cond.methodLink RX11 130 yX1_countOf, Cond.instanceMethod yX1_countOf, Cond.selects RX1 yX1_countOf yX1_countOf, Cond.initialized RX1]
def wsX11_mixHouseholds_r4 : List Cond := [Cond.code yX1_countOf cX1_countOf 2 (some .int), Cond.fieldLink RX1 14 "OvenDays$Batches" "rows" "LOvenDays$Table;", Cond.fieldLink RX1 20 "OvenDays$Batches" "count" "I", Cond.methodLink RX1 32 yX7_count, Cond.methodLink RX11 133 yX4_value, Cond.instanceMethod yX4_value, Cond.selects RX4 yX4_value yX4_value, Cond.code yX4_value cX4_value 3 (some .int), Cond.fieldLink RX4 14 "OvenDays$Households" "rows" "LOvenDays$Table;", Cond.methodLink RX4 28 yX7_get, Cond.instanceMethod yX7_get, Cond.selects RX7 yX7_get yX7_get, Cond.code yX7_get cX7_get 3 (some .int), Cond.methodLink RX11 250 yX11_mix, Cond.static yX11_mix, Cond.code yX11_mix cX11_mix 4 (some .long), Cond.constantLong RX11 323 (31), Cond.methodLink RX11 328 yX11_due, Cond.instanceMethod yX11_due, Cond.selects RX11 yX11_due yX11_due, Cond.code yX11_due cX11_due 2 (some .long), Cond.methodLink RX11 136 yX4_dueOf, Cond.instanceMethod yX4_dueOf, Cond.selects RX4 yX4_dueOf yX4_dueOf]
def wsX11_mixHouseholds_r5 : List Cond := [Cond.code yX4_dueOf cX4_dueOf 6 (some .long), Cond.methodLink RX4 32 yX7_sum, Cond.instanceMethod yX7_sum, Cond.selects RX7 yX7_sum yX7_sum, Cond.code yX7_sum cX7_sum 6 (some .int), Cond.methodLink RX11 331 yX11_balance, Cond.instanceMethod yX11_balance, Cond.selects RX11 yX11_balance yX11_balance, Cond.code yX11_balance cX11_balance 3 (some .int), Cond.methodLink RX11 143 yX6_balanceOf, Cond.instanceMethod yX6_balanceOf, Cond.selects RX6 yX6_balanceOf yX6_balanceOf, Cond.code yX6_balanceOf cX6_balanceOf 3 (some .int), Cond.methodLink RX6 79 yX6_countWithBoth]
def wsX11_mixHouseholds : List Cond := .code yX11_mixHouseholds cX11_mixHouseholds 7 (some .long) :: ((wsX11_mixHouseholds_r1 ++ (wsX11_mixHouseholds_r2 ++ (wsX11_mixHouseholds_r3 ++ (wsX11_mixHouseholds_r4 ++ wsX11_mixHouseholds_r5)))) ++ wsX110 ++ wsX90 ++ wsX40 ++ wsX60 ++ wsX70 ++ wsX10 ++ (vx_atS RX11 285 "java/lang/IndexOutOfBoundsException" ["java/lang/RuntimeException", "java/lang/Exception"]).filter goodWord ++ (vx_atS RX11 292 "java/lang/IllegalArgumentException" ["java/lang/RuntimeException", "java/lang/Exception"]).filter goodWord ++ (vx_atS RX11 297 "java/lang/IllegalStateException" ["java/lang/RuntimeException", "java/lang/Exception"]).filter goodWord)
def wsX11_mixBatches_r1 : List Cond := [Cond.fieldLink RX11 10 "OvenDays" "village" "LOvenDays$Village;", Cond.methodLink RX11 175 yX1_size, Cond.instanceMethod yX1_size, Cond.selects RX1 yX1_size yX1_size, Cond.initialized RX1, Cond.code yX1_size cX1_size 1 (some .int), Cond.fieldLink RX1 20 "OvenDays$Batches" "count" "I", Cond.methodLink RX11 334 yX11_batch, Cond.instanceMethod yX11_batch, Cond.selects RX11 yX11_batch yX11_batch, Cond.initialized RX11, Cond.code yX11_batch cX11_batch 3 (some .int), Cond.fieldLink RX11 19 "OvenDays" "plan" "LOvenDays$DayPlan;", Cond.methodLink RX11 120 yX11_whyNotBelow, Cond.static yX11_whyNotBelow, Cond.code yX11_whyNotBelow cX11_whyNotBelow 2 (some .int), Cond.methodLink RX11 197 yX11_whyNotWithin, Cond.static yX11_whyNotWithin, Cond.code yX11_whyNotWithin cX11_whyNotWithin 3 (some .int), Cond.methodLink RX11 45 yX11_refuse, Cond.static yX11_refuse, Cond.code yX11_refuse cX11_refuse 1 none, Cond.classLink RX11 281 "java/lang/IndexOutOfBoundsException", Cond.initialized "java/lang/IndexOutOfBoundsException"]
def wsX11_mixBatches_r2 : List Cond := [Cond.classLink RX11 288 "java/lang/IllegalArgumentException", Cond.initialized "java/lang/IllegalArgumentException", Cond.classLink RX11 293 "java/lang/IllegalStateException", Cond.initialized "java/lang/IllegalStateException", Cond.methodLink RX11 87 yX1_has, Cond.instanceMethod yX1_has, Cond.selects RX1 yX1_has yX1_has, Cond.code yX1_has cX1_has 2 (some .boolean), Cond.methodLink RX11 146 yX1_value, Cond.instanceMethod yX1_value, Cond.selects RX1 yX1_value yX1_value, Cond.code yX1_value cX1_value 3 (some .int), Cond.fieldLink RX1 14 "OvenDays$Batches" "rows" "LOvenDays$Table;", Cond.methodLink RX1 28 yX7_get, Cond.instanceMethod yX7_get, Cond.selects RX7 yX7_get yX7_get, Cond.initialized RX7, Cond.code yX7_get cX7_get 3 (some .int), Cond.fieldLink RX7 14 "OvenDays$Table" "room" "I", Cond.fieldLink RX7 9 "OvenDays$Table" "columns" "[[I", Cond.methodLink RX11 147 yX9_arrangeNextDay, Cond.instanceMethod yX9_arrangeNextDay, Cond.selects RX9 yX9_arrangeNextDay yX9_arrangeNextDay, Cond.initialized RX9]
def wsX11_mixBatches_r3 : List Cond := [Cond.code yX9_arrangeNextDay cX9_arrangeNextDay 2 none, Cond.fieldLink RX9 21 "OvenDays$Village" "batches" "LOvenDays$Batches;", Cond.fieldLink RX9 12 "OvenDays$Village" "households" "LOvenDays$Households;", Cond.methodLink RX9 102 yX4_size, Cond.instanceMethod yX4_size, Cond.selects RX4 yX4_size yX4_size, Cond.initialized RX4, Cond.code yX4_size cX4_size 1 (some .int), Cond.fieldLink RX4 20 "OvenDays$Households" "count" "I", Cond.methodLink RX9 103 yX4_nextOne, Cond.instanceMethod yX4_nextOne, Cond.selects RX4 yX4_nextOne yX4_nextOne, Cond.code yX4_nextOne cX4_nextOne 8 (some .int), Cond.fieldLink RX4 14 "OvenDays$Households" "rows" "LOvenDays$Table;", Cond.methodLink RX4 39 yX7_count, Cond.instanceMethod yX7_count, Cond.selects RX7 yX7_count yX7_count, Cond.code yX7_count cX7_count 4 (some .int), Cond.methodLink RX7 18 yX7_countBoth, Cond.instanceMethod yX7_countBoth, Cond.selects RX7 yX7_countBoth yX7_countBoth, Cond.code yX7_countBoth cX7_countBoth 10 (some .int), Cond.methodLink RX4 28 yX7_get, Cond.methodLink RX4 46 yX4_dueOf]
def wsX11_mixBatches_r4 : List Cond := [Cond.instanceMethod yX4_dueOf, Cond.selects RX4 yX4_dueOf yX4_dueOf, Cond.code yX4_dueOf cX4_dueOf 6 (some .long), Cond.methodLink RX4 32 yX7_sum, Cond.instanceMethod yX7_sum, Cond.selects RX7 yX7_sum yX7_sum, Cond.code yX7_sum cX7_sum 6 (some .int), Cond.methodLink RX9 106 yX3_arrange, Cond.instanceMethod yX3_arrange, Cond.selects RX3 yX3_arrange yX3_arrange, Cond.initialized RX3, Cond.code yX3_arrange cX3_arrange 7 none, Cond.fieldLink RX3 31 "OvenDays$DayPlan" "count" "I", Cond.fieldLink RX3 9 "OvenDays$DayPlan" "order" "[I", Cond.methodLink RX3 35 yX1_size, Cond.methodLink RX3 41 yX1_value, Cond.methodLink RX11 151 yX3_placeOf, Cond.instanceMethod yX3_placeOf, Cond.selects RX3 yX3_placeOf yX3_placeOf, Cond.code yX3_placeOf cX3_placeOf 3 (some .int), Cond.methodLink RX3 85 yX3_batchAt, Cond.instanceMethod yX3_batchAt, Cond.selects RX3 yX3_batchAt yX3_batchAt, Cond.code yX3_batchAt cX3_batchAt 2 (some .int)]
def wsX11_mixBatches_r5 : List Cond := [Cond.methodLink RX11 250 yX11_mix, Cond.static yX11_mix, Cond.code yX11_mix cX11_mix 4 (some .long), Cond.constantLong RX11 323 (31)]
def wsX11_mixBatches : List Cond := .code yX11_mixBatches cX11_mixBatches 7 (some .long) :: ((wsX11_mixBatches_r1 ++ (wsX11_mixBatches_r2 ++ (wsX11_mixBatches_r3 ++ (wsX11_mixBatches_r4 ++ wsX11_mixBatches_r5)))) ++ wsX110 ++ wsX90 ++ wsX10 ++ wsX70 ++ wsX40 ++ wsX30 ++ (vx_atS RX11 285 "java/lang/IndexOutOfBoundsException" ["java/lang/RuntimeException", "java/lang/Exception"]).filter goodWord ++ (vx_atS RX11 292 "java/lang/IllegalArgumentException" ["java/lang/RuntimeException", "java/lang/Exception"]).filter goodWord ++ (vx_atS RX11 297 "java/lang/IllegalStateException" ["java/lang/RuntimeException", "java/lang/Exception"]).filter goodWord)
def wsX11_mixLoaves_r1 : List Cond := [Cond.fieldLink RX11 10 "OvenDays" "village" "LOvenDays$Village;", Cond.methodLink RX11 337 yX6_firstKept, Cond.instanceMethod yX6_firstKept, Cond.selects RX6 yX6_firstKept yX6_firstKept, Cond.initialized RX6, Cond.code yX6_firstKept cX6_firstKept 1 (some .int), Cond.fieldLink RX6 28 "OvenDays$Loaves" "cameOut" "I", Cond.methodLink RX6 20 yX6_kept, Cond.instanceMethod yX6_kept, Cond.selects RX6 yX6_kept yX6_kept, Cond.code yX6_kept cX6_kept 1 (some .int), Cond.methodLink RX6 35 Lib.Math.min.name, Cond.static Lib.Math.min.name, Cond.initialized "java/lang/Math", Cond.code Lib.Math.min.name Lib.Math.min.code 2 (some .int), Cond.methodLink RX11 182 yX6_cameOut, Cond.instanceMethod yX6_cameOut, Cond.selects RX6 yX6_cameOut yX6_cameOut, Cond.code yX6_cameOut cX6_cameOut 1 (some .int), Cond.methodLink RX11 250 yX11_mix, Cond.static yX11_mix, Cond.initialized RX11, Cond.code yX11_mix cX11_mix 4 (some .long), Cond.constantLong RX11 323 (31)]
def wsX11_mixLoaves_r2 : List Cond := [Cond.methodLink RX11 340 yX11_loaf, Cond.instanceMethod yX11_loaf, Cond.selects RX11 yX11_loaf yX11_loaf, Cond.code yX11_loaf cX11_loaf 3 (some .int), Cond.methodLink RX11 154 yX6_keeps, Cond.instanceMethod yX6_keeps, Cond.selects RX6 yX6_keeps yX6_keeps, Cond.code yX6_keeps cX6_keeps 2 (some .boolean), Cond.methodLink RX6 41 yX6_firstKept, Cond.methodLink RX11 45 yX11_refuse, Cond.static yX11_refuse, Cond.code yX11_refuse cX11_refuse 1 none, Cond.classLink RX11 281 "java/lang/IndexOutOfBoundsException", Cond.initialized "java/lang/IndexOutOfBoundsException", Cond.classLink RX11 288 "java/lang/IllegalArgumentException", Cond.initialized "java/lang/IllegalArgumentException", Cond.classLink RX11 293 "java/lang/IllegalStateException", Cond.initialized "java/lang/IllegalStateException", Cond.methodLink RX11 120 yX11_whyNotBelow, Cond.static yX11_whyNotBelow, Cond.code yX11_whyNotBelow cX11_whyNotBelow 2 (some .int), Cond.methodLink RX11 197 yX11_whyNotWithin, Cond.static yX11_whyNotWithin, Cond.code yX11_whyNotWithin cX11_whyNotWithin 3 (some .int)]
def wsX11_mixLoaves_r3 : List Cond := [Cond.methodLink RX11 157 yX6_value, Cond.instanceMethod yX6_value, Cond.selects RX6 yX6_value yX6_value, Cond.code yX6_value cX6_value 3 (some .int), Cond.fieldLink RX6 16 "OvenDays$Loaves" "rows" "LOvenDays$Table;", Cond.methodLink RX6 44 yX7_get, Cond.instanceMethod yX7_get, Cond.selects RX7 yX7_get yX7_get, Cond.initialized RX7, Cond.code yX7_get cX7_get 3 (some .int), Cond.fieldLink RX7 14 "OvenDays$Table" "room" "I", Cond.fieldLink RX7 9 "OvenDays$Table" "columns" "[[I"]
def wsX11_mixLoaves : List Cond := .code yX11_mixLoaves cX11_mixLoaves 7 (some .long) :: ((wsX11_mixLoaves_r1 ++ (wsX11_mixLoaves_r2 ++ wsX11_mixLoaves_r3)) ++ wsX110 ++ wsX90 ++ wsX60 ++ wsX70 ++ (vx_atS RX11 285 "java/lang/IndexOutOfBoundsException" ["java/lang/RuntimeException", "java/lang/Exception"]).filter goodWord ++ (vx_atS RX11 292 "java/lang/IllegalArgumentException" ["java/lang/RuntimeException", "java/lang/Exception"]).filter goodWord ++ (vx_atS RX11 297 "java/lang/IllegalStateException" ["java/lang/RuntimeException", "java/lang/Exception"]).filter goodWord)
def wsX11_mixLoads_r1 : List Cond := [Cond.fieldLink RX11 10 "OvenDays" "village" "LOvenDays$Village;", Cond.methodLink RX11 162 yX5_size, Cond.instanceMethod yX5_size, Cond.selects RX5 yX5_size yX5_size, Cond.initialized RX5, Cond.code yX5_size cX5_size 1 (some .int), Cond.fieldLink RX5 20 "OvenDays$Loads" "count" "I", Cond.methodLink RX11 343 yX11_load, Cond.instanceMethod yX11_load, Cond.selects RX11 yX11_load yX11_load, Cond.initialized RX11, Cond.code yX11_load cX11_load 3 (some .int), Cond.methodLink RX11 120 yX11_whyNotBelow, Cond.static yX11_whyNotBelow, Cond.code yX11_whyNotBelow cX11_whyNotBelow 2 (some .int), Cond.methodLink RX11 197 yX11_whyNotWithin, Cond.static yX11_whyNotWithin, Cond.code yX11_whyNotWithin cX11_whyNotWithin 3 (some .int), Cond.methodLink RX11 45 yX11_refuse, Cond.static yX11_refuse, Cond.code yX11_refuse cX11_refuse 1 none, Cond.classLink RX11 281 "java/lang/IndexOutOfBoundsException", Cond.initialized "java/lang/IndexOutOfBoundsException", Cond.classLink RX11 288 "java/lang/IllegalArgumentException"]
def wsX11_mixLoads_r2 : List Cond := [Cond.initialized "java/lang/IllegalArgumentException", Cond.classLink RX11 293 "java/lang/IllegalStateException", Cond.initialized "java/lang/IllegalStateException", Cond.methodLink RX11 167 yX5_value, Cond.instanceMethod yX5_value, Cond.selects RX5 yX5_value yX5_value, Cond.code yX5_value cX5_value 3 (some .int), Cond.fieldLink RX5 14 "OvenDays$Loads" "rows" "LOvenDays$Table;", Cond.methodLink RX5 28 yX7_get, Cond.instanceMethod yX7_get, Cond.selects RX7 yX7_get yX7_get, Cond.initialized RX7, Cond.code yX7_get cX7_get 3 (some .int), Cond.fieldLink RX7 14 "OvenDays$Table" "room" "I", Cond.fieldLink RX7 9 "OvenDays$Table" "columns" "[[I", Cond.methodLink RX11 250 yX11_mix, Cond.static yX11_mix, Cond.code yX11_mix cX11_mix 4 (some .long), Cond.constantLong RX11 323 (31)]
def wsX11_mixLoads : List Cond := .code yX11_mixLoads cX11_mixLoads 7 (some .long) :: ((wsX11_mixLoads_r1 ++ wsX11_mixLoads_r2) ++ wsX110 ++ wsX90 ++ wsX50 ++ wsX70 ++ (vx_atS RX11 285 "java/lang/IndexOutOfBoundsException" ["java/lang/RuntimeException", "java/lang/Exception"]).filter goodWord ++ (vx_atS RX11 292 "java/lang/IllegalArgumentException" ["java/lang/RuntimeException", "java/lang/Exception"]).filter goodWord ++ (vx_atS RX11 297 "java/lang/IllegalStateException" ["java/lang/RuntimeException", "java/lang/Exception"]).filter goodWord)
def wsX11_digest_r1 : List Cond := [Cond.constantLong RX11 248 (43087), Cond.fieldLink RX11 26 "OvenDays" "undoStack" "LOvenDays$UndoStack;", Cond.fieldLink RX11 33 "OvenDays" "text" "LOvenDays$CommandText;", Cond.methodLink RX11 243 yX8_size, Cond.instanceMethod yX8_size, Cond.selects RX8 yX8_size yX8_size, Cond.initialized RX8, Cond.code yX8_size cX8_size 1 (some .int), Cond.fieldLink RX8 16 "OvenDays$UndoStack" "count" "I", Cond.methodLink RX11 250 yX11_mix, Cond.static yX11_mix, Cond.initialized RX11, Cond.code yX11_mix cX11_mix 4 (some .long), Cond.constantLong RX11 323 (31), Cond.methodLink RX11 254 yX2_length, Cond.instanceMethod yX2_length, Cond.selects RX2 yX2_length yX2_length, Cond.initialized RX2, Cond.code yX2_length cX2_length 1 (some .int), Cond.fieldLink RX2 23 "OvenDays$CommandText" "length" "I", Cond.methodLink RX11 257 yX11_stop, Cond.instanceMethod yX11_stop, Cond.selects RX11 yX11_stop yX11_stop, Cond.code yX11_stop cX11_stop 1 (some .int)]
def wsX11_digest_r2 : List Cond := [Cond.fieldLink RX11 37 "OvenDays" "stop" "I", Cond.methodLink RX11 259 yX11_whole, Cond.instanceMethod yX11_whole, Cond.selects RX11 yX11_whole yX11_whole, Cond.code yX11_whole cX11_whole 2 (some .int), Cond.fieldLink RX11 10 "OvenDays" "village" "LOvenDays$Village;", Cond.methodLink RX11 120 yX11_whyNotBelow, Cond.static yX11_whyNotBelow, Cond.code yX11_whyNotBelow cX11_whyNotBelow 2 (some .int), Cond.methodLink RX11 197 yX11_whyNotWithin, Cond.static yX11_whyNotWithin, Cond.code yX11_whyNotWithin cX11_whyNotWithin 3 (some .int), Cond.methodLink RX11 45 yX11_refuse, Cond.static yX11_refuse, Cond.code yX11_refuse cX11_refuse 1 none, Cond.classLink RX11 281 "java/lang/IndexOutOfBoundsException", Cond.initialized "java/lang/IndexOutOfBoundsException", Cond.classLink RX11 288 "java/lang/IllegalArgumentException", Cond.initialized "java/lang/IllegalArgumentException", Cond.classLink RX11 293 "java/lang/IllegalStateException", Cond.initialized "java/lang/IllegalStateException", Cond.methodLink RX11 168 yX4_size, Cond.instanceMethod yX4_size, Cond.selects RX4 yX4_size yX4_size]
def wsX11_digest_r3 : List Cond := [Cond.initialized RX4, Cond.code yX4_size cX4_size 1 (some .int), Cond.fieldLink RX4 20 "OvenDays$Households" "count" "I", Cond.methodLink RX11 175 yX1_size, Cond.instanceMethod yX1_size, Cond.selects RX1 yX1_size yX1_size, Cond.initialized RX1, Cond.code yX1_size cX1_size 1 (some .int), Cond.fieldLink RX1 20 "OvenDays$Batches" "count" "I", Cond.methodLink RX11 176 yX4_sumOf, Cond.instanceMethod yX4_sumOf, Cond.selects RX4 yX4_sumOf yX4_sumOf, Cond.code yX4_sumOf cX4_sumOf 2 (some .int), Cond.fieldLink RX4 14 "OvenDays$Households" "rows" "LOvenDays$Table;", Cond.methodLink RX4 32 yX7_sum, Cond.instanceMethod yX7_sum, Cond.selects RX7 yX7_sum yX7_sum, Cond.initialized RX7, Cond.code yX7_sum cX7_sum 6 (some .int), Cond.fieldLink RX7 9 "OvenDays$Table" "columns" "[[I", Cond.fieldLink RX7 14 "OvenDays$Table" "room" "I", Cond.methodLink RX11 182 yX6_cameOut, Cond.instanceMethod yX6_cameOut, Cond.selects RX6 yX6_cameOut yX6_cameOut]
def wsX11_digest_r4 : List Cond := [Cond.initialized RX6, Cond.code yX6_cameOut cX6_cameOut 1 (some .int), Cond.fieldLink RX6 28 "OvenDays$Loaves" "cameOut" "I", Cond.methodLink RX11 185 yX6_pale, Cond.instanceMethod yX6_pale, Cond.selects RX6 yX6_pale yX6_pale, Cond.code yX6_pale cX6_pale 1 (some .int), Cond.fieldLink RX6 32 "OvenDays$Loaves" "pale" "I", Cond.methodLink RX11 188 yX6_kept, Cond.instanceMethod yX6_kept, Cond.selects RX6 yX6_kept yX6_kept, Cond.code yX6_kept cX6_kept 1 (some .int), Cond.methodLink RX6 35 Lib.Math.min.name, Cond.static Lib.Math.min.name, Cond.initialized "java/lang/Math", Cond.code Lib.Math.min.name Lib.Math.min.code 2 (some .int), Cond.methodLink RX11 123 yX6_countWith, Cond.instanceMethod yX6_countWith, Cond.selects RX6 yX6_countWith yX6_countWith, Cond.code yX6_countWith cX6_countWith 3 (some .int), Cond.fieldLink RX6 16 "OvenDays$Loaves" "rows" "LOvenDays$Table;", Cond.methodLink RX6 20 yX6_kept, Cond.methodLink RX6 71 yX7_count, Cond.instanceMethod yX7_count]
def wsX11_digest_r5 : List Cond := [Cond.selects RX7 yX7_count yX7_count, Cond.code yX7_count cX7_count 4 (some .int), Cond.methodLink RX7 18 yX7_countBoth, Cond.instanceMethod yX7_countBoth, Cond.selects RX7 yX7_countBoth yX7_countBoth, Cond.code yX7_countBoth cX7_countBoth 10 (some .int), Cond.methodLink RX11 191 yX6_countWithOthers, Cond.instanceMethod yX6_countWithOthers, Cond.selects RX6 yX6_countWithOthers yX6_countWithOthers, Cond.code yX6_countWithOthers cX6_countWithOthers 4 (some .int), Cond.methodLink RX6 44 yX7_get, Cond.instanceMethod yX7_get, Cond.selects RX7 yX7_get yX7_get, Cond.code yX7_get cX7_get 3 (some .int), Cond.methodLink RX11 162 yX5_size, Cond.instanceMethod yX5_size, Cond.selects RX5 yX5_size yX5_size, Cond.initialized RX5, Cond.code yX5_size cX5_size 1 (some .int), Cond.fieldLink RX5 20 "OvenDays$Loads" "count" "I", Cond.methodLink RX11 262 yX11_mixHouseholds, Cond.instanceMethod yX11_mixHouseholds, Cond.selects RX11 yX11_mixHouseholds yX11_mixHouseholds, Cond.code yX11_mixHouseholds cX11_mixHouseholds 7 (some .long)]
def wsX11_digest_r6 : List Cond := [Cond.methodLink RX11 325 yX11_household, Cond.instanceMethod yX11_household, Cond.selects RX11 yX11_household yX11_household, Cond.code yX11_household cX11_household 3 (some .int), Cond.methodLink RX11 69 yX9_whyNoHousehold, Cond.instanceMethod yX9_whyNoHousehold, Cond.selects RX9 yX9_whyNoHousehold yX9_whyNoHousehold, Cond.initialized RX9, Cond.code yX9_whyNoHousehold cX9_whyNoHousehold 2 (some .int), Cond.fieldLink RX9 12 "OvenDays$Village" "households" "LOvenDays$Households;", Cond.methodLink RX9 65 yX4_has, Cond.instanceMethod yX4_has, Cond.selects RX4 yX4_has yX4_has, Cond.code yX4_has cX4_has 2 (some .boolean), Cond.methodLink RX11 126 yX6_countWithBoth, Cond.instanceMethod yX6_countWithBoth, Cond.selects RX6 yX6_countWithBoth yX6_countWithBoth, Cond.code yX6_countWithBoth cX6_countWithBoth 5 (some .int), Cond.methodLink RX6 75 yX7_countBoth, Cond.methodLink RX11 130 yX1_countOf, Cond.instanceMethod yX1_countOf, Cond.selects RX1 yX1_countOf yX1_countOf, Cond.code yX1_countOf cX1_countOf 2 (some .int), Cond.fieldLink RX1 14 "OvenDays$Batches" "rows" "LOvenDays$Table;"]
def wsX11_digest_r7 : List Cond := [Cond.methodLink RX1 32 yX7_count, Cond.methodLink RX11 133 yX4_value, Cond.instanceMethod yX4_value, Cond.selects RX4 yX4_value yX4_value, Cond.code yX4_value cX4_value 3 (some .int), Cond.methodLink RX4 28 yX7_get, Cond.methodLink RX11 328 yX11_due, Cond.instanceMethod yX11_due, Cond.selects RX11 yX11_due yX11_due, Cond.code yX11_due cX11_due 2 (some .long), Cond.methodLink RX11 136 yX4_dueOf, Cond.instanceMethod yX4_dueOf, Cond.selects RX4 yX4_dueOf yX4_dueOf, Cond.code yX4_dueOf cX4_dueOf 6 (some .long), Cond.methodLink RX11 331 yX11_balance, Cond.instanceMethod yX11_balance, Cond.selects RX11 yX11_balance yX11_balance, Cond.code yX11_balance cX11_balance 3 (some .int), Cond.methodLink RX11 143 yX6_balanceOf, Cond.instanceMethod yX6_balanceOf, Cond.selects RX6 yX6_balanceOf yX6_balanceOf, Cond.code yX6_balanceOf cX6_balanceOf 3 (some .int), Cond.methodLink RX6 79 yX6_countWithBoth, Cond.methodLink RX11 266 yX11_nextForWood]
def wsX11_digest_r8 : List Cond := [Cond.instanceMethod yX11_nextForWood, Cond.selects RX11 yX11_nextForWood yX11_nextForWood, Cond.code yX11_nextForWood cX11_nextForWood 1 (some .int), Cond.methodLink RX11 140 yX4_nextOne, Cond.instanceMethod yX4_nextOne, Cond.selects RX4 yX4_nextOne yX4_nextOne, Cond.code yX4_nextOne cX4_nextOne 8 (some .int), Cond.methodLink RX4 39 yX7_count, Cond.methodLink RX4 46 yX4_dueOf, Cond.methodLink RX11 269 yX11_mixBatches, Cond.instanceMethod yX11_mixBatches, Cond.selects RX11 yX11_mixBatches yX11_mixBatches, Cond.code yX11_mixBatches cX11_mixBatches 7 (some .long), Cond.methodLink RX11 334 yX11_batch, Cond.instanceMethod yX11_batch, Cond.selects RX11 yX11_batch yX11_batch, Cond.code yX11_batch cX11_batch 3 (some .int), Cond.fieldLink RX11 19 "OvenDays" "plan" "LOvenDays$DayPlan;", Cond.methodLink RX11 87 yX1_has, Cond.instanceMethod yX1_has, Cond.selects RX1 yX1_has yX1_has, Cond.code yX1_has cX1_has 2 (some .boolean), Cond.methodLink RX11 146 yX1_value, Cond.instanceMethod yX1_value]
def wsX11_digest_r9 : List Cond := [Cond.selects RX1 yX1_value yX1_value, Cond.code yX1_value cX1_value 3 (some .int), Cond.methodLink RX1 28 yX7_get, Cond.methodLink RX11 147 yX9_arrangeNextDay, Cond.instanceMethod yX9_arrangeNextDay, Cond.selects RX9 yX9_arrangeNextDay yX9_arrangeNextDay, Cond.code yX9_arrangeNextDay cX9_arrangeNextDay 2 none, Cond.fieldLink RX9 21 "OvenDays$Village" "batches" "LOvenDays$Batches;", Cond.methodLink RX9 102 yX4_size, Cond.methodLink RX9 103 yX4_nextOne, Cond.methodLink RX9 106 yX3_arrange, Cond.instanceMethod yX3_arrange, Cond.selects RX3 yX3_arrange yX3_arrange, Cond.initialized RX3, Cond.code yX3_arrange cX3_arrange 7 none, Cond.fieldLink RX3 31 "OvenDays$DayPlan" "count" "I", Cond.fieldLink RX3 9 "OvenDays$DayPlan" "order" "[I", Cond.methodLink RX3 35 yX1_size, Cond.methodLink RX3 41 yX1_value, Cond.methodLink RX11 151 yX3_placeOf, Cond.instanceMethod yX3_placeOf, Cond.selects RX3 yX3_placeOf yX3_placeOf, Cond.code yX3_placeOf cX3_placeOf 3 (some .int), Cond.methodLink RX3 85 yX3_batchAt]
def wsX11_digest_r10 : List Cond := [Cond.instanceMethod yX3_batchAt, Cond.selects RX3 yX3_batchAt yX3_batchAt, Cond.code yX3_batchAt cX3_batchAt 2 (some .int), Cond.methodLink RX11 272 yX11_mixLoaves, Cond.instanceMethod yX11_mixLoaves, Cond.selects RX11 yX11_mixLoaves yX11_mixLoaves, Cond.code yX11_mixLoaves cX11_mixLoaves 7 (some .long), Cond.methodLink RX11 337 yX6_firstKept, Cond.instanceMethod yX6_firstKept, Cond.selects RX6 yX6_firstKept yX6_firstKept, Cond.code yX6_firstKept cX6_firstKept 1 (some .int), Cond.methodLink RX11 340 yX11_loaf, Cond.instanceMethod yX11_loaf, Cond.selects RX11 yX11_loaf yX11_loaf, Cond.code yX11_loaf cX11_loaf 3 (some .int), Cond.methodLink RX11 154 yX6_keeps, Cond.instanceMethod yX6_keeps, Cond.selects RX6 yX6_keeps yX6_keeps, Cond.code yX6_keeps cX6_keeps 2 (some .boolean), Cond.methodLink RX6 41 yX6_firstKept, Cond.methodLink RX11 157 yX6_value, Cond.instanceMethod yX6_value, Cond.selects RX6 yX6_value yX6_value, Cond.code yX6_value cX6_value 3 (some .int)]
def wsX11_digest_r11 : List Cond := [Cond.methodLink RX11 275 yX11_mixLoads, Cond.instanceMethod yX11_mixLoads, Cond.selects RX11 yX11_mixLoads yX11_mixLoads, Cond.code yX11_mixLoads cX11_mixLoads 7 (some .long), Cond.methodLink RX11 343 yX11_load, Cond.instanceMethod yX11_load, Cond.selects RX11 yX11_load yX11_load, Cond.code yX11_load cX11_load 3 (some .int), Cond.methodLink RX11 167 yX5_value, Cond.instanceMethod yX5_value, Cond.selects RX5 yX5_value yX5_value, Cond.code yX5_value cX5_value 3 (some .int), Cond.fieldLink RX5 14 "OvenDays$Loads" "rows" "LOvenDays$Table;", Cond.methodLink RX5 28 yX7_get, Cond.methodLink RX11 278 yX11_likeMarks, Cond.instanceMethod yX11_likeMarks, Cond.selects RX11 yX11_likeMarks yX11_likeMarks, Cond.code yX11_likeMarks cX11_likeMarks 1 (some .int), Cond.methodLink RX11 203 yX4_likePairs, Cond.instanceMethod yX4_likePairs, Cond.selects RX4 yX4_likePairs yX4_likePairs, Cond.code yX4_likePairs cX4_likePairs 4 (some .int), Cond.methodLink RX4 60 yX4_alike, Cond.static yX4_alike]
def wsX11_digest_r12 : List Cond := [Cond.code yX4_alike cX4_alike 2 (some .boolean), Cond.static yX11_contains, Cond.code yX11_contains cX11_contains 2 (some .boolean)]
def wsX11_digest : List Cond := .code yX11_digest cX11_digest 4 (some .long) :: ((wsX11_digest_r1 ++ (wsX11_digest_r2 ++ (wsX11_digest_r3 ++ (wsX11_digest_r4 ++ (wsX11_digest_r5 ++ (wsX11_digest_r6 ++ (wsX11_digest_r7 ++ (wsX11_digest_r8 ++ (wsX11_digest_r9 ++ (wsX11_digest_r10 ++ (wsX11_digest_r11 ++ wsX11_digest_r12))))))))))) ++ wsX110 ++ wsX80 ++ wsX20 ++ wsX90 ++ wsX40 ++ wsX10 ++ wsX70 ++ wsX60 ++ wsX50 ++ wsX30 ++ (vx_atS RX11 285 "java/lang/IndexOutOfBoundsException" ["java/lang/RuntimeException", "java/lang/Exception"]).filter goodWord ++ (vx_atS RX11 292 "java/lang/IllegalArgumentException" ["java/lang/RuntimeException", "java/lang/Exception"]).filter goodWord ++ (vx_atS RX11 297 "java/lang/IllegalStateException" ["java/lang/RuntimeException", "java/lang/Exception"]).filter goodWord)
def wsX12_init : List Cond := .code yX12_init cX12_init 1 none :: ([.methodLink RX12 1 objectInit, .instanceMethod objectInit, .code objectInit ⟨#[0xb1]⟩ 1 none, .arrayClass .int, .fieldLink RX12 7 "OvenDaysModel" "now" "[I", .fieldLink RX12 13 "OvenDaysModel" "past" "[I", .fieldLink RX12 16 "OvenDaysModel" "aside" "[I", .fieldLink RX12 19 "OvenDaysModel" "commands" "[I", .fieldLink RX12 22 "OvenDaysModel" "inOven" "[I", .fieldLink RX12 25 "OvenDaysModel" "numbers" "[I"] ++ wsX120)
def wsX12_thrown : List Cond := .code yX12_thrown cX12_thrown 1 (some .int) :: ([.fieldLink RX12 28 "OvenDaysModel" "refusal" "I"] ++ wsX120)
def wsX12_refused : List Cond := .code yX12_refused cX12_refused 2 (some .boolean) :: ([.fieldLink RX12 28 "OvenDaysModel" "refusal" "I"] ++ wsX120)
def wsX12_in : List Cond := .code yX12_in cX12_in 3 (some .boolean) :: ([])
def wsX12_bits : List Cond := .code yX12_bits cX12_bits 3 (some .int) :: ([])
def wsX12_saves : List Cond := .code yX12_saves cX12_saves 2 none :: ([.fieldLink RX12 32 "OvenDaysModel" "saved" "I", .fieldLink RX12 13 "OvenDaysModel" "past" "[I", .fieldLink RX12 7 "OvenDaysModel" "now" "[I"] ++ wsX120)
def wsX12_undo : List Cond := .code yX12_undo cX12_undo 2 (some .int) :: ([.fieldLink RX12 32 "OvenDaysModel" "saved" "I", .fieldLink RX12 7 "OvenDaysModel" "now" "[I", .fieldLink RX12 13 "OvenDaysModel" "past" "[I", .methodLink RX12 35 yX12_refused, .instanceMethod yX12_refused, .selects RX12 yX12_refused yX12_refused, .initialized RX12, .code yX12_refused cX12_refused 2 (some .boolean), .fieldLink RX12 28 "OvenDaysModel" "refusal" "I"] ++ wsX120)
def wsX12_keeps : List Cond := .code yX12_keeps cX12_keeps 2 none :: ([.fieldLink RX12 16 "OvenDaysModel" "aside" "[I", .fieldLink RX12 7 "OvenDaysModel" "now" "[I"] ++ wsX120)
def wsX12_takesBack : List Cond := .code yX12_takesBack cX12_takesBack 2 none :: ([.fieldLink RX12 7 "OvenDaysModel" "now" "[I", .fieldLink RX12 16 "OvenDaysModel" "aside" "[I"] ++ wsX120)
def wsX12_isHouse : List Cond := .code yX12_isHouse cX12_isHouse 2 (some .boolean) :: ([.fieldLink RX12 7 "OvenDaysModel" "now" "[I", .methodLink RX12 39 yX12_in, .static yX12_in, .initialized RX12, .code yX12_in cX12_in 3 (some .boolean)] ++ wsX120)
def wsX12_of : List Cond := .code yX12_of cX12_of 3 (some .int) :: ([.fieldLink RX12 7 "OvenDaysModel" "now" "[I"] ++ wsX120)
def wsX12_lays : List Cond := .code yX12_lays cX12_lays 4 none :: ([.fieldLink RX12 7 "OvenDaysModel" "now" "[I"] ++ wsX120)
def wsX12_isMark : List Cond := .code yX12_isMark cX12_isMark 1 (some .boolean) :: ([.constant RX12 43 (65535), .methodLink RX12 39 yX12_in, .static yX12_in, .initialized RX12, .code yX12_in cX12_in 3 (some .boolean)])
def wsX12_isTaken : List Cond := .code yX12_isTaken cX12_isTaken 5 (some .boolean) :: ([.fieldLink RX12 7 "OvenDaysModel" "now" "[I", .methodLink RX12 44 yX12_of, .instanceMethod yX12_of, .selects RX12 yX12_of yX12_of, .initialized RX12, .code yX12_of cX12_of 3 (some .int)] ++ wsX120)
def wsX12_badJoin : List Cond := .code yX12_badJoin cX12_badJoin 2 (some .int) :: ([.fieldLink RX12 7 "OvenDaysModel" "now" "[I", .methodLink RX12 48 yX12_isMark, .static yX12_isMark, .initialized RX12, .code yX12_isMark cX12_isMark 1 (some .boolean), .constant RX12 43 (65535), .methodLink RX12 39 yX12_in, .static yX12_in, .code yX12_in cX12_in 3 (some .boolean), .methodLink RX12 51 yX12_isTaken, .instanceMethod yX12_isTaken, .selects RX12 yX12_isTaken yX12_isTaken, .code yX12_isTaken cX12_isTaken 5 (some .boolean), .methodLink RX12 44 yX12_of, .instanceMethod yX12_of, .selects RX12 yX12_of yX12_of, .code yX12_of cX12_of 3 (some .int)] ++ wsX120)
def wsX12_joins : List Cond := .code yX12_joins cX12_joins 3 (some .int) :: ([.fieldLink RX12 7 "OvenDaysModel" "now" "[I", .methodLink RX12 55 yX12_lays, .instanceMethod yX12_lays, .selects RX12 yX12_lays yX12_lays, .initialized RX12, .code yX12_lays cX12_lays 4 none] ++ wsX120)
def wsX12_join_r1 : List Cond := [Cond.methodLink RX12 59 yX12_badJoin, Cond.instanceMethod yX12_badJoin, Cond.selects RX12 yX12_badJoin yX12_badJoin, Cond.initialized RX12, Cond.code yX12_badJoin cX12_badJoin 2 (some .int), Cond.fieldLink RX12 7 "OvenDaysModel" "now" "[I", Cond.methodLink RX12 48 yX12_isMark, Cond.static yX12_isMark, Cond.code yX12_isMark cX12_isMark 1 (some .boolean), Cond.constant RX12 43 (65535), Cond.methodLink RX12 39 yX12_in, Cond.static yX12_in, Cond.code yX12_in cX12_in 3 (some .boolean), Cond.methodLink RX12 51 yX12_isTaken, Cond.instanceMethod yX12_isTaken, Cond.selects RX12 yX12_isTaken yX12_isTaken, Cond.code yX12_isTaken cX12_isTaken 5 (some .boolean), Cond.methodLink RX12 44 yX12_of, Cond.instanceMethod yX12_of, Cond.selects RX12 yX12_of yX12_of, Cond.code yX12_of cX12_of 3 (some .int), Cond.methodLink RX12 35 yX12_refused, Cond.instanceMethod yX12_refused, Cond.selects RX12 yX12_refused yX12_refused]
def wsX12_join_r2 : List Cond := [Cond.code yX12_refused cX12_refused 2 (some .boolean), Cond.fieldLink RX12 28 "OvenDaysModel" "refusal" "I", Cond.methodLink RX12 63 yX12_saves, Cond.instanceMethod yX12_saves, Cond.selects RX12 yX12_saves yX12_saves, Cond.code yX12_saves cX12_saves 2 none, Cond.fieldLink RX12 32 "OvenDaysModel" "saved" "I", Cond.fieldLink RX12 13 "OvenDaysModel" "past" "[I", Cond.methodLink RX12 66 yX12_joins, Cond.instanceMethod yX12_joins, Cond.selects RX12 yX12_joins yX12_joins, Cond.code yX12_joins cX12_joins 3 (some .int), Cond.methodLink RX12 55 yX12_lays, Cond.instanceMethod yX12_lays, Cond.selects RX12 yX12_lays yX12_lays, Cond.code yX12_lays cX12_lays 4 none]
def wsX12_join : List Cond := .code yX12_join cX12_join 2 (some .int) :: ((wsX12_join_r1 ++ wsX12_join_r2) ++ wsX120)
def wsX12_remark_r1 : List Cond := [Cond.methodLink RX12 69 yX12_isHouse, Cond.instanceMethod yX12_isHouse, Cond.selects RX12 yX12_isHouse yX12_isHouse, Cond.initialized RX12, Cond.code yX12_isHouse cX12_isHouse 2 (some .boolean), Cond.fieldLink RX12 7 "OvenDaysModel" "now" "[I", Cond.methodLink RX12 39 yX12_in, Cond.static yX12_in, Cond.code yX12_in cX12_in 3 (some .boolean), Cond.methodLink RX12 48 yX12_isMark, Cond.static yX12_isMark, Cond.code yX12_isMark cX12_isMark 1 (some .boolean), Cond.constant RX12 43 (65535), Cond.methodLink RX12 51 yX12_isTaken, Cond.instanceMethod yX12_isTaken, Cond.selects RX12 yX12_isTaken yX12_isTaken, Cond.code yX12_isTaken cX12_isTaken 5 (some .boolean), Cond.methodLink RX12 44 yX12_of, Cond.instanceMethod yX12_of, Cond.selects RX12 yX12_of yX12_of, Cond.code yX12_of cX12_of 3 (some .int), Cond.methodLink RX12 35 yX12_refused, Cond.instanceMethod yX12_refused, Cond.selects RX12 yX12_refused yX12_refused]
def wsX12_remark_r2 : List Cond := [Cond.code yX12_refused cX12_refused 2 (some .boolean), Cond.fieldLink RX12 28 "OvenDaysModel" "refusal" "I", Cond.methodLink RX12 63 yX12_saves, Cond.instanceMethod yX12_saves, Cond.selects RX12 yX12_saves yX12_saves, Cond.code yX12_saves cX12_saves 2 none, Cond.fieldLink RX12 32 "OvenDaysModel" "saved" "I", Cond.fieldLink RX12 13 "OvenDaysModel" "past" "[I", Cond.methodLink RX12 55 yX12_lays, Cond.instanceMethod yX12_lays, Cond.selects RX12 yX12_lays yX12_lays, Cond.code yX12_lays cX12_lays 4 none]
def wsX12_remark : List Cond := .code yX12_remark cX12_remark 4 (some .int) :: ((wsX12_remark_r1 ++ wsX12_remark_r2) ++ wsX120)
def wsX12_excused : List Cond := .code yX12_excused cX12_excused 3 (some .int) :: ([.fieldLink RX12 7 "OvenDaysModel" "now" "[I", .methodLink RX12 44 yX12_of, .instanceMethod yX12_of, .selects RX12 yX12_of yX12_of, .initialized RX12, .code yX12_of cX12_of 3 (some .int)] ++ wsX120)
def wsX12_excuse_r1 : List Cond := [Cond.methodLink RX12 69 yX12_isHouse, Cond.instanceMethod yX12_isHouse, Cond.selects RX12 yX12_isHouse yX12_isHouse, Cond.initialized RX12, Cond.code yX12_isHouse cX12_isHouse 2 (some .boolean), Cond.fieldLink RX12 7 "OvenDaysModel" "now" "[I", Cond.methodLink RX12 39 yX12_in, Cond.static yX12_in, Cond.code yX12_in cX12_in 3 (some .boolean), Cond.methodLink RX12 35 yX12_refused, Cond.instanceMethod yX12_refused, Cond.selects RX12 yX12_refused yX12_refused, Cond.code yX12_refused cX12_refused 2 (some .boolean), Cond.fieldLink RX12 28 "OvenDaysModel" "refusal" "I", Cond.methodLink RX12 63 yX12_saves, Cond.instanceMethod yX12_saves, Cond.selects RX12 yX12_saves yX12_saves, Cond.code yX12_saves cX12_saves 2 none, Cond.fieldLink RX12 32 "OvenDaysModel" "saved" "I", Cond.fieldLink RX12 13 "OvenDaysModel" "past" "[I", Cond.methodLink RX12 55 yX12_lays, Cond.instanceMethod yX12_lays, Cond.selects RX12 yX12_lays yX12_lays, Cond.code yX12_lays cX12_lays 4 none]
def wsX12_excuse_r2 : List Cond := [Cond.methodLink RX12 72 yX12_excused, Cond.instanceMethod yX12_excused, Cond.selects RX12 yX12_excused yX12_excused, Cond.code yX12_excused cX12_excused 3 (some .int), Cond.methodLink RX12 44 yX12_of, Cond.instanceMethod yX12_of, Cond.selects RX12 yX12_of yX12_of, Cond.code yX12_of cX12_of 3 (some .int)]
def wsX12_excuse : List Cond := .code yX12_excuse cX12_excuse 2 (some .int) :: ((wsX12_excuse_r1 ++ wsX12_excuse_r2) ++ wsX120)
def wsX12_sum : List Cond := .code yX12_sum cX12_sum 4 (some .int) :: ([.fieldLink RX12 7 "OvenDaysModel" "now" "[I", .methodLink RX12 44 yX12_of, .instanceMethod yX12_of, .selects RX12 yX12_of yX12_of, .initialized RX12, .code yX12_of cX12_of 3 (some .int)] ++ wsX120)
def wsX12_dueOf : List Cond := .code yX12_dueOf cX12_dueOf 2 (some .long) :: ([.methodLink RX12 76 yX12_sum, .instanceMethod yX12_sum, .selects RX12 yX12_sum yX12_sum, .initialized RX12, .code yX12_sum cX12_sum 4 (some .int), .fieldLink RX12 7 "OvenDaysModel" "now" "[I", .methodLink RX12 44 yX12_of, .instanceMethod yX12_of, .selects RX12 yX12_of yX12_of, .code yX12_of cX12_of 3 (some .int)] ++ wsX120)
def wsX12_next : List Cond := .code yX12_next cX12_next 4 (some .int) :: ([.fieldLink RX12 7 "OvenDaysModel" "now" "[I", .methodLink RX12 72 yX12_excused, .instanceMethod yX12_excused, .selects RX12 yX12_excused yX12_excused, .initialized RX12, .code yX12_excused cX12_excused 3 (some .int), .methodLink RX12 44 yX12_of, .instanceMethod yX12_of, .selects RX12 yX12_of yX12_of, .code yX12_of cX12_of 3 (some .int), .methodLink RX12 79 yX12_dueOf, .instanceMethod yX12_dueOf, .selects RX12 yX12_dueOf yX12_dueOf, .code yX12_dueOf cX12_dueOf 2 (some .long), .methodLink RX12 76 yX12_sum, .instanceMethod yX12_sum, .selects RX12 yX12_sum yX12_sum, .code yX12_sum cX12_sum 4 (some .int)] ++ wsX120)
def wsX12_badBatch : List Cond := .code yX12_badBatch cX12_badBatch 4 (some .int) :: ([.fieldLink RX12 7 "OvenDaysModel" "now" "[I", .methodLink RX12 69 yX12_isHouse, .instanceMethod yX12_isHouse, .selects RX12 yX12_isHouse yX12_isHouse, .initialized RX12, .code yX12_isHouse cX12_isHouse 2 (some .boolean), .methodLink RX12 39 yX12_in, .static yX12_in, .code yX12_in cX12_in 3 (some .boolean)] ++ wsX120)
def wsX12_brings : List Cond := .code yX12_brings cX12_brings 5 (some .int) :: ([.fieldLink RX12 7 "OvenDaysModel" "now" "[I"] ++ wsX120)
def wsX12_bring_r1 : List Cond := [Cond.methodLink RX12 83 yX12_badBatch, Cond.instanceMethod yX12_badBatch, Cond.selects RX12 yX12_badBatch yX12_badBatch, Cond.initialized RX12, Cond.code yX12_badBatch cX12_badBatch 4 (some .int), Cond.fieldLink RX12 7 "OvenDaysModel" "now" "[I", Cond.methodLink RX12 69 yX12_isHouse, Cond.instanceMethod yX12_isHouse, Cond.selects RX12 yX12_isHouse yX12_isHouse, Cond.code yX12_isHouse cX12_isHouse 2 (some .boolean), Cond.methodLink RX12 39 yX12_in, Cond.static yX12_in, Cond.code yX12_in cX12_in 3 (some .boolean), Cond.methodLink RX12 35 yX12_refused, Cond.instanceMethod yX12_refused, Cond.selects RX12 yX12_refused yX12_refused, Cond.code yX12_refused cX12_refused 2 (some .boolean), Cond.fieldLink RX12 28 "OvenDaysModel" "refusal" "I", Cond.methodLink RX12 63 yX12_saves, Cond.instanceMethod yX12_saves, Cond.selects RX12 yX12_saves yX12_saves, Cond.code yX12_saves cX12_saves 2 none, Cond.fieldLink RX12 32 "OvenDaysModel" "saved" "I", Cond.fieldLink RX12 13 "OvenDaysModel" "past" "[I"]
def wsX12_bring_r2 : List Cond := [Cond.methodLink RX12 87 yX12_brings, Cond.instanceMethod yX12_brings, Cond.selects RX12 yX12_brings yX12_brings, Cond.code yX12_brings cX12_brings 5 (some .int)]
def wsX12_bring : List Cond := .code yX12_bring cX12_bring 4 (some .int) :: ((wsX12_bring_r1 ++ wsX12_bring_r2) ++ wsX120)
def wsX12_dropsBatch : List Cond := .code yX12_dropsBatch cX12_dropsBatch 3 none :: ([.fieldLink RX12 7 "OvenDaysModel" "now" "[I"] ++ wsX120)
def wsX12_takeBack : List Cond := .code yX12_takeBack cX12_takeBack 3 (some .int) :: ([.fieldLink RX12 7 "OvenDaysModel" "now" "[I", .methodLink RX12 39 yX12_in, .static yX12_in, .initialized RX12, .code yX12_in cX12_in 3 (some .boolean), .methodLink RX12 35 yX12_refused, .instanceMethod yX12_refused, .selects RX12 yX12_refused yX12_refused, .code yX12_refused cX12_refused 2 (some .boolean), .fieldLink RX12 28 "OvenDaysModel" "refusal" "I", .methodLink RX12 63 yX12_saves, .instanceMethod yX12_saves, .selects RX12 yX12_saves yX12_saves, .code yX12_saves cX12_saves 2 none, .fieldLink RX12 32 "OvenDaysModel" "saved" "I", .fieldLink RX12 13 "OvenDaysModel" "past" "[I", .methodLink RX12 90 yX12_dropsBatch, .instanceMethod yX12_dropsBatch, .selects RX12 yX12_dropsBatch yX12_dropsBatch, .code yX12_dropsBatch cX12_dropsBatch 3 none] ++ wsX120)
def wsX12_setS : List Cond := .code yX12_setS cX12_setS 3 (some .int) :: ([.fieldLink RX12 7 "OvenDaysModel" "now" "[I", .methodLink RX12 35 yX12_refused, .instanceMethod yX12_refused, .selects RX12 yX12_refused yX12_refused, .initialized RX12, .code yX12_refused cX12_refused 2 (some .boolean), .fieldLink RX12 28 "OvenDaysModel" "refusal" "I", .methodLink RX12 63 yX12_saves, .instanceMethod yX12_saves, .selects RX12 yX12_saves yX12_saves, .code yX12_saves cX12_saves 2 none, .fieldLink RX12 32 "OvenDaysModel" "saved" "I", .fieldLink RX12 13 "OvenDaysModel" "past" "[I"] ++ wsX120)
def wsX12_draw : List Cond := .code yX12_draw cX12_draw 2 (some .int) :: ([.fieldLink RX12 7 "OvenDaysModel" "now" "[I", .constantLong RX12 94 (1103515245), .constantLong RX12 96 (12345), .constantLong RX12 98 (2147483648), .constant RX12 100 (65536)] ++ wsX120)
def wsX12_loafAt : List Cond := .code yX12_loafAt cX12_loafAt 1 (some .int) :: ([])
def wsX12_firstKept : List Cond := .code yX12_firstKept cX12_firstKept 1 (some .int) :: ([.fieldLink RX12 7 "OvenDaysModel" "now" "[I"] ++ wsX120)
def wsX12_loafOf : List Cond := .code yX12_loafOf cX12_loafOf 3 (some .int) :: ([.fieldLink RX12 7 "OvenDaysModel" "now" "[I", .methodLink RX12 101 yX12_loafAt, .static yX12_loafAt, .initialized RX12, .code yX12_loafAt cX12_loafAt 1 (some .int)] ++ wsX120)
def wsX12_comesOut : List Cond := .code yX12_comesOut cX12_comesOut 8 none :: ([.fieldLink RX12 7 "OvenDaysModel" "now" "[I", .methodLink RX12 101 yX12_loafAt, .static yX12_loafAt, .initialized RX12, .code yX12_loafAt cX12_loafAt 1 (some .int), .methodLink RX12 44 yX12_of, .instanceMethod yX12_of, .selects RX12 yX12_of yX12_of, .code yX12_of cX12_of 3 (some .int), .methodLink RX12 104 yX12_draw, .instanceMethod yX12_draw, .selects RX12 yX12_draw yX12_draw, .code yX12_draw cX12_draw 2 (some .int), .constantLong RX12 94 (1103515245), .constantLong RX12 96 (12345), .constantLong RX12 98 (2147483648), .constant RX12 100 (65536), .methodLink RX12 107 yX12_bits, .static yX12_bits, .code yX12_bits cX12_bits 3 (some .int)] ++ wsX120)
def wsX12_meant : List Cond := .code yX12_meant cX12_meant 9 (some .int) :: ([.fieldLink RX12 7 "OvenDaysModel" "now" "[I", .methodLink RX12 44 yX12_of, .instanceMethod yX12_of, .selects RX12 yX12_of yX12_of, .initialized RX12, .code yX12_of cX12_of 3 (some .int), .methodLink RX12 107 yX12_bits, .static yX12_bits, .code yX12_bits cX12_bits 3 (some .int)] ++ wsX120)
def wsX12_sorts : List Cond := .code yX12_sorts cX12_sorts 4 none :: ([.fieldLink RX12 7 "OvenDaysModel" "now" "[I", .methodLink RX12 110 yX12_firstKept, .instanceMethod yX12_firstKept, .selects RX12 yX12_firstKept yX12_firstKept, .initialized RX12, .code yX12_firstKept cX12_firstKept 1 (some .int), .methodLink RX12 101 yX12_loafAt, .static yX12_loafAt, .code yX12_loafAt cX12_loafAt 1 (some .int), .methodLink RX12 113 yX12_loafOf, .instanceMethod yX12_loafOf, .selects RX12 yX12_loafOf yX12_loafOf, .code yX12_loafOf cX12_loafOf 3 (some .int), .methodLink RX12 116 yX12_meant, .instanceMethod yX12_meant, .selects RX12 yX12_meant yX12_meant, .code yX12_meant cX12_meant 9 (some .int), .methodLink RX12 44 yX12_of, .instanceMethod yX12_of, .selects RX12 yX12_of yX12_of, .code yX12_of cX12_of 3 (some .int), .methodLink RX12 107 yX12_bits, .static yX12_bits, .code yX12_bits cX12_bits 3 (some .int)] ++ wsX120)
def wsX12_lowest : List Cond := .code yX12_lowest cX12_lowest 1 (some .int) :: ([])
def wsX12_highest : List Cond := .code yX12_highest cX12_highest 1 (some .int) :: ([])
def wsX12_ticksOf : List Cond := .code yX12_ticksOf cX12_ticksOf 1 (some .int) :: ([])
def wsX12_waits : List Cond := .code yX12_waits cX12_waits 4 (some .boolean) :: ([.fieldLink RX12 7 "OvenDaysModel" "now" "[I"] ++ wsX120)
def wsX12_falls : List Cond := .code yX12_falls cX12_falls 2 none :: ([.fieldLink RX12 7 "OvenDaysModel" "now" "[I"] ++ wsX120)
def wsX12_fills : List Cond := .code yX12_fills cX12_fills 9 (some .int) :: ([.fieldLink RX12 119 "OvenDaysModel" "inMany" "I", .fieldLink RX12 7 "OvenDaysModel" "now" "[I", .fieldLink RX12 22 "OvenDaysModel" "inOven" "[I", .methodLink RX12 90 yX12_dropsBatch, .instanceMethod yX12_dropsBatch, .selects RX12 yX12_dropsBatch yX12_dropsBatch, .initialized RX12, .code yX12_dropsBatch cX12_dropsBatch 3 none] ++ wsX120)
def wsX12_bakes_r1 : List Cond := [Cond.fieldLink RX12 7 "OvenDaysModel" "now" "[I", Cond.fieldLink RX12 119 "OvenDaysModel" "inMany" "I", Cond.fieldLink RX12 22 "OvenDaysModel" "inOven" "[I", Cond.fieldLink RX12 134 "OvenDaysModel" "baked" "I", Cond.methodLink RX12 122 yX12_fills, Cond.instanceMethod yX12_fills, Cond.selects RX12 yX12_fills yX12_fills, Cond.initialized RX12, Cond.code yX12_fills cX12_fills 9 (some .int), Cond.methodLink RX12 90 yX12_dropsBatch, Cond.instanceMethod yX12_dropsBatch, Cond.selects RX12 yX12_dropsBatch yX12_dropsBatch, Cond.code yX12_dropsBatch cX12_dropsBatch 3 none, Cond.methodLink RX12 125 yX12_ticksOf, Cond.static yX12_ticksOf, Cond.code yX12_ticksOf cX12_ticksOf 1 (some .int), Cond.methodLink RX12 128 yX12_falls, Cond.instanceMethod yX12_falls, Cond.selects RX12 yX12_falls yX12_falls, Cond.code yX12_falls cX12_falls 2 none, Cond.methodLink RX12 131 yX12_lowest, Cond.static yX12_lowest, Cond.code yX12_lowest cX12_lowest 1 (some .int), Cond.methodLink RX12 44 yX12_of]
def wsX12_bakes_r2 : List Cond := [Cond.instanceMethod yX12_of, Cond.selects RX12 yX12_of yX12_of, Cond.code yX12_of cX12_of 3 (some .int), Cond.methodLink RX12 55 yX12_lays, Cond.instanceMethod yX12_lays, Cond.selects RX12 yX12_lays yX12_lays, Cond.code yX12_lays cX12_lays 4 none, Cond.methodLink RX12 137 yX12_comesOut, Cond.instanceMethod yX12_comesOut, Cond.selects RX12 yX12_comesOut yX12_comesOut, Cond.code yX12_comesOut cX12_comesOut 8 none, Cond.methodLink RX12 101 yX12_loafAt, Cond.static yX12_loafAt, Cond.code yX12_loafAt cX12_loafAt 1 (some .int), Cond.methodLink RX12 104 yX12_draw, Cond.instanceMethod yX12_draw, Cond.selects RX12 yX12_draw yX12_draw, Cond.code yX12_draw cX12_draw 2 (some .int), Cond.constantLong RX12 94 (1103515245), Cond.constantLong RX12 96 (12345), Cond.constantLong RX12 98 (2147483648), Cond.constant RX12 100 (65536), Cond.methodLink RX12 107 yX12_bits, Cond.static yX12_bits]
def wsX12_bakes_r3 : List Cond := [Cond.code yX12_bits cX12_bits 3 (some .int)]
def wsX12_bakes : List Cond := .code yX12_bakes cX12_bakes 10 none :: ((wsX12_bakes_r1 ++ (wsX12_bakes_r2 ++ wsX12_bakes_r3)) ++ wsX120)
def wsX12_kindNow : List Cond := .code yX12_kindNow cX12_kindNow 4 (some .int) :: ([.fieldLink RX12 7 "OvenDaysModel" "now" "[I", .methodLink RX12 141 yX12_waits, .instanceMethod yX12_waits, .selects RX12 yX12_waits yX12_waits, .initialized RX12, .code yX12_waits cX12_waits 4 (some .boolean), .methodLink RX12 131 yX12_lowest, .static yX12_lowest, .code yX12_lowest cX12_lowest 1 (some .int), .methodLink RX12 144 yX12_highest, .static yX12_highest, .code yX12_highest cX12_highest 1 (some .int), .methodLink RX12 39 yX12_in, .static yX12_in, .code yX12_in cX12_in 3 (some .boolean)] ++ wsX120)
def wsX12_dayWith_r1 : List Cond := [Cond.fieldLink RX12 7 "OvenDaysModel" "now" "[I", Cond.fieldLink RX12 134 "OvenDaysModel" "baked" "I", Cond.methodLink RX12 147 yX12_next, Cond.instanceMethod yX12_next, Cond.selects RX12 yX12_next yX12_next, Cond.initialized RX12, Cond.code yX12_next cX12_next 4 (some .int), Cond.methodLink RX12 72 yX12_excused, Cond.instanceMethod yX12_excused, Cond.selects RX12 yX12_excused yX12_excused, Cond.code yX12_excused cX12_excused 3 (some .int), Cond.methodLink RX12 44 yX12_of, Cond.instanceMethod yX12_of, Cond.selects RX12 yX12_of yX12_of, Cond.code yX12_of cX12_of 3 (some .int), Cond.methodLink RX12 79 yX12_dueOf, Cond.instanceMethod yX12_dueOf, Cond.selects RX12 yX12_dueOf yX12_dueOf, Cond.code yX12_dueOf cX12_dueOf 2 (some .long), Cond.methodLink RX12 76 yX12_sum, Cond.instanceMethod yX12_sum, Cond.selects RX12 yX12_sum yX12_sum, Cond.code yX12_sum cX12_sum 4 (some .int), Cond.methodLink RX12 55 yX12_lays]
def wsX12_dayWith_r2 : List Cond := [Cond.instanceMethod yX12_lays, Cond.selects RX12 yX12_lays yX12_lays, Cond.code yX12_lays cX12_lays 4 none, Cond.methodLink RX12 150 yX12_kindNow, Cond.instanceMethod yX12_kindNow, Cond.selects RX12 yX12_kindNow yX12_kindNow, Cond.code yX12_kindNow cX12_kindNow 4 (some .int), Cond.methodLink RX12 141 yX12_waits, Cond.instanceMethod yX12_waits, Cond.selects RX12 yX12_waits yX12_waits, Cond.code yX12_waits cX12_waits 4 (some .boolean), Cond.methodLink RX12 131 yX12_lowest, Cond.static yX12_lowest, Cond.code yX12_lowest cX12_lowest 1 (some .int), Cond.methodLink RX12 144 yX12_highest, Cond.static yX12_highest, Cond.code yX12_highest cX12_highest 1 (some .int), Cond.methodLink RX12 39 yX12_in, Cond.static yX12_in, Cond.code yX12_in cX12_in 3 (some .boolean), Cond.methodLink RX12 128 yX12_falls, Cond.instanceMethod yX12_falls, Cond.selects RX12 yX12_falls yX12_falls, Cond.code yX12_falls cX12_falls 2 none]
def wsX12_dayWith_r3 : List Cond := [Cond.methodLink RX12 153 yX12_bakes, Cond.instanceMethod yX12_bakes, Cond.selects RX12 yX12_bakes yX12_bakes, Cond.code yX12_bakes cX12_bakes 10 none, Cond.fieldLink RX12 119 "OvenDaysModel" "inMany" "I", Cond.fieldLink RX12 22 "OvenDaysModel" "inOven" "[I", Cond.methodLink RX12 122 yX12_fills, Cond.instanceMethod yX12_fills, Cond.selects RX12 yX12_fills yX12_fills, Cond.code yX12_fills cX12_fills 9 (some .int), Cond.methodLink RX12 90 yX12_dropsBatch, Cond.instanceMethod yX12_dropsBatch, Cond.selects RX12 yX12_dropsBatch yX12_dropsBatch, Cond.code yX12_dropsBatch cX12_dropsBatch 3 none, Cond.methodLink RX12 125 yX12_ticksOf, Cond.static yX12_ticksOf, Cond.code yX12_ticksOf cX12_ticksOf 1 (some .int), Cond.methodLink RX12 137 yX12_comesOut, Cond.instanceMethod yX12_comesOut, Cond.selects RX12 yX12_comesOut yX12_comesOut, Cond.code yX12_comesOut cX12_comesOut 8 none, Cond.methodLink RX12 101 yX12_loafAt, Cond.static yX12_loafAt, Cond.code yX12_loafAt cX12_loafAt 1 (some .int)]
def wsX12_dayWith_r4 : List Cond := [Cond.methodLink RX12 104 yX12_draw, Cond.instanceMethod yX12_draw, Cond.selects RX12 yX12_draw yX12_draw, Cond.code yX12_draw cX12_draw 2 (some .int), Cond.constantLong RX12 94 (1103515245), Cond.constantLong RX12 96 (12345), Cond.constantLong RX12 98 (2147483648), Cond.constant RX12 100 (65536), Cond.methodLink RX12 107 yX12_bits, Cond.static yX12_bits, Cond.code yX12_bits cX12_bits 3 (some .int), Cond.methodLink RX12 157 yX12_sorts, Cond.instanceMethod yX12_sorts, Cond.selects RX12 yX12_sorts yX12_sorts, Cond.code yX12_sorts cX12_sorts 4 none, Cond.methodLink RX12 110 yX12_firstKept, Cond.instanceMethod yX12_firstKept, Cond.selects RX12 yX12_firstKept yX12_firstKept, Cond.code yX12_firstKept cX12_firstKept 1 (some .int), Cond.methodLink RX12 113 yX12_loafOf, Cond.instanceMethod yX12_loafOf, Cond.selects RX12 yX12_loafOf yX12_loafOf, Cond.code yX12_loafOf cX12_loafOf 3 (some .int), Cond.methodLink RX12 116 yX12_meant]
def wsX12_dayWith_r5 : List Cond := [Cond.instanceMethod yX12_meant, Cond.selects RX12 yX12_meant yX12_meant, Cond.code yX12_meant cX12_meant 9 (some .int)]
def wsX12_dayWith : List Cond := .code yX12_dayWith cX12_dayWith 6 (some .int) :: ((wsX12_dayWith_r1 ++ (wsX12_dayWith_r2 ++ (wsX12_dayWith_r3 ++ (wsX12_dayWith_r4 ++ wsX12_dayWith_r5)))) ++ wsX120)
def wsX12_isWood : List Cond := .code yX12_isWood cX12_isWood 1 (some .boolean) :: ([.methodLink RX12 39 yX12_in, .static yX12_in, .initialized RX12, .code yX12_in cX12_in 3 (some .boolean)])
def wsX12_badDay : List Cond := .code yX12_badDay cX12_badDay 2 (some .int) :: ([.fieldLink RX12 7 "OvenDaysModel" "now" "[I", .methodLink RX12 160 yX12_isWood, .static yX12_isWood, .initialized RX12, .code yX12_isWood cX12_isWood 1 (some .boolean), .methodLink RX12 39 yX12_in, .static yX12_in, .code yX12_in cX12_in 3 (some .boolean)] ++ wsX120)
def wsX12_bake_r1 : List Cond := [Cond.methodLink RX12 163 yX12_badDay, Cond.instanceMethod yX12_badDay, Cond.selects RX12 yX12_badDay yX12_badDay, Cond.initialized RX12, Cond.code yX12_badDay cX12_badDay 2 (some .int), Cond.fieldLink RX12 7 "OvenDaysModel" "now" "[I", Cond.methodLink RX12 160 yX12_isWood, Cond.static yX12_isWood, Cond.code yX12_isWood cX12_isWood 1 (some .boolean), Cond.methodLink RX12 39 yX12_in, Cond.static yX12_in, Cond.code yX12_in cX12_in 3 (some .boolean), Cond.methodLink RX12 35 yX12_refused, Cond.instanceMethod yX12_refused, Cond.selects RX12 yX12_refused yX12_refused, Cond.code yX12_refused cX12_refused 2 (some .boolean), Cond.fieldLink RX12 28 "OvenDaysModel" "refusal" "I", Cond.methodLink RX12 63 yX12_saves, Cond.instanceMethod yX12_saves, Cond.selects RX12 yX12_saves yX12_saves, Cond.code yX12_saves cX12_saves 2 none, Cond.fieldLink RX12 32 "OvenDaysModel" "saved" "I", Cond.fieldLink RX12 13 "OvenDaysModel" "past" "[I", Cond.methodLink RX12 166 yX12_dayWith]
def wsX12_bake_r2 : List Cond := [Cond.instanceMethod yX12_dayWith, Cond.selects RX12 yX12_dayWith yX12_dayWith, Cond.code yX12_dayWith cX12_dayWith 6 (some .int), Cond.fieldLink RX12 134 "OvenDaysModel" "baked" "I", Cond.methodLink RX12 147 yX12_next, Cond.instanceMethod yX12_next, Cond.selects RX12 yX12_next yX12_next, Cond.code yX12_next cX12_next 4 (some .int), Cond.methodLink RX12 72 yX12_excused, Cond.instanceMethod yX12_excused, Cond.selects RX12 yX12_excused yX12_excused, Cond.code yX12_excused cX12_excused 3 (some .int), Cond.methodLink RX12 44 yX12_of, Cond.instanceMethod yX12_of, Cond.selects RX12 yX12_of yX12_of, Cond.code yX12_of cX12_of 3 (some .int), Cond.methodLink RX12 79 yX12_dueOf, Cond.instanceMethod yX12_dueOf, Cond.selects RX12 yX12_dueOf yX12_dueOf, Cond.code yX12_dueOf cX12_dueOf 2 (some .long), Cond.methodLink RX12 76 yX12_sum, Cond.instanceMethod yX12_sum, Cond.selects RX12 yX12_sum yX12_sum, Cond.code yX12_sum cX12_sum 4 (some .int)]
def wsX12_bake_r3 : List Cond := [Cond.methodLink RX12 55 yX12_lays, Cond.instanceMethod yX12_lays, Cond.selects RX12 yX12_lays yX12_lays, Cond.code yX12_lays cX12_lays 4 none, Cond.methodLink RX12 150 yX12_kindNow, Cond.instanceMethod yX12_kindNow, Cond.selects RX12 yX12_kindNow yX12_kindNow, Cond.code yX12_kindNow cX12_kindNow 4 (some .int), Cond.methodLink RX12 141 yX12_waits, Cond.instanceMethod yX12_waits, Cond.selects RX12 yX12_waits yX12_waits, Cond.code yX12_waits cX12_waits 4 (some .boolean), Cond.methodLink RX12 131 yX12_lowest, Cond.static yX12_lowest, Cond.code yX12_lowest cX12_lowest 1 (some .int), Cond.methodLink RX12 144 yX12_highest, Cond.static yX12_highest, Cond.code yX12_highest cX12_highest 1 (some .int), Cond.methodLink RX12 128 yX12_falls, Cond.instanceMethod yX12_falls, Cond.selects RX12 yX12_falls yX12_falls, Cond.code yX12_falls cX12_falls 2 none, Cond.methodLink RX12 153 yX12_bakes, Cond.instanceMethod yX12_bakes]
def wsX12_bake_r4 : List Cond := [Cond.selects RX12 yX12_bakes yX12_bakes, Cond.code yX12_bakes cX12_bakes 10 none, Cond.fieldLink RX12 119 "OvenDaysModel" "inMany" "I", Cond.fieldLink RX12 22 "OvenDaysModel" "inOven" "[I", Cond.methodLink RX12 122 yX12_fills, Cond.instanceMethod yX12_fills, Cond.selects RX12 yX12_fills yX12_fills, Cond.code yX12_fills cX12_fills 9 (some .int), Cond.methodLink RX12 90 yX12_dropsBatch, Cond.instanceMethod yX12_dropsBatch, Cond.selects RX12 yX12_dropsBatch yX12_dropsBatch, Cond.code yX12_dropsBatch cX12_dropsBatch 3 none, Cond.methodLink RX12 125 yX12_ticksOf, Cond.static yX12_ticksOf, Cond.code yX12_ticksOf cX12_ticksOf 1 (some .int), Cond.methodLink RX12 137 yX12_comesOut, Cond.instanceMethod yX12_comesOut, Cond.selects RX12 yX12_comesOut yX12_comesOut, Cond.code yX12_comesOut cX12_comesOut 8 none, Cond.methodLink RX12 101 yX12_loafAt, Cond.static yX12_loafAt, Cond.code yX12_loafAt cX12_loafAt 1 (some .int), Cond.methodLink RX12 104 yX12_draw, Cond.instanceMethod yX12_draw]
def wsX12_bake_r5 : List Cond := [Cond.selects RX12 yX12_draw yX12_draw, Cond.code yX12_draw cX12_draw 2 (some .int), Cond.constantLong RX12 94 (1103515245), Cond.constantLong RX12 96 (12345), Cond.constantLong RX12 98 (2147483648), Cond.constant RX12 100 (65536), Cond.methodLink RX12 107 yX12_bits, Cond.static yX12_bits, Cond.code yX12_bits cX12_bits 3 (some .int), Cond.methodLink RX12 157 yX12_sorts, Cond.instanceMethod yX12_sorts, Cond.selects RX12 yX12_sorts yX12_sorts, Cond.code yX12_sorts cX12_sorts 4 none, Cond.methodLink RX12 110 yX12_firstKept, Cond.instanceMethod yX12_firstKept, Cond.selects RX12 yX12_firstKept yX12_firstKept, Cond.code yX12_firstKept cX12_firstKept 1 (some .int), Cond.methodLink RX12 113 yX12_loafOf, Cond.instanceMethod yX12_loafOf, Cond.selects RX12 yX12_loafOf yX12_loafOf, Cond.code yX12_loafOf cX12_loafOf 3 (some .int), Cond.methodLink RX12 116 yX12_meant, Cond.instanceMethod yX12_meant, Cond.selects RX12 yX12_meant yX12_meant]
def wsX12_bake_r6 : List Cond := [Cond.code yX12_meant cX12_meant 9 (some .int)]
def wsX12_bake : List Cond := .code yX12_bake cX12_bake 2 (some .int) :: ((wsX12_bake_r1 ++ (wsX12_bake_r2 ++ (wsX12_bake_r3 ++ (wsX12_bake_r4 ++ (wsX12_bake_r5 ++ wsX12_bake_r6))))) ++ wsX120)
def wsX12_balanceOf : List Cond := .code yX12_balanceOf cX12_balanceOf 5 (some .int) :: ([.fieldLink RX12 7 "OvenDaysModel" "now" "[I", .methodLink RX12 110 yX12_firstKept, .instanceMethod yX12_firstKept, .selects RX12 yX12_firstKept yX12_firstKept, .initialized RX12, .code yX12_firstKept cX12_firstKept 1 (some .int), .methodLink RX12 113 yX12_loafOf, .instanceMethod yX12_loafOf, .selects RX12 yX12_loafOf yX12_loafOf, .code yX12_loafOf cX12_loafOf 3 (some .int), .methodLink RX12 101 yX12_loafAt, .static yX12_loafAt, .code yX12_loafAt cX12_loafAt 1 (some .int)] ++ wsX120)
def wsX12_claims : List Cond := .code yX12_claims cX12_claims 6 (some .int) :: ([.fieldLink RX12 7 "OvenDaysModel" "now" "[I", .methodLink RX12 169 yX12_balanceOf, .instanceMethod yX12_balanceOf, .selects RX12 yX12_balanceOf yX12_balanceOf, .initialized RX12, .code yX12_balanceOf cX12_balanceOf 5 (some .int), .methodLink RX12 110 yX12_firstKept, .instanceMethod yX12_firstKept, .selects RX12 yX12_firstKept yX12_firstKept, .code yX12_firstKept cX12_firstKept 1 (some .int), .methodLink RX12 113 yX12_loafOf, .instanceMethod yX12_loafOf, .selects RX12 yX12_loafOf yX12_loafOf, .code yX12_loafOf cX12_loafOf 3 (some .int), .methodLink RX12 101 yX12_loafAt, .static yX12_loafAt, .code yX12_loafAt cX12_loafAt 1 (some .int), .methodLink RX12 44 yX12_of, .instanceMethod yX12_of, .selects RX12 yX12_of yX12_of, .code yX12_of cX12_of 3 (some .int)] ++ wsX120)
def wsX12_returns : List Cond := .code yX12_returns cX12_returns 6 (some .int) :: ([.fieldLink RX12 7 "OvenDaysModel" "now" "[I", .methodLink RX12 169 yX12_balanceOf, .instanceMethod yX12_balanceOf, .selects RX12 yX12_balanceOf yX12_balanceOf, .initialized RX12, .code yX12_balanceOf cX12_balanceOf 5 (some .int), .methodLink RX12 110 yX12_firstKept, .instanceMethod yX12_firstKept, .selects RX12 yX12_firstKept yX12_firstKept, .code yX12_firstKept cX12_firstKept 1 (some .int), .methodLink RX12 113 yX12_loafOf, .instanceMethod yX12_loafOf, .selects RX12 yX12_loafOf yX12_loafOf, .code yX12_loafOf cX12_loafOf 3 (some .int), .methodLink RX12 101 yX12_loafAt, .static yX12_loafAt, .code yX12_loafAt cX12_loafAt 1 (some .int)] ++ wsX120)
def wsX12_gives : List Cond := .code yX12_gives cX12_gives 3 (some .int) :: ([.fieldLink RX12 7 "OvenDaysModel" "now" "[I", .methodLink RX12 110 yX12_firstKept, .instanceMethod yX12_firstKept, .selects RX12 yX12_firstKept yX12_firstKept, .initialized RX12, .code yX12_firstKept cX12_firstKept 1 (some .int), .methodLink RX12 113 yX12_loafOf, .instanceMethod yX12_loafOf, .selects RX12 yX12_loafOf yX12_loafOf, .code yX12_loafOf cX12_loafOf 3 (some .int), .methodLink RX12 101 yX12_loafAt, .static yX12_loafAt, .code yX12_loafAt cX12_loafAt 1 (some .int)] ++ wsX120)
def wsX12_claim_r1 : List Cond := [Cond.methodLink RX12 69 yX12_isHouse, Cond.instanceMethod yX12_isHouse, Cond.selects RX12 yX12_isHouse yX12_isHouse, Cond.initialized RX12, Cond.code yX12_isHouse cX12_isHouse 2 (some .boolean), Cond.fieldLink RX12 7 "OvenDaysModel" "now" "[I", Cond.methodLink RX12 39 yX12_in, Cond.static yX12_in, Cond.code yX12_in cX12_in 3 (some .boolean), Cond.methodLink RX12 35 yX12_refused, Cond.instanceMethod yX12_refused, Cond.selects RX12 yX12_refused yX12_refused, Cond.code yX12_refused cX12_refused 2 (some .boolean), Cond.fieldLink RX12 28 "OvenDaysModel" "refusal" "I", Cond.methodLink RX12 63 yX12_saves, Cond.instanceMethod yX12_saves, Cond.selects RX12 yX12_saves yX12_saves, Cond.code yX12_saves cX12_saves 2 none, Cond.fieldLink RX12 32 "OvenDaysModel" "saved" "I", Cond.fieldLink RX12 13 "OvenDaysModel" "past" "[I", Cond.methodLink RX12 172 yX12_claims, Cond.instanceMethod yX12_claims, Cond.selects RX12 yX12_claims yX12_claims, Cond.code yX12_claims cX12_claims 6 (some .int)]
def wsX12_claim_r2 : List Cond := [Cond.methodLink RX12 169 yX12_balanceOf, Cond.instanceMethod yX12_balanceOf, Cond.selects RX12 yX12_balanceOf yX12_balanceOf, Cond.code yX12_balanceOf cX12_balanceOf 5 (some .int), Cond.methodLink RX12 110 yX12_firstKept, Cond.instanceMethod yX12_firstKept, Cond.selects RX12 yX12_firstKept yX12_firstKept, Cond.code yX12_firstKept cX12_firstKept 1 (some .int), Cond.methodLink RX12 113 yX12_loafOf, Cond.instanceMethod yX12_loafOf, Cond.selects RX12 yX12_loafOf yX12_loafOf, Cond.code yX12_loafOf cX12_loafOf 3 (some .int), Cond.methodLink RX12 101 yX12_loafAt, Cond.static yX12_loafAt, Cond.code yX12_loafAt cX12_loafAt 1 (some .int), Cond.methodLink RX12 44 yX12_of, Cond.instanceMethod yX12_of, Cond.selects RX12 yX12_of yX12_of, Cond.code yX12_of cX12_of 3 (some .int)]
def wsX12_claim : List Cond := .code yX12_claim cX12_claim 2 (some .int) :: ((wsX12_claim_r1 ++ wsX12_claim_r2) ++ wsX120)
def wsX12_returnLoaves_r1 : List Cond := [Cond.methodLink RX12 69 yX12_isHouse, Cond.instanceMethod yX12_isHouse, Cond.selects RX12 yX12_isHouse yX12_isHouse, Cond.initialized RX12, Cond.code yX12_isHouse cX12_isHouse 2 (some .boolean), Cond.fieldLink RX12 7 "OvenDaysModel" "now" "[I", Cond.methodLink RX12 39 yX12_in, Cond.static yX12_in, Cond.code yX12_in cX12_in 3 (some .boolean), Cond.methodLink RX12 35 yX12_refused, Cond.instanceMethod yX12_refused, Cond.selects RX12 yX12_refused yX12_refused, Cond.code yX12_refused cX12_refused 2 (some .boolean), Cond.fieldLink RX12 28 "OvenDaysModel" "refusal" "I", Cond.methodLink RX12 63 yX12_saves, Cond.instanceMethod yX12_saves, Cond.selects RX12 yX12_saves yX12_saves, Cond.code yX12_saves cX12_saves 2 none, Cond.fieldLink RX12 32 "OvenDaysModel" "saved" "I", Cond.fieldLink RX12 13 "OvenDaysModel" "past" "[I", Cond.methodLink RX12 175 yX12_returns, Cond.instanceMethod yX12_returns, Cond.selects RX12 yX12_returns yX12_returns, Cond.code yX12_returns cX12_returns 6 (some .int)]
def wsX12_returnLoaves_r2 : List Cond := [Cond.methodLink RX12 169 yX12_balanceOf, Cond.instanceMethod yX12_balanceOf, Cond.selects RX12 yX12_balanceOf yX12_balanceOf, Cond.code yX12_balanceOf cX12_balanceOf 5 (some .int), Cond.methodLink RX12 110 yX12_firstKept, Cond.instanceMethod yX12_firstKept, Cond.selects RX12 yX12_firstKept yX12_firstKept, Cond.code yX12_firstKept cX12_firstKept 1 (some .int), Cond.methodLink RX12 113 yX12_loafOf, Cond.instanceMethod yX12_loafOf, Cond.selects RX12 yX12_loafOf yX12_loafOf, Cond.code yX12_loafOf cX12_loafOf 3 (some .int), Cond.methodLink RX12 101 yX12_loafAt, Cond.static yX12_loafAt, Cond.code yX12_loafAt cX12_loafAt 1 (some .int)]
def wsX12_returnLoaves : List Cond := .code yX12_returnLoaves cX12_returnLoaves 2 (some .int) :: ((wsX12_returnLoaves_r1 ++ wsX12_returnLoaves_r2) ++ wsX120)
def wsX12_giveAway : List Cond := .code yX12_giveAway cX12_giveAway 1 (some .int) :: ([.fieldLink RX12 28 "OvenDaysModel" "refusal" "I", .methodLink RX12 63 yX12_saves, .instanceMethod yX12_saves, .selects RX12 yX12_saves yX12_saves, .initialized RX12, .code yX12_saves cX12_saves 2 none, .fieldLink RX12 32 "OvenDaysModel" "saved" "I", .fieldLink RX12 13 "OvenDaysModel" "past" "[I", .fieldLink RX12 7 "OvenDaysModel" "now" "[I", .methodLink RX12 178 yX12_gives, .instanceMethod yX12_gives, .selects RX12 yX12_gives yX12_gives, .code yX12_gives cX12_gives 3 (some .int), .methodLink RX12 110 yX12_firstKept, .instanceMethod yX12_firstKept, .selects RX12 yX12_firstKept yX12_firstKept, .code yX12_firstKept cX12_firstKept 1 (some .int), .methodLink RX12 113 yX12_loafOf, .instanceMethod yX12_loafOf, .selects RX12 yX12_loafOf yX12_loafOf, .code yX12_loafOf cX12_loafOf 3 (some .int), .methodLink RX12 101 yX12_loafAt, .static yX12_loafAt, .code yX12_loafAt cX12_loafAt 1 (some .int)] ++ wsX120)
def wsX12_kept : List Cond := .code yX12_kept cX12_kept 6 (some .int) :: ([.fieldLink RX12 7 "OvenDaysModel" "now" "[I", .methodLink RX12 110 yX12_firstKept, .instanceMethod yX12_firstKept, .selects RX12 yX12_firstKept yX12_firstKept, .initialized RX12, .code yX12_firstKept cX12_firstKept 1 (some .int), .methodLink RX12 113 yX12_loafOf, .instanceMethod yX12_loafOf, .selects RX12 yX12_loafOf yX12_loafOf, .code yX12_loafOf cX12_loafOf 3 (some .int), .methodLink RX12 101 yX12_loafAt, .static yX12_loafAt, .code yX12_loafAt cX12_loafAt 1 (some .int)] ++ wsX120)
def wsX12_tellHouse : List Cond := .code yX12_tellHouse cX12_tellHouse 5 (some .int) :: ([.fieldLink RX12 7 "OvenDaysModel" "now" "[I", .methodLink RX12 181 yX12_kept, .instanceMethod yX12_kept, .selects RX12 yX12_kept yX12_kept, .initialized RX12, .code yX12_kept cX12_kept 6 (some .int), .methodLink RX12 110 yX12_firstKept, .instanceMethod yX12_firstKept, .selects RX12 yX12_firstKept yX12_firstKept, .code yX12_firstKept cX12_firstKept 1 (some .int), .methodLink RX12 113 yX12_loafOf, .instanceMethod yX12_loafOf, .selects RX12 yX12_loafOf yX12_loafOf, .code yX12_loafOf cX12_loafOf 3 (some .int), .methodLink RX12 101 yX12_loafAt, .static yX12_loafAt, .code yX12_loafAt cX12_loafAt 1 (some .int), .methodLink RX12 44 yX12_of, .instanceMethod yX12_of, .selects RX12 yX12_of yX12_of, .code yX12_of cX12_of 3 (some .int)] ++ wsX120)
def wsX12_household_r1 : List Cond := [Cond.methodLink RX12 69 yX12_isHouse, Cond.instanceMethod yX12_isHouse, Cond.selects RX12 yX12_isHouse yX12_isHouse, Cond.initialized RX12, Cond.code yX12_isHouse cX12_isHouse 2 (some .boolean), Cond.fieldLink RX12 7 "OvenDaysModel" "now" "[I", Cond.methodLink RX12 39 yX12_in, Cond.static yX12_in, Cond.code yX12_in cX12_in 3 (some .boolean), Cond.methodLink RX12 35 yX12_refused, Cond.instanceMethod yX12_refused, Cond.selects RX12 yX12_refused yX12_refused, Cond.code yX12_refused cX12_refused 2 (some .boolean), Cond.fieldLink RX12 28 "OvenDaysModel" "refusal" "I", Cond.methodLink RX12 185 yX12_tellHouse, Cond.instanceMethod yX12_tellHouse, Cond.selects RX12 yX12_tellHouse yX12_tellHouse, Cond.code yX12_tellHouse cX12_tellHouse 5 (some .int), Cond.methodLink RX12 181 yX12_kept, Cond.instanceMethod yX12_kept, Cond.selects RX12 yX12_kept yX12_kept, Cond.code yX12_kept cX12_kept 6 (some .int), Cond.methodLink RX12 110 yX12_firstKept, Cond.instanceMethod yX12_firstKept]
def wsX12_household_r2 : List Cond := [Cond.selects RX12 yX12_firstKept yX12_firstKept, Cond.code yX12_firstKept cX12_firstKept 1 (some .int), Cond.methodLink RX12 113 yX12_loafOf, Cond.instanceMethod yX12_loafOf, Cond.selects RX12 yX12_loafOf yX12_loafOf, Cond.code yX12_loafOf cX12_loafOf 3 (some .int), Cond.methodLink RX12 101 yX12_loafAt, Cond.static yX12_loafAt, Cond.code yX12_loafAt cX12_loafAt 1 (some .int), Cond.methodLink RX12 44 yX12_of, Cond.instanceMethod yX12_of, Cond.selects RX12 yX12_of yX12_of, Cond.code yX12_of cX12_of 3 (some .int)]
def wsX12_household : List Cond := .code yX12_household cX12_household 3 (some .int) :: ((wsX12_household_r1 ++ wsX12_household_r2) ++ wsX120)
def wsX12_due_r1 : List Cond := [Cond.methodLink RX12 69 yX12_isHouse, Cond.instanceMethod yX12_isHouse, Cond.selects RX12 yX12_isHouse yX12_isHouse, Cond.initialized RX12, Cond.code yX12_isHouse cX12_isHouse 2 (some .boolean), Cond.fieldLink RX12 7 "OvenDaysModel" "now" "[I", Cond.methodLink RX12 39 yX12_in, Cond.static yX12_in, Cond.code yX12_in cX12_in 3 (some .boolean), Cond.methodLink RX12 35 yX12_refused, Cond.instanceMethod yX12_refused, Cond.selects RX12 yX12_refused yX12_refused, Cond.code yX12_refused cX12_refused 2 (some .boolean), Cond.fieldLink RX12 28 "OvenDaysModel" "refusal" "I", Cond.methodLink RX12 79 yX12_dueOf, Cond.instanceMethod yX12_dueOf, Cond.selects RX12 yX12_dueOf yX12_dueOf, Cond.code yX12_dueOf cX12_dueOf 2 (some .long), Cond.methodLink RX12 76 yX12_sum, Cond.instanceMethod yX12_sum, Cond.selects RX12 yX12_sum yX12_sum, Cond.code yX12_sum cX12_sum 4 (some .int), Cond.methodLink RX12 44 yX12_of, Cond.instanceMethod yX12_of]
def wsX12_due_r2 : List Cond := [Cond.selects RX12 yX12_of yX12_of, Cond.code yX12_of cX12_of 3 (some .int)]
def wsX12_due : List Cond := .code yX12_due cX12_due 2 (some .long) :: ((wsX12_due_r1 ++ wsX12_due_r2) ++ wsX120)
def wsX12_nextForWood : List Cond := .code yX12_nextForWood cX12_nextForWood 1 (some .int) :: ([.fieldLink RX12 28 "OvenDaysModel" "refusal" "I", .methodLink RX12 147 yX12_next, .instanceMethod yX12_next, .selects RX12 yX12_next yX12_next, .initialized RX12, .code yX12_next cX12_next 4 (some .int), .fieldLink RX12 7 "OvenDaysModel" "now" "[I", .methodLink RX12 72 yX12_excused, .instanceMethod yX12_excused, .selects RX12 yX12_excused yX12_excused, .code yX12_excused cX12_excused 3 (some .int), .methodLink RX12 44 yX12_of, .instanceMethod yX12_of, .selects RX12 yX12_of yX12_of, .code yX12_of cX12_of 3 (some .int), .methodLink RX12 79 yX12_dueOf, .instanceMethod yX12_dueOf, .selects RX12 yX12_dueOf yX12_dueOf, .code yX12_dueOf cX12_dueOf 2 (some .long), .methodLink RX12 76 yX12_sum, .instanceMethod yX12_sum, .selects RX12 yX12_sum yX12_sum, .code yX12_sum cX12_sum 4 (some .int)] ++ wsX120)
def wsX12_balance_r1 : List Cond := [Cond.methodLink RX12 69 yX12_isHouse, Cond.instanceMethod yX12_isHouse, Cond.selects RX12 yX12_isHouse yX12_isHouse, Cond.initialized RX12, Cond.code yX12_isHouse cX12_isHouse 2 (some .boolean), Cond.fieldLink RX12 7 "OvenDaysModel" "now" "[I", Cond.methodLink RX12 39 yX12_in, Cond.static yX12_in, Cond.code yX12_in cX12_in 3 (some .boolean), Cond.methodLink RX12 35 yX12_refused, Cond.instanceMethod yX12_refused, Cond.selects RX12 yX12_refused yX12_refused, Cond.code yX12_refused cX12_refused 2 (some .boolean), Cond.fieldLink RX12 28 "OvenDaysModel" "refusal" "I", Cond.methodLink RX12 169 yX12_balanceOf, Cond.instanceMethod yX12_balanceOf, Cond.selects RX12 yX12_balanceOf yX12_balanceOf, Cond.code yX12_balanceOf cX12_balanceOf 5 (some .int), Cond.methodLink RX12 110 yX12_firstKept, Cond.instanceMethod yX12_firstKept, Cond.selects RX12 yX12_firstKept yX12_firstKept, Cond.code yX12_firstKept cX12_firstKept 1 (some .int), Cond.methodLink RX12 113 yX12_loafOf, Cond.instanceMethod yX12_loafOf]
def wsX12_balance_r2 : List Cond := [Cond.selects RX12 yX12_loafOf yX12_loafOf, Cond.code yX12_loafOf cX12_loafOf 3 (some .int), Cond.methodLink RX12 101 yX12_loafAt, Cond.static yX12_loafAt, Cond.code yX12_loafAt cX12_loafAt 1 (some .int)]
def wsX12_balance : List Cond := .code yX12_balance cX12_balance 3 (some .int) :: ((wsX12_balance_r1 ++ wsX12_balance_r2) ++ wsX120)
def wsX12_behind : List Cond := .code yX12_behind cX12_behind 2 (some .int) :: ([.fieldLink RX12 7 "OvenDaysModel" "now" "[I", .methodLink RX12 147 yX12_next, .instanceMethod yX12_next, .selects RX12 yX12_next yX12_next, .initialized RX12, .code yX12_next cX12_next 4 (some .int), .methodLink RX12 72 yX12_excused, .instanceMethod yX12_excused, .selects RX12 yX12_excused yX12_excused, .code yX12_excused cX12_excused 3 (some .int), .methodLink RX12 44 yX12_of, .instanceMethod yX12_of, .selects RX12 yX12_of yX12_of, .code yX12_of cX12_of 3 (some .int), .methodLink RX12 79 yX12_dueOf, .instanceMethod yX12_dueOf, .selects RX12 yX12_dueOf yX12_dueOf, .code yX12_dueOf cX12_dueOf 2 (some .long), .methodLink RX12 76 yX12_sum, .instanceMethod yX12_sum, .selects RX12 yX12_sum yX12_sum, .code yX12_sum cX12_sum 4 (some .int)] ++ wsX120)
def wsX12_placeOf_r1 : List Cond := [Cond.fieldLink RX12 7 "OvenDaysModel" "now" "[I", Cond.methodLink RX12 188 yX12_behind, Cond.instanceMethod yX12_behind, Cond.selects RX12 yX12_behind yX12_behind, Cond.initialized RX12, Cond.code yX12_behind cX12_behind 2 (some .int), Cond.methodLink RX12 147 yX12_next, Cond.instanceMethod yX12_next, Cond.selects RX12 yX12_next yX12_next, Cond.code yX12_next cX12_next 4 (some .int), Cond.methodLink RX12 72 yX12_excused, Cond.instanceMethod yX12_excused, Cond.selects RX12 yX12_excused yX12_excused, Cond.code yX12_excused cX12_excused 3 (some .int), Cond.methodLink RX12 44 yX12_of, Cond.instanceMethod yX12_of, Cond.selects RX12 yX12_of yX12_of, Cond.code yX12_of cX12_of 3 (some .int), Cond.methodLink RX12 79 yX12_dueOf, Cond.instanceMethod yX12_dueOf, Cond.selects RX12 yX12_dueOf yX12_dueOf, Cond.code yX12_dueOf cX12_dueOf 2 (some .long), Cond.methodLink RX12 76 yX12_sum, Cond.instanceMethod yX12_sum]
def wsX12_placeOf_r2 : List Cond := [Cond.selects RX12 yX12_sum yX12_sum, Cond.code yX12_sum cX12_sum 4 (some .int)]
def wsX12_placeOf : List Cond := .code yX12_placeOf cX12_placeOf 6 (some .int) :: ((wsX12_placeOf_r1 ++ wsX12_placeOf_r2) ++ wsX120)
def wsX12_batch_r1 : List Cond := [Cond.fieldLink RX12 7 "OvenDaysModel" "now" "[I", Cond.methodLink RX12 39 yX12_in, Cond.static yX12_in, Cond.initialized RX12, Cond.code yX12_in cX12_in 3 (some .boolean), Cond.methodLink RX12 35 yX12_refused, Cond.instanceMethod yX12_refused, Cond.selects RX12 yX12_refused yX12_refused, Cond.code yX12_refused cX12_refused 2 (some .boolean), Cond.fieldLink RX12 28 "OvenDaysModel" "refusal" "I", Cond.methodLink RX12 191 yX12_placeOf, Cond.instanceMethod yX12_placeOf, Cond.selects RX12 yX12_placeOf yX12_placeOf, Cond.code yX12_placeOf cX12_placeOf 6 (some .int), Cond.methodLink RX12 188 yX12_behind, Cond.instanceMethod yX12_behind, Cond.selects RX12 yX12_behind yX12_behind, Cond.code yX12_behind cX12_behind 2 (some .int), Cond.methodLink RX12 147 yX12_next, Cond.instanceMethod yX12_next, Cond.selects RX12 yX12_next yX12_next, Cond.code yX12_next cX12_next 4 (some .int), Cond.methodLink RX12 72 yX12_excused, Cond.instanceMethod yX12_excused]
def wsX12_batch_r2 : List Cond := [Cond.selects RX12 yX12_excused yX12_excused, Cond.code yX12_excused cX12_excused 3 (some .int), Cond.methodLink RX12 44 yX12_of, Cond.instanceMethod yX12_of, Cond.selects RX12 yX12_of yX12_of, Cond.code yX12_of cX12_of 3 (some .int), Cond.methodLink RX12 79 yX12_dueOf, Cond.instanceMethod yX12_dueOf, Cond.selects RX12 yX12_dueOf yX12_dueOf, Cond.code yX12_dueOf cX12_dueOf 2 (some .long), Cond.methodLink RX12 76 yX12_sum, Cond.instanceMethod yX12_sum, Cond.selects RX12 yX12_sum yX12_sum, Cond.code yX12_sum cX12_sum 4 (some .int)]
def wsX12_batch : List Cond := .code yX12_batch cX12_batch 3 (some .int) :: ((wsX12_batch_r1 ++ wsX12_batch_r2) ++ wsX120)
def wsX12_loaf : List Cond := .code yX12_loaf cX12_loaf 3 (some .int) :: ([.fieldLink RX12 7 "OvenDaysModel" "now" "[I", .methodLink RX12 110 yX12_firstKept, .instanceMethod yX12_firstKept, .selects RX12 yX12_firstKept yX12_firstKept, .initialized RX12, .code yX12_firstKept cX12_firstKept 1 (some .int), .methodLink RX12 39 yX12_in, .static yX12_in, .code yX12_in cX12_in 3 (some .boolean), .methodLink RX12 35 yX12_refused, .instanceMethod yX12_refused, .selects RX12 yX12_refused yX12_refused, .code yX12_refused cX12_refused 2 (some .boolean), .fieldLink RX12 28 "OvenDaysModel" "refusal" "I", .methodLink RX12 113 yX12_loafOf, .instanceMethod yX12_loafOf, .selects RX12 yX12_loafOf yX12_loafOf, .code yX12_loafOf cX12_loafOf 3 (some .int), .methodLink RX12 101 yX12_loafAt, .static yX12_loafAt, .code yX12_loafAt cX12_loafAt 1 (some .int)] ++ wsX120)
def wsX12_load : List Cond := .code yX12_load cX12_load 3 (some .int) :: ([.fieldLink RX12 7 "OvenDaysModel" "now" "[I", .methodLink RX12 39 yX12_in, .static yX12_in, .initialized RX12, .code yX12_in cX12_in 3 (some .boolean), .methodLink RX12 35 yX12_refused, .instanceMethod yX12_refused, .selects RX12 yX12_refused yX12_refused, .code yX12_refused cX12_refused 2 (some .boolean), .fieldLink RX12 28 "OvenDaysModel" "refusal" "I"] ++ wsX120)
def wsX12_keptWith : List Cond := .code yX12_keptWith cX12_keptWith 5 (some .int) :: ([.fieldLink RX12 7 "OvenDaysModel" "now" "[I", .methodLink RX12 110 yX12_firstKept, .instanceMethod yX12_firstKept, .selects RX12 yX12_firstKept yX12_firstKept, .initialized RX12, .code yX12_firstKept cX12_firstKept 1 (some .int), .methodLink RX12 113 yX12_loafOf, .instanceMethod yX12_loafOf, .selects RX12 yX12_loafOf yX12_loafOf, .code yX12_loafOf cX12_loafOf 3 (some .int), .methodLink RX12 101 yX12_loafAt, .static yX12_loafAt, .code yX12_loafAt cX12_loafAt 1 (some .int), .methodLink RX12 39 yX12_in, .static yX12_in, .code yX12_in cX12_in 3 (some .boolean)] ++ wsX120)
def wsX12_tellWhole_r1 : List Cond := [Cond.fieldLink RX12 7 "OvenDaysModel" "now" "[I", Cond.methodLink RX12 76 yX12_sum, Cond.instanceMethod yX12_sum, Cond.selects RX12 yX12_sum yX12_sum, Cond.initialized RX12, Cond.code yX12_sum cX12_sum 4 (some .int), Cond.methodLink RX12 44 yX12_of, Cond.instanceMethod yX12_of, Cond.selects RX12 yX12_of yX12_of, Cond.code yX12_of cX12_of 3 (some .int), Cond.methodLink RX12 110 yX12_firstKept, Cond.instanceMethod yX12_firstKept, Cond.selects RX12 yX12_firstKept yX12_firstKept, Cond.code yX12_firstKept cX12_firstKept 1 (some .int), Cond.methodLink RX12 194 yX12_keptWith, Cond.instanceMethod yX12_keptWith, Cond.selects RX12 yX12_keptWith yX12_keptWith, Cond.code yX12_keptWith cX12_keptWith 5 (some .int), Cond.methodLink RX12 113 yX12_loafOf, Cond.instanceMethod yX12_loafOf, Cond.selects RX12 yX12_loafOf yX12_loafOf, Cond.code yX12_loafOf cX12_loafOf 3 (some .int), Cond.methodLink RX12 101 yX12_loafAt, Cond.static yX12_loafAt]
def wsX12_tellWhole_r2 : List Cond := [Cond.code yX12_loafAt cX12_loafAt 1 (some .int), Cond.methodLink RX12 39 yX12_in, Cond.static yX12_in, Cond.code yX12_in cX12_in 3 (some .boolean)]
def wsX12_tellWhole : List Cond := .code yX12_tellWhole cX12_tellWhole 2 (some .int) :: ((wsX12_tellWhole_r1 ++ wsX12_tellWhole_r2) ++ wsX120)
def wsX12_whole_r1 : List Cond := [Cond.methodLink RX12 39 yX12_in, Cond.static yX12_in, Cond.initialized RX12, Cond.code yX12_in cX12_in 3 (some .boolean), Cond.methodLink RX12 35 yX12_refused, Cond.instanceMethod yX12_refused, Cond.selects RX12 yX12_refused yX12_refused, Cond.code yX12_refused cX12_refused 2 (some .boolean), Cond.fieldLink RX12 28 "OvenDaysModel" "refusal" "I", Cond.methodLink RX12 198 yX12_tellWhole, Cond.instanceMethod yX12_tellWhole, Cond.selects RX12 yX12_tellWhole yX12_tellWhole, Cond.code yX12_tellWhole cX12_tellWhole 2 (some .int), Cond.fieldLink RX12 7 "OvenDaysModel" "now" "[I", Cond.methodLink RX12 76 yX12_sum, Cond.instanceMethod yX12_sum, Cond.selects RX12 yX12_sum yX12_sum, Cond.code yX12_sum cX12_sum 4 (some .int), Cond.methodLink RX12 44 yX12_of, Cond.instanceMethod yX12_of, Cond.selects RX12 yX12_of yX12_of, Cond.code yX12_of cX12_of 3 (some .int), Cond.methodLink RX12 110 yX12_firstKept, Cond.instanceMethod yX12_firstKept]
def wsX12_whole_r2 : List Cond := [Cond.selects RX12 yX12_firstKept yX12_firstKept, Cond.code yX12_firstKept cX12_firstKept 1 (some .int), Cond.methodLink RX12 194 yX12_keptWith, Cond.instanceMethod yX12_keptWith, Cond.selects RX12 yX12_keptWith yX12_keptWith, Cond.code yX12_keptWith cX12_keptWith 5 (some .int), Cond.methodLink RX12 113 yX12_loafOf, Cond.instanceMethod yX12_loafOf, Cond.selects RX12 yX12_loafOf yX12_loafOf, Cond.code yX12_loafOf cX12_loafOf 3 (some .int), Cond.methodLink RX12 101 yX12_loafAt, Cond.static yX12_loafAt, Cond.code yX12_loafAt cX12_loafAt 1 (some .int)]
def wsX12_whole : List Cond := .code yX12_whole cX12_whole 2 (some .int) :: ((wsX12_whole_r1 ++ wsX12_whole_r2) ++ wsX120)
def wsX12_doughOf_r1 : List Cond := [Cond.fieldLink RX12 7 "OvenDaysModel" "now" "[I", Cond.methodLink RX12 201 yX12_keeps, Cond.instanceMethod yX12_keeps, Cond.selects RX12 yX12_keeps yX12_keeps, Cond.initialized RX12, Cond.code yX12_keeps cX12_keeps 2 none, Cond.fieldLink RX12 16 "OvenDaysModel" "aside" "[I", Cond.methodLink RX12 166 yX12_dayWith, Cond.instanceMethod yX12_dayWith, Cond.selects RX12 yX12_dayWith yX12_dayWith, Cond.code yX12_dayWith cX12_dayWith 6 (some .int), Cond.fieldLink RX12 134 "OvenDaysModel" "baked" "I", Cond.methodLink RX12 147 yX12_next, Cond.instanceMethod yX12_next, Cond.selects RX12 yX12_next yX12_next, Cond.code yX12_next cX12_next 4 (some .int), Cond.methodLink RX12 72 yX12_excused, Cond.instanceMethod yX12_excused, Cond.selects RX12 yX12_excused yX12_excused, Cond.code yX12_excused cX12_excused 3 (some .int), Cond.methodLink RX12 44 yX12_of, Cond.instanceMethod yX12_of, Cond.selects RX12 yX12_of yX12_of, Cond.code yX12_of cX12_of 3 (some .int)]
def wsX12_doughOf_r2 : List Cond := [Cond.methodLink RX12 79 yX12_dueOf, Cond.instanceMethod yX12_dueOf, Cond.selects RX12 yX12_dueOf yX12_dueOf, Cond.code yX12_dueOf cX12_dueOf 2 (some .long), Cond.methodLink RX12 76 yX12_sum, Cond.instanceMethod yX12_sum, Cond.selects RX12 yX12_sum yX12_sum, Cond.code yX12_sum cX12_sum 4 (some .int), Cond.methodLink RX12 55 yX12_lays, Cond.instanceMethod yX12_lays, Cond.selects RX12 yX12_lays yX12_lays, Cond.code yX12_lays cX12_lays 4 none, Cond.methodLink RX12 150 yX12_kindNow, Cond.instanceMethod yX12_kindNow, Cond.selects RX12 yX12_kindNow yX12_kindNow, Cond.code yX12_kindNow cX12_kindNow 4 (some .int), Cond.methodLink RX12 141 yX12_waits, Cond.instanceMethod yX12_waits, Cond.selects RX12 yX12_waits yX12_waits, Cond.code yX12_waits cX12_waits 4 (some .boolean), Cond.methodLink RX12 131 yX12_lowest, Cond.static yX12_lowest, Cond.code yX12_lowest cX12_lowest 1 (some .int), Cond.methodLink RX12 144 yX12_highest]
def wsX12_doughOf_r3 : List Cond := [Cond.static yX12_highest, Cond.code yX12_highest cX12_highest 1 (some .int), Cond.methodLink RX12 39 yX12_in, Cond.static yX12_in, Cond.code yX12_in cX12_in 3 (some .boolean), Cond.methodLink RX12 128 yX12_falls, Cond.instanceMethod yX12_falls, Cond.selects RX12 yX12_falls yX12_falls, Cond.code yX12_falls cX12_falls 2 none, Cond.methodLink RX12 153 yX12_bakes, Cond.instanceMethod yX12_bakes, Cond.selects RX12 yX12_bakes yX12_bakes, Cond.code yX12_bakes cX12_bakes 10 none, Cond.fieldLink RX12 119 "OvenDaysModel" "inMany" "I", Cond.fieldLink RX12 22 "OvenDaysModel" "inOven" "[I", Cond.methodLink RX12 122 yX12_fills, Cond.instanceMethod yX12_fills, Cond.selects RX12 yX12_fills yX12_fills, Cond.code yX12_fills cX12_fills 9 (some .int), Cond.methodLink RX12 90 yX12_dropsBatch, Cond.instanceMethod yX12_dropsBatch, Cond.selects RX12 yX12_dropsBatch yX12_dropsBatch, Cond.code yX12_dropsBatch cX12_dropsBatch 3 none, Cond.methodLink RX12 125 yX12_ticksOf]
def wsX12_doughOf_r4 : List Cond := [Cond.static yX12_ticksOf, Cond.code yX12_ticksOf cX12_ticksOf 1 (some .int), Cond.methodLink RX12 137 yX12_comesOut, Cond.instanceMethod yX12_comesOut, Cond.selects RX12 yX12_comesOut yX12_comesOut, Cond.code yX12_comesOut cX12_comesOut 8 none, Cond.methodLink RX12 101 yX12_loafAt, Cond.static yX12_loafAt, Cond.code yX12_loafAt cX12_loafAt 1 (some .int), Cond.methodLink RX12 104 yX12_draw, Cond.instanceMethod yX12_draw, Cond.selects RX12 yX12_draw yX12_draw, Cond.code yX12_draw cX12_draw 2 (some .int), Cond.constantLong RX12 94 (1103515245), Cond.constantLong RX12 96 (12345), Cond.constantLong RX12 98 (2147483648), Cond.constant RX12 100 (65536), Cond.methodLink RX12 107 yX12_bits, Cond.static yX12_bits, Cond.code yX12_bits cX12_bits 3 (some .int), Cond.methodLink RX12 157 yX12_sorts, Cond.instanceMethod yX12_sorts, Cond.selects RX12 yX12_sorts yX12_sorts, Cond.code yX12_sorts cX12_sorts 4 none]
def wsX12_doughOf_r5 : List Cond := [Cond.methodLink RX12 110 yX12_firstKept, Cond.instanceMethod yX12_firstKept, Cond.selects RX12 yX12_firstKept yX12_firstKept, Cond.code yX12_firstKept cX12_firstKept 1 (some .int), Cond.methodLink RX12 113 yX12_loafOf, Cond.instanceMethod yX12_loafOf, Cond.selects RX12 yX12_loafOf yX12_loafOf, Cond.code yX12_loafOf cX12_loafOf 3 (some .int), Cond.methodLink RX12 116 yX12_meant, Cond.instanceMethod yX12_meant, Cond.selects RX12 yX12_meant yX12_meant, Cond.code yX12_meant cX12_meant 9 (some .int), Cond.methodLink RX12 204 yX12_takesBack, Cond.instanceMethod yX12_takesBack, Cond.selects RX12 yX12_takesBack yX12_takesBack, Cond.code yX12_takesBack cX12_takesBack 2 none]
def wsX12_doughOf : List Cond := .code yX12_doughOf cX12_doughOf 4 (some .int) :: ((wsX12_doughOf_r1 ++ (wsX12_doughOf_r2 ++ (wsX12_doughOf_r3 ++ (wsX12_doughOf_r4 ++ wsX12_doughOf_r5)))) ++ wsX120)
def wsX12_doughWith_r1 : List Cond := [Cond.methodLink RX12 160 yX12_isWood, Cond.static yX12_isWood, Cond.initialized RX12, Cond.code yX12_isWood cX12_isWood 1 (some .boolean), Cond.methodLink RX12 39 yX12_in, Cond.static yX12_in, Cond.code yX12_in cX12_in 3 (some .boolean), Cond.methodLink RX12 35 yX12_refused, Cond.instanceMethod yX12_refused, Cond.selects RX12 yX12_refused yX12_refused, Cond.code yX12_refused cX12_refused 2 (some .boolean), Cond.fieldLink RX12 28 "OvenDaysModel" "refusal" "I", Cond.methodLink RX12 207 yX12_doughOf, Cond.instanceMethod yX12_doughOf, Cond.selects RX12 yX12_doughOf yX12_doughOf, Cond.code yX12_doughOf cX12_doughOf 4 (some .int), Cond.fieldLink RX12 7 "OvenDaysModel" "now" "[I", Cond.methodLink RX12 201 yX12_keeps, Cond.instanceMethod yX12_keeps, Cond.selects RX12 yX12_keeps yX12_keeps, Cond.code yX12_keeps cX12_keeps 2 none, Cond.fieldLink RX12 16 "OvenDaysModel" "aside" "[I", Cond.methodLink RX12 166 yX12_dayWith, Cond.instanceMethod yX12_dayWith]
def wsX12_doughWith_r2 : List Cond := [Cond.selects RX12 yX12_dayWith yX12_dayWith, Cond.code yX12_dayWith cX12_dayWith 6 (some .int), Cond.fieldLink RX12 134 "OvenDaysModel" "baked" "I", Cond.methodLink RX12 147 yX12_next, Cond.instanceMethod yX12_next, Cond.selects RX12 yX12_next yX12_next, Cond.code yX12_next cX12_next 4 (some .int), Cond.methodLink RX12 72 yX12_excused, Cond.instanceMethod yX12_excused, Cond.selects RX12 yX12_excused yX12_excused, Cond.code yX12_excused cX12_excused 3 (some .int), Cond.methodLink RX12 44 yX12_of, Cond.instanceMethod yX12_of, Cond.selects RX12 yX12_of yX12_of, Cond.code yX12_of cX12_of 3 (some .int), Cond.methodLink RX12 79 yX12_dueOf, Cond.instanceMethod yX12_dueOf, Cond.selects RX12 yX12_dueOf yX12_dueOf, Cond.code yX12_dueOf cX12_dueOf 2 (some .long), Cond.methodLink RX12 76 yX12_sum, Cond.instanceMethod yX12_sum, Cond.selects RX12 yX12_sum yX12_sum, Cond.code yX12_sum cX12_sum 4 (some .int), Cond.methodLink RX12 55 yX12_lays]
def wsX12_doughWith_r3 : List Cond := [Cond.instanceMethod yX12_lays, Cond.selects RX12 yX12_lays yX12_lays, Cond.code yX12_lays cX12_lays 4 none, Cond.methodLink RX12 150 yX12_kindNow, Cond.instanceMethod yX12_kindNow, Cond.selects RX12 yX12_kindNow yX12_kindNow, Cond.code yX12_kindNow cX12_kindNow 4 (some .int), Cond.methodLink RX12 141 yX12_waits, Cond.instanceMethod yX12_waits, Cond.selects RX12 yX12_waits yX12_waits, Cond.code yX12_waits cX12_waits 4 (some .boolean), Cond.methodLink RX12 131 yX12_lowest, Cond.static yX12_lowest, Cond.code yX12_lowest cX12_lowest 1 (some .int), Cond.methodLink RX12 144 yX12_highest, Cond.static yX12_highest, Cond.code yX12_highest cX12_highest 1 (some .int), Cond.methodLink RX12 128 yX12_falls, Cond.instanceMethod yX12_falls, Cond.selects RX12 yX12_falls yX12_falls, Cond.code yX12_falls cX12_falls 2 none, Cond.methodLink RX12 153 yX12_bakes, Cond.instanceMethod yX12_bakes, Cond.selects RX12 yX12_bakes yX12_bakes]
def wsX12_doughWith_r4 : List Cond := [Cond.code yX12_bakes cX12_bakes 10 none, Cond.fieldLink RX12 119 "OvenDaysModel" "inMany" "I", Cond.fieldLink RX12 22 "OvenDaysModel" "inOven" "[I", Cond.methodLink RX12 122 yX12_fills, Cond.instanceMethod yX12_fills, Cond.selects RX12 yX12_fills yX12_fills, Cond.code yX12_fills cX12_fills 9 (some .int), Cond.methodLink RX12 90 yX12_dropsBatch, Cond.instanceMethod yX12_dropsBatch, Cond.selects RX12 yX12_dropsBatch yX12_dropsBatch, Cond.code yX12_dropsBatch cX12_dropsBatch 3 none, Cond.methodLink RX12 125 yX12_ticksOf, Cond.static yX12_ticksOf, Cond.code yX12_ticksOf cX12_ticksOf 1 (some .int), Cond.methodLink RX12 137 yX12_comesOut, Cond.instanceMethod yX12_comesOut, Cond.selects RX12 yX12_comesOut yX12_comesOut, Cond.code yX12_comesOut cX12_comesOut 8 none, Cond.methodLink RX12 101 yX12_loafAt, Cond.static yX12_loafAt, Cond.code yX12_loafAt cX12_loafAt 1 (some .int), Cond.methodLink RX12 104 yX12_draw, Cond.instanceMethod yX12_draw, Cond.selects RX12 yX12_draw yX12_draw]
def wsX12_doughWith_r5 : List Cond := [Cond.code yX12_draw cX12_draw 2 (some .int), Cond.constantLong RX12 94 (1103515245), Cond.constantLong RX12 96 (12345), Cond.constantLong RX12 98 (2147483648), Cond.constant RX12 100 (65536), Cond.methodLink RX12 107 yX12_bits, Cond.static yX12_bits, Cond.code yX12_bits cX12_bits 3 (some .int), Cond.methodLink RX12 157 yX12_sorts, Cond.instanceMethod yX12_sorts, Cond.selects RX12 yX12_sorts yX12_sorts, Cond.code yX12_sorts cX12_sorts 4 none, Cond.methodLink RX12 110 yX12_firstKept, Cond.instanceMethod yX12_firstKept, Cond.selects RX12 yX12_firstKept yX12_firstKept, Cond.code yX12_firstKept cX12_firstKept 1 (some .int), Cond.methodLink RX12 113 yX12_loafOf, Cond.instanceMethod yX12_loafOf, Cond.selects RX12 yX12_loafOf yX12_loafOf, Cond.code yX12_loafOf cX12_loafOf 3 (some .int), Cond.methodLink RX12 116 yX12_meant, Cond.instanceMethod yX12_meant, Cond.selects RX12 yX12_meant yX12_meant, Cond.code yX12_meant cX12_meant 9 (some .int)]
def wsX12_doughWith_r6 : List Cond := [Cond.methodLink RX12 204 yX12_takesBack, Cond.instanceMethod yX12_takesBack, Cond.selects RX12 yX12_takesBack yX12_takesBack, Cond.code yX12_takesBack cX12_takesBack 2 none]
def wsX12_doughWith : List Cond := .code yX12_doughWith cX12_doughWith 2 (some .int) :: ((wsX12_doughWith_r1 ++ (wsX12_doughWith_r2 ++ (wsX12_doughWith_r3 ++ (wsX12_doughWith_r4 ++ (wsX12_doughWith_r5 ++ wsX12_doughWith_r6))))) ++ wsX120)
def wsX12_bestWood_r1 : List Cond := [Cond.fieldLink RX12 28 "OvenDaysModel" "refusal" "I", Cond.fieldLink RX12 7 "OvenDaysModel" "now" "[I", Cond.methodLink RX12 207 yX12_doughOf, Cond.instanceMethod yX12_doughOf, Cond.selects RX12 yX12_doughOf yX12_doughOf, Cond.initialized RX12, Cond.code yX12_doughOf cX12_doughOf 4 (some .int), Cond.methodLink RX12 201 yX12_keeps, Cond.instanceMethod yX12_keeps, Cond.selects RX12 yX12_keeps yX12_keeps, Cond.code yX12_keeps cX12_keeps 2 none, Cond.fieldLink RX12 16 "OvenDaysModel" "aside" "[I", Cond.methodLink RX12 166 yX12_dayWith, Cond.instanceMethod yX12_dayWith, Cond.selects RX12 yX12_dayWith yX12_dayWith, Cond.code yX12_dayWith cX12_dayWith 6 (some .int), Cond.fieldLink RX12 134 "OvenDaysModel" "baked" "I", Cond.methodLink RX12 147 yX12_next, Cond.instanceMethod yX12_next, Cond.selects RX12 yX12_next yX12_next, Cond.code yX12_next cX12_next 4 (some .int), Cond.methodLink RX12 72 yX12_excused, Cond.instanceMethod yX12_excused, Cond.selects RX12 yX12_excused yX12_excused]
def wsX12_bestWood_r2 : List Cond := [Cond.code yX12_excused cX12_excused 3 (some .int), Cond.methodLink RX12 44 yX12_of, Cond.instanceMethod yX12_of, Cond.selects RX12 yX12_of yX12_of, Cond.code yX12_of cX12_of 3 (some .int), Cond.methodLink RX12 79 yX12_dueOf, Cond.instanceMethod yX12_dueOf, Cond.selects RX12 yX12_dueOf yX12_dueOf, Cond.code yX12_dueOf cX12_dueOf 2 (some .long), Cond.methodLink RX12 76 yX12_sum, Cond.instanceMethod yX12_sum, Cond.selects RX12 yX12_sum yX12_sum, Cond.code yX12_sum cX12_sum 4 (some .int), Cond.methodLink RX12 55 yX12_lays, Cond.instanceMethod yX12_lays, Cond.selects RX12 yX12_lays yX12_lays, Cond.code yX12_lays cX12_lays 4 none, Cond.methodLink RX12 150 yX12_kindNow, Cond.instanceMethod yX12_kindNow, Cond.selects RX12 yX12_kindNow yX12_kindNow, Cond.code yX12_kindNow cX12_kindNow 4 (some .int), Cond.methodLink RX12 141 yX12_waits, Cond.instanceMethod yX12_waits, Cond.selects RX12 yX12_waits yX12_waits]
def wsX12_bestWood_r3 : List Cond := [Cond.code yX12_waits cX12_waits 4 (some .boolean), Cond.methodLink RX12 131 yX12_lowest, Cond.static yX12_lowest, Cond.code yX12_lowest cX12_lowest 1 (some .int), Cond.methodLink RX12 144 yX12_highest, Cond.static yX12_highest, Cond.code yX12_highest cX12_highest 1 (some .int), Cond.methodLink RX12 39 yX12_in, Cond.static yX12_in, Cond.code yX12_in cX12_in 3 (some .boolean), Cond.methodLink RX12 128 yX12_falls, Cond.instanceMethod yX12_falls, Cond.selects RX12 yX12_falls yX12_falls, Cond.code yX12_falls cX12_falls 2 none, Cond.methodLink RX12 153 yX12_bakes, Cond.instanceMethod yX12_bakes, Cond.selects RX12 yX12_bakes yX12_bakes, Cond.code yX12_bakes cX12_bakes 10 none, Cond.fieldLink RX12 119 "OvenDaysModel" "inMany" "I", Cond.fieldLink RX12 22 "OvenDaysModel" "inOven" "[I", Cond.methodLink RX12 122 yX12_fills, Cond.instanceMethod yX12_fills, Cond.selects RX12 yX12_fills yX12_fills, Cond.code yX12_fills cX12_fills 9 (some .int)]
def wsX12_bestWood_r4 : List Cond := [Cond.methodLink RX12 90 yX12_dropsBatch, Cond.instanceMethod yX12_dropsBatch, Cond.selects RX12 yX12_dropsBatch yX12_dropsBatch, Cond.code yX12_dropsBatch cX12_dropsBatch 3 none, Cond.methodLink RX12 125 yX12_ticksOf, Cond.static yX12_ticksOf, Cond.code yX12_ticksOf cX12_ticksOf 1 (some .int), Cond.methodLink RX12 137 yX12_comesOut, Cond.instanceMethod yX12_comesOut, Cond.selects RX12 yX12_comesOut yX12_comesOut, Cond.code yX12_comesOut cX12_comesOut 8 none, Cond.methodLink RX12 101 yX12_loafAt, Cond.static yX12_loafAt, Cond.code yX12_loafAt cX12_loafAt 1 (some .int), Cond.methodLink RX12 104 yX12_draw, Cond.instanceMethod yX12_draw, Cond.selects RX12 yX12_draw yX12_draw, Cond.code yX12_draw cX12_draw 2 (some .int), Cond.constantLong RX12 94 (1103515245), Cond.constantLong RX12 96 (12345), Cond.constantLong RX12 98 (2147483648), Cond.constant RX12 100 (65536), Cond.methodLink RX12 107 yX12_bits, Cond.static yX12_bits]
def wsX12_bestWood_r5 : List Cond := [Cond.code yX12_bits cX12_bits 3 (some .int), Cond.methodLink RX12 157 yX12_sorts, Cond.instanceMethod yX12_sorts, Cond.selects RX12 yX12_sorts yX12_sorts, Cond.code yX12_sorts cX12_sorts 4 none, Cond.methodLink RX12 110 yX12_firstKept, Cond.instanceMethod yX12_firstKept, Cond.selects RX12 yX12_firstKept yX12_firstKept, Cond.code yX12_firstKept cX12_firstKept 1 (some .int), Cond.methodLink RX12 113 yX12_loafOf, Cond.instanceMethod yX12_loafOf, Cond.selects RX12 yX12_loafOf yX12_loafOf, Cond.code yX12_loafOf cX12_loafOf 3 (some .int), Cond.methodLink RX12 116 yX12_meant, Cond.instanceMethod yX12_meant, Cond.selects RX12 yX12_meant yX12_meant, Cond.code yX12_meant cX12_meant 9 (some .int), Cond.methodLink RX12 204 yX12_takesBack, Cond.instanceMethod yX12_takesBack, Cond.selects RX12 yX12_takesBack yX12_takesBack, Cond.code yX12_takesBack cX12_takesBack 2 none]
def wsX12_bestWood : List Cond := .code yX12_bestWood cX12_bestWood 5 (some .int) :: ((wsX12_bestWood_r1 ++ (wsX12_bestWood_r2 ++ (wsX12_bestWood_r3 ++ (wsX12_bestWood_r4 ++ wsX12_bestWood_r5)))) ++ wsX120)
def wsX12_isLike : List Cond := .code yX12_isLike cX12_isLike 2 (some .boolean) :: ([])
def wsX12_likes : List Cond := .code yX12_likes cX12_likes 4 (some .int) :: ([.fieldLink RX12 7 "OvenDaysModel" "now" "[I", .methodLink RX12 44 yX12_of, .instanceMethod yX12_of, .selects RX12 yX12_of yX12_of, .initialized RX12, .code yX12_of cX12_of 3 (some .int), .methodLink RX12 210 yX12_isLike, .static yX12_isLike, .code yX12_isLike cX12_isLike 2 (some .boolean)] ++ wsX120)
def wsX12_likeMarks : List Cond := .code yX12_likeMarks cX12_likeMarks 1 (some .int) :: ([.fieldLink RX12 28 "OvenDaysModel" "refusal" "I", .methodLink RX12 213 yX12_likes, .instanceMethod yX12_likes, .selects RX12 yX12_likes yX12_likes, .initialized RX12, .code yX12_likes cX12_likes 4 (some .int), .fieldLink RX12 7 "OvenDaysModel" "now" "[I", .methodLink RX12 44 yX12_of, .instanceMethod yX12_of, .selects RX12 yX12_of yX12_of, .code yX12_of cX12_of 3 (some .int), .methodLink RX12 210 yX12_isLike, .static yX12_isLike, .code yX12_isLike cX12_isLike 2 (some .boolean)] ++ wsX120)
def wsX12_freeMark : List Cond := .code yX12_freeMark cX12_freeMark 5 (some .int) :: ([.constant RX12 43 (65535), .fieldLink RX12 7 "OvenDaysModel" "now" "[I", .methodLink RX12 39 yX12_in, .static yX12_in, .initialized RX12, .code yX12_in cX12_in 3 (some .boolean), .methodLink RX12 35 yX12_refused, .instanceMethod yX12_refused, .selects RX12 yX12_refused yX12_refused, .code yX12_refused cX12_refused 2 (some .boolean), .fieldLink RX12 28 "OvenDaysModel" "refusal" "I", .methodLink RX12 107 yX12_bits, .static yX12_bits, .code yX12_bits cX12_bits 3 (some .int), .methodLink RX12 44 yX12_of, .instanceMethod yX12_of, .selects RX12 yX12_of yX12_of, .code yX12_of cX12_of 3 (some .int), .methodLink RX12 210 yX12_isLike, .static yX12_isLike, .code yX12_isLike cX12_isLike 2 (some .boolean)] ++ wsX120)
def wsX12_type : List Cond := .code yX12_type cX12_type 2 (some .int) :: ([.fieldLink RX12 216 "OvenDaysModel" "length" "I", .fieldLink RX12 19 "OvenDaysModel" "commands" "[I", .methodLink RX12 39 yX12_in, .static yX12_in, .initialized RX12, .code yX12_in cX12_in 3 (some .boolean), .methodLink RX12 35 yX12_refused, .instanceMethod yX12_refused, .selects RX12 yX12_refused yX12_refused, .code yX12_refused cX12_refused 2 (some .boolean), .fieldLink RX12 28 "OvenDaysModel" "refusal" "I"] ++ wsX120)
def wsX12_clearCommands : List Cond := .code yX12_clearCommands cX12_clearCommands 2 (some .int) :: ([.fieldLink RX12 28 "OvenDaysModel" "refusal" "I", .fieldLink RX12 216 "OvenDaysModel" "length" "I"] ++ wsX120)
def wsX12_isAt : List Cond := .code yX12_isAt cX12_isAt 3 (some .boolean) :: ([.fieldLink RX12 219 "OvenDaysModel" "spot" "I", .fieldLink RX12 216 "OvenDaysModel" "length" "I", .fieldLink RX12 19 "OvenDaysModel" "commands" "[I", .methodLink RX12 39 yX12_in, .static yX12_in, .initialized RX12, .code yX12_in cX12_in 3 (some .boolean)] ++ wsX120)
def wsX12_skips : List Cond := .code yX12_skips cX12_skips 2 (some .boolean) :: ([.fieldLink RX12 219 "OvenDaysModel" "spot" "I", .methodLink RX12 222 yX12_isAt, .instanceMethod yX12_isAt, .selects RX12 yX12_isAt yX12_isAt, .initialized RX12, .code yX12_isAt cX12_isAt 3 (some .boolean), .fieldLink RX12 216 "OvenDaysModel" "length" "I", .fieldLink RX12 19 "OvenDaysModel" "commands" "[I", .methodLink RX12 39 yX12_in, .static yX12_in, .code yX12_in cX12_in 3 (some .boolean)] ++ wsX120)
def wsX12_letterAt : List Cond := .code yX12_letterAt cX12_letterAt 2 (some .int) :: ([])
def wsX12_wordFrom : List Cond := .code yX12_wordFrom cX12_wordFrom 6 (some .int) :: ([.fieldLink RX12 219 "OvenDaysModel" "spot" "I", .fieldLink RX12 19 "OvenDaysModel" "commands" "[I", .methodLink RX12 225 yX12_letterAt, .static yX12_letterAt, .initialized RX12, .code yX12_letterAt cX12_letterAt 2 (some .int)] ++ wsX120)
def wsX12_readsNumber : List Cond := .code yX12_readsNumber cX12_readsNumber 3 (some .int) :: ([.fieldLink RX12 219 "OvenDaysModel" "spot" "I", .fieldLink RX12 19 "OvenDaysModel" "commands" "[I", .methodLink RX12 228 yX12_skips, .instanceMethod yX12_skips, .selects RX12 yX12_skips yX12_skips, .initialized RX12, .code yX12_skips cX12_skips 2 (some .boolean), .methodLink RX12 222 yX12_isAt, .instanceMethod yX12_isAt, .selects RX12 yX12_isAt yX12_isAt, .code yX12_isAt cX12_isAt 3 (some .boolean), .fieldLink RX12 216 "OvenDaysModel" "length" "I", .methodLink RX12 39 yX12_in, .static yX12_in, .code yX12_in cX12_in 3 (some .boolean)] ++ wsX120)
def wsX12_reads_r1 : List Cond := [Cond.fieldLink RX12 219 "OvenDaysModel" "spot" "I", Cond.fieldLink RX12 235 "OvenDaysModel" "word" "I", Cond.fieldLink RX12 25 "OvenDaysModel" "numbers" "[I", Cond.methodLink RX12 222 yX12_isAt, Cond.instanceMethod yX12_isAt, Cond.selects RX12 yX12_isAt yX12_isAt, Cond.initialized RX12, Cond.code yX12_isAt cX12_isAt 3 (some .boolean), Cond.fieldLink RX12 216 "OvenDaysModel" "length" "I", Cond.fieldLink RX12 19 "OvenDaysModel" "commands" "[I", Cond.methodLink RX12 39 yX12_in, Cond.static yX12_in, Cond.code yX12_in cX12_in 3 (some .boolean), Cond.methodLink RX12 232 yX12_wordFrom, Cond.instanceMethod yX12_wordFrom, Cond.selects RX12 yX12_wordFrom yX12_wordFrom, Cond.code yX12_wordFrom cX12_wordFrom 6 (some .int), Cond.methodLink RX12 225 yX12_letterAt, Cond.static yX12_letterAt, Cond.code yX12_letterAt cX12_letterAt 2 (some .int), Cond.methodLink RX12 238 yX12_readsNumber, Cond.instanceMethod yX12_readsNumber, Cond.selects RX12 yX12_readsNumber yX12_readsNumber, Cond.code yX12_readsNumber cX12_readsNumber 3 (some .int)]
def wsX12_reads_r2 : List Cond := [Cond.methodLink RX12 228 yX12_skips, Cond.instanceMethod yX12_skips, Cond.selects RX12 yX12_skips yX12_skips, Cond.code yX12_skips cX12_skips 2 (some .boolean)]
def wsX12_reads : List Cond := .code yX12_reads cX12_reads 5 (some .boolean) :: ((wsX12_reads_r1 ++ wsX12_reads_r2) ++ wsX120)
def wsX12_does_r1 : List Cond := [Cond.fieldLink RX12 25 "OvenDaysModel" "numbers" "[I", Cond.fieldLink RX12 235 "OvenDaysModel" "word" "I", Cond.methodLink RX12 59 yX12_badJoin, Cond.instanceMethod yX12_badJoin, Cond.selects RX12 yX12_badJoin yX12_badJoin, Cond.initialized RX12, Cond.code yX12_badJoin cX12_badJoin 2 (some .int), Cond.fieldLink RX12 7 "OvenDaysModel" "now" "[I", Cond.methodLink RX12 48 yX12_isMark, Cond.static yX12_isMark, Cond.code yX12_isMark cX12_isMark 1 (some .boolean), Cond.constant RX12 43 (65535), Cond.methodLink RX12 39 yX12_in, Cond.static yX12_in, Cond.code yX12_in cX12_in 3 (some .boolean), Cond.methodLink RX12 51 yX12_isTaken, Cond.instanceMethod yX12_isTaken, Cond.selects RX12 yX12_isTaken yX12_isTaken, Cond.code yX12_isTaken cX12_isTaken 5 (some .boolean), Cond.methodLink RX12 44 yX12_of, Cond.instanceMethod yX12_of, Cond.selects RX12 yX12_of yX12_of, Cond.code yX12_of cX12_of 3 (some .int), Cond.methodLink RX12 66 yX12_joins]
def wsX12_does_r2 : List Cond := [Cond.instanceMethod yX12_joins, Cond.selects RX12 yX12_joins yX12_joins, Cond.code yX12_joins cX12_joins 3 (some .int), Cond.methodLink RX12 55 yX12_lays, Cond.instanceMethod yX12_lays, Cond.selects RX12 yX12_lays yX12_lays, Cond.code yX12_lays cX12_lays 4 none, Cond.methodLink RX12 83 yX12_badBatch, Cond.instanceMethod yX12_badBatch, Cond.selects RX12 yX12_badBatch yX12_badBatch, Cond.code yX12_badBatch cX12_badBatch 4 (some .int), Cond.methodLink RX12 69 yX12_isHouse, Cond.instanceMethod yX12_isHouse, Cond.selects RX12 yX12_isHouse yX12_isHouse, Cond.code yX12_isHouse cX12_isHouse 2 (some .boolean), Cond.methodLink RX12 87 yX12_brings, Cond.instanceMethod yX12_brings, Cond.selects RX12 yX12_brings yX12_brings, Cond.code yX12_brings cX12_brings 5 (some .int), Cond.methodLink RX12 163 yX12_badDay, Cond.instanceMethod yX12_badDay, Cond.selects RX12 yX12_badDay yX12_badDay, Cond.code yX12_badDay cX12_badDay 2 (some .int), Cond.methodLink RX12 160 yX12_isWood]
def wsX12_does_r3 : List Cond := [Cond.static yX12_isWood, Cond.code yX12_isWood cX12_isWood 1 (some .boolean), Cond.methodLink RX12 166 yX12_dayWith, Cond.instanceMethod yX12_dayWith, Cond.selects RX12 yX12_dayWith yX12_dayWith, Cond.code yX12_dayWith cX12_dayWith 6 (some .int), Cond.fieldLink RX12 134 "OvenDaysModel" "baked" "I", Cond.methodLink RX12 147 yX12_next, Cond.instanceMethod yX12_next, Cond.selects RX12 yX12_next yX12_next, Cond.code yX12_next cX12_next 4 (some .int), Cond.methodLink RX12 72 yX12_excused, Cond.instanceMethod yX12_excused, Cond.selects RX12 yX12_excused yX12_excused, Cond.code yX12_excused cX12_excused 3 (some .int), Cond.methodLink RX12 79 yX12_dueOf, Cond.instanceMethod yX12_dueOf, Cond.selects RX12 yX12_dueOf yX12_dueOf, Cond.code yX12_dueOf cX12_dueOf 2 (some .long), Cond.methodLink RX12 76 yX12_sum, Cond.instanceMethod yX12_sum, Cond.selects RX12 yX12_sum yX12_sum, Cond.code yX12_sum cX12_sum 4 (some .int), Cond.methodLink RX12 150 yX12_kindNow]
def wsX12_does_r4 : List Cond := [Cond.instanceMethod yX12_kindNow, Cond.selects RX12 yX12_kindNow yX12_kindNow, Cond.code yX12_kindNow cX12_kindNow 4 (some .int), Cond.methodLink RX12 141 yX12_waits, Cond.instanceMethod yX12_waits, Cond.selects RX12 yX12_waits yX12_waits, Cond.code yX12_waits cX12_waits 4 (some .boolean), Cond.methodLink RX12 131 yX12_lowest, Cond.static yX12_lowest, Cond.code yX12_lowest cX12_lowest 1 (some .int), Cond.methodLink RX12 144 yX12_highest, Cond.static yX12_highest, Cond.code yX12_highest cX12_highest 1 (some .int), Cond.methodLink RX12 128 yX12_falls, Cond.instanceMethod yX12_falls, Cond.selects RX12 yX12_falls yX12_falls, Cond.code yX12_falls cX12_falls 2 none, Cond.methodLink RX12 153 yX12_bakes, Cond.instanceMethod yX12_bakes, Cond.selects RX12 yX12_bakes yX12_bakes, Cond.code yX12_bakes cX12_bakes 10 none, Cond.fieldLink RX12 119 "OvenDaysModel" "inMany" "I", Cond.fieldLink RX12 22 "OvenDaysModel" "inOven" "[I", Cond.methodLink RX12 122 yX12_fills]
def wsX12_does_r5 : List Cond := [Cond.instanceMethod yX12_fills, Cond.selects RX12 yX12_fills yX12_fills, Cond.code yX12_fills cX12_fills 9 (some .int), Cond.methodLink RX12 90 yX12_dropsBatch, Cond.instanceMethod yX12_dropsBatch, Cond.selects RX12 yX12_dropsBatch yX12_dropsBatch, Cond.code yX12_dropsBatch cX12_dropsBatch 3 none, Cond.methodLink RX12 125 yX12_ticksOf, Cond.static yX12_ticksOf, Cond.code yX12_ticksOf cX12_ticksOf 1 (some .int), Cond.methodLink RX12 137 yX12_comesOut, Cond.instanceMethod yX12_comesOut, Cond.selects RX12 yX12_comesOut yX12_comesOut, Cond.code yX12_comesOut cX12_comesOut 8 none, Cond.methodLink RX12 101 yX12_loafAt, Cond.static yX12_loafAt, Cond.code yX12_loafAt cX12_loafAt 1 (some .int), Cond.methodLink RX12 104 yX12_draw, Cond.instanceMethod yX12_draw, Cond.selects RX12 yX12_draw yX12_draw, Cond.code yX12_draw cX12_draw 2 (some .int), Cond.constantLong RX12 94 (1103515245), Cond.constantLong RX12 96 (12345), Cond.constantLong RX12 98 (2147483648)]
def wsX12_does_r6 : List Cond := [Cond.constant RX12 100 (65536), Cond.methodLink RX12 107 yX12_bits, Cond.static yX12_bits, Cond.code yX12_bits cX12_bits 3 (some .int), Cond.methodLink RX12 157 yX12_sorts, Cond.instanceMethod yX12_sorts, Cond.selects RX12 yX12_sorts yX12_sorts, Cond.code yX12_sorts cX12_sorts 4 none, Cond.methodLink RX12 110 yX12_firstKept, Cond.instanceMethod yX12_firstKept, Cond.selects RX12 yX12_firstKept yX12_firstKept, Cond.code yX12_firstKept cX12_firstKept 1 (some .int), Cond.methodLink RX12 113 yX12_loafOf, Cond.instanceMethod yX12_loafOf, Cond.selects RX12 yX12_loafOf yX12_loafOf, Cond.code yX12_loafOf cX12_loafOf 3 (some .int), Cond.methodLink RX12 116 yX12_meant, Cond.instanceMethod yX12_meant, Cond.selects RX12 yX12_meant yX12_meant, Cond.code yX12_meant cX12_meant 9 (some .int), Cond.methodLink RX12 178 yX12_gives, Cond.instanceMethod yX12_gives, Cond.selects RX12 yX12_gives yX12_gives, Cond.code yX12_gives cX12_gives 3 (some .int)]
def wsX12_does_r7 : List Cond := [Cond.methodLink RX12 172 yX12_claims, Cond.instanceMethod yX12_claims, Cond.selects RX12 yX12_claims yX12_claims, Cond.code yX12_claims cX12_claims 6 (some .int), Cond.methodLink RX12 169 yX12_balanceOf, Cond.instanceMethod yX12_balanceOf, Cond.selects RX12 yX12_balanceOf yX12_balanceOf, Cond.code yX12_balanceOf cX12_balanceOf 5 (some .int), Cond.methodLink RX12 175 yX12_returns, Cond.instanceMethod yX12_returns, Cond.selects RX12 yX12_returns yX12_returns, Cond.code yX12_returns cX12_returns 6 (some .int)]
def wsX12_does : List Cond := .code yX12_does cX12_does 4 (some .int) :: ((wsX12_does_r1 ++ (wsX12_does_r2 ++ (wsX12_does_r3 ++ (wsX12_does_r4 ++ (wsX12_does_r5 ++ (wsX12_does_r6 ++ wsX12_does_r7)))))) ++ wsX120)
def wsX12_runCommands_r1 : List Cond := [Cond.fieldLink RX12 28 "OvenDaysModel" "refusal" "I", Cond.fieldLink RX12 219 "OvenDaysModel" "spot" "I", Cond.fieldLink RX12 216 "OvenDaysModel" "length" "I", Cond.fieldLink RX12 244 "OvenDaysModel" "stopped" "I", Cond.methodLink RX12 228 yX12_skips, Cond.instanceMethod yX12_skips, Cond.selects RX12 yX12_skips yX12_skips, Cond.initialized RX12, Cond.code yX12_skips cX12_skips 2 (some .boolean), Cond.methodLink RX12 222 yX12_isAt, Cond.instanceMethod yX12_isAt, Cond.selects RX12 yX12_isAt yX12_isAt, Cond.code yX12_isAt cX12_isAt 3 (some .boolean), Cond.fieldLink RX12 19 "OvenDaysModel" "commands" "[I", Cond.methodLink RX12 39 yX12_in, Cond.static yX12_in, Cond.code yX12_in cX12_in 3 (some .boolean), Cond.methodLink RX12 241 yX12_reads, Cond.instanceMethod yX12_reads, Cond.selects RX12 yX12_reads yX12_reads, Cond.code yX12_reads cX12_reads 5 (some .boolean), Cond.fieldLink RX12 235 "OvenDaysModel" "word" "I", Cond.fieldLink RX12 25 "OvenDaysModel" "numbers" "[I", Cond.methodLink RX12 232 yX12_wordFrom]
def wsX12_runCommands_r2 : List Cond := [Cond.instanceMethod yX12_wordFrom, Cond.selects RX12 yX12_wordFrom yX12_wordFrom, Cond.code yX12_wordFrom cX12_wordFrom 6 (some .int), Cond.methodLink RX12 225 yX12_letterAt, Cond.static yX12_letterAt, Cond.code yX12_letterAt cX12_letterAt 2 (some .int), Cond.methodLink RX12 238 yX12_readsNumber, Cond.instanceMethod yX12_readsNumber, Cond.selects RX12 yX12_readsNumber yX12_readsNumber, Cond.code yX12_readsNumber cX12_readsNumber 3 (some .int), Cond.methodLink RX12 63 yX12_saves, Cond.instanceMethod yX12_saves, Cond.selects RX12 yX12_saves yX12_saves, Cond.code yX12_saves cX12_saves 2 none, Cond.fieldLink RX12 32 "OvenDaysModel" "saved" "I", Cond.fieldLink RX12 13 "OvenDaysModel" "past" "[I", Cond.fieldLink RX12 7 "OvenDaysModel" "now" "[I", Cond.methodLink RX12 247 yX12_does, Cond.instanceMethod yX12_does, Cond.selects RX12 yX12_does yX12_does, Cond.code yX12_does cX12_does 4 (some .int), Cond.methodLink RX12 59 yX12_badJoin, Cond.instanceMethod yX12_badJoin, Cond.selects RX12 yX12_badJoin yX12_badJoin]
def wsX12_runCommands_r3 : List Cond := [Cond.code yX12_badJoin cX12_badJoin 2 (some .int), Cond.methodLink RX12 48 yX12_isMark, Cond.static yX12_isMark, Cond.code yX12_isMark cX12_isMark 1 (some .boolean), Cond.constant RX12 43 (65535), Cond.methodLink RX12 51 yX12_isTaken, Cond.instanceMethod yX12_isTaken, Cond.selects RX12 yX12_isTaken yX12_isTaken, Cond.code yX12_isTaken cX12_isTaken 5 (some .boolean), Cond.methodLink RX12 44 yX12_of, Cond.instanceMethod yX12_of, Cond.selects RX12 yX12_of yX12_of, Cond.code yX12_of cX12_of 3 (some .int), Cond.methodLink RX12 66 yX12_joins, Cond.instanceMethod yX12_joins, Cond.selects RX12 yX12_joins yX12_joins, Cond.code yX12_joins cX12_joins 3 (some .int), Cond.methodLink RX12 55 yX12_lays, Cond.instanceMethod yX12_lays, Cond.selects RX12 yX12_lays yX12_lays, Cond.code yX12_lays cX12_lays 4 none, Cond.methodLink RX12 83 yX12_badBatch, Cond.instanceMethod yX12_badBatch, Cond.selects RX12 yX12_badBatch yX12_badBatch]
def wsX12_runCommands_r4 : List Cond := [Cond.code yX12_badBatch cX12_badBatch 4 (some .int), Cond.methodLink RX12 69 yX12_isHouse, Cond.instanceMethod yX12_isHouse, Cond.selects RX12 yX12_isHouse yX12_isHouse, Cond.code yX12_isHouse cX12_isHouse 2 (some .boolean), Cond.methodLink RX12 87 yX12_brings, Cond.instanceMethod yX12_brings, Cond.selects RX12 yX12_brings yX12_brings, Cond.code yX12_brings cX12_brings 5 (some .int), Cond.methodLink RX12 163 yX12_badDay, Cond.instanceMethod yX12_badDay, Cond.selects RX12 yX12_badDay yX12_badDay, Cond.code yX12_badDay cX12_badDay 2 (some .int), Cond.methodLink RX12 160 yX12_isWood, Cond.static yX12_isWood, Cond.code yX12_isWood cX12_isWood 1 (some .boolean), Cond.methodLink RX12 166 yX12_dayWith, Cond.instanceMethod yX12_dayWith, Cond.selects RX12 yX12_dayWith yX12_dayWith, Cond.code yX12_dayWith cX12_dayWith 6 (some .int), Cond.fieldLink RX12 134 "OvenDaysModel" "baked" "I", Cond.methodLink RX12 147 yX12_next, Cond.instanceMethod yX12_next, Cond.selects RX12 yX12_next yX12_next]
def wsX12_runCommands_r5 : List Cond := [Cond.code yX12_next cX12_next 4 (some .int), Cond.methodLink RX12 72 yX12_excused, Cond.instanceMethod yX12_excused, Cond.selects RX12 yX12_excused yX12_excused, Cond.code yX12_excused cX12_excused 3 (some .int), Cond.methodLink RX12 79 yX12_dueOf, Cond.instanceMethod yX12_dueOf, Cond.selects RX12 yX12_dueOf yX12_dueOf, Cond.code yX12_dueOf cX12_dueOf 2 (some .long), Cond.methodLink RX12 76 yX12_sum, Cond.instanceMethod yX12_sum, Cond.selects RX12 yX12_sum yX12_sum, Cond.code yX12_sum cX12_sum 4 (some .int), Cond.methodLink RX12 150 yX12_kindNow, Cond.instanceMethod yX12_kindNow, Cond.selects RX12 yX12_kindNow yX12_kindNow, Cond.code yX12_kindNow cX12_kindNow 4 (some .int), Cond.methodLink RX12 141 yX12_waits, Cond.instanceMethod yX12_waits, Cond.selects RX12 yX12_waits yX12_waits, Cond.code yX12_waits cX12_waits 4 (some .boolean), Cond.methodLink RX12 131 yX12_lowest, Cond.static yX12_lowest, Cond.code yX12_lowest cX12_lowest 1 (some .int)]
def wsX12_runCommands_r6 : List Cond := [Cond.methodLink RX12 144 yX12_highest, Cond.static yX12_highest, Cond.code yX12_highest cX12_highest 1 (some .int), Cond.methodLink RX12 128 yX12_falls, Cond.instanceMethod yX12_falls, Cond.selects RX12 yX12_falls yX12_falls, Cond.code yX12_falls cX12_falls 2 none, Cond.methodLink RX12 153 yX12_bakes, Cond.instanceMethod yX12_bakes, Cond.selects RX12 yX12_bakes yX12_bakes, Cond.code yX12_bakes cX12_bakes 10 none, Cond.fieldLink RX12 119 "OvenDaysModel" "inMany" "I", Cond.fieldLink RX12 22 "OvenDaysModel" "inOven" "[I", Cond.methodLink RX12 122 yX12_fills, Cond.instanceMethod yX12_fills, Cond.selects RX12 yX12_fills yX12_fills, Cond.code yX12_fills cX12_fills 9 (some .int), Cond.methodLink RX12 90 yX12_dropsBatch, Cond.instanceMethod yX12_dropsBatch, Cond.selects RX12 yX12_dropsBatch yX12_dropsBatch, Cond.code yX12_dropsBatch cX12_dropsBatch 3 none, Cond.methodLink RX12 125 yX12_ticksOf, Cond.static yX12_ticksOf, Cond.code yX12_ticksOf cX12_ticksOf 1 (some .int)]
def wsX12_runCommands_r7 : List Cond := [Cond.methodLink RX12 137 yX12_comesOut, Cond.instanceMethod yX12_comesOut, Cond.selects RX12 yX12_comesOut yX12_comesOut, Cond.code yX12_comesOut cX12_comesOut 8 none, Cond.methodLink RX12 101 yX12_loafAt, Cond.static yX12_loafAt, Cond.code yX12_loafAt cX12_loafAt 1 (some .int), Cond.methodLink RX12 104 yX12_draw, Cond.instanceMethod yX12_draw, Cond.selects RX12 yX12_draw yX12_draw, Cond.code yX12_draw cX12_draw 2 (some .int), Cond.constantLong RX12 94 (1103515245), Cond.constantLong RX12 96 (12345), Cond.constantLong RX12 98 (2147483648), Cond.constant RX12 100 (65536), Cond.methodLink RX12 107 yX12_bits, Cond.static yX12_bits, Cond.code yX12_bits cX12_bits 3 (some .int), Cond.methodLink RX12 157 yX12_sorts, Cond.instanceMethod yX12_sorts, Cond.selects RX12 yX12_sorts yX12_sorts, Cond.code yX12_sorts cX12_sorts 4 none, Cond.methodLink RX12 110 yX12_firstKept, Cond.instanceMethod yX12_firstKept]
def wsX12_runCommands_r8 : List Cond := [Cond.selects RX12 yX12_firstKept yX12_firstKept, Cond.code yX12_firstKept cX12_firstKept 1 (some .int), Cond.methodLink RX12 113 yX12_loafOf, Cond.instanceMethod yX12_loafOf, Cond.selects RX12 yX12_loafOf yX12_loafOf, Cond.code yX12_loafOf cX12_loafOf 3 (some .int), Cond.methodLink RX12 116 yX12_meant, Cond.instanceMethod yX12_meant, Cond.selects RX12 yX12_meant yX12_meant, Cond.code yX12_meant cX12_meant 9 (some .int), Cond.methodLink RX12 178 yX12_gives, Cond.instanceMethod yX12_gives, Cond.selects RX12 yX12_gives yX12_gives, Cond.code yX12_gives cX12_gives 3 (some .int), Cond.methodLink RX12 172 yX12_claims, Cond.instanceMethod yX12_claims, Cond.selects RX12 yX12_claims yX12_claims, Cond.code yX12_claims cX12_claims 6 (some .int), Cond.methodLink RX12 169 yX12_balanceOf, Cond.instanceMethod yX12_balanceOf, Cond.selects RX12 yX12_balanceOf yX12_balanceOf, Cond.code yX12_balanceOf cX12_balanceOf 5 (some .int), Cond.methodLink RX12 175 yX12_returns, Cond.instanceMethod yX12_returns]
def wsX12_runCommands_r9 : List Cond := [Cond.selects RX12 yX12_returns yX12_returns, Cond.code yX12_returns cX12_returns 6 (some .int)]
def wsX12_runCommands : List Cond := .code yX12_runCommands cX12_runCommands 4 (some .int) :: ((wsX12_runCommands_r1 ++ (wsX12_runCommands_r2 ++ (wsX12_runCommands_r3 ++ (wsX12_runCommands_r4 ++ (wsX12_runCommands_r5 ++ (wsX12_runCommands_r6 ++ (wsX12_runCommands_r7 ++ (wsX12_runCommands_r8 ++ wsX12_runCommands_r9)))))))) ++ wsX120)
def wsX12_stop : List Cond := .code yX12_stop cX12_stop 1 (some .int) :: ([.fieldLink RX12 28 "OvenDaysModel" "refusal" "I", .fieldLink RX12 244 "OvenDaysModel" "stopped" "I"] ++ wsX120)
def wsX12_mix : List Cond := .code yX12_mix cX12_mix 3 none :: ([.constantLong RX12 250 (31), .fieldLink RX12 252 "OvenDaysModel" "hash" "J"] ++ wsX120)
def wsX12_digest_r1 : List Cond := [Cond.fieldLink RX12 28 "OvenDaysModel" "refusal" "I", Cond.constantLong RX12 256 (43087), Cond.fieldLink RX12 252 "OvenDaysModel" "hash" "J", Cond.fieldLink RX12 32 "OvenDaysModel" "saved" "I", Cond.fieldLink RX12 216 "OvenDaysModel" "length" "I", Cond.fieldLink RX12 244 "OvenDaysModel" "stopped" "I", Cond.fieldLink RX12 7 "OvenDaysModel" "now" "[I", Cond.methodLink RX12 258 yX12_mix, Cond.instanceMethod yX12_mix, Cond.selects RX12 yX12_mix yX12_mix, Cond.initialized RX12, Cond.code yX12_mix cX12_mix 3 none, Cond.constantLong RX12 250 (31), Cond.methodLink RX12 198 yX12_tellWhole, Cond.instanceMethod yX12_tellWhole, Cond.selects RX12 yX12_tellWhole yX12_tellWhole, Cond.code yX12_tellWhole cX12_tellWhole 2 (some .int), Cond.methodLink RX12 76 yX12_sum, Cond.instanceMethod yX12_sum, Cond.selects RX12 yX12_sum yX12_sum, Cond.code yX12_sum cX12_sum 4 (some .int), Cond.methodLink RX12 44 yX12_of, Cond.instanceMethod yX12_of, Cond.selects RX12 yX12_of yX12_of]
def wsX12_digest_r2 : List Cond := [Cond.code yX12_of cX12_of 3 (some .int), Cond.methodLink RX12 110 yX12_firstKept, Cond.instanceMethod yX12_firstKept, Cond.selects RX12 yX12_firstKept yX12_firstKept, Cond.code yX12_firstKept cX12_firstKept 1 (some .int), Cond.methodLink RX12 194 yX12_keptWith, Cond.instanceMethod yX12_keptWith, Cond.selects RX12 yX12_keptWith yX12_keptWith, Cond.code yX12_keptWith cX12_keptWith 5 (some .int), Cond.methodLink RX12 113 yX12_loafOf, Cond.instanceMethod yX12_loafOf, Cond.selects RX12 yX12_loafOf yX12_loafOf, Cond.code yX12_loafOf cX12_loafOf 3 (some .int), Cond.methodLink RX12 101 yX12_loafAt, Cond.static yX12_loafAt, Cond.code yX12_loafAt cX12_loafAt 1 (some .int), Cond.methodLink RX12 39 yX12_in, Cond.static yX12_in, Cond.code yX12_in cX12_in 3 (some .boolean), Cond.methodLink RX12 185 yX12_tellHouse, Cond.instanceMethod yX12_tellHouse, Cond.selects RX12 yX12_tellHouse yX12_tellHouse, Cond.code yX12_tellHouse cX12_tellHouse 5 (some .int), Cond.methodLink RX12 181 yX12_kept]
def wsX12_digest_r3 : List Cond := [Cond.instanceMethod yX12_kept, Cond.selects RX12 yX12_kept yX12_kept, Cond.code yX12_kept cX12_kept 6 (some .int), Cond.methodLink RX12 79 yX12_dueOf, Cond.instanceMethod yX12_dueOf, Cond.selects RX12 yX12_dueOf yX12_dueOf, Cond.code yX12_dueOf cX12_dueOf 2 (some .long), Cond.methodLink RX12 169 yX12_balanceOf, Cond.instanceMethod yX12_balanceOf, Cond.selects RX12 yX12_balanceOf yX12_balanceOf, Cond.code yX12_balanceOf cX12_balanceOf 5 (some .int), Cond.methodLink RX12 147 yX12_next, Cond.instanceMethod yX12_next, Cond.selects RX12 yX12_next yX12_next, Cond.code yX12_next cX12_next 4 (some .int), Cond.methodLink RX12 72 yX12_excused, Cond.instanceMethod yX12_excused, Cond.selects RX12 yX12_excused yX12_excused, Cond.code yX12_excused cX12_excused 3 (some .int), Cond.methodLink RX12 191 yX12_placeOf, Cond.instanceMethod yX12_placeOf, Cond.selects RX12 yX12_placeOf yX12_placeOf, Cond.code yX12_placeOf cX12_placeOf 6 (some .int), Cond.methodLink RX12 188 yX12_behind]
def wsX12_digest_r4 : List Cond := [Cond.instanceMethod yX12_behind, Cond.selects RX12 yX12_behind yX12_behind, Cond.code yX12_behind cX12_behind 2 (some .int), Cond.methodLink RX12 213 yX12_likes, Cond.instanceMethod yX12_likes, Cond.selects RX12 yX12_likes yX12_likes, Cond.code yX12_likes cX12_likes 4 (some .int), Cond.methodLink RX12 210 yX12_isLike, Cond.static yX12_isLike, Cond.code yX12_isLike cX12_isLike 2 (some .boolean)]
def wsX12_digest : List Cond := .code yX12_digest cX12_digest 3 (some .long) :: ((wsX12_digest_r1 ++ (wsX12_digest_r2 ++ (wsX12_digest_r3 ++ wsX12_digest_r4))) ++ wsX120)
def wsJ9_max_7cf53 : List Cond := .code yJ9_max_7cf53 cJ9_max_7cf53 2 (some .int) :: ([])
def wsJ9_min_7cf53 : List Cond := .code yJ9_min_7cf53 cJ9_min_7cf53 2 (some .int) :: ([])
def wsL_join_r1 : List Cond := [Cond.classLink RL 13 "java/lang/IllegalArgumentException", Cond.classLink RL 15 "java/lang/IllegalStateException", Cond.methodLink RL 7 yX11_join, Cond.instanceMethod yX11_join, Cond.selects RX11 yX11_join yX11_join, Cond.initialized RX11, Cond.code yX11_join cX11_join 2 (some .int), Cond.fieldLink RX11 10 "OvenDays" "village" "LOvenDays$Village;", Cond.fieldLink RX11 26 "OvenDays" "undoStack" "LOvenDays$UndoStack;", Cond.methodLink RX11 41 yX9_whyNoJoining, Cond.instanceMethod yX9_whyNoJoining, Cond.selects RX9 yX9_whyNoJoining yX9_whyNoJoining, Cond.initialized RX9, Cond.code yX9_whyNoJoining cX9_whyNoJoining 2 (some .int), Cond.constant RX9 69 (65535), Cond.fieldLink RX9 12 "OvenDays$Village" "households" "LOvenDays$Households;", Cond.static yX11_whyNotWithin, Cond.code yX11_whyNotWithin cX11_whyNotWithin 3 (some .int), Cond.methodLink RX9 74 yX4_isFull, Cond.instanceMethod yX4_isFull, Cond.selects RX4 yX4_isFull yX4_isFull, Cond.initialized RX4, Cond.code yX4_isFull cX4_isFull 1 (some .boolean), Cond.fieldLink RX4 20 "OvenDays$Households" "count" "I"]
def wsL_join_r2 : List Cond := [Cond.methodLink RX9 78 yX4_withMark, Cond.instanceMethod yX4_withMark, Cond.selects RX4 yX4_withMark yX4_withMark, Cond.code yX4_withMark cX4_withMark 3 (some .int), Cond.fieldLink RX4 14 "OvenDays$Households" "rows" "LOvenDays$Table;", Cond.methodLink RX4 28 yX7_get, Cond.instanceMethod yX7_get, Cond.selects RX7 yX7_get yX7_get, Cond.initialized RX7, Cond.code yX7_get cX7_get 3 (some .int), Cond.fieldLink RX7 14 "OvenDays$Table" "room" "I", Cond.fieldLink RX7 9 "OvenDays$Table" "columns" "[[I", Cond.methodLink RX11 45 yX11_refuse, Cond.static yX11_refuse, Cond.code yX11_refuse cX11_refuse 1 none, Cond.classLink RX11 281 "java/lang/IndexOutOfBoundsException", Cond.initialized "java/lang/IndexOutOfBoundsException", Cond.classLink RX11 288 "java/lang/IllegalArgumentException", Cond.initialized "java/lang/IllegalArgumentException", Cond.classLink RX11 293 "java/lang/IllegalStateException", Cond.initialized "java/lang/IllegalStateException", Cond.methodLink RX11 49 yX8_push, Cond.instanceMethod yX8_push, Cond.selects RX8 yX8_push yX8_push]
def wsL_join_r3 : List Cond := [Cond.initialized RX8, Cond.code yX8_push cX8_push 3 none, Cond.fieldLink RX8 20 "OvenDays$UndoStack" "latest" "I", Cond.fieldLink RX8 16 "OvenDays$UndoStack" "count" "I", Cond.methodLink RX8 31 Lib.Math.min.name, Cond.static Lib.Math.min.name, Cond.initialized "java/lang/Math", Cond.code Lib.Math.min.name Lib.Math.min.code 2 (some .int), Cond.methodLink RX8 23 yX8_stateAt, Cond.instanceMethod yX8_stateAt, Cond.selects RX8 yX8_stateAt yX8_stateAt, Cond.code yX8_stateAt cX8_stateAt 2 (some (.object "OvenDays$Village")), Cond.fieldLink RX8 11 "OvenDays$UndoStack" "states" "[LOvenDays$Village;", Cond.methodLink RX8 27 yX9_copyFrom, Cond.instanceMethod yX9_copyFrom, Cond.selects RX9 yX9_copyFrom yX9_copyFrom, Cond.code yX9_copyFrom cX9_copyFrom 2 none, Cond.fieldLink RX9 21 "OvenDays$Village" "batches" "LOvenDays$Batches;", Cond.fieldLink RX9 28 "OvenDays$Village" "loads" "LOvenDays$Loads;", Cond.fieldLink RX9 35 "OvenDays$Village" "loaves" "LOvenDays$Loaves;", Cond.fieldLink RX9 39 "OvenDays$Village" "heat" "I", Cond.fieldLink RX9 43 "OvenDays$Village" "s" "I", Cond.fieldLink RX9 59 "OvenDays$Village" "days" "I", Cond.fieldLink RX9 62 "OvenDays$Village" "dough" "I"]
def wsL_join_r4 : List Cond := [Cond.methodLink RX9 46 yX4_copyFrom, Cond.instanceMethod yX4_copyFrom, Cond.selects RX4 yX4_copyFrom yX4_copyFrom, Cond.code yX4_copyFrom cX4_copyFrom 2 none, Cond.methodLink RX4 24 yX7_copyFrom, Cond.instanceMethod yX7_copyFrom, Cond.selects RX7 yX7_copyFrom yX7_copyFrom, Cond.code yX7_copyFrom cX7_copyFrom 4 none, Cond.methodLink RX7 22 arraycopyName, Cond.native arraycopyName, Cond.static arraycopyName, Cond.initialized "java/lang/System", Cond.methodLink RX9 50 yX1_copyFrom, Cond.instanceMethod yX1_copyFrom, Cond.selects RX1 yX1_copyFrom yX1_copyFrom, Cond.initialized RX1, Cond.code yX1_copyFrom cX1_copyFrom 2 none, Cond.fieldLink RX1 14 "OvenDays$Batches" "rows" "LOvenDays$Table;", Cond.fieldLink RX1 20 "OvenDays$Batches" "count" "I", Cond.methodLink RX1 24 yX7_copyFrom, Cond.methodLink RX9 53 yX5_copyFrom, Cond.instanceMethod yX5_copyFrom, Cond.selects RX5 yX5_copyFrom yX5_copyFrom, Cond.initialized RX5]
def wsL_join_r5 : List Cond := [Cond.code yX5_copyFrom cX5_copyFrom 2 none, Cond.fieldLink RX5 14 "OvenDays$Loads" "rows" "LOvenDays$Table;", Cond.fieldLink RX5 20 "OvenDays$Loads" "count" "I", Cond.methodLink RX5 24 yX7_copyFrom, Cond.methodLink RX9 56 yX6_copyFrom, Cond.instanceMethod yX6_copyFrom, Cond.selects RX6 yX6_copyFrom yX6_copyFrom, Cond.initialized RX6, Cond.code yX6_copyFrom cX6_copyFrom 2 none, Cond.fieldLink RX6 16 "OvenDays$Loaves" "rows" "LOvenDays$Table;", Cond.fieldLink RX6 28 "OvenDays$Loaves" "cameOut" "I", Cond.fieldLink RX6 32 "OvenDays$Loaves" "pale" "I", Cond.methodLink RX6 20 yX6_kept, Cond.instanceMethod yX6_kept, Cond.selects RX6 yX6_kept yX6_kept, Cond.code yX6_kept cX6_kept 1 (some .int), Cond.methodLink RX6 35 Lib.Math.min.name, Cond.methodLink RX6 24 yX7_copyFrom, Cond.methodLink RX11 57 yX4_add, Cond.instanceMethod yX4_add, Cond.selects RX4 yX4_add yX4_add, Cond.code yX4_add cX4_add 3 (some .int), Cond.methodLink RX4 35 yX7_put, Cond.instanceMethod yX7_put]
def wsL_join_r6 : List Cond := [Cond.selects RX7 yX7_put yX7_put, Cond.code yX7_put cX7_put 4 none]
def wsL_join : List Cond := .codeWith yL_join cL_join 4 (some .int) [(0, 9, 12, 13), (0, 9, 15, 15)] :: ((wsL_join_r1 ++ (wsL_join_r2 ++ (wsL_join_r3 ++ (wsL_join_r4 ++ (wsL_join_r5 ++ wsL_join_r6))))) ++ wsX110 ++ wsX90 ++ wsX40 ++ wsX70 ++ wsX80 ++ wsX10 ++ wsX50 ++ wsX60 ++ (vx_atS RX11 285 "java/lang/IndexOutOfBoundsException" ["java/lang/RuntimeException", "java/lang/Exception"]).filter goodWord ++ (vx_atS RX11 292 "java/lang/IllegalArgumentException" ["java/lang/RuntimeException", "java/lang/Exception"]).filter goodWord ++ (vx_atS RX11 297 "java/lang/IllegalStateException" ["java/lang/RuntimeException", "java/lang/Exception"]).filter goodWord)
def wsL_remark_r1 : List Cond := [Cond.classLink RL 21 "java/lang/IndexOutOfBoundsException", Cond.classLink RL 13 "java/lang/IllegalArgumentException", Cond.classLink RL 15 "java/lang/IllegalStateException", Cond.methodLink RL 17 yX11_remark, Cond.instanceMethod yX11_remark, Cond.selects RX11 yX11_remark yX11_remark, Cond.initialized RX11, Cond.code yX11_remark cX11_remark 3 (some .int), Cond.fieldLink RX11 10 "OvenDays" "village" "LOvenDays$Village;", Cond.fieldLink RX11 26 "OvenDays" "undoStack" "LOvenDays$UndoStack;", Cond.methodLink RX11 62 yX9_whyNoOtherMark, Cond.instanceMethod yX9_whyNoOtherMark, Cond.selects RX9 yX9_whyNoOtherMark yX9_whyNoOtherMark, Cond.initialized RX9, Cond.code yX9_whyNoOtherMark cX9_whyNoOtherMark 4 (some .int), Cond.fieldLink RX9 12 "OvenDays$Village" "households" "LOvenDays$Households;", Cond.constant RX9 69 (65535), Cond.methodLink RX9 65 yX4_has, Cond.instanceMethod yX4_has, Cond.selects RX4 yX4_has yX4_has, Cond.initialized RX4, Cond.code yX4_has cX4_has 2 (some .boolean), Cond.fieldLink RX4 20 "OvenDays$Households" "count" "I", Cond.static yX11_whyNotWithin]
def wsL_remark_r2 : List Cond := [Cond.code yX11_whyNotWithin cX11_whyNotWithin 3 (some .int), Cond.methodLink RX9 78 yX4_withMark, Cond.instanceMethod yX4_withMark, Cond.selects RX4 yX4_withMark yX4_withMark, Cond.code yX4_withMark cX4_withMark 3 (some .int), Cond.fieldLink RX4 14 "OvenDays$Households" "rows" "LOvenDays$Table;", Cond.methodLink RX4 28 yX7_get, Cond.instanceMethod yX7_get, Cond.selects RX7 yX7_get yX7_get, Cond.initialized RX7, Cond.code yX7_get cX7_get 3 (some .int), Cond.fieldLink RX7 14 "OvenDays$Table" "room" "I", Cond.fieldLink RX7 9 "OvenDays$Table" "columns" "[[I", Cond.methodLink RX11 45 yX11_refuse, Cond.static yX11_refuse, Cond.code yX11_refuse cX11_refuse 1 none, Cond.classLink RX11 281 "java/lang/IndexOutOfBoundsException", Cond.initialized "java/lang/IndexOutOfBoundsException", Cond.classLink RX11 288 "java/lang/IllegalArgumentException", Cond.initialized "java/lang/IllegalArgumentException", Cond.classLink RX11 293 "java/lang/IllegalStateException", Cond.initialized "java/lang/IllegalStateException", Cond.methodLink RX11 49 yX8_push, Cond.instanceMethod yX8_push]
def wsL_remark_r3 : List Cond := [Cond.selects RX8 yX8_push yX8_push, Cond.initialized RX8, Cond.code yX8_push cX8_push 3 none, Cond.fieldLink RX8 20 "OvenDays$UndoStack" "latest" "I", Cond.fieldLink RX8 16 "OvenDays$UndoStack" "count" "I", Cond.methodLink RX8 31 Lib.Math.min.name, Cond.static Lib.Math.min.name, Cond.initialized "java/lang/Math", Cond.code Lib.Math.min.name Lib.Math.min.code 2 (some .int), Cond.methodLink RX8 23 yX8_stateAt, Cond.instanceMethod yX8_stateAt, Cond.selects RX8 yX8_stateAt yX8_stateAt, Cond.code yX8_stateAt cX8_stateAt 2 (some (.object "OvenDays$Village")), Cond.fieldLink RX8 11 "OvenDays$UndoStack" "states" "[LOvenDays$Village;", Cond.methodLink RX8 27 yX9_copyFrom, Cond.instanceMethod yX9_copyFrom, Cond.selects RX9 yX9_copyFrom yX9_copyFrom, Cond.code yX9_copyFrom cX9_copyFrom 2 none, Cond.fieldLink RX9 21 "OvenDays$Village" "batches" "LOvenDays$Batches;", Cond.fieldLink RX9 28 "OvenDays$Village" "loads" "LOvenDays$Loads;", Cond.fieldLink RX9 35 "OvenDays$Village" "loaves" "LOvenDays$Loaves;", Cond.fieldLink RX9 39 "OvenDays$Village" "heat" "I", Cond.fieldLink RX9 43 "OvenDays$Village" "s" "I", Cond.fieldLink RX9 59 "OvenDays$Village" "days" "I"]
def wsL_remark_r4 : List Cond := [Cond.fieldLink RX9 62 "OvenDays$Village" "dough" "I", Cond.methodLink RX9 46 yX4_copyFrom, Cond.instanceMethod yX4_copyFrom, Cond.selects RX4 yX4_copyFrom yX4_copyFrom, Cond.code yX4_copyFrom cX4_copyFrom 2 none, Cond.methodLink RX4 24 yX7_copyFrom, Cond.instanceMethod yX7_copyFrom, Cond.selects RX7 yX7_copyFrom yX7_copyFrom, Cond.code yX7_copyFrom cX7_copyFrom 4 none, Cond.methodLink RX7 22 arraycopyName, Cond.native arraycopyName, Cond.static arraycopyName, Cond.initialized "java/lang/System", Cond.methodLink RX9 50 yX1_copyFrom, Cond.instanceMethod yX1_copyFrom, Cond.selects RX1 yX1_copyFrom yX1_copyFrom, Cond.initialized RX1, Cond.code yX1_copyFrom cX1_copyFrom 2 none, Cond.fieldLink RX1 14 "OvenDays$Batches" "rows" "LOvenDays$Table;", Cond.fieldLink RX1 20 "OvenDays$Batches" "count" "I", Cond.methodLink RX1 24 yX7_copyFrom, Cond.methodLink RX9 53 yX5_copyFrom, Cond.instanceMethod yX5_copyFrom, Cond.selects RX5 yX5_copyFrom yX5_copyFrom]
def wsL_remark_r5 : List Cond := [Cond.initialized RX5, Cond.code yX5_copyFrom cX5_copyFrom 2 none, Cond.fieldLink RX5 14 "OvenDays$Loads" "rows" "LOvenDays$Table;", Cond.fieldLink RX5 20 "OvenDays$Loads" "count" "I", Cond.methodLink RX5 24 yX7_copyFrom, Cond.methodLink RX9 56 yX6_copyFrom, Cond.instanceMethod yX6_copyFrom, Cond.selects RX6 yX6_copyFrom yX6_copyFrom, Cond.initialized RX6, Cond.code yX6_copyFrom cX6_copyFrom 2 none, Cond.fieldLink RX6 16 "OvenDays$Loaves" "rows" "LOvenDays$Table;", Cond.fieldLink RX6 28 "OvenDays$Loaves" "cameOut" "I", Cond.fieldLink RX6 32 "OvenDays$Loaves" "pale" "I", Cond.methodLink RX6 20 yX6_kept, Cond.instanceMethod yX6_kept, Cond.selects RX6 yX6_kept yX6_kept, Cond.code yX6_kept cX6_kept 1 (some .int), Cond.methodLink RX6 35 Lib.Math.min.name, Cond.methodLink RX6 24 yX7_copyFrom, Cond.methodLink RX11 66 yX4_changeMark, Cond.instanceMethod yX4_changeMark, Cond.selects RX4 yX4_changeMark yX4_changeMark, Cond.code yX4_changeMark cX4_changeMark 4 (some .int), Cond.methodLink RX4 35 yX7_put]
def wsL_remark_r6 : List Cond := [Cond.instanceMethod yX7_put, Cond.selects RX7 yX7_put yX7_put, Cond.code yX7_put cX7_put 4 none]
def wsL_remark : List Cond := .codeWith yL_remark cL_remark 5 (some .int) [(0, 10, 13, 21), (0, 10, 17, 13), (0, 10, 21, 15)] :: ((wsL_remark_r1 ++ (wsL_remark_r2 ++ (wsL_remark_r3 ++ (wsL_remark_r4 ++ (wsL_remark_r5 ++ wsL_remark_r6))))) ++ wsX110 ++ wsX90 ++ wsX40 ++ wsX70 ++ wsX80 ++ wsX10 ++ wsX50 ++ wsX60 ++ (vx_atS RX11 285 "java/lang/IndexOutOfBoundsException" ["java/lang/RuntimeException", "java/lang/Exception"]).filter goodWord ++ (vx_atS RX11 292 "java/lang/IllegalArgumentException" ["java/lang/RuntimeException", "java/lang/Exception"]).filter goodWord ++ (vx_atS RX11 297 "java/lang/IllegalStateException" ["java/lang/RuntimeException", "java/lang/Exception"]).filter goodWord)
def wsL_excuse_r1 : List Cond := [Cond.classLink RL 21 "java/lang/IndexOutOfBoundsException", Cond.methodLink RL 23 yX11_excuse, Cond.instanceMethod yX11_excuse, Cond.selects RX11 yX11_excuse yX11_excuse, Cond.initialized RX11, Cond.code yX11_excuse cX11_excuse 2 (some .int), Cond.fieldLink RX11 10 "OvenDays" "village" "LOvenDays$Village;", Cond.fieldLink RX11 26 "OvenDays" "undoStack" "LOvenDays$UndoStack;", Cond.methodLink RX11 69 yX9_whyNoHousehold, Cond.instanceMethod yX9_whyNoHousehold, Cond.selects RX9 yX9_whyNoHousehold yX9_whyNoHousehold, Cond.initialized RX9, Cond.code yX9_whyNoHousehold cX9_whyNoHousehold 2 (some .int), Cond.fieldLink RX9 12 "OvenDays$Village" "households" "LOvenDays$Households;", Cond.methodLink RX9 65 yX4_has, Cond.instanceMethod yX4_has, Cond.selects RX4 yX4_has yX4_has, Cond.initialized RX4, Cond.code yX4_has cX4_has 2 (some .boolean), Cond.fieldLink RX4 20 "OvenDays$Households" "count" "I", Cond.methodLink RX11 45 yX11_refuse, Cond.static yX11_refuse, Cond.code yX11_refuse cX11_refuse 1 none, Cond.classLink RX11 281 "java/lang/IndexOutOfBoundsException"]
def wsL_excuse_r2 : List Cond := [Cond.initialized "java/lang/IndexOutOfBoundsException", Cond.classLink RX11 288 "java/lang/IllegalArgumentException", Cond.initialized "java/lang/IllegalArgumentException", Cond.classLink RX11 293 "java/lang/IllegalStateException", Cond.initialized "java/lang/IllegalStateException", Cond.methodLink RX11 49 yX8_push, Cond.instanceMethod yX8_push, Cond.selects RX8 yX8_push yX8_push, Cond.initialized RX8, Cond.code yX8_push cX8_push 3 none, Cond.fieldLink RX8 20 "OvenDays$UndoStack" "latest" "I", Cond.fieldLink RX8 16 "OvenDays$UndoStack" "count" "I", Cond.methodLink RX8 31 Lib.Math.min.name, Cond.static Lib.Math.min.name, Cond.initialized "java/lang/Math", Cond.code Lib.Math.min.name Lib.Math.min.code 2 (some .int), Cond.methodLink RX8 23 yX8_stateAt, Cond.instanceMethod yX8_stateAt, Cond.selects RX8 yX8_stateAt yX8_stateAt, Cond.code yX8_stateAt cX8_stateAt 2 (some (.object "OvenDays$Village")), Cond.fieldLink RX8 11 "OvenDays$UndoStack" "states" "[LOvenDays$Village;", Cond.methodLink RX8 27 yX9_copyFrom, Cond.instanceMethod yX9_copyFrom, Cond.selects RX9 yX9_copyFrom yX9_copyFrom]
def wsL_excuse_r3 : List Cond := [Cond.code yX9_copyFrom cX9_copyFrom 2 none, Cond.fieldLink RX9 21 "OvenDays$Village" "batches" "LOvenDays$Batches;", Cond.fieldLink RX9 28 "OvenDays$Village" "loads" "LOvenDays$Loads;", Cond.fieldLink RX9 35 "OvenDays$Village" "loaves" "LOvenDays$Loaves;", Cond.fieldLink RX9 39 "OvenDays$Village" "heat" "I", Cond.fieldLink RX9 43 "OvenDays$Village" "s" "I", Cond.fieldLink RX9 59 "OvenDays$Village" "days" "I", Cond.fieldLink RX9 62 "OvenDays$Village" "dough" "I", Cond.methodLink RX9 46 yX4_copyFrom, Cond.instanceMethod yX4_copyFrom, Cond.selects RX4 yX4_copyFrom yX4_copyFrom, Cond.code yX4_copyFrom cX4_copyFrom 2 none, Cond.fieldLink RX4 14 "OvenDays$Households" "rows" "LOvenDays$Table;", Cond.methodLink RX4 24 yX7_copyFrom, Cond.instanceMethod yX7_copyFrom, Cond.selects RX7 yX7_copyFrom yX7_copyFrom, Cond.initialized RX7, Cond.code yX7_copyFrom cX7_copyFrom 4 none, Cond.fieldLink RX7 14 "OvenDays$Table" "room" "I", Cond.fieldLink RX7 9 "OvenDays$Table" "columns" "[[I", Cond.methodLink RX7 22 arraycopyName, Cond.native arraycopyName, Cond.static arraycopyName, Cond.initialized "java/lang/System"]
def wsL_excuse_r4 : List Cond := [Cond.methodLink RX9 50 yX1_copyFrom, Cond.instanceMethod yX1_copyFrom, Cond.selects RX1 yX1_copyFrom yX1_copyFrom, Cond.initialized RX1, Cond.code yX1_copyFrom cX1_copyFrom 2 none, Cond.fieldLink RX1 14 "OvenDays$Batches" "rows" "LOvenDays$Table;", Cond.fieldLink RX1 20 "OvenDays$Batches" "count" "I", Cond.methodLink RX1 24 yX7_copyFrom, Cond.methodLink RX9 53 yX5_copyFrom, Cond.instanceMethod yX5_copyFrom, Cond.selects RX5 yX5_copyFrom yX5_copyFrom, Cond.initialized RX5, Cond.code yX5_copyFrom cX5_copyFrom 2 none, Cond.fieldLink RX5 14 "OvenDays$Loads" "rows" "LOvenDays$Table;", Cond.fieldLink RX5 20 "OvenDays$Loads" "count" "I", Cond.methodLink RX5 24 yX7_copyFrom, Cond.methodLink RX9 56 yX6_copyFrom, Cond.instanceMethod yX6_copyFrom, Cond.selects RX6 yX6_copyFrom yX6_copyFrom, Cond.initialized RX6, Cond.code yX6_copyFrom cX6_copyFrom 2 none, Cond.fieldLink RX6 16 "OvenDays$Loaves" "rows" "LOvenDays$Table;", Cond.fieldLink RX6 28 "OvenDays$Loaves" "cameOut" "I", Cond.fieldLink RX6 32 "OvenDays$Loaves" "pale" "I"]
def wsL_excuse_r5 : List Cond := [Cond.methodLink RX6 20 yX6_kept, Cond.instanceMethod yX6_kept, Cond.selects RX6 yX6_kept yX6_kept, Cond.code yX6_kept cX6_kept 1 (some .int), Cond.methodLink RX6 35 Lib.Math.min.name, Cond.methodLink RX6 24 yX7_copyFrom, Cond.methodLink RX11 72 yX4_excuseOne, Cond.instanceMethod yX4_excuseOne, Cond.selects RX4 yX4_excuseOne yX4_excuseOne, Cond.code yX4_excuseOne cX4_excuseOne 2 (some .int), Cond.methodLink RX4 35 yX7_put, Cond.instanceMethod yX7_put, Cond.selects RX7 yX7_put yX7_put, Cond.code yX7_put cX7_put 4 none, Cond.methodLink RX4 39 yX7_count, Cond.instanceMethod yX7_count, Cond.selects RX7 yX7_count yX7_count, Cond.code yX7_count cX7_count 4 (some .int), Cond.methodLink RX7 18 yX7_countBoth, Cond.instanceMethod yX7_countBoth, Cond.selects RX7 yX7_countBoth yX7_countBoth, Cond.code yX7_countBoth cX7_countBoth 10 (some .int)]
def wsL_excuse : List Cond := .codeWith yL_excuse cL_excuse 4 (some .int) [(0, 9, 12, 21)] :: ((wsL_excuse_r1 ++ (wsL_excuse_r2 ++ (wsL_excuse_r3 ++ (wsL_excuse_r4 ++ wsL_excuse_r5)))) ++ wsX110 ++ wsX90 ++ wsX40 ++ wsX80 ++ wsX70 ++ wsX10 ++ wsX50 ++ wsX60 ++ (vx_atS RX11 285 "java/lang/IndexOutOfBoundsException" ["java/lang/RuntimeException", "java/lang/Exception"]).filter goodWord ++ (vx_atS RX11 292 "java/lang/IllegalArgumentException" ["java/lang/RuntimeException", "java/lang/Exception"]).filter goodWord ++ (vx_atS RX11 297 "java/lang/IllegalStateException" ["java/lang/RuntimeException", "java/lang/Exception"]).filter goodWord)
def wsL_bring_r1 : List Cond := [Cond.classLink RL 21 "java/lang/IndexOutOfBoundsException", Cond.classLink RL 13 "java/lang/IllegalArgumentException", Cond.classLink RL 15 "java/lang/IllegalStateException", Cond.methodLink RL 26 yX11_bring, Cond.instanceMethod yX11_bring, Cond.selects RX11 yX11_bring yX11_bring, Cond.initialized RX11, Cond.code yX11_bring cX11_bring 4 (some .int), Cond.fieldLink RX11 10 "OvenDays" "village" "LOvenDays$Village;", Cond.fieldLink RX11 26 "OvenDays" "undoStack" "LOvenDays$UndoStack;", Cond.methodLink RX11 75 yX9_whyNoBatch, Cond.instanceMethod yX9_whyNoBatch, Cond.selects RX9 yX9_whyNoBatch yX9_whyNoBatch, Cond.initialized RX9, Cond.code yX9_whyNoBatch cX9_whyNoBatch 4 (some .int), Cond.fieldLink RX9 12 "OvenDays$Village" "households" "LOvenDays$Households;", Cond.fieldLink RX9 21 "OvenDays$Village" "batches" "LOvenDays$Batches;", Cond.methodLink RX9 65 yX4_has, Cond.instanceMethod yX4_has, Cond.selects RX4 yX4_has yX4_has, Cond.initialized RX4, Cond.code yX4_has cX4_has 2 (some .boolean), Cond.fieldLink RX4 20 "OvenDays$Households" "count" "I", Cond.static yX11_whyNotBelow]
def wsL_bring_r2 : List Cond := [Cond.code yX11_whyNotBelow cX11_whyNotBelow 2 (some .int), Cond.methodLink RX11 197 yX11_whyNotWithin, Cond.static yX11_whyNotWithin, Cond.code yX11_whyNotWithin cX11_whyNotWithin 3 (some .int), Cond.methodLink RX9 86 yX1_isFull, Cond.instanceMethod yX1_isFull, Cond.selects RX1 yX1_isFull yX1_isFull, Cond.initialized RX1, Cond.code yX1_isFull cX1_isFull 1 (some .boolean), Cond.fieldLink RX1 20 "OvenDays$Batches" "count" "I", Cond.methodLink RX11 45 yX11_refuse, Cond.static yX11_refuse, Cond.code yX11_refuse cX11_refuse 1 none, Cond.classLink RX11 281 "java/lang/IndexOutOfBoundsException", Cond.initialized "java/lang/IndexOutOfBoundsException", Cond.classLink RX11 288 "java/lang/IllegalArgumentException", Cond.initialized "java/lang/IllegalArgumentException", Cond.classLink RX11 293 "java/lang/IllegalStateException", Cond.initialized "java/lang/IllegalStateException", Cond.methodLink RX11 49 yX8_push, Cond.instanceMethod yX8_push, Cond.selects RX8 yX8_push yX8_push, Cond.initialized RX8, Cond.code yX8_push cX8_push 3 none]
def wsL_bring_r3 : List Cond := [Cond.fieldLink RX8 20 "OvenDays$UndoStack" "latest" "I", Cond.fieldLink RX8 16 "OvenDays$UndoStack" "count" "I", Cond.methodLink RX8 31 Lib.Math.min.name, Cond.static Lib.Math.min.name, Cond.initialized "java/lang/Math", Cond.code Lib.Math.min.name Lib.Math.min.code 2 (some .int), Cond.methodLink RX8 23 yX8_stateAt, Cond.instanceMethod yX8_stateAt, Cond.selects RX8 yX8_stateAt yX8_stateAt, Cond.code yX8_stateAt cX8_stateAt 2 (some (.object "OvenDays$Village")), Cond.fieldLink RX8 11 "OvenDays$UndoStack" "states" "[LOvenDays$Village;", Cond.methodLink RX8 27 yX9_copyFrom, Cond.instanceMethod yX9_copyFrom, Cond.selects RX9 yX9_copyFrom yX9_copyFrom, Cond.code yX9_copyFrom cX9_copyFrom 2 none, Cond.fieldLink RX9 28 "OvenDays$Village" "loads" "LOvenDays$Loads;", Cond.fieldLink RX9 35 "OvenDays$Village" "loaves" "LOvenDays$Loaves;", Cond.fieldLink RX9 39 "OvenDays$Village" "heat" "I", Cond.fieldLink RX9 43 "OvenDays$Village" "s" "I", Cond.fieldLink RX9 59 "OvenDays$Village" "days" "I", Cond.fieldLink RX9 62 "OvenDays$Village" "dough" "I", Cond.methodLink RX9 46 yX4_copyFrom, Cond.instanceMethod yX4_copyFrom, Cond.selects RX4 yX4_copyFrom yX4_copyFrom]
def wsL_bring_r4 : List Cond := [Cond.code yX4_copyFrom cX4_copyFrom 2 none, Cond.fieldLink RX4 14 "OvenDays$Households" "rows" "LOvenDays$Table;", Cond.methodLink RX4 24 yX7_copyFrom, Cond.instanceMethod yX7_copyFrom, Cond.selects RX7 yX7_copyFrom yX7_copyFrom, Cond.initialized RX7, Cond.code yX7_copyFrom cX7_copyFrom 4 none, Cond.fieldLink RX7 14 "OvenDays$Table" "room" "I", Cond.fieldLink RX7 9 "OvenDays$Table" "columns" "[[I", Cond.methodLink RX7 22 arraycopyName, Cond.native arraycopyName, Cond.static arraycopyName, Cond.initialized "java/lang/System", Cond.methodLink RX9 50 yX1_copyFrom, Cond.instanceMethod yX1_copyFrom, Cond.selects RX1 yX1_copyFrom yX1_copyFrom, Cond.code yX1_copyFrom cX1_copyFrom 2 none, Cond.fieldLink RX1 14 "OvenDays$Batches" "rows" "LOvenDays$Table;", Cond.methodLink RX1 24 yX7_copyFrom, Cond.methodLink RX9 53 yX5_copyFrom, Cond.instanceMethod yX5_copyFrom, Cond.selects RX5 yX5_copyFrom yX5_copyFrom, Cond.initialized RX5, Cond.code yX5_copyFrom cX5_copyFrom 2 none]
def wsL_bring_r5 : List Cond := [Cond.fieldLink RX5 14 "OvenDays$Loads" "rows" "LOvenDays$Table;", Cond.fieldLink RX5 20 "OvenDays$Loads" "count" "I", Cond.methodLink RX5 24 yX7_copyFrom, Cond.methodLink RX9 56 yX6_copyFrom, Cond.instanceMethod yX6_copyFrom, Cond.selects RX6 yX6_copyFrom yX6_copyFrom, Cond.initialized RX6, Cond.code yX6_copyFrom cX6_copyFrom 2 none, Cond.fieldLink RX6 16 "OvenDays$Loaves" "rows" "LOvenDays$Table;", Cond.fieldLink RX6 28 "OvenDays$Loaves" "cameOut" "I", Cond.fieldLink RX6 32 "OvenDays$Loaves" "pale" "I", Cond.methodLink RX6 20 yX6_kept, Cond.instanceMethod yX6_kept, Cond.selects RX6 yX6_kept yX6_kept, Cond.code yX6_kept cX6_kept 1 (some .int), Cond.methodLink RX6 35 Lib.Math.min.name, Cond.methodLink RX6 24 yX7_copyFrom, Cond.methodLink RX11 83 yX1_add, Cond.instanceMethod yX1_add, Cond.selects RX1 yX1_add yX1_add, Cond.code yX1_add cX1_add 5 (some .int), Cond.methodLink RX1 35 yX7_put, Cond.instanceMethod yX7_put, Cond.selects RX7 yX7_put yX7_put]
def wsL_bring_r6 : List Cond := [Cond.code yX7_put cX7_put 4 none]
def wsL_bring : List Cond := .codeWith yL_bring cL_bring 6 (some .int) [(0, 12, 15, 21), (0, 12, 19, 13), (0, 12, 23, 15)] :: ((wsL_bring_r1 ++ (wsL_bring_r2 ++ (wsL_bring_r3 ++ (wsL_bring_r4 ++ (wsL_bring_r5 ++ wsL_bring_r6))))) ++ wsX110 ++ wsX90 ++ wsX40 ++ wsX10 ++ wsX80 ++ wsX70 ++ wsX50 ++ wsX60 ++ (vx_atS RX11 285 "java/lang/IndexOutOfBoundsException" ["java/lang/RuntimeException", "java/lang/Exception"]).filter goodWord ++ (vx_atS RX11 292 "java/lang/IllegalArgumentException" ["java/lang/RuntimeException", "java/lang/Exception"]).filter goodWord ++ (vx_atS RX11 297 "java/lang/IllegalStateException" ["java/lang/RuntimeException", "java/lang/Exception"]).filter goodWord)
def wsL_takeBack_r1 : List Cond := [Cond.classLink RL 21 "java/lang/IndexOutOfBoundsException", Cond.methodLink RL 30 yX11_takeBack, Cond.instanceMethod yX11_takeBack, Cond.selects RX11 yX11_takeBack yX11_takeBack, Cond.initialized RX11, Cond.code yX11_takeBack cX11_takeBack 2 (some .int), Cond.fieldLink RX11 10 "OvenDays" "village" "LOvenDays$Village;", Cond.fieldLink RX11 26 "OvenDays" "undoStack" "LOvenDays$UndoStack;", Cond.methodLink RX11 87 yX1_has, Cond.instanceMethod yX1_has, Cond.selects RX1 yX1_has yX1_has, Cond.initialized RX1, Cond.code yX1_has cX1_has 2 (some .boolean), Cond.fieldLink RX1 20 "OvenDays$Batches" "count" "I", Cond.methodLink RX11 45 yX11_refuse, Cond.static yX11_refuse, Cond.code yX11_refuse cX11_refuse 1 none, Cond.classLink RX11 281 "java/lang/IndexOutOfBoundsException", Cond.initialized "java/lang/IndexOutOfBoundsException", Cond.classLink RX11 288 "java/lang/IllegalArgumentException", Cond.initialized "java/lang/IllegalArgumentException", Cond.classLink RX11 293 "java/lang/IllegalStateException", Cond.initialized "java/lang/IllegalStateException", Cond.methodLink RX11 49 yX8_push]
def wsL_takeBack_r2 : List Cond := [Cond.instanceMethod yX8_push, Cond.selects RX8 yX8_push yX8_push, Cond.initialized RX8, Cond.code yX8_push cX8_push 3 none, Cond.fieldLink RX8 20 "OvenDays$UndoStack" "latest" "I", Cond.fieldLink RX8 16 "OvenDays$UndoStack" "count" "I", Cond.methodLink RX8 31 Lib.Math.min.name, Cond.static Lib.Math.min.name, Cond.initialized "java/lang/Math", Cond.code Lib.Math.min.name Lib.Math.min.code 2 (some .int), Cond.methodLink RX8 23 yX8_stateAt, Cond.instanceMethod yX8_stateAt, Cond.selects RX8 yX8_stateAt yX8_stateAt, Cond.code yX8_stateAt cX8_stateAt 2 (some (.object "OvenDays$Village")), Cond.fieldLink RX8 11 "OvenDays$UndoStack" "states" "[LOvenDays$Village;", Cond.methodLink RX8 27 yX9_copyFrom, Cond.instanceMethod yX9_copyFrom, Cond.selects RX9 yX9_copyFrom yX9_copyFrom, Cond.initialized RX9, Cond.code yX9_copyFrom cX9_copyFrom 2 none, Cond.fieldLink RX9 12 "OvenDays$Village" "households" "LOvenDays$Households;", Cond.fieldLink RX9 21 "OvenDays$Village" "batches" "LOvenDays$Batches;", Cond.fieldLink RX9 28 "OvenDays$Village" "loads" "LOvenDays$Loads;", Cond.fieldLink RX9 35 "OvenDays$Village" "loaves" "LOvenDays$Loaves;"]
def wsL_takeBack_r3 : List Cond := [Cond.fieldLink RX9 39 "OvenDays$Village" "heat" "I", Cond.fieldLink RX9 43 "OvenDays$Village" "s" "I", Cond.fieldLink RX9 59 "OvenDays$Village" "days" "I", Cond.fieldLink RX9 62 "OvenDays$Village" "dough" "I", Cond.methodLink RX9 46 yX4_copyFrom, Cond.instanceMethod yX4_copyFrom, Cond.selects RX4 yX4_copyFrom yX4_copyFrom, Cond.initialized RX4, Cond.code yX4_copyFrom cX4_copyFrom 2 none, Cond.fieldLink RX4 14 "OvenDays$Households" "rows" "LOvenDays$Table;", Cond.fieldLink RX4 20 "OvenDays$Households" "count" "I", Cond.methodLink RX4 24 yX7_copyFrom, Cond.instanceMethod yX7_copyFrom, Cond.selects RX7 yX7_copyFrom yX7_copyFrom, Cond.initialized RX7, Cond.code yX7_copyFrom cX7_copyFrom 4 none, Cond.fieldLink RX7 14 "OvenDays$Table" "room" "I", Cond.fieldLink RX7 9 "OvenDays$Table" "columns" "[[I", Cond.methodLink RX7 22 arraycopyName, Cond.native arraycopyName, Cond.static arraycopyName, Cond.initialized "java/lang/System", Cond.methodLink RX9 50 yX1_copyFrom, Cond.instanceMethod yX1_copyFrom]
def wsL_takeBack_r4 : List Cond := [Cond.selects RX1 yX1_copyFrom yX1_copyFrom, Cond.code yX1_copyFrom cX1_copyFrom 2 none, Cond.fieldLink RX1 14 "OvenDays$Batches" "rows" "LOvenDays$Table;", Cond.methodLink RX1 24 yX7_copyFrom, Cond.methodLink RX9 53 yX5_copyFrom, Cond.instanceMethod yX5_copyFrom, Cond.selects RX5 yX5_copyFrom yX5_copyFrom, Cond.initialized RX5, Cond.code yX5_copyFrom cX5_copyFrom 2 none, Cond.fieldLink RX5 14 "OvenDays$Loads" "rows" "LOvenDays$Table;", Cond.fieldLink RX5 20 "OvenDays$Loads" "count" "I", Cond.methodLink RX5 24 yX7_copyFrom, Cond.methodLink RX9 56 yX6_copyFrom, Cond.instanceMethod yX6_copyFrom, Cond.selects RX6 yX6_copyFrom yX6_copyFrom, Cond.initialized RX6, Cond.code yX6_copyFrom cX6_copyFrom 2 none, Cond.fieldLink RX6 16 "OvenDays$Loaves" "rows" "LOvenDays$Table;", Cond.fieldLink RX6 28 "OvenDays$Loaves" "cameOut" "I", Cond.fieldLink RX6 32 "OvenDays$Loaves" "pale" "I", Cond.methodLink RX6 20 yX6_kept, Cond.instanceMethod yX6_kept, Cond.selects RX6 yX6_kept yX6_kept, Cond.code yX6_kept cX6_kept 1 (some .int)]
def wsL_takeBack_r5 : List Cond := [Cond.methodLink RX6 35 Lib.Math.min.name, Cond.methodLink RX6 24 yX7_copyFrom, Cond.methodLink RX11 91 yX1_remove, Cond.instanceMethod yX1_remove, Cond.selects RX1 yX1_remove yX1_remove, Cond.code yX1_remove cX1_remove 3 (some .int), Cond.methodLink RX1 28 yX7_get, Cond.instanceMethod yX7_get, Cond.selects RX7 yX7_get yX7_get, Cond.code yX7_get cX7_get 3 (some .int), Cond.methodLink RX1 39 yX7_remove, Cond.instanceMethod yX7_remove, Cond.selects RX7 yX7_remove yX7_remove, Cond.code yX7_remove cX7_remove 4 none]
def wsL_takeBack : List Cond := .codeWith yL_takeBack cL_takeBack 4 (some .int) [(0, 9, 12, 21)] :: ((wsL_takeBack_r1 ++ (wsL_takeBack_r2 ++ (wsL_takeBack_r3 ++ (wsL_takeBack_r4 ++ wsL_takeBack_r5)))) ++ wsX110 ++ wsX90 ++ wsX10 ++ wsX80 ++ wsX40 ++ wsX70 ++ wsX50 ++ wsX60 ++ (vx_atS RX11 285 "java/lang/IndexOutOfBoundsException" ["java/lang/RuntimeException", "java/lang/Exception"]).filter goodWord ++ (vx_atS RX11 292 "java/lang/IllegalArgumentException" ["java/lang/RuntimeException", "java/lang/Exception"]).filter goodWord ++ (vx_atS RX11 297 "java/lang/IllegalStateException" ["java/lang/RuntimeException", "java/lang/Exception"]).filter goodWord)
def wsL_setS_r1 : List Cond := [Cond.classLink RL 13 "java/lang/IllegalArgumentException", Cond.methodLink RL 33 yX11_setS, Cond.instanceMethod yX11_setS, Cond.selects RX11 yX11_setS yX11_setS, Cond.initialized RX11, Cond.code yX11_setS cX11_setS 2 (some .int), Cond.fieldLink RX11 26 "OvenDays" "undoStack" "LOvenDays$UndoStack;", Cond.fieldLink RX11 10 "OvenDays" "village" "LOvenDays$Village;", Cond.methodLink RX11 45 yX11_refuse, Cond.static yX11_refuse, Cond.code yX11_refuse cX11_refuse 1 none, Cond.classLink RX11 281 "java/lang/IndexOutOfBoundsException", Cond.initialized "java/lang/IndexOutOfBoundsException", Cond.classLink RX11 288 "java/lang/IllegalArgumentException", Cond.initialized "java/lang/IllegalArgumentException", Cond.classLink RX11 293 "java/lang/IllegalStateException", Cond.initialized "java/lang/IllegalStateException", Cond.methodLink RX11 49 yX8_push, Cond.instanceMethod yX8_push, Cond.selects RX8 yX8_push yX8_push, Cond.initialized RX8, Cond.code yX8_push cX8_push 3 none, Cond.fieldLink RX8 20 "OvenDays$UndoStack" "latest" "I", Cond.fieldLink RX8 16 "OvenDays$UndoStack" "count" "I"]
def wsL_setS_r2 : List Cond := [Cond.methodLink RX8 31 Lib.Math.min.name, Cond.static Lib.Math.min.name, Cond.initialized "java/lang/Math", Cond.code Lib.Math.min.name Lib.Math.min.code 2 (some .int), Cond.methodLink RX8 23 yX8_stateAt, Cond.instanceMethod yX8_stateAt, Cond.selects RX8 yX8_stateAt yX8_stateAt, Cond.code yX8_stateAt cX8_stateAt 2 (some (.object "OvenDays$Village")), Cond.fieldLink RX8 11 "OvenDays$UndoStack" "states" "[LOvenDays$Village;", Cond.methodLink RX8 27 yX9_copyFrom, Cond.instanceMethod yX9_copyFrom, Cond.selects RX9 yX9_copyFrom yX9_copyFrom, Cond.initialized RX9, Cond.code yX9_copyFrom cX9_copyFrom 2 none, Cond.fieldLink RX9 12 "OvenDays$Village" "households" "LOvenDays$Households;", Cond.fieldLink RX9 21 "OvenDays$Village" "batches" "LOvenDays$Batches;", Cond.fieldLink RX9 28 "OvenDays$Village" "loads" "LOvenDays$Loads;", Cond.fieldLink RX9 35 "OvenDays$Village" "loaves" "LOvenDays$Loaves;", Cond.fieldLink RX9 39 "OvenDays$Village" "heat" "I", Cond.fieldLink RX9 43 "OvenDays$Village" "s" "I", Cond.fieldLink RX9 59 "OvenDays$Village" "days" "I", Cond.fieldLink RX9 62 "OvenDays$Village" "dough" "I", Cond.methodLink RX9 46 yX4_copyFrom, Cond.instanceMethod yX4_copyFrom]
def wsL_setS_r3 : List Cond := [Cond.selects RX4 yX4_copyFrom yX4_copyFrom, Cond.initialized RX4, Cond.code yX4_copyFrom cX4_copyFrom 2 none, Cond.fieldLink RX4 14 "OvenDays$Households" "rows" "LOvenDays$Table;", Cond.fieldLink RX4 20 "OvenDays$Households" "count" "I", Cond.methodLink RX4 24 yX7_copyFrom, Cond.instanceMethod yX7_copyFrom, Cond.selects RX7 yX7_copyFrom yX7_copyFrom, Cond.initialized RX7, Cond.code yX7_copyFrom cX7_copyFrom 4 none, Cond.fieldLink RX7 14 "OvenDays$Table" "room" "I", Cond.fieldLink RX7 9 "OvenDays$Table" "columns" "[[I", Cond.methodLink RX7 22 arraycopyName, Cond.native arraycopyName, Cond.static arraycopyName, Cond.initialized "java/lang/System", Cond.methodLink RX9 50 yX1_copyFrom, Cond.instanceMethod yX1_copyFrom, Cond.selects RX1 yX1_copyFrom yX1_copyFrom, Cond.initialized RX1, Cond.code yX1_copyFrom cX1_copyFrom 2 none, Cond.fieldLink RX1 14 "OvenDays$Batches" "rows" "LOvenDays$Table;", Cond.fieldLink RX1 20 "OvenDays$Batches" "count" "I", Cond.methodLink RX1 24 yX7_copyFrom]
def wsL_setS_r4 : List Cond := [Cond.methodLink RX9 53 yX5_copyFrom, Cond.instanceMethod yX5_copyFrom, Cond.selects RX5 yX5_copyFrom yX5_copyFrom, Cond.initialized RX5, Cond.code yX5_copyFrom cX5_copyFrom 2 none, Cond.fieldLink RX5 14 "OvenDays$Loads" "rows" "LOvenDays$Table;", Cond.fieldLink RX5 20 "OvenDays$Loads" "count" "I", Cond.methodLink RX5 24 yX7_copyFrom, Cond.methodLink RX9 56 yX6_copyFrom, Cond.instanceMethod yX6_copyFrom, Cond.selects RX6 yX6_copyFrom yX6_copyFrom, Cond.initialized RX6, Cond.code yX6_copyFrom cX6_copyFrom 2 none, Cond.fieldLink RX6 16 "OvenDays$Loaves" "rows" "LOvenDays$Table;", Cond.fieldLink RX6 28 "OvenDays$Loaves" "cameOut" "I", Cond.fieldLink RX6 32 "OvenDays$Loaves" "pale" "I", Cond.methodLink RX6 20 yX6_kept, Cond.instanceMethod yX6_kept, Cond.selects RX6 yX6_kept yX6_kept, Cond.code yX6_kept cX6_kept 1 (some .int), Cond.methodLink RX6 35 Lib.Math.min.name, Cond.methodLink RX6 24 yX7_copyFrom, Cond.methodLink RX11 94 yX9_changeS, Cond.instanceMethod yX9_changeS]
def wsL_setS_r5 : List Cond := [Cond.selects RX9 yX9_changeS yX9_changeS, Cond.code yX9_changeS cX9_changeS 3 (some .int)]
def wsL_setS : List Cond := .codeWith yL_setS cL_setS 4 (some .int) [(0, 9, 12, 13)] :: ((wsL_setS_r1 ++ (wsL_setS_r2 ++ (wsL_setS_r3 ++ (wsL_setS_r4 ++ wsL_setS_r5)))) ++ wsX110 ++ wsX80 ++ wsX90 ++ wsX40 ++ wsX70 ++ wsX10 ++ wsX50 ++ wsX60 ++ (vx_atS RX11 285 "java/lang/IndexOutOfBoundsException" ["java/lang/RuntimeException", "java/lang/Exception"]).filter goodWord ++ (vx_atS RX11 292 "java/lang/IllegalArgumentException" ["java/lang/RuntimeException", "java/lang/Exception"]).filter goodWord ++ (vx_atS RX11 297 "java/lang/IllegalStateException" ["java/lang/RuntimeException", "java/lang/Exception"]).filter goodWord)
def wsL_bake_r1 : List Cond := [Cond.classLink RL 13 "java/lang/IllegalArgumentException", Cond.classLink RL 15 "java/lang/IllegalStateException", Cond.methodLink RL 36 yX11_bake, Cond.instanceMethod yX11_bake, Cond.selects RX11 yX11_bake yX11_bake, Cond.initialized RX11, Cond.code yX11_bake cX11_bake 2 (some .int), Cond.fieldLink RX11 10 "OvenDays" "village" "LOvenDays$Village;", Cond.fieldLink RX11 26 "OvenDays" "undoStack" "LOvenDays$UndoStack;", Cond.fieldLink RX11 19 "OvenDays" "plan" "LOvenDays$DayPlan;", Cond.methodLink RX11 97 yX9_whyNoDay, Cond.instanceMethod yX9_whyNoDay, Cond.selects RX9 yX9_whyNoDay yX9_whyNoDay, Cond.initialized RX9, Cond.code yX9_whyNoDay cX9_whyNoDay 2 (some .int), Cond.fieldLink RX9 21 "OvenDays$Village" "batches" "LOvenDays$Batches;", Cond.static yX11_whyNotWithin, Cond.code yX11_whyNotWithin cX11_whyNotWithin 3 (some .int), Cond.methodLink RX9 87 yX1_size, Cond.instanceMethod yX1_size, Cond.selects RX1 yX1_size yX1_size, Cond.initialized RX1, Cond.code yX1_size cX1_size 1 (some .int), Cond.fieldLink RX1 20 "OvenDays$Batches" "count" "I"]
def wsL_bake_r2 : List Cond := [Cond.methodLink RX11 45 yX11_refuse, Cond.static yX11_refuse, Cond.code yX11_refuse cX11_refuse 1 none, Cond.classLink RX11 281 "java/lang/IndexOutOfBoundsException", Cond.initialized "java/lang/IndexOutOfBoundsException", Cond.classLink RX11 288 "java/lang/IllegalArgumentException", Cond.initialized "java/lang/IllegalArgumentException", Cond.classLink RX11 293 "java/lang/IllegalStateException", Cond.initialized "java/lang/IllegalStateException", Cond.methodLink RX11 49 yX8_push, Cond.instanceMethod yX8_push, Cond.selects RX8 yX8_push yX8_push, Cond.initialized RX8, Cond.code yX8_push cX8_push 3 none, Cond.fieldLink RX8 20 "OvenDays$UndoStack" "latest" "I", Cond.fieldLink RX8 16 "OvenDays$UndoStack" "count" "I", Cond.methodLink RX8 31 Lib.Math.min.name, Cond.static Lib.Math.min.name, Cond.initialized "java/lang/Math", Cond.code Lib.Math.min.name Lib.Math.min.code 2 (some .int), Cond.methodLink RX8 23 yX8_stateAt, Cond.instanceMethod yX8_stateAt, Cond.selects RX8 yX8_stateAt yX8_stateAt, Cond.code yX8_stateAt cX8_stateAt 2 (some (.object "OvenDays$Village"))]
def wsL_bake_r3 : List Cond := [Cond.fieldLink RX8 11 "OvenDays$UndoStack" "states" "[LOvenDays$Village;", Cond.methodLink RX8 27 yX9_copyFrom, Cond.instanceMethod yX9_copyFrom, Cond.selects RX9 yX9_copyFrom yX9_copyFrom, Cond.code yX9_copyFrom cX9_copyFrom 2 none, Cond.fieldLink RX9 12 "OvenDays$Village" "households" "LOvenDays$Households;", Cond.fieldLink RX9 28 "OvenDays$Village" "loads" "LOvenDays$Loads;", Cond.fieldLink RX9 35 "OvenDays$Village" "loaves" "LOvenDays$Loaves;", Cond.fieldLink RX9 39 "OvenDays$Village" "heat" "I", Cond.fieldLink RX9 43 "OvenDays$Village" "s" "I", Cond.fieldLink RX9 59 "OvenDays$Village" "days" "I", Cond.fieldLink RX9 62 "OvenDays$Village" "dough" "I", Cond.methodLink RX9 46 yX4_copyFrom, Cond.instanceMethod yX4_copyFrom, Cond.selects RX4 yX4_copyFrom yX4_copyFrom, Cond.initialized RX4, Cond.code yX4_copyFrom cX4_copyFrom 2 none, Cond.fieldLink RX4 14 "OvenDays$Households" "rows" "LOvenDays$Table;", Cond.fieldLink RX4 20 "OvenDays$Households" "count" "I", Cond.methodLink RX4 24 yX7_copyFrom, Cond.instanceMethod yX7_copyFrom, Cond.selects RX7 yX7_copyFrom yX7_copyFrom, Cond.initialized RX7, Cond.code yX7_copyFrom cX7_copyFrom 4 none]
def wsL_bake_r4 : List Cond := [Cond.fieldLink RX7 14 "OvenDays$Table" "room" "I", Cond.fieldLink RX7 9 "OvenDays$Table" "columns" "[[I", Cond.methodLink RX7 22 arraycopyName, Cond.native arraycopyName, Cond.static arraycopyName, Cond.initialized "java/lang/System", Cond.methodLink RX9 50 yX1_copyFrom, Cond.instanceMethod yX1_copyFrom, Cond.selects RX1 yX1_copyFrom yX1_copyFrom, Cond.code yX1_copyFrom cX1_copyFrom 2 none, Cond.fieldLink RX1 14 "OvenDays$Batches" "rows" "LOvenDays$Table;", Cond.methodLink RX1 24 yX7_copyFrom, Cond.methodLink RX9 53 yX5_copyFrom, Cond.instanceMethod yX5_copyFrom, Cond.selects RX5 yX5_copyFrom yX5_copyFrom, Cond.initialized RX5, Cond.code yX5_copyFrom cX5_copyFrom 2 none, Cond.fieldLink RX5 14 "OvenDays$Loads" "rows" "LOvenDays$Table;", Cond.fieldLink RX5 20 "OvenDays$Loads" "count" "I", Cond.methodLink RX5 24 yX7_copyFrom, Cond.methodLink RX9 56 yX6_copyFrom, Cond.instanceMethod yX6_copyFrom, Cond.selects RX6 yX6_copyFrom yX6_copyFrom, Cond.initialized RX6]
def wsL_bake_r5 : List Cond := [Cond.code yX6_copyFrom cX6_copyFrom 2 none, Cond.fieldLink RX6 16 "OvenDays$Loaves" "rows" "LOvenDays$Table;", Cond.fieldLink RX6 28 "OvenDays$Loaves" "cameOut" "I", Cond.fieldLink RX6 32 "OvenDays$Loaves" "pale" "I", Cond.methodLink RX6 20 yX6_kept, Cond.instanceMethod yX6_kept, Cond.selects RX6 yX6_kept yX6_kept, Cond.code yX6_kept cX6_kept 1 (some .int), Cond.methodLink RX6 35 Lib.Math.min.name, Cond.methodLink RX6 24 yX7_copyFrom, Cond.methodLink RX11 100 yX9_haveDay, Cond.instanceMethod yX9_haveDay, Cond.selects RX9 yX9_haveDay yX9_haveDay, Cond.code yX9_haveDay cX9_haveDay 5 (some .int), Cond.methodLink RX9 146 Lib.Math.max.name, Cond.static Lib.Math.max.name, Cond.code Lib.Math.max.name Lib.Math.max.code 2 (some .int), Cond.methodLink RX9 112 yX6_cameOut, Cond.instanceMethod yX6_cameOut, Cond.selects RX6 yX6_cameOut yX6_cameOut, Cond.code yX6_cameOut cX6_cameOut 1 (some .int), Cond.methodLink RX9 115 yX9_arrangeNextDay, Cond.instanceMethod yX9_arrangeNextDay, Cond.selects RX9 yX9_arrangeNextDay yX9_arrangeNextDay]
def wsL_bake_r6 : List Cond := [Cond.code yX9_arrangeNextDay cX9_arrangeNextDay 2 none, Cond.methodLink RX9 102 yX4_size, Cond.instanceMethod yX4_size, Cond.selects RX4 yX4_size yX4_size, Cond.code yX4_size cX4_size 1 (some .int), Cond.methodLink RX9 103 yX4_nextOne, Cond.instanceMethod yX4_nextOne, Cond.selects RX4 yX4_nextOne yX4_nextOne, Cond.code yX4_nextOne cX4_nextOne 8 (some .int), Cond.methodLink RX4 39 yX7_count, Cond.instanceMethod yX7_count, Cond.selects RX7 yX7_count yX7_count, Cond.code yX7_count cX7_count 4 (some .int), Cond.methodLink RX7 18 yX7_countBoth, Cond.instanceMethod yX7_countBoth, Cond.selects RX7 yX7_countBoth yX7_countBoth, Cond.code yX7_countBoth cX7_countBoth 10 (some .int), Cond.methodLink RX4 28 yX7_get, Cond.instanceMethod yX7_get, Cond.selects RX7 yX7_get yX7_get, Cond.code yX7_get cX7_get 3 (some .int), Cond.methodLink RX4 46 yX4_dueOf, Cond.instanceMethod yX4_dueOf, Cond.selects RX4 yX4_dueOf yX4_dueOf]
def wsL_bake_r7 : List Cond := [Cond.code yX4_dueOf cX4_dueOf 6 (some .long), Cond.methodLink RX4 32 yX7_sum, Cond.instanceMethod yX7_sum, Cond.selects RX7 yX7_sum yX7_sum, Cond.code yX7_sum cX7_sum 6 (some .int), Cond.methodLink RX9 106 yX3_arrange, Cond.instanceMethod yX3_arrange, Cond.selects RX3 yX3_arrange yX3_arrange, Cond.initialized RX3, Cond.code yX3_arrange cX3_arrange 7 none, Cond.fieldLink RX3 31 "OvenDays$DayPlan" "count" "I", Cond.fieldLink RX3 9 "OvenDays$DayPlan" "order" "[I", Cond.methodLink RX3 35 yX1_size, Cond.methodLink RX3 41 yX1_value, Cond.instanceMethod yX1_value, Cond.selects RX1 yX1_value yX1_value, Cond.code yX1_value cX1_value 3 (some .int), Cond.methodLink RX1 28 yX7_get, Cond.methodLink RX9 119 yX4_bringWood, Cond.instanceMethod yX4_bringWood, Cond.selects RX4 yX4_bringWood yX4_bringWood, Cond.code yX4_bringWood cX4_bringWood 4 none, Cond.methodLink RX4 42 yX4_nextOne, Cond.methodLink RX4 35 yX7_put]
def wsL_bake_r8 : List Cond := [Cond.instanceMethod yX7_put, Cond.selects RX7 yX7_put yX7_put, Cond.code yX7_put cX7_put 4 none, Cond.methodLink RX9 123 yX9_heatWith, Cond.instanceMethod yX9_heatWith, Cond.selects RX9 yX9_heatWith yX9_heatWith, Cond.code yX9_heatWith cX9_heatWith 2 (some .int), Cond.methodLink RX9 97 Lib.Math.min.name, Cond.methodLink RX9 126 yX3_fire, Cond.instanceMethod yX3_fire, Cond.selects RX3 yX3_fire yX3_fire, Cond.code yX3_fire cX3_fire 5 none, Cond.fieldLink RX3 45 "OvenDays$DayPlan" "heat" "I", Cond.fieldLink RX3 52 "OvenDays$DayPlan" "left" "I", Cond.methodLink RX3 66 Lib.Math.max.name, Cond.methodLink RX3 48 yX3_startWaiting, Cond.instanceMethod yX3_startWaiting, Cond.selects RX3 yX3_startWaiting yX3_startWaiting, Cond.code yX3_startWaiting cX3_startWaiting 4 none, Cond.fieldLink RX3 24 "OvenDays$DayPlan" "loads" "LOvenDays$Loads;", Cond.fieldLink RX3 18 "OvenDays$DayPlan" "waiting" "[I", Cond.fieldLink RX3 15 "OvenDays$DayPlan" "loadAt" "[I", Cond.methodLink RX3 71 yX5_clear, Cond.instanceMethod yX5_clear]
def wsL_bake_r9 : List Cond := [Cond.selects RX5 yX5_clear yX5_clear, Cond.code yX5_clear cX5_clear 1 none, Cond.methodLink RX3 55 yX3_kindForHeat, Cond.instanceMethod yX3_kindForHeat, Cond.selects RX3 yX3_kindForHeat yX3_kindForHeat, Cond.code yX3_kindForHeat cX3_kindForHeat 2 (some .int), Cond.fieldLink RX3 28 "OvenDays$DayPlan" "LOWEST" "[I", Cond.fieldLink RX3 74 "OvenDays$DayPlan" "GREATEST" "[I", Cond.methodLink RX3 58 yX3_bakeLoad, Cond.instanceMethod yX3_bakeLoad, Cond.selects RX3 yX3_bakeLoad yX3_bakeLoad, Cond.code yX3_bakeLoad cX3_bakeLoad 9 none, Cond.fieldLink RX3 78 "OvenDays$DayPlan" "TICKS" "[I", Cond.methodLink RX3 77 yX5_size, Cond.instanceMethod yX5_size, Cond.selects RX5 yX5_size yX5_size, Cond.code yX5_size cX5_size 1 (some .int), Cond.methodLink RX3 81 yX5_add, Cond.instanceMethod yX5_add, Cond.selects RX5 yX5_add yX5_add, Cond.code yX5_add cX5_add 6 none, Cond.methodLink RX5 32 yX7_put, Cond.methodLink RX3 62 yX3_isTooHotForSome, Cond.instanceMethod yX3_isTooHotForSome]
def wsL_bake_r10 : List Cond := [Cond.selects RX3 yX3_isTooHotForSome yX3_isTooHotForSome, Cond.code yX3_isTooHotForSome cX3_isTooHotForSome 2 (some .boolean), Cond.methodLink RX9 130 yX3_loads, Cond.instanceMethod yX3_loads, Cond.selects RX3 yX3_loads yX3_loads, Cond.code yX3_loads cX3_loads 1 (some (.object "OvenDays$Loads")), Cond.methodLink RX9 133 yX9_bakeLoads, Cond.instanceMethod yX9_bakeLoads, Cond.selects RX9 yX9_bakeLoads yX9_bakeLoads, Cond.code yX9_bakeLoads cX9_bakeLoads 6 (some .int), Cond.methodLink RX9 152 yX5_size, Cond.methodLink RX9 153 yX3_size, Cond.instanceMethod yX3_size, Cond.selects RX3 yX3_size yX3_size, Cond.code yX3_size cX3_size 1 (some .int), Cond.methodLink RX9 154 yX3_loadAt, Cond.instanceMethod yX3_loadAt, Cond.selects RX3 yX3_loadAt yX3_loadAt, Cond.code yX3_loadAt cX3_loadAt 2 (some .int), Cond.methodLink RX9 157 yX3_batchAt, Cond.instanceMethod yX3_batchAt, Cond.selects RX3 yX3_batchAt yX3_batchAt, Cond.code yX3_batchAt cX3_batchAt 2 (some .int), Cond.methodLink RX9 160 yX5_value]
def wsL_bake_r11 : List Cond := [Cond.instanceMethod yX5_value, Cond.selects RX5 yX5_value yX5_value, Cond.code yX5_value cX5_value 3 (some .int), Cond.methodLink RX5 28 yX7_get, Cond.methodLink RX9 161 yX9_bakeBatch, Cond.instanceMethod yX9_bakeBatch, Cond.selects RX9 yX9_bakeBatch yX9_bakeBatch, Cond.code yX9_bakeBatch cX9_bakeBatch 9 none, Cond.methodLink RX9 165 yX1_value, Cond.methodLink RX9 91 yX4_value, Cond.instanceMethod yX4_value, Cond.selects RX4 yX4_value yX4_value, Cond.code yX4_value cX4_value 3 (some .int), Cond.methodLink RX9 166 yX3_paleBelow, Cond.static yX3_paleBelow, Cond.code yX3_paleBelow cX3_paleBelow 1 (some .int), Cond.methodLink RX9 169 yX4_putIn, Cond.instanceMethod yX4_putIn, Cond.selects RX4 yX4_putIn yX4_putIn, Cond.code yX4_putIn cX4_putIn 3 none, Cond.methodLink RX9 172 yX9_blur, Cond.instanceMethod yX9_blur, Cond.selects RX9 yX9_blur yX9_blur, Cond.code yX9_blur cX9_blur 5 (some .int)]
def wsL_bake_r12 : List Cond := [Cond.methodLink RX9 179 yX9_draw, Cond.instanceMethod yX9_draw, Cond.selects RX9 yX9_draw yX9_draw, Cond.code yX9_draw cX9_draw 2 (some .int), Cond.constantLong RX9 182 (1103515245), Cond.constantLong RX9 184 (12345), Cond.constantLong RX9 186 (2147483647), Cond.methodLink RX9 175 yX6_add, Cond.instanceMethod yX6_add, Cond.selects RX6 yX6_add yX6_add, Cond.code yX6_add cX6_add 8 none, Cond.methodLink RX6 47 yX7_put, Cond.methodLink RX6 51 yJ6_bitCount_0f7a4, Cond.static yJ6_bitCount_0f7a4, Cond.initialized RJ6, Cond.code yJ6_bitCount_0f7a4 cJ6_bitCount_0f7a4 1 (some .int), Cond.constant RJ6 265 (1431655765), Cond.constant RJ6 266 (858993459), Cond.constant RJ6 267 (252645135), Cond.methodLink RX9 137 yX6_sortFrom, Cond.instanceMethod yX6_sortFrom, Cond.selects RX6 yX6_sortFrom yX6_sortFrom, Cond.code yX6_sortFrom cX6_sortFrom 5 none, Cond.methodLink RX6 57 Lib.Math.max.name]
def wsL_bake_r13 : List Cond := [Cond.methodLink RX6 41 yX6_firstKept, Cond.instanceMethod yX6_firstKept, Cond.selects RX6 yX6_firstKept yX6_firstKept, Cond.code yX6_firstKept cX6_firstKept 1 (some .int), Cond.methodLink RX6 60 yX6_value, Cond.instanceMethod yX6_value, Cond.selects RX6 yX6_value yX6_value, Cond.code yX6_value cX6_value 3 (some .int), Cond.methodLink RX6 44 yX7_get, Cond.methodLink RX6 63 yX4_takerOf, Cond.instanceMethod yX4_takerOf, Cond.selects RX4 yX4_takerOf yX4_takerOf, Cond.code yX4_takerOf cX4_takerOf 8 (some .int), Cond.static yX11_contains, Cond.code yX11_contains cX11_contains 2 (some .boolean), Cond.methodLink RX4 54 yJ6_bitCount_0f7a4, Cond.methodLink RX6 68 yX6_give, Cond.instanceMethod yX6_give, Cond.selects RX6 yX6_give yX6_give, Cond.code yX6_give cX6_give 3 none, Cond.methodLink RX9 141 yX3_dough, Cond.instanceMethod yX3_dough, Cond.selects RX3 yX3_dough yX3_dough, Cond.code yX3_dough cX3_dough 4 (some .int)]
def wsL_bake_r14 : List Cond := [Cond.methodLink RX3 89 yX3_loadAt, Cond.methodLink RX3 85 yX3_batchAt, Cond.methodLink RX9 144 yX3_heat, Cond.instanceMethod yX3_heat, Cond.selects RX3 yX3_heat yX3_heat, Cond.code yX3_heat cX3_heat 1 (some .int), Cond.methodLink RX9 149 yX1_clear, Cond.instanceMethod yX1_clear, Cond.selects RX1 yX1_clear yX1_clear, Cond.code yX1_clear cX1_clear 1 none]
def wsL_bake : List Cond := .codeWith yL_bake cL_bake 4 (some .int) [(0, 9, 12, 13), (0, 9, 15, 15)] :: ((wsL_bake_r1 ++ (wsL_bake_r2 ++ (wsL_bake_r3 ++ (wsL_bake_r4 ++ (wsL_bake_r5 ++ (wsL_bake_r6 ++ (wsL_bake_r7 ++ (wsL_bake_r8 ++ (wsL_bake_r9 ++ (wsL_bake_r10 ++ (wsL_bake_r11 ++ (wsL_bake_r12 ++ (wsL_bake_r13 ++ wsL_bake_r14))))))))))))) ++ wsX110 ++ wsX90 ++ wsX10 ++ wsX80 ++ wsX40 ++ wsX70 ++ wsX50 ++ wsX60 ++ wsX30 ++ (vx_atS RX11 285 "java/lang/IndexOutOfBoundsException" ["java/lang/RuntimeException", "java/lang/Exception"]).filter goodWord ++ (vx_atS RX11 292 "java/lang/IllegalArgumentException" ["java/lang/RuntimeException", "java/lang/Exception"]).filter goodWord ++ (vx_atS RX11 297 "java/lang/IllegalStateException" ["java/lang/RuntimeException", "java/lang/Exception"]).filter goodWord)
def wsL_claim_r1 : List Cond := [Cond.classLink RL 21 "java/lang/IndexOutOfBoundsException", Cond.methodLink RL 39 yX11_claim, Cond.instanceMethod yX11_claim, Cond.selects RX11 yX11_claim yX11_claim, Cond.initialized RX11, Cond.code yX11_claim cX11_claim 2 (some .int), Cond.fieldLink RX11 10 "OvenDays" "village" "LOvenDays$Village;", Cond.fieldLink RX11 26 "OvenDays" "undoStack" "LOvenDays$UndoStack;", Cond.methodLink RX11 69 yX9_whyNoHousehold, Cond.instanceMethod yX9_whyNoHousehold, Cond.selects RX9 yX9_whyNoHousehold yX9_whyNoHousehold, Cond.initialized RX9, Cond.code yX9_whyNoHousehold cX9_whyNoHousehold 2 (some .int), Cond.fieldLink RX9 12 "OvenDays$Village" "households" "LOvenDays$Households;", Cond.methodLink RX9 65 yX4_has, Cond.instanceMethod yX4_has, Cond.selects RX4 yX4_has yX4_has, Cond.initialized RX4, Cond.code yX4_has cX4_has 2 (some .boolean), Cond.fieldLink RX4 20 "OvenDays$Households" "count" "I", Cond.methodLink RX11 45 yX11_refuse, Cond.static yX11_refuse, Cond.code yX11_refuse cX11_refuse 1 none, Cond.classLink RX11 281 "java/lang/IndexOutOfBoundsException"]
def wsL_claim_r2 : List Cond := [Cond.initialized "java/lang/IndexOutOfBoundsException", Cond.classLink RX11 288 "java/lang/IllegalArgumentException", Cond.initialized "java/lang/IllegalArgumentException", Cond.classLink RX11 293 "java/lang/IllegalStateException", Cond.initialized "java/lang/IllegalStateException", Cond.methodLink RX11 49 yX8_push, Cond.instanceMethod yX8_push, Cond.selects RX8 yX8_push yX8_push, Cond.initialized RX8, Cond.code yX8_push cX8_push 3 none, Cond.fieldLink RX8 20 "OvenDays$UndoStack" "latest" "I", Cond.fieldLink RX8 16 "OvenDays$UndoStack" "count" "I", Cond.methodLink RX8 31 Lib.Math.min.name, Cond.static Lib.Math.min.name, Cond.initialized "java/lang/Math", Cond.code Lib.Math.min.name Lib.Math.min.code 2 (some .int), Cond.methodLink RX8 23 yX8_stateAt, Cond.instanceMethod yX8_stateAt, Cond.selects RX8 yX8_stateAt yX8_stateAt, Cond.code yX8_stateAt cX8_stateAt 2 (some (.object "OvenDays$Village")), Cond.fieldLink RX8 11 "OvenDays$UndoStack" "states" "[LOvenDays$Village;", Cond.methodLink RX8 27 yX9_copyFrom, Cond.instanceMethod yX9_copyFrom, Cond.selects RX9 yX9_copyFrom yX9_copyFrom]
def wsL_claim_r3 : List Cond := [Cond.code yX9_copyFrom cX9_copyFrom 2 none, Cond.fieldLink RX9 21 "OvenDays$Village" "batches" "LOvenDays$Batches;", Cond.fieldLink RX9 28 "OvenDays$Village" "loads" "LOvenDays$Loads;", Cond.fieldLink RX9 35 "OvenDays$Village" "loaves" "LOvenDays$Loaves;", Cond.fieldLink RX9 39 "OvenDays$Village" "heat" "I", Cond.fieldLink RX9 43 "OvenDays$Village" "s" "I", Cond.fieldLink RX9 59 "OvenDays$Village" "days" "I", Cond.fieldLink RX9 62 "OvenDays$Village" "dough" "I", Cond.methodLink RX9 46 yX4_copyFrom, Cond.instanceMethod yX4_copyFrom, Cond.selects RX4 yX4_copyFrom yX4_copyFrom, Cond.code yX4_copyFrom cX4_copyFrom 2 none, Cond.fieldLink RX4 14 "OvenDays$Households" "rows" "LOvenDays$Table;", Cond.methodLink RX4 24 yX7_copyFrom, Cond.instanceMethod yX7_copyFrom, Cond.selects RX7 yX7_copyFrom yX7_copyFrom, Cond.initialized RX7, Cond.code yX7_copyFrom cX7_copyFrom 4 none, Cond.fieldLink RX7 14 "OvenDays$Table" "room" "I", Cond.fieldLink RX7 9 "OvenDays$Table" "columns" "[[I", Cond.methodLink RX7 22 arraycopyName, Cond.native arraycopyName, Cond.static arraycopyName, Cond.initialized "java/lang/System"]
def wsL_claim_r4 : List Cond := [Cond.methodLink RX9 50 yX1_copyFrom, Cond.instanceMethod yX1_copyFrom, Cond.selects RX1 yX1_copyFrom yX1_copyFrom, Cond.initialized RX1, Cond.code yX1_copyFrom cX1_copyFrom 2 none, Cond.fieldLink RX1 14 "OvenDays$Batches" "rows" "LOvenDays$Table;", Cond.fieldLink RX1 20 "OvenDays$Batches" "count" "I", Cond.methodLink RX1 24 yX7_copyFrom, Cond.methodLink RX9 53 yX5_copyFrom, Cond.instanceMethod yX5_copyFrom, Cond.selects RX5 yX5_copyFrom yX5_copyFrom, Cond.initialized RX5, Cond.code yX5_copyFrom cX5_copyFrom 2 none, Cond.fieldLink RX5 14 "OvenDays$Loads" "rows" "LOvenDays$Table;", Cond.fieldLink RX5 20 "OvenDays$Loads" "count" "I", Cond.methodLink RX5 24 yX7_copyFrom, Cond.methodLink RX9 56 yX6_copyFrom, Cond.instanceMethod yX6_copyFrom, Cond.selects RX6 yX6_copyFrom yX6_copyFrom, Cond.initialized RX6, Cond.code yX6_copyFrom cX6_copyFrom 2 none, Cond.fieldLink RX6 16 "OvenDays$Loaves" "rows" "LOvenDays$Table;", Cond.fieldLink RX6 28 "OvenDays$Loaves" "cameOut" "I", Cond.fieldLink RX6 32 "OvenDays$Loaves" "pale" "I"]
def wsL_claim_r5 : List Cond := [Cond.methodLink RX6 20 yX6_kept, Cond.instanceMethod yX6_kept, Cond.selects RX6 yX6_kept yX6_kept, Cond.code yX6_kept cX6_kept 1 (some .int), Cond.methodLink RX6 35 Lib.Math.min.name, Cond.methodLink RX6 24 yX7_copyFrom, Cond.methodLink RX11 104 yX9_letClaim, Cond.instanceMethod yX9_letClaim, Cond.selects RX9 yX9_letClaim yX9_letClaim, Cond.code yX9_letClaim cX9_letClaim 2 (some .int), Cond.methodLink RX9 91 yX4_value, Cond.instanceMethod yX4_value, Cond.selects RX4 yX4_value yX4_value, Cond.code yX4_value cX4_value 3 (some .int), Cond.methodLink RX4 28 yX7_get, Cond.instanceMethod yX7_get, Cond.selects RX7 yX7_get yX7_get, Cond.code yX7_get cX7_get 3 (some .int), Cond.methodLink RX9 94 yX6_moveFromShelf, Cond.instanceMethod yX6_moveFromShelf, Cond.selects RX6 yX6_moveFromShelf yX6_moveFromShelf, Cond.code yX6_moveFromShelf cX6_moveFromShelf 7 (some .int), Cond.methodLink RX6 83 yX6_balanceOf, Cond.instanceMethod yX6_balanceOf]
def wsL_claim_r6 : List Cond := [Cond.selects RX6 yX6_balanceOf yX6_balanceOf, Cond.code yX6_balanceOf cX6_balanceOf 3 (some .int), Cond.methodLink RX6 79 yX6_countWithBoth, Cond.instanceMethod yX6_countWithBoth, Cond.selects RX6 yX6_countWithBoth yX6_countWithBoth, Cond.code yX6_countWithBoth cX6_countWithBoth 5 (some .int), Cond.methodLink RX6 75 yX7_countBoth, Cond.instanceMethod yX7_countBoth, Cond.selects RX7 yX7_countBoth yX7_countBoth, Cond.code yX7_countBoth cX7_countBoth 10 (some .int), Cond.methodLink RX6 41 yX6_firstKept, Cond.instanceMethod yX6_firstKept, Cond.selects RX6 yX6_firstKept yX6_firstKept, Cond.code yX6_firstKept cX6_firstKept 1 (some .int), Cond.methodLink RX6 60 yX6_value, Cond.instanceMethod yX6_value, Cond.selects RX6 yX6_value yX6_value, Cond.code yX6_value cX6_value 3 (some .int), Cond.methodLink RX6 44 yX7_get, Cond.static yX11_contains, Cond.code yX11_contains cX11_contains 2 (some .boolean), Cond.methodLink RX6 68 yX6_give, Cond.instanceMethod yX6_give, Cond.selects RX6 yX6_give yX6_give]
def wsL_claim_r7 : List Cond := [Cond.code yX6_give cX6_give 3 none, Cond.methodLink RX6 47 yX7_put, Cond.instanceMethod yX7_put, Cond.selects RX7 yX7_put yX7_put, Cond.code yX7_put cX7_put 4 none]
def wsL_claim : List Cond := .codeWith yL_claim cL_claim 4 (some .int) [(0, 9, 12, 21)] :: ((wsL_claim_r1 ++ (wsL_claim_r2 ++ (wsL_claim_r3 ++ (wsL_claim_r4 ++ (wsL_claim_r5 ++ (wsL_claim_r6 ++ wsL_claim_r7)))))) ++ wsX110 ++ wsX90 ++ wsX40 ++ wsX80 ++ wsX70 ++ wsX10 ++ wsX50 ++ wsX60 ++ (vx_atS RX11 285 "java/lang/IndexOutOfBoundsException" ["java/lang/RuntimeException", "java/lang/Exception"]).filter goodWord ++ (vx_atS RX11 292 "java/lang/IllegalArgumentException" ["java/lang/RuntimeException", "java/lang/Exception"]).filter goodWord ++ (vx_atS RX11 297 "java/lang/IllegalStateException" ["java/lang/RuntimeException", "java/lang/Exception"]).filter goodWord)
def wsL_returnLoaves_r1 : List Cond := [Cond.classLink RL 21 "java/lang/IndexOutOfBoundsException", Cond.methodLink RL 42 yX11_returnLoaves, Cond.instanceMethod yX11_returnLoaves, Cond.selects RX11 yX11_returnLoaves yX11_returnLoaves, Cond.initialized RX11, Cond.code yX11_returnLoaves cX11_returnLoaves 2 (some .int), Cond.fieldLink RX11 10 "OvenDays" "village" "LOvenDays$Village;", Cond.fieldLink RX11 26 "OvenDays" "undoStack" "LOvenDays$UndoStack;", Cond.methodLink RX11 69 yX9_whyNoHousehold, Cond.instanceMethod yX9_whyNoHousehold, Cond.selects RX9 yX9_whyNoHousehold yX9_whyNoHousehold, Cond.initialized RX9, Cond.code yX9_whyNoHousehold cX9_whyNoHousehold 2 (some .int), Cond.fieldLink RX9 12 "OvenDays$Village" "households" "LOvenDays$Households;", Cond.methodLink RX9 65 yX4_has, Cond.instanceMethod yX4_has, Cond.selects RX4 yX4_has yX4_has, Cond.initialized RX4, Cond.code yX4_has cX4_has 2 (some .boolean), Cond.fieldLink RX4 20 "OvenDays$Households" "count" "I", Cond.methodLink RX11 45 yX11_refuse, Cond.static yX11_refuse, Cond.code yX11_refuse cX11_refuse 1 none, Cond.classLink RX11 281 "java/lang/IndexOutOfBoundsException"]
def wsL_returnLoaves_r2 : List Cond := [Cond.initialized "java/lang/IndexOutOfBoundsException", Cond.classLink RX11 288 "java/lang/IllegalArgumentException", Cond.initialized "java/lang/IllegalArgumentException", Cond.classLink RX11 293 "java/lang/IllegalStateException", Cond.initialized "java/lang/IllegalStateException", Cond.methodLink RX11 49 yX8_push, Cond.instanceMethod yX8_push, Cond.selects RX8 yX8_push yX8_push, Cond.initialized RX8, Cond.code yX8_push cX8_push 3 none, Cond.fieldLink RX8 20 "OvenDays$UndoStack" "latest" "I", Cond.fieldLink RX8 16 "OvenDays$UndoStack" "count" "I", Cond.methodLink RX8 31 Lib.Math.min.name, Cond.static Lib.Math.min.name, Cond.initialized "java/lang/Math", Cond.code Lib.Math.min.name Lib.Math.min.code 2 (some .int), Cond.methodLink RX8 23 yX8_stateAt, Cond.instanceMethod yX8_stateAt, Cond.selects RX8 yX8_stateAt yX8_stateAt, Cond.code yX8_stateAt cX8_stateAt 2 (some (.object "OvenDays$Village")), Cond.fieldLink RX8 11 "OvenDays$UndoStack" "states" "[LOvenDays$Village;", Cond.methodLink RX8 27 yX9_copyFrom, Cond.instanceMethod yX9_copyFrom, Cond.selects RX9 yX9_copyFrom yX9_copyFrom]
def wsL_returnLoaves_r3 : List Cond := [Cond.code yX9_copyFrom cX9_copyFrom 2 none, Cond.fieldLink RX9 21 "OvenDays$Village" "batches" "LOvenDays$Batches;", Cond.fieldLink RX9 28 "OvenDays$Village" "loads" "LOvenDays$Loads;", Cond.fieldLink RX9 35 "OvenDays$Village" "loaves" "LOvenDays$Loaves;", Cond.fieldLink RX9 39 "OvenDays$Village" "heat" "I", Cond.fieldLink RX9 43 "OvenDays$Village" "s" "I", Cond.fieldLink RX9 59 "OvenDays$Village" "days" "I", Cond.fieldLink RX9 62 "OvenDays$Village" "dough" "I", Cond.methodLink RX9 46 yX4_copyFrom, Cond.instanceMethod yX4_copyFrom, Cond.selects RX4 yX4_copyFrom yX4_copyFrom, Cond.code yX4_copyFrom cX4_copyFrom 2 none, Cond.fieldLink RX4 14 "OvenDays$Households" "rows" "LOvenDays$Table;", Cond.methodLink RX4 24 yX7_copyFrom, Cond.instanceMethod yX7_copyFrom, Cond.selects RX7 yX7_copyFrom yX7_copyFrom, Cond.initialized RX7, Cond.code yX7_copyFrom cX7_copyFrom 4 none, Cond.fieldLink RX7 14 "OvenDays$Table" "room" "I", Cond.fieldLink RX7 9 "OvenDays$Table" "columns" "[[I", Cond.methodLink RX7 22 arraycopyName, Cond.native arraycopyName, Cond.static arraycopyName, Cond.initialized "java/lang/System"]
def wsL_returnLoaves_r4 : List Cond := [Cond.methodLink RX9 50 yX1_copyFrom, Cond.instanceMethod yX1_copyFrom, Cond.selects RX1 yX1_copyFrom yX1_copyFrom, Cond.initialized RX1, Cond.code yX1_copyFrom cX1_copyFrom 2 none, Cond.fieldLink RX1 14 "OvenDays$Batches" "rows" "LOvenDays$Table;", Cond.fieldLink RX1 20 "OvenDays$Batches" "count" "I", Cond.methodLink RX1 24 yX7_copyFrom, Cond.methodLink RX9 53 yX5_copyFrom, Cond.instanceMethod yX5_copyFrom, Cond.selects RX5 yX5_copyFrom yX5_copyFrom, Cond.initialized RX5, Cond.code yX5_copyFrom cX5_copyFrom 2 none, Cond.fieldLink RX5 14 "OvenDays$Loads" "rows" "LOvenDays$Table;", Cond.fieldLink RX5 20 "OvenDays$Loads" "count" "I", Cond.methodLink RX5 24 yX7_copyFrom, Cond.methodLink RX9 56 yX6_copyFrom, Cond.instanceMethod yX6_copyFrom, Cond.selects RX6 yX6_copyFrom yX6_copyFrom, Cond.initialized RX6, Cond.code yX6_copyFrom cX6_copyFrom 2 none, Cond.fieldLink RX6 16 "OvenDays$Loaves" "rows" "LOvenDays$Table;", Cond.fieldLink RX6 28 "OvenDays$Loaves" "cameOut" "I", Cond.fieldLink RX6 32 "OvenDays$Loaves" "pale" "I"]
def wsL_returnLoaves_r5 : List Cond := [Cond.methodLink RX6 20 yX6_kept, Cond.instanceMethod yX6_kept, Cond.selects RX6 yX6_kept yX6_kept, Cond.code yX6_kept cX6_kept 1 (some .int), Cond.methodLink RX6 35 Lib.Math.min.name, Cond.methodLink RX6 24 yX7_copyFrom, Cond.methodLink RX11 111 yX6_moveToShelf, Cond.instanceMethod yX6_moveToShelf, Cond.selects RX6 yX6_moveToShelf yX6_moveToShelf, Cond.code yX6_moveToShelf cX6_moveToShelf 6 (some .int), Cond.methodLink RX6 83 yX6_balanceOf, Cond.instanceMethod yX6_balanceOf, Cond.selects RX6 yX6_balanceOf yX6_balanceOf, Cond.code yX6_balanceOf cX6_balanceOf 3 (some .int), Cond.methodLink RX6 79 yX6_countWithBoth, Cond.instanceMethod yX6_countWithBoth, Cond.selects RX6 yX6_countWithBoth yX6_countWithBoth, Cond.code yX6_countWithBoth cX6_countWithBoth 5 (some .int), Cond.methodLink RX6 75 yX7_countBoth, Cond.instanceMethod yX7_countBoth, Cond.selects RX7 yX7_countBoth yX7_countBoth, Cond.code yX7_countBoth cX7_countBoth 10 (some .int), Cond.methodLink RX6 41 yX6_firstKept, Cond.instanceMethod yX6_firstKept]
def wsL_returnLoaves_r6 : List Cond := [Cond.selects RX6 yX6_firstKept yX6_firstKept, Cond.code yX6_firstKept cX6_firstKept 1 (some .int), Cond.methodLink RX6 60 yX6_value, Cond.instanceMethod yX6_value, Cond.selects RX6 yX6_value yX6_value, Cond.code yX6_value cX6_value 3 (some .int), Cond.methodLink RX6 44 yX7_get, Cond.instanceMethod yX7_get, Cond.selects RX7 yX7_get yX7_get, Cond.code yX7_get cX7_get 3 (some .int), Cond.methodLink RX6 68 yX6_give, Cond.instanceMethod yX6_give, Cond.selects RX6 yX6_give yX6_give, Cond.code yX6_give cX6_give 3 none, Cond.methodLink RX6 47 yX7_put, Cond.instanceMethod yX7_put, Cond.selects RX7 yX7_put yX7_put, Cond.code yX7_put cX7_put 4 none]
def wsL_returnLoaves : List Cond := .codeWith yL_returnLoaves cL_returnLoaves 4 (some .int) [(0, 9, 12, 21)] :: ((wsL_returnLoaves_r1 ++ (wsL_returnLoaves_r2 ++ (wsL_returnLoaves_r3 ++ (wsL_returnLoaves_r4 ++ (wsL_returnLoaves_r5 ++ wsL_returnLoaves_r6))))) ++ wsX110 ++ wsX90 ++ wsX40 ++ wsX80 ++ wsX70 ++ wsX10 ++ wsX50 ++ wsX60 ++ (vx_atS RX11 285 "java/lang/IndexOutOfBoundsException" ["java/lang/RuntimeException", "java/lang/Exception"]).filter goodWord ++ (vx_atS RX11 292 "java/lang/IllegalArgumentException" ["java/lang/RuntimeException", "java/lang/Exception"]).filter goodWord ++ (vx_atS RX11 297 "java/lang/IllegalStateException" ["java/lang/RuntimeException", "java/lang/Exception"]).filter goodWord)
def wsL_household_r1 : List Cond := [Cond.classLink RL 21 "java/lang/IndexOutOfBoundsException", Cond.classLink RL 13 "java/lang/IllegalArgumentException", Cond.methodLink RL 45 yX11_household, Cond.instanceMethod yX11_household, Cond.selects RX11 yX11_household yX11_household, Cond.initialized RX11, Cond.code yX11_household cX11_household 3 (some .int), Cond.fieldLink RX11 10 "OvenDays" "village" "LOvenDays$Village;", Cond.methodLink RX11 69 yX9_whyNoHousehold, Cond.instanceMethod yX9_whyNoHousehold, Cond.selects RX9 yX9_whyNoHousehold yX9_whyNoHousehold, Cond.initialized RX9, Cond.code yX9_whyNoHousehold cX9_whyNoHousehold 2 (some .int), Cond.fieldLink RX9 12 "OvenDays$Village" "households" "LOvenDays$Households;", Cond.methodLink RX9 65 yX4_has, Cond.instanceMethod yX4_has, Cond.selects RX4 yX4_has yX4_has, Cond.initialized RX4, Cond.code yX4_has cX4_has 2 (some .boolean), Cond.fieldLink RX4 20 "OvenDays$Households" "count" "I", Cond.methodLink RX11 45 yX11_refuse, Cond.static yX11_refuse, Cond.code yX11_refuse cX11_refuse 1 none, Cond.classLink RX11 281 "java/lang/IndexOutOfBoundsException"]
def wsL_household_r2 : List Cond := [Cond.initialized "java/lang/IndexOutOfBoundsException", Cond.classLink RX11 288 "java/lang/IllegalArgumentException", Cond.initialized "java/lang/IllegalArgumentException", Cond.classLink RX11 293 "java/lang/IllegalStateException", Cond.initialized "java/lang/IllegalStateException", Cond.methodLink RX11 120 yX11_whyNotBelow, Cond.static yX11_whyNotBelow, Cond.code yX11_whyNotBelow cX11_whyNotBelow 2 (some .int), Cond.methodLink RX11 197 yX11_whyNotWithin, Cond.static yX11_whyNotWithin, Cond.code yX11_whyNotWithin cX11_whyNotWithin 3 (some .int), Cond.methodLink RX11 123 yX6_countWith, Cond.instanceMethod yX6_countWith, Cond.selects RX6 yX6_countWith yX6_countWith, Cond.initialized RX6, Cond.code yX6_countWith cX6_countWith 3 (some .int), Cond.fieldLink RX6 16 "OvenDays$Loaves" "rows" "LOvenDays$Table;", Cond.methodLink RX6 20 yX6_kept, Cond.instanceMethod yX6_kept, Cond.selects RX6 yX6_kept yX6_kept, Cond.code yX6_kept cX6_kept 1 (some .int), Cond.fieldLink RX6 28 "OvenDays$Loaves" "cameOut" "I", Cond.methodLink RX6 35 Lib.Math.min.name, Cond.static Lib.Math.min.name]
def wsL_household_r3 : List Cond := [Cond.initialized "java/lang/Math", Cond.code Lib.Math.min.name Lib.Math.min.code 2 (some .int), Cond.methodLink RX6 71 yX7_count, Cond.instanceMethod yX7_count, Cond.selects RX7 yX7_count yX7_count, Cond.initialized RX7, Cond.code yX7_count cX7_count 4 (some .int), Cond.methodLink RX7 18 yX7_countBoth, Cond.instanceMethod yX7_countBoth, Cond.selects RX7 yX7_countBoth yX7_countBoth, Cond.code yX7_countBoth cX7_countBoth 10 (some .int), Cond.fieldLink RX7 9 "OvenDays$Table" "columns" "[[I", Cond.fieldLink RX7 14 "OvenDays$Table" "room" "I", Cond.methodLink RX11 126 yX6_countWithBoth, Cond.instanceMethod yX6_countWithBoth, Cond.selects RX6 yX6_countWithBoth yX6_countWithBoth, Cond.code yX6_countWithBoth cX6_countWithBoth 5 (some .int), Cond.methodLink RX6 75 yX7_countBoth, Cond.methodLink RX11 130 yX1_countOf, Cond.instanceMethod yX1_countOf, Cond.selects RX1 yX1_countOf yX1_countOf, Cond.initialized RX1, Cond.code yX1_countOf cX1_countOf 2 (some .int), Cond.fieldLink RX1 14 "OvenDays$Batches" "rows" "LOvenDays$Table;"]
def wsL_household_r4 : List Cond := [Cond.fieldLink RX1 20 "OvenDays$Batches" "count" "I", Cond.methodLink RX1 32 yX7_count, Cond.methodLink RX11 133 yX4_value, Cond.instanceMethod yX4_value, Cond.selects RX4 yX4_value yX4_value, Cond.code yX4_value cX4_value 3 (some .int), Cond.fieldLink RX4 14 "OvenDays$Households" "rows" "LOvenDays$Table;", Cond.methodLink RX4 28 yX7_get, Cond.instanceMethod yX7_get, Cond.selects RX7 yX7_get yX7_get, Cond.code yX7_get cX7_get 3 (some .int)]
def wsL_household : List Cond := .codeWith yL_household cL_household 5 (some .int) [(0, 10, 13, 21), (0, 10, 17, 13)] :: ((wsL_household_r1 ++ (wsL_household_r2 ++ (wsL_household_r3 ++ wsL_household_r4))) ++ wsX110 ++ wsX90 ++ wsX40 ++ wsX60 ++ wsX70 ++ wsX10 ++ (vx_atS RX11 285 "java/lang/IndexOutOfBoundsException" ["java/lang/RuntimeException", "java/lang/Exception"]).filter goodWord ++ (vx_atS RX11 292 "java/lang/IllegalArgumentException" ["java/lang/RuntimeException", "java/lang/Exception"]).filter goodWord ++ (vx_atS RX11 297 "java/lang/IllegalStateException" ["java/lang/RuntimeException", "java/lang/Exception"]).filter goodWord)
def wsL_due_r1 : List Cond := [Cond.classLink RL 21 "java/lang/IndexOutOfBoundsException", Cond.methodLink RL 48 yX11_due, Cond.instanceMethod yX11_due, Cond.selects RX11 yX11_due yX11_due, Cond.initialized RX11, Cond.code yX11_due cX11_due 2 (some .long), Cond.fieldLink RX11 10 "OvenDays" "village" "LOvenDays$Village;", Cond.methodLink RX11 69 yX9_whyNoHousehold, Cond.instanceMethod yX9_whyNoHousehold, Cond.selects RX9 yX9_whyNoHousehold yX9_whyNoHousehold, Cond.initialized RX9, Cond.code yX9_whyNoHousehold cX9_whyNoHousehold 2 (some .int), Cond.fieldLink RX9 12 "OvenDays$Village" "households" "LOvenDays$Households;", Cond.methodLink RX9 65 yX4_has, Cond.instanceMethod yX4_has, Cond.selects RX4 yX4_has yX4_has, Cond.initialized RX4, Cond.code yX4_has cX4_has 2 (some .boolean), Cond.fieldLink RX4 20 "OvenDays$Households" "count" "I", Cond.methodLink RX11 45 yX11_refuse, Cond.static yX11_refuse, Cond.code yX11_refuse cX11_refuse 1 none, Cond.classLink RX11 281 "java/lang/IndexOutOfBoundsException", Cond.initialized "java/lang/IndexOutOfBoundsException"]
def wsL_due_r2 : List Cond := [Cond.classLink RX11 288 "java/lang/IllegalArgumentException", Cond.initialized "java/lang/IllegalArgumentException", Cond.classLink RX11 293 "java/lang/IllegalStateException", Cond.initialized "java/lang/IllegalStateException", Cond.methodLink RX11 136 yX4_dueOf, Cond.instanceMethod yX4_dueOf, Cond.selects RX4 yX4_dueOf yX4_dueOf, Cond.code yX4_dueOf cX4_dueOf 6 (some .long), Cond.fieldLink RX4 14 "OvenDays$Households" "rows" "LOvenDays$Table;", Cond.methodLink RX4 32 yX7_sum, Cond.instanceMethod yX7_sum, Cond.selects RX7 yX7_sum yX7_sum, Cond.initialized RX7, Cond.code yX7_sum cX7_sum 6 (some .int), Cond.fieldLink RX7 9 "OvenDays$Table" "columns" "[[I", Cond.fieldLink RX7 14 "OvenDays$Table" "room" "I", Cond.methodLink RX4 28 yX7_get, Cond.instanceMethod yX7_get, Cond.selects RX7 yX7_get yX7_get, Cond.code yX7_get cX7_get 3 (some .int)]
def wsL_due : List Cond := .codeWith yL_due cL_due 4 (some .int) [(0, 8, 11, 21)] :: ((wsL_due_r1 ++ wsL_due_r2) ++ wsX110 ++ wsX90 ++ wsX40 ++ wsX70 ++ (vx_atS RX11 285 "java/lang/IndexOutOfBoundsException" ["java/lang/RuntimeException", "java/lang/Exception"]).filter goodWord ++ (vx_atS RX11 292 "java/lang/IllegalArgumentException" ["java/lang/RuntimeException", "java/lang/Exception"]).filter goodWord ++ (vx_atS RX11 297 "java/lang/IllegalStateException" ["java/lang/RuntimeException", "java/lang/Exception"]).filter goodWord)
def wsL_balance_r1 : List Cond := [Cond.classLink RL 21 "java/lang/IndexOutOfBoundsException", Cond.classLink RL 13 "java/lang/IllegalArgumentException", Cond.methodLink RL 52 yX11_balance, Cond.instanceMethod yX11_balance, Cond.selects RX11 yX11_balance yX11_balance, Cond.initialized RX11, Cond.code yX11_balance cX11_balance 3 (some .int), Cond.fieldLink RX11 10 "OvenDays" "village" "LOvenDays$Village;", Cond.methodLink RX11 69 yX9_whyNoHousehold, Cond.instanceMethod yX9_whyNoHousehold, Cond.selects RX9 yX9_whyNoHousehold yX9_whyNoHousehold, Cond.initialized RX9, Cond.code yX9_whyNoHousehold cX9_whyNoHousehold 2 (some .int), Cond.fieldLink RX9 12 "OvenDays$Village" "households" "LOvenDays$Households;", Cond.methodLink RX9 65 yX4_has, Cond.instanceMethod yX4_has, Cond.selects RX4 yX4_has yX4_has, Cond.initialized RX4, Cond.code yX4_has cX4_has 2 (some .boolean), Cond.fieldLink RX4 20 "OvenDays$Households" "count" "I", Cond.methodLink RX11 45 yX11_refuse, Cond.static yX11_refuse, Cond.code yX11_refuse cX11_refuse 1 none, Cond.classLink RX11 281 "java/lang/IndexOutOfBoundsException"]
def wsL_balance_r2 : List Cond := [Cond.initialized "java/lang/IndexOutOfBoundsException", Cond.classLink RX11 288 "java/lang/IllegalArgumentException", Cond.initialized "java/lang/IllegalArgumentException", Cond.classLink RX11 293 "java/lang/IllegalStateException", Cond.initialized "java/lang/IllegalStateException", Cond.methodLink RX11 120 yX11_whyNotBelow, Cond.static yX11_whyNotBelow, Cond.code yX11_whyNotBelow cX11_whyNotBelow 2 (some .int), Cond.methodLink RX11 197 yX11_whyNotWithin, Cond.static yX11_whyNotWithin, Cond.code yX11_whyNotWithin cX11_whyNotWithin 3 (some .int), Cond.methodLink RX11 143 yX6_balanceOf, Cond.instanceMethod yX6_balanceOf, Cond.selects RX6 yX6_balanceOf yX6_balanceOf, Cond.initialized RX6, Cond.code yX6_balanceOf cX6_balanceOf 3 (some .int), Cond.methodLink RX6 79 yX6_countWithBoth, Cond.instanceMethod yX6_countWithBoth, Cond.selects RX6 yX6_countWithBoth yX6_countWithBoth, Cond.code yX6_countWithBoth cX6_countWithBoth 5 (some .int), Cond.fieldLink RX6 16 "OvenDays$Loaves" "rows" "LOvenDays$Table;", Cond.methodLink RX6 20 yX6_kept, Cond.instanceMethod yX6_kept, Cond.selects RX6 yX6_kept yX6_kept]
def wsL_balance_r3 : List Cond := [Cond.code yX6_kept cX6_kept 1 (some .int), Cond.fieldLink RX6 28 "OvenDays$Loaves" "cameOut" "I", Cond.methodLink RX6 35 Lib.Math.min.name, Cond.static Lib.Math.min.name, Cond.initialized "java/lang/Math", Cond.code Lib.Math.min.name Lib.Math.min.code 2 (some .int), Cond.methodLink RX6 75 yX7_countBoth, Cond.instanceMethod yX7_countBoth, Cond.selects RX7 yX7_countBoth yX7_countBoth, Cond.initialized RX7, Cond.code yX7_countBoth cX7_countBoth 10 (some .int), Cond.fieldLink RX7 9 "OvenDays$Table" "columns" "[[I", Cond.fieldLink RX7 14 "OvenDays$Table" "room" "I"]
def wsL_balance : List Cond := .codeWith yL_balance cL_balance 5 (some .int) [(0, 10, 13, 21), (0, 10, 17, 13)] :: ((wsL_balance_r1 ++ (wsL_balance_r2 ++ wsL_balance_r3)) ++ wsX110 ++ wsX90 ++ wsX40 ++ wsX60 ++ wsX70 ++ (vx_atS RX11 285 "java/lang/IndexOutOfBoundsException" ["java/lang/RuntimeException", "java/lang/Exception"]).filter goodWord ++ (vx_atS RX11 292 "java/lang/IllegalArgumentException" ["java/lang/RuntimeException", "java/lang/Exception"]).filter goodWord ++ (vx_atS RX11 297 "java/lang/IllegalStateException" ["java/lang/RuntimeException", "java/lang/Exception"]).filter goodWord)
def wsL_batch_r1 : List Cond := [Cond.classLink RL 13 "java/lang/IllegalArgumentException", Cond.methodLink RL 55 yX11_batch, Cond.instanceMethod yX11_batch, Cond.selects RX11 yX11_batch yX11_batch, Cond.initialized RX11, Cond.code yX11_batch cX11_batch 3 (some .int), Cond.fieldLink RX11 10 "OvenDays" "village" "LOvenDays$Village;", Cond.fieldLink RX11 19 "OvenDays" "plan" "LOvenDays$DayPlan;", Cond.methodLink RX11 120 yX11_whyNotBelow, Cond.static yX11_whyNotBelow, Cond.code yX11_whyNotBelow cX11_whyNotBelow 2 (some .int), Cond.methodLink RX11 197 yX11_whyNotWithin, Cond.static yX11_whyNotWithin, Cond.code yX11_whyNotWithin cX11_whyNotWithin 3 (some .int), Cond.methodLink RX11 45 yX11_refuse, Cond.static yX11_refuse, Cond.code yX11_refuse cX11_refuse 1 none, Cond.classLink RX11 281 "java/lang/IndexOutOfBoundsException", Cond.initialized "java/lang/IndexOutOfBoundsException", Cond.classLink RX11 288 "java/lang/IllegalArgumentException", Cond.initialized "java/lang/IllegalArgumentException", Cond.classLink RX11 293 "java/lang/IllegalStateException", Cond.initialized "java/lang/IllegalStateException", Cond.methodLink RX11 87 yX1_has]
def wsL_batch_r2 : List Cond := [Cond.instanceMethod yX1_has, Cond.selects RX1 yX1_has yX1_has, Cond.initialized RX1, Cond.code yX1_has cX1_has 2 (some .boolean), Cond.fieldLink RX1 20 "OvenDays$Batches" "count" "I", Cond.methodLink RX11 146 yX1_value, Cond.instanceMethod yX1_value, Cond.selects RX1 yX1_value yX1_value, Cond.code yX1_value cX1_value 3 (some .int), Cond.fieldLink RX1 14 "OvenDays$Batches" "rows" "LOvenDays$Table;", Cond.methodLink RX1 28 yX7_get, Cond.instanceMethod yX7_get, Cond.selects RX7 yX7_get yX7_get, Cond.initialized RX7, Cond.code yX7_get cX7_get 3 (some .int), Cond.fieldLink RX7 14 "OvenDays$Table" "room" "I", Cond.fieldLink RX7 9 "OvenDays$Table" "columns" "[[I", Cond.methodLink RX11 147 yX9_arrangeNextDay, Cond.instanceMethod yX9_arrangeNextDay, Cond.selects RX9 yX9_arrangeNextDay yX9_arrangeNextDay, Cond.initialized RX9, Cond.code yX9_arrangeNextDay cX9_arrangeNextDay 2 none, Cond.fieldLink RX9 21 "OvenDays$Village" "batches" "LOvenDays$Batches;", Cond.fieldLink RX9 12 "OvenDays$Village" "households" "LOvenDays$Households;"]
def wsL_batch_r3 : List Cond := [Cond.methodLink RX9 102 yX4_size, Cond.instanceMethod yX4_size, Cond.selects RX4 yX4_size yX4_size, Cond.initialized RX4, Cond.code yX4_size cX4_size 1 (some .int), Cond.fieldLink RX4 20 "OvenDays$Households" "count" "I", Cond.methodLink RX9 103 yX4_nextOne, Cond.instanceMethod yX4_nextOne, Cond.selects RX4 yX4_nextOne yX4_nextOne, Cond.code yX4_nextOne cX4_nextOne 8 (some .int), Cond.fieldLink RX4 14 "OvenDays$Households" "rows" "LOvenDays$Table;", Cond.methodLink RX4 39 yX7_count, Cond.instanceMethod yX7_count, Cond.selects RX7 yX7_count yX7_count, Cond.code yX7_count cX7_count 4 (some .int), Cond.methodLink RX7 18 yX7_countBoth, Cond.instanceMethod yX7_countBoth, Cond.selects RX7 yX7_countBoth yX7_countBoth, Cond.code yX7_countBoth cX7_countBoth 10 (some .int), Cond.methodLink RX4 28 yX7_get, Cond.methodLink RX4 46 yX4_dueOf, Cond.instanceMethod yX4_dueOf, Cond.selects RX4 yX4_dueOf yX4_dueOf, Cond.code yX4_dueOf cX4_dueOf 6 (some .long)]
def wsL_batch_r4 : List Cond := [Cond.methodLink RX4 32 yX7_sum, Cond.instanceMethod yX7_sum, Cond.selects RX7 yX7_sum yX7_sum, Cond.code yX7_sum cX7_sum 6 (some .int), Cond.methodLink RX9 106 yX3_arrange, Cond.instanceMethod yX3_arrange, Cond.selects RX3 yX3_arrange yX3_arrange, Cond.initialized RX3, Cond.code yX3_arrange cX3_arrange 7 none, Cond.fieldLink RX3 31 "OvenDays$DayPlan" "count" "I", Cond.fieldLink RX3 9 "OvenDays$DayPlan" "order" "[I", Cond.methodLink RX3 35 yX1_size, Cond.instanceMethod yX1_size, Cond.selects RX1 yX1_size yX1_size, Cond.code yX1_size cX1_size 1 (some .int), Cond.methodLink RX3 41 yX1_value, Cond.methodLink RX11 151 yX3_placeOf, Cond.instanceMethod yX3_placeOf, Cond.selects RX3 yX3_placeOf yX3_placeOf, Cond.code yX3_placeOf cX3_placeOf 3 (some .int), Cond.methodLink RX3 85 yX3_batchAt, Cond.instanceMethod yX3_batchAt, Cond.selects RX3 yX3_batchAt yX3_batchAt, Cond.code yX3_batchAt cX3_batchAt 2 (some .int)]
def wsL_batch : List Cond := .codeWith yL_batch cL_batch 5 (some .int) [(0, 10, 13, 13)] :: ((wsL_batch_r1 ++ (wsL_batch_r2 ++ (wsL_batch_r3 ++ wsL_batch_r4))) ++ wsX110 ++ wsX90 ++ wsX10 ++ wsX70 ++ wsX40 ++ wsX30 ++ (vx_atS RX11 285 "java/lang/IndexOutOfBoundsException" ["java/lang/RuntimeException", "java/lang/Exception"]).filter goodWord ++ (vx_atS RX11 292 "java/lang/IllegalArgumentException" ["java/lang/RuntimeException", "java/lang/Exception"]).filter goodWord ++ (vx_atS RX11 297 "java/lang/IllegalStateException" ["java/lang/RuntimeException", "java/lang/Exception"]).filter goodWord)
def wsL_loaf_r1 : List Cond := [Cond.classLink RL 21 "java/lang/IndexOutOfBoundsException", Cond.classLink RL 13 "java/lang/IllegalArgumentException", Cond.methodLink RL 58 yX11_loaf, Cond.instanceMethod yX11_loaf, Cond.selects RX11 yX11_loaf yX11_loaf, Cond.initialized RX11, Cond.code yX11_loaf cX11_loaf 3 (some .int), Cond.fieldLink RX11 10 "OvenDays" "village" "LOvenDays$Village;", Cond.methodLink RX11 154 yX6_keeps, Cond.instanceMethod yX6_keeps, Cond.selects RX6 yX6_keeps yX6_keeps, Cond.initialized RX6, Cond.code yX6_keeps cX6_keeps 2 (some .boolean), Cond.fieldLink RX6 28 "OvenDays$Loaves" "cameOut" "I", Cond.methodLink RX6 41 yX6_firstKept, Cond.instanceMethod yX6_firstKept, Cond.selects RX6 yX6_firstKept yX6_firstKept, Cond.code yX6_firstKept cX6_firstKept 1 (some .int), Cond.methodLink RX6 20 yX6_kept, Cond.instanceMethod yX6_kept, Cond.selects RX6 yX6_kept yX6_kept, Cond.code yX6_kept cX6_kept 1 (some .int), Cond.methodLink RX6 35 Lib.Math.min.name, Cond.static Lib.Math.min.name]
def wsL_loaf_r2 : List Cond := [Cond.initialized "java/lang/Math", Cond.code Lib.Math.min.name Lib.Math.min.code 2 (some .int), Cond.methodLink RX11 45 yX11_refuse, Cond.static yX11_refuse, Cond.code yX11_refuse cX11_refuse 1 none, Cond.classLink RX11 281 "java/lang/IndexOutOfBoundsException", Cond.initialized "java/lang/IndexOutOfBoundsException", Cond.classLink RX11 288 "java/lang/IllegalArgumentException", Cond.initialized "java/lang/IllegalArgumentException", Cond.classLink RX11 293 "java/lang/IllegalStateException", Cond.initialized "java/lang/IllegalStateException", Cond.methodLink RX11 120 yX11_whyNotBelow, Cond.static yX11_whyNotBelow, Cond.code yX11_whyNotBelow cX11_whyNotBelow 2 (some .int), Cond.methodLink RX11 197 yX11_whyNotWithin, Cond.static yX11_whyNotWithin, Cond.code yX11_whyNotWithin cX11_whyNotWithin 3 (some .int), Cond.methodLink RX11 157 yX6_value, Cond.instanceMethod yX6_value, Cond.selects RX6 yX6_value yX6_value, Cond.code yX6_value cX6_value 3 (some .int), Cond.fieldLink RX6 16 "OvenDays$Loaves" "rows" "LOvenDays$Table;", Cond.methodLink RX6 44 yX7_get, Cond.instanceMethod yX7_get]
def wsL_loaf_r3 : List Cond := [Cond.selects RX7 yX7_get yX7_get, Cond.initialized RX7, Cond.code yX7_get cX7_get 3 (some .int), Cond.fieldLink RX7 14 "OvenDays$Table" "room" "I", Cond.fieldLink RX7 9 "OvenDays$Table" "columns" "[[I"]
def wsL_loaf : List Cond := .codeWith yL_loaf cL_loaf 5 (some .int) [(0, 10, 13, 21), (0, 10, 17, 13)] :: ((wsL_loaf_r1 ++ (wsL_loaf_r2 ++ wsL_loaf_r3)) ++ wsX110 ++ wsX90 ++ wsX60 ++ wsX70 ++ (vx_atS RX11 285 "java/lang/IndexOutOfBoundsException" ["java/lang/RuntimeException", "java/lang/Exception"]).filter goodWord ++ (vx_atS RX11 292 "java/lang/IllegalArgumentException" ["java/lang/RuntimeException", "java/lang/Exception"]).filter goodWord ++ (vx_atS RX11 297 "java/lang/IllegalStateException" ["java/lang/RuntimeException", "java/lang/Exception"]).filter goodWord)
def wsL_load_r1 : List Cond := [Cond.classLink RL 13 "java/lang/IllegalArgumentException", Cond.methodLink RL 61 yX11_load, Cond.instanceMethod yX11_load, Cond.selects RX11 yX11_load yX11_load, Cond.initialized RX11, Cond.code yX11_load cX11_load 3 (some .int), Cond.fieldLink RX11 10 "OvenDays" "village" "LOvenDays$Village;", Cond.methodLink RX11 120 yX11_whyNotBelow, Cond.static yX11_whyNotBelow, Cond.code yX11_whyNotBelow cX11_whyNotBelow 2 (some .int), Cond.methodLink RX11 197 yX11_whyNotWithin, Cond.static yX11_whyNotWithin, Cond.code yX11_whyNotWithin cX11_whyNotWithin 3 (some .int), Cond.methodLink RX11 45 yX11_refuse, Cond.static yX11_refuse, Cond.code yX11_refuse cX11_refuse 1 none, Cond.classLink RX11 281 "java/lang/IndexOutOfBoundsException", Cond.initialized "java/lang/IndexOutOfBoundsException", Cond.classLink RX11 288 "java/lang/IllegalArgumentException", Cond.initialized "java/lang/IllegalArgumentException", Cond.classLink RX11 293 "java/lang/IllegalStateException", Cond.initialized "java/lang/IllegalStateException", Cond.methodLink RX11 162 yX5_size, Cond.instanceMethod yX5_size]
def wsL_load_r2 : List Cond := [Cond.selects RX5 yX5_size yX5_size, Cond.initialized RX5, Cond.code yX5_size cX5_size 1 (some .int), Cond.fieldLink RX5 20 "OvenDays$Loads" "count" "I", Cond.methodLink RX11 167 yX5_value, Cond.instanceMethod yX5_value, Cond.selects RX5 yX5_value yX5_value, Cond.code yX5_value cX5_value 3 (some .int), Cond.fieldLink RX5 14 "OvenDays$Loads" "rows" "LOvenDays$Table;", Cond.methodLink RX5 28 yX7_get, Cond.instanceMethod yX7_get, Cond.selects RX7 yX7_get yX7_get, Cond.initialized RX7, Cond.code yX7_get cX7_get 3 (some .int), Cond.fieldLink RX7 14 "OvenDays$Table" "room" "I", Cond.fieldLink RX7 9 "OvenDays$Table" "columns" "[[I"]
def wsL_load : List Cond := .codeWith yL_load cL_load 5 (some .int) [(0, 10, 13, 13)] :: ((wsL_load_r1 ++ wsL_load_r2) ++ wsX110 ++ wsX90 ++ wsX50 ++ wsX70 ++ (vx_atS RX11 285 "java/lang/IndexOutOfBoundsException" ["java/lang/RuntimeException", "java/lang/Exception"]).filter goodWord ++ (vx_atS RX11 292 "java/lang/IllegalArgumentException" ["java/lang/RuntimeException", "java/lang/Exception"]).filter goodWord ++ (vx_atS RX11 297 "java/lang/IllegalStateException" ["java/lang/RuntimeException", "java/lang/Exception"]).filter goodWord)
def wsL_whole_r1 : List Cond := [Cond.classLink RL 13 "java/lang/IllegalArgumentException", Cond.methodLink RL 64 yX11_whole, Cond.instanceMethod yX11_whole, Cond.selects RX11 yX11_whole yX11_whole, Cond.initialized RX11, Cond.code yX11_whole cX11_whole 2 (some .int), Cond.fieldLink RX11 10 "OvenDays" "village" "LOvenDays$Village;", Cond.methodLink RX11 120 yX11_whyNotBelow, Cond.static yX11_whyNotBelow, Cond.code yX11_whyNotBelow cX11_whyNotBelow 2 (some .int), Cond.methodLink RX11 197 yX11_whyNotWithin, Cond.static yX11_whyNotWithin, Cond.code yX11_whyNotWithin cX11_whyNotWithin 3 (some .int), Cond.methodLink RX11 45 yX11_refuse, Cond.static yX11_refuse, Cond.code yX11_refuse cX11_refuse 1 none, Cond.classLink RX11 281 "java/lang/IndexOutOfBoundsException", Cond.initialized "java/lang/IndexOutOfBoundsException", Cond.classLink RX11 288 "java/lang/IllegalArgumentException", Cond.initialized "java/lang/IllegalArgumentException", Cond.classLink RX11 293 "java/lang/IllegalStateException", Cond.initialized "java/lang/IllegalStateException", Cond.methodLink RX11 168 yX4_size, Cond.instanceMethod yX4_size]
def wsL_whole_r2 : List Cond := [Cond.selects RX4 yX4_size yX4_size, Cond.initialized RX4, Cond.code yX4_size cX4_size 1 (some .int), Cond.fieldLink RX4 20 "OvenDays$Households" "count" "I", Cond.methodLink RX11 175 yX1_size, Cond.instanceMethod yX1_size, Cond.selects RX1 yX1_size yX1_size, Cond.initialized RX1, Cond.code yX1_size cX1_size 1 (some .int), Cond.fieldLink RX1 20 "OvenDays$Batches" "count" "I", Cond.methodLink RX11 176 yX4_sumOf, Cond.instanceMethod yX4_sumOf, Cond.selects RX4 yX4_sumOf yX4_sumOf, Cond.code yX4_sumOf cX4_sumOf 2 (some .int), Cond.fieldLink RX4 14 "OvenDays$Households" "rows" "LOvenDays$Table;", Cond.methodLink RX4 32 yX7_sum, Cond.instanceMethod yX7_sum, Cond.selects RX7 yX7_sum yX7_sum, Cond.initialized RX7, Cond.code yX7_sum cX7_sum 6 (some .int), Cond.fieldLink RX7 9 "OvenDays$Table" "columns" "[[I", Cond.fieldLink RX7 14 "OvenDays$Table" "room" "I", Cond.methodLink RX11 182 yX6_cameOut, Cond.instanceMethod yX6_cameOut]
def wsL_whole_r3 : List Cond := [Cond.selects RX6 yX6_cameOut yX6_cameOut, Cond.initialized RX6, Cond.code yX6_cameOut cX6_cameOut 1 (some .int), Cond.fieldLink RX6 28 "OvenDays$Loaves" "cameOut" "I", Cond.methodLink RX11 185 yX6_pale, Cond.instanceMethod yX6_pale, Cond.selects RX6 yX6_pale yX6_pale, Cond.code yX6_pale cX6_pale 1 (some .int), Cond.fieldLink RX6 32 "OvenDays$Loaves" "pale" "I", Cond.methodLink RX11 188 yX6_kept, Cond.instanceMethod yX6_kept, Cond.selects RX6 yX6_kept yX6_kept, Cond.code yX6_kept cX6_kept 1 (some .int), Cond.methodLink RX6 35 Lib.Math.min.name, Cond.static Lib.Math.min.name, Cond.initialized "java/lang/Math", Cond.code Lib.Math.min.name Lib.Math.min.code 2 (some .int), Cond.methodLink RX11 123 yX6_countWith, Cond.instanceMethod yX6_countWith, Cond.selects RX6 yX6_countWith yX6_countWith, Cond.code yX6_countWith cX6_countWith 3 (some .int), Cond.fieldLink RX6 16 "OvenDays$Loaves" "rows" "LOvenDays$Table;", Cond.methodLink RX6 20 yX6_kept, Cond.methodLink RX6 71 yX7_count]
def wsL_whole_r4 : List Cond := [Cond.instanceMethod yX7_count, Cond.selects RX7 yX7_count yX7_count, Cond.code yX7_count cX7_count 4 (some .int), Cond.methodLink RX7 18 yX7_countBoth, Cond.instanceMethod yX7_countBoth, Cond.selects RX7 yX7_countBoth yX7_countBoth, Cond.code yX7_countBoth cX7_countBoth 10 (some .int), Cond.methodLink RX11 191 yX6_countWithOthers, Cond.instanceMethod yX6_countWithOthers, Cond.selects RX6 yX6_countWithOthers yX6_countWithOthers, Cond.code yX6_countWithOthers cX6_countWithOthers 4 (some .int), Cond.methodLink RX6 44 yX7_get, Cond.instanceMethod yX7_get, Cond.selects RX7 yX7_get yX7_get, Cond.code yX7_get cX7_get 3 (some .int), Cond.methodLink RX11 162 yX5_size, Cond.instanceMethod yX5_size, Cond.selects RX5 yX5_size yX5_size, Cond.initialized RX5, Cond.code yX5_size cX5_size 1 (some .int), Cond.fieldLink RX5 20 "OvenDays$Loads" "count" "I"]
def wsL_whole : List Cond := .codeWith yL_whole cL_whole 4 (some .int) [(0, 9, 12, 13)] :: ((wsL_whole_r1 ++ (wsL_whole_r2 ++ (wsL_whole_r3 ++ wsL_whole_r4))) ++ wsX110 ++ wsX90 ++ wsX40 ++ wsX10 ++ wsX70 ++ wsX60 ++ wsX50 ++ (vx_atS RX11 285 "java/lang/IndexOutOfBoundsException" ["java/lang/RuntimeException", "java/lang/Exception"]).filter goodWord ++ (vx_atS RX11 292 "java/lang/IllegalArgumentException" ["java/lang/RuntimeException", "java/lang/Exception"]).filter goodWord ++ (vx_atS RX11 297 "java/lang/IllegalStateException" ["java/lang/RuntimeException", "java/lang/Exception"]).filter goodWord)
def wsL_doughWith_r1 : List Cond := [Cond.classLink RL 13 "java/lang/IllegalArgumentException", Cond.methodLink RL 67 yX11_doughWith, Cond.instanceMethod yX11_doughWith, Cond.selects RX11 yX11_doughWith yX11_doughWith, Cond.initialized RX11, Cond.code yX11_doughWith cX11_doughWith 2 (some .int), Cond.fieldLink RX11 10 "OvenDays" "village" "LOvenDays$Village;", Cond.fieldLink RX11 19 "OvenDays" "plan" "LOvenDays$DayPlan;", Cond.methodLink RX11 197 yX11_whyNotWithin, Cond.static yX11_whyNotWithin, Cond.code yX11_whyNotWithin cX11_whyNotWithin 3 (some .int), Cond.methodLink RX11 45 yX11_refuse, Cond.static yX11_refuse, Cond.code yX11_refuse cX11_refuse 1 none, Cond.classLink RX11 281 "java/lang/IndexOutOfBoundsException", Cond.initialized "java/lang/IndexOutOfBoundsException", Cond.classLink RX11 288 "java/lang/IllegalArgumentException", Cond.initialized "java/lang/IllegalArgumentException", Cond.classLink RX11 293 "java/lang/IllegalStateException", Cond.initialized "java/lang/IllegalStateException", Cond.methodLink RX11 147 yX9_arrangeNextDay, Cond.instanceMethod yX9_arrangeNextDay, Cond.selects RX9 yX9_arrangeNextDay yX9_arrangeNextDay, Cond.initialized RX9]
def wsL_doughWith_r2 : List Cond := [Cond.code yX9_arrangeNextDay cX9_arrangeNextDay 2 none, Cond.fieldLink RX9 21 "OvenDays$Village" "batches" "LOvenDays$Batches;", Cond.fieldLink RX9 12 "OvenDays$Village" "households" "LOvenDays$Households;", Cond.methodLink RX9 102 yX4_size, Cond.instanceMethod yX4_size, Cond.selects RX4 yX4_size yX4_size, Cond.initialized RX4, Cond.code yX4_size cX4_size 1 (some .int), Cond.fieldLink RX4 20 "OvenDays$Households" "count" "I", Cond.methodLink RX9 103 yX4_nextOne, Cond.instanceMethod yX4_nextOne, Cond.selects RX4 yX4_nextOne yX4_nextOne, Cond.code yX4_nextOne cX4_nextOne 8 (some .int), Cond.fieldLink RX4 14 "OvenDays$Households" "rows" "LOvenDays$Table;", Cond.methodLink RX4 39 yX7_count, Cond.instanceMethod yX7_count, Cond.selects RX7 yX7_count yX7_count, Cond.initialized RX7, Cond.code yX7_count cX7_count 4 (some .int), Cond.methodLink RX7 18 yX7_countBoth, Cond.instanceMethod yX7_countBoth, Cond.selects RX7 yX7_countBoth yX7_countBoth, Cond.code yX7_countBoth cX7_countBoth 10 (some .int), Cond.fieldLink RX7 9 "OvenDays$Table" "columns" "[[I"]
def wsL_doughWith_r3 : List Cond := [Cond.fieldLink RX7 14 "OvenDays$Table" "room" "I", Cond.methodLink RX4 28 yX7_get, Cond.instanceMethod yX7_get, Cond.selects RX7 yX7_get yX7_get, Cond.code yX7_get cX7_get 3 (some .int), Cond.methodLink RX4 46 yX4_dueOf, Cond.instanceMethod yX4_dueOf, Cond.selects RX4 yX4_dueOf yX4_dueOf, Cond.code yX4_dueOf cX4_dueOf 6 (some .long), Cond.methodLink RX4 32 yX7_sum, Cond.instanceMethod yX7_sum, Cond.selects RX7 yX7_sum yX7_sum, Cond.code yX7_sum cX7_sum 6 (some .int), Cond.methodLink RX9 106 yX3_arrange, Cond.instanceMethod yX3_arrange, Cond.selects RX3 yX3_arrange yX3_arrange, Cond.initialized RX3, Cond.code yX3_arrange cX3_arrange 7 none, Cond.fieldLink RX3 31 "OvenDays$DayPlan" "count" "I", Cond.fieldLink RX3 9 "OvenDays$DayPlan" "order" "[I", Cond.methodLink RX3 35 yX1_size, Cond.instanceMethod yX1_size, Cond.selects RX1 yX1_size yX1_size, Cond.initialized RX1]
def wsL_doughWith_r4 : List Cond := [Cond.code yX1_size cX1_size 1 (some .int), Cond.fieldLink RX1 20 "OvenDays$Batches" "count" "I", Cond.methodLink RX3 41 yX1_value, Cond.instanceMethod yX1_value, Cond.selects RX1 yX1_value yX1_value, Cond.code yX1_value cX1_value 3 (some .int), Cond.fieldLink RX1 14 "OvenDays$Batches" "rows" "LOvenDays$Table;", Cond.methodLink RX1 28 yX7_get, Cond.methodLink RX11 200 yX11_doughOfArrangedDay, Cond.instanceMethod yX11_doughOfArrangedDay, Cond.selects RX11 yX11_doughOfArrangedDay yX11_doughOfArrangedDay, Cond.code yX11_doughOfArrangedDay cX11_doughOfArrangedDay 2 (some .int), Cond.methodLink RX11 298 yX9_heatWith, Cond.instanceMethod yX9_heatWith, Cond.selects RX9 yX9_heatWith yX9_heatWith, Cond.code yX9_heatWith cX9_heatWith 2 (some .int), Cond.fieldLink RX9 39 "OvenDays$Village" "heat" "I", Cond.methodLink RX9 97 Lib.Math.min.name, Cond.static Lib.Math.min.name, Cond.initialized "java/lang/Math", Cond.code Lib.Math.min.name Lib.Math.min.code 2 (some .int), Cond.methodLink RX11 301 yX3_fire, Cond.instanceMethod yX3_fire, Cond.selects RX3 yX3_fire yX3_fire]
def wsL_doughWith_r5 : List Cond := [Cond.code yX3_fire cX3_fire 5 none, Cond.fieldLink RX3 45 "OvenDays$DayPlan" "heat" "I", Cond.fieldLink RX3 52 "OvenDays$DayPlan" "left" "I", Cond.methodLink RX3 66 Lib.Math.max.name, Cond.static Lib.Math.max.name, Cond.code Lib.Math.max.name Lib.Math.max.code 2 (some .int), Cond.methodLink RX3 48 yX3_startWaiting, Cond.instanceMethod yX3_startWaiting, Cond.selects RX3 yX3_startWaiting yX3_startWaiting, Cond.code yX3_startWaiting cX3_startWaiting 4 none, Cond.fieldLink RX3 24 "OvenDays$DayPlan" "loads" "LOvenDays$Loads;", Cond.fieldLink RX3 18 "OvenDays$DayPlan" "waiting" "[I", Cond.fieldLink RX3 15 "OvenDays$DayPlan" "loadAt" "[I", Cond.methodLink RX3 71 yX5_clear, Cond.instanceMethod yX5_clear, Cond.selects RX5 yX5_clear yX5_clear, Cond.initialized RX5, Cond.code yX5_clear cX5_clear 1 none, Cond.fieldLink RX5 20 "OvenDays$Loads" "count" "I", Cond.methodLink RX3 55 yX3_kindForHeat, Cond.instanceMethod yX3_kindForHeat, Cond.selects RX3 yX3_kindForHeat yX3_kindForHeat, Cond.code yX3_kindForHeat cX3_kindForHeat 2 (some .int), Cond.fieldLink RX3 28 "OvenDays$DayPlan" "LOWEST" "[I"]
def wsL_doughWith_r6 : List Cond := [Cond.fieldLink RX3 74 "OvenDays$DayPlan" "GREATEST" "[I", Cond.methodLink RX3 58 yX3_bakeLoad, Cond.instanceMethod yX3_bakeLoad, Cond.selects RX3 yX3_bakeLoad yX3_bakeLoad, Cond.code yX3_bakeLoad cX3_bakeLoad 9 none, Cond.fieldLink RX3 78 "OvenDays$DayPlan" "TICKS" "[I", Cond.methodLink RX3 77 yX5_size, Cond.instanceMethod yX5_size, Cond.selects RX5 yX5_size yX5_size, Cond.code yX5_size cX5_size 1 (some .int), Cond.methodLink RX3 81 yX5_add, Cond.instanceMethod yX5_add, Cond.selects RX5 yX5_add yX5_add, Cond.code yX5_add cX5_add 6 none, Cond.fieldLink RX5 14 "OvenDays$Loads" "rows" "LOvenDays$Table;", Cond.methodLink RX5 32 yX7_put, Cond.instanceMethod yX7_put, Cond.selects RX7 yX7_put yX7_put, Cond.code yX7_put cX7_put 4 none, Cond.methodLink RX3 62 yX3_isTooHotForSome, Cond.instanceMethod yX3_isTooHotForSome, Cond.selects RX3 yX3_isTooHotForSome yX3_isTooHotForSome, Cond.code yX3_isTooHotForSome cX3_isTooHotForSome 2 (some .boolean), Cond.methodLink RX11 305 yX3_dough]
def wsL_doughWith_r7 : List Cond := [Cond.instanceMethod yX3_dough, Cond.selects RX3 yX3_dough yX3_dough, Cond.code yX3_dough cX3_dough 4 (some .int), Cond.methodLink RX3 89 yX3_loadAt, Cond.instanceMethod yX3_loadAt, Cond.selects RX3 yX3_loadAt yX3_loadAt, Cond.code yX3_loadAt cX3_loadAt 2 (some .int), Cond.methodLink RX3 85 yX3_batchAt, Cond.instanceMethod yX3_batchAt, Cond.selects RX3 yX3_batchAt yX3_batchAt, Cond.code yX3_batchAt cX3_batchAt 2 (some .int)]
def wsL_doughWith : List Cond := .codeWith yL_doughWith cL_doughWith 4 (some .int) [(0, 9, 12, 13)] :: ((wsL_doughWith_r1 ++ (wsL_doughWith_r2 ++ (wsL_doughWith_r3 ++ (wsL_doughWith_r4 ++ (wsL_doughWith_r5 ++ (wsL_doughWith_r6 ++ wsL_doughWith_r7)))))) ++ wsX110 ++ wsX90 ++ wsX40 ++ wsX70 ++ wsX30 ++ wsX10 ++ wsX50 ++ (vx_atS RX11 285 "java/lang/IndexOutOfBoundsException" ["java/lang/RuntimeException", "java/lang/Exception"]).filter goodWord ++ (vx_atS RX11 292 "java/lang/IllegalArgumentException" ["java/lang/RuntimeException", "java/lang/Exception"]).filter goodWord ++ (vx_atS RX11 297 "java/lang/IllegalStateException" ["java/lang/RuntimeException", "java/lang/Exception"]).filter goodWord)
def wsL_freeMark_r1 : List Cond := [Cond.classLink RL 13 "java/lang/IllegalArgumentException", Cond.methodLink RL 70 yX11_freeMark, Cond.instanceMethod yX11_freeMark, Cond.selects RX11 yX11_freeMark yX11_freeMark, Cond.initialized RX11, Cond.code yX11_freeMark cX11_freeMark 4 (some .int), Cond.constant RX11 206 (65535), Cond.fieldLink RX11 10 "OvenDays" "village" "LOvenDays$Village;", Cond.methodLink RX11 197 yX11_whyNotWithin, Cond.static yX11_whyNotWithin, Cond.code yX11_whyNotWithin cX11_whyNotWithin 3 (some .int), Cond.methodLink RX11 45 yX11_refuse, Cond.static yX11_refuse, Cond.code yX11_refuse cX11_refuse 1 none, Cond.classLink RX11 281 "java/lang/IndexOutOfBoundsException", Cond.initialized "java/lang/IndexOutOfBoundsException", Cond.classLink RX11 288 "java/lang/IllegalArgumentException", Cond.initialized "java/lang/IllegalArgumentException", Cond.classLink RX11 293 "java/lang/IllegalStateException", Cond.initialized "java/lang/IllegalStateException", Cond.methodLink RX11 207 yX4_hasLike, Cond.instanceMethod yX4_hasLike, Cond.selects RX4 yX4_hasLike yX4_hasLike, Cond.initialized RX4]
def wsL_freeMark_r2 : List Cond := [Cond.code yX4_hasLike cX4_hasLike 3 (some .boolean), Cond.fieldLink RX4 20 "OvenDays$Households" "count" "I", Cond.fieldLink RX4 14 "OvenDays$Households" "rows" "LOvenDays$Table;", Cond.methodLink RX4 28 yX7_get, Cond.instanceMethod yX7_get, Cond.selects RX7 yX7_get yX7_get, Cond.initialized RX7, Cond.code yX7_get cX7_get 3 (some .int), Cond.fieldLink RX7 14 "OvenDays$Table" "room" "I", Cond.fieldLink RX7 9 "OvenDays$Table" "columns" "[[I", Cond.methodLink RX4 60 yX4_alike, Cond.static yX4_alike, Cond.code yX4_alike cX4_alike 2 (some .boolean), Cond.static yX11_contains, Cond.code yX11_contains cX11_contains 2 (some .boolean), Cond.methodLink RX11 210 yX11_nextWithAsMany, Cond.static yX11_nextWithAsMany, Cond.code yX11_nextWithAsMany cX11_nextWithAsMany 3 (some .int), Cond.constant RX11 308 (65536)]
def wsL_freeMark : List Cond := .codeWith yL_freeMark cL_freeMark 4 (some .int) [(0, 9, 12, 13)] :: ((wsL_freeMark_r1 ++ wsL_freeMark_r2) ++ wsX110 ++ wsX90 ++ wsX40 ++ wsX70 ++ (vx_atS RX11 285 "java/lang/IndexOutOfBoundsException" ["java/lang/RuntimeException", "java/lang/Exception"]).filter goodWord ++ (vx_atS RX11 292 "java/lang/IllegalArgumentException" ["java/lang/RuntimeException", "java/lang/Exception"]).filter goodWord ++ (vx_atS RX11 297 "java/lang/IllegalStateException" ["java/lang/RuntimeException", "java/lang/Exception"]).filter goodWord)
def wsL_type_r1 : List Cond := [Cond.classLink RL 13 "java/lang/IllegalArgumentException", Cond.classLink RL 15 "java/lang/IllegalStateException", Cond.methodLink RL 73 yX11_type, Cond.instanceMethod yX11_type, Cond.selects RX11 yX11_type yX11_type, Cond.initialized RX11, Cond.code yX11_type cX11_type 2 (some .int), Cond.fieldLink RX11 33 "OvenDays" "text" "LOvenDays$CommandText;", Cond.methodLink RX11 197 yX11_whyNotWithin, Cond.static yX11_whyNotWithin, Cond.code yX11_whyNotWithin cX11_whyNotWithin 3 (some .int), Cond.methodLink RX11 45 yX11_refuse, Cond.static yX11_refuse, Cond.code yX11_refuse cX11_refuse 1 none, Cond.classLink RX11 281 "java/lang/IndexOutOfBoundsException", Cond.initialized "java/lang/IndexOutOfBoundsException", Cond.classLink RX11 288 "java/lang/IllegalArgumentException", Cond.initialized "java/lang/IllegalArgumentException", Cond.classLink RX11 293 "java/lang/IllegalStateException", Cond.initialized "java/lang/IllegalStateException", Cond.methodLink RX11 213 yX2_isFull, Cond.instanceMethod yX2_isFull, Cond.selects RX2 yX2_isFull yX2_isFull, Cond.initialized RX2]
def wsL_type_r2 : List Cond := [Cond.code yX2_isFull cX2_isFull 1 (some .boolean), Cond.fieldLink RX2 23 "OvenDays$CommandText" "length" "I", Cond.methodLink RX11 217 yX2_append, Cond.instanceMethod yX2_append, Cond.selects RX2 yX2_append yX2_append, Cond.code yX2_append cX2_append 2 (some .int), Cond.fieldLink RX2 11 "OvenDays$CommandText" "bytes" "[B", Cond.methodLink RX2 26 yX2_isFull]
def wsL_type : List Cond := .codeWith yL_type cL_type 4 (some .int) [(0, 9, 12, 13), (0, 9, 15, 15)] :: ((wsL_type_r1 ++ wsL_type_r2) ++ wsX110 ++ wsX20 ++ (vx_atS RX11 285 "java/lang/IndexOutOfBoundsException" ["java/lang/RuntimeException", "java/lang/Exception"]).filter goodWord ++ (vx_atS RX11 292 "java/lang/IllegalArgumentException" ["java/lang/RuntimeException", "java/lang/Exception"]).filter goodWord ++ (vx_atS RX11 297 "java/lang/IllegalStateException" ["java/lang/RuntimeException", "java/lang/Exception"]).filter goodWord)
def wsL_undo_r1 : List Cond := [Cond.classLink RL 15 "java/lang/IllegalStateException", Cond.methodLink RL 76 yX11_undo, Cond.instanceMethod yX11_undo, Cond.selects RX11 yX11_undo yX11_undo, Cond.initialized RX11, Cond.code yX11_undo cX11_undo 1 (some .int), Cond.fieldLink RX11 26 "OvenDays" "undoStack" "LOvenDays$UndoStack;", Cond.fieldLink RX11 10 "OvenDays" "village" "LOvenDays$Village;", Cond.methodLink RX11 243 yX8_size, Cond.instanceMethod yX8_size, Cond.selects RX8 yX8_size yX8_size, Cond.initialized RX8, Cond.code yX8_size cX8_size 1 (some .int), Cond.fieldLink RX8 16 "OvenDays$UndoStack" "count" "I", Cond.methodLink RX11 45 yX11_refuse, Cond.static yX11_refuse, Cond.code yX11_refuse cX11_refuse 1 none, Cond.classLink RX11 281 "java/lang/IndexOutOfBoundsException", Cond.initialized "java/lang/IndexOutOfBoundsException", Cond.classLink RX11 288 "java/lang/IllegalArgumentException", Cond.initialized "java/lang/IllegalArgumentException", Cond.classLink RX11 293 "java/lang/IllegalStateException", Cond.initialized "java/lang/IllegalStateException", Cond.methodLink RX11 244 yX8_popInto]
def wsL_undo_r2 : List Cond := [Cond.instanceMethod yX8_popInto, Cond.selects RX8 yX8_popInto yX8_popInto, Cond.code yX8_popInto cX8_popInto 3 (some .int), Cond.fieldLink RX8 20 "OvenDays$UndoStack" "latest" "I", Cond.methodLink RX8 23 yX8_stateAt, Cond.instanceMethod yX8_stateAt, Cond.selects RX8 yX8_stateAt yX8_stateAt, Cond.code yX8_stateAt cX8_stateAt 2 (some (.object "OvenDays$Village")), Cond.fieldLink RX8 11 "OvenDays$UndoStack" "states" "[LOvenDays$Village;", Cond.methodLink RX8 27 yX9_copyFrom, Cond.instanceMethod yX9_copyFrom, Cond.selects RX9 yX9_copyFrom yX9_copyFrom, Cond.initialized RX9, Cond.code yX9_copyFrom cX9_copyFrom 2 none, Cond.fieldLink RX9 12 "OvenDays$Village" "households" "LOvenDays$Households;", Cond.fieldLink RX9 21 "OvenDays$Village" "batches" "LOvenDays$Batches;", Cond.fieldLink RX9 28 "OvenDays$Village" "loads" "LOvenDays$Loads;", Cond.fieldLink RX9 35 "OvenDays$Village" "loaves" "LOvenDays$Loaves;", Cond.fieldLink RX9 39 "OvenDays$Village" "heat" "I", Cond.fieldLink RX9 43 "OvenDays$Village" "s" "I", Cond.fieldLink RX9 59 "OvenDays$Village" "days" "I", Cond.fieldLink RX9 62 "OvenDays$Village" "dough" "I", Cond.methodLink RX9 46 yX4_copyFrom, Cond.instanceMethod yX4_copyFrom]
def wsL_undo_r3 : List Cond := [Cond.selects RX4 yX4_copyFrom yX4_copyFrom, Cond.initialized RX4, Cond.code yX4_copyFrom cX4_copyFrom 2 none, Cond.fieldLink RX4 14 "OvenDays$Households" "rows" "LOvenDays$Table;", Cond.fieldLink RX4 20 "OvenDays$Households" "count" "I", Cond.methodLink RX4 24 yX7_copyFrom, Cond.instanceMethod yX7_copyFrom, Cond.selects RX7 yX7_copyFrom yX7_copyFrom, Cond.initialized RX7, Cond.code yX7_copyFrom cX7_copyFrom 4 none, Cond.fieldLink RX7 14 "OvenDays$Table" "room" "I", Cond.fieldLink RX7 9 "OvenDays$Table" "columns" "[[I", Cond.methodLink RX7 22 arraycopyName, Cond.native arraycopyName, Cond.static arraycopyName, Cond.initialized "java/lang/System", Cond.methodLink RX9 50 yX1_copyFrom, Cond.instanceMethod yX1_copyFrom, Cond.selects RX1 yX1_copyFrom yX1_copyFrom, Cond.initialized RX1, Cond.code yX1_copyFrom cX1_copyFrom 2 none, Cond.fieldLink RX1 14 "OvenDays$Batches" "rows" "LOvenDays$Table;", Cond.fieldLink RX1 20 "OvenDays$Batches" "count" "I", Cond.methodLink RX1 24 yX7_copyFrom]
def wsL_undo_r4 : List Cond := [Cond.methodLink RX9 53 yX5_copyFrom, Cond.instanceMethod yX5_copyFrom, Cond.selects RX5 yX5_copyFrom yX5_copyFrom, Cond.initialized RX5, Cond.code yX5_copyFrom cX5_copyFrom 2 none, Cond.fieldLink RX5 14 "OvenDays$Loads" "rows" "LOvenDays$Table;", Cond.fieldLink RX5 20 "OvenDays$Loads" "count" "I", Cond.methodLink RX5 24 yX7_copyFrom, Cond.methodLink RX9 56 yX6_copyFrom, Cond.instanceMethod yX6_copyFrom, Cond.selects RX6 yX6_copyFrom yX6_copyFrom, Cond.initialized RX6, Cond.code yX6_copyFrom cX6_copyFrom 2 none, Cond.fieldLink RX6 16 "OvenDays$Loaves" "rows" "LOvenDays$Table;", Cond.fieldLink RX6 28 "OvenDays$Loaves" "cameOut" "I", Cond.fieldLink RX6 32 "OvenDays$Loaves" "pale" "I", Cond.methodLink RX6 20 yX6_kept, Cond.instanceMethod yX6_kept, Cond.selects RX6 yX6_kept yX6_kept, Cond.code yX6_kept cX6_kept 1 (some .int), Cond.methodLink RX6 35 Lib.Math.min.name, Cond.static Lib.Math.min.name, Cond.initialized "java/lang/Math", Cond.code Lib.Math.min.name Lib.Math.min.code 2 (some .int)]
def wsL_undo_r5 : List Cond := [Cond.methodLink RX6 24 yX7_copyFrom]
def wsL_undo : List Cond := .codeWith yL_undo cL_undo 3 (some .int) [(0, 8, 11, 15)] :: ((wsL_undo_r1 ++ (wsL_undo_r2 ++ (wsL_undo_r3 ++ (wsL_undo_r4 ++ wsL_undo_r5)))) ++ wsX110 ++ wsX80 ++ wsX90 ++ wsX40 ++ wsX70 ++ wsX10 ++ wsX50 ++ wsX60 ++ (vx_atS RX11 285 "java/lang/IndexOutOfBoundsException" ["java/lang/RuntimeException", "java/lang/Exception"]).filter goodWord ++ (vx_atS RX11 292 "java/lang/IllegalArgumentException" ["java/lang/RuntimeException", "java/lang/Exception"]).filter goodWord ++ (vx_atS RX11 297 "java/lang/IllegalStateException" ["java/lang/RuntimeException", "java/lang/Exception"]).filter goodWord)
def wsL_law0_r1 : List Cond := [Cond.classLink RL 8 RX11, Cond.instantiable RX11 5, Cond.initialized RX11, Cond.classLink RL 81 RX12, Cond.instantiable RX12 15, Cond.initialized RX12, Cond.arrayClass .long, Cond.methodLink RL 80 yX11_init, Cond.instanceMethod yX11_init, Cond.code yX11_init cX11_init 1 none, Cond.methodLink RX11 1 objectInit, Cond.instanceMethod objectInit, Cond.code objectInit ⟨#[0xb1]⟩ 1 none, Cond.classLink RX11 7 RX9, Cond.instantiable RX9 8, Cond.initialized RX9, Cond.fieldLink RX11 10 "OvenDays" "village" "LOvenDays$Village;", Cond.classLink RX11 16 RX3, Cond.instantiable RX3 7, Cond.initialized RX3, Cond.fieldLink RX11 19 "OvenDays" "plan" "LOvenDays$DayPlan;", Cond.classLink RX11 23 RX8, Cond.instantiable RX8 3, Cond.initialized RX8]
def wsL_law0_r2 : List Cond := [Cond.fieldLink RX11 26 "OvenDays" "undoStack" "LOvenDays$UndoStack;", Cond.classLink RX11 30 RX2, Cond.instantiable RX2 6, Cond.initialized RX2, Cond.fieldLink RX11 33 "OvenDays" "text" "LOvenDays$CommandText;", Cond.fieldLink RX11 37 "OvenDays" "stop" "I", Cond.instanceMethod yX9_init, Cond.code yX9_init cX9_init 1 none, Cond.methodLink RX9 3 objectInit, Cond.classLink RX9 9 RX4, Cond.instantiable RX4 2, Cond.initialized RX4, Cond.fieldLink RX9 12 "OvenDays$Village" "households" "LOvenDays$Households;", Cond.classLink RX9 18 RX1, Cond.instantiable RX1 2, Cond.initialized RX1, Cond.fieldLink RX9 21 "OvenDays$Village" "batches" "LOvenDays$Batches;", Cond.classLink RX9 25 RX5, Cond.instantiable RX5 2, Cond.initialized RX5, Cond.fieldLink RX9 28 "OvenDays$Village" "loads" "LOvenDays$Loads;", Cond.classLink RX9 32 RX6, Cond.instantiable RX6 3, Cond.initialized RX6]
def wsL_law0_r3 : List Cond := [Cond.fieldLink RX9 35 "OvenDays$Village" "loaves" "LOvenDays$Loaves;", Cond.fieldLink RX9 39 "OvenDays$Village" "heat" "I", Cond.fieldLink RX9 43 "OvenDays$Village" "s" "I", Cond.instanceMethod yX4_init, Cond.code yX4_init cX4_init 1 none, Cond.methodLink RX4 3 objectInit, Cond.classLink RX4 9 RX7, Cond.instantiable RX7 2, Cond.initialized RX7, Cond.fieldLink RX4 14 "OvenDays$Households" "rows" "LOvenDays$Table;", Cond.methodLink RX4 11 yX7_init, Cond.instanceMethod yX7_init, Cond.code yX7_init cX7_init 3 none, Cond.methodLink RX7 1 objectInit, Cond.classLink RX7 7 "[[I", Cond.arrayClass .int, Cond.fieldLink RX7 9 "OvenDays$Table" "columns" "[[I", Cond.fieldLink RX7 14 "OvenDays$Table" "room" "I", Cond.instanceMethod yX1_init, Cond.code yX1_init cX1_init 1 none, Cond.methodLink RX1 3 objectInit, Cond.classLink RX1 9 RX7, Cond.fieldLink RX1 14 "OvenDays$Batches" "rows" "LOvenDays$Table;", Cond.methodLink RX1 11 yX7_init]
def wsL_law0_r4 : List Cond := [Cond.instanceMethod yX5_init, Cond.code yX5_init cX5_init 1 none, Cond.methodLink RX5 3 objectInit, Cond.classLink RX5 9 RX7, Cond.fieldLink RX5 14 "OvenDays$Loads" "rows" "LOvenDays$Table;", Cond.methodLink RX5 11 yX7_init, Cond.instanceMethod yX6_init, Cond.code yX6_init cX6_init 1 none, Cond.methodLink RX6 3 objectInit, Cond.classLink RX6 9 RX7, Cond.fieldLink RX6 16 "OvenDays$Loaves" "rows" "LOvenDays$Table;", Cond.methodLink RX6 13 yX7_init, Cond.instanceMethod yX3_init, Cond.code yX3_init cX3_init 1 none, Cond.methodLink RX3 3 objectInit, Cond.fieldLink RX3 9 "OvenDays$DayPlan" "order" "[I", Cond.fieldLink RX3 15 "OvenDays$DayPlan" "loadAt" "[I", Cond.fieldLink RX3 18 "OvenDays$DayPlan" "waiting" "[I", Cond.classLink RX3 21 RX5, Cond.fieldLink RX3 24 "OvenDays$DayPlan" "loads" "LOvenDays$Loads;", Cond.methodLink RX11 25 yX8_init, Cond.instanceMethod yX8_init, Cond.code yX8_init cX8_init 2 none, Cond.methodLink RX8 1 objectInit]
def wsL_law0_r5 : List Cond := [Cond.classLink RX8 9 RX9, Cond.fieldLink RX8 11 "OvenDays$UndoStack" "states" "[LOvenDays$Village;", Cond.instanceMethod yX2_init, Cond.code yX2_init cX2_init 1 none, Cond.methodLink RX2 3 objectInit, Cond.arrayClass .byte, Cond.fieldLink RX2 11 "OvenDays$CommandText" "bytes" "[B", Cond.fieldLink RX2 15 "OvenDays$CommandText" "numbers" "[I", Cond.fieldLink RX2 19 "OvenDays$CommandText" "fault" "I", Cond.methodLink RL 83 yX12_init, Cond.instanceMethod yX12_init, Cond.code yX12_init cX12_init 1 none, Cond.methodLink RX12 1 objectInit, Cond.fieldLink RX12 7 "OvenDaysModel" "now" "[I", Cond.fieldLink RX12 13 "OvenDaysModel" "past" "[I", Cond.fieldLink RX12 16 "OvenDaysModel" "aside" "[I", Cond.fieldLink RX12 19 "OvenDaysModel" "commands" "[I", Cond.fieldLink RX12 22 "OvenDaysModel" "inOven" "[I", Cond.fieldLink RX12 25 "OvenDaysModel" "numbers" "[I", Cond.methodLink RL 84 yL_join, Cond.static yL_join, Cond.initialized RL, Cond.codeWith yL_join cL_join 4 (some .int) [(0, 9, 12, 13), (0, 9, 15, 15)], Cond.classLink RL 13 "java/lang/IllegalArgumentException"]
def wsL_law0_r6 : List Cond := [Cond.classLink RL 15 "java/lang/IllegalStateException", Cond.methodLink RL 7 yX11_join, Cond.instanceMethod yX11_join, Cond.selects RX11 yX11_join yX11_join, Cond.code yX11_join cX11_join 2 (some .int), Cond.methodLink RX11 41 yX9_whyNoJoining, Cond.instanceMethod yX9_whyNoJoining, Cond.selects RX9 yX9_whyNoJoining yX9_whyNoJoining, Cond.code yX9_whyNoJoining cX9_whyNoJoining 2 (some .int), Cond.constant RX9 69 (65535), Cond.static yX11_whyNotWithin, Cond.code yX11_whyNotWithin cX11_whyNotWithin 3 (some .int), Cond.methodLink RX9 74 yX4_isFull, Cond.instanceMethod yX4_isFull, Cond.selects RX4 yX4_isFull yX4_isFull, Cond.code yX4_isFull cX4_isFull 1 (some .boolean), Cond.fieldLink RX4 20 "OvenDays$Households" "count" "I", Cond.methodLink RX9 78 yX4_withMark, Cond.instanceMethod yX4_withMark, Cond.selects RX4 yX4_withMark yX4_withMark, Cond.code yX4_withMark cX4_withMark 3 (some .int), Cond.methodLink RX4 28 yX7_get, Cond.instanceMethod yX7_get, Cond.selects RX7 yX7_get yX7_get]
def wsL_law0_r7 : List Cond := [Cond.code yX7_get cX7_get 3 (some .int), Cond.methodLink RX11 45 yX11_refuse, Cond.static yX11_refuse, Cond.code yX11_refuse cX11_refuse 1 none, Cond.classLink RX11 281 "java/lang/IndexOutOfBoundsException", Cond.initialized "java/lang/IndexOutOfBoundsException", Cond.classLink RX11 288 "java/lang/IllegalArgumentException", Cond.initialized "java/lang/IllegalArgumentException", Cond.classLink RX11 293 "java/lang/IllegalStateException", Cond.initialized "java/lang/IllegalStateException", Cond.methodLink RX11 49 yX8_push, Cond.instanceMethod yX8_push, Cond.selects RX8 yX8_push yX8_push, Cond.code yX8_push cX8_push 3 none, Cond.fieldLink RX8 20 "OvenDays$UndoStack" "latest" "I", Cond.fieldLink RX8 16 "OvenDays$UndoStack" "count" "I", Cond.methodLink RX8 31 Lib.Math.min.name, Cond.static Lib.Math.min.name, Cond.initialized "java/lang/Math", Cond.code Lib.Math.min.name Lib.Math.min.code 2 (some .int), Cond.methodLink RX8 23 yX8_stateAt, Cond.instanceMethod yX8_stateAt, Cond.selects RX8 yX8_stateAt yX8_stateAt, Cond.code yX8_stateAt cX8_stateAt 2 (some (.object "OvenDays$Village"))]
def wsL_law0_r8 : List Cond := [Cond.methodLink RX8 27 yX9_copyFrom, Cond.instanceMethod yX9_copyFrom, Cond.selects RX9 yX9_copyFrom yX9_copyFrom, Cond.code yX9_copyFrom cX9_copyFrom 2 none, Cond.fieldLink RX9 59 "OvenDays$Village" "days" "I", Cond.fieldLink RX9 62 "OvenDays$Village" "dough" "I", Cond.methodLink RX9 46 yX4_copyFrom, Cond.instanceMethod yX4_copyFrom, Cond.selects RX4 yX4_copyFrom yX4_copyFrom, Cond.code yX4_copyFrom cX4_copyFrom 2 none, Cond.methodLink RX4 24 yX7_copyFrom, Cond.instanceMethod yX7_copyFrom, Cond.selects RX7 yX7_copyFrom yX7_copyFrom, Cond.code yX7_copyFrom cX7_copyFrom 4 none, Cond.methodLink RX7 22 arraycopyName, Cond.native arraycopyName, Cond.static arraycopyName, Cond.initialized "java/lang/System", Cond.methodLink RX9 50 yX1_copyFrom, Cond.instanceMethod yX1_copyFrom, Cond.selects RX1 yX1_copyFrom yX1_copyFrom, Cond.code yX1_copyFrom cX1_copyFrom 2 none, Cond.fieldLink RX1 20 "OvenDays$Batches" "count" "I", Cond.methodLink RX1 24 yX7_copyFrom]
def wsL_law0_r9 : List Cond := [Cond.methodLink RX9 53 yX5_copyFrom, Cond.instanceMethod yX5_copyFrom, Cond.selects RX5 yX5_copyFrom yX5_copyFrom, Cond.code yX5_copyFrom cX5_copyFrom 2 none, Cond.fieldLink RX5 20 "OvenDays$Loads" "count" "I", Cond.methodLink RX5 24 yX7_copyFrom, Cond.methodLink RX9 56 yX6_copyFrom, Cond.instanceMethod yX6_copyFrom, Cond.selects RX6 yX6_copyFrom yX6_copyFrom, Cond.code yX6_copyFrom cX6_copyFrom 2 none, Cond.fieldLink RX6 28 "OvenDays$Loaves" "cameOut" "I", Cond.fieldLink RX6 32 "OvenDays$Loaves" "pale" "I", Cond.methodLink RX6 20 yX6_kept, Cond.instanceMethod yX6_kept, Cond.selects RX6 yX6_kept yX6_kept, Cond.code yX6_kept cX6_kept 1 (some .int), Cond.methodLink RX6 35 Lib.Math.min.name, Cond.methodLink RX6 24 yX7_copyFrom, Cond.methodLink RX11 57 yX4_add, Cond.instanceMethod yX4_add, Cond.selects RX4 yX4_add yX4_add, Cond.code yX4_add cX4_add 3 (some .int), Cond.methodLink RX4 35 yX7_put, Cond.instanceMethod yX7_put]
def wsL_law0_r10 : List Cond := [Cond.selects RX7 yX7_put yX7_put, Cond.code yX7_put cX7_put 4 none, Cond.methodLink RL 89 yX12_join, Cond.instanceMethod yX12_join, Cond.selects RX12 yX12_join yX12_join, Cond.code yX12_join cX12_join 2 (some .int), Cond.methodLink RX12 59 yX12_badJoin, Cond.instanceMethod yX12_badJoin, Cond.selects RX12 yX12_badJoin yX12_badJoin, Cond.code yX12_badJoin cX12_badJoin 2 (some .int), Cond.methodLink RX12 48 yX12_isMark, Cond.static yX12_isMark, Cond.code yX12_isMark cX12_isMark 1 (some .boolean), Cond.constant RX12 43 (65535), Cond.methodLink RX12 39 yX12_in, Cond.static yX12_in, Cond.code yX12_in cX12_in 3 (some .boolean), Cond.methodLink RX12 51 yX12_isTaken, Cond.instanceMethod yX12_isTaken, Cond.selects RX12 yX12_isTaken yX12_isTaken, Cond.code yX12_isTaken cX12_isTaken 5 (some .boolean), Cond.methodLink RX12 44 yX12_of, Cond.instanceMethod yX12_of, Cond.selects RX12 yX12_of yX12_of]
def wsL_law0_r11 : List Cond := [Cond.code yX12_of cX12_of 3 (some .int), Cond.methodLink RX12 35 yX12_refused, Cond.instanceMethod yX12_refused, Cond.selects RX12 yX12_refused yX12_refused, Cond.code yX12_refused cX12_refused 2 (some .boolean), Cond.fieldLink RX12 28 "OvenDaysModel" "refusal" "I", Cond.methodLink RX12 63 yX12_saves, Cond.instanceMethod yX12_saves, Cond.selects RX12 yX12_saves yX12_saves, Cond.code yX12_saves cX12_saves 2 none, Cond.fieldLink RX12 32 "OvenDaysModel" "saved" "I", Cond.methodLink RX12 66 yX12_joins, Cond.instanceMethod yX12_joins, Cond.selects RX12 yX12_joins yX12_joins, Cond.code yX12_joins cX12_joins 3 (some .int), Cond.methodLink RX12 55 yX12_lays, Cond.instanceMethod yX12_lays, Cond.selects RX12 yX12_lays yX12_lays, Cond.code yX12_lays cX12_lays 4 none, Cond.methodLink RL 90 yX12_thrown, Cond.instanceMethod yX12_thrown, Cond.selects RX12 yX12_thrown yX12_thrown, Cond.code yX12_thrown cX12_thrown 1 (some .int), Cond.methodLink RL 93 yL_remark]
def wsL_law0_r12 : List Cond := [Cond.static yL_remark, Cond.codeWith yL_remark cL_remark 5 (some .int) [(0, 10, 13, 21), (0, 10, 17, 13), (0, 10, 21, 15)], Cond.classLink RL 21 "java/lang/IndexOutOfBoundsException", Cond.methodLink RL 17 yX11_remark, Cond.instanceMethod yX11_remark, Cond.selects RX11 yX11_remark yX11_remark, Cond.code yX11_remark cX11_remark 3 (some .int), Cond.methodLink RX11 62 yX9_whyNoOtherMark, Cond.instanceMethod yX9_whyNoOtherMark, Cond.selects RX9 yX9_whyNoOtherMark yX9_whyNoOtherMark, Cond.code yX9_whyNoOtherMark cX9_whyNoOtherMark 4 (some .int), Cond.methodLink RX9 65 yX4_has, Cond.instanceMethod yX4_has, Cond.selects RX4 yX4_has yX4_has, Cond.code yX4_has cX4_has 2 (some .boolean), Cond.methodLink RX11 66 yX4_changeMark, Cond.instanceMethod yX4_changeMark, Cond.selects RX4 yX4_changeMark yX4_changeMark, Cond.code yX4_changeMark cX4_changeMark 4 (some .int), Cond.methodLink RL 96 yX12_remark, Cond.instanceMethod yX12_remark, Cond.selects RX12 yX12_remark yX12_remark, Cond.code yX12_remark cX12_remark 4 (some .int), Cond.methodLink RX12 69 yX12_isHouse]
def wsL_law0_r13 : List Cond := [Cond.instanceMethod yX12_isHouse, Cond.selects RX12 yX12_isHouse yX12_isHouse, Cond.code yX12_isHouse cX12_isHouse 2 (some .boolean), Cond.methodLink RL 97 yL_excuse, Cond.static yL_excuse, Cond.codeWith yL_excuse cL_excuse 4 (some .int) [(0, 9, 12, 21)], Cond.methodLink RL 23 yX11_excuse, Cond.instanceMethod yX11_excuse, Cond.selects RX11 yX11_excuse yX11_excuse, Cond.code yX11_excuse cX11_excuse 2 (some .int), Cond.methodLink RX11 69 yX9_whyNoHousehold, Cond.instanceMethod yX9_whyNoHousehold, Cond.selects RX9 yX9_whyNoHousehold yX9_whyNoHousehold, Cond.code yX9_whyNoHousehold cX9_whyNoHousehold 2 (some .int), Cond.methodLink RX11 72 yX4_excuseOne, Cond.instanceMethod yX4_excuseOne, Cond.selects RX4 yX4_excuseOne yX4_excuseOne, Cond.code yX4_excuseOne cX4_excuseOne 2 (some .int), Cond.methodLink RX4 39 yX7_count, Cond.instanceMethod yX7_count, Cond.selects RX7 yX7_count yX7_count, Cond.code yX7_count cX7_count 4 (some .int), Cond.methodLink RX7 18 yX7_countBoth, Cond.instanceMethod yX7_countBoth]
def wsL_law0_r14 : List Cond := [Cond.selects RX7 yX7_countBoth yX7_countBoth, Cond.code yX7_countBoth cX7_countBoth 10 (some .int), Cond.methodLink RL 99 yX12_excuse, Cond.instanceMethod yX12_excuse, Cond.selects RX12 yX12_excuse yX12_excuse, Cond.code yX12_excuse cX12_excuse 2 (some .int), Cond.methodLink RX12 72 yX12_excused, Cond.instanceMethod yX12_excused, Cond.selects RX12 yX12_excused yX12_excused, Cond.code yX12_excused cX12_excused 3 (some .int), Cond.methodLink RL 100 yL_bring, Cond.static yL_bring, Cond.codeWith yL_bring cL_bring 6 (some .int) [(0, 12, 15, 21), (0, 12, 19, 13), (0, 12, 23, 15)], Cond.methodLink RL 26 yX11_bring, Cond.instanceMethod yX11_bring, Cond.selects RX11 yX11_bring yX11_bring, Cond.code yX11_bring cX11_bring 4 (some .int), Cond.methodLink RX11 75 yX9_whyNoBatch, Cond.instanceMethod yX9_whyNoBatch, Cond.selects RX9 yX9_whyNoBatch yX9_whyNoBatch, Cond.code yX9_whyNoBatch cX9_whyNoBatch 4 (some .int), Cond.static yX11_whyNotBelow, Cond.code yX11_whyNotBelow cX11_whyNotBelow 2 (some .int), Cond.methodLink RX11 197 yX11_whyNotWithin]
def wsL_law0_r15 : List Cond := [Cond.methodLink RX9 86 yX1_isFull, Cond.instanceMethod yX1_isFull, Cond.selects RX1 yX1_isFull yX1_isFull, Cond.code yX1_isFull cX1_isFull 1 (some .boolean), Cond.methodLink RX11 83 yX1_add, Cond.instanceMethod yX1_add, Cond.selects RX1 yX1_add yX1_add, Cond.code yX1_add cX1_add 5 (some .int), Cond.methodLink RX1 35 yX7_put, Cond.methodLink RL 103 yX12_bring, Cond.instanceMethod yX12_bring, Cond.selects RX12 yX12_bring yX12_bring, Cond.code yX12_bring cX12_bring 4 (some .int), Cond.methodLink RX12 83 yX12_badBatch, Cond.instanceMethod yX12_badBatch, Cond.selects RX12 yX12_badBatch yX12_badBatch, Cond.code yX12_badBatch cX12_badBatch 4 (some .int), Cond.methodLink RX12 87 yX12_brings, Cond.instanceMethod yX12_brings, Cond.selects RX12 yX12_brings yX12_brings, Cond.code yX12_brings cX12_brings 5 (some .int), Cond.methodLink RL 104 yL_takeBack, Cond.static yL_takeBack, Cond.codeWith yL_takeBack cL_takeBack 4 (some .int) [(0, 9, 12, 21)]]
def wsL_law0_r16 : List Cond := [Cond.methodLink RL 30 yX11_takeBack, Cond.instanceMethod yX11_takeBack, Cond.selects RX11 yX11_takeBack yX11_takeBack, Cond.code yX11_takeBack cX11_takeBack 2 (some .int), Cond.methodLink RX11 87 yX1_has, Cond.instanceMethod yX1_has, Cond.selects RX1 yX1_has yX1_has, Cond.code yX1_has cX1_has 2 (some .boolean), Cond.methodLink RX11 91 yX1_remove, Cond.instanceMethod yX1_remove, Cond.selects RX1 yX1_remove yX1_remove, Cond.code yX1_remove cX1_remove 3 (some .int), Cond.methodLink RX1 28 yX7_get, Cond.methodLink RX1 39 yX7_remove, Cond.instanceMethod yX7_remove, Cond.selects RX7 yX7_remove yX7_remove, Cond.code yX7_remove cX7_remove 4 none, Cond.methodLink RL 106 yX12_takeBack, Cond.instanceMethod yX12_takeBack, Cond.selects RX12 yX12_takeBack yX12_takeBack, Cond.code yX12_takeBack cX12_takeBack 3 (some .int), Cond.methodLink RX12 90 yX12_dropsBatch, Cond.instanceMethod yX12_dropsBatch, Cond.selects RX12 yX12_dropsBatch yX12_dropsBatch]
def wsL_law0_r17 : List Cond := [Cond.code yX12_dropsBatch cX12_dropsBatch 3 none, Cond.methodLink RL 107 yL_setS, Cond.static yL_setS, Cond.codeWith yL_setS cL_setS 4 (some .int) [(0, 9, 12, 13)], Cond.methodLink RL 33 yX11_setS, Cond.instanceMethod yX11_setS, Cond.selects RX11 yX11_setS yX11_setS, Cond.code yX11_setS cX11_setS 2 (some .int), Cond.methodLink RX11 94 yX9_changeS, Cond.instanceMethod yX9_changeS, Cond.selects RX9 yX9_changeS yX9_changeS, Cond.code yX9_changeS cX9_changeS 3 (some .int), Cond.methodLink RL 109 yX12_setS, Cond.instanceMethod yX12_setS, Cond.selects RX12 yX12_setS yX12_setS, Cond.code yX12_setS cX12_setS 3 (some .int), Cond.methodLink RL 110 yL_bake, Cond.static yL_bake, Cond.codeWith yL_bake cL_bake 4 (some .int) [(0, 9, 12, 13), (0, 9, 15, 15)], Cond.methodLink RL 36 yX11_bake, Cond.instanceMethod yX11_bake, Cond.selects RX11 yX11_bake yX11_bake, Cond.code yX11_bake cX11_bake 2 (some .int), Cond.methodLink RX11 97 yX9_whyNoDay]
def wsL_law0_r18 : List Cond := [Cond.instanceMethod yX9_whyNoDay, Cond.selects RX9 yX9_whyNoDay yX9_whyNoDay, Cond.code yX9_whyNoDay cX9_whyNoDay 2 (some .int), Cond.methodLink RX9 87 yX1_size, Cond.instanceMethod yX1_size, Cond.selects RX1 yX1_size yX1_size, Cond.code yX1_size cX1_size 1 (some .int), Cond.methodLink RX11 100 yX9_haveDay, Cond.instanceMethod yX9_haveDay, Cond.selects RX9 yX9_haveDay yX9_haveDay, Cond.code yX9_haveDay cX9_haveDay 5 (some .int), Cond.methodLink RX9 146 Lib.Math.max.name, Cond.static Lib.Math.max.name, Cond.code Lib.Math.max.name Lib.Math.max.code 2 (some .int), Cond.methodLink RX9 112 yX6_cameOut, Cond.instanceMethod yX6_cameOut, Cond.selects RX6 yX6_cameOut yX6_cameOut, Cond.code yX6_cameOut cX6_cameOut 1 (some .int), Cond.methodLink RX9 115 yX9_arrangeNextDay, Cond.instanceMethod yX9_arrangeNextDay, Cond.selects RX9 yX9_arrangeNextDay yX9_arrangeNextDay, Cond.code yX9_arrangeNextDay cX9_arrangeNextDay 2 none, Cond.methodLink RX9 102 yX4_size, Cond.instanceMethod yX4_size]
def wsL_law0_r19 : List Cond := [Cond.selects RX4 yX4_size yX4_size, Cond.code yX4_size cX4_size 1 (some .int), Cond.methodLink RX9 103 yX4_nextOne, Cond.instanceMethod yX4_nextOne, Cond.selects RX4 yX4_nextOne yX4_nextOne, Cond.code yX4_nextOne cX4_nextOne 8 (some .int), Cond.methodLink RX4 46 yX4_dueOf, Cond.instanceMethod yX4_dueOf, Cond.selects RX4 yX4_dueOf yX4_dueOf, Cond.code yX4_dueOf cX4_dueOf 6 (some .long), Cond.methodLink RX4 32 yX7_sum, Cond.instanceMethod yX7_sum, Cond.selects RX7 yX7_sum yX7_sum, Cond.code yX7_sum cX7_sum 6 (some .int), Cond.methodLink RX9 106 yX3_arrange, Cond.instanceMethod yX3_arrange, Cond.selects RX3 yX3_arrange yX3_arrange, Cond.code yX3_arrange cX3_arrange 7 none, Cond.fieldLink RX3 31 "OvenDays$DayPlan" "count" "I", Cond.methodLink RX3 35 yX1_size, Cond.methodLink RX3 41 yX1_value, Cond.instanceMethod yX1_value, Cond.selects RX1 yX1_value yX1_value, Cond.code yX1_value cX1_value 3 (some .int)]
def wsL_law0_r20 : List Cond := [Cond.methodLink RX9 119 yX4_bringWood, Cond.instanceMethod yX4_bringWood, Cond.selects RX4 yX4_bringWood yX4_bringWood, Cond.code yX4_bringWood cX4_bringWood 4 none, Cond.methodLink RX4 42 yX4_nextOne, Cond.methodLink RX9 123 yX9_heatWith, Cond.instanceMethod yX9_heatWith, Cond.selects RX9 yX9_heatWith yX9_heatWith, Cond.code yX9_heatWith cX9_heatWith 2 (some .int), Cond.methodLink RX9 97 Lib.Math.min.name, Cond.methodLink RX9 126 yX3_fire, Cond.instanceMethod yX3_fire, Cond.selects RX3 yX3_fire yX3_fire, Cond.code yX3_fire cX3_fire 5 none, Cond.fieldLink RX3 45 "OvenDays$DayPlan" "heat" "I", Cond.fieldLink RX3 52 "OvenDays$DayPlan" "left" "I", Cond.methodLink RX3 66 Lib.Math.max.name, Cond.methodLink RX3 48 yX3_startWaiting, Cond.instanceMethod yX3_startWaiting, Cond.selects RX3 yX3_startWaiting yX3_startWaiting, Cond.code yX3_startWaiting cX3_startWaiting 4 none, Cond.methodLink RX3 71 yX5_clear, Cond.instanceMethod yX5_clear, Cond.selects RX5 yX5_clear yX5_clear]
def wsL_law0_r21 : List Cond := [Cond.code yX5_clear cX5_clear 1 none, Cond.methodLink RX3 55 yX3_kindForHeat, Cond.instanceMethod yX3_kindForHeat, Cond.selects RX3 yX3_kindForHeat yX3_kindForHeat, Cond.code yX3_kindForHeat cX3_kindForHeat 2 (some .int), Cond.fieldLink RX3 28 "OvenDays$DayPlan" "LOWEST" "[I", Cond.fieldLink RX3 74 "OvenDays$DayPlan" "GREATEST" "[I", Cond.methodLink RX3 58 yX3_bakeLoad, Cond.instanceMethod yX3_bakeLoad, Cond.selects RX3 yX3_bakeLoad yX3_bakeLoad, Cond.code yX3_bakeLoad cX3_bakeLoad 9 none, Cond.fieldLink RX3 78 "OvenDays$DayPlan" "TICKS" "[I", Cond.methodLink RX3 77 yX5_size, Cond.instanceMethod yX5_size, Cond.selects RX5 yX5_size yX5_size, Cond.code yX5_size cX5_size 1 (some .int), Cond.methodLink RX3 81 yX5_add, Cond.instanceMethod yX5_add, Cond.selects RX5 yX5_add yX5_add, Cond.code yX5_add cX5_add 6 none, Cond.methodLink RX5 32 yX7_put, Cond.methodLink RX3 62 yX3_isTooHotForSome, Cond.instanceMethod yX3_isTooHotForSome, Cond.selects RX3 yX3_isTooHotForSome yX3_isTooHotForSome]
def wsL_law0_r22 : List Cond := [Cond.code yX3_isTooHotForSome cX3_isTooHotForSome 2 (some .boolean), Cond.methodLink RX9 130 yX3_loads, Cond.instanceMethod yX3_loads, Cond.selects RX3 yX3_loads yX3_loads, Cond.code yX3_loads cX3_loads 1 (some (.object "OvenDays$Loads")), Cond.methodLink RX9 133 yX9_bakeLoads, Cond.instanceMethod yX9_bakeLoads, Cond.selects RX9 yX9_bakeLoads yX9_bakeLoads, Cond.code yX9_bakeLoads cX9_bakeLoads 6 (some .int), Cond.methodLink RX9 152 yX5_size, Cond.methodLink RX9 153 yX3_size, Cond.instanceMethod yX3_size, Cond.selects RX3 yX3_size yX3_size, Cond.code yX3_size cX3_size 1 (some .int), Cond.methodLink RX9 154 yX3_loadAt, Cond.instanceMethod yX3_loadAt, Cond.selects RX3 yX3_loadAt yX3_loadAt, Cond.code yX3_loadAt cX3_loadAt 2 (some .int), Cond.methodLink RX9 157 yX3_batchAt, Cond.instanceMethod yX3_batchAt, Cond.selects RX3 yX3_batchAt yX3_batchAt, Cond.code yX3_batchAt cX3_batchAt 2 (some .int), Cond.methodLink RX9 160 yX5_value, Cond.instanceMethod yX5_value]
def wsL_law0_r23 : List Cond := [Cond.selects RX5 yX5_value yX5_value, Cond.code yX5_value cX5_value 3 (some .int), Cond.methodLink RX5 28 yX7_get, Cond.methodLink RX9 161 yX9_bakeBatch, Cond.instanceMethod yX9_bakeBatch, Cond.selects RX9 yX9_bakeBatch yX9_bakeBatch, Cond.code yX9_bakeBatch cX9_bakeBatch 9 none, Cond.methodLink RX9 165 yX1_value, Cond.methodLink RX9 91 yX4_value, Cond.instanceMethod yX4_value, Cond.selects RX4 yX4_value yX4_value, Cond.code yX4_value cX4_value 3 (some .int), Cond.methodLink RX9 166 yX3_paleBelow, Cond.static yX3_paleBelow, Cond.code yX3_paleBelow cX3_paleBelow 1 (some .int), Cond.methodLink RX9 169 yX4_putIn, Cond.instanceMethod yX4_putIn, Cond.selects RX4 yX4_putIn yX4_putIn, Cond.code yX4_putIn cX4_putIn 3 none, Cond.methodLink RX9 172 yX9_blur, Cond.instanceMethod yX9_blur, Cond.selects RX9 yX9_blur yX9_blur, Cond.code yX9_blur cX9_blur 5 (some .int), Cond.methodLink RX9 179 yX9_draw]
def wsL_law0_r24 : List Cond := [Cond.instanceMethod yX9_draw, Cond.selects RX9 yX9_draw yX9_draw, Cond.code yX9_draw cX9_draw 2 (some .int), Cond.constantLong RX9 182 (1103515245), Cond.constantLong RX9 184 (12345), Cond.constantLong RX9 186 (2147483647), Cond.methodLink RX9 175 yX6_add, Cond.instanceMethod yX6_add, Cond.selects RX6 yX6_add yX6_add, Cond.code yX6_add cX6_add 8 none, Cond.methodLink RX6 47 yX7_put, Cond.methodLink RX6 51 yJ6_bitCount_0f7a4, Cond.static yJ6_bitCount_0f7a4, Cond.initialized RJ6, Cond.code yJ6_bitCount_0f7a4 cJ6_bitCount_0f7a4 1 (some .int), Cond.constant RJ6 265 (1431655765), Cond.constant RJ6 266 (858993459), Cond.constant RJ6 267 (252645135), Cond.methodLink RX9 137 yX6_sortFrom, Cond.instanceMethod yX6_sortFrom, Cond.selects RX6 yX6_sortFrom yX6_sortFrom, Cond.code yX6_sortFrom cX6_sortFrom 5 none, Cond.methodLink RX6 57 Lib.Math.max.name, Cond.methodLink RX6 41 yX6_firstKept]
def wsL_law0_r25 : List Cond := [Cond.instanceMethod yX6_firstKept, Cond.selects RX6 yX6_firstKept yX6_firstKept, Cond.code yX6_firstKept cX6_firstKept 1 (some .int), Cond.methodLink RX6 60 yX6_value, Cond.instanceMethod yX6_value, Cond.selects RX6 yX6_value yX6_value, Cond.code yX6_value cX6_value 3 (some .int), Cond.methodLink RX6 44 yX7_get, Cond.methodLink RX6 63 yX4_takerOf, Cond.instanceMethod yX4_takerOf, Cond.selects RX4 yX4_takerOf yX4_takerOf, Cond.code yX4_takerOf cX4_takerOf 8 (some .int), Cond.static yX11_contains, Cond.code yX11_contains cX11_contains 2 (some .boolean), Cond.methodLink RX4 54 yJ6_bitCount_0f7a4, Cond.methodLink RX6 68 yX6_give, Cond.instanceMethod yX6_give, Cond.selects RX6 yX6_give yX6_give, Cond.code yX6_give cX6_give 3 none, Cond.methodLink RX9 141 yX3_dough, Cond.instanceMethod yX3_dough, Cond.selects RX3 yX3_dough yX3_dough, Cond.code yX3_dough cX3_dough 4 (some .int), Cond.methodLink RX3 89 yX3_loadAt]
def wsL_law0_r26 : List Cond := [Cond.methodLink RX3 85 yX3_batchAt, Cond.methodLink RX9 144 yX3_heat, Cond.instanceMethod yX3_heat, Cond.selects RX3 yX3_heat yX3_heat, Cond.code yX3_heat cX3_heat 1 (some .int), Cond.methodLink RX9 149 yX1_clear, Cond.instanceMethod yX1_clear, Cond.selects RX1 yX1_clear yX1_clear, Cond.code yX1_clear cX1_clear 1 none, Cond.methodLink RL 112 yX12_bake, Cond.instanceMethod yX12_bake, Cond.selects RX12 yX12_bake yX12_bake, Cond.code yX12_bake cX12_bake 2 (some .int), Cond.methodLink RX12 163 yX12_badDay, Cond.instanceMethod yX12_badDay, Cond.selects RX12 yX12_badDay yX12_badDay, Cond.code yX12_badDay cX12_badDay 2 (some .int), Cond.methodLink RX12 160 yX12_isWood, Cond.static yX12_isWood, Cond.code yX12_isWood cX12_isWood 1 (some .boolean), Cond.methodLink RX12 166 yX12_dayWith, Cond.instanceMethod yX12_dayWith, Cond.selects RX12 yX12_dayWith yX12_dayWith, Cond.code yX12_dayWith cX12_dayWith 6 (some .int)]
def wsL_law0_r27 : List Cond := [Cond.fieldLink RX12 134 "OvenDaysModel" "baked" "I", Cond.methodLink RX12 147 yX12_next, Cond.instanceMethod yX12_next, Cond.selects RX12 yX12_next yX12_next, Cond.code yX12_next cX12_next 4 (some .int), Cond.methodLink RX12 79 yX12_dueOf, Cond.instanceMethod yX12_dueOf, Cond.selects RX12 yX12_dueOf yX12_dueOf, Cond.code yX12_dueOf cX12_dueOf 2 (some .long), Cond.methodLink RX12 76 yX12_sum, Cond.instanceMethod yX12_sum, Cond.selects RX12 yX12_sum yX12_sum, Cond.code yX12_sum cX12_sum 4 (some .int), Cond.methodLink RX12 150 yX12_kindNow, Cond.instanceMethod yX12_kindNow, Cond.selects RX12 yX12_kindNow yX12_kindNow, Cond.code yX12_kindNow cX12_kindNow 4 (some .int), Cond.methodLink RX12 141 yX12_waits, Cond.instanceMethod yX12_waits, Cond.selects RX12 yX12_waits yX12_waits, Cond.code yX12_waits cX12_waits 4 (some .boolean), Cond.methodLink RX12 131 yX12_lowest, Cond.static yX12_lowest, Cond.code yX12_lowest cX12_lowest 1 (some .int)]
def wsL_law0_r28 : List Cond := [Cond.methodLink RX12 144 yX12_highest, Cond.static yX12_highest, Cond.code yX12_highest cX12_highest 1 (some .int), Cond.methodLink RX12 128 yX12_falls, Cond.instanceMethod yX12_falls, Cond.selects RX12 yX12_falls yX12_falls, Cond.code yX12_falls cX12_falls 2 none, Cond.methodLink RX12 153 yX12_bakes, Cond.instanceMethod yX12_bakes, Cond.selects RX12 yX12_bakes yX12_bakes, Cond.code yX12_bakes cX12_bakes 10 none, Cond.fieldLink RX12 119 "OvenDaysModel" "inMany" "I", Cond.methodLink RX12 122 yX12_fills, Cond.instanceMethod yX12_fills, Cond.selects RX12 yX12_fills yX12_fills, Cond.code yX12_fills cX12_fills 9 (some .int), Cond.methodLink RX12 125 yX12_ticksOf, Cond.static yX12_ticksOf, Cond.code yX12_ticksOf cX12_ticksOf 1 (some .int), Cond.methodLink RX12 137 yX12_comesOut, Cond.instanceMethod yX12_comesOut, Cond.selects RX12 yX12_comesOut yX12_comesOut, Cond.code yX12_comesOut cX12_comesOut 8 none, Cond.methodLink RX12 101 yX12_loafAt]
def wsL_law0_r29 : List Cond := [Cond.static yX12_loafAt, Cond.code yX12_loafAt cX12_loafAt 1 (some .int), Cond.methodLink RX12 104 yX12_draw, Cond.instanceMethod yX12_draw, Cond.selects RX12 yX12_draw yX12_draw, Cond.code yX12_draw cX12_draw 2 (some .int), Cond.constantLong RX12 94 (1103515245), Cond.constantLong RX12 96 (12345), Cond.constantLong RX12 98 (2147483648), Cond.constant RX12 100 (65536), Cond.methodLink RX12 107 yX12_bits, Cond.static yX12_bits, Cond.code yX12_bits cX12_bits 3 (some .int), Cond.methodLink RX12 157 yX12_sorts, Cond.instanceMethod yX12_sorts, Cond.selects RX12 yX12_sorts yX12_sorts, Cond.code yX12_sorts cX12_sorts 4 none, Cond.methodLink RX12 110 yX12_firstKept, Cond.instanceMethod yX12_firstKept, Cond.selects RX12 yX12_firstKept yX12_firstKept, Cond.code yX12_firstKept cX12_firstKept 1 (some .int), Cond.methodLink RX12 113 yX12_loafOf, Cond.instanceMethod yX12_loafOf, Cond.selects RX12 yX12_loafOf yX12_loafOf]
def wsL_law0_r30 : List Cond := [Cond.code yX12_loafOf cX12_loafOf 3 (some .int), Cond.methodLink RX12 116 yX12_meant, Cond.instanceMethod yX12_meant, Cond.selects RX12 yX12_meant yX12_meant, Cond.code yX12_meant cX12_meant 9 (some .int), Cond.methodLink RL 113 yL_claim, Cond.static yL_claim, Cond.codeWith yL_claim cL_claim 4 (some .int) [(0, 9, 12, 21)], Cond.methodLink RL 39 yX11_claim, Cond.instanceMethod yX11_claim, Cond.selects RX11 yX11_claim yX11_claim, Cond.code yX11_claim cX11_claim 2 (some .int), Cond.methodLink RX11 104 yX9_letClaim, Cond.instanceMethod yX9_letClaim, Cond.selects RX9 yX9_letClaim yX9_letClaim, Cond.code yX9_letClaim cX9_letClaim 2 (some .int), Cond.methodLink RX9 94 yX6_moveFromShelf, Cond.instanceMethod yX6_moveFromShelf, Cond.selects RX6 yX6_moveFromShelf yX6_moveFromShelf, Cond.code yX6_moveFromShelf cX6_moveFromShelf 7 (some .int), Cond.methodLink RX6 83 yX6_balanceOf, Cond.instanceMethod yX6_balanceOf, Cond.selects RX6 yX6_balanceOf yX6_balanceOf, Cond.code yX6_balanceOf cX6_balanceOf 3 (some .int)]
def wsL_law0_r31 : List Cond := [Cond.methodLink RX6 79 yX6_countWithBoth, Cond.instanceMethod yX6_countWithBoth, Cond.selects RX6 yX6_countWithBoth yX6_countWithBoth, Cond.code yX6_countWithBoth cX6_countWithBoth 5 (some .int), Cond.methodLink RX6 75 yX7_countBoth, Cond.methodLink RL 115 yX12_claim, Cond.instanceMethod yX12_claim, Cond.selects RX12 yX12_claim yX12_claim, Cond.code yX12_claim cX12_claim 2 (some .int), Cond.methodLink RX12 172 yX12_claims, Cond.instanceMethod yX12_claims, Cond.selects RX12 yX12_claims yX12_claims, Cond.code yX12_claims cX12_claims 6 (some .int), Cond.methodLink RX12 169 yX12_balanceOf, Cond.instanceMethod yX12_balanceOf, Cond.selects RX12 yX12_balanceOf yX12_balanceOf, Cond.code yX12_balanceOf cX12_balanceOf 5 (some .int), Cond.methodLink RL 116 yL_returnLoaves, Cond.static yL_returnLoaves, Cond.codeWith yL_returnLoaves cL_returnLoaves 4 (some .int) [(0, 9, 12, 21)], Cond.methodLink RL 42 yX11_returnLoaves, Cond.instanceMethod yX11_returnLoaves, Cond.selects RX11 yX11_returnLoaves yX11_returnLoaves, Cond.code yX11_returnLoaves cX11_returnLoaves 2 (some .int)]
def wsL_law0_r32 : List Cond := [Cond.methodLink RX11 111 yX6_moveToShelf, Cond.instanceMethod yX6_moveToShelf, Cond.selects RX6 yX6_moveToShelf yX6_moveToShelf, Cond.code yX6_moveToShelf cX6_moveToShelf 6 (some .int), Cond.methodLink RL 118 yX12_returnLoaves, Cond.instanceMethod yX12_returnLoaves, Cond.selects RX12 yX12_returnLoaves yX12_returnLoaves, Cond.code yX12_returnLoaves cX12_returnLoaves 2 (some .int), Cond.methodLink RX12 175 yX12_returns, Cond.instanceMethod yX12_returns, Cond.selects RX12 yX12_returns yX12_returns, Cond.code yX12_returns cX12_returns 6 (some .int), Cond.methodLink RL 119 yX11_giveAway, Cond.instanceMethod yX11_giveAway, Cond.selects RX11 yX11_giveAway yX11_giveAway, Cond.code yX11_giveAway cX11_giveAway 1 (some .int), Cond.methodLink RX11 116 yX6_emptyShelf, Cond.instanceMethod yX6_emptyShelf, Cond.selects RX6 yX6_emptyShelf yX6_emptyShelf, Cond.code yX6_emptyShelf cX6_emptyShelf 3 (some .int), Cond.methodLink RL 122 yX12_giveAway, Cond.instanceMethod yX12_giveAway, Cond.selects RX12 yX12_giveAway yX12_giveAway, Cond.code yX12_giveAway cX12_giveAway 1 (some .int)]
def wsL_law0_r33 : List Cond := [Cond.methodLink RX12 178 yX12_gives, Cond.instanceMethod yX12_gives, Cond.selects RX12 yX12_gives yX12_gives, Cond.code yX12_gives cX12_gives 3 (some .int), Cond.methodLink RL 123 yL_household, Cond.static yL_household, Cond.codeWith yL_household cL_household 5 (some .int) [(0, 10, 13, 21), (0, 10, 17, 13)], Cond.methodLink RL 45 yX11_household, Cond.instanceMethod yX11_household, Cond.selects RX11 yX11_household yX11_household, Cond.code yX11_household cX11_household 3 (some .int), Cond.methodLink RX11 120 yX11_whyNotBelow, Cond.methodLink RX11 123 yX6_countWith, Cond.instanceMethod yX6_countWith, Cond.selects RX6 yX6_countWith yX6_countWith, Cond.code yX6_countWith cX6_countWith 3 (some .int), Cond.methodLink RX6 71 yX7_count, Cond.methodLink RX11 126 yX6_countWithBoth, Cond.methodLink RX11 130 yX1_countOf, Cond.instanceMethod yX1_countOf, Cond.selects RX1 yX1_countOf yX1_countOf, Cond.code yX1_countOf cX1_countOf 2 (some .int), Cond.methodLink RX1 32 yX7_count, Cond.methodLink RX11 133 yX4_value]
def wsL_law0_r34 : List Cond := [Cond.methodLink RL 125 yX12_household, Cond.instanceMethod yX12_household, Cond.selects RX12 yX12_household yX12_household, Cond.code yX12_household cX12_household 3 (some .int), Cond.methodLink RX12 185 yX12_tellHouse, Cond.instanceMethod yX12_tellHouse, Cond.selects RX12 yX12_tellHouse yX12_tellHouse, Cond.code yX12_tellHouse cX12_tellHouse 5 (some .int), Cond.methodLink RX12 181 yX12_kept, Cond.instanceMethod yX12_kept, Cond.selects RX12 yX12_kept yX12_kept, Cond.code yX12_kept cX12_kept 6 (some .int), Cond.methodLink RL 126 yL_due, Cond.static yL_due, Cond.codeWith yL_due cL_due 4 (some .int) [(0, 8, 11, 21)], Cond.methodLink RL 48 yX11_due, Cond.instanceMethod yX11_due, Cond.selects RX11 yX11_due yX11_due, Cond.code yX11_due cX11_due 2 (some .long), Cond.methodLink RX11 136 yX4_dueOf, Cond.methodLink RL 128 yX12_due, Cond.instanceMethod yX12_due, Cond.selects RX12 yX12_due yX12_due, Cond.code yX12_due cX12_due 2 (some .long)]
def wsL_law0_r35 : List Cond := [Cond.methodLink RL 129 yX11_nextForWood, Cond.instanceMethod yX11_nextForWood, Cond.selects RX11 yX11_nextForWood yX11_nextForWood, Cond.code yX11_nextForWood cX11_nextForWood 1 (some .int), Cond.methodLink RX11 140 yX4_nextOne, Cond.methodLink RL 132 yX12_nextForWood, Cond.instanceMethod yX12_nextForWood, Cond.selects RX12 yX12_nextForWood yX12_nextForWood, Cond.code yX12_nextForWood cX12_nextForWood 1 (some .int), Cond.methodLink RL 133 yL_balance, Cond.static yL_balance, Cond.codeWith yL_balance cL_balance 5 (some .int) [(0, 10, 13, 21), (0, 10, 17, 13)], Cond.methodLink RL 52 yX11_balance, Cond.instanceMethod yX11_balance, Cond.selects RX11 yX11_balance yX11_balance, Cond.code yX11_balance cX11_balance 3 (some .int), Cond.methodLink RX11 143 yX6_balanceOf, Cond.methodLink RL 135 yX12_balance, Cond.instanceMethod yX12_balance, Cond.selects RX12 yX12_balance yX12_balance, Cond.code yX12_balance cX12_balance 3 (some .int), Cond.methodLink RL 136 yL_batch, Cond.static yL_batch, Cond.codeWith yL_batch cL_batch 5 (some .int) [(0, 10, 13, 13)]]
def wsL_law0_r36 : List Cond := [Cond.methodLink RL 55 yX11_batch, Cond.instanceMethod yX11_batch, Cond.selects RX11 yX11_batch yX11_batch, Cond.code yX11_batch cX11_batch 3 (some .int), Cond.methodLink RX11 146 yX1_value, Cond.methodLink RX11 147 yX9_arrangeNextDay, Cond.methodLink RX11 151 yX3_placeOf, Cond.instanceMethod yX3_placeOf, Cond.selects RX3 yX3_placeOf yX3_placeOf, Cond.code yX3_placeOf cX3_placeOf 3 (some .int), Cond.methodLink RL 138 yX12_batch, Cond.instanceMethod yX12_batch, Cond.selects RX12 yX12_batch yX12_batch, Cond.code yX12_batch cX12_batch 3 (some .int), Cond.methodLink RX12 191 yX12_placeOf, Cond.instanceMethod yX12_placeOf, Cond.selects RX12 yX12_placeOf yX12_placeOf, Cond.code yX12_placeOf cX12_placeOf 6 (some .int), Cond.methodLink RX12 188 yX12_behind, Cond.instanceMethod yX12_behind, Cond.selects RX12 yX12_behind yX12_behind, Cond.code yX12_behind cX12_behind 2 (some .int), Cond.methodLink RL 139 yL_loaf, Cond.static yL_loaf]
def wsL_law0_r37 : List Cond := [Cond.codeWith yL_loaf cL_loaf 5 (some .int) [(0, 10, 13, 21), (0, 10, 17, 13)], Cond.methodLink RL 58 yX11_loaf, Cond.instanceMethod yX11_loaf, Cond.selects RX11 yX11_loaf yX11_loaf, Cond.code yX11_loaf cX11_loaf 3 (some .int), Cond.methodLink RX11 154 yX6_keeps, Cond.instanceMethod yX6_keeps, Cond.selects RX6 yX6_keeps yX6_keeps, Cond.code yX6_keeps cX6_keeps 2 (some .boolean), Cond.methodLink RX11 157 yX6_value, Cond.methodLink RL 141 yX12_loaf, Cond.instanceMethod yX12_loaf, Cond.selects RX12 yX12_loaf yX12_loaf, Cond.code yX12_loaf cX12_loaf 3 (some .int), Cond.methodLink RL 142 yL_load, Cond.static yL_load, Cond.codeWith yL_load cL_load 5 (some .int) [(0, 10, 13, 13)], Cond.methodLink RL 61 yX11_load, Cond.instanceMethod yX11_load, Cond.selects RX11 yX11_load yX11_load, Cond.code yX11_load cX11_load 3 (some .int), Cond.methodLink RX11 162 yX5_size, Cond.methodLink RX11 167 yX5_value, Cond.methodLink RL 144 yX12_load]
def wsL_law0_r38 : List Cond := [Cond.instanceMethod yX12_load, Cond.selects RX12 yX12_load yX12_load, Cond.code yX12_load cX12_load 3 (some .int), Cond.methodLink RL 145 yL_whole, Cond.static yL_whole, Cond.codeWith yL_whole cL_whole 4 (some .int) [(0, 9, 12, 13)], Cond.methodLink RL 64 yX11_whole, Cond.instanceMethod yX11_whole, Cond.selects RX11 yX11_whole yX11_whole, Cond.code yX11_whole cX11_whole 2 (some .int), Cond.methodLink RX11 168 yX4_size, Cond.methodLink RX11 175 yX1_size, Cond.methodLink RX11 176 yX4_sumOf, Cond.instanceMethod yX4_sumOf, Cond.selects RX4 yX4_sumOf yX4_sumOf, Cond.code yX4_sumOf cX4_sumOf 2 (some .int), Cond.methodLink RX11 182 yX6_cameOut, Cond.methodLink RX11 185 yX6_pale, Cond.instanceMethod yX6_pale, Cond.selects RX6 yX6_pale yX6_pale, Cond.code yX6_pale cX6_pale 1 (some .int), Cond.methodLink RX11 188 yX6_kept, Cond.methodLink RX11 191 yX6_countWithOthers, Cond.instanceMethod yX6_countWithOthers]
def wsL_law0_r39 : List Cond := [Cond.selects RX6 yX6_countWithOthers yX6_countWithOthers, Cond.code yX6_countWithOthers cX6_countWithOthers 4 (some .int), Cond.methodLink RL 147 yX12_whole, Cond.instanceMethod yX12_whole, Cond.selects RX12 yX12_whole yX12_whole, Cond.code yX12_whole cX12_whole 2 (some .int), Cond.methodLink RX12 198 yX12_tellWhole, Cond.instanceMethod yX12_tellWhole, Cond.selects RX12 yX12_tellWhole yX12_tellWhole, Cond.code yX12_tellWhole cX12_tellWhole 2 (some .int), Cond.methodLink RX12 194 yX12_keptWith, Cond.instanceMethod yX12_keptWith, Cond.selects RX12 yX12_keptWith yX12_keptWith, Cond.code yX12_keptWith cX12_keptWith 5 (some .int), Cond.methodLink RL 148 yL_doughWith, Cond.static yL_doughWith, Cond.codeWith yL_doughWith cL_doughWith 4 (some .int) [(0, 9, 12, 13)], Cond.methodLink RL 67 yX11_doughWith, Cond.instanceMethod yX11_doughWith, Cond.selects RX11 yX11_doughWith yX11_doughWith, Cond.code yX11_doughWith cX11_doughWith 2 (some .int), Cond.methodLink RX11 200 yX11_doughOfArrangedDay, Cond.instanceMethod yX11_doughOfArrangedDay, Cond.selects RX11 yX11_doughOfArrangedDay yX11_doughOfArrangedDay]
def wsL_law0_r40 : List Cond := [Cond.code yX11_doughOfArrangedDay cX11_doughOfArrangedDay 2 (some .int), Cond.methodLink RX11 298 yX9_heatWith, Cond.methodLink RX11 301 yX3_fire, Cond.methodLink RX11 305 yX3_dough, Cond.methodLink RL 150 yX12_doughWith, Cond.instanceMethod yX12_doughWith, Cond.selects RX12 yX12_doughWith yX12_doughWith, Cond.code yX12_doughWith cX12_doughWith 2 (some .int), Cond.methodLink RX12 207 yX12_doughOf, Cond.instanceMethod yX12_doughOf, Cond.selects RX12 yX12_doughOf yX12_doughOf, Cond.code yX12_doughOf cX12_doughOf 4 (some .int), Cond.methodLink RX12 201 yX12_keeps, Cond.instanceMethod yX12_keeps, Cond.selects RX12 yX12_keeps yX12_keeps, Cond.code yX12_keeps cX12_keeps 2 none, Cond.methodLink RX12 204 yX12_takesBack, Cond.instanceMethod yX12_takesBack, Cond.selects RX12 yX12_takesBack yX12_takesBack, Cond.code yX12_takesBack cX12_takesBack 2 none, Cond.methodLink RL 151 yX11_bestWood, Cond.instanceMethod yX11_bestWood, Cond.selects RX11 yX11_bestWood yX11_bestWood, Cond.code yX11_bestWood cX11_bestWood 5 (some .int)]
def wsL_law0_r41 : List Cond := [Cond.methodLink RL 154 yX12_bestWood, Cond.instanceMethod yX12_bestWood, Cond.selects RX12 yX12_bestWood yX12_bestWood, Cond.code yX12_bestWood cX12_bestWood 5 (some .int), Cond.methodLink RL 155 yX11_likeMarks, Cond.instanceMethod yX11_likeMarks, Cond.selects RX11 yX11_likeMarks yX11_likeMarks, Cond.code yX11_likeMarks cX11_likeMarks 1 (some .int), Cond.methodLink RX11 203 yX4_likePairs, Cond.instanceMethod yX4_likePairs, Cond.selects RX4 yX4_likePairs yX4_likePairs, Cond.code yX4_likePairs cX4_likePairs 4 (some .int), Cond.methodLink RX4 60 yX4_alike, Cond.static yX4_alike, Cond.code yX4_alike cX4_alike 2 (some .boolean), Cond.methodLink RL 158 yX12_likeMarks, Cond.instanceMethod yX12_likeMarks, Cond.selects RX12 yX12_likeMarks yX12_likeMarks, Cond.code yX12_likeMarks cX12_likeMarks 1 (some .int), Cond.methodLink RX12 213 yX12_likes, Cond.instanceMethod yX12_likes, Cond.selects RX12 yX12_likes yX12_likes, Cond.code yX12_likes cX12_likes 4 (some .int), Cond.methodLink RX12 210 yX12_isLike]
def wsL_law0_r42 : List Cond := [Cond.static yX12_isLike, Cond.code yX12_isLike cX12_isLike 2 (some .boolean), Cond.methodLink RL 159 yL_freeMark, Cond.static yL_freeMark, Cond.codeWith yL_freeMark cL_freeMark 4 (some .int) [(0, 9, 12, 13)], Cond.methodLink RL 70 yX11_freeMark, Cond.instanceMethod yX11_freeMark, Cond.selects RX11 yX11_freeMark yX11_freeMark, Cond.code yX11_freeMark cX11_freeMark 4 (some .int), Cond.constant RX11 206 (65535), Cond.methodLink RX11 207 yX4_hasLike, Cond.instanceMethod yX4_hasLike, Cond.selects RX4 yX4_hasLike yX4_hasLike, Cond.code yX4_hasLike cX4_hasLike 3 (some .boolean), Cond.methodLink RX11 210 yX11_nextWithAsMany, Cond.static yX11_nextWithAsMany, Cond.code yX11_nextWithAsMany cX11_nextWithAsMany 3 (some .int), Cond.constant RX11 308 (65536), Cond.methodLink RL 161 yX12_freeMark, Cond.instanceMethod yX12_freeMark, Cond.selects RX12 yX12_freeMark yX12_freeMark, Cond.code yX12_freeMark cX12_freeMark 5 (some .int), Cond.methodLink RL 162 yL_type, Cond.static yL_type]
def wsL_law0_r43 : List Cond := [Cond.codeWith yL_type cL_type 4 (some .int) [(0, 9, 12, 13), (0, 9, 15, 15)], Cond.methodLink RL 73 yX11_type, Cond.instanceMethod yX11_type, Cond.selects RX11 yX11_type yX11_type, Cond.code yX11_type cX11_type 2 (some .int), Cond.methodLink RX11 213 yX2_isFull, Cond.instanceMethod yX2_isFull, Cond.selects RX2 yX2_isFull yX2_isFull, Cond.code yX2_isFull cX2_isFull 1 (some .boolean), Cond.fieldLink RX2 23 "OvenDays$CommandText" "length" "I", Cond.methodLink RX11 217 yX2_append, Cond.instanceMethod yX2_append, Cond.selects RX2 yX2_append yX2_append, Cond.code yX2_append cX2_append 2 (some .int), Cond.methodLink RX2 26 yX2_isFull, Cond.methodLink RL 164 yX12_type, Cond.instanceMethod yX12_type, Cond.selects RX12 yX12_type yX12_type, Cond.code yX12_type cX12_type 2 (some .int), Cond.fieldLink RX12 216 "OvenDaysModel" "length" "I", Cond.methodLink RL 165 yX11_clearCommands, Cond.instanceMethod yX11_clearCommands, Cond.selects RX11 yX11_clearCommands yX11_clearCommands, Cond.code yX11_clearCommands cX11_clearCommands 1 (some .int)]
def wsL_law0_r44 : List Cond := [Cond.methodLink RX11 220 yX2_empty, Cond.instanceMethod yX2_empty, Cond.selects RX2 yX2_empty yX2_empty, Cond.code yX2_empty cX2_empty 2 (some .int), Cond.methodLink RL 168 yX12_clearCommands, Cond.instanceMethod yX12_clearCommands, Cond.selects RX12 yX12_clearCommands yX12_clearCommands, Cond.code yX12_clearCommands cX12_clearCommands 2 (some .int), Cond.methodLink RL 169 yX11_runCommands, Cond.instanceMethod yX11_runCommands, Cond.selects RX11 yX11_runCommands yX11_runCommands, Cond.code yX11_runCommands cX11_runCommands 4 (some .int), Cond.methodLink RX11 223 yX2_findFault, Cond.instanceMethod yX2_findFault, Cond.selects RX2 yX2_findFault yX2_findFault, Cond.code yX2_findFault cX2_findFault 2 (some .int), Cond.methodLink RX2 37 yX2_rewind, Cond.instanceMethod yX2_rewind, Cond.selects RX2 yX2_rewind yX2_rewind, Cond.code yX2_rewind cX2_rewind 1 none, Cond.fieldLink RX2 34 "OvenDays$CommandText" "position" "I", Cond.methodLink RX2 40 yX2_readCommand, Cond.instanceMethod yX2_readCommand, Cond.selects RX2 yX2_readCommand yX2_readCommand]
def wsL_law0_r45 : List Cond := [Cond.code yX2_readCommand cX2_readCommand 1 (some .boolean), Cond.methodLink RX2 43 yX2_skipSpaces, Cond.instanceMethod yX2_skipSpaces, Cond.selects RX2 yX2_skipSpaces yX2_skipSpaces, Cond.code yX2_skipSpaces cX2_skipSpaces 1 none, Cond.methodLink RX2 52 yX2_stands, Cond.instanceMethod yX2_stands, Cond.selects RX2 yX2_stands yX2_stands, Cond.code yX2_stands cX2_stands 2 (some .boolean), Cond.methodLink RX2 60 yX2_here, Cond.instanceMethod yX2_here, Cond.selects RX2 yX2_here yX2_here, Cond.code yX2_here cX2_here 1 (some .int), Cond.methodLink RX2 46 yX2_readWord, Cond.instanceMethod yX2_readWord, Cond.selects RX2 yX2_readWord yX2_readWord, Cond.code yX2_readWord cX2_readWord 2 (some .boolean), Cond.fieldLink RX2 30 "OvenDays$CommandText" "word" "LOvenDays$Word;", Cond.methodLink RX2 64 yX2_wordBetween, Cond.instanceMethod yX2_wordBetween, Cond.selects RX2 yX2_wordBetween yX2_wordBetween, Cond.code yX2_wordBetween cX2_wordBetween 5 (some (.object "OvenDays$Word")), Cond.fieldLink RX2 68 "OvenDays$CommandText" "WORDS" "[LOvenDays$Word;", Cond.methodLink RX2 78 yX2_isBetween]
def wsL_law0_r46 : List Cond := [Cond.instanceMethod yX2_isBetween, Cond.selects RX2 yX2_isBetween yX2_isBetween, Cond.code yX2_isBetween cX2_isBetween 5 (some .boolean), Cond.methodLink RX2 82 yJ0_length_8abf5, Cond.instanceMethod yJ0_length_8abf5, Cond.selects RJ0 yJ0_length_8abf5 yJ0_length_8abf5, Cond.initialized RJ0, Cond.code yJ0_length_8abf5 cJ0_length_8abf5 1 (some .int), Cond.fieldLink RJ0 9 "java/lang/String" "value" "[B", Cond.methodLink RJ0 335 yJ0_coder_7d493, Cond.instanceMethod yJ0_coder_7d493, Cond.selects RJ0 yJ0_coder_7d493 yJ0_coder_7d493, Cond.code yJ0_coder_7d493 cJ0_coder_7d493 1 (some .byte), Cond.fieldLink RJ0 38 "java/lang/String" "COMPACT_STRINGS" "Z", Cond.fieldLink RJ0 15 "java/lang/String" "coder" "B", Cond.methodLink RX2 86 yJ0_charAt_5068e, Cond.instanceMethod yJ0_charAt_5068e, Cond.selects RJ0 yJ0_charAt_5068e yJ0_charAt_5068e, Cond.code yJ0_charAt_5068e cJ0_charAt_5068e 2 (some .char), Cond.methodLink RJ0 492 yJ0_isLatin1_aae02, Cond.instanceMethod yJ0_isLatin1_aae02, Cond.selects RJ0 yJ0_isLatin1_aae02 yJ0_isLatin1_aae02, Cond.code yJ0_isLatin1_aae02 cJ0_isLatin1_aae02 1 (some .boolean), Cond.methodLink RJ0 495 yJ1_charAt_3b067]
def wsL_law0_r47 : List Cond := [Cond.static yJ1_charAt_3b067, Cond.initialized RJ1, Cond.code yJ1_charAt_3b067 cJ1_charAt_3b067 2 (some .char), Cond.methodLink RJ1 9 yJ0_checkIndex_df160, Cond.static yJ0_checkIndex_df160, Cond.code yJ0_checkIndex_df160 cJ0_checkIndex_df160 2 none, Cond.fieldLink RJ0 1053 "jdk/internal/util/Preconditions" "SIOOBE_FORMATTER" "Ljava/util/function/BiFunction;", Cond.methodLink RJ0 1059 yJ3_checkIndex_8e157, Cond.static yJ3_checkIndex_8e157, Cond.initialized RJ3, Cond.code yJ3_checkIndex_8e157 cJ3_checkIndex_8e157 3 (some .int), Cond.methodLink RJ0 498 yJ2_charAt_3b067, Cond.static yJ2_charAt_3b067, Cond.initialized RJ2, Cond.code yJ2_charAt_3b067 cJ2_charAt_3b067 2 (some .char), Cond.methodLink RJ2 67 yJ2_checkIndex_2214a, Cond.static yJ2_checkIndex_2214a, Cond.code yJ2_checkIndex_2214a cJ2_checkIndex_2214a 2 none, Cond.methodLink RJ2 48 yJ2_length_9d52b, Cond.static yJ2_length_9d52b, Cond.code yJ2_length_9d52b cJ2_length_9d52b 1 (some .int), Cond.methodLink RJ2 414 yJ0_checkIndex_df160, Cond.methodLink RJ2 71 yJ2_getChar_3b067, Cond.static yJ2_getChar_3b067]
def wsL_law0_r48 : List Cond := [Cond.code yJ2_getChar_3b067 cJ2_getChar_3b067 2 (some .char), Cond.fieldLink RJ2 44 "java/lang/StringUTF16" "$assertionsDisabled" "Z", Cond.fieldLink RJ2 59 "java/lang/StringUTF16" "HI_BYTE_SHIFT" "I", Cond.fieldLink RJ2 63 "java/lang/StringUTF16" "LO_BYTE_SHIFT" "I", Cond.methodLink RX2 56 yX2_failAt, Cond.instanceMethod yX2_failAt, Cond.selects RX2 yX2_failAt yX2_failAt, Cond.code yX2_failAt cX2_failAt 2 (some .boolean), Cond.methodLink RX2 49 yX2_readNumbers, Cond.instanceMethod yX2_readNumbers, Cond.selects RX2 yX2_readNumbers yX2_readNumbers, Cond.code yX2_readNumbers cX2_readNumbers 3 (some .boolean), Cond.methodLink RX2 92 yX2_standsDigit, Cond.instanceMethod yX2_standsDigit, Cond.selects RX2 yX2_standsDigit yX2_standsDigit, Cond.code yX2_standsDigit cX2_standsDigit 1 (some .boolean), Cond.methodLink RX2 95 yX2_readDigits, Cond.instanceMethod yX2_readDigits, Cond.selects RX2 yX2_readDigits yX2_readDigits, Cond.code yX2_readDigits cX2_readDigits 3 (some .int), Cond.methodLink RX11 226 yX2_rewind, Cond.methodLink RX11 229 yX2_readCommand, Cond.methodLink RX11 232 yX2_word, Cond.instanceMethod yX2_word]
def wsL_law0_r49 : List Cond := [Cond.selects RX2 yX2_word yX2_word, Cond.code yX2_word cX2_word 1 (some (.object "OvenDays$Word")), Cond.methodLink RX11 236 yX2_number, Cond.instanceMethod yX2_number, Cond.selects RX2 yX2_number yX2_number, Cond.code yX2_number cX2_number 2 (some .int), Cond.methodLink RX11 239 yX11_carryOut, Cond.instanceMethod yX11_carryOut, Cond.selects RX11 yX11_carryOut yX11_carryOut, Cond.code yX11_carryOut cX11_carryOut 6 (some .int), Cond.fieldLink RX11 312 "OvenDays$1" "$SwitchMap$OvenDays$Word" "[I", Cond.methodLink RX11 309 yX11_whyNoCommand, Cond.instanceMethod yX11_whyNoCommand, Cond.selects RX11 yX11_whyNoCommand yX11_whyNoCommand, Cond.code yX11_whyNoCommand cX11_whyNoCommand 5 (some .int), Cond.methodLink RX11 318 ⟨"OvenDays$Word", "ordinal", "()I"⟩, Cond.sameMethod "OvenDays$Word" "java/lang/Enum" "ordinal" "()I", Cond.selects RX10 ⟨"OvenDays$Word", "ordinal", "()I"⟩ yJx29ce0_ordinal_8abf5, Cond.instanceMethod yJx29ce0_ordinal_8abf5, Cond.initialized RJx29ce0, Cond.code yJx29ce0_ordinal_8abf5 cJx29ce0_ordinal_8abf5 1 (some .int), Cond.fieldLink RJx29ce0 7 "java/lang/Enum" "ordinal" "I", Cond.methodLink RL 172 yX12_runCommands, Cond.instanceMethod yX12_runCommands]
def wsL_law0_r50 : List Cond := [Cond.selects RX12 yX12_runCommands yX12_runCommands, Cond.code yX12_runCommands cX12_runCommands 4 (some .int), Cond.fieldLink RX12 219 "OvenDaysModel" "spot" "I", Cond.fieldLink RX12 244 "OvenDaysModel" "stopped" "I", Cond.methodLink RX12 228 yX12_skips, Cond.instanceMethod yX12_skips, Cond.selects RX12 yX12_skips yX12_skips, Cond.code yX12_skips cX12_skips 2 (some .boolean), Cond.methodLink RX12 222 yX12_isAt, Cond.instanceMethod yX12_isAt, Cond.selects RX12 yX12_isAt yX12_isAt, Cond.code yX12_isAt cX12_isAt 3 (some .boolean), Cond.methodLink RX12 241 yX12_reads, Cond.instanceMethod yX12_reads, Cond.selects RX12 yX12_reads yX12_reads, Cond.code yX12_reads cX12_reads 5 (some .boolean), Cond.fieldLink RX12 235 "OvenDaysModel" "word" "I", Cond.methodLink RX12 232 yX12_wordFrom, Cond.instanceMethod yX12_wordFrom, Cond.selects RX12 yX12_wordFrom yX12_wordFrom, Cond.code yX12_wordFrom cX12_wordFrom 6 (some .int), Cond.methodLink RX12 225 yX12_letterAt, Cond.static yX12_letterAt, Cond.code yX12_letterAt cX12_letterAt 2 (some .int)]
def wsL_law0_r51 : List Cond := [Cond.methodLink RX12 238 yX12_readsNumber, Cond.instanceMethod yX12_readsNumber, Cond.selects RX12 yX12_readsNumber yX12_readsNumber, Cond.code yX12_readsNumber cX12_readsNumber 3 (some .int), Cond.methodLink RX12 247 yX12_does, Cond.instanceMethod yX12_does, Cond.selects RX12 yX12_does yX12_does, Cond.code yX12_does cX12_does 4 (some .int), Cond.methodLink RL 173 yX11_stop, Cond.instanceMethod yX11_stop, Cond.selects RX11 yX11_stop yX11_stop, Cond.code yX11_stop cX11_stop 1 (some .int), Cond.methodLink RL 176 yX12_stop, Cond.instanceMethod yX12_stop, Cond.selects RX12 yX12_stop yX12_stop, Cond.code yX12_stop cX12_stop 1 (some .int), Cond.methodLink RL 177 yL_undo, Cond.static yL_undo, Cond.codeWith yL_undo cL_undo 3 (some .int) [(0, 8, 11, 15)], Cond.methodLink RL 76 yX11_undo, Cond.instanceMethod yX11_undo, Cond.selects RX11 yX11_undo yX11_undo, Cond.code yX11_undo cX11_undo 1 (some .int), Cond.methodLink RX11 243 yX8_size]
def wsL_law0_r52 : List Cond := [Cond.instanceMethod yX8_size, Cond.selects RX8 yX8_size yX8_size, Cond.code yX8_size cX8_size 1 (some .int), Cond.methodLink RX11 244 yX8_popInto, Cond.instanceMethod yX8_popInto, Cond.selects RX8 yX8_popInto yX8_popInto, Cond.code yX8_popInto cX8_popInto 3 (some .int), Cond.methodLink RL 180 yX12_undo, Cond.instanceMethod yX12_undo, Cond.selects RX12 yX12_undo yX12_undo, Cond.code yX12_undo cX12_undo 2 (some .int), Cond.methodLink RL 181 yX11_digest, Cond.instanceMethod yX11_digest, Cond.selects RX11 yX11_digest yX11_digest, Cond.code yX11_digest cX11_digest 4 (some .long), Cond.constantLong RX11 248 (43087), Cond.methodLink RX11 250 yX11_mix, Cond.static yX11_mix, Cond.code yX11_mix cX11_mix 4 (some .long), Cond.constantLong RX11 323 (31), Cond.methodLink RX11 254 yX2_length, Cond.instanceMethod yX2_length, Cond.selects RX2 yX2_length yX2_length, Cond.code yX2_length cX2_length 1 (some .int)]
def wsL_law0_r53 : List Cond := [Cond.methodLink RX11 257 yX11_stop, Cond.methodLink RX11 259 yX11_whole, Cond.methodLink RX11 262 yX11_mixHouseholds, Cond.instanceMethod yX11_mixHouseholds, Cond.selects RX11 yX11_mixHouseholds yX11_mixHouseholds, Cond.code yX11_mixHouseholds cX11_mixHouseholds 7 (some .long), Cond.methodLink RX11 325 yX11_household, Cond.methodLink RX11 328 yX11_due, Cond.methodLink RX11 331 yX11_balance, Cond.methodLink RX11 266 yX11_nextForWood, Cond.methodLink RX11 269 yX11_mixBatches, Cond.instanceMethod yX11_mixBatches, Cond.selects RX11 yX11_mixBatches yX11_mixBatches, Cond.code yX11_mixBatches cX11_mixBatches 7 (some .long), Cond.methodLink RX11 334 yX11_batch, Cond.methodLink RX11 272 yX11_mixLoaves, Cond.instanceMethod yX11_mixLoaves, Cond.selects RX11 yX11_mixLoaves yX11_mixLoaves, Cond.code yX11_mixLoaves cX11_mixLoaves 7 (some .long), Cond.methodLink RX11 337 yX6_firstKept, Cond.methodLink RX11 340 yX11_loaf, Cond.methodLink RX11 275 yX11_mixLoads, Cond.instanceMethod yX11_mixLoads, Cond.selects RX11 yX11_mixLoads yX11_mixLoads]
def wsL_law0_r54 : List Cond := [Cond.code yX11_mixLoads cX11_mixLoads 7 (some .long), Cond.methodLink RX11 343 yX11_load, Cond.methodLink RX11 278 yX11_likeMarks, Cond.methodLink RL 185 yX12_digest, Cond.instanceMethod yX12_digest, Cond.selects RX12 yX12_digest yX12_digest, Cond.code yX12_digest cX12_digest 3 (some .long), Cond.constantLong RX12 256 (43087), Cond.fieldLink RX12 252 "OvenDaysModel" "hash" "J", Cond.methodLink RX12 258 yX12_mix, Cond.instanceMethod yX12_mix, Cond.selects RX12 yX12_mix yX12_mix, Cond.code yX12_mix cX12_mix 3 none, Cond.constantLong RX12 250 (31)]
def wsL_law0 : List Cond := (wsL_law0_r1 ++ (wsL_law0_r2 ++ (wsL_law0_r3 ++ (wsL_law0_r4 ++ (wsL_law0_r5 ++ (wsL_law0_r6 ++ (wsL_law0_r7 ++ (wsL_law0_r8 ++ (wsL_law0_r9 ++ (wsL_law0_r10 ++ (wsL_law0_r11 ++ (wsL_law0_r12 ++ (wsL_law0_r13 ++ (wsL_law0_r14 ++ (wsL_law0_r15 ++ (wsL_law0_r16 ++ (wsL_law0_r17 ++ (wsL_law0_r18 ++ (wsL_law0_r19 ++ (wsL_law0_r20 ++ (wsL_law0_r21 ++ (wsL_law0_r22 ++ (wsL_law0_r23 ++ (wsL_law0_r24 ++ (wsL_law0_r25 ++ (wsL_law0_r26 ++ (wsL_law0_r27 ++ (wsL_law0_r28 ++ (wsL_law0_r29 ++ (wsL_law0_r30 ++ (wsL_law0_r31 ++ (wsL_law0_r32 ++ (wsL_law0_r33 ++ (wsL_law0_r34 ++ (wsL_law0_r35 ++ (wsL_law0_r36 ++ (wsL_law0_r37 ++ (wsL_law0_r38 ++ (wsL_law0_r39 ++ (wsL_law0_r40 ++ (wsL_law0_r41 ++ (wsL_law0_r42 ++ (wsL_law0_r43 ++ (wsL_law0_r44 ++ (wsL_law0_r45 ++ (wsL_law0_r46 ++ (wsL_law0_r47 ++ (wsL_law0_r48 ++ (wsL_law0_r49 ++ (wsL_law0_r50 ++ (wsL_law0_r51 ++ (wsL_law0_r52 ++ (wsL_law0_r53 ++ wsL_law0_r54))))))))))))))))))))))))))))))))))))))))))))))))))))) ++ wsX110 ++ wsX120 ++ wsX90 ++ wsX30 ++ wsX80 ++ wsX20 ++ wsX40 ++ wsX10 ++ wsX50 ++ wsX60 ++ wsX70 ++ ([] : List Cond)
def wsL_law : List Cond := wsL_law0 ++ (vx_atS RX11 285 "java/lang/IndexOutOfBoundsException" ["java/lang/RuntimeException", "java/lang/Exception"]).filter goodWord ++ (vx_atS RX11 292 "java/lang/IllegalArgumentException" ["java/lang/RuntimeException", "java/lang/Exception"]).filter goodWord ++ (vx_atS RX11 297 "java/lang/IllegalStateException" ["java/lang/RuntimeException", "java/lang/Exception"]).filter goodWord
abbrev vwCl : List vw_C := [(RX1, TX1, 2), (RX2, TX2, 6), (RX3, TX3, 7), (RX4, TX4, 2), (RX5, TX5, 2), (RX6, TX6, 3), (RX7, TX7, 2), (RX8, TX8, 3), (RX9, TX9, 8), (RX11, TX11, 5), (RX12, TX12, 15)]
end
section
set_option maxRecDepth 20000 in
theorem ggX1_init_X7_init : GoodIn wsX1_init wsX7_init := goodIn_r _ [10, 11, 2, 3, 12, 13, 14, 15, 16, 17] (by decide +kernel) (by decide +kernel)
set_option maxRecDepth 20000 in
theorem gX1_init_X7_init : GoodIn wsX1_init (wsX7_init) := ggX1_init_X7_init
theorem dX1_init_0 : decode cX1_init 0 = .ok (.aload_n 0, 1) := by decide +kernel
theorem dX1_init_1 : decode cX1_init 1 = .ok (.invokespecial 3, 3) := by decide +kernel
theorem dX1_init_4 : decode cX1_init 4 = .ok (.aload_n 0, 1) := by decide +kernel
theorem dX1_init_5 : decode cX1_init 5 = .ok (.new 9, 3) := by decide +kernel
theorem dX1_init_8 : decode cX1_init 8 = .ok (.dup, 1) := by decide +kernel
theorem dX1_init_9 : decode cX1_init 9 = .ok (.iconst 3, 1) := by decide +kernel
theorem dX1_init_10 : decode cX1_init 10 = .ok (.bipush 20, 2) := by decide +kernel
theorem dX1_init_12 : decode cX1_init 12 = .ok (.invokespecial 11, 3) := by decide +kernel
theorem dX1_init_15 : decode cX1_init 15 = .ok (.putfield 14, 3) := by decide +kernel
theorem dX1_init_18 : decode cX1_init 18 = .ok (.return_, 1) := by decide +kernel
set_option maxRecDepth 20000 in
theorem ggX1_copyFrom_X7_copyFrom : GoodIn wsX1_copyFrom wsX7_copyFrom := goodIn_r _ [7, 8, 9, 10, 11, 12, 13, 16, 17] (by decide +kernel) (by decide +kernel)
set_option maxRecDepth 20000 in
theorem gX1_copyFrom_X7_copyFrom : GoodIn wsX1_copyFrom (wsV RX1 24 RX7 yX7_copyFrom wsX7_copyFrom) := goodIn_app (goodIn_of _ (by decide +kernel)) ggX1_copyFrom_X7_copyFrom
theorem dX1_copyFrom_0 : decode cX1_copyFrom 0 = .ok (.aload_n 0, 1) := by decide +kernel
theorem dX1_copyFrom_1 : decode cX1_copyFrom 1 = .ok (.getfield 14, 3) := by decide +kernel
theorem dX1_copyFrom_4 : decode cX1_copyFrom 4 = .ok (.aload_n 1, 1) := by decide +kernel
theorem dX1_copyFrom_5 : decode cX1_copyFrom 5 = .ok (.getfield 14, 3) := by decide +kernel
theorem dX1_copyFrom_8 : decode cX1_copyFrom 8 = .ok (.aload_n 1, 1) := by decide +kernel
theorem dX1_copyFrom_9 : decode cX1_copyFrom 9 = .ok (.getfield 20, 3) := by decide +kernel
theorem dX1_copyFrom_12 : decode cX1_copyFrom 12 = .ok (.invokevirtual 24, 3) := by decide +kernel
theorem dX1_copyFrom_15 : decode cX1_copyFrom 15 = .ok (.aload_n 0, 1) := by decide +kernel
theorem dX1_copyFrom_16 : decode cX1_copyFrom 16 = .ok (.aload_n 1, 1) := by decide +kernel
theorem dX1_copyFrom_17 : decode cX1_copyFrom 17 = .ok (.getfield 20, 3) := by decide +kernel
theorem dX1_copyFrom_20 : decode cX1_copyFrom 20 = .ok (.putfield 20, 3) := by decide +kernel
theorem dX1_copyFrom_23 : decode cX1_copyFrom 23 = .ok (.return_, 1) := by decide +kernel
theorem dX1_size_0 : decode cX1_size 0 = .ok (.aload_n 0, 1) := by decide +kernel
theorem dX1_size_1 : decode cX1_size 1 = .ok (.getfield 20, 3) := by decide +kernel
theorem dX1_size_4 : decode cX1_size 4 = .ok (.ireturn, 1) := by decide +kernel
theorem dX1_has_0 : decode cX1_has 0 = .ok (.iload_n 1, 1) := by decide +kernel
theorem dX1_has_1 : decode cX1_has 1 = .ok (.ifCond .lt 15, 3) := by decide +kernel
theorem dX1_has_4 : decode cX1_has 4 = .ok (.iload_n 1, 1) := by decide +kernel
theorem dX1_has_5 : decode cX1_has 5 = .ok (.aload_n 0, 1) := by decide +kernel
theorem dX1_has_6 : decode cX1_has 6 = .ok (.getfield 20, 3) := by decide +kernel
theorem dX1_has_9 : decode cX1_has 9 = .ok (.if_icmp .ge 7, 3) := by decide +kernel
theorem dX1_has_12 : decode cX1_has 12 = .ok (.iconst 1, 1) := by decide +kernel
theorem dX1_has_13 : decode cX1_has 13 = .ok (.goto 4, 3) := by decide +kernel
theorem dX1_has_16 : decode cX1_has 16 = .ok (.iconst 0, 1) := by decide +kernel
theorem dX1_has_17 : decode cX1_has 17 = .ok (.ireturn, 1) := by decide +kernel
theorem dX1_isFull_0 : decode cX1_isFull 0 = .ok (.aload_n 0, 1) := by decide +kernel
theorem dX1_isFull_1 : decode cX1_isFull 1 = .ok (.getfield 20, 3) := by decide +kernel
theorem dX1_isFull_4 : decode cX1_isFull 4 = .ok (.bipush 20, 2) := by decide +kernel
theorem dX1_isFull_6 : decode cX1_isFull 6 = .ok (.if_icmp .ne 7, 3) := by decide +kernel
theorem dX1_isFull_9 : decode cX1_isFull 9 = .ok (.iconst 1, 1) := by decide +kernel
theorem dX1_isFull_10 : decode cX1_isFull 10 = .ok (.goto 4, 3) := by decide +kernel
theorem dX1_isFull_13 : decode cX1_isFull 13 = .ok (.iconst 0, 1) := by decide +kernel
theorem dX1_isFull_14 : decode cX1_isFull 14 = .ok (.ireturn, 1) := by decide +kernel
set_option maxRecDepth 20000 in
theorem ggX1_value_X7_get : GoodIn wsX1_value wsX7_get := goodIn_r _ [6, 7, 8, 11, 12] (by decide +kernel) (by decide +kernel)
set_option maxRecDepth 20000 in
theorem gX1_value_X7_get : GoodIn wsX1_value (wsV RX1 28 RX7 yX7_get wsX7_get) := goodIn_app (goodIn_of _ (by decide +kernel)) ggX1_value_X7_get
theorem dX1_value_0 : decode cX1_value 0 = .ok (.aload_n 0, 1) := by decide +kernel
theorem dX1_value_1 : decode cX1_value 1 = .ok (.getfield 14, 3) := by decide +kernel
theorem dX1_value_4 : decode cX1_value 4 = .ok (.iload_n 1, 1) := by decide +kernel
theorem dX1_value_5 : decode cX1_value 5 = .ok (.iload_n 2, 1) := by decide +kernel
theorem dX1_value_6 : decode cX1_value 6 = .ok (.invokevirtual 28, 3) := by decide +kernel
theorem dX1_value_9 : decode cX1_value 9 = .ok (.ireturn, 1) := by decide +kernel
set_option maxRecDepth 20000 in
theorem ggX1_countOf_X7_count : GoodIn wsX1_countOf wsX7_count := goodIn_r _ [7, 8, 9, 10, 6, 11, 12, 13, 16, 17] (by decide +kernel) (by decide +kernel)
set_option maxRecDepth 20000 in
theorem gX1_countOf_X7_count : GoodIn wsX1_countOf (wsV RX1 32 RX7 yX7_count wsX7_count) := goodIn_app (goodIn_of _ (by decide +kernel)) ggX1_countOf_X7_count
theorem dX1_countOf_0 : decode cX1_countOf 0 = .ok (.aload_n 0, 1) := by decide +kernel
theorem dX1_countOf_1 : decode cX1_countOf 1 = .ok (.getfield 14, 3) := by decide +kernel
theorem dX1_countOf_4 : decode cX1_countOf 4 = .ok (.aload_n 0, 1) := by decide +kernel
theorem dX1_countOf_5 : decode cX1_countOf 5 = .ok (.getfield 20, 3) := by decide +kernel
theorem dX1_countOf_8 : decode cX1_countOf 8 = .ok (.iconst 0, 1) := by decide +kernel
theorem dX1_countOf_9 : decode cX1_countOf 9 = .ok (.iload_n 1, 1) := by decide +kernel
theorem dX1_countOf_10 : decode cX1_countOf 10 = .ok (.invokevirtual 32, 3) := by decide +kernel
theorem dX1_countOf_13 : decode cX1_countOf 13 = .ok (.ireturn, 1) := by decide +kernel
set_option maxRecDepth 20000 in
theorem ggX1_add_X7_put : GoodIn wsX1_add wsX7_put := goodIn_r _ [7, 8, 9, 12, 13] (by decide +kernel) (by decide +kernel)
set_option maxRecDepth 20000 in
theorem gX1_add_X7_put : GoodIn wsX1_add (wsV RX1 35 RX7 yX7_put wsX7_put) := goodIn_app (goodIn_of _ (by decide +kernel)) ggX1_add_X7_put
theorem dX1_add_0 : decode cX1_add 0 = .ok (.aload_n 0, 1) := by decide +kernel
theorem dX1_add_1 : decode cX1_add 1 = .ok (.getfield 20, 3) := by decide +kernel
theorem dX1_add_4 : decode cX1_add 4 = .ok (.istore 4, 2) := by decide +kernel
theorem dX1_add_6 : decode cX1_add 6 = .ok (.aload_n 0, 1) := by decide +kernel
theorem dX1_add_7 : decode cX1_add 7 = .ok (.getfield 14, 3) := by decide +kernel
theorem dX1_add_10 : decode cX1_add 10 = .ok (.iload 4, 2) := by decide +kernel
theorem dX1_add_12 : decode cX1_add 12 = .ok (.iconst 0, 1) := by decide +kernel
theorem dX1_add_13 : decode cX1_add 13 = .ok (.iload_n 1, 1) := by decide +kernel
theorem dX1_add_14 : decode cX1_add 14 = .ok (.invokevirtual 35, 3) := by decide +kernel
theorem dX1_add_17 : decode cX1_add 17 = .ok (.aload_n 0, 1) := by decide +kernel
theorem dX1_add_18 : decode cX1_add 18 = .ok (.getfield 14, 3) := by decide +kernel
theorem dX1_add_21 : decode cX1_add 21 = .ok (.iload 4, 2) := by decide +kernel
theorem dX1_add_23 : decode cX1_add 23 = .ok (.iconst 1, 1) := by decide +kernel
theorem dX1_add_24 : decode cX1_add 24 = .ok (.iload_n 2, 1) := by decide +kernel
theorem dX1_add_25 : decode cX1_add 25 = .ok (.invokevirtual 35, 3) := by decide +kernel
theorem dX1_add_28 : decode cX1_add 28 = .ok (.aload_n 0, 1) := by decide +kernel
theorem dX1_add_29 : decode cX1_add 29 = .ok (.getfield 14, 3) := by decide +kernel
theorem dX1_add_32 : decode cX1_add 32 = .ok (.iload 4, 2) := by decide +kernel
theorem dX1_add_34 : decode cX1_add 34 = .ok (.iconst 2, 1) := by decide +kernel
theorem dX1_add_35 : decode cX1_add 35 = .ok (.iload_n 3, 1) := by decide +kernel
theorem dX1_add_36 : decode cX1_add 36 = .ok (.invokevirtual 35, 3) := by decide +kernel
theorem dX1_add_39 : decode cX1_add 39 = .ok (.aload_n 0, 1) := by decide +kernel
theorem dX1_add_40 : decode cX1_add 40 = .ok (.dup, 1) := by decide +kernel
theorem dX1_add_41 : decode cX1_add 41 = .ok (.getfield 20, 3) := by decide +kernel
theorem dX1_add_44 : decode cX1_add 44 = .ok (.iconst 1, 1) := by decide +kernel
theorem dX1_add_45 : decode cX1_add 45 = .ok (.iadd, 1) := by decide +kernel
theorem dX1_add_46 : decode cX1_add 46 = .ok (.putfield 20, 3) := by decide +kernel
theorem dX1_add_49 : decode cX1_add 49 = .ok (.iload 4, 2) := by decide +kernel
theorem dX1_add_51 : decode cX1_add 51 = .ok (.ireturn, 1) := by decide +kernel
set_option maxRecDepth 20000 in
theorem ggX1_remove_X7_get : GoodIn wsX1_remove wsX7_get := goodIn_r _ [7, 8, 9, 20, 21] (by decide +kernel) (by decide +kernel)
set_option maxRecDepth 20000 in
theorem gX1_remove_X7_get : GoodIn wsX1_remove (wsV RX1 28 RX7 yX7_get wsX7_get) := goodIn_app (goodIn_of _ (by decide +kernel)) ggX1_remove_X7_get
set_option maxRecDepth 20000 in
theorem ggX1_remove_X7_remove : GoodIn wsX1_remove wsX7_remove := goodIn_r _ [13, 8, 9, 14, 15, 16, 17, 20, 21] (by decide +kernel) (by decide +kernel)
set_option maxRecDepth 20000 in
theorem gX1_remove_X7_remove : GoodIn wsX1_remove (wsV RX1 39 RX7 yX7_remove wsX7_remove) := goodIn_app (goodIn_of _ (by decide +kernel)) ggX1_remove_X7_remove
theorem dX1_remove_0 : decode cX1_remove 0 = .ok (.aload_n 0, 1) := by decide +kernel
theorem dX1_remove_1 : decode cX1_remove 1 = .ok (.getfield 14, 3) := by decide +kernel
theorem dX1_remove_4 : decode cX1_remove 4 = .ok (.iload_n 1, 1) := by decide +kernel
theorem dX1_remove_5 : decode cX1_remove 5 = .ok (.iconst 2, 1) := by decide +kernel
theorem dX1_remove_6 : decode cX1_remove 6 = .ok (.invokevirtual 28, 3) := by decide +kernel
theorem dX1_remove_9 : decode cX1_remove 9 = .ok (.istore_n 2, 1) := by decide +kernel
theorem dX1_remove_10 : decode cX1_remove 10 = .ok (.aload_n 0, 1) := by decide +kernel
theorem dX1_remove_11 : decode cX1_remove 11 = .ok (.getfield 14, 3) := by decide +kernel
theorem dX1_remove_14 : decode cX1_remove 14 = .ok (.iload_n 1, 1) := by decide +kernel
theorem dX1_remove_15 : decode cX1_remove 15 = .ok (.aload_n 0, 1) := by decide +kernel
theorem dX1_remove_16 : decode cX1_remove 16 = .ok (.getfield 20, 3) := by decide +kernel
theorem dX1_remove_19 : decode cX1_remove 19 = .ok (.invokevirtual 39, 3) := by decide +kernel
theorem dX1_remove_22 : decode cX1_remove 22 = .ok (.aload_n 0, 1) := by decide +kernel
theorem dX1_remove_23 : decode cX1_remove 23 = .ok (.dup, 1) := by decide +kernel
theorem dX1_remove_24 : decode cX1_remove 24 = .ok (.getfield 20, 3) := by decide +kernel
theorem dX1_remove_27 : decode cX1_remove 27 = .ok (.iconst 1, 1) := by decide +kernel
theorem dX1_remove_28 : decode cX1_remove 28 = .ok (.isub, 1) := by decide +kernel
theorem dX1_remove_29 : decode cX1_remove 29 = .ok (.putfield 20, 3) := by decide +kernel
theorem dX1_remove_32 : decode cX1_remove 32 = .ok (.iload_n 2, 1) := by decide +kernel
theorem dX1_remove_33 : decode cX1_remove 33 = .ok (.ireturn, 1) := by decide +kernel
theorem dX1_clear_0 : decode cX1_clear 0 = .ok (.aload_n 0, 1) := by decide +kernel
theorem dX1_clear_1 : decode cX1_clear 1 = .ok (.iconst 0, 1) := by decide +kernel
theorem dX1_clear_2 : decode cX1_clear 2 = .ok (.putfield 20, 3) := by decide +kernel
theorem dX1_clear_5 : decode cX1_clear 5 = .ok (.return_, 1) := by decide +kernel
set_option maxRecDepth 20000 in
theorem ggX4_init_X7_init : GoodIn wsX4_init wsX7_init := goodIn_r _ [10, 11, 2, 3, 12, 13, 14, 15, 16, 17] (by decide +kernel) (by decide +kernel)
set_option maxRecDepth 20000 in
theorem gX4_init_X7_init : GoodIn wsX4_init (wsX7_init) := ggX4_init_X7_init
theorem dX4_init_0 : decode cX4_init 0 = .ok (.aload_n 0, 1) := by decide +kernel
theorem dX4_init_1 : decode cX4_init 1 = .ok (.invokespecial 3, 3) := by decide +kernel
theorem dX4_init_4 : decode cX4_init 4 = .ok (.aload_n 0, 1) := by decide +kernel
theorem dX4_init_5 : decode cX4_init 5 = .ok (.new 9, 3) := by decide +kernel
theorem dX4_init_8 : decode cX4_init 8 = .ok (.dup, 1) := by decide +kernel
theorem dX4_init_9 : decode cX4_init 9 = .ok (.iconst 4, 1) := by decide +kernel
theorem dX4_init_10 : decode cX4_init 10 = .ok (.bipush 8, 2) := by decide +kernel
theorem dX4_init_12 : decode cX4_init 12 = .ok (.invokespecial 11, 3) := by decide +kernel
theorem dX4_init_15 : decode cX4_init 15 = .ok (.putfield 14, 3) := by decide +kernel
theorem dX4_init_18 : decode cX4_init 18 = .ok (.return_, 1) := by decide +kernel
set_option maxRecDepth 20000 in
theorem ggX4_copyFrom_X7_copyFrom : GoodIn wsX4_copyFrom wsX7_copyFrom := goodIn_r _ [7, 8, 9, 10, 11, 12, 13, 16, 17] (by decide +kernel) (by decide +kernel)
set_option maxRecDepth 20000 in
theorem gX4_copyFrom_X7_copyFrom : GoodIn wsX4_copyFrom (wsV RX4 24 RX7 yX7_copyFrom wsX7_copyFrom) := goodIn_app (goodIn_of _ (by decide +kernel)) ggX4_copyFrom_X7_copyFrom
theorem dX4_copyFrom_0 : decode cX4_copyFrom 0 = .ok (.aload_n 0, 1) := by decide +kernel
theorem dX4_copyFrom_1 : decode cX4_copyFrom 1 = .ok (.getfield 14, 3) := by decide +kernel
theorem dX4_copyFrom_4 : decode cX4_copyFrom 4 = .ok (.aload_n 1, 1) := by decide +kernel
theorem dX4_copyFrom_5 : decode cX4_copyFrom 5 = .ok (.getfield 14, 3) := by decide +kernel
theorem dX4_copyFrom_8 : decode cX4_copyFrom 8 = .ok (.aload_n 1, 1) := by decide +kernel
theorem dX4_copyFrom_9 : decode cX4_copyFrom 9 = .ok (.getfield 20, 3) := by decide +kernel
theorem dX4_copyFrom_12 : decode cX4_copyFrom 12 = .ok (.invokevirtual 24, 3) := by decide +kernel
theorem dX4_copyFrom_15 : decode cX4_copyFrom 15 = .ok (.aload_n 0, 1) := by decide +kernel
theorem dX4_copyFrom_16 : decode cX4_copyFrom 16 = .ok (.aload_n 1, 1) := by decide +kernel
theorem dX4_copyFrom_17 : decode cX4_copyFrom 17 = .ok (.getfield 20, 3) := by decide +kernel
theorem dX4_copyFrom_20 : decode cX4_copyFrom 20 = .ok (.putfield 20, 3) := by decide +kernel
theorem dX4_copyFrom_23 : decode cX4_copyFrom 23 = .ok (.return_, 1) := by decide +kernel
theorem dX4_size_0 : decode cX4_size 0 = .ok (.aload_n 0, 1) := by decide +kernel
theorem dX4_size_1 : decode cX4_size 1 = .ok (.getfield 20, 3) := by decide +kernel
theorem dX4_size_4 : decode cX4_size 4 = .ok (.ireturn, 1) := by decide +kernel
theorem dX4_has_0 : decode cX4_has 0 = .ok (.iload_n 1, 1) := by decide +kernel
theorem dX4_has_1 : decode cX4_has 1 = .ok (.ifCond .lt 15, 3) := by decide +kernel
theorem dX4_has_4 : decode cX4_has 4 = .ok (.iload_n 1, 1) := by decide +kernel
theorem dX4_has_5 : decode cX4_has 5 = .ok (.aload_n 0, 1) := by decide +kernel
theorem dX4_has_6 : decode cX4_has 6 = .ok (.getfield 20, 3) := by decide +kernel
theorem dX4_has_9 : decode cX4_has 9 = .ok (.if_icmp .ge 7, 3) := by decide +kernel
theorem dX4_has_12 : decode cX4_has 12 = .ok (.iconst 1, 1) := by decide +kernel
theorem dX4_has_13 : decode cX4_has 13 = .ok (.goto 4, 3) := by decide +kernel
theorem dX4_has_16 : decode cX4_has 16 = .ok (.iconst 0, 1) := by decide +kernel
theorem dX4_has_17 : decode cX4_has 17 = .ok (.ireturn, 1) := by decide +kernel
theorem dX4_isFull_0 : decode cX4_isFull 0 = .ok (.aload_n 0, 1) := by decide +kernel
theorem dX4_isFull_1 : decode cX4_isFull 1 = .ok (.getfield 20, 3) := by decide +kernel
theorem dX4_isFull_4 : decode cX4_isFull 4 = .ok (.bipush 8, 2) := by decide +kernel
theorem dX4_isFull_6 : decode cX4_isFull 6 = .ok (.if_icmp .ne 7, 3) := by decide +kernel
theorem dX4_isFull_9 : decode cX4_isFull 9 = .ok (.iconst 1, 1) := by decide +kernel
theorem dX4_isFull_10 : decode cX4_isFull 10 = .ok (.goto 4, 3) := by decide +kernel
theorem dX4_isFull_13 : decode cX4_isFull 13 = .ok (.iconst 0, 1) := by decide +kernel
theorem dX4_isFull_14 : decode cX4_isFull 14 = .ok (.ireturn, 1) := by decide +kernel
set_option maxRecDepth 20000 in
theorem ggX4_value_X7_get : GoodIn wsX4_value wsX7_get := goodIn_r _ [6, 7, 8, 11, 12] (by decide +kernel) (by decide +kernel)
set_option maxRecDepth 20000 in
theorem gX4_value_X7_get : GoodIn wsX4_value (wsV RX4 28 RX7 yX7_get wsX7_get) := goodIn_app (goodIn_of _ (by decide +kernel)) ggX4_value_X7_get
theorem dX4_value_0 : decode cX4_value 0 = .ok (.aload_n 0, 1) := by decide +kernel
theorem dX4_value_1 : decode cX4_value 1 = .ok (.getfield 14, 3) := by decide +kernel
theorem dX4_value_4 : decode cX4_value 4 = .ok (.iload_n 1, 1) := by decide +kernel
theorem dX4_value_5 : decode cX4_value 5 = .ok (.iload_n 2, 1) := by decide +kernel
theorem dX4_value_6 : decode cX4_value 6 = .ok (.invokevirtual 28, 3) := by decide +kernel
theorem dX4_value_9 : decode cX4_value 9 = .ok (.ireturn, 1) := by decide +kernel
set_option maxRecDepth 20000 in
theorem ggX4_sumOf_X7_sum : GoodIn wsX4_sumOf wsX7_sum := goodIn_r _ [7, 8, 9, 12, 13] (by decide +kernel) (by decide +kernel)
set_option maxRecDepth 20000 in
theorem gX4_sumOf_X7_sum : GoodIn wsX4_sumOf (wsV RX4 32 RX7 yX7_sum wsX7_sum) := goodIn_app (goodIn_of _ (by decide +kernel)) ggX4_sumOf_X7_sum
theorem dX4_sumOf_0 : decode cX4_sumOf 0 = .ok (.aload_n 0, 1) := by decide +kernel
theorem dX4_sumOf_1 : decode cX4_sumOf 1 = .ok (.getfield 14, 3) := by decide +kernel
theorem dX4_sumOf_4 : decode cX4_sumOf 4 = .ok (.aload_n 0, 1) := by decide +kernel
theorem dX4_sumOf_5 : decode cX4_sumOf 5 = .ok (.getfield 20, 3) := by decide +kernel
theorem dX4_sumOf_8 : decode cX4_sumOf 8 = .ok (.iload_n 1, 1) := by decide +kernel
theorem dX4_sumOf_9 : decode cX4_sumOf 9 = .ok (.invokevirtual 32, 3) := by decide +kernel
theorem dX4_sumOf_12 : decode cX4_sumOf 12 = .ok (.ireturn, 1) := by decide +kernel
set_option maxRecDepth 20000 in
theorem ggX4_withMark_X7_get : GoodIn wsX4_withMark wsX7_get := goodIn_r _ [7, 8, 9, 12, 13] (by decide +kernel) (by decide +kernel)
set_option maxRecDepth 20000 in
theorem gX4_withMark_X7_get : GoodIn wsX4_withMark (wsV RX4 28 RX7 yX7_get wsX7_get) := goodIn_app (goodIn_of _ (by decide +kernel)) ggX4_withMark_X7_get
theorem dX4_withMark_0 : decode cX4_withMark 0 = .ok (.iconst 0, 1) := by decide +kernel
theorem dX4_withMark_1 : decode cX4_withMark 1 = .ok (.istore_n 2, 1) := by decide +kernel
theorem dX4_withMark_2 : decode cX4_withMark 2 = .ok (.iload_n 2, 1) := by decide +kernel
theorem dX4_withMark_3 : decode cX4_withMark 3 = .ok (.aload_n 0, 1) := by decide +kernel
theorem dX4_withMark_4 : decode cX4_withMark 4 = .ok (.getfield 20, 3) := by decide +kernel
theorem dX4_withMark_7 : decode cX4_withMark 7 = .ok (.if_icmp .ge 24, 3) := by decide +kernel
theorem dX4_withMark_10 : decode cX4_withMark 10 = .ok (.aload_n 0, 1) := by decide +kernel
theorem dX4_withMark_11 : decode cX4_withMark 11 = .ok (.getfield 14, 3) := by decide +kernel
theorem dX4_withMark_14 : decode cX4_withMark 14 = .ok (.iload_n 2, 1) := by decide +kernel
theorem dX4_withMark_15 : decode cX4_withMark 15 = .ok (.iconst 0, 1) := by decide +kernel
theorem dX4_withMark_16 : decode cX4_withMark 16 = .ok (.invokevirtual 28, 3) := by decide +kernel
theorem dX4_withMark_19 : decode cX4_withMark 19 = .ok (.iload_n 1, 1) := by decide +kernel
theorem dX4_withMark_20 : decode cX4_withMark 20 = .ok (.if_icmp .ne 5, 3) := by decide +kernel
theorem dX4_withMark_23 : decode cX4_withMark 23 = .ok (.iload_n 2, 1) := by decide +kernel
theorem dX4_withMark_24 : decode cX4_withMark 24 = .ok (.ireturn, 1) := by decide +kernel
theorem dX4_withMark_25 : decode cX4_withMark 25 = .ok (.iinc 2 1, 3) := by decide +kernel
theorem dX4_withMark_28 : decode cX4_withMark 28 = .ok (.goto (-26), 3) := by decide +kernel
theorem dX4_withMark_31 : decode cX4_withMark 31 = .ok (.iconst (-1), 1) := by decide +kernel
theorem dX4_withMark_32 : decode cX4_withMark 32 = .ok (.ireturn, 1) := by decide +kernel
set_option maxRecDepth 20000 in
theorem ggX4_add_X7_put : GoodIn wsX4_add wsX7_put := goodIn_r _ [7, 8, 9, 12, 13] (by decide +kernel) (by decide +kernel)
set_option maxRecDepth 20000 in
theorem gX4_add_X7_put : GoodIn wsX4_add (wsV RX4 35 RX7 yX7_put wsX7_put) := goodIn_app (goodIn_of _ (by decide +kernel)) ggX4_add_X7_put
theorem dX4_add_0 : decode cX4_add 0 = .ok (.aload_n 0, 1) := by decide +kernel
theorem dX4_add_1 : decode cX4_add 1 = .ok (.getfield 20, 3) := by decide +kernel
theorem dX4_add_4 : decode cX4_add 4 = .ok (.istore_n 2, 1) := by decide +kernel
theorem dX4_add_5 : decode cX4_add 5 = .ok (.aload_n 0, 1) := by decide +kernel
theorem dX4_add_6 : decode cX4_add 6 = .ok (.getfield 14, 3) := by decide +kernel
theorem dX4_add_9 : decode cX4_add 9 = .ok (.iload_n 2, 1) := by decide +kernel
theorem dX4_add_10 : decode cX4_add 10 = .ok (.iconst 0, 1) := by decide +kernel
theorem dX4_add_11 : decode cX4_add 11 = .ok (.iload_n 1, 1) := by decide +kernel
theorem dX4_add_12 : decode cX4_add 12 = .ok (.invokevirtual 35, 3) := by decide +kernel
theorem dX4_add_15 : decode cX4_add 15 = .ok (.aload_n 0, 1) := by decide +kernel
theorem dX4_add_16 : decode cX4_add 16 = .ok (.getfield 14, 3) := by decide +kernel
theorem dX4_add_19 : decode cX4_add 19 = .ok (.iload_n 2, 1) := by decide +kernel
theorem dX4_add_20 : decode cX4_add 20 = .ok (.iconst 1, 1) := by decide +kernel
theorem dX4_add_21 : decode cX4_add 21 = .ok (.iconst 0, 1) := by decide +kernel
theorem dX4_add_22 : decode cX4_add 22 = .ok (.invokevirtual 35, 3) := by decide +kernel
theorem dX4_add_25 : decode cX4_add 25 = .ok (.aload_n 0, 1) := by decide +kernel
theorem dX4_add_26 : decode cX4_add 26 = .ok (.getfield 14, 3) := by decide +kernel
theorem dX4_add_29 : decode cX4_add 29 = .ok (.iload_n 2, 1) := by decide +kernel
theorem dX4_add_30 : decode cX4_add 30 = .ok (.iconst 2, 1) := by decide +kernel
theorem dX4_add_31 : decode cX4_add 31 = .ok (.iconst 0, 1) := by decide +kernel
theorem dX4_add_32 : decode cX4_add 32 = .ok (.invokevirtual 35, 3) := by decide +kernel
theorem dX4_add_35 : decode cX4_add 35 = .ok (.aload_n 0, 1) := by decide +kernel
theorem dX4_add_36 : decode cX4_add 36 = .ok (.getfield 14, 3) := by decide +kernel
theorem dX4_add_39 : decode cX4_add 39 = .ok (.iload_n 2, 1) := by decide +kernel
theorem dX4_add_40 : decode cX4_add 40 = .ok (.iconst 3, 1) := by decide +kernel
theorem dX4_add_41 : decode cX4_add 41 = .ok (.iconst 0, 1) := by decide +kernel
theorem dX4_add_42 : decode cX4_add 42 = .ok (.invokevirtual 35, 3) := by decide +kernel
theorem dX4_add_45 : decode cX4_add 45 = .ok (.aload_n 0, 1) := by decide +kernel
theorem dX4_add_46 : decode cX4_add 46 = .ok (.dup, 1) := by decide +kernel
theorem dX4_add_47 : decode cX4_add 47 = .ok (.getfield 20, 3) := by decide +kernel
theorem dX4_add_50 : decode cX4_add 50 = .ok (.iconst 1, 1) := by decide +kernel
theorem dX4_add_51 : decode cX4_add 51 = .ok (.iadd, 1) := by decide +kernel
theorem dX4_add_52 : decode cX4_add 52 = .ok (.putfield 20, 3) := by decide +kernel
theorem dX4_add_55 : decode cX4_add 55 = .ok (.iload_n 2, 1) := by decide +kernel
theorem dX4_add_56 : decode cX4_add 56 = .ok (.ireturn, 1) := by decide +kernel
set_option maxRecDepth 20000 in
theorem ggX4_changeMark_X7_get : GoodIn wsX4_changeMark wsX7_get := goodIn_r _ [6, 7, 8, 15, 16] (by decide +kernel) (by decide +kernel)
set_option maxRecDepth 20000 in
theorem gX4_changeMark_X7_get : GoodIn wsX4_changeMark (wsV RX4 28 RX7 yX7_get wsX7_get) := goodIn_app (goodIn_of _ (by decide +kernel)) ggX4_changeMark_X7_get
set_option maxRecDepth 20000 in
theorem ggX4_changeMark_X7_put : GoodIn wsX4_changeMark wsX7_put := goodIn_r _ [12, 7, 8, 15, 16] (by decide +kernel) (by decide +kernel)
set_option maxRecDepth 20000 in
theorem gX4_changeMark_X7_put : GoodIn wsX4_changeMark (wsV RX4 35 RX7 yX7_put wsX7_put) := goodIn_app (goodIn_of _ (by decide +kernel)) ggX4_changeMark_X7_put
theorem dX4_changeMark_0 : decode cX4_changeMark 0 = .ok (.aload_n 0, 1) := by decide +kernel
theorem dX4_changeMark_1 : decode cX4_changeMark 1 = .ok (.getfield 14, 3) := by decide +kernel
theorem dX4_changeMark_4 : decode cX4_changeMark 4 = .ok (.iload_n 1, 1) := by decide +kernel
theorem dX4_changeMark_5 : decode cX4_changeMark 5 = .ok (.iconst 0, 1) := by decide +kernel
theorem dX4_changeMark_6 : decode cX4_changeMark 6 = .ok (.invokevirtual 28, 3) := by decide +kernel
theorem dX4_changeMark_9 : decode cX4_changeMark 9 = .ok (.istore_n 3, 1) := by decide +kernel
theorem dX4_changeMark_10 : decode cX4_changeMark 10 = .ok (.aload_n 0, 1) := by decide +kernel
theorem dX4_changeMark_11 : decode cX4_changeMark 11 = .ok (.getfield 14, 3) := by decide +kernel
theorem dX4_changeMark_14 : decode cX4_changeMark 14 = .ok (.iload_n 1, 1) := by decide +kernel
theorem dX4_changeMark_15 : decode cX4_changeMark 15 = .ok (.iconst 0, 1) := by decide +kernel
theorem dX4_changeMark_16 : decode cX4_changeMark 16 = .ok (.iload_n 2, 1) := by decide +kernel
theorem dX4_changeMark_17 : decode cX4_changeMark 17 = .ok (.invokevirtual 35, 3) := by decide +kernel
theorem dX4_changeMark_20 : decode cX4_changeMark 20 = .ok (.iload_n 3, 1) := by decide +kernel
theorem dX4_changeMark_21 : decode cX4_changeMark 21 = .ok (.ireturn, 1) := by decide +kernel
set_option maxRecDepth 20000 in
theorem ggX4_excuseOne_X7_put : GoodIn wsX4_excuseOne wsX7_put := goodIn_r _ [7, 8, 9, 20, 21] (by decide +kernel) (by decide +kernel)
set_option maxRecDepth 20000 in
theorem gX4_excuseOne_X7_put : GoodIn wsX4_excuseOne (wsV RX4 35 RX7 yX7_put wsX7_put) := goodIn_app (goodIn_of _ (by decide +kernel)) ggX4_excuseOne_X7_put
set_option maxRecDepth 20000 in
theorem ggX4_excuseOne_X7_count : GoodIn wsX4_excuseOne wsX7_count := goodIn_r _ [13, 14, 15, 16, 6, 17, 9, 8, 20, 21] (by decide +kernel) (by decide +kernel)
set_option maxRecDepth 20000 in
theorem gX4_excuseOne_X7_count : GoodIn wsX4_excuseOne (wsV RX4 39 RX7 yX7_count wsX7_count) := goodIn_app (goodIn_of _ (by decide +kernel)) ggX4_excuseOne_X7_count
theorem dX4_excuseOne_0 : decode cX4_excuseOne 0 = .ok (.aload_n 0, 1) := by decide +kernel
theorem dX4_excuseOne_1 : decode cX4_excuseOne 1 = .ok (.getfield 14, 3) := by decide +kernel
theorem dX4_excuseOne_4 : decode cX4_excuseOne 4 = .ok (.iload_n 1, 1) := by decide +kernel
theorem dX4_excuseOne_5 : decode cX4_excuseOne 5 = .ok (.iconst 3, 1) := by decide +kernel
theorem dX4_excuseOne_6 : decode cX4_excuseOne 6 = .ok (.iconst 1, 1) := by decide +kernel
theorem dX4_excuseOne_7 : decode cX4_excuseOne 7 = .ok (.invokevirtual 35, 3) := by decide +kernel
theorem dX4_excuseOne_10 : decode cX4_excuseOne 10 = .ok (.aload_n 0, 1) := by decide +kernel
theorem dX4_excuseOne_11 : decode cX4_excuseOne 11 = .ok (.getfield 14, 3) := by decide +kernel
theorem dX4_excuseOne_14 : decode cX4_excuseOne 14 = .ok (.aload_n 0, 1) := by decide +kernel
theorem dX4_excuseOne_15 : decode cX4_excuseOne 15 = .ok (.getfield 20, 3) := by decide +kernel
theorem dX4_excuseOne_18 : decode cX4_excuseOne 18 = .ok (.iconst 3, 1) := by decide +kernel
theorem dX4_excuseOne_19 : decode cX4_excuseOne 19 = .ok (.iconst 1, 1) := by decide +kernel
theorem dX4_excuseOne_20 : decode cX4_excuseOne 20 = .ok (.invokevirtual 39, 3) := by decide +kernel
theorem dX4_excuseOne_23 : decode cX4_excuseOne 23 = .ok (.ireturn, 1) := by decide +kernel
set_option maxRecDepth 20000 in
theorem ggX4_putIn_X7_get : GoodIn wsX4_putIn wsX7_get := goodIn_r _ [6, 7, 8, 15, 16] (by decide +kernel) (by decide +kernel)
set_option maxRecDepth 20000 in
theorem gX4_putIn_X7_get : GoodIn wsX4_putIn (wsV RX4 28 RX7 yX7_get wsX7_get) := goodIn_app (goodIn_of _ (by decide +kernel)) ggX4_putIn_X7_get
set_option maxRecDepth 20000 in
theorem ggX4_putIn_X7_put : GoodIn wsX4_putIn wsX7_put := goodIn_r _ [12, 7, 8, 15, 16] (by decide +kernel) (by decide +kernel)
set_option maxRecDepth 20000 in
theorem gX4_putIn_X7_put : GoodIn wsX4_putIn (wsV RX4 35 RX7 yX7_put wsX7_put) := goodIn_app (goodIn_of _ (by decide +kernel)) ggX4_putIn_X7_put
theorem dX4_putIn_0 : decode cX4_putIn 0 = .ok (.aload_n 0, 1) := by decide +kernel
theorem dX4_putIn_1 : decode cX4_putIn 1 = .ok (.getfield 14, 3) := by decide +kernel
theorem dX4_putIn_4 : decode cX4_putIn 4 = .ok (.iload_n 1, 1) := by decide +kernel
theorem dX4_putIn_5 : decode cX4_putIn 5 = .ok (.iconst 2, 1) := by decide +kernel
theorem dX4_putIn_6 : decode cX4_putIn 6 = .ok (.aload_n 0, 1) := by decide +kernel
theorem dX4_putIn_7 : decode cX4_putIn 7 = .ok (.getfield 14, 3) := by decide +kernel
theorem dX4_putIn_10 : decode cX4_putIn 10 = .ok (.iload_n 1, 1) := by decide +kernel
theorem dX4_putIn_11 : decode cX4_putIn 11 = .ok (.iconst 2, 1) := by decide +kernel
theorem dX4_putIn_12 : decode cX4_putIn 12 = .ok (.invokevirtual 28, 3) := by decide +kernel
theorem dX4_putIn_15 : decode cX4_putIn 15 = .ok (.iload_n 2, 1) := by decide +kernel
theorem dX4_putIn_16 : decode cX4_putIn 16 = .ok (.iadd, 1) := by decide +kernel
theorem dX4_putIn_17 : decode cX4_putIn 17 = .ok (.invokevirtual 35, 3) := by decide +kernel
theorem dX4_putIn_20 : decode cX4_putIn 20 = .ok (.return_, 1) := by decide +kernel
set_option maxRecDepth 20000 in
theorem ggX4_bringWood_X4_nextOne : GoodIn wsX4_bringWood wsX4_nextOne := goodIn_r _ [7, 1, 2, 8, 9, 10, 11, 12, 13, 14, 15, 16, 17, 18, 19, 20, 21, 22, 23, 24, 25, 6, 26, 27, 28, 29, 30, 35, 36, 37, 38] (by decide +kernel) (by decide +kernel)
set_option maxRecDepth 20000 in
theorem gX4_bringWood_X4_nextOne : GoodIn wsX4_bringWood (wsV RX4 42 RX4 yX4_nextOne wsX4_nextOne) := goodIn_app (goodIn_of _ (by decide +kernel)) ggX4_bringWood_X4_nextOne
set_option maxRecDepth 20000 in
theorem ggX4_bringWood_X7_get : GoodIn wsX4_bringWood wsX7_get := goodIn_r _ [22, 18, 17, 37, 38] (by decide +kernel) (by decide +kernel)
set_option maxRecDepth 20000 in
theorem gX4_bringWood_X7_get : GoodIn wsX4_bringWood (wsV RX4 28 RX7 yX7_get wsX7_get) := goodIn_app (goodIn_of _ (by decide +kernel)) ggX4_bringWood_X7_get
set_option maxRecDepth 20000 in
theorem ggX4_bringWood_X7_put : GoodIn wsX4_bringWood wsX7_put := goodIn_r _ [34, 18, 17, 37, 38] (by decide +kernel) (by decide +kernel)
set_option maxRecDepth 20000 in
theorem gX4_bringWood_X7_put : GoodIn wsX4_bringWood (wsV RX4 35 RX7 yX7_put wsX7_put) := goodIn_app (goodIn_of _ (by decide +kernel)) ggX4_bringWood_X7_put
theorem dX4_bringWood_0 : decode cX4_bringWood 0 = .ok (.aload_n 0, 1) := by decide +kernel
theorem dX4_bringWood_1 : decode cX4_bringWood 1 = .ok (.invokevirtual 42, 3) := by decide +kernel
theorem dX4_bringWood_4 : decode cX4_bringWood 4 = .ok (.istore_n 2, 1) := by decide +kernel
theorem dX4_bringWood_5 : decode cX4_bringWood 5 = .ok (.aload_n 0, 1) := by decide +kernel
theorem dX4_bringWood_6 : decode cX4_bringWood 6 = .ok (.getfield 14, 3) := by decide +kernel
theorem dX4_bringWood_9 : decode cX4_bringWood 9 = .ok (.iload_n 2, 1) := by decide +kernel
theorem dX4_bringWood_10 : decode cX4_bringWood 10 = .ok (.iconst 1, 1) := by decide +kernel
theorem dX4_bringWood_11 : decode cX4_bringWood 11 = .ok (.aload_n 0, 1) := by decide +kernel
theorem dX4_bringWood_12 : decode cX4_bringWood 12 = .ok (.getfield 14, 3) := by decide +kernel
theorem dX4_bringWood_15 : decode cX4_bringWood 15 = .ok (.iload_n 2, 1) := by decide +kernel
theorem dX4_bringWood_16 : decode cX4_bringWood 16 = .ok (.iconst 1, 1) := by decide +kernel
theorem dX4_bringWood_17 : decode cX4_bringWood 17 = .ok (.invokevirtual 28, 3) := by decide +kernel
theorem dX4_bringWood_20 : decode cX4_bringWood 20 = .ok (.iload_n 1, 1) := by decide +kernel
theorem dX4_bringWood_21 : decode cX4_bringWood 21 = .ok (.iadd, 1) := by decide +kernel
theorem dX4_bringWood_22 : decode cX4_bringWood 22 = .ok (.invokevirtual 35, 3) := by decide +kernel
theorem dX4_bringWood_25 : decode cX4_bringWood 25 = .ok (.iconst 0, 1) := by decide +kernel
theorem dX4_bringWood_26 : decode cX4_bringWood 26 = .ok (.istore_n 3, 1) := by decide +kernel
theorem dX4_bringWood_27 : decode cX4_bringWood 27 = .ok (.iload_n 3, 1) := by decide +kernel
theorem dX4_bringWood_28 : decode cX4_bringWood 28 = .ok (.aload_n 0, 1) := by decide +kernel
theorem dX4_bringWood_29 : decode cX4_bringWood 29 = .ok (.getfield 20, 3) := by decide +kernel
theorem dX4_bringWood_32 : decode cX4_bringWood 32 = .ok (.if_icmp .ge 19, 3) := by decide +kernel
theorem dX4_bringWood_35 : decode cX4_bringWood 35 = .ok (.aload_n 0, 1) := by decide +kernel
theorem dX4_bringWood_36 : decode cX4_bringWood 36 = .ok (.getfield 14, 3) := by decide +kernel
theorem dX4_bringWood_39 : decode cX4_bringWood 39 = .ok (.iload_n 3, 1) := by decide +kernel
theorem dX4_bringWood_40 : decode cX4_bringWood 40 = .ok (.iconst 3, 1) := by decide +kernel
theorem dX4_bringWood_41 : decode cX4_bringWood 41 = .ok (.iconst 0, 1) := by decide +kernel
theorem dX4_bringWood_42 : decode cX4_bringWood 42 = .ok (.invokevirtual 35, 3) := by decide +kernel
theorem dX4_bringWood_45 : decode cX4_bringWood 45 = .ok (.iinc 3 1, 3) := by decide +kernel
theorem dX4_bringWood_48 : decode cX4_bringWood 48 = .ok (.goto (-21), 3) := by decide +kernel
theorem dX4_bringWood_51 : decode cX4_bringWood 51 = .ok (.return_, 1) := by decide +kernel
set_option maxRecDepth 20000 in
theorem ggX4_dueOf_X7_sum : GoodIn wsX4_dueOf wsX7_sum := goodIn_r _ [7, 8, 9, 16, 17] (by decide +kernel) (by decide +kernel)
set_option maxRecDepth 20000 in
theorem gX4_dueOf_X7_sum : GoodIn wsX4_dueOf (wsV RX4 32 RX7 yX7_sum wsX7_sum) := goodIn_app (goodIn_of _ (by decide +kernel)) ggX4_dueOf_X7_sum
set_option maxRecDepth 20000 in
theorem ggX4_dueOf_X7_get : GoodIn wsX4_dueOf wsX7_get := goodIn_r _ [13, 9, 8, 16, 17] (by decide +kernel) (by decide +kernel)
set_option maxRecDepth 20000 in
theorem gX4_dueOf_X7_get : GoodIn wsX4_dueOf (wsV RX4 28 RX7 yX7_get wsX7_get) := goodIn_app (goodIn_of _ (by decide +kernel)) ggX4_dueOf_X7_get
theorem dX4_dueOf_0 : decode cX4_dueOf 0 = .ok (.aload_n 0, 1) := by decide +kernel
theorem dX4_dueOf_1 : decode cX4_dueOf 1 = .ok (.getfield 14, 3) := by decide +kernel
theorem dX4_dueOf_4 : decode cX4_dueOf 4 = .ok (.aload_n 0, 1) := by decide +kernel
theorem dX4_dueOf_5 : decode cX4_dueOf 5 = .ok (.getfield 20, 3) := by decide +kernel
theorem dX4_dueOf_8 : decode cX4_dueOf 8 = .ok (.iconst 1, 1) := by decide +kernel
theorem dX4_dueOf_9 : decode cX4_dueOf 9 = .ok (.invokevirtual 32, 3) := by decide +kernel
theorem dX4_dueOf_12 : decode cX4_dueOf 12 = .ok (.i2l, 1) := by decide +kernel
theorem dX4_dueOf_13 : decode cX4_dueOf 13 = .ok (.lstore_n 2, 1) := by decide +kernel
theorem dX4_dueOf_14 : decode cX4_dueOf 14 = .ok (.aload_n 0, 1) := by decide +kernel
theorem dX4_dueOf_15 : decode cX4_dueOf 15 = .ok (.getfield 14, 3) := by decide +kernel
theorem dX4_dueOf_18 : decode cX4_dueOf 18 = .ok (.aload_n 0, 1) := by decide +kernel
theorem dX4_dueOf_19 : decode cX4_dueOf 19 = .ok (.getfield 20, 3) := by decide +kernel
theorem dX4_dueOf_22 : decode cX4_dueOf 22 = .ok (.iconst 2, 1) := by decide +kernel
theorem dX4_dueOf_23 : decode cX4_dueOf 23 = .ok (.invokevirtual 32, 3) := by decide +kernel
theorem dX4_dueOf_26 : decode cX4_dueOf 26 = .ok (.i2l, 1) := by decide +kernel
theorem dX4_dueOf_27 : decode cX4_dueOf 27 = .ok (.lstore 4, 2) := by decide +kernel
theorem dX4_dueOf_29 : decode cX4_dueOf 29 = .ok (.lload_n 2, 1) := by decide +kernel
theorem dX4_dueOf_30 : decode cX4_dueOf 30 = .ok (.aload_n 0, 1) := by decide +kernel
theorem dX4_dueOf_31 : decode cX4_dueOf 31 = .ok (.getfield 14, 3) := by decide +kernel
theorem dX4_dueOf_34 : decode cX4_dueOf 34 = .ok (.iload_n 1, 1) := by decide +kernel
theorem dX4_dueOf_35 : decode cX4_dueOf 35 = .ok (.iconst 2, 1) := by decide +kernel
theorem dX4_dueOf_36 : decode cX4_dueOf 36 = .ok (.invokevirtual 28, 3) := by decide +kernel
theorem dX4_dueOf_39 : decode cX4_dueOf 39 = .ok (.i2l, 1) := by decide +kernel
theorem dX4_dueOf_40 : decode cX4_dueOf 40 = .ok (.lmul, 1) := by decide +kernel
theorem dX4_dueOf_41 : decode cX4_dueOf 41 = .ok (.lload 4, 2) := by decide +kernel
theorem dX4_dueOf_43 : decode cX4_dueOf 43 = .ok (.aload_n 0, 1) := by decide +kernel
theorem dX4_dueOf_44 : decode cX4_dueOf 44 = .ok (.getfield 14, 3) := by decide +kernel
theorem dX4_dueOf_47 : decode cX4_dueOf 47 = .ok (.iload_n 1, 1) := by decide +kernel
theorem dX4_dueOf_48 : decode cX4_dueOf 48 = .ok (.iconst 1, 1) := by decide +kernel
theorem dX4_dueOf_49 : decode cX4_dueOf 49 = .ok (.invokevirtual 28, 3) := by decide +kernel
theorem dX4_dueOf_52 : decode cX4_dueOf 52 = .ok (.i2l, 1) := by decide +kernel
theorem dX4_dueOf_53 : decode cX4_dueOf 53 = .ok (.lmul, 1) := by decide +kernel
theorem dX4_dueOf_54 : decode cX4_dueOf 54 = .ok (.lsub, 1) := by decide +kernel
theorem dX4_dueOf_55 : decode cX4_dueOf 55 = .ok (.lreturn, 1) := by decide +kernel
set_option maxRecDepth 20000 in
theorem ggX4_nextOne_X7_count : GoodIn wsX4_nextOne wsX7_count := goodIn_r _ [7, 8, 9, 10, 6, 11, 12, 13, 29, 30] (by decide +kernel) (by decide +kernel)
set_option maxRecDepth 20000 in
theorem gX4_nextOne_X7_count : GoodIn wsX4_nextOne (wsV RX4 39 RX7 yX7_count wsX7_count) := goodIn_app (goodIn_of _ (by decide +kernel)) ggX4_nextOne_X7_count
set_option maxRecDepth 20000 in
theorem ggX4_nextOne_X7_get : GoodIn wsX4_nextOne wsX7_get := goodIn_r _ [17, 13, 12, 29, 30] (by decide +kernel) (by decide +kernel)
set_option maxRecDepth 20000 in
theorem gX4_nextOne_X7_get : GoodIn wsX4_nextOne (wsV RX4 28 RX7 yX7_get wsX7_get) := goodIn_app (goodIn_of _ (by decide +kernel)) ggX4_nextOne_X7_get
set_option maxRecDepth 20000 in
theorem ggX4_nextOne_X4_dueOf : GoodIn wsX4_nextOne wsX4_dueOf := goodIn_r _ [22, 1, 2, 23, 24, 25, 6, 26, 12, 13, 14, 15, 16, 17, 27, 28, 29, 30] (by decide +kernel) (by decide +kernel)
set_option maxRecDepth 20000 in
theorem gX4_nextOne_X4_dueOf : GoodIn wsX4_nextOne (wsV RX4 46 RX4 yX4_dueOf wsX4_dueOf) := goodIn_app (goodIn_of _ (by decide +kernel)) ggX4_nextOne_X4_dueOf
theorem dX4_nextOne_0 : decode cX4_nextOne 0 = .ok (.aload_n 0, 1) := by decide +kernel
theorem dX4_nextOne_1 : decode cX4_nextOne 1 = .ok (.getfield 14, 3) := by decide +kernel
theorem dX4_nextOne_4 : decode cX4_nextOne 4 = .ok (.aload_n 0, 1) := by decide +kernel
theorem dX4_nextOne_5 : decode cX4_nextOne 5 = .ok (.getfield 20, 3) := by decide +kernel
theorem dX4_nextOne_8 : decode cX4_nextOne 8 = .ok (.iconst 3, 1) := by decide +kernel
theorem dX4_nextOne_9 : decode cX4_nextOne 9 = .ok (.iconst 1, 1) := by decide +kernel
theorem dX4_nextOne_10 : decode cX4_nextOne 10 = .ok (.invokevirtual 39, 3) := by decide +kernel
theorem dX4_nextOne_13 : decode cX4_nextOne 13 = .ok (.aload_n 0, 1) := by decide +kernel
theorem dX4_nextOne_14 : decode cX4_nextOne 14 = .ok (.getfield 20, 3) := by decide +kernel
theorem dX4_nextOne_17 : decode cX4_nextOne 17 = .ok (.if_icmp .ne 7, 3) := by decide +kernel
theorem dX4_nextOne_20 : decode cX4_nextOne 20 = .ok (.iconst 1, 1) := by decide +kernel
theorem dX4_nextOne_21 : decode cX4_nextOne 21 = .ok (.goto 4, 3) := by decide +kernel
theorem dX4_nextOne_24 : decode cX4_nextOne 24 = .ok (.iconst 0, 1) := by decide +kernel
theorem dX4_nextOne_25 : decode cX4_nextOne 25 = .ok (.istore_n 1, 1) := by decide +kernel
theorem dX4_nextOne_26 : decode cX4_nextOne 26 = .ok (.iconst (-1), 1) := by decide +kernel
theorem dX4_nextOne_27 : decode cX4_nextOne 27 = .ok (.istore_n 2, 1) := by decide +kernel
theorem dX4_nextOne_28 : decode cX4_nextOne 28 = .ok (.lconst 0, 1) := by decide +kernel
theorem dX4_nextOne_29 : decode cX4_nextOne 29 = .ok (.lstore_n 3, 1) := by decide +kernel
theorem dX4_nextOne_30 : decode cX4_nextOne 30 = .ok (.iconst 0, 1) := by decide +kernel
theorem dX4_nextOne_31 : decode cX4_nextOne 31 = .ok (.istore 5, 2) := by decide +kernel
theorem dX4_nextOne_33 : decode cX4_nextOne 33 = .ok (.iload 5, 2) := by decide +kernel
theorem dX4_nextOne_35 : decode cX4_nextOne 35 = .ok (.aload_n 0, 1) := by decide +kernel
theorem dX4_nextOne_36 : decode cX4_nextOne 36 = .ok (.getfield 20, 3) := by decide +kernel
theorem dX4_nextOne_39 : decode cX4_nextOne 39 = .ok (.if_icmp .ge 52, 3) := by decide +kernel
theorem dX4_nextOne_42 : decode cX4_nextOne 42 = .ok (.iload_n 1, 1) := by decide +kernel
theorem dX4_nextOne_43 : decode cX4_nextOne 43 = .ok (.ifCond .ne 16, 3) := by decide +kernel
theorem dX4_nextOne_46 : decode cX4_nextOne 46 = .ok (.aload_n 0, 1) := by decide +kernel
theorem dX4_nextOne_47 : decode cX4_nextOne 47 = .ok (.getfield 14, 3) := by decide +kernel
theorem dX4_nextOne_50 : decode cX4_nextOne 50 = .ok (.iload 5, 2) := by decide +kernel
theorem dX4_nextOne_52 : decode cX4_nextOne 52 = .ok (.iconst 3, 1) := by decide +kernel
theorem dX4_nextOne_53 : decode cX4_nextOne 53 = .ok (.invokevirtual 28, 3) := by decide +kernel
theorem dX4_nextOne_56 : decode cX4_nextOne 56 = .ok (.ifCond .ne 29, 3) := by decide +kernel
theorem dX4_nextOne_59 : decode cX4_nextOne 59 = .ok (.aload_n 0, 1) := by decide +kernel
theorem dX4_nextOne_60 : decode cX4_nextOne 60 = .ok (.iload 5, 2) := by decide +kernel
theorem dX4_nextOne_62 : decode cX4_nextOne 62 = .ok (.invokevirtual 46, 3) := by decide +kernel
theorem dX4_nextOne_65 : decode cX4_nextOne 65 = .ok (.lstore 6, 2) := by decide +kernel
theorem dX4_nextOne_67 : decode cX4_nextOne 67 = .ok (.iload_n 2, 1) := by decide +kernel
theorem dX4_nextOne_68 : decode cX4_nextOne 68 = .ok (.iconst (-1), 1) := by decide +kernel
theorem dX4_nextOne_69 : decode cX4_nextOne 69 = .ok (.if_icmp .eq 10, 3) := by decide +kernel
theorem dX4_nextOne_72 : decode cX4_nextOne 72 = .ok (.lload 6, 2) := by decide +kernel
theorem dX4_nextOne_74 : decode cX4_nextOne 74 = .ok (.lload_n 3, 1) := by decide +kernel
theorem dX4_nextOne_75 : decode cX4_nextOne 75 = .ok (.lcmp, 1) := by decide +kernel
theorem dX4_nextOne_76 : decode cX4_nextOne 76 = .ok (.ifCond .le 9, 3) := by decide +kernel
theorem dX4_nextOne_79 : decode cX4_nextOne 79 = .ok (.iload 5, 2) := by decide +kernel
theorem dX4_nextOne_81 : decode cX4_nextOne 81 = .ok (.istore_n 2, 1) := by decide +kernel
theorem dX4_nextOne_82 : decode cX4_nextOne 82 = .ok (.lload 6, 2) := by decide +kernel
theorem dX4_nextOne_84 : decode cX4_nextOne 84 = .ok (.lstore_n 3, 1) := by decide +kernel
theorem dX4_nextOne_85 : decode cX4_nextOne 85 = .ok (.iinc 5 1, 3) := by decide +kernel
theorem dX4_nextOne_88 : decode cX4_nextOne 88 = .ok (.goto (-55), 3) := by decide +kernel
theorem dX4_nextOne_91 : decode cX4_nextOne 91 = .ok (.iload_n 2, 1) := by decide +kernel
theorem dX4_nextOne_92 : decode cX4_nextOne 92 = .ok (.ireturn, 1) := by decide +kernel
set_option maxRecDepth 20000 in
theorem ggX4_takerOf_X7_get : GoodIn wsX4_takerOf wsX7_get := goodIn_r _ [7, 8, 9, 22, 23] (by decide +kernel) (by decide +kernel)
set_option maxRecDepth 20000 in
theorem gX4_takerOf_X7_get : GoodIn wsX4_takerOf (wsV RX4 28 RX7 yX7_get wsX7_get) := goodIn_app (goodIn_of _ (by decide +kernel)) ggX4_takerOf_X7_get
set_option maxRecDepth 20000 in
theorem ggX4_takerOf_X11_contains : GoodIn wsX4_takerOf wsX11_contains := goodIn_r _ [12] (by decide +kernel) (by decide +kernel)
set_option maxRecDepth 20000 in
theorem gX4_takerOf_X11_contains_n50 : GoodIn wsX4_takerOf (wsX11_contains) := ggX4_takerOf_X11_contains
set_option maxRecDepth 20000 in
theorem ggX4_takerOf_J6_bitCount_0f7a4 : GoodIn wsX4_takerOf wsJ6_bitCount_0f7a4 := goodIn_r _ [16, 17, 18, 19] (by decide +kernel) (by decide +kernel)
set_option maxRecDepth 20000 in
theorem gX4_takerOf_J6_bitCount_0f7a4 : GoodIn wsX4_takerOf (va_wsS RX4 54 yJ6_bitCount_0f7a4 wsJ6_bitCount_0f7a4) := goodIn_app (goodIn_of _ (by decide +kernel)) ggX4_takerOf_J6_bitCount_0f7a4
theorem dX4_takerOf_0 : decode cX4_takerOf 0 = .ok (.bipush 8, 2) := by decide +kernel
theorem dX4_takerOf_2 : decode cX4_takerOf 2 = .ok (.istore_n 3, 1) := by decide +kernel
theorem dX4_takerOf_3 : decode cX4_takerOf 3 = .ok (.bipush 17, 2) := by decide +kernel
theorem dX4_takerOf_5 : decode cX4_takerOf 5 = .ok (.istore 4, 2) := by decide +kernel
theorem dX4_takerOf_7 : decode cX4_takerOf 7 = .ok (.iconst 0, 1) := by decide +kernel
theorem dX4_takerOf_8 : decode cX4_takerOf 8 = .ok (.istore 5, 2) := by decide +kernel
theorem dX4_takerOf_10 : decode cX4_takerOf 10 = .ok (.iload 5, 2) := by decide +kernel
theorem dX4_takerOf_12 : decode cX4_takerOf 12 = .ok (.aload_n 0, 1) := by decide +kernel
theorem dX4_takerOf_13 : decode cX4_takerOf 13 = .ok (.getfield 20, 3) := by decide +kernel
theorem dX4_takerOf_16 : decode cX4_takerOf 16 = .ok (.if_icmp .ge 78, 3) := by decide +kernel
theorem dX4_takerOf_19 : decode cX4_takerOf 19 = .ok (.aload_n 0, 1) := by decide +kernel
theorem dX4_takerOf_20 : decode cX4_takerOf 20 = .ok (.getfield 14, 3) := by decide +kernel
theorem dX4_takerOf_23 : decode cX4_takerOf 23 = .ok (.iload 5, 2) := by decide +kernel
theorem dX4_takerOf_25 : decode cX4_takerOf 25 = .ok (.iconst 0, 1) := by decide +kernel
theorem dX4_takerOf_26 : decode cX4_takerOf 26 = .ok (.invokevirtual 28, 3) := by decide +kernel
theorem dX4_takerOf_29 : decode cX4_takerOf 29 = .ok (.istore 6, 2) := by decide +kernel
theorem dX4_takerOf_31 : decode cX4_takerOf 31 = .ok (.iload_n 2, 1) := by decide +kernel
theorem dX4_takerOf_32 : decode cX4_takerOf 32 = .ok (.iload 5, 2) := by decide +kernel
theorem dX4_takerOf_34 : decode cX4_takerOf 34 = .ok (.ishr, 1) := by decide +kernel
theorem dX4_takerOf_35 : decode cX4_takerOf 35 = .ok (.iconst 1, 1) := by decide +kernel
theorem dX4_takerOf_36 : decode cX4_takerOf 36 = .ok (.iand, 1) := by decide +kernel
theorem dX4_takerOf_37 : decode cX4_takerOf 37 = .ok (.iconst 1, 1) := by decide +kernel
theorem dX4_takerOf_38 : decode cX4_takerOf 38 = .ok (.if_icmp .ne 50, 3) := by decide +kernel
theorem dX4_takerOf_41 : decode cX4_takerOf 41 = .ok (.iload 6, 2) := by decide +kernel
theorem dX4_takerOf_43 : decode cX4_takerOf 43 = .ok (.iload_n 1, 1) := by decide +kernel
theorem dX4_takerOf_44 : decode cX4_takerOf 44 = .ok (.invokestatic 50, 3) := by decide +kernel
theorem dX4_takerOf_47 : decode cX4_takerOf 47 = .ok (.ifCond .eq 41, 3) := by decide +kernel
theorem dX4_takerOf_50 : decode cX4_takerOf 50 = .ok (.iload 6, 2) := by decide +kernel
theorem dX4_takerOf_52 : decode cX4_takerOf 52 = .ok (.iload_n 1, 1) := by decide +kernel
theorem dX4_takerOf_53 : decode cX4_takerOf 53 = .ok (.iconst (-1), 1) := by decide +kernel
theorem dX4_takerOf_54 : decode cX4_takerOf 54 = .ok (.ixor, 1) := by decide +kernel
theorem dX4_takerOf_55 : decode cX4_takerOf 55 = .ok (.iand, 1) := by decide +kernel
theorem dX4_takerOf_56 : decode cX4_takerOf 56 = .ok (.invokestatic 54, 3) := by decide +kernel
theorem dX4_takerOf_59 : decode cX4_takerOf 59 = .ok (.istore 7, 2) := by decide +kernel
theorem dX4_takerOf_61 : decode cX4_takerOf 61 = .ok (.iload 7, 2) := by decide +kernel
theorem dX4_takerOf_63 : decode cX4_takerOf 63 = .ok (.iload 4, 2) := by decide +kernel
theorem dX4_takerOf_65 : decode cX4_takerOf 65 = .ok (.if_icmp .ge 13, 3) := by decide +kernel
theorem dX4_takerOf_68 : decode cX4_takerOf 68 = .ok (.iload 7, 2) := by decide +kernel
theorem dX4_takerOf_70 : decode cX4_takerOf 70 = .ok (.istore 4, 2) := by decide +kernel
theorem dX4_takerOf_72 : decode cX4_takerOf 72 = .ok (.iload 5, 2) := by decide +kernel
theorem dX4_takerOf_74 : decode cX4_takerOf 74 = .ok (.istore_n 3, 1) := by decide +kernel
theorem dX4_takerOf_75 : decode cX4_takerOf 75 = .ok (.goto 13, 3) := by decide +kernel
theorem dX4_takerOf_78 : decode cX4_takerOf 78 = .ok (.iload 7, 2) := by decide +kernel
theorem dX4_takerOf_80 : decode cX4_takerOf 80 = .ok (.iload 4, 2) := by decide +kernel
theorem dX4_takerOf_82 : decode cX4_takerOf 82 = .ok (.if_icmp .ne 6, 3) := by decide +kernel
theorem dX4_takerOf_85 : decode cX4_takerOf 85 = .ok (.bipush 8, 2) := by decide +kernel
theorem dX4_takerOf_87 : decode cX4_takerOf 87 = .ok (.istore_n 3, 1) := by decide +kernel
theorem dX4_takerOf_88 : decode cX4_takerOf 88 = .ok (.iinc 5 1, 3) := by decide +kernel
theorem dX4_takerOf_91 : decode cX4_takerOf 91 = .ok (.goto (-81), 3) := by decide +kernel
theorem dX4_takerOf_94 : decode cX4_takerOf 94 = .ok (.iload_n 3, 1) := by decide +kernel
theorem dX4_takerOf_95 : decode cX4_takerOf 95 = .ok (.ireturn, 1) := by decide +kernel
set_option maxRecDepth 20000 in
theorem ggX4_likePairs_X7_get : GoodIn wsX4_likePairs wsX7_get := goodIn_r _ [7, 8, 9, 19, 20] (by decide +kernel) (by decide +kernel)
set_option maxRecDepth 20000 in
theorem gX4_likePairs_X7_get : GoodIn wsX4_likePairs (wsV RX4 28 RX7 yX7_get wsX7_get) := goodIn_app (goodIn_of _ (by decide +kernel)) ggX4_likePairs_X7_get
set_option maxRecDepth 20000 in
theorem ggX4_likePairs_X4_alike : GoodIn wsX4_likePairs wsX4_alike := goodIn_r _ [13, 14, 15, 16] (by decide +kernel) (by decide +kernel)
set_option maxRecDepth 20000 in
theorem gX4_likePairs_X4_alike : GoodIn wsX4_likePairs (va_wsS RX4 60 yX4_alike wsX4_alike) := goodIn_app (goodIn_of _ (by decide +kernel)) ggX4_likePairs_X4_alike
theorem dX4_likePairs_0 : decode cX4_likePairs 0 = .ok (.iconst 0, 1) := by decide +kernel
theorem dX4_likePairs_1 : decode cX4_likePairs 1 = .ok (.istore_n 1, 1) := by decide +kernel
theorem dX4_likePairs_2 : decode cX4_likePairs 2 = .ok (.iconst 0, 1) := by decide +kernel
theorem dX4_likePairs_3 : decode cX4_likePairs 3 = .ok (.istore_n 2, 1) := by decide +kernel
theorem dX4_likePairs_4 : decode cX4_likePairs 4 = .ok (.iload_n 2, 1) := by decide +kernel
theorem dX4_likePairs_5 : decode cX4_likePairs 5 = .ok (.aload_n 0, 1) := by decide +kernel
theorem dX4_likePairs_6 : decode cX4_likePairs 6 = .ok (.getfield 20, 3) := by decide +kernel
theorem dX4_likePairs_9 : decode cX4_likePairs 9 = .ok (.if_icmp .ge 54, 3) := by decide +kernel
theorem dX4_likePairs_12 : decode cX4_likePairs 12 = .ok (.iload_n 2, 1) := by decide +kernel
theorem dX4_likePairs_13 : decode cX4_likePairs 13 = .ok (.iconst 1, 1) := by decide +kernel
theorem dX4_likePairs_14 : decode cX4_likePairs 14 = .ok (.iadd, 1) := by decide +kernel
theorem dX4_likePairs_15 : decode cX4_likePairs 15 = .ok (.istore_n 3, 1) := by decide +kernel
theorem dX4_likePairs_16 : decode cX4_likePairs 16 = .ok (.iload_n 3, 1) := by decide +kernel
theorem dX4_likePairs_17 : decode cX4_likePairs 17 = .ok (.aload_n 0, 1) := by decide +kernel
theorem dX4_likePairs_18 : decode cX4_likePairs 18 = .ok (.getfield 20, 3) := by decide +kernel
theorem dX4_likePairs_21 : decode cX4_likePairs 21 = .ok (.if_icmp .ge 36, 3) := by decide +kernel
theorem dX4_likePairs_24 : decode cX4_likePairs 24 = .ok (.aload_n 0, 1) := by decide +kernel
theorem dX4_likePairs_25 : decode cX4_likePairs 25 = .ok (.getfield 14, 3) := by decide +kernel
theorem dX4_likePairs_28 : decode cX4_likePairs 28 = .ok (.iload_n 2, 1) := by decide +kernel
theorem dX4_likePairs_29 : decode cX4_likePairs 29 = .ok (.iconst 0, 1) := by decide +kernel
theorem dX4_likePairs_30 : decode cX4_likePairs 30 = .ok (.invokevirtual 28, 3) := by decide +kernel
theorem dX4_likePairs_33 : decode cX4_likePairs 33 = .ok (.aload_n 0, 1) := by decide +kernel
theorem dX4_likePairs_34 : decode cX4_likePairs 34 = .ok (.getfield 14, 3) := by decide +kernel
theorem dX4_likePairs_37 : decode cX4_likePairs 37 = .ok (.iload_n 3, 1) := by decide +kernel
theorem dX4_likePairs_38 : decode cX4_likePairs 38 = .ok (.iconst 0, 1) := by decide +kernel
theorem dX4_likePairs_39 : decode cX4_likePairs 39 = .ok (.invokevirtual 28, 3) := by decide +kernel
theorem dX4_likePairs_42 : decode cX4_likePairs 42 = .ok (.invokestatic 60, 3) := by decide +kernel
theorem dX4_likePairs_45 : decode cX4_likePairs 45 = .ok (.ifCond .eq 6, 3) := by decide +kernel
theorem dX4_likePairs_48 : decode cX4_likePairs 48 = .ok (.iinc 1 1, 3) := by decide +kernel
theorem dX4_likePairs_51 : decode cX4_likePairs 51 = .ok (.iinc 3 1, 3) := by decide +kernel
theorem dX4_likePairs_54 : decode cX4_likePairs 54 = .ok (.goto (-38), 3) := by decide +kernel
theorem dX4_likePairs_57 : decode cX4_likePairs 57 = .ok (.iinc 2 1, 3) := by decide +kernel
theorem dX4_likePairs_60 : decode cX4_likePairs 60 = .ok (.goto (-56), 3) := by decide +kernel
theorem dX4_likePairs_63 : decode cX4_likePairs 63 = .ok (.iload_n 1, 1) := by decide +kernel
theorem dX4_likePairs_64 : decode cX4_likePairs 64 = .ok (.ireturn, 1) := by decide +kernel
set_option maxRecDepth 20000 in
theorem ggX4_hasLike_X7_get : GoodIn wsX4_hasLike wsX7_get := goodIn_r _ [7, 8, 9, 19, 20] (by decide +kernel) (by decide +kernel)
set_option maxRecDepth 20000 in
theorem gX4_hasLike_X7_get : GoodIn wsX4_hasLike (wsV RX4 28 RX7 yX7_get wsX7_get) := goodIn_app (goodIn_of _ (by decide +kernel)) ggX4_hasLike_X7_get
set_option maxRecDepth 20000 in
theorem ggX4_hasLike_X4_alike : GoodIn wsX4_hasLike wsX4_alike := goodIn_r _ [13, 14, 15, 16] (by decide +kernel) (by decide +kernel)
set_option maxRecDepth 20000 in
theorem gX4_hasLike_X4_alike : GoodIn wsX4_hasLike (va_wsS RX4 60 yX4_alike wsX4_alike) := goodIn_app (goodIn_of _ (by decide +kernel)) ggX4_hasLike_X4_alike
theorem dX4_hasLike_0 : decode cX4_hasLike 0 = .ok (.iconst 0, 1) := by decide +kernel
theorem dX4_hasLike_1 : decode cX4_hasLike 1 = .ok (.istore_n 2, 1) := by decide +kernel
theorem dX4_hasLike_2 : decode cX4_hasLike 2 = .ok (.iload_n 2, 1) := by decide +kernel
theorem dX4_hasLike_3 : decode cX4_hasLike 3 = .ok (.aload_n 0, 1) := by decide +kernel
theorem dX4_hasLike_4 : decode cX4_hasLike 4 = .ok (.getfield 20, 3) := by decide +kernel
theorem dX4_hasLike_7 : decode cX4_hasLike 7 = .ok (.if_icmp .ge 27, 3) := by decide +kernel
theorem dX4_hasLike_10 : decode cX4_hasLike 10 = .ok (.iload_n 1, 1) := by decide +kernel
theorem dX4_hasLike_11 : decode cX4_hasLike 11 = .ok (.aload_n 0, 1) := by decide +kernel
theorem dX4_hasLike_12 : decode cX4_hasLike 12 = .ok (.getfield 14, 3) := by decide +kernel
theorem dX4_hasLike_15 : decode cX4_hasLike 15 = .ok (.iload_n 2, 1) := by decide +kernel
theorem dX4_hasLike_16 : decode cX4_hasLike 16 = .ok (.iconst 0, 1) := by decide +kernel
theorem dX4_hasLike_17 : decode cX4_hasLike 17 = .ok (.invokevirtual 28, 3) := by decide +kernel
theorem dX4_hasLike_20 : decode cX4_hasLike 20 = .ok (.invokestatic 60, 3) := by decide +kernel
theorem dX4_hasLike_23 : decode cX4_hasLike 23 = .ok (.ifCond .eq 5, 3) := by decide +kernel
theorem dX4_hasLike_26 : decode cX4_hasLike 26 = .ok (.iconst 1, 1) := by decide +kernel
theorem dX4_hasLike_27 : decode cX4_hasLike 27 = .ok (.ireturn, 1) := by decide +kernel
theorem dX4_hasLike_28 : decode cX4_hasLike 28 = .ok (.iinc 2 1, 3) := by decide +kernel
theorem dX4_hasLike_31 : decode cX4_hasLike 31 = .ok (.goto (-29), 3) := by decide +kernel
theorem dX4_hasLike_34 : decode cX4_hasLike 34 = .ok (.iconst 0, 1) := by decide +kernel
theorem dX4_hasLike_35 : decode cX4_hasLike 35 = .ok (.ireturn, 1) := by decide +kernel
set_option maxRecDepth 20000 in
theorem ggX4_alike_X11_contains : GoodIn wsX4_alike wsX11_contains := goodIn_r _ [3] (by decide +kernel) (by decide +kernel)
set_option maxRecDepth 20000 in
theorem gX4_alike_X11_contains_n50 : GoodIn wsX4_alike (wsX11_contains) := ggX4_alike_X11_contains
theorem dX4_alike_0 : decode cX4_alike 0 = .ok (.iload_n 0, 1) := by decide +kernel
theorem dX4_alike_1 : decode cX4_alike 1 = .ok (.iload_n 1, 1) := by decide +kernel
theorem dX4_alike_2 : decode cX4_alike 2 = .ok (.invokestatic 50, 3) := by decide +kernel
theorem dX4_alike_5 : decode cX4_alike 5 = .ok (.ifCond .ne 11, 3) := by decide +kernel
theorem dX4_alike_8 : decode cX4_alike 8 = .ok (.iload_n 1, 1) := by decide +kernel
theorem dX4_alike_9 : decode cX4_alike 9 = .ok (.iload_n 0, 1) := by decide +kernel
theorem dX4_alike_10 : decode cX4_alike 10 = .ok (.invokestatic 50, 3) := by decide +kernel
theorem dX4_alike_13 : decode cX4_alike 13 = .ok (.ifCond .eq 7, 3) := by decide +kernel
theorem dX4_alike_16 : decode cX4_alike 16 = .ok (.iconst 1, 1) := by decide +kernel
theorem dX4_alike_17 : decode cX4_alike 17 = .ok (.goto 4, 3) := by decide +kernel
theorem dX4_alike_20 : decode cX4_alike 20 = .ok (.iconst 0, 1) := by decide +kernel
theorem dX4_alike_21 : decode cX4_alike 21 = .ok (.ireturn, 1) := by decide +kernel
set_option maxRecDepth 20000 in
theorem ggX5_init_X7_init : GoodIn wsX5_init wsX7_init := goodIn_r _ [10, 11, 2, 3, 12, 13, 14, 15, 16, 17] (by decide +kernel) (by decide +kernel)
set_option maxRecDepth 20000 in
theorem gX5_init_X7_init : GoodIn wsX5_init (wsX7_init) := ggX5_init_X7_init
theorem dX5_init_0 : decode cX5_init 0 = .ok (.aload_n 0, 1) := by decide +kernel
theorem dX5_init_1 : decode cX5_init 1 = .ok (.invokespecial 3, 3) := by decide +kernel
theorem dX5_init_4 : decode cX5_init 4 = .ok (.aload_n 0, 1) := by decide +kernel
theorem dX5_init_5 : decode cX5_init 5 = .ok (.new 9, 3) := by decide +kernel
theorem dX5_init_8 : decode cX5_init 8 = .ok (.dup, 1) := by decide +kernel
theorem dX5_init_9 : decode cX5_init 9 = .ok (.iconst 5, 1) := by decide +kernel
theorem dX5_init_10 : decode cX5_init 10 = .ok (.bipush 20, 2) := by decide +kernel
theorem dX5_init_12 : decode cX5_init 12 = .ok (.invokespecial 11, 3) := by decide +kernel
theorem dX5_init_15 : decode cX5_init 15 = .ok (.putfield 14, 3) := by decide +kernel
theorem dX5_init_18 : decode cX5_init 18 = .ok (.return_, 1) := by decide +kernel
set_option maxRecDepth 20000 in
theorem ggX5_copyFrom_X7_copyFrom : GoodIn wsX5_copyFrom wsX7_copyFrom := goodIn_r _ [7, 8, 9, 10, 11, 12, 13, 16, 17] (by decide +kernel) (by decide +kernel)
set_option maxRecDepth 20000 in
theorem gX5_copyFrom_X7_copyFrom : GoodIn wsX5_copyFrom (wsV RX5 24 RX7 yX7_copyFrom wsX7_copyFrom) := goodIn_app (goodIn_of _ (by decide +kernel)) ggX5_copyFrom_X7_copyFrom
theorem dX5_copyFrom_0 : decode cX5_copyFrom 0 = .ok (.aload_n 0, 1) := by decide +kernel
theorem dX5_copyFrom_1 : decode cX5_copyFrom 1 = .ok (.getfield 14, 3) := by decide +kernel
theorem dX5_copyFrom_4 : decode cX5_copyFrom 4 = .ok (.aload_n 1, 1) := by decide +kernel
theorem dX5_copyFrom_5 : decode cX5_copyFrom 5 = .ok (.getfield 14, 3) := by decide +kernel
theorem dX5_copyFrom_8 : decode cX5_copyFrom 8 = .ok (.aload_n 1, 1) := by decide +kernel
theorem dX5_copyFrom_9 : decode cX5_copyFrom 9 = .ok (.getfield 20, 3) := by decide +kernel
theorem dX5_copyFrom_12 : decode cX5_copyFrom 12 = .ok (.invokevirtual 24, 3) := by decide +kernel
theorem dX5_copyFrom_15 : decode cX5_copyFrom 15 = .ok (.aload_n 0, 1) := by decide +kernel
theorem dX5_copyFrom_16 : decode cX5_copyFrom 16 = .ok (.aload_n 1, 1) := by decide +kernel
theorem dX5_copyFrom_17 : decode cX5_copyFrom 17 = .ok (.getfield 20, 3) := by decide +kernel
theorem dX5_copyFrom_20 : decode cX5_copyFrom 20 = .ok (.putfield 20, 3) := by decide +kernel
theorem dX5_copyFrom_23 : decode cX5_copyFrom 23 = .ok (.return_, 1) := by decide +kernel
theorem dX5_size_0 : decode cX5_size 0 = .ok (.aload_n 0, 1) := by decide +kernel
theorem dX5_size_1 : decode cX5_size 1 = .ok (.getfield 20, 3) := by decide +kernel
theorem dX5_size_4 : decode cX5_size 4 = .ok (.ireturn, 1) := by decide +kernel
set_option maxRecDepth 20000 in
theorem ggX5_value_X7_get : GoodIn wsX5_value wsX7_get := goodIn_r _ [6, 7, 8, 11, 12] (by decide +kernel) (by decide +kernel)
set_option maxRecDepth 20000 in
theorem gX5_value_X7_get : GoodIn wsX5_value (wsV RX5 28 RX7 yX7_get wsX7_get) := goodIn_app (goodIn_of _ (by decide +kernel)) ggX5_value_X7_get
theorem dX5_value_0 : decode cX5_value 0 = .ok (.aload_n 0, 1) := by decide +kernel
theorem dX5_value_1 : decode cX5_value 1 = .ok (.getfield 14, 3) := by decide +kernel
theorem dX5_value_4 : decode cX5_value 4 = .ok (.iload_n 1, 1) := by decide +kernel
theorem dX5_value_5 : decode cX5_value 5 = .ok (.iload_n 2, 1) := by decide +kernel
theorem dX5_value_6 : decode cX5_value 6 = .ok (.invokevirtual 28, 3) := by decide +kernel
theorem dX5_value_9 : decode cX5_value 9 = .ok (.ireturn, 1) := by decide +kernel
theorem dX5_clear_0 : decode cX5_clear 0 = .ok (.aload_n 0, 1) := by decide +kernel
theorem dX5_clear_1 : decode cX5_clear 1 = .ok (.iconst 0, 1) := by decide +kernel
theorem dX5_clear_2 : decode cX5_clear 2 = .ok (.putfield 20, 3) := by decide +kernel
theorem dX5_clear_5 : decode cX5_clear 5 = .ok (.return_, 1) := by decide +kernel
set_option maxRecDepth 20000 in
theorem ggX5_add_X7_put : GoodIn wsX5_add wsX7_put := goodIn_r _ [7, 8, 9, 12, 13] (by decide +kernel) (by decide +kernel)
set_option maxRecDepth 20000 in
theorem gX5_add_X7_put : GoodIn wsX5_add (wsV RX5 32 RX7 yX7_put wsX7_put) := goodIn_app (goodIn_of _ (by decide +kernel)) ggX5_add_X7_put
theorem dX5_add_0 : decode cX5_add 0 = .ok (.aload_n 0, 1) := by decide +kernel
theorem dX5_add_1 : decode cX5_add 1 = .ok (.getfield 14, 3) := by decide +kernel
theorem dX5_add_4 : decode cX5_add 4 = .ok (.aload_n 0, 1) := by decide +kernel
theorem dX5_add_5 : decode cX5_add 5 = .ok (.getfield 20, 3) := by decide +kernel
theorem dX5_add_8 : decode cX5_add 8 = .ok (.iconst 0, 1) := by decide +kernel
theorem dX5_add_9 : decode cX5_add 9 = .ok (.iload_n 1, 1) := by decide +kernel
theorem dX5_add_10 : decode cX5_add 10 = .ok (.invokevirtual 32, 3) := by decide +kernel
theorem dX5_add_13 : decode cX5_add 13 = .ok (.aload_n 0, 1) := by decide +kernel
theorem dX5_add_14 : decode cX5_add 14 = .ok (.getfield 14, 3) := by decide +kernel
theorem dX5_add_17 : decode cX5_add 17 = .ok (.aload_n 0, 1) := by decide +kernel
theorem dX5_add_18 : decode cX5_add 18 = .ok (.getfield 20, 3) := by decide +kernel
theorem dX5_add_21 : decode cX5_add 21 = .ok (.iconst 1, 1) := by decide +kernel
theorem dX5_add_22 : decode cX5_add 22 = .ok (.iload_n 2, 1) := by decide +kernel
theorem dX5_add_23 : decode cX5_add 23 = .ok (.invokevirtual 32, 3) := by decide +kernel
theorem dX5_add_26 : decode cX5_add 26 = .ok (.aload_n 0, 1) := by decide +kernel
theorem dX5_add_27 : decode cX5_add 27 = .ok (.getfield 14, 3) := by decide +kernel
theorem dX5_add_30 : decode cX5_add 30 = .ok (.aload_n 0, 1) := by decide +kernel
theorem dX5_add_31 : decode cX5_add 31 = .ok (.getfield 20, 3) := by decide +kernel
theorem dX5_add_34 : decode cX5_add 34 = .ok (.iconst 2, 1) := by decide +kernel
theorem dX5_add_35 : decode cX5_add 35 = .ok (.iload_n 3, 1) := by decide +kernel
theorem dX5_add_36 : decode cX5_add 36 = .ok (.invokevirtual 32, 3) := by decide +kernel
theorem dX5_add_39 : decode cX5_add 39 = .ok (.aload_n 0, 1) := by decide +kernel
theorem dX5_add_40 : decode cX5_add 40 = .ok (.getfield 14, 3) := by decide +kernel
theorem dX5_add_43 : decode cX5_add 43 = .ok (.aload_n 0, 1) := by decide +kernel
theorem dX5_add_44 : decode cX5_add 44 = .ok (.getfield 20, 3) := by decide +kernel
theorem dX5_add_47 : decode cX5_add 47 = .ok (.iconst 3, 1) := by decide +kernel
theorem dX5_add_48 : decode cX5_add 48 = .ok (.iload 4, 2) := by decide +kernel
theorem dX5_add_50 : decode cX5_add 50 = .ok (.invokevirtual 32, 3) := by decide +kernel
theorem dX5_add_53 : decode cX5_add 53 = .ok (.aload_n 0, 1) := by decide +kernel
theorem dX5_add_54 : decode cX5_add 54 = .ok (.getfield 14, 3) := by decide +kernel
theorem dX5_add_57 : decode cX5_add 57 = .ok (.aload_n 0, 1) := by decide +kernel
theorem dX5_add_58 : decode cX5_add 58 = .ok (.getfield 20, 3) := by decide +kernel
theorem dX5_add_61 : decode cX5_add 61 = .ok (.iconst 4, 1) := by decide +kernel
theorem dX5_add_62 : decode cX5_add 62 = .ok (.iload 5, 2) := by decide +kernel
theorem dX5_add_64 : decode cX5_add 64 = .ok (.invokevirtual 32, 3) := by decide +kernel
theorem dX5_add_67 : decode cX5_add 67 = .ok (.aload_n 0, 1) := by decide +kernel
theorem dX5_add_68 : decode cX5_add 68 = .ok (.dup, 1) := by decide +kernel
theorem dX5_add_69 : decode cX5_add 69 = .ok (.getfield 20, 3) := by decide +kernel
theorem dX5_add_72 : decode cX5_add 72 = .ok (.iconst 1, 1) := by decide +kernel
theorem dX5_add_73 : decode cX5_add 73 = .ok (.iadd, 1) := by decide +kernel
theorem dX5_add_74 : decode cX5_add 74 = .ok (.putfield 20, 3) := by decide +kernel
theorem dX5_add_77 : decode cX5_add 77 = .ok (.return_, 1) := by decide +kernel
set_option maxRecDepth 20000 in
theorem ggX6_init_X7_init : GoodIn wsX6_init wsX7_init := goodIn_r _ [10, 11, 2, 3, 12, 13, 14, 15, 16, 17] (by decide +kernel) (by decide +kernel)
set_option maxRecDepth 20000 in
theorem gX6_init_X7_init : GoodIn wsX6_init (wsX7_init) := ggX6_init_X7_init
theorem dX6_init_0 : decode cX6_init 0 = .ok (.aload_n 0, 1) := by decide +kernel
theorem dX6_init_1 : decode cX6_init 1 = .ok (.invokespecial 3, 3) := by decide +kernel
theorem dX6_init_4 : decode cX6_init 4 = .ok (.aload_n 0, 1) := by decide +kernel
theorem dX6_init_5 : decode cX6_init 5 = .ok (.new 9, 3) := by decide +kernel
theorem dX6_init_8 : decode cX6_init 8 = .ok (.dup, 1) := by decide +kernel
theorem dX6_init_9 : decode cX6_init 9 = .ok (.bipush 7, 2) := by decide +kernel
theorem dX6_init_11 : decode cX6_init 11 = .ok (.sipush 200, 3) := by decide +kernel
theorem dX6_init_14 : decode cX6_init 14 = .ok (.invokespecial 13, 3) := by decide +kernel
theorem dX6_init_17 : decode cX6_init 17 = .ok (.putfield 16, 3) := by decide +kernel
theorem dX6_init_20 : decode cX6_init 20 = .ok (.return_, 1) := by decide +kernel
set_option maxRecDepth 20000 in
theorem ggX6_copyFrom_X6_kept : GoodIn wsX6_copyFrom wsX6_kept := goodIn_r _ [8, 2, 9, 10, 11, 12, 24, 25, 26] (by decide +kernel) (by decide +kernel)
set_option maxRecDepth 20000 in
theorem gX6_copyFrom_X6_kept : GoodIn wsX6_copyFrom (wsV RX6 20 RX6 yX6_kept wsX6_kept) := goodIn_app (goodIn_of _ (by decide +kernel)) ggX6_copyFrom_X6_kept
set_option maxRecDepth 20000 in
theorem ggX6_copyFrom_X7_copyFrom : GoodIn wsX6_copyFrom wsX7_copyFrom := goodIn_r _ [17, 18, 19, 20, 21, 22, 23, 27, 28] (by decide +kernel) (by decide +kernel)
set_option maxRecDepth 20000 in
theorem gX6_copyFrom_X7_copyFrom : GoodIn wsX6_copyFrom (wsV RX6 24 RX7 yX7_copyFrom wsX7_copyFrom) := goodIn_app (goodIn_of _ (by decide +kernel)) ggX6_copyFrom_X7_copyFrom
theorem dX6_copyFrom_0 : decode cX6_copyFrom 0 = .ok (.aload_n 0, 1) := by decide +kernel
theorem dX6_copyFrom_1 : decode cX6_copyFrom 1 = .ok (.getfield 16, 3) := by decide +kernel
theorem dX6_copyFrom_4 : decode cX6_copyFrom 4 = .ok (.aload_n 1, 1) := by decide +kernel
theorem dX6_copyFrom_5 : decode cX6_copyFrom 5 = .ok (.getfield 16, 3) := by decide +kernel
theorem dX6_copyFrom_8 : decode cX6_copyFrom 8 = .ok (.aload_n 1, 1) := by decide +kernel
theorem dX6_copyFrom_9 : decode cX6_copyFrom 9 = .ok (.invokevirtual 20, 3) := by decide +kernel
theorem dX6_copyFrom_12 : decode cX6_copyFrom 12 = .ok (.invokevirtual 24, 3) := by decide +kernel
theorem dX6_copyFrom_15 : decode cX6_copyFrom 15 = .ok (.aload_n 0, 1) := by decide +kernel
theorem dX6_copyFrom_16 : decode cX6_copyFrom 16 = .ok (.aload_n 1, 1) := by decide +kernel
theorem dX6_copyFrom_17 : decode cX6_copyFrom 17 = .ok (.getfield 28, 3) := by decide +kernel
theorem dX6_copyFrom_20 : decode cX6_copyFrom 20 = .ok (.putfield 28, 3) := by decide +kernel
theorem dX6_copyFrom_23 : decode cX6_copyFrom 23 = .ok (.aload_n 0, 1) := by decide +kernel
theorem dX6_copyFrom_24 : decode cX6_copyFrom 24 = .ok (.aload_n 1, 1) := by decide +kernel
theorem dX6_copyFrom_25 : decode cX6_copyFrom 25 = .ok (.getfield 32, 3) := by decide +kernel
theorem dX6_copyFrom_28 : decode cX6_copyFrom 28 = .ok (.putfield 32, 3) := by decide +kernel
theorem dX6_copyFrom_31 : decode cX6_copyFrom 31 = .ok (.return_, 1) := by decide +kernel
theorem dX6_cameOut_0 : decode cX6_cameOut 0 = .ok (.aload_n 0, 1) := by decide +kernel
theorem dX6_cameOut_1 : decode cX6_cameOut 1 = .ok (.getfield 28, 3) := by decide +kernel
theorem dX6_cameOut_4 : decode cX6_cameOut 4 = .ok (.ireturn, 1) := by decide +kernel
theorem dX6_pale_0 : decode cX6_pale 0 = .ok (.aload_n 0, 1) := by decide +kernel
theorem dX6_pale_1 : decode cX6_pale 1 = .ok (.getfield 32, 3) := by decide +kernel
theorem dX6_pale_4 : decode cX6_pale 4 = .ok (.ireturn, 1) := by decide +kernel
theorem dX6_kept_0 : decode cX6_kept 0 = .ok (.aload_n 0, 1) := by decide +kernel
theorem dX6_kept_1 : decode cX6_kept 1 = .ok (.getfield 28, 3) := by decide +kernel
theorem dX6_kept_4 : decode cX6_kept 4 = .ok (.sipush 200, 3) := by decide +kernel
theorem dX6_kept_7 : decode cX6_kept 7 = .ok (.invokestatic 35, 3) := by decide +kernel
theorem dX6_kept_10 : decode cX6_kept 10 = .ok (.ireturn, 1) := by decide +kernel
set_option maxRecDepth 20000 in
theorem ggX6_firstKept_X6_kept : GoodIn wsX6_firstKept wsX6_kept := goodIn_r _ [6, 1, 7, 8, 9, 10, 11, 12, 13] (by decide +kernel) (by decide +kernel)
set_option maxRecDepth 20000 in
theorem gX6_firstKept_X6_kept : GoodIn wsX6_firstKept (wsV RX6 20 RX6 yX6_kept wsX6_kept) := goodIn_app (goodIn_of _ (by decide +kernel)) ggX6_firstKept_X6_kept
theorem dX6_firstKept_0 : decode cX6_firstKept 0 = .ok (.aload_n 0, 1) := by decide +kernel
theorem dX6_firstKept_1 : decode cX6_firstKept 1 = .ok (.getfield 28, 3) := by decide +kernel
theorem dX6_firstKept_4 : decode cX6_firstKept 4 = .ok (.aload_n 0, 1) := by decide +kernel
theorem dX6_firstKept_5 : decode cX6_firstKept 5 = .ok (.invokevirtual 20, 3) := by decide +kernel
theorem dX6_firstKept_8 : decode cX6_firstKept 8 = .ok (.isub, 1) := by decide +kernel
theorem dX6_firstKept_9 : decode cX6_firstKept 9 = .ok (.ireturn, 1) := by decide +kernel
set_option maxRecDepth 20000 in
theorem ggX6_keeps_X6_firstKept : GoodIn wsX6_keeps wsX6_firstKept := goodIn_r _ [6, 1, 7, 8, 9, 5, 10, 11, 12, 13, 14, 15, 16, 17] (by decide +kernel) (by decide +kernel)
set_option maxRecDepth 20000 in
theorem gX6_keeps_X6_firstKept : GoodIn wsX6_keeps (wsV RX6 41 RX6 yX6_firstKept wsX6_firstKept) := goodIn_app (goodIn_of _ (by decide +kernel)) ggX6_keeps_X6_firstKept
theorem dX6_keeps_0 : decode cX6_keeps 0 = .ok (.iload_n 1, 1) := by decide +kernel
theorem dX6_keeps_1 : decode cX6_keeps 1 = .ok (.aload_n 0, 1) := by decide +kernel
theorem dX6_keeps_2 : decode cX6_keeps 2 = .ok (.invokevirtual 41, 3) := by decide +kernel
theorem dX6_keeps_5 : decode cX6_keeps 5 = .ok (.if_icmp .lt 15, 3) := by decide +kernel
theorem dX6_keeps_8 : decode cX6_keeps 8 = .ok (.iload_n 1, 1) := by decide +kernel
theorem dX6_keeps_9 : decode cX6_keeps 9 = .ok (.aload_n 0, 1) := by decide +kernel
theorem dX6_keeps_10 : decode cX6_keeps 10 = .ok (.getfield 28, 3) := by decide +kernel
theorem dX6_keeps_13 : decode cX6_keeps 13 = .ok (.if_icmp .ge 7, 3) := by decide +kernel
theorem dX6_keeps_16 : decode cX6_keeps 16 = .ok (.iconst 1, 1) := by decide +kernel
theorem dX6_keeps_17 : decode cX6_keeps 17 = .ok (.goto 4, 3) := by decide +kernel
theorem dX6_keeps_20 : decode cX6_keeps 20 = .ok (.iconst 0, 1) := by decide +kernel
theorem dX6_keeps_21 : decode cX6_keeps 21 = .ok (.ireturn, 1) := by decide +kernel
set_option maxRecDepth 20000 in
theorem ggX6_value_X7_get : GoodIn wsX6_value wsX7_get := goodIn_r _ [6, 7, 8, 12, 13] (by decide +kernel) (by decide +kernel)
set_option maxRecDepth 20000 in
theorem gX6_value_X7_get : GoodIn wsX6_value (wsV RX6 44 RX7 yX7_get wsX7_get) := goodIn_app (goodIn_of _ (by decide +kernel)) ggX6_value_X7_get
theorem dX6_value_0 : decode cX6_value 0 = .ok (.aload_n 0, 1) := by decide +kernel
theorem dX6_value_1 : decode cX6_value 1 = .ok (.getfield 16, 3) := by decide +kernel
theorem dX6_value_4 : decode cX6_value 4 = .ok (.iload_n 1, 1) := by decide +kernel
theorem dX6_value_5 : decode cX6_value 5 = .ok (.sipush 200, 3) := by decide +kernel
theorem dX6_value_8 : decode cX6_value 8 = .ok (.irem, 1) := by decide +kernel
theorem dX6_value_9 : decode cX6_value 9 = .ok (.iload_n 2, 1) := by decide +kernel
theorem dX6_value_10 : decode cX6_value 10 = .ok (.invokevirtual 44, 3) := by decide +kernel
theorem dX6_value_13 : decode cX6_value 13 = .ok (.ireturn, 1) := by decide +kernel
set_option maxRecDepth 20000 in
theorem ggX6_give_X7_put : GoodIn wsX6_give wsX7_put := goodIn_r _ [6, 7, 8, 12, 13] (by decide +kernel) (by decide +kernel)
set_option maxRecDepth 20000 in
theorem gX6_give_X7_put : GoodIn wsX6_give (wsV RX6 47 RX7 yX7_put wsX7_put) := goodIn_app (goodIn_of _ (by decide +kernel)) ggX6_give_X7_put
theorem dX6_give_0 : decode cX6_give 0 = .ok (.aload_n 0, 1) := by decide +kernel
theorem dX6_give_1 : decode cX6_give 1 = .ok (.getfield 16, 3) := by decide +kernel
theorem dX6_give_4 : decode cX6_give 4 = .ok (.iload_n 1, 1) := by decide +kernel
theorem dX6_give_5 : decode cX6_give 5 = .ok (.sipush 200, 3) := by decide +kernel
theorem dX6_give_8 : decode cX6_give 8 = .ok (.irem, 1) := by decide +kernel
theorem dX6_give_9 : decode cX6_give 9 = .ok (.iconst 5, 1) := by decide +kernel
theorem dX6_give_10 : decode cX6_give 10 = .ok (.iload_n 2, 1) := by decide +kernel
theorem dX6_give_11 : decode cX6_give 11 = .ok (.invokevirtual 47, 3) := by decide +kernel
theorem dX6_give_14 : decode cX6_give 14 = .ok (.return_, 1) := by decide +kernel
set_option maxRecDepth 20000 in
theorem ggX6_add_X7_put : GoodIn wsX6_add wsX7_put := goodIn_r _ [8, 9, 10, 21, 22] (by decide +kernel) (by decide +kernel)
set_option maxRecDepth 20000 in
theorem gX6_add_X7_put : GoodIn wsX6_add (wsV RX6 47 RX7 yX7_put wsX7_put) := goodIn_app (goodIn_of _ (by decide +kernel)) ggX6_add_X7_put
set_option maxRecDepth 20000 in
theorem ggX6_add_J6_bitCount_0f7a4 : GoodIn wsX6_add wsJ6_bitCount_0f7a4 := goodIn_r _ [14, 15, 16, 17] (by decide +kernel) (by decide +kernel)
set_option maxRecDepth 20000 in
theorem gX6_add_J6_bitCount_0f7a4 : GoodIn wsX6_add (va_wsS RX6 51 yJ6_bitCount_0f7a4 wsJ6_bitCount_0f7a4) := goodIn_app (goodIn_of _ (by decide +kernel)) ggX6_add_J6_bitCount_0f7a4
theorem dX6_add_0 : decode cX6_add 0 = .ok (.aload_n 0, 1) := by decide +kernel
theorem dX6_add_1 : decode cX6_add 1 = .ok (.getfield 28, 3) := by decide +kernel
theorem dX6_add_4 : decode cX6_add 4 = .ok (.sipush 200, 3) := by decide +kernel
theorem dX6_add_7 : decode cX6_add 7 = .ok (.irem, 1) := by decide +kernel
theorem dX6_add_8 : decode cX6_add 8 = .ok (.istore 7, 2) := by decide +kernel
theorem dX6_add_10 : decode cX6_add 10 = .ok (.aload_n 0, 1) := by decide +kernel
theorem dX6_add_11 : decode cX6_add 11 = .ok (.getfield 16, 3) := by decide +kernel
theorem dX6_add_14 : decode cX6_add 14 = .ok (.iload 7, 2) := by decide +kernel
theorem dX6_add_16 : decode cX6_add 16 = .ok (.iconst 0, 1) := by decide +kernel
theorem dX6_add_17 : decode cX6_add 17 = .ok (.iload_n 1, 1) := by decide +kernel
theorem dX6_add_18 : decode cX6_add 18 = .ok (.invokevirtual 47, 3) := by decide +kernel
theorem dX6_add_21 : decode cX6_add 21 = .ok (.aload_n 0, 1) := by decide +kernel
theorem dX6_add_22 : decode cX6_add 22 = .ok (.getfield 16, 3) := by decide +kernel
theorem dX6_add_25 : decode cX6_add 25 = .ok (.iload 7, 2) := by decide +kernel
theorem dX6_add_27 : decode cX6_add 27 = .ok (.iconst 1, 1) := by decide +kernel
theorem dX6_add_28 : decode cX6_add 28 = .ok (.iload_n 2, 1) := by decide +kernel
theorem dX6_add_29 : decode cX6_add 29 = .ok (.invokevirtual 47, 3) := by decide +kernel
theorem dX6_add_32 : decode cX6_add 32 = .ok (.aload_n 0, 1) := by decide +kernel
theorem dX6_add_33 : decode cX6_add 33 = .ok (.getfield 16, 3) := by decide +kernel
theorem dX6_add_36 : decode cX6_add 36 = .ok (.iload 7, 2) := by decide +kernel
theorem dX6_add_38 : decode cX6_add 38 = .ok (.iconst 2, 1) := by decide +kernel
theorem dX6_add_39 : decode cX6_add 39 = .ok (.iload_n 3, 1) := by decide +kernel
theorem dX6_add_40 : decode cX6_add 40 = .ok (.invokevirtual 47, 3) := by decide +kernel
theorem dX6_add_43 : decode cX6_add 43 = .ok (.aload_n 0, 1) := by decide +kernel
theorem dX6_add_44 : decode cX6_add 44 = .ok (.getfield 16, 3) := by decide +kernel
theorem dX6_add_47 : decode cX6_add 47 = .ok (.iload 7, 2) := by decide +kernel
theorem dX6_add_49 : decode cX6_add 49 = .ok (.iconst 3, 1) := by decide +kernel
theorem dX6_add_50 : decode cX6_add 50 = .ok (.iload 4, 2) := by decide +kernel
theorem dX6_add_52 : decode cX6_add 52 = .ok (.ifCond .eq 7, 3) := by decide +kernel
theorem dX6_add_55 : decode cX6_add 55 = .ok (.iconst 1, 1) := by decide +kernel
theorem dX6_add_56 : decode cX6_add 56 = .ok (.goto 4, 3) := by decide +kernel
theorem dX6_add_59 : decode cX6_add 59 = .ok (.iconst 0, 1) := by decide +kernel
theorem dX6_add_60 : decode cX6_add 60 = .ok (.invokevirtual 47, 3) := by decide +kernel
theorem dX6_add_63 : decode cX6_add 63 = .ok (.aload_n 0, 1) := by decide +kernel
theorem dX6_add_64 : decode cX6_add 64 = .ok (.getfield 16, 3) := by decide +kernel
theorem dX6_add_67 : decode cX6_add 67 = .ok (.iload 7, 2) := by decide +kernel
theorem dX6_add_69 : decode cX6_add 69 = .ok (.iconst 4, 1) := by decide +kernel
theorem dX6_add_70 : decode cX6_add 70 = .ok (.iload 6, 2) := by decide +kernel
theorem dX6_add_72 : decode cX6_add 72 = .ok (.invokevirtual 47, 3) := by decide +kernel
theorem dX6_add_75 : decode cX6_add 75 = .ok (.aload_n 0, 1) := by decide +kernel
theorem dX6_add_76 : decode cX6_add 76 = .ok (.getfield 16, 3) := by decide +kernel
theorem dX6_add_79 : decode cX6_add 79 = .ok (.iload 7, 2) := by decide +kernel
theorem dX6_add_81 : decode cX6_add 81 = .ok (.iconst 5, 1) := by decide +kernel
theorem dX6_add_82 : decode cX6_add 82 = .ok (.iconst (-1), 1) := by decide +kernel
theorem dX6_add_83 : decode cX6_add 83 = .ok (.invokevirtual 47, 3) := by decide +kernel
theorem dX6_add_86 : decode cX6_add 86 = .ok (.aload_n 0, 1) := by decide +kernel
theorem dX6_add_87 : decode cX6_add 87 = .ok (.getfield 16, 3) := by decide +kernel
theorem dX6_add_90 : decode cX6_add 90 = .ok (.iload 7, 2) := by decide +kernel
theorem dX6_add_92 : decode cX6_add 92 = .ok (.bipush 6, 2) := by decide +kernel
theorem dX6_add_94 : decode cX6_add 94 = .ok (.iload 5, 2) := by decide +kernel
theorem dX6_add_96 : decode cX6_add 96 = .ok (.iload 6, 2) := by decide +kernel
theorem dX6_add_98 : decode cX6_add 98 = .ok (.iconst (-1), 1) := by decide +kernel
theorem dX6_add_99 : decode cX6_add 99 = .ok (.ixor, 1) := by decide +kernel
theorem dX6_add_100 : decode cX6_add 100 = .ok (.iand, 1) := by decide +kernel
theorem dX6_add_101 : decode cX6_add 101 = .ok (.invokestatic 51, 3) := by decide +kernel
theorem dX6_add_104 : decode cX6_add 104 = .ok (.invokevirtual 47, 3) := by decide +kernel
theorem dX6_add_107 : decode cX6_add 107 = .ok (.aload_n 0, 1) := by decide +kernel
theorem dX6_add_108 : decode cX6_add 108 = .ok (.dup, 1) := by decide +kernel
theorem dX6_add_109 : decode cX6_add 109 = .ok (.getfield 28, 3) := by decide +kernel
theorem dX6_add_112 : decode cX6_add 112 = .ok (.iconst 1, 1) := by decide +kernel
theorem dX6_add_113 : decode cX6_add 113 = .ok (.iadd, 1) := by decide +kernel
theorem dX6_add_114 : decode cX6_add 114 = .ok (.putfield 28, 3) := by decide +kernel
theorem dX6_add_117 : decode cX6_add 117 = .ok (.iload 4, 2) := by decide +kernel
theorem dX6_add_119 : decode cX6_add 119 = .ok (.ifCond .eq 13, 3) := by decide +kernel
theorem dX6_add_122 : decode cX6_add 122 = .ok (.aload_n 0, 1) := by decide +kernel
theorem dX6_add_123 : decode cX6_add 123 = .ok (.dup, 1) := by decide +kernel
theorem dX6_add_124 : decode cX6_add 124 = .ok (.getfield 32, 3) := by decide +kernel
theorem dX6_add_127 : decode cX6_add 127 = .ok (.iconst 1, 1) := by decide +kernel
theorem dX6_add_128 : decode cX6_add 128 = .ok (.iadd, 1) := by decide +kernel
theorem dX6_add_129 : decode cX6_add 129 = .ok (.putfield 32, 3) := by decide +kernel
theorem dX6_add_132 : decode cX6_add 132 = .ok (.return_, 1) := by decide +kernel
set_option maxRecDepth 20000 in
theorem ggX6_sortFrom_X6_firstKept : GoodIn wsX6_sortFrom wsX6_firstKept := goodIn_r _ [10, 5, 11, 12, 13, 9, 14, 15, 16, 3, 17, 56, 57, 58] (by decide +kernel) (by decide +kernel)
set_option maxRecDepth 20000 in
theorem gX6_sortFrom_X6_firstKept : GoodIn wsX6_sortFrom (wsV RX6 41 RX6 yX6_firstKept wsX6_firstKept) := goodIn_app (goodIn_of _ (by decide +kernel)) ggX6_sortFrom_X6_firstKept
set_option maxRecDepth 20000 in
theorem ggX6_sortFrom_X6_value : GoodIn wsX6_sortFrom wsX6_value := goodIn_r _ [21, 22, 23, 24, 25, 26, 27, 28, 29, 56, 57, 58, 59, 60] (by decide +kernel) (by decide +kernel)
set_option maxRecDepth 20000 in
theorem gX6_sortFrom_X6_value : GoodIn wsX6_sortFrom (wsV RX6 60 RX6 yX6_value wsX6_value) := goodIn_app (goodIn_of _ (by decide +kernel)) ggX6_sortFrom_X6_value
set_option maxRecDepth 20000 in
theorem ggX6_sortFrom_X4_takerOf : GoodIn wsX6_sortFrom wsX4_takerOf := goodIn_r _ [34, 35, 36, 37, 24, 25, 26, 27, 28, 29, 38, 39, 40, 41, 42, 43, 44, 45, 46, 47, 61, 62, 59, 60] (by decide +kernel) (by decide +kernel)
set_option maxRecDepth 20000 in
theorem gX6_sortFrom_X4_takerOf : GoodIn wsX6_sortFrom (wsV RX6 63 RX4 yX4_takerOf wsX4_takerOf) := goodIn_app (goodIn_of _ (by decide +kernel)) ggX6_sortFrom_X4_takerOf
set_option maxRecDepth 20000 in
theorem ggX6_sortFrom_X6_give : GoodIn wsX6_sortFrom wsX6_give := goodIn_r _ [51, 22, 52, 53, 54, 26, 55, 28, 29, 56, 57, 58, 59, 60] (by decide +kernel) (by decide +kernel)
set_option maxRecDepth 20000 in
theorem gX6_sortFrom_X6_give : GoodIn wsX6_sortFrom (wsV RX6 68 RX6 yX6_give wsX6_give) := goodIn_app (goodIn_of _ (by decide +kernel)) ggX6_sortFrom_X6_give
theorem dX6_sortFrom_0 : decode cX6_sortFrom 0 = .ok (.iload_n 1, 1) := by decide +kernel
theorem dX6_sortFrom_1 : decode cX6_sortFrom 1 = .ok (.aload_n 0, 1) := by decide +kernel
theorem dX6_sortFrom_2 : decode cX6_sortFrom 2 = .ok (.invokevirtual 41, 3) := by decide +kernel
theorem dX6_sortFrom_5 : decode cX6_sortFrom 5 = .ok (.invokestatic 57, 3) := by decide +kernel
theorem dX6_sortFrom_8 : decode cX6_sortFrom 8 = .ok (.istore 4, 2) := by decide +kernel
theorem dX6_sortFrom_10 : decode cX6_sortFrom 10 = .ok (.iload 4, 2) := by decide +kernel
theorem dX6_sortFrom_12 : decode cX6_sortFrom 12 = .ok (.aload_n 0, 1) := by decide +kernel
theorem dX6_sortFrom_13 : decode cX6_sortFrom 13 = .ok (.getfield 28, 3) := by decide +kernel
theorem dX6_sortFrom_16 : decode cX6_sortFrom 16 = .ok (.if_icmp .ge 27, 3) := by decide +kernel
theorem dX6_sortFrom_19 : decode cX6_sortFrom 19 = .ok (.aload_n 0, 1) := by decide +kernel
theorem dX6_sortFrom_20 : decode cX6_sortFrom 20 = .ok (.iload 4, 2) := by decide +kernel
theorem dX6_sortFrom_22 : decode cX6_sortFrom 22 = .ok (.aload_n 2, 1) := by decide +kernel
theorem dX6_sortFrom_23 : decode cX6_sortFrom 23 = .ok (.aload_n 0, 1) := by decide +kernel
theorem dX6_sortFrom_24 : decode cX6_sortFrom 24 = .ok (.iload 4, 2) := by decide +kernel
theorem dX6_sortFrom_26 : decode cX6_sortFrom 26 = .ok (.iconst 4, 1) := by decide +kernel
theorem dX6_sortFrom_27 : decode cX6_sortFrom 27 = .ok (.invokevirtual 60, 3) := by decide +kernel
theorem dX6_sortFrom_30 : decode cX6_sortFrom 30 = .ok (.iload_n 3, 1) := by decide +kernel
theorem dX6_sortFrom_31 : decode cX6_sortFrom 31 = .ok (.invokevirtual 63, 3) := by decide +kernel
theorem dX6_sortFrom_34 : decode cX6_sortFrom 34 = .ok (.invokevirtual 68, 3) := by decide +kernel
theorem dX6_sortFrom_37 : decode cX6_sortFrom 37 = .ok (.iinc 4 1, 3) := by decide +kernel
theorem dX6_sortFrom_40 : decode cX6_sortFrom 40 = .ok (.goto (-30), 3) := by decide +kernel
theorem dX6_sortFrom_43 : decode cX6_sortFrom 43 = .ok (.return_, 1) := by decide +kernel
set_option maxRecDepth 20000 in
theorem ggX6_countWith_X6_kept : GoodIn wsX6_countWith wsX6_kept := goodIn_r _ [6, 7, 8, 9, 10, 11, 23, 24, 25] (by decide +kernel) (by decide +kernel)
set_option maxRecDepth 20000 in
theorem gX6_countWith_X6_kept : GoodIn wsX6_countWith (wsV RX6 20 RX6 yX6_kept wsX6_kept) := goodIn_app (goodIn_of _ (by decide +kernel)) ggX6_countWith_X6_kept
set_option maxRecDepth 20000 in
theorem ggX6_countWith_X7_count : GoodIn wsX6_countWith wsX7_count := goodIn_r _ [16, 17, 18, 19, 15, 20, 21, 22, 26, 27] (by decide +kernel) (by decide +kernel)
set_option maxRecDepth 20000 in
theorem gX6_countWith_X7_count : GoodIn wsX6_countWith (wsV RX6 71 RX7 yX7_count wsX7_count) := goodIn_app (goodIn_of _ (by decide +kernel)) ggX6_countWith_X7_count
theorem dX6_countWith_0 : decode cX6_countWith 0 = .ok (.aload_n 0, 1) := by decide +kernel
theorem dX6_countWith_1 : decode cX6_countWith 1 = .ok (.getfield 16, 3) := by decide +kernel
theorem dX6_countWith_4 : decode cX6_countWith 4 = .ok (.aload_n 0, 1) := by decide +kernel
theorem dX6_countWith_5 : decode cX6_countWith 5 = .ok (.invokevirtual 20, 3) := by decide +kernel
theorem dX6_countWith_8 : decode cX6_countWith 8 = .ok (.iload_n 1, 1) := by decide +kernel
theorem dX6_countWith_9 : decode cX6_countWith 9 = .ok (.iload_n 2, 1) := by decide +kernel
theorem dX6_countWith_10 : decode cX6_countWith 10 = .ok (.invokevirtual 71, 3) := by decide +kernel
theorem dX6_countWith_13 : decode cX6_countWith 13 = .ok (.ireturn, 1) := by decide +kernel
set_option maxRecDepth 20000 in
theorem ggX6_countWithBoth_X6_kept : GoodIn wsX6_countWithBoth wsX6_kept := goodIn_r _ [6, 7, 8, 9, 10, 11, 19, 20, 21] (by decide +kernel) (by decide +kernel)
set_option maxRecDepth 20000 in
theorem gX6_countWithBoth_X6_kept : GoodIn wsX6_countWithBoth (wsV RX6 20 RX6 yX6_kept wsX6_kept) := goodIn_app (goodIn_of _ (by decide +kernel)) ggX6_countWithBoth_X6_kept
set_option maxRecDepth 20000 in
theorem ggX6_countWithBoth_X7_countBoth : GoodIn wsX6_countWithBoth wsX7_countBoth := goodIn_r _ [16, 17, 18, 22, 23] (by decide +kernel) (by decide +kernel)
set_option maxRecDepth 20000 in
theorem gX6_countWithBoth_X7_countBoth : GoodIn wsX6_countWithBoth (wsV RX6 75 RX7 yX7_countBoth wsX7_countBoth) := goodIn_app (goodIn_of _ (by decide +kernel)) ggX6_countWithBoth_X7_countBoth
theorem dX6_countWithBoth_0 : decode cX6_countWithBoth 0 = .ok (.aload_n 0, 1) := by decide +kernel
theorem dX6_countWithBoth_1 : decode cX6_countWithBoth 1 = .ok (.getfield 16, 3) := by decide +kernel
theorem dX6_countWithBoth_4 : decode cX6_countWithBoth 4 = .ok (.aload_n 0, 1) := by decide +kernel
theorem dX6_countWithBoth_5 : decode cX6_countWithBoth 5 = .ok (.invokevirtual 20, 3) := by decide +kernel
theorem dX6_countWithBoth_8 : decode cX6_countWithBoth 8 = .ok (.iload_n 1, 1) := by decide +kernel
theorem dX6_countWithBoth_9 : decode cX6_countWithBoth 9 = .ok (.iload_n 2, 1) := by decide +kernel
theorem dX6_countWithBoth_10 : decode cX6_countWithBoth 10 = .ok (.iload_n 3, 1) := by decide +kernel
theorem dX6_countWithBoth_11 : decode cX6_countWithBoth 11 = .ok (.iload 4, 2) := by decide +kernel
theorem dX6_countWithBoth_13 : decode cX6_countWithBoth 13 = .ok (.invokevirtual 75, 3) := by decide +kernel
theorem dX6_countWithBoth_16 : decode cX6_countWithBoth 16 = .ok (.ireturn, 1) := by decide +kernel
set_option maxRecDepth 20000 in
theorem ggX6_countWithOthers_X6_kept : GoodIn wsX6_countWithOthers wsX6_kept := goodIn_r _ [6, 7, 8, 9, 10, 11, 19, 20, 21] (by decide +kernel) (by decide +kernel)
set_option maxRecDepth 20000 in
theorem gX6_countWithOthers_X6_kept : GoodIn wsX6_countWithOthers (wsV RX6 20 RX6 yX6_kept wsX6_kept) := goodIn_app (goodIn_of _ (by decide +kernel)) ggX6_countWithOthers_X6_kept
set_option maxRecDepth 20000 in
theorem ggX6_countWithOthers_X7_get : GoodIn wsX6_countWithOthers wsX7_get := goodIn_r _ [16, 17, 18, 22, 23] (by decide +kernel) (by decide +kernel)
set_option maxRecDepth 20000 in
theorem gX6_countWithOthers_X7_get : GoodIn wsX6_countWithOthers (wsV RX6 44 RX7 yX7_get wsX7_get) := goodIn_app (goodIn_of _ (by decide +kernel)) ggX6_countWithOthers_X7_get
theorem dX6_countWithOthers_0 : decode cX6_countWithOthers 0 = .ok (.iconst 0, 1) := by decide +kernel
theorem dX6_countWithOthers_1 : decode cX6_countWithOthers 1 = .ok (.istore_n 1, 1) := by decide +kernel
theorem dX6_countWithOthers_2 : decode cX6_countWithOthers 2 = .ok (.iconst 0, 1) := by decide +kernel
theorem dX6_countWithOthers_3 : decode cX6_countWithOthers 3 = .ok (.istore_n 2, 1) := by decide +kernel
theorem dX6_countWithOthers_4 : decode cX6_countWithOthers 4 = .ok (.iload_n 2, 1) := by decide +kernel
theorem dX6_countWithOthers_5 : decode cX6_countWithOthers 5 = .ok (.aload_n 0, 1) := by decide +kernel
theorem dX6_countWithOthers_6 : decode cX6_countWithOthers 6 = .ok (.invokevirtual 20, 3) := by decide +kernel
theorem dX6_countWithOthers_9 : decode cX6_countWithOthers 9 = .ok (.if_icmp .ge 46, 3) := by decide +kernel
theorem dX6_countWithOthers_12 : decode cX6_countWithOthers 12 = .ok (.aload_n 0, 1) := by decide +kernel
theorem dX6_countWithOthers_13 : decode cX6_countWithOthers 13 = .ok (.getfield 16, 3) := by decide +kernel
theorem dX6_countWithOthers_16 : decode cX6_countWithOthers 16 = .ok (.iload_n 2, 1) := by decide +kernel
theorem dX6_countWithOthers_17 : decode cX6_countWithOthers 17 = .ok (.iconst 5, 1) := by decide +kernel
theorem dX6_countWithOthers_18 : decode cX6_countWithOthers 18 = .ok (.invokevirtual 44, 3) := by decide +kernel
theorem dX6_countWithOthers_21 : decode cX6_countWithOthers 21 = .ok (.istore_n 3, 1) := by decide +kernel
theorem dX6_countWithOthers_22 : decode cX6_countWithOthers 22 = .ok (.iload_n 3, 1) := by decide +kernel
theorem dX6_countWithOthers_23 : decode cX6_countWithOthers 23 = .ok (.iconst (-1), 1) := by decide +kernel
theorem dX6_countWithOthers_24 : decode cX6_countWithOthers 24 = .ok (.if_icmp .eq 25, 3) := by decide +kernel
theorem dX6_countWithOthers_27 : decode cX6_countWithOthers 27 = .ok (.iload_n 3, 1) := by decide +kernel
theorem dX6_countWithOthers_28 : decode cX6_countWithOthers 28 = .ok (.bipush 8, 2) := by decide +kernel
theorem dX6_countWithOthers_30 : decode cX6_countWithOthers 30 = .ok (.if_icmp .eq 19, 3) := by decide +kernel
theorem dX6_countWithOthers_33 : decode cX6_countWithOthers 33 = .ok (.iload_n 3, 1) := by decide +kernel
theorem dX6_countWithOthers_34 : decode cX6_countWithOthers 34 = .ok (.aload_n 0, 1) := by decide +kernel
theorem dX6_countWithOthers_35 : decode cX6_countWithOthers 35 = .ok (.getfield 16, 3) := by decide +kernel
theorem dX6_countWithOthers_38 : decode cX6_countWithOthers 38 = .ok (.iload_n 2, 1) := by decide +kernel
theorem dX6_countWithOthers_39 : decode cX6_countWithOthers 39 = .ok (.iconst 0, 1) := by decide +kernel
theorem dX6_countWithOthers_40 : decode cX6_countWithOthers 40 = .ok (.invokevirtual 44, 3) := by decide +kernel
theorem dX6_countWithOthers_43 : decode cX6_countWithOthers 43 = .ok (.if_icmp .eq 6, 3) := by decide +kernel
theorem dX6_countWithOthers_46 : decode cX6_countWithOthers 46 = .ok (.iinc 1 1, 3) := by decide +kernel
theorem dX6_countWithOthers_49 : decode cX6_countWithOthers 49 = .ok (.iinc 2 1, 3) := by decide +kernel
theorem dX6_countWithOthers_52 : decode cX6_countWithOthers 52 = .ok (.goto (-48), 3) := by decide +kernel
theorem dX6_countWithOthers_55 : decode cX6_countWithOthers 55 = .ok (.iload_n 1, 1) := by decide +kernel
theorem dX6_countWithOthers_56 : decode cX6_countWithOthers 56 = .ok (.ireturn, 1) := by decide +kernel
set_option maxRecDepth 20000 in
theorem ggX6_balanceOf_X6_countWithBoth : GoodIn wsX6_balanceOf wsX6_countWithBoth := goodIn_r _ [5, 6, 7, 8, 9, 4, 10, 11, 12, 13, 14, 15, 16, 17, 18, 19, 20, 21, 22, 23, 24, 25, 26, 27] (by decide +kernel) (by decide +kernel)
set_option maxRecDepth 20000 in
theorem gX6_balanceOf_X6_countWithBoth : GoodIn wsX6_balanceOf (wsV RX6 79 RX6 yX6_countWithBoth wsX6_countWithBoth) := goodIn_app (goodIn_of _ (by decide +kernel)) ggX6_balanceOf_X6_countWithBoth
theorem dX6_balanceOf_0 : decode cX6_balanceOf 0 = .ok (.aload_n 0, 1) := by decide +kernel
theorem dX6_balanceOf_1 : decode cX6_balanceOf 1 = .ok (.iconst 1, 1) := by decide +kernel
theorem dX6_balanceOf_2 : decode cX6_balanceOf 2 = .ok (.iload_n 2, 1) := by decide +kernel
theorem dX6_balanceOf_3 : decode cX6_balanceOf 3 = .ok (.iconst 0, 1) := by decide +kernel
theorem dX6_balanceOf_4 : decode cX6_balanceOf 4 = .ok (.iload_n 1, 1) := by decide +kernel
theorem dX6_balanceOf_5 : decode cX6_balanceOf 5 = .ok (.invokevirtual 79, 3) := by decide +kernel
theorem dX6_balanceOf_8 : decode cX6_balanceOf 8 = .ok (.aload_n 0, 1) := by decide +kernel
theorem dX6_balanceOf_9 : decode cX6_balanceOf 9 = .ok (.iconst 1, 1) := by decide +kernel
theorem dX6_balanceOf_10 : decode cX6_balanceOf 10 = .ok (.iload_n 2, 1) := by decide +kernel
theorem dX6_balanceOf_11 : decode cX6_balanceOf 11 = .ok (.iconst 5, 1) := by decide +kernel
theorem dX6_balanceOf_12 : decode cX6_balanceOf 12 = .ok (.iload_n 1, 1) := by decide +kernel
theorem dX6_balanceOf_13 : decode cX6_balanceOf 13 = .ok (.invokevirtual 79, 3) := by decide +kernel
theorem dX6_balanceOf_16 : decode cX6_balanceOf 16 = .ok (.isub, 1) := by decide +kernel
theorem dX6_balanceOf_17 : decode cX6_balanceOf 17 = .ok (.ireturn, 1) := by decide +kernel
set_option maxRecDepth 20000 in
theorem ggX6_moveFromShelf_X6_balanceOf : GoodIn wsX6_moveFromShelf wsX6_balanceOf := goodIn_r _ [6, 7, 8, 9, 5, 10, 11, 12, 13, 14, 15, 1, 16, 17, 18, 19, 20, 21, 22, 23, 24, 25, 26, 50, 51, 52, 53, 54] (by decide +kernel) (by decide +kernel)
set_option maxRecDepth 20000 in
theorem gX6_moveFromShelf_X6_balanceOf : GoodIn wsX6_moveFromShelf (wsV RX6 83 RX6 yX6_balanceOf wsX6_balanceOf) := goodIn_app (goodIn_of _ (by decide +kernel)) ggX6_moveFromShelf_X6_balanceOf
set_option maxRecDepth 20000 in
theorem ggX6_moveFromShelf_X6_firstKept : GoodIn wsX6_moveFromShelf wsX6_firstKept := goodIn_r _ [30, 1, 12, 13, 14, 5, 15, 16, 17, 18, 19, 50, 51, 52] (by decide +kernel) (by decide +kernel)
set_option maxRecDepth 20000 in
theorem gX6_moveFromShelf_X6_firstKept : GoodIn wsX6_moveFromShelf (wsV RX6 41 RX6 yX6_firstKept wsX6_firstKept) := goodIn_app (goodIn_of _ (by decide +kernel)) ggX6_moveFromShelf_X6_firstKept
set_option maxRecDepth 20000 in
theorem ggX6_moveFromShelf_X6_value : GoodIn wsX6_moveFromShelf wsX6_value := goodIn_r _ [34, 11, 35, 36, 37, 23, 38, 26, 25, 50, 51, 52, 53, 54] (by decide +kernel) (by decide +kernel)
set_option maxRecDepth 20000 in
theorem gX6_moveFromShelf_X6_value : GoodIn wsX6_moveFromShelf (wsV RX6 60 RX6 yX6_value wsX6_value) := goodIn_app (goodIn_of _ (by decide +kernel)) ggX6_moveFromShelf_X6_value
set_option maxRecDepth 20000 in
theorem ggX6_moveFromShelf_X11_contains : GoodIn wsX6_moveFromShelf wsX11_contains := goodIn_r _ [41] (by decide +kernel) (by decide +kernel)
set_option maxRecDepth 20000 in
theorem gX6_moveFromShelf_X11_contains_n86 : GoodIn wsX6_moveFromShelf (wsX11_contains) := ggX6_moveFromShelf_X11_contains
set_option maxRecDepth 20000 in
theorem ggX6_moveFromShelf_X6_give : GoodIn wsX6_moveFromShelf wsX6_give := goodIn_r _ [45, 11, 46, 47, 48, 23, 49, 26, 25, 50, 51, 52, 53, 54] (by decide +kernel) (by decide +kernel)
set_option maxRecDepth 20000 in
theorem gX6_moveFromShelf_X6_give : GoodIn wsX6_moveFromShelf (wsV RX6 68 RX6 yX6_give wsX6_give) := goodIn_app (goodIn_of _ (by decide +kernel)) ggX6_moveFromShelf_X6_give
theorem dX6_moveFromShelf_0 : decode cX6_moveFromShelf 0 = .ok (.iconst 0, 1) := by decide +kernel
theorem dX6_moveFromShelf_1 : decode cX6_moveFromShelf 1 = .ok (.istore_n 3, 1) := by decide +kernel
theorem dX6_moveFromShelf_2 : decode cX6_moveFromShelf 2 = .ok (.iconst 0, 1) := by decide +kernel
theorem dX6_moveFromShelf_3 : decode cX6_moveFromShelf 3 = .ok (.istore 4, 2) := by decide +kernel
theorem dX6_moveFromShelf_5 : decode cX6_moveFromShelf 5 = .ok (.iload 4, 2) := by decide +kernel
theorem dX6_moveFromShelf_7 : decode cX6_moveFromShelf 7 = .ok (.iconst 3, 1) := by decide +kernel
theorem dX6_moveFromShelf_8 : decode cX6_moveFromShelf 8 = .ok (.if_icmp .ge 95, 3) := by decide +kernel
theorem dX6_moveFromShelf_11 : decode cX6_moveFromShelf 11 = .ok (.aload_n 0, 1) := by decide +kernel
theorem dX6_moveFromShelf_12 : decode cX6_moveFromShelf 12 = .ok (.iload_n 1, 1) := by decide +kernel
theorem dX6_moveFromShelf_13 : decode cX6_moveFromShelf 13 = .ok (.iload 4, 2) := by decide +kernel
theorem dX6_moveFromShelf_15 : decode cX6_moveFromShelf 15 = .ok (.invokevirtual 83, 3) := by decide +kernel
theorem dX6_moveFromShelf_18 : decode cX6_moveFromShelf 18 = .ok (.istore 5, 2) := by decide +kernel
theorem dX6_moveFromShelf_20 : decode cX6_moveFromShelf 20 = .ok (.aload_n 0, 1) := by decide +kernel
theorem dX6_moveFromShelf_21 : decode cX6_moveFromShelf 21 = .ok (.invokevirtual 41, 3) := by decide +kernel
theorem dX6_moveFromShelf_24 : decode cX6_moveFromShelf 24 = .ok (.istore 6, 2) := by decide +kernel
theorem dX6_moveFromShelf_26 : decode cX6_moveFromShelf 26 = .ok (.iload 6, 2) := by decide +kernel
theorem dX6_moveFromShelf_28 : decode cX6_moveFromShelf 28 = .ok (.aload_n 0, 1) := by decide +kernel
theorem dX6_moveFromShelf_29 : decode cX6_moveFromShelf 29 = .ok (.getfield 28, 3) := by decide +kernel
theorem dX6_moveFromShelf_32 : decode cX6_moveFromShelf 32 = .ok (.if_icmp .ge 65, 3) := by decide +kernel
theorem dX6_moveFromShelf_35 : decode cX6_moveFromShelf 35 = .ok (.iload 5, 2) := by decide +kernel
theorem dX6_moveFromShelf_37 : decode cX6_moveFromShelf 37 = .ok (.ifCond .le 60, 3) := by decide +kernel
theorem dX6_moveFromShelf_40 : decode cX6_moveFromShelf 40 = .ok (.aload_n 0, 1) := by decide +kernel
theorem dX6_moveFromShelf_41 : decode cX6_moveFromShelf 41 = .ok (.iload 6, 2) := by decide +kernel
theorem dX6_moveFromShelf_43 : decode cX6_moveFromShelf 43 = .ok (.iconst 1, 1) := by decide +kernel
theorem dX6_moveFromShelf_44 : decode cX6_moveFromShelf 44 = .ok (.invokevirtual 60, 3) := by decide +kernel
theorem dX6_moveFromShelf_47 : decode cX6_moveFromShelf 47 = .ok (.iload 4, 2) := by decide +kernel
theorem dX6_moveFromShelf_49 : decode cX6_moveFromShelf 49 = .ok (.if_icmp .ne 42, 3) := by decide +kernel
theorem dX6_moveFromShelf_52 : decode cX6_moveFromShelf 52 = .ok (.aload_n 0, 1) := by decide +kernel
theorem dX6_moveFromShelf_53 : decode cX6_moveFromShelf 53 = .ok (.iload 6, 2) := by decide +kernel
theorem dX6_moveFromShelf_55 : decode cX6_moveFromShelf 55 = .ok (.iconst 5, 1) := by decide +kernel
theorem dX6_moveFromShelf_56 : decode cX6_moveFromShelf 56 = .ok (.invokevirtual 60, 3) := by decide +kernel
theorem dX6_moveFromShelf_59 : decode cX6_moveFromShelf 59 = .ok (.bipush 8, 2) := by decide +kernel
theorem dX6_moveFromShelf_61 : decode cX6_moveFromShelf 61 = .ok (.if_icmp .ne 30, 3) := by decide +kernel
theorem dX6_moveFromShelf_64 : decode cX6_moveFromShelf 64 = .ok (.iload_n 2, 1) := by decide +kernel
theorem dX6_moveFromShelf_65 : decode cX6_moveFromShelf 65 = .ok (.aload_n 0, 1) := by decide +kernel
theorem dX6_moveFromShelf_66 : decode cX6_moveFromShelf 66 = .ok (.iload 6, 2) := by decide +kernel
theorem dX6_moveFromShelf_68 : decode cX6_moveFromShelf 68 = .ok (.iconst 4, 1) := by decide +kernel
theorem dX6_moveFromShelf_69 : decode cX6_moveFromShelf 69 = .ok (.invokevirtual 60, 3) := by decide +kernel
theorem dX6_moveFromShelf_72 : decode cX6_moveFromShelf 72 = .ok (.invokestatic 86, 3) := by decide +kernel
theorem dX6_moveFromShelf_75 : decode cX6_moveFromShelf 75 = .ok (.ifCond .eq 16, 3) := by decide +kernel
theorem dX6_moveFromShelf_78 : decode cX6_moveFromShelf 78 = .ok (.aload_n 0, 1) := by decide +kernel
theorem dX6_moveFromShelf_79 : decode cX6_moveFromShelf 79 = .ok (.iload 6, 2) := by decide +kernel
theorem dX6_moveFromShelf_81 : decode cX6_moveFromShelf 81 = .ok (.iload_n 1, 1) := by decide +kernel
theorem dX6_moveFromShelf_82 : decode cX6_moveFromShelf 82 = .ok (.invokevirtual 68, 3) := by decide +kernel
theorem dX6_moveFromShelf_85 : decode cX6_moveFromShelf 85 = .ok (.iinc 5 (-1), 3) := by decide +kernel
theorem dX6_moveFromShelf_88 : decode cX6_moveFromShelf 88 = .ok (.iinc 3 1, 3) := by decide +kernel
theorem dX6_moveFromShelf_91 : decode cX6_moveFromShelf 91 = .ok (.iinc 6 1, 3) := by decide +kernel
theorem dX6_moveFromShelf_94 : decode cX6_moveFromShelf 94 = .ok (.goto (-68), 3) := by decide +kernel
theorem dX6_moveFromShelf_97 : decode cX6_moveFromShelf 97 = .ok (.iinc 4 1, 3) := by decide +kernel
theorem dX6_moveFromShelf_100 : decode cX6_moveFromShelf 100 = .ok (.goto (-95), 3) := by decide +kernel
theorem dX6_moveFromShelf_103 : decode cX6_moveFromShelf 103 = .ok (.iload_n 3, 1) := by decide +kernel
theorem dX6_moveFromShelf_104 : decode cX6_moveFromShelf 104 = .ok (.ireturn, 1) := by decide +kernel
set_option maxRecDepth 20000 in
theorem ggX6_moveToShelf_X6_balanceOf : GoodIn wsX6_moveToShelf wsX6_balanceOf := goodIn_r _ [6, 7, 8, 9, 5, 10, 11, 12, 13, 14, 15, 1, 16, 17, 18, 19, 20, 21, 22, 23, 24, 25, 26, 47, 48, 49, 50, 51] (by decide +kernel) (by decide +kernel)
set_option maxRecDepth 20000 in
theorem gX6_moveToShelf_X6_balanceOf : GoodIn wsX6_moveToShelf (wsV RX6 83 RX6 yX6_balanceOf wsX6_balanceOf) := goodIn_app (goodIn_of _ (by decide +kernel)) ggX6_moveToShelf_X6_balanceOf
set_option maxRecDepth 20000 in
theorem ggX6_moveToShelf_X6_firstKept : GoodIn wsX6_moveToShelf wsX6_firstKept := goodIn_r _ [30, 1, 12, 13, 14, 5, 15, 16, 17, 18, 19, 47, 48, 49] (by decide +kernel) (by decide +kernel)
set_option maxRecDepth 20000 in
theorem gX6_moveToShelf_X6_firstKept : GoodIn wsX6_moveToShelf (wsV RX6 41 RX6 yX6_firstKept wsX6_firstKept) := goodIn_app (goodIn_of _ (by decide +kernel)) ggX6_moveToShelf_X6_firstKept
set_option maxRecDepth 20000 in
theorem ggX6_moveToShelf_X6_value : GoodIn wsX6_moveToShelf wsX6_value := goodIn_r _ [34, 11, 35, 36, 37, 23, 38, 26, 25, 47, 48, 49, 50, 51] (by decide +kernel) (by decide +kernel)
set_option maxRecDepth 20000 in
theorem gX6_moveToShelf_X6_value : GoodIn wsX6_moveToShelf (wsV RX6 60 RX6 yX6_value wsX6_value) := goodIn_app (goodIn_of _ (by decide +kernel)) ggX6_moveToShelf_X6_value
set_option maxRecDepth 20000 in
theorem ggX6_moveToShelf_X6_give : GoodIn wsX6_moveToShelf wsX6_give := goodIn_r _ [42, 11, 43, 44, 45, 23, 46, 26, 25, 47, 48, 49, 50, 51] (by decide +kernel) (by decide +kernel)
set_option maxRecDepth 20000 in
theorem gX6_moveToShelf_X6_give : GoodIn wsX6_moveToShelf (wsV RX6 68 RX6 yX6_give wsX6_give) := goodIn_app (goodIn_of _ (by decide +kernel)) ggX6_moveToShelf_X6_give
theorem dX6_moveToShelf_0 : decode cX6_moveToShelf 0 = .ok (.iconst 0, 1) := by decide +kernel
theorem dX6_moveToShelf_1 : decode cX6_moveToShelf 1 = .ok (.istore_n 2, 1) := by decide +kernel
theorem dX6_moveToShelf_2 : decode cX6_moveToShelf 2 = .ok (.iconst 0, 1) := by decide +kernel
theorem dX6_moveToShelf_3 : decode cX6_moveToShelf 3 = .ok (.istore_n 3, 1) := by decide +kernel
theorem dX6_moveToShelf_4 : decode cX6_moveToShelf 4 = .ok (.iload_n 3, 1) := by decide +kernel
theorem dX6_moveToShelf_5 : decode cX6_moveToShelf 5 = .ok (.iconst 3, 1) := by decide +kernel
theorem dX6_moveToShelf_6 : decode cX6_moveToShelf 6 = .ok (.if_icmp .ge 92, 3) := by decide +kernel
theorem dX6_moveToShelf_9 : decode cX6_moveToShelf 9 = .ok (.aload_n 0, 1) := by decide +kernel
theorem dX6_moveToShelf_10 : decode cX6_moveToShelf 10 = .ok (.iload_n 1, 1) := by decide +kernel
theorem dX6_moveToShelf_11 : decode cX6_moveToShelf 11 = .ok (.iload_n 3, 1) := by decide +kernel
theorem dX6_moveToShelf_12 : decode cX6_moveToShelf 12 = .ok (.invokevirtual 83, 3) := by decide +kernel
theorem dX6_moveToShelf_15 : decode cX6_moveToShelf 15 = .ok (.istore 4, 2) := by decide +kernel
theorem dX6_moveToShelf_17 : decode cX6_moveToShelf 17 = .ok (.aload_n 0, 1) := by decide +kernel
theorem dX6_moveToShelf_18 : decode cX6_moveToShelf 18 = .ok (.getfield 28, 3) := by decide +kernel
theorem dX6_moveToShelf_21 : decode cX6_moveToShelf 21 = .ok (.iconst 1, 1) := by decide +kernel
theorem dX6_moveToShelf_22 : decode cX6_moveToShelf 22 = .ok (.isub, 1) := by decide +kernel
theorem dX6_moveToShelf_23 : decode cX6_moveToShelf 23 = .ok (.istore 5, 2) := by decide +kernel
theorem dX6_moveToShelf_25 : decode cX6_moveToShelf 25 = .ok (.iload 5, 2) := by decide +kernel
theorem dX6_moveToShelf_27 : decode cX6_moveToShelf 27 = .ok (.aload_n 0, 1) := by decide +kernel
theorem dX6_moveToShelf_28 : decode cX6_moveToShelf 28 = .ok (.invokevirtual 41, 3) := by decide +kernel
theorem dX6_moveToShelf_31 : decode cX6_moveToShelf 31 = .ok (.if_icmp .lt 61, 3) := by decide +kernel
theorem dX6_moveToShelf_34 : decode cX6_moveToShelf 34 = .ok (.iload 4, 2) := by decide +kernel
theorem dX6_moveToShelf_36 : decode cX6_moveToShelf 36 = .ok (.ifCond .ge 56, 3) := by decide +kernel
theorem dX6_moveToShelf_39 : decode cX6_moveToShelf 39 = .ok (.aload_n 0, 1) := by decide +kernel
theorem dX6_moveToShelf_40 : decode cX6_moveToShelf 40 = .ok (.iload 5, 2) := by decide +kernel
theorem dX6_moveToShelf_42 : decode cX6_moveToShelf 42 = .ok (.iconst 1, 1) := by decide +kernel
theorem dX6_moveToShelf_43 : decode cX6_moveToShelf 43 = .ok (.invokevirtual 60, 3) := by decide +kernel
theorem dX6_moveToShelf_46 : decode cX6_moveToShelf 46 = .ok (.iload_n 3, 1) := by decide +kernel
theorem dX6_moveToShelf_47 : decode cX6_moveToShelf 47 = .ok (.if_icmp .ne 39, 3) := by decide +kernel
theorem dX6_moveToShelf_50 : decode cX6_moveToShelf 50 = .ok (.aload_n 0, 1) := by decide +kernel
theorem dX6_moveToShelf_51 : decode cX6_moveToShelf 51 = .ok (.iload 5, 2) := by decide +kernel
theorem dX6_moveToShelf_53 : decode cX6_moveToShelf 53 = .ok (.iconst 5, 1) := by decide +kernel
theorem dX6_moveToShelf_54 : decode cX6_moveToShelf 54 = .ok (.invokevirtual 60, 3) := by decide +kernel
theorem dX6_moveToShelf_57 : decode cX6_moveToShelf 57 = .ok (.iload_n 1, 1) := by decide +kernel
theorem dX6_moveToShelf_58 : decode cX6_moveToShelf 58 = .ok (.if_icmp .ne 28, 3) := by decide +kernel
theorem dX6_moveToShelf_61 : decode cX6_moveToShelf 61 = .ok (.aload_n 0, 1) := by decide +kernel
theorem dX6_moveToShelf_62 : decode cX6_moveToShelf 62 = .ok (.iload 5, 2) := by decide +kernel
theorem dX6_moveToShelf_64 : decode cX6_moveToShelf 64 = .ok (.iconst 0, 1) := by decide +kernel
theorem dX6_moveToShelf_65 : decode cX6_moveToShelf 65 = .ok (.invokevirtual 60, 3) := by decide +kernel
theorem dX6_moveToShelf_68 : decode cX6_moveToShelf 68 = .ok (.iload_n 1, 1) := by decide +kernel
theorem dX6_moveToShelf_69 : decode cX6_moveToShelf 69 = .ok (.if_icmp .eq 17, 3) := by decide +kernel
theorem dX6_moveToShelf_72 : decode cX6_moveToShelf 72 = .ok (.aload_n 0, 1) := by decide +kernel
theorem dX6_moveToShelf_73 : decode cX6_moveToShelf 73 = .ok (.iload 5, 2) := by decide +kernel
theorem dX6_moveToShelf_75 : decode cX6_moveToShelf 75 = .ok (.bipush 8, 2) := by decide +kernel
theorem dX6_moveToShelf_77 : decode cX6_moveToShelf 77 = .ok (.invokevirtual 68, 3) := by decide +kernel
theorem dX6_moveToShelf_80 : decode cX6_moveToShelf 80 = .ok (.iinc 4 1, 3) := by decide +kernel
theorem dX6_moveToShelf_83 : decode cX6_moveToShelf 83 = .ok (.iinc 2 1, 3) := by decide +kernel
theorem dX6_moveToShelf_86 : decode cX6_moveToShelf 86 = .ok (.iinc 5 (-1), 3) := by decide +kernel
theorem dX6_moveToShelf_89 : decode cX6_moveToShelf 89 = .ok (.goto (-64), 3) := by decide +kernel
theorem dX6_moveToShelf_92 : decode cX6_moveToShelf 92 = .ok (.iinc 3 1, 3) := by decide +kernel
theorem dX6_moveToShelf_95 : decode cX6_moveToShelf 95 = .ok (.goto (-91), 3) := by decide +kernel
theorem dX6_moveToShelf_98 : decode cX6_moveToShelf 98 = .ok (.iload_n 2, 1) := by decide +kernel
theorem dX6_moveToShelf_99 : decode cX6_moveToShelf 99 = .ok (.ireturn, 1) := by decide +kernel
set_option maxRecDepth 20000 in
theorem ggX6_emptyShelf_X6_kept : GoodIn wsX6_emptyShelf wsX6_kept := goodIn_r _ [6, 7, 8, 9, 10, 11, 23, 24, 25] (by decide +kernel) (by decide +kernel)
set_option maxRecDepth 20000 in
theorem gX6_emptyShelf_X6_kept : GoodIn wsX6_emptyShelf (wsV RX6 20 RX6 yX6_kept wsX6_kept) := goodIn_app (goodIn_of _ (by decide +kernel)) ggX6_emptyShelf_X6_kept
set_option maxRecDepth 20000 in
theorem ggX6_emptyShelf_X7_get : GoodIn wsX6_emptyShelf wsX7_get := goodIn_r _ [16, 17, 18, 26, 27] (by decide +kernel) (by decide +kernel)
set_option maxRecDepth 20000 in
theorem gX6_emptyShelf_X7_get : GoodIn wsX6_emptyShelf (wsV RX6 44 RX7 yX7_get wsX7_get) := goodIn_app (goodIn_of _ (by decide +kernel)) ggX6_emptyShelf_X7_get
set_option maxRecDepth 20000 in
theorem ggX6_emptyShelf_X7_put : GoodIn wsX6_emptyShelf wsX7_put := goodIn_r _ [22, 17, 18, 26, 27] (by decide +kernel) (by decide +kernel)
set_option maxRecDepth 20000 in
theorem gX6_emptyShelf_X7_put : GoodIn wsX6_emptyShelf (wsV RX6 47 RX7 yX7_put wsX7_put) := goodIn_app (goodIn_of _ (by decide +kernel)) ggX6_emptyShelf_X7_put
theorem dX6_emptyShelf_0 : decode cX6_emptyShelf 0 = .ok (.iconst 0, 1) := by decide +kernel
theorem dX6_emptyShelf_1 : decode cX6_emptyShelf 1 = .ok (.istore_n 1, 1) := by decide +kernel
theorem dX6_emptyShelf_2 : decode cX6_emptyShelf 2 = .ok (.iconst 0, 1) := by decide +kernel
theorem dX6_emptyShelf_3 : decode cX6_emptyShelf 3 = .ok (.istore_n 2, 1) := by decide +kernel
theorem dX6_emptyShelf_4 : decode cX6_emptyShelf 4 = .ok (.iload_n 2, 1) := by decide +kernel
theorem dX6_emptyShelf_5 : decode cX6_emptyShelf 5 = .ok (.aload_n 0, 1) := by decide +kernel
theorem dX6_emptyShelf_6 : decode cX6_emptyShelf 6 = .ok (.invokevirtual 20, 3) := by decide +kernel
theorem dX6_emptyShelf_9 : decode cX6_emptyShelf 9 = .ok (.if_icmp .ge 36, 3) := by decide +kernel
theorem dX6_emptyShelf_12 : decode cX6_emptyShelf 12 = .ok (.aload_n 0, 1) := by decide +kernel
theorem dX6_emptyShelf_13 : decode cX6_emptyShelf 13 = .ok (.getfield 16, 3) := by decide +kernel
theorem dX6_emptyShelf_16 : decode cX6_emptyShelf 16 = .ok (.iload_n 2, 1) := by decide +kernel
theorem dX6_emptyShelf_17 : decode cX6_emptyShelf 17 = .ok (.iconst 5, 1) := by decide +kernel
theorem dX6_emptyShelf_18 : decode cX6_emptyShelf 18 = .ok (.invokevirtual 44, 3) := by decide +kernel
theorem dX6_emptyShelf_21 : decode cX6_emptyShelf 21 = .ok (.bipush 8, 2) := by decide +kernel
theorem dX6_emptyShelf_23 : decode cX6_emptyShelf 23 = .ok (.if_icmp .ne 16, 3) := by decide +kernel
theorem dX6_emptyShelf_26 : decode cX6_emptyShelf 26 = .ok (.aload_n 0, 1) := by decide +kernel
theorem dX6_emptyShelf_27 : decode cX6_emptyShelf 27 = .ok (.getfield 16, 3) := by decide +kernel
theorem dX6_emptyShelf_30 : decode cX6_emptyShelf 30 = .ok (.iload_n 2, 1) := by decide +kernel
theorem dX6_emptyShelf_31 : decode cX6_emptyShelf 31 = .ok (.iconst 5, 1) := by decide +kernel
theorem dX6_emptyShelf_32 : decode cX6_emptyShelf 32 = .ok (.iconst (-1), 1) := by decide +kernel
theorem dX6_emptyShelf_33 : decode cX6_emptyShelf 33 = .ok (.invokevirtual 47, 3) := by decide +kernel
theorem dX6_emptyShelf_36 : decode cX6_emptyShelf 36 = .ok (.iinc 1 1, 3) := by decide +kernel
theorem dX6_emptyShelf_39 : decode cX6_emptyShelf 39 = .ok (.iinc 2 1, 3) := by decide +kernel
theorem dX6_emptyShelf_42 : decode cX6_emptyShelf 42 = .ok (.goto (-38), 3) := by decide +kernel
theorem dX6_emptyShelf_45 : decode cX6_emptyShelf 45 = .ok (.iload_n 1, 1) := by decide +kernel
theorem dX6_emptyShelf_46 : decode cX6_emptyShelf 46 = .ok (.ireturn, 1) := by decide +kernel
theorem dX7_init_0 : decode cX7_init 0 = .ok (.aload_n 0, 1) := by decide +kernel
theorem dX7_init_1 : decode cX7_init 1 = .ok (.invokespecial 1, 3) := by decide +kernel
theorem dX7_init_4 : decode cX7_init 4 = .ok (.aload_n 0, 1) := by decide +kernel
theorem dX7_init_5 : decode cX7_init 5 = .ok (.iload_n 1, 1) := by decide +kernel
theorem dX7_init_6 : decode cX7_init 6 = .ok (.iload_n 2, 1) := by decide +kernel
theorem dX7_init_7 : decode cX7_init 7 = .ok (.multianewarray 7 2, 4) := by decide +kernel
theorem dX7_init_11 : decode cX7_init 11 = .ok (.putfield 9, 3) := by decide +kernel
theorem dX7_init_14 : decode cX7_init 14 = .ok (.aload_n 0, 1) := by decide +kernel
theorem dX7_init_15 : decode cX7_init 15 = .ok (.iload_n 2, 1) := by decide +kernel
theorem dX7_init_16 : decode cX7_init 16 = .ok (.putfield 14, 3) := by decide +kernel
theorem dX7_init_19 : decode cX7_init 19 = .ok (.return_, 1) := by decide +kernel
theorem dX7_get_0 : decode cX7_get 0 = .ok (.iload_n 1, 1) := by decide +kernel
theorem dX7_get_1 : decode cX7_get 1 = .ok (.ifCond .lt 24, 3) := by decide +kernel
theorem dX7_get_4 : decode cX7_get 4 = .ok (.iload_n 1, 1) := by decide +kernel
theorem dX7_get_5 : decode cX7_get 5 = .ok (.aload_n 0, 1) := by decide +kernel
theorem dX7_get_6 : decode cX7_get 6 = .ok (.getfield 14, 3) := by decide +kernel
theorem dX7_get_9 : decode cX7_get 9 = .ok (.if_icmp .ge 16, 3) := by decide +kernel
theorem dX7_get_12 : decode cX7_get 12 = .ok (.iload_n 2, 1) := by decide +kernel
theorem dX7_get_13 : decode cX7_get 13 = .ok (.ifCond .lt 12, 3) := by decide +kernel
theorem dX7_get_16 : decode cX7_get 16 = .ok (.iload_n 2, 1) := by decide +kernel
theorem dX7_get_17 : decode cX7_get 17 = .ok (.aload_n 0, 1) := by decide +kernel
theorem dX7_get_18 : decode cX7_get 18 = .ok (.getfield 9, 3) := by decide +kernel
theorem dX7_get_21 : decode cX7_get 21 = .ok (.arraylength, 1) := by decide +kernel
theorem dX7_get_22 : decode cX7_get 22 = .ok (.if_icmp .lt 5, 3) := by decide +kernel
theorem dX7_get_25 : decode cX7_get 25 = .ok (.iconst 0, 1) := by decide +kernel
theorem dX7_get_26 : decode cX7_get 26 = .ok (.ireturn, 1) := by decide +kernel
theorem dX7_get_27 : decode cX7_get 27 = .ok (.aload_n 0, 1) := by decide +kernel
theorem dX7_get_28 : decode cX7_get 28 = .ok (.getfield 9, 3) := by decide +kernel
theorem dX7_get_31 : decode cX7_get 31 = .ok (.iload_n 2, 1) := by decide +kernel
theorem dX7_get_32 : decode cX7_get 32 = .ok (.aaload, 1) := by decide +kernel
theorem dX7_get_33 : decode cX7_get 33 = .ok (.iload_n 1, 1) := by decide +kernel
theorem dX7_get_34 : decode cX7_get 34 = .ok (.iaload, 1) := by decide +kernel
theorem dX7_get_35 : decode cX7_get 35 = .ok (.ireturn, 1) := by decide +kernel
theorem dX7_put_0 : decode cX7_put 0 = .ok (.iload_n 1, 1) := by decide +kernel
theorem dX7_put_1 : decode cX7_put 1 = .ok (.ifCond .lt 33, 3) := by decide +kernel
theorem dX7_put_4 : decode cX7_put 4 = .ok (.iload_n 1, 1) := by decide +kernel
theorem dX7_put_5 : decode cX7_put 5 = .ok (.aload_n 0, 1) := by decide +kernel
theorem dX7_put_6 : decode cX7_put 6 = .ok (.getfield 14, 3) := by decide +kernel
theorem dX7_put_9 : decode cX7_put 9 = .ok (.if_icmp .ge 25, 3) := by decide +kernel
theorem dX7_put_12 : decode cX7_put 12 = .ok (.iload_n 2, 1) := by decide +kernel
theorem dX7_put_13 : decode cX7_put 13 = .ok (.ifCond .lt 21, 3) := by decide +kernel
theorem dX7_put_16 : decode cX7_put 16 = .ok (.iload_n 2, 1) := by decide +kernel
theorem dX7_put_17 : decode cX7_put 17 = .ok (.aload_n 0, 1) := by decide +kernel
theorem dX7_put_18 : decode cX7_put 18 = .ok (.getfield 9, 3) := by decide +kernel
theorem dX7_put_21 : decode cX7_put 21 = .ok (.arraylength, 1) := by decide +kernel
theorem dX7_put_22 : decode cX7_put 22 = .ok (.if_icmp .ge 12, 3) := by decide +kernel
theorem dX7_put_25 : decode cX7_put 25 = .ok (.aload_n 0, 1) := by decide +kernel
theorem dX7_put_26 : decode cX7_put 26 = .ok (.getfield 9, 3) := by decide +kernel
theorem dX7_put_29 : decode cX7_put 29 = .ok (.iload_n 2, 1) := by decide +kernel
theorem dX7_put_30 : decode cX7_put 30 = .ok (.aaload, 1) := by decide +kernel
theorem dX7_put_31 : decode cX7_put 31 = .ok (.iload_n 1, 1) := by decide +kernel
theorem dX7_put_32 : decode cX7_put 32 = .ok (.iload_n 3, 1) := by decide +kernel
theorem dX7_put_33 : decode cX7_put 33 = .ok (.iastore, 1) := by decide +kernel
theorem dX7_put_34 : decode cX7_put 34 = .ok (.return_, 1) := by decide +kernel
set_option maxRecDepth 20000 in
theorem ggX7_count_X7_countBoth : GoodIn wsX7_count wsX7_countBoth := goodIn_r _ [5, 6, 7, 8, 9] (by decide +kernel) (by decide +kernel)
set_option maxRecDepth 20000 in
theorem gX7_count_X7_countBoth : GoodIn wsX7_count (wsV RX7 18 RX7 yX7_countBoth wsX7_countBoth) := goodIn_app (goodIn_of _ (by decide +kernel)) ggX7_count_X7_countBoth
theorem dX7_count_0 : decode cX7_count 0 = .ok (.aload_n 0, 1) := by decide +kernel
theorem dX7_count_1 : decode cX7_count 1 = .ok (.iload_n 1, 1) := by decide +kernel
theorem dX7_count_2 : decode cX7_count 2 = .ok (.iload_n 2, 1) := by decide +kernel
theorem dX7_count_3 : decode cX7_count 3 = .ok (.iload_n 3, 1) := by decide +kernel
theorem dX7_count_4 : decode cX7_count 4 = .ok (.iload_n 2, 1) := by decide +kernel
theorem dX7_count_5 : decode cX7_count 5 = .ok (.iload_n 3, 1) := by decide +kernel
theorem dX7_count_6 : decode cX7_count 6 = .ok (.invokevirtual 18, 3) := by decide +kernel
theorem dX7_count_9 : decode cX7_count 9 = .ok (.ireturn, 1) := by decide +kernel
theorem dX7_countBoth_0 : decode cX7_countBoth 0 = .ok (.iload_n 2, 1) := by decide +kernel
theorem dX7_countBoth_1 : decode cX7_countBoth 1 = .ok (.ifCond .lt 27, 3) := by decide +kernel
theorem dX7_countBoth_4 : decode cX7_countBoth 4 = .ok (.iload_n 2, 1) := by decide +kernel
theorem dX7_countBoth_5 : decode cX7_countBoth 5 = .ok (.aload_n 0, 1) := by decide +kernel
theorem dX7_countBoth_6 : decode cX7_countBoth 6 = .ok (.getfield 9, 3) := by decide +kernel
theorem dX7_countBoth_9 : decode cX7_countBoth 9 = .ok (.arraylength, 1) := by decide +kernel
theorem dX7_countBoth_10 : decode cX7_countBoth 10 = .ok (.if_icmp .ge 18, 3) := by decide +kernel
theorem dX7_countBoth_13 : decode cX7_countBoth 13 = .ok (.iload 4, 2) := by decide +kernel
theorem dX7_countBoth_15 : decode cX7_countBoth 15 = .ok (.ifCond .lt 13, 3) := by decide +kernel
theorem dX7_countBoth_18 : decode cX7_countBoth 18 = .ok (.iload 4, 2) := by decide +kernel
theorem dX7_countBoth_20 : decode cX7_countBoth 20 = .ok (.aload_n 0, 1) := by decide +kernel
theorem dX7_countBoth_21 : decode cX7_countBoth 21 = .ok (.getfield 9, 3) := by decide +kernel
theorem dX7_countBoth_24 : decode cX7_countBoth 24 = .ok (.arraylength, 1) := by decide +kernel
theorem dX7_countBoth_25 : decode cX7_countBoth 25 = .ok (.if_icmp .lt 5, 3) := by decide +kernel
theorem dX7_countBoth_28 : decode cX7_countBoth 28 = .ok (.iconst 0, 1) := by decide +kernel
theorem dX7_countBoth_29 : decode cX7_countBoth 29 = .ok (.ireturn, 1) := by decide +kernel
theorem dX7_countBoth_30 : decode cX7_countBoth 30 = .ok (.aload_n 0, 1) := by decide +kernel
theorem dX7_countBoth_31 : decode cX7_countBoth 31 = .ok (.getfield 9, 3) := by decide +kernel
theorem dX7_countBoth_34 : decode cX7_countBoth 34 = .ok (.iload_n 2, 1) := by decide +kernel
theorem dX7_countBoth_35 : decode cX7_countBoth 35 = .ok (.aaload, 1) := by decide +kernel
theorem dX7_countBoth_36 : decode cX7_countBoth 36 = .ok (.astore 6, 2) := by decide +kernel
theorem dX7_countBoth_38 : decode cX7_countBoth 38 = .ok (.aload_n 0, 1) := by decide +kernel
theorem dX7_countBoth_39 : decode cX7_countBoth 39 = .ok (.getfield 9, 3) := by decide +kernel
theorem dX7_countBoth_42 : decode cX7_countBoth 42 = .ok (.iload 4, 2) := by decide +kernel
theorem dX7_countBoth_44 : decode cX7_countBoth 44 = .ok (.aaload, 1) := by decide +kernel
theorem dX7_countBoth_45 : decode cX7_countBoth 45 = .ok (.astore 7, 2) := by decide +kernel
theorem dX7_countBoth_47 : decode cX7_countBoth 47 = .ok (.iconst 0, 1) := by decide +kernel
theorem dX7_countBoth_48 : decode cX7_countBoth 48 = .ok (.istore 8, 2) := by decide +kernel
theorem dX7_countBoth_50 : decode cX7_countBoth 50 = .ok (.iconst 0, 1) := by decide +kernel
theorem dX7_countBoth_51 : decode cX7_countBoth 51 = .ok (.istore 9, 2) := by decide +kernel
theorem dX7_countBoth_53 : decode cX7_countBoth 53 = .ok (.iload 9, 2) := by decide +kernel
theorem dX7_countBoth_55 : decode cX7_countBoth 55 = .ok (.iload_n 1, 1) := by decide +kernel
theorem dX7_countBoth_56 : decode cX7_countBoth 56 = .ok (.if_icmp .ge 40, 3) := by decide +kernel
theorem dX7_countBoth_59 : decode cX7_countBoth 59 = .ok (.iload 9, 2) := by decide +kernel
theorem dX7_countBoth_61 : decode cX7_countBoth 61 = .ok (.aload_n 0, 1) := by decide +kernel
theorem dX7_countBoth_62 : decode cX7_countBoth 62 = .ok (.getfield 14, 3) := by decide +kernel
theorem dX7_countBoth_65 : decode cX7_countBoth 65 = .ok (.if_icmp .ge 31, 3) := by decide +kernel
theorem dX7_countBoth_68 : decode cX7_countBoth 68 = .ok (.aload 6, 2) := by decide +kernel
theorem dX7_countBoth_70 : decode cX7_countBoth 70 = .ok (.iload 9, 2) := by decide +kernel
theorem dX7_countBoth_72 : decode cX7_countBoth 72 = .ok (.iaload, 1) := by decide +kernel
theorem dX7_countBoth_73 : decode cX7_countBoth 73 = .ok (.iload_n 3, 1) := by decide +kernel
theorem dX7_countBoth_74 : decode cX7_countBoth 74 = .ok (.if_icmp .ne 16, 3) := by decide +kernel
theorem dX7_countBoth_77 : decode cX7_countBoth 77 = .ok (.aload 7, 2) := by decide +kernel
theorem dX7_countBoth_79 : decode cX7_countBoth 79 = .ok (.iload 9, 2) := by decide +kernel
theorem dX7_countBoth_81 : decode cX7_countBoth 81 = .ok (.iaload, 1) := by decide +kernel
theorem dX7_countBoth_82 : decode cX7_countBoth 82 = .ok (.iload 5, 2) := by decide +kernel
theorem dX7_countBoth_84 : decode cX7_countBoth 84 = .ok (.if_icmp .ne 6, 3) := by decide +kernel
theorem dX7_countBoth_87 : decode cX7_countBoth 87 = .ok (.iinc 8 1, 3) := by decide +kernel
theorem dX7_countBoth_90 : decode cX7_countBoth 90 = .ok (.iinc 9 1, 3) := by decide +kernel
theorem dX7_countBoth_93 : decode cX7_countBoth 93 = .ok (.goto (-40), 3) := by decide +kernel
theorem dX7_countBoth_96 : decode cX7_countBoth 96 = .ok (.iload 8, 2) := by decide +kernel
theorem dX7_countBoth_98 : decode cX7_countBoth 98 = .ok (.ireturn, 1) := by decide +kernel
theorem dX7_sum_0 : decode cX7_sum 0 = .ok (.iload_n 2, 1) := by decide +kernel
theorem dX7_sum_1 : decode cX7_sum 1 = .ok (.ifCond .lt 12, 3) := by decide +kernel
theorem dX7_sum_4 : decode cX7_sum 4 = .ok (.iload_n 2, 1) := by decide +kernel
theorem dX7_sum_5 : decode cX7_sum 5 = .ok (.aload_n 0, 1) := by decide +kernel
theorem dX7_sum_6 : decode cX7_sum 6 = .ok (.getfield 9, 3) := by decide +kernel
theorem dX7_sum_9 : decode cX7_sum 9 = .ok (.arraylength, 1) := by decide +kernel
theorem dX7_sum_10 : decode cX7_sum 10 = .ok (.if_icmp .lt 5, 3) := by decide +kernel
theorem dX7_sum_13 : decode cX7_sum 13 = .ok (.iconst 0, 1) := by decide +kernel
theorem dX7_sum_14 : decode cX7_sum 14 = .ok (.ireturn, 1) := by decide +kernel
theorem dX7_sum_15 : decode cX7_sum 15 = .ok (.aload_n 0, 1) := by decide +kernel
theorem dX7_sum_16 : decode cX7_sum 16 = .ok (.getfield 9, 3) := by decide +kernel
theorem dX7_sum_19 : decode cX7_sum 19 = .ok (.iload_n 2, 1) := by decide +kernel
theorem dX7_sum_20 : decode cX7_sum 20 = .ok (.aaload, 1) := by decide +kernel
theorem dX7_sum_21 : decode cX7_sum 21 = .ok (.astore_n 3, 1) := by decide +kernel
theorem dX7_sum_22 : decode cX7_sum 22 = .ok (.iconst 0, 1) := by decide +kernel
theorem dX7_sum_23 : decode cX7_sum 23 = .ok (.istore 4, 2) := by decide +kernel
theorem dX7_sum_25 : decode cX7_sum 25 = .ok (.iconst 0, 1) := by decide +kernel
theorem dX7_sum_26 : decode cX7_sum 26 = .ok (.istore 5, 2) := by decide +kernel
theorem dX7_sum_28 : decode cX7_sum 28 = .ok (.iload 5, 2) := by decide +kernel
theorem dX7_sum_30 : decode cX7_sum 30 = .ok (.iload_n 1, 1) := by decide +kernel
theorem dX7_sum_31 : decode cX7_sum 31 = .ok (.if_icmp .ge 27, 3) := by decide +kernel
theorem dX7_sum_34 : decode cX7_sum 34 = .ok (.iload 5, 2) := by decide +kernel
theorem dX7_sum_36 : decode cX7_sum 36 = .ok (.aload_n 0, 1) := by decide +kernel
theorem dX7_sum_37 : decode cX7_sum 37 = .ok (.getfield 14, 3) := by decide +kernel
theorem dX7_sum_40 : decode cX7_sum 40 = .ok (.if_icmp .ge 18, 3) := by decide +kernel
theorem dX7_sum_43 : decode cX7_sum 43 = .ok (.iload 4, 2) := by decide +kernel
theorem dX7_sum_45 : decode cX7_sum 45 = .ok (.aload_n 3, 1) := by decide +kernel
theorem dX7_sum_46 : decode cX7_sum 46 = .ok (.iload 5, 2) := by decide +kernel
theorem dX7_sum_48 : decode cX7_sum 48 = .ok (.iaload, 1) := by decide +kernel
theorem dX7_sum_49 : decode cX7_sum 49 = .ok (.iadd, 1) := by decide +kernel
theorem dX7_sum_50 : decode cX7_sum 50 = .ok (.istore 4, 2) := by decide +kernel
theorem dX7_sum_52 : decode cX7_sum 52 = .ok (.iinc 5 1, 3) := by decide +kernel
theorem dX7_sum_55 : decode cX7_sum 55 = .ok (.goto (-27), 3) := by decide +kernel
theorem dX7_sum_58 : decode cX7_sum 58 = .ok (.iload 4, 2) := by decide +kernel
theorem dX7_sum_60 : decode cX7_sum 60 = .ok (.ireturn, 1) := by decide +kernel
theorem dX7_remove_0 : decode cX7_remove 0 = .ok (.iload_n 1, 1) := by decide +kernel
theorem dX7_remove_1 : decode cX7_remove 1 = .ok (.ifCond .lt 16, 3) := by decide +kernel
theorem dX7_remove_4 : decode cX7_remove 4 = .ok (.iload_n 1, 1) := by decide +kernel
theorem dX7_remove_5 : decode cX7_remove 5 = .ok (.iload_n 2, 1) := by decide +kernel
theorem dX7_remove_6 : decode cX7_remove 6 = .ok (.if_icmp .ge 11, 3) := by decide +kernel
theorem dX7_remove_9 : decode cX7_remove 9 = .ok (.iload_n 2, 1) := by decide +kernel
theorem dX7_remove_10 : decode cX7_remove 10 = .ok (.aload_n 0, 1) := by decide +kernel
theorem dX7_remove_11 : decode cX7_remove 11 = .ok (.getfield 14, 3) := by decide +kernel
theorem dX7_remove_14 : decode cX7_remove 14 = .ok (.if_icmp .le 4, 3) := by decide +kernel
theorem dX7_remove_17 : decode cX7_remove 17 = .ok (.return_, 1) := by decide +kernel
theorem dX7_remove_18 : decode cX7_remove 18 = .ok (.iconst 0, 1) := by decide +kernel
theorem dX7_remove_19 : decode cX7_remove 19 = .ok (.istore_n 3, 1) := by decide +kernel
theorem dX7_remove_20 : decode cX7_remove 20 = .ok (.iload_n 3, 1) := by decide +kernel
theorem dX7_remove_21 : decode cX7_remove 21 = .ok (.aload_n 0, 1) := by decide +kernel
theorem dX7_remove_22 : decode cX7_remove 22 = .ok (.getfield 9, 3) := by decide +kernel
theorem dX7_remove_25 : decode cX7_remove 25 = .ok (.arraylength, 1) := by decide +kernel
theorem dX7_remove_26 : decode cX7_remove 26 = .ok (.if_icmp .ge 33, 3) := by decide +kernel
theorem dX7_remove_29 : decode cX7_remove 29 = .ok (.aload_n 0, 1) := by decide +kernel
theorem dX7_remove_30 : decode cX7_remove 30 = .ok (.getfield 9, 3) := by decide +kernel
theorem dX7_remove_33 : decode cX7_remove 33 = .ok (.iload_n 3, 1) := by decide +kernel
theorem dX7_remove_34 : decode cX7_remove 34 = .ok (.aaload, 1) := by decide +kernel
theorem dX7_remove_35 : decode cX7_remove 35 = .ok (.iload_n 1, 1) := by decide +kernel
theorem dX7_remove_36 : decode cX7_remove 36 = .ok (.iconst 1, 1) := by decide +kernel
theorem dX7_remove_37 : decode cX7_remove 37 = .ok (.iadd, 1) := by decide +kernel
theorem dX7_remove_38 : decode cX7_remove 38 = .ok (.aload_n 0, 1) := by decide +kernel
theorem dX7_remove_39 : decode cX7_remove 39 = .ok (.getfield 9, 3) := by decide +kernel
theorem dX7_remove_42 : decode cX7_remove 42 = .ok (.iload_n 3, 1) := by decide +kernel
theorem dX7_remove_43 : decode cX7_remove 43 = .ok (.aaload, 1) := by decide +kernel
theorem dX7_remove_44 : decode cX7_remove 44 = .ok (.iload_n 1, 1) := by decide +kernel
theorem dX7_remove_45 : decode cX7_remove 45 = .ok (.iload_n 2, 1) := by decide +kernel
theorem dX7_remove_46 : decode cX7_remove 46 = .ok (.iload_n 1, 1) := by decide +kernel
theorem dX7_remove_47 : decode cX7_remove 47 = .ok (.isub, 1) := by decide +kernel
theorem dX7_remove_48 : decode cX7_remove 48 = .ok (.iconst 1, 1) := by decide +kernel
theorem dX7_remove_49 : decode cX7_remove 49 = .ok (.isub, 1) := by decide +kernel
theorem dX7_remove_50 : decode cX7_remove 50 = .ok (.invokestatic 22, 3) := by decide +kernel
theorem dX7_remove_53 : decode cX7_remove 53 = .ok (.iinc 3 1, 3) := by decide +kernel
theorem dX7_remove_56 : decode cX7_remove 56 = .ok (.goto (-36), 3) := by decide +kernel
theorem dX7_remove_59 : decode cX7_remove 59 = .ok (.return_, 1) := by decide +kernel
theorem dX7_copyFrom_0 : decode cX7_copyFrom 0 = .ok (.iload_n 2, 1) := by decide +kernel
theorem dX7_copyFrom_1 : decode cX7_copyFrom 1 = .ok (.ifCond .lt 32, 3) := by decide +kernel
theorem dX7_copyFrom_4 : decode cX7_copyFrom 4 = .ok (.iload_n 2, 1) := by decide +kernel
theorem dX7_copyFrom_5 : decode cX7_copyFrom 5 = .ok (.aload_n 0, 1) := by decide +kernel
theorem dX7_copyFrom_6 : decode cX7_copyFrom 6 = .ok (.getfield 14, 3) := by decide +kernel
theorem dX7_copyFrom_9 : decode cX7_copyFrom 9 = .ok (.if_icmp .gt 24, 3) := by decide +kernel
theorem dX7_copyFrom_12 : decode cX7_copyFrom 12 = .ok (.iload_n 2, 1) := by decide +kernel
theorem dX7_copyFrom_13 : decode cX7_copyFrom 13 = .ok (.aload_n 1, 1) := by decide +kernel
theorem dX7_copyFrom_14 : decode cX7_copyFrom 14 = .ok (.getfield 14, 3) := by decide +kernel
theorem dX7_copyFrom_17 : decode cX7_copyFrom 17 = .ok (.if_icmp .gt 16, 3) := by decide +kernel
theorem dX7_copyFrom_20 : decode cX7_copyFrom 20 = .ok (.aload_n 0, 1) := by decide +kernel
theorem dX7_copyFrom_21 : decode cX7_copyFrom 21 = .ok (.getfield 9, 3) := by decide +kernel
theorem dX7_copyFrom_24 : decode cX7_copyFrom 24 = .ok (.arraylength, 1) := by decide +kernel
theorem dX7_copyFrom_25 : decode cX7_copyFrom 25 = .ok (.aload_n 1, 1) := by decide +kernel
theorem dX7_copyFrom_26 : decode cX7_copyFrom 26 = .ok (.getfield 9, 3) := by decide +kernel
theorem dX7_copyFrom_29 : decode cX7_copyFrom 29 = .ok (.arraylength, 1) := by decide +kernel
theorem dX7_copyFrom_30 : decode cX7_copyFrom 30 = .ok (.if_icmp .eq 4, 3) := by decide +kernel
theorem dX7_copyFrom_33 : decode cX7_copyFrom 33 = .ok (.return_, 1) := by decide +kernel
theorem dX7_copyFrom_34 : decode cX7_copyFrom 34 = .ok (.iconst 0, 1) := by decide +kernel
theorem dX7_copyFrom_35 : decode cX7_copyFrom 35 = .ok (.istore_n 3, 1) := by decide +kernel
theorem dX7_copyFrom_36 : decode cX7_copyFrom 36 = .ok (.iload_n 3, 1) := by decide +kernel
theorem dX7_copyFrom_37 : decode cX7_copyFrom 37 = .ok (.aload_n 0, 1) := by decide +kernel
theorem dX7_copyFrom_38 : decode cX7_copyFrom 38 = .ok (.getfield 9, 3) := by decide +kernel
theorem dX7_copyFrom_41 : decode cX7_copyFrom 41 = .ok (.arraylength, 1) := by decide +kernel
theorem dX7_copyFrom_42 : decode cX7_copyFrom 42 = .ok (.if_icmp .ge 27, 3) := by decide +kernel
theorem dX7_copyFrom_45 : decode cX7_copyFrom 45 = .ok (.aload_n 1, 1) := by decide +kernel
theorem dX7_copyFrom_46 : decode cX7_copyFrom 46 = .ok (.getfield 9, 3) := by decide +kernel
theorem dX7_copyFrom_49 : decode cX7_copyFrom 49 = .ok (.iload_n 3, 1) := by decide +kernel
theorem dX7_copyFrom_50 : decode cX7_copyFrom 50 = .ok (.aaload, 1) := by decide +kernel
theorem dX7_copyFrom_51 : decode cX7_copyFrom 51 = .ok (.iconst 0, 1) := by decide +kernel
theorem dX7_copyFrom_52 : decode cX7_copyFrom 52 = .ok (.aload_n 0, 1) := by decide +kernel
theorem dX7_copyFrom_53 : decode cX7_copyFrom 53 = .ok (.getfield 9, 3) := by decide +kernel
theorem dX7_copyFrom_56 : decode cX7_copyFrom 56 = .ok (.iload_n 3, 1) := by decide +kernel
theorem dX7_copyFrom_57 : decode cX7_copyFrom 57 = .ok (.aaload, 1) := by decide +kernel
theorem dX7_copyFrom_58 : decode cX7_copyFrom 58 = .ok (.iconst 0, 1) := by decide +kernel
theorem dX7_copyFrom_59 : decode cX7_copyFrom 59 = .ok (.iload_n 2, 1) := by decide +kernel
theorem dX7_copyFrom_60 : decode cX7_copyFrom 60 = .ok (.invokestatic 22, 3) := by decide +kernel
theorem dX7_copyFrom_63 : decode cX7_copyFrom 63 = .ok (.iinc 3 1, 3) := by decide +kernel
theorem dX7_copyFrom_66 : decode cX7_copyFrom 66 = .ok (.goto (-30), 3) := by decide +kernel
theorem dX7_copyFrom_69 : decode cX7_copyFrom 69 = .ok (.return_, 1) := by decide +kernel
end
section
/-! THE MEMORY: all objects that the law makes lie one behind the other; a place is a number from 0, a slot a number within it -/
abbrev Mem : Type := (Nat → Nat → Int32) × (Nat → Nat → Int64)
def mput (M : Mem) (t k : Nat) (x : Int32) : Mem := (fun a b => if a = t ∧ b = k then x else M.1 a b, M.2)
def mputL (M : Mem) (t k : Nat) (x : Int64) : Mem := (M.1, fun a b => if a = t ∧ b = k then x else M.2 a b)
theorem mput_row (M : Mem) (t k : Nat) (x : Int32) : (mput M t k x).1 t = upd (M.1 t) k x := by
  funext b; by_cases h : b = k <;> simp [mput, upd, h]
theorem mput_ne (M : Mem) {t k a : Nat} (x : Int32) (h : a ≠ t) : (mput M t k x).1 a = M.1 a := by
  funext b; simp [mput, h]
theorem mputL_row (M : Mem) (t k : Nat) (x : Int64) : (mputL M t k x).2 t = vp_updL (M.2 t) k x := by
  funext b; by_cases h : b = k <;> simp [mputL, vp_updL, h]
theorem mputL_ne (M : Mem) {t k a : Nat} (x : Int64) (h : a ≠ t) : (mputL M t k x).2 a = M.2 a := by
  funext b; simp [mputL, h]
/-- the kinds: an int array of n places, a table of r rows, its outer array of w columns, the rest -/
abbrev tI (n : Nat) : Nat := 4 * n + 1
abbrev tT (r : Nat) : Nat := 4 * r + 2
abbrev tC (w : Nat) : Nat := 4 * w + 3
abbrev tK (k : Nat) : Nat := 4 * k
abbrev Gx : Type := va_G × (Nat → ClassId) × (Nat → Nat)
/-- a word: -1 is null -/
def wo (x : Int32) : Option Nat := if x < 0 then none else some x.toNatClampNeg
def entK (G : Gx) (n0 k t : Nat) (f : Nat → Int32) (g : Nat → Int64) : va_E := match k with
  | 1 => .inr (0, [.ref (n0 + (t + 1)), .int (f 1)])
  | 2 => .inr (1, [.ref (n0 + (t + 1)), .ref (n0 + (t + 2)), va_re G.2.2 (wo (f 2)), .int (f 3), .int (f 4), .int (f 5)])
  | 3 => .inr (2, [.ref (n0 + (t + 1)), .ref (n0 + (t + 2)), .ref (n0 + (t + 3)), .ref (n0 + (t + 4)), .int (f 4), .int (f 5), .int (f 6)])
  | 4 => .inr (3, [.ref (n0 + (t + 1)), .int (f 1)])
  | 5 => .inr (4, [.ref (n0 + (t + 1)), .int (f 1)])
  | 6 => .inr (5, [.ref (n0 + (t + 1)), .int (f 1), .int (f 2)])
  | 8 => .inr (7, [.ref (n0 + (t + 1)), .int (f 1), .int (f 2)])
  | 9 => .inr (8, [.ref (n0 + (t + 1)), .ref (n0 + (t + 8)), .ref (n0 + (t + 14)), .ref (n0 + (t + 22)), .int (f 4), .int (f 5), .int (f 6), .int (f 7)])
  | 11 => .inr (9, [.ref (n0 + (t + 1)), .ref (n0 + (t + 33)), .ref (n0 + (t + 45)), .ref (n0 + (t + 175)), .int (f 4)])
  | 12 => .inr (10, [.ref (n0 + (t + 1)), .ref (n0 + (t + 2)), .ref (n0 + (t + 3)), .int (f 3), .int (f 4), .ref (n0 + (t + 4)), .int (f 6), .int (f 7), .ref (n0 + (t + 5)), .int (f 9), .int (f 10), .int (f 11), .int (f 12), .ref (n0 + (t + 6)), .long (g 14)])
  | 13 => .inl (G.2.1 4, 4, .inr (.inr (.inr (.inr (fun i => some (n0 + (t + (1 + 32 * i))))))))
  | 14 => .inl (G.2.1 1, 150, .inl f)
  | _ => .inl (G.2.1 2, 1, .inr (.inl g))
def ent (G : Gx) (n0 tag t : Nat) (f : Nat → Int32) (g : Nat → Int64) : va_E := match tag % 4 with
  | 0 => entK G n0 (tag / 4) t f g
  | 1 => .inl (G.2.1 0, tag / 4, .inl f)
  | 2 => .inr (6, [.ref (n0 + (t + 1)), .int (nI (tag / 4))])
  | _ => .inl (G.2.1 3, tag / 4, .inr (.inr (.inr (.inr (fun i => some (n0 + (t + (1 + i))))))))
theorem ent_I (G : Gx) (n0 n t : Nat) (f : Nat → Int32) (g : Nat → Int64) : ent G n0 (tI n) t f g = .inl (G.2.1 0, n, .inl f) := by
  have h1 : (4 * n + 1) % 4 = 1 := by omega
  have h2 : (4 * n + 1) / 4 = n := by omega
  simp only [ent, tI, h1, h2]
theorem ent_T (G : Gx) (n0 r t : Nat) (f : Nat → Int32) (g : Nat → Int64) : ent G n0 (tT r) t f g = .inr (6, [.ref (n0 + (t + 1)), .int (nI r)]) := by
  have h1 : (4 * r + 2) % 4 = 2 := by omega
  have h2 : (4 * r + 2) / 4 = r := by omega
  simp only [ent, tT, h1, h2]
theorem ent_C (G : Gx) (n0 w t : Nat) (f : Nat → Int32) (g : Nat → Int64) : ent G n0 (tC w) t f g = .inl (G.2.1 3, w, .inr (.inr (.inr (.inr (fun i => some (n0 + (t + (1 + i)))))))) := by
  have h1 : (4 * w + 3) % 4 = 3 := by omega
  have h2 : (4 * w + 3) / 4 = w := by omega
  simp only [ent, tC, h1, h2]
theorem ent_K (G : Gx) (n0 k t : Nat) (f : Nat → Int32) (g : Nat → Int64) : ent G n0 (tK k) t f g = entK G n0 k t f g := by
  have h1 : (4 * k) % 4 = 0 := by omega
  have h2 : (4 * k) / 4 = k := by omega
  simp only [ent, tK, h1, h2]
def lay : List Nat := [44, 36, 16, 34, 19, 33, 33, 33, 33, 4, 82, 15, 81, 81, 81, 20, 82, 23, 81, 81, 81, 81, 81, 24, 802, 31, 801, 801, 801, 801, 801, 801, 801, 12, 81, 81, 13, 20, 82, 23, 81, 81, 81, 81, 81, 32, 52, 36, 16, 34, 19, 33, 33, 33, 33, 4, 82, 15, 81, 81, 81, 20, 82, 23, 81, 81, 81, 81, 81, 24, 802, 31, 801, 801, 801, 801, 801, 801, 801, 36, 16, 34, 19, 33, 33, 33, 33, 4, 82, 15, 81, 81, 81, 20, 82, 23, 81, 81, 81, 81, 81, 24, 802, 31, 801, 801, 801, 801, 801, 801, 801, 36, 16, 34, 19, 33, 33, 33, 33, 4, 82, 15, 81, 81, 81, 20, 82, 23, 81, 81, 81, 81, 81, 24, 802, 31, 801, 801, 801, 801, 801, 801, 801, 36, 16, 34, 19, 33, 33, 33, 33, 4, 82, 15, 81, 81, 81, 20, 82, 23, 81, 81, 81, 81, 81, 24, 802, 31, 801, 801, 801, 801, 801, 801, 801, 8, 56, 13, 48, 6405, 25617, 6405, 601, 161, 13, 60]
def wld (G : Gx) (n0 : Nat) (M : Mem) : va_W := (List.range 186).map (fun t => (n0 + t, ent G n0 (lay.getD t 0) t (M.1 t) (M.2 t)))
theorem lay_len : lay.length = 186 := by decide +kernel
theorem lay_lt {t tag : Nat} (h : lay[t]? = some tag) : t < 186 := by
  have h1 := (List.getElem?_eq_some_iff.mp h).1
  rw [lay_len] at h1; exact h1
theorem wld_at {G : Gx} {n0 : Nat} {M : Mem} {t tag : Nat} (h : lay[t]? = some tag) : (wld G n0 M)[t]? = some (n0 + t, ent G n0 tag t (M.1 t) (M.2 t)) := by
  have h1 := lay_lt h
  have h2 : lay.getD t 0 = tag := by rw [List.getD_eq_getElem?_getD, h]; rfl
  simp only [wld, List.getElem?_map, List.getElem?_range h1, Option.map_some, h2]
theorem wld_len (G : Gx) (n0 : Nat) (M : Mem) : (wld G n0 M).length = 186 := by simp [wld]
theorem wld_get {G : Gx} {n0 : Nat} {M : Mem} {t : Nat} (h : t < 186) : (wld G n0 M)[t]? = some (n0 + t, ent G n0 (lay.getD t 0) t (M.1 t) (M.2 t)) := by
  simp only [wld, List.getElem?_map, List.getElem?_range h, Option.map_some]
theorem wld_set {G : Gx} {n0 : Nat} {M M' : Mem} {t tag : Nat} {e : va_E} (h : lay[t]? = some tag) (he : ent G n0 tag t (M'.1 t) (M'.2 t) = e) (h1 : ∀ a, a ≠ t → M'.1 a = M.1 a) (h2 : ∀ a, a ≠ t → M'.2 a = M.2 a) : (wld G n0 M).set t (n0 + t, e) = wld G n0 M' := by
  apply List.ext_getElem?
  intro i
  have hl := lay_lt h
  by_cases hi : i = t
  · subst hi
    rw [List.getElem?_set_self (by rw [wld_len]; exact hl), wld_at h, he]
  · rw [List.getElem?_set_ne (Ne.symm hi)]
    by_cases h3 : i < 186
    · rw [wld_get h3, wld_get h3, h1 i hi, h2 i hi]
    · rw [List.getElem?_eq_none (by rw [wld_len]; omega), List.getElem?_eq_none (by rw [wld_len]; omega)]
theorem wld_D (G : Gx) (n0 : Nat) (M : Mem) : va_D (fun q => n0 ≤ q) (wld G n0 M) := by
  have key : ∀ (k : Nat) (q : Nat × va_E), (wld G n0 M)[k]? = some q → q.1 = n0 + k := by
    intro k q hk
    have h1 : k < 186 := by have := (List.getElem?_eq_some_iff.mp hk).1; rwa [wld_len] at this
    rw [wld_get h1] at hk
    cases hk
    rfl
  refine ⟨fun i j p q hi hj hpq => ?_, fun k q hk => ?_⟩
  · rw [key i p hi, key j q hj] at hpq; omega
  · rw [key k q hk]; exact Nat.le_add_right _ _
/-- the arrays' kinds -/
def tyG (G : Gx) : List (ClassId × FieldType) := [(G.2.1 0, .int), (G.2.1 1, .byte), (G.2.1 2, .long), (G.2.1 3, .array .int), (G.2.1 4, .object "OvenDays$Village")]
def wNm : List String := ["JOIN", "BRING", "BAKE", "CLAIM", "RETURN", "EXCUSE", "GIVE"]
/-- links among nest mates -/
def nxM : List (String × Nat × MethodName) := [("OvenDays", 9, ⟨"OvenDays$Village", "<init>", "()V"⟩), ("OvenDays$Village", 11, ⟨"OvenDays$Households", "<init>", "()V"⟩), ("OvenDays$Village", 20, ⟨"OvenDays$Batches", "<init>", "()V"⟩), ("OvenDays$Village", 27, ⟨"OvenDays$Loads", "<init>", "()V"⟩), ("OvenDays$Village", 34, ⟨"OvenDays$Loaves", "<init>", "()V"⟩), ("OvenDays", 18, ⟨"OvenDays$DayPlan", "<init>", "()V"⟩), ("OvenDays$DayPlan", 23, ⟨"OvenDays$Loads", "<init>", "()V"⟩), ("OvenDays$UndoStack", 15, ⟨"OvenDays$Village", "<init>", "()V"⟩), ("OvenDays", 32, ⟨"OvenDays$CommandText", "<init>", "()V"⟩), ("OvenDays$Households", 50, ⟨"OvenDays", "contains", "(II)Z"⟩), ("OvenDays$Village", 70, ⟨"OvenDays", "whyNotWithin", "(III)I"⟩), ("OvenDays$Village", 82, ⟨"OvenDays", "whyNotBelow", "(II)I"⟩), ("OvenDays$Loaves", 86, ⟨"OvenDays", "contains", "(II)Z"⟩)]
def nxF : List (String × Nat × String × String × String) := [("OvenDays", 53, "OvenDays$Village", "households", "LOvenDays$Households;"), ("OvenDays", 79, "OvenDays$Village", "batches", "LOvenDays$Batches;"), ("OvenDays", 158, "OvenDays$Village", "loads", "LOvenDays$Loads;"), ("OvenDays", 107, "OvenDays$Village", "loaves", "LOvenDays$Loaves;"), ("OvenDays", 172, "OvenDays$Village", "heat", "I"), ("OvenDays", 194, "OvenDays$Village", "s", "I"), ("OvenDays", 169, "OvenDays$Village", "days", "I"), ("OvenDays", 179, "OvenDays$Village", "dough", "I"), ("OvenDays$CommandText", 72, "OvenDays$Word", "letters", "Ljava/lang/String;"), ("OvenDays$CommandText", 90, "OvenDays$Word", "numbers", "I")]
def Nx (U : State) : Prop := (∀ q ∈ nxM, va_Nw (.methodLinkNest q.1 q.2.1 q.2.2 "OvenDays") U) ∧ ∀ q ∈ nxF, va_Nw (.fieldLinkNest q.1 q.2.1 q.2.2.1 q.2.2.2.1 q.2.2.2.2 "OvenDays") U
theorem Nx.step {s t : State} (h : Nx s) (hW : s.WarmedH t.vm) : Nx t := ⟨fun q hq => va_Nw.warmM hW (h.1 q hq), fun q hq => va_Nw.warmF hW (h.2 q hq)⟩
theorem Nx.same {s t : State} (h : Nx s) (hv : s.vm = t.vm) : Nx t := ⟨fun q hq => va_Nw.same rfl hv (h.1 q hq), fun q hq => va_Nw.same rfl hv (h.2 q hq)⟩
/-- the law's start -/
def Ini (G : Gx) (n0 b : Nat) (s0 : State) : Prop := s0.heap.size = n0 ∧ (Jvm.Cond.and given_1 narrow_1).before #[Value.ref b] s0 = true ∧ (∀ w ∈ lw_tbl, w.before #[Value.ref b] s0 = true) ∧ ∀ i, i < 7 → va_Z "OvenDays$Word" (wNm.getD i "") "LOvenDays$Word;" (.ref (G.2.2 i)) (fun q => n0 ≤ q) s0 s0.heap
/-- what the start gave still holds -/
def St (G : Gx) (n0 : Nat) (U : State) : Prop := (∃ (s0 : State) (b : Nat), Ini G n0 b s0 ∧ s0.vm.Alike U.vm ∧ va_F (fun q => n0 ≤ q) s0 U) ∧ Nx U
theorem va_F.trans {A : Nat → Prop} {a b c : State} (h1 : va_F A a b) (h2 : va_F A b c) : va_F A a c :=
  ⟨Nat.le_trans h1.1 h2.1, fun q hq hA => (h2.2 q (Nat.lt_of_lt_of_le hq h1.1) hA).trans (h1.2 q hq hA)⟩
theorem St.step {G : Gx} {n0 : Nat} {s t : State} (h : St G n0 s) (hW : s.WarmedH t.vm) (hF : va_F (fun q => n0 ≤ q) s t) : St G n0 t := by
  obtain ⟨⟨s0, b, h1, h2, h3⟩, h4⟩ := h
  exact ⟨⟨s0, b, h1, h2.trans hW.alike, h3.trans hF⟩, h4.step hW⟩
theorem St.same {G : Gx} {n0 : Nat} {s t : State} (h : St G n0 s) (hv : s.vm = t.vm) (hh : t.heap = s.heap) : St G n0 t := by
  obtain ⟨⟨s0, b, h1, h2, h3⟩, h4⟩ := h
  exact ⟨⟨s0, b, h1, by rw [← hv]; exact h2, by unfold va_F at h3 ⊢; rw [hh]; exact h3⟩, h4.same hv⟩
/-- a state that holds the memory -/
def Rl (G : Gx) (n0 : Nat) (M : Mem) (U : State) : Prop := va_P G.1 vwCl (wld G n0 M) U.heap ∧ va_K G.1 vwCl (tyG G) U ∧ St G n0 U
def Kx : Type := Program × Launch × Env × Room × State × MethodId × Array Value × List Frame × Method × Code × (State → Prop) × Gx × Nat × Nat × Nat × Nat
/-- the walk within a method: locals L, stack st, memory M -/
def J (K : Kx) (M : Mem) (pc : Nat) (L : List (Nat × Value)) (st : List Value) : Prop := match K with
  | (p, l, e, R, s, m, args, below, meth, c, Q, G, n0, nL, cells, slots) => ∀ (H : Heap) (locs : List Loc) (ls : Array Slot), va_P G.1 vwCl (wld G n0 M) H → va_S (fun q => n0 ≤ q) s.heap H locs → lv_has ls nL L → W p l e R s m args below meth c H locs cells slots Q (F0 m pc ls st)
def Ok (K : Kx) (l0 : Launch) (R0 : Room) (cc : ByteArray) (own : String) (ws : List Cond) (G0 : Gx) (n1 nL0 : Nat) : Prop := match K with
  | (p, l, e, R, s, m, args, below, meth, c, Q, G, n0, nL, cells, slots) => l = l0 ∧ R = R0 ∧ G = G0 ∧ n0 = n1 ∧ nL = nL0 ∧ p.tables.exec = Jvm.exec ∧ c.code = cc ∧ s.vm.findClass own = some m.cls ∧ (∀ w ∈ ws, w.before args s = true) ∧ va_K G.1 vwCl (tyG G) s ∧ c.maxLocals = nL ∧ St G n0 s ∧ cells ≤ R.cells ∧ slots ≤ R.slots
end
section
section JROWS
variable {K : Kx} {l : Launch} {R : Room} {cc : ByteArray} {own : String} {ws : List Cond} {G : Gx} {n0 nL : Nat} {M : Mem} {pc : Nat} {L : List (Nat × Value)} {st : List Value}
theorem j_iconst (C : Ok K l R cc own ws G n0 nL) {n : Int} (v : Int32) (hv : Int32.ofInt n = v) (hdg : decode cc pc = .ok (.iconst n, 1)) (kk : J K M (pc + 1) L (.int v :: st)) : J K M pc L (st) := by
  obtain ⟨p, l', e, R', s, m, args, below, meth, c, Q, G', n0', nL', cells, slots⟩ := K
  obtain ⟨rfl, rfl, rfl, rfl, rfl, hx, hb, hown, hts, hK, hml, hSt, hce, hsl⟩ := C
  intro H locs ls hP hS hl
  exact lv_iconst hx hb hdg hv (kk H locs ls hP hS hl)
theorem j_bipush (C : Ok K l R cc own ws G n0 nL) {n : Int} (v : Int32) (hv : (Int8.ofInt n).toInt32 = v) (hdg : decode cc pc = .ok (.bipush n, 2)) (kk : J K M (pc + 2) L (.int v :: st)) : J K M pc L (st) := by
  obtain ⟨p, l', e, R', s, m, args, below, meth, c, Q, G', n0', nL', cells, slots⟩ := K
  obtain ⟨rfl, rfl, rfl, rfl, rfl, hx, hb, hown, hts, hK, hml, hSt, hce, hsl⟩ := C
  intro H locs ls hP hS hl
  exact lv_bipush hx hb hdg hv (kk H locs ls hP hS hl)
theorem j_sipush (C : Ok K l R cc own ws G n0 nL) {n : Int} (v : Int32) (hv : (Int16.ofInt n).toInt32 = v) (hdg : decode cc pc = .ok (.sipush n, 3)) (kk : J K M (pc + 3) L (.int v :: st)) : J K M pc L (st) := by
  obtain ⟨p, l', e, R', s, m, args, below, meth, c, Q, G', n0', nL', cells, slots⟩ := K
  obtain ⟨rfl, rfl, rfl, rfl, rfl, hx, hb, hown, hts, hK, hml, hSt, hce, hsl⟩ := C
  intro H locs ls hP hS hl
  exact lv_sipush hx hb hdg hv (kk H locs ls hP hS hl)
theorem j_lconst (C : Ok K l R cc own ws G n0 nL) {n : Fin 2} (v : Int64) (hv : Int64.ofNat (n : Nat) = v) (hdg : decode cc pc = .ok (.lconst n, 1)) (kk : J K M (pc + 1) L (.long v :: st)) : J K M pc L (st) := by
  obtain ⟨p, l', e, R', s, m, args, below, meth, c, Q, G', n0', nL', cells, slots⟩ := K
  obtain ⟨rfl, rfl, rfl, rfl, rfl, hx, hb, hown, hts, hK, hml, hSt, hce, hsl⟩ := C
  intro H locs ls hP hS hl
  exact lv_lconst hx hb hdg hv (kk H locs ls hP hS hl)
theorem j_iload_n (C : Ok K l R cc own ws G n0 nL) {k : Fin 4} {i : Nat} {x : Int32} (q : Nat) (hdg : decode cc pc = .ok (.iload_n k, 1)) (hi : (k : Nat) = i) (hq : L[q]? = some (i, .int x)) (kk : J K M (pc + 1) L (.int x :: st)) : J K M pc L st := by
  obtain ⟨p, l', e, R', s, m, args, below, meth, c, Q, G', n0', nL', cells, slots⟩ := K
  obtain ⟨rfl, rfl, rfl, rfl, rfl, hx, hb, hown, hts, hK, hml, hSt, hce, hsl⟩ := C
  intro H locs ls hP hS hl
  exact lv_iload_n hx hb hdg hi (lv_at hl q hq) (kk H locs ls hP hS hl)
theorem j_iload (C : Ok K l R cc own ws G n0 nL) {i : Nat} {x : Int32} (q : Nat) (hdg : decode cc pc = .ok (.iload i, 2)) (hq : L[q]? = some (i, .int x)) (kk : J K M (pc + 2) L (.int x :: st)) : J K M pc L st := by
  obtain ⟨p, l', e, R', s, m, args, below, meth, c, Q, G', n0', nL', cells, slots⟩ := K
  obtain ⟨rfl, rfl, rfl, rfl, rfl, hx, hb, hown, hts, hK, hml, hSt, hce, hsl⟩ := C
  intro H locs ls hP hS hl
  exact lv_iload hx hb hdg (lv_at hl q hq) (kk H locs ls hP hS hl)
theorem j_lload_n (C : Ok K l R cc own ws G n0 nL) {k : Fin 4} {i : Nat} {x : Int64} (q : Nat) (hdg : decode cc pc = .ok (.lload_n k, 1)) (hi : (k : Nat) = i) (hq : L[q]? = some (i, .long x)) (kk : J K M (pc + 1) L (.long x :: st)) : J K M pc L st := by
  obtain ⟨p, l', e, R', s, m, args, below, meth, c, Q, G', n0', nL', cells, slots⟩ := K
  obtain ⟨rfl, rfl, rfl, rfl, rfl, hx, hb, hown, hts, hK, hml, hSt, hce, hsl⟩ := C
  intro H locs ls hP hS hl
  exact lv_lload_n hx hb hdg hi (lv_at hl q hq) (kk H locs ls hP hS hl)
theorem j_lload (C : Ok K l R cc own ws G n0 nL) {i : Nat} {x : Int64} (q : Nat) (hdg : decode cc pc = .ok (.lload i, 2)) (hq : L[q]? = some (i, .long x)) (kk : J K M (pc + 2) L (.long x :: st)) : J K M pc L st := by
  obtain ⟨p, l', e, R', s, m, args, below, meth, c, Q, G', n0', nL', cells, slots⟩ := K
  obtain ⟨rfl, rfl, rfl, rfl, rfl, hx, hb, hown, hts, hK, hml, hSt, hce, hsl⟩ := C
  intro H locs ls hP hS hl
  exact lv_lload hx hb hdg (lv_at hl q hq) (kk H locs ls hP hS hl)
theorem j_aload_n (C : Ok K l R cc own ws G n0 nL) {k : Fin 4} {i : Nat} {x : Nat} (q : Nat) (hdg : decode cc pc = .ok (.aload_n k, 1)) (hi : (k : Nat) = i) (hq : L[q]? = some (i, .ref x)) (kk : J K M (pc + 1) L (.ref x :: st)) : J K M pc L st := by
  obtain ⟨p, l', e, R', s, m, args, below, meth, c, Q, G', n0', nL', cells, slots⟩ := K
  obtain ⟨rfl, rfl, rfl, rfl, rfl, hx, hb, hown, hts, hK, hml, hSt, hce, hsl⟩ := C
  intro H locs ls hP hS hl
  exact lv_aload_n hx hb hdg hi (lv_at hl q hq) (kk H locs ls hP hS hl)
theorem j_aload (C : Ok K l R cc own ws G n0 nL) {i : Nat} {x : Nat} (q : Nat) (hdg : decode cc pc = .ok (.aload i, 2)) (hq : L[q]? = some (i, .ref x)) (kk : J K M (pc + 2) L (.ref x :: st)) : J K M pc L st := by
  obtain ⟨p, l', e, R', s, m, args, below, meth, c, Q, G', n0', nL', cells, slots⟩ := K
  obtain ⟨rfl, rfl, rfl, rfl, rfl, hx, hb, hown, hts, hK, hml, hSt, hce, hsl⟩ := C
  intro H locs ls hP hS hl
  exact lv_aload hx hb hdg (lv_at hl q hq) (kk H locs ls hP hS hl)
theorem j_istore_n (C : Ok K l R cc own ws G n0 nL) {k : Fin 4} {i : Nat} {x : Int32} (L' : List (Nat × Value)) (hdg : decode cc pc = .ok (.istore_n k, 1)) (hi : (k : Nat) = i) (hn : i < nL) (hL : (i, Value.int x) :: L.filter (fun q => !(q.1 == i) && !(q.1 + 1 == i && q.2.category == 2)) = L') (kk : J K M (pc + 1) L' st) : J K M pc L (Value.int x :: st) := by
  obtain ⟨p, l', e, R', s, m, args, below, meth, c, Q, G', n0', nL', cells, slots⟩ := K
  obtain ⟨rfl, rfl, rfl, rfl, rfl, hx, hb, hown, hts, hK, hml, hSt, hce, hsl⟩ := C
  intro H locs ls hP hS hl
  exact lv_istore_n hx hb hdg hi hl hn hL (fun ls' hl' => kk H locs ls' hP hS hl')
theorem j_istore (C : Ok K l R cc own ws G n0 nL) {i : Nat} {x : Int32} (L' : List (Nat × Value)) (hdg : decode cc pc = .ok (.istore i, 2)) (hn : i < nL) (hL : (i, Value.int x) :: L.filter (fun q => !(q.1 == i) && !(q.1 + 1 == i && q.2.category == 2)) = L') (kk : J K M (pc + 2) L' st) : J K M pc L (Value.int x :: st) := by
  obtain ⟨p, l', e, R', s, m, args, below, meth, c, Q, G', n0', nL', cells, slots⟩ := K
  obtain ⟨rfl, rfl, rfl, rfl, rfl, hx, hb, hown, hts, hK, hml, hSt, hce, hsl⟩ := C
  intro H locs ls hP hS hl
  exact lv_istore hx hb hdg hl hn hL (fun ls' hl' => kk H locs ls' hP hS hl')
theorem j_lstore_n (C : Ok K l R cc own ws G n0 nL) {k : Fin 4} {i : Nat} {x : Int64} (L' : List (Nat × Value)) (hdg : decode cc pc = .ok (.lstore_n k, 1)) (hi : (k : Nat) = i) (hn : i + 1 < nL) (hL : (i, Value.long x) :: L.filter (fun q => !(q.1 == i) && (!(q.1 == i + 1) && !(q.1 + 1 == i && q.2.category == 2))) = L') (kk : J K M (pc + 1) L' st) : J K M pc L (Value.long x :: st) := by
  obtain ⟨p, l', e, R', s, m, args, below, meth, c, Q, G', n0', nL', cells, slots⟩ := K
  obtain ⟨rfl, rfl, rfl, rfl, rfl, hx, hb, hown, hts, hK, hml, hSt, hce, hsl⟩ := C
  intro H locs ls hP hS hl
  exact lv_lstore_n hx hb hdg hi hl hn hL (fun ls' hl' => kk H locs ls' hP hS hl')
theorem j_lstore (C : Ok K l R cc own ws G n0 nL) {i : Nat} {x : Int64} (L' : List (Nat × Value)) (hdg : decode cc pc = .ok (.lstore i, 2)) (hn : i + 1 < nL) (hL : (i, Value.long x) :: L.filter (fun q => !(q.1 == i) && (!(q.1 == i + 1) && !(q.1 + 1 == i && q.2.category == 2))) = L') (kk : J K M (pc + 2) L' st) : J K M pc L (Value.long x :: st) := by
  obtain ⟨p, l', e, R', s, m, args, below, meth, c, Q, G', n0', nL', cells, slots⟩ := K
  obtain ⟨rfl, rfl, rfl, rfl, rfl, hx, hb, hown, hts, hK, hml, hSt, hce, hsl⟩ := C
  intro H locs ls hP hS hl
  exact lv_lstore hx hb hdg hl hn hL (fun ls' hl' => kk H locs ls' hP hS hl')
theorem j_astore_n (C : Ok K l R cc own ws G n0 nL) {k : Fin 4} {i : Nat} {x : Nat} (L' : List (Nat × Value)) (hdg : decode cc pc = .ok (.astore_n k, 1)) (hi : (k : Nat) = i) (hn : i < nL) (hL : (i, Value.ref x) :: L.filter (fun q => !(q.1 == i) && !(q.1 + 1 == i && q.2.category == 2)) = L') (kk : J K M (pc + 1) L' st) : J K M pc L (Value.ref x :: st) := by
  obtain ⟨p, l', e, R', s, m, args, below, meth, c, Q, G', n0', nL', cells, slots⟩ := K
  obtain ⟨rfl, rfl, rfl, rfl, rfl, hx, hb, hown, hts, hK, hml, hSt, hce, hsl⟩ := C
  intro H locs ls hP hS hl
  exact lv_astore_n hx hb hdg hi hl hn hL (fun ls' hl' => kk H locs ls' hP hS hl')
theorem j_astore (C : Ok K l R cc own ws G n0 nL) {i : Nat} {x : Nat} (L' : List (Nat × Value)) (hdg : decode cc pc = .ok (.astore i, 2)) (hn : i < nL) (hL : (i, Value.ref x) :: L.filter (fun q => !(q.1 == i) && !(q.1 + 1 == i && q.2.category == 2)) = L') (kk : J K M (pc + 2) L' st) : J K M pc L (Value.ref x :: st) := by
  obtain ⟨p, l', e, R', s, m, args, below, meth, c, Q, G', n0', nL', cells, slots⟩ := K
  obtain ⟨rfl, rfl, rfl, rfl, rfl, hx, hb, hown, hts, hK, hml, hSt, hce, hsl⟩ := C
  intro H locs ls hP hS hl
  exact lv_astore hx hb hdg hl hn hL (fun ls' hl' => kk H locs ls' hP hS hl')
theorem j_iinc (C : Ok K l R cc own ws G n0 nL) {i : Nat} {n : Int} {x : Int32} (q : Nat) (v : Int32) (L' : List (Nat × Value)) (hdg : decode cc pc = .ok (.iinc i n, 3)) (hq : L[q]? = some (i, .int x)) (hv : x + Int32.ofInt n = v) (hn : i < nL) (hL : (i, Value.int v) :: L.filter (fun q => !(q.1 == i) && !(q.1 + 1 == i && q.2.category == 2)) = L') (kk : J K M (pc + 3) L' st) : J K M pc L st := by
  obtain ⟨p, l', e, R', s, m, args, below, meth, c, Q, G', n0', nL', cells, slots⟩ := K
  obtain ⟨rfl, rfl, rfl, rfl, rfl, hx, hb, hown, hts, hK, hml, hSt, hce, hsl⟩ := C
  intro H locs ls hP hS hl
  exact lv_iinc hx hb hdg hl hq hv hn hL (fun ls' hl' => kk H locs ls' hP hS hl')
theorem j_iadd (C : Ok K l R cc own ws G n0 nL) {x y : Int32} (hdg : decode cc pc = .ok (.iadd, 1)) (kk : J K M (pc + 1) L (.int (x + y) :: st)) : J K M pc L (.int y :: .int x :: st) := by
  obtain ⟨p, l', e, R', s, m, args, below, meth, c, Q, G', n0', nL', cells, slots⟩ := K
  obtain ⟨rfl, rfl, rfl, rfl, rfl, hx, hb, hown, hts, hK, hml, hSt, hce, hsl⟩ := C
  intro H locs ls hP hS hl
  exact lv_iadd hx hb hdg  (kk H locs ls hP hS hl)
theorem j_isub (C : Ok K l R cc own ws G n0 nL) {x y : Int32} (hdg : decode cc pc = .ok (.isub, 1)) (kk : J K M (pc + 1) L (.int (x - y) :: st)) : J K M pc L (.int y :: .int x :: st) := by
  obtain ⟨p, l', e, R', s, m, args, below, meth, c, Q, G', n0', nL', cells, slots⟩ := K
  obtain ⟨rfl, rfl, rfl, rfl, rfl, hx, hb, hown, hts, hK, hml, hSt, hce, hsl⟩ := C
  intro H locs ls hP hS hl
  exact lv_isub hx hb hdg  (kk H locs ls hP hS hl)
theorem j_imul (C : Ok K l R cc own ws G n0 nL) {x y : Int32} (hdg : decode cc pc = .ok (.imul, 1)) (kk : J K M (pc + 1) L (.int (x * y) :: st)) : J K M pc L (.int y :: .int x :: st) := by
  obtain ⟨p, l', e, R', s, m, args, below, meth, c, Q, G', n0', nL', cells, slots⟩ := K
  obtain ⟨rfl, rfl, rfl, rfl, rfl, hx, hb, hown, hts, hK, hml, hSt, hce, hsl⟩ := C
  intro H locs ls hP hS hl
  exact lv_imul hx hb hdg  (kk H locs ls hP hS hl)
theorem j_iand (C : Ok K l R cc own ws G n0 nL) {x y : Int32} (hdg : decode cc pc = .ok (.iand, 1)) (kk : J K M (pc + 1) L (.int (x &&& y) :: st)) : J K M pc L (.int y :: .int x :: st) := by
  obtain ⟨p, l', e, R', s, m, args, below, meth, c, Q, G', n0', nL', cells, slots⟩ := K
  obtain ⟨rfl, rfl, rfl, rfl, rfl, hx, hb, hown, hts, hK, hml, hSt, hce, hsl⟩ := C
  intro H locs ls hP hS hl
  exact lv_iand hx hb hdg  (kk H locs ls hP hS hl)
theorem j_ior (C : Ok K l R cc own ws G n0 nL) {x y : Int32} (hdg : decode cc pc = .ok (.ior, 1)) (kk : J K M (pc + 1) L (.int (x ||| y) :: st)) : J K M pc L (.int y :: .int x :: st) := by
  obtain ⟨p, l', e, R', s, m, args, below, meth, c, Q, G', n0', nL', cells, slots⟩ := K
  obtain ⟨rfl, rfl, rfl, rfl, rfl, hx, hb, hown, hts, hK, hml, hSt, hce, hsl⟩ := C
  intro H locs ls hP hS hl
  exact lv_ior hx hb hdg  (kk H locs ls hP hS hl)
theorem j_ixor (C : Ok K l R cc own ws G n0 nL) {x y : Int32} (hdg : decode cc pc = .ok (.ixor, 1)) (kk : J K M (pc + 1) L (.int (x ^^^ y) :: st)) : J K M pc L (.int y :: .int x :: st) := by
  obtain ⟨p, l', e, R', s, m, args, below, meth, c, Q, G', n0', nL', cells, slots⟩ := K
  obtain ⟨rfl, rfl, rfl, rfl, rfl, hx, hb, hown, hts, hK, hml, hSt, hce, hsl⟩ := C
  intro H locs ls hP hS hl
  exact lv_ixor hx hb hdg  (kk H locs ls hP hS hl)
theorem j_idiv (C : Ok K l R cc own ws G n0 nL) {x y : Int32} (hne : ¬ y = 0) (hdg : decode cc pc = .ok (.idiv, 1)) (kk : J K M (pc + 1) L (.int (x / y) :: st)) : J K M pc L (.int y :: .int x :: st) := by
  obtain ⟨p, l', e, R', s, m, args, below, meth, c, Q, G', n0', nL', cells, slots⟩ := K
  obtain ⟨rfl, rfl, rfl, rfl, rfl, hx, hb, hown, hts, hK, hml, hSt, hce, hsl⟩ := C
  intro H locs ls hP hS hl
  exact lv_idiv hx hb hdg hne (kk H locs ls hP hS hl)
theorem j_irem (C : Ok K l R cc own ws G n0 nL) {x y : Int32} (hne : ¬ y = 0) (hdg : decode cc pc = .ok (.irem, 1)) (kk : J K M (pc + 1) L (.int (x - x / y * y) :: st)) : J K M pc L (.int y :: .int x :: st) := by
  obtain ⟨p, l', e, R', s, m, args, below, meth, c, Q, G', n0', nL', cells, slots⟩ := K
  obtain ⟨rfl, rfl, rfl, rfl, rfl, hx, hb, hown, hts, hK, hml, hSt, hce, hsl⟩ := C
  intro H locs ls hP hS hl
  exact lv_irem hx hb hdg hne (kk H locs ls hP hS hl)
theorem j_ineg (C : Ok K l R cc own ws G n0 nL) {x : Int32} (hdg : decode cc pc = .ok (.ineg, 1)) (kk : J K M (pc + 1) L (.int (-x) :: st)) : J K M pc L (.int x :: st) := by
  obtain ⟨p, l', e, R', s, m, args, below, meth, c, Q, G', n0', nL', cells, slots⟩ := K
  obtain ⟨rfl, rfl, rfl, rfl, rfl, hx, hb, hown, hts, hK, hml, hSt, hce, hsl⟩ := C
  intro H locs ls hP hS hl
  exact lv_ineg hx hb hdg  (kk H locs ls hP hS hl)
theorem j_ladd (C : Ok K l R cc own ws G n0 nL) {x y : Int64} (hdg : decode cc pc = .ok (.ladd, 1)) (kk : J K M (pc + 1) L (.long (x + y) :: st)) : J K M pc L (.long y :: .long x :: st) := by
  obtain ⟨p, l', e, R', s, m, args, below, meth, c, Q, G', n0', nL', cells, slots⟩ := K
  obtain ⟨rfl, rfl, rfl, rfl, rfl, hx, hb, hown, hts, hK, hml, hSt, hce, hsl⟩ := C
  intro H locs ls hP hS hl
  exact lv_ladd hx hb hdg  (kk H locs ls hP hS hl)
theorem j_lsub (C : Ok K l R cc own ws G n0 nL) {x y : Int64} (hdg : decode cc pc = .ok (.lsub, 1)) (kk : J K M (pc + 1) L (.long (x - y) :: st)) : J K M pc L (.long y :: .long x :: st) := by
  obtain ⟨p, l', e, R', s, m, args, below, meth, c, Q, G', n0', nL', cells, slots⟩ := K
  obtain ⟨rfl, rfl, rfl, rfl, rfl, hx, hb, hown, hts, hK, hml, hSt, hce, hsl⟩ := C
  intro H locs ls hP hS hl
  exact lv_lsub hx hb hdg  (kk H locs ls hP hS hl)
theorem j_lmul (C : Ok K l R cc own ws G n0 nL) {x y : Int64} (hdg : decode cc pc = .ok (.lmul, 1)) (kk : J K M (pc + 1) L (.long (x * y) :: st)) : J K M pc L (.long y :: .long x :: st) := by
  obtain ⟨p, l', e, R', s, m, args, below, meth, c, Q, G', n0', nL', cells, slots⟩ := K
  obtain ⟨rfl, rfl, rfl, rfl, rfl, hx, hb, hown, hts, hK, hml, hSt, hce, hsl⟩ := C
  intro H locs ls hP hS hl
  exact lv_lmul hx hb hdg  (kk H locs ls hP hS hl)
theorem j_land (C : Ok K l R cc own ws G n0 nL) {x y : Int64} (hdg : decode cc pc = .ok (.land, 1)) (kk : J K M (pc + 1) L (.long (x &&& y) :: st)) : J K M pc L (.long y :: .long x :: st) := by
  obtain ⟨p, l', e, R', s, m, args, below, meth, c, Q, G', n0', nL', cells, slots⟩ := K
  obtain ⟨rfl, rfl, rfl, rfl, rfl, hx, hb, hown, hts, hK, hml, hSt, hce, hsl⟩ := C
  intro H locs ls hP hS hl
  exact lv_land hx hb hdg  (kk H locs ls hP hS hl)
theorem j_lrem (C : Ok K l R cc own ws G n0 nL) {x y : Int64} (hne : ¬ y = 0) (hdg : decode cc pc = .ok (.lrem, 1)) (kk : J K M (pc + 1) L (.long (x - x / y * y) :: st)) : J K M pc L (.long y :: .long x :: st) := by
  obtain ⟨p, l', e, R', s, m, args, below, meth, c, Q, G', n0', nL', cells, slots⟩ := K
  obtain ⟨rfl, rfl, rfl, rfl, rfl, hx, hb, hown, hts, hK, hml, hSt, hce, hsl⟩ := C
  intro H locs ls hP hS hl
  exact lv_lrem hx hb hdg hne (kk H locs ls hP hS hl)
theorem j_ishl (C : Ok K l R cc own ws G n0 nL) {x y : Int32} (hdg : decode cc pc = .ok (.ishl, 1)) (kk : J K M (pc + 1) L (.int (x <<< (y &&& 31)) :: st)) : J K M pc L (.int y :: .int x :: st) := by
  obtain ⟨p, l', e, R', s, m, args, below, meth, c, Q, G', n0', nL', cells, slots⟩ := K
  obtain ⟨rfl, rfl, rfl, rfl, rfl, hx, hb, hown, hts, hK, hml, hSt, hce, hsl⟩ := C
  intro H locs ls hP hS hl
  exact lv_ishl hx hb hdg  (kk H locs ls hP hS hl)
theorem j_ishr (C : Ok K l R cc own ws G n0 nL) {x y : Int32} (hdg : decode cc pc = .ok (.ishr, 1)) (kk : J K M (pc + 1) L (.int (x >>> (y &&& 31)) :: st)) : J K M pc L (.int y :: .int x :: st) := by
  obtain ⟨p, l', e, R', s, m, args, below, meth, c, Q, G', n0', nL', cells, slots⟩ := K
  obtain ⟨rfl, rfl, rfl, rfl, rfl, hx, hb, hown, hts, hK, hml, hSt, hce, hsl⟩ := C
  intro H locs ls hP hS hl
  exact lv_ishr hx hb hdg  (kk H locs ls hP hS hl)
theorem j_iushr (C : Ok K l R cc own ws G n0 nL) {x y : Int32} (hdg : decode cc pc = .ok (.iushr, 1)) (kk : J K M (pc + 1) L (.int ((x.toUInt32 >>> (y.toUInt32 &&& Int32.toUInt32 31)).toInt32) :: st)) : J K M pc L (.int y :: .int x :: st) := by
  obtain ⟨p, l', e, R', s, m, args, below, meth, c, Q, G', n0', nL', cells, slots⟩ := K
  obtain ⟨rfl, rfl, rfl, rfl, rfl, hx, hb, hown, hts, hK, hml, hSt, hce, hsl⟩ := C
  intro H locs ls hP hS hl
  exact lv_iushr hx hb hdg rfl (kk H locs ls hP hS hl)
theorem j_i2l (C : Ok K l R cc own ws G n0 nL) {x : Int32} (hdg : decode cc pc = .ok (.i2l, 1)) (kk : J K M (pc + 1) L (.long x.toInt64 :: st)) : J K M pc L (.int x :: st) := by
  obtain ⟨p, l', e, R', s, m, args, below, meth, c, Q, G', n0', nL', cells, slots⟩ := K
  obtain ⟨rfl, rfl, rfl, rfl, rfl, hx, hb, hown, hts, hK, hml, hSt, hce, hsl⟩ := C
  intro H locs ls hP hS hl
  exact lv_i2l hx hb hdg rfl (kk H locs ls hP hS hl)
theorem j_l2i (C : Ok K l R cc own ws G n0 nL) {x : Int64} (hdg : decode cc pc = .ok (.l2i, 1)) (kk : J K M (pc + 1) L (.int x.toInt32 :: st)) : J K M pc L (.long x :: st) := by
  obtain ⟨p, l', e, R', s, m, args, below, meth, c, Q, G', n0', nL', cells, slots⟩ := K
  obtain ⟨rfl, rfl, rfl, rfl, rfl, hx, hb, hown, hts, hK, hml, hSt, hce, hsl⟩ := C
  intro H locs ls hP hS hl
  exact lv_l2i hx hb hdg rfl (kk H locs ls hP hS hl)
theorem j_i2b (C : Ok K l R cc own ws G n0 nL) {x : Int32} (hdg : decode cc pc = .ok (.i2b, 1)) (kk : J K M (pc + 1) L (.int x.toInt8.toInt32 :: st)) : J K M pc L (.int x :: st) := by
  obtain ⟨p, l', e, R', s, m, args, below, meth, c, Q, G', n0', nL', cells, slots⟩ := K
  obtain ⟨rfl, rfl, rfl, rfl, rfl, hx, hb, hown, hts, hK, hml, hSt, hce, hsl⟩ := C
  intro H locs ls hP hS hl
  exact lv_i2b hx hb hdg rfl (kk H locs ls hP hS hl)
theorem j_dup (C : Ok K l R cc own ws G n0 nL) {a : Value} (ha : a.category = 1) (hdg : decode cc pc = .ok (.dup, 1)) (kk : J K M (pc + 1) L (a :: a :: st)) : J K M pc L (a :: st) := by
  obtain ⟨p, l', e, R', s, m, args, below, meth, c, Q, G', n0', nL', cells, slots⟩ := K
  obtain ⟨rfl, rfl, rfl, rfl, rfl, hx, hb, hown, hts, hK, hml, hSt, hce, hsl⟩ := C
  intro H locs ls hP hS hl
  exact lv_dup hx hb hdg ha (kk H locs ls hP hS hl)
theorem j_pop (C : Ok K l R cc own ws G n0 nL) {a : Value} (ha : a.category = 1) (hdg : decode cc pc = .ok (.pop, 1)) (kk : J K M (pc + 1) L (st)) : J K M pc L (a :: st) := by
  obtain ⟨p, l', e, R', s, m, args, below, meth, c, Q, G', n0', nL', cells, slots⟩ := K
  obtain ⟨rfl, rfl, rfl, rfl, rfl, hx, hb, hown, hts, hK, hml, hSt, hce, hsl⟩ := C
  intro H locs ls hP hS hl
  exact lv_pop hx hb hdg ha (kk H locs ls hP hS hl)
theorem j_dup2_11 (C : Ok K l R cc own ws G n0 nL) {a b : Value} (ha : a.category = 1) (hb' : b.category = 1) (hdg : decode cc pc = .ok (.dup2, 1)) (kk : J K M (pc + 1) L (a :: b :: a :: b :: st)) : J K M pc L (a :: b :: st) := by
  obtain ⟨p, l', e, R', s, m, args, below, meth, c, Q, G', n0', nL', cells, slots⟩ := K
  obtain ⟨rfl, rfl, rfl, rfl, rfl, hx, hb, hown, hts, hK, hml, hSt, hce, hsl⟩ := C
  intro H locs ls hP hS hl
  exact lv_dup2_11 hx hb hdg ha hb' (kk H locs ls hP hS hl)
theorem j_if_eq (C : Ok K l R cc own ws G n0 nL) {x : Int32} {off : Int} (tgt : Nat) (hdg : decode cc pc = .ok (.ifCond .eq off, 3)) (ht : (pc : Int) + off = (tgt : Int)) (kt : x = 0 → J K M tgt L st) (kf : ¬ x = 0 → J K M (pc + 3) L st) : J K M pc L (.int x :: st) := by
  obtain ⟨p, l', e, R', s, m, args, below, meth, c, Q, G', n0', nL', cells, slots⟩ := K
  obtain ⟨rfl, rfl, rfl, rfl, rfl, hx, hb, hown, hts, hK, hml, hSt, hce, hsl⟩ := C
  intro H locs ls hP hS hl
  exact lv_if_eq hx hb hdg ht (fun h => kt h H locs ls hP hS hl) (fun h => kf h H locs ls hP hS hl)
theorem j_if_ne (C : Ok K l R cc own ws G n0 nL) {x : Int32} {off : Int} (tgt : Nat) (hdg : decode cc pc = .ok (.ifCond .ne off, 3)) (ht : (pc : Int) + off = (tgt : Int)) (kt : ¬ x = 0 → J K M tgt L st) (kf : x = 0 → J K M (pc + 3) L st) : J K M pc L (.int x :: st) := by
  obtain ⟨p, l', e, R', s, m, args, below, meth, c, Q, G', n0', nL', cells, slots⟩ := K
  obtain ⟨rfl, rfl, rfl, rfl, rfl, hx, hb, hown, hts, hK, hml, hSt, hce, hsl⟩ := C
  intro H locs ls hP hS hl
  exact lv_if_ne hx hb hdg ht (fun h => kt h H locs ls hP hS hl) (fun h => kf h H locs ls hP hS hl)
theorem j_if_lt (C : Ok K l R cc own ws G n0 nL) {x : Int32} {off : Int} (tgt : Nat) (hdg : decode cc pc = .ok (.ifCond .lt off, 3)) (ht : (pc : Int) + off = (tgt : Int)) (kt : x < 0 → J K M tgt L st) (kf : ¬ x < 0 → J K M (pc + 3) L st) : J K M pc L (.int x :: st) := by
  obtain ⟨p, l', e, R', s, m, args, below, meth, c, Q, G', n0', nL', cells, slots⟩ := K
  obtain ⟨rfl, rfl, rfl, rfl, rfl, hx, hb, hown, hts, hK, hml, hSt, hce, hsl⟩ := C
  intro H locs ls hP hS hl
  exact lv_if_lt hx hb hdg ht (fun h => kt h H locs ls hP hS hl) (fun h => kf h H locs ls hP hS hl)
theorem j_if_ge (C : Ok K l R cc own ws G n0 nL) {x : Int32} {off : Int} (tgt : Nat) (hdg : decode cc pc = .ok (.ifCond .ge off, 3)) (ht : (pc : Int) + off = (tgt : Int)) (kt : 0 ≤ x → J K M tgt L st) (kf : ¬ 0 ≤ x → J K M (pc + 3) L st) : J K M pc L (.int x :: st) := by
  obtain ⟨p, l', e, R', s, m, args, below, meth, c, Q, G', n0', nL', cells, slots⟩ := K
  obtain ⟨rfl, rfl, rfl, rfl, rfl, hx, hb, hown, hts, hK, hml, hSt, hce, hsl⟩ := C
  intro H locs ls hP hS hl
  exact lv_if_ge hx hb hdg ht (fun h => kt h H locs ls hP hS hl) (fun h => kf h H locs ls hP hS hl)
theorem j_if_gt (C : Ok K l R cc own ws G n0 nL) {x : Int32} {off : Int} (tgt : Nat) (hdg : decode cc pc = .ok (.ifCond .gt off, 3)) (ht : (pc : Int) + off = (tgt : Int)) (kt : 0 < x → J K M tgt L st) (kf : ¬ 0 < x → J K M (pc + 3) L st) : J K M pc L (.int x :: st) := by
  obtain ⟨p, l', e, R', s, m, args, below, meth, c, Q, G', n0', nL', cells, slots⟩ := K
  obtain ⟨rfl, rfl, rfl, rfl, rfl, hx, hb, hown, hts, hK, hml, hSt, hce, hsl⟩ := C
  intro H locs ls hP hS hl
  exact lv_if_gt hx hb hdg ht (fun h => kt h H locs ls hP hS hl) (fun h => kf h H locs ls hP hS hl)
theorem j_if_le (C : Ok K l R cc own ws G n0 nL) {x : Int32} {off : Int} (tgt : Nat) (hdg : decode cc pc = .ok (.ifCond .le off, 3)) (ht : (pc : Int) + off = (tgt : Int)) (kt : x ≤ 0 → J K M tgt L st) (kf : ¬ x ≤ 0 → J K M (pc + 3) L st) : J K M pc L (.int x :: st) := by
  obtain ⟨p, l', e, R', s, m, args, below, meth, c, Q, G', n0', nL', cells, slots⟩ := K
  obtain ⟨rfl, rfl, rfl, rfl, rfl, hx, hb, hown, hts, hK, hml, hSt, hce, hsl⟩ := C
  intro H locs ls hP hS hl
  exact lv_if_le hx hb hdg ht (fun h => kt h H locs ls hP hS hl) (fun h => kf h H locs ls hP hS hl)
theorem j_icmp_eq (C : Ok K l R cc own ws G n0 nL) {x y : Int32} {off : Int} (tgt : Nat) (hdg : decode cc pc = .ok (.if_icmp .eq off, 3)) (ht : (pc : Int) + off = (tgt : Int)) (kt : x = y → J K M tgt L st) (kf : ¬ x = y → J K M (pc + 3) L st) : J K M pc L (.int y :: .int x :: st) := by
  obtain ⟨p, l', e, R', s, m, args, below, meth, c, Q, G', n0', nL', cells, slots⟩ := K
  obtain ⟨rfl, rfl, rfl, rfl, rfl, hx, hb, hown, hts, hK, hml, hSt, hce, hsl⟩ := C
  intro H locs ls hP hS hl
  exact lv_icmp_eq hx hb hdg ht (fun h => kt h H locs ls hP hS hl) (fun h => kf h H locs ls hP hS hl)
theorem j_icmp_ne (C : Ok K l R cc own ws G n0 nL) {x y : Int32} {off : Int} (tgt : Nat) (hdg : decode cc pc = .ok (.if_icmp .ne off, 3)) (ht : (pc : Int) + off = (tgt : Int)) (kt : ¬ x = y → J K M tgt L st) (kf : x = y → J K M (pc + 3) L st) : J K M pc L (.int y :: .int x :: st) := by
  obtain ⟨p, l', e, R', s, m, args, below, meth, c, Q, G', n0', nL', cells, slots⟩ := K
  obtain ⟨rfl, rfl, rfl, rfl, rfl, hx, hb, hown, hts, hK, hml, hSt, hce, hsl⟩ := C
  intro H locs ls hP hS hl
  exact lv_icmp_ne hx hb hdg ht (fun h => kt h H locs ls hP hS hl) (fun h => kf h H locs ls hP hS hl)
theorem j_icmp_lt (C : Ok K l R cc own ws G n0 nL) {x y : Int32} {off : Int} (tgt : Nat) (hdg : decode cc pc = .ok (.if_icmp .lt off, 3)) (ht : (pc : Int) + off = (tgt : Int)) (kt : x < y → J K M tgt L st) (kf : ¬ x < y → J K M (pc + 3) L st) : J K M pc L (.int y :: .int x :: st) := by
  obtain ⟨p, l', e, R', s, m, args, below, meth, c, Q, G', n0', nL', cells, slots⟩ := K
  obtain ⟨rfl, rfl, rfl, rfl, rfl, hx, hb, hown, hts, hK, hml, hSt, hce, hsl⟩ := C
  intro H locs ls hP hS hl
  exact lv_icmp_lt hx hb hdg ht (fun h => kt h H locs ls hP hS hl) (fun h => kf h H locs ls hP hS hl)
theorem j_icmp_ge (C : Ok K l R cc own ws G n0 nL) {x y : Int32} {off : Int} (tgt : Nat) (hdg : decode cc pc = .ok (.if_icmp .ge off, 3)) (ht : (pc : Int) + off = (tgt : Int)) (kt : y ≤ x → J K M tgt L st) (kf : ¬ y ≤ x → J K M (pc + 3) L st) : J K M pc L (.int y :: .int x :: st) := by
  obtain ⟨p, l', e, R', s, m, args, below, meth, c, Q, G', n0', nL', cells, slots⟩ := K
  obtain ⟨rfl, rfl, rfl, rfl, rfl, hx, hb, hown, hts, hK, hml, hSt, hce, hsl⟩ := C
  intro H locs ls hP hS hl
  exact lv_icmp_ge hx hb hdg ht (fun h => kt h H locs ls hP hS hl) (fun h => kf h H locs ls hP hS hl)
theorem j_icmp_gt (C : Ok K l R cc own ws G n0 nL) {x y : Int32} {off : Int} (tgt : Nat) (hdg : decode cc pc = .ok (.if_icmp .gt off, 3)) (ht : (pc : Int) + off = (tgt : Int)) (kt : y < x → J K M tgt L st) (kf : ¬ y < x → J K M (pc + 3) L st) : J K M pc L (.int y :: .int x :: st) := by
  obtain ⟨p, l', e, R', s, m, args, below, meth, c, Q, G', n0', nL', cells, slots⟩ := K
  obtain ⟨rfl, rfl, rfl, rfl, rfl, hx, hb, hown, hts, hK, hml, hSt, hce, hsl⟩ := C
  intro H locs ls hP hS hl
  exact lv_icmp_gt hx hb hdg ht (fun h => kt h H locs ls hP hS hl) (fun h => kf h H locs ls hP hS hl)
theorem j_icmp_le (C : Ok K l R cc own ws G n0 nL) {x y : Int32} {off : Int} (tgt : Nat) (hdg : decode cc pc = .ok (.if_icmp .le off, 3)) (ht : (pc : Int) + off = (tgt : Int)) (kt : x ≤ y → J K M tgt L st) (kf : ¬ x ≤ y → J K M (pc + 3) L st) : J K M pc L (.int y :: .int x :: st) := by
  obtain ⟨p, l', e, R', s, m, args, below, meth, c, Q, G', n0', nL', cells, slots⟩ := K
  obtain ⟨rfl, rfl, rfl, rfl, rfl, hx, hb, hown, hts, hK, hml, hSt, hce, hsl⟩ := C
  intro H locs ls hP hS hl
  exact lv_icmp_le hx hb hdg ht (fun h => kt h H locs ls hP hS hl) (fun h => kf h H locs ls hP hS hl)
theorem j_goto (C : Ok K l R cc own ws G n0 nL) {off : Int} (tgt : Nat) (hdg : decode cc pc = .ok (.goto off, 3)) (ht : (pc : Int) + off = (tgt : Int)) (kk : J K M tgt L st) : J K M pc L st := by
  obtain ⟨p, l', e, R', s, m, args, below, meth, c, Q, G', n0', nL', cells, slots⟩ := K
  obtain ⟨rfl, rfl, rfl, rfl, rfl, hx, hb, hown, hts, hK, hml, hSt, hce, hsl⟩ := C
  intro H locs ls hP hS hl
  exact lv_goto hx hb hdg ht (kk H locs ls hP hS hl)
theorem j_ldc (C : Ok K l R cc own ws G n0 nL) {index : Nat} {v : Int32} (hw : Cond.constant own index v ∈ ws) (hdg : decode cc pc = .ok (.ldc index, 2)) (kk : J K M (pc + 2) L (.int v :: st)) : J K M pc L st := by
  obtain ⟨p, l', e, R', s, m, args, below, meth, c, Q, G', n0', nL', cells, slots⟩ := K
  obtain ⟨rfl, rfl, rfl, rfl, rfl, hx, hb, hown, hts, hK, hml, hSt, hce, hsl⟩ := C
  intro H locs ls hP hS hl
  exact lv_ldc hx hb hown (hts _ hw) hdg (kk H locs ls hP hS hl)
theorem j_ldc_w (C : Ok K l R cc own ws G n0 nL) {index : Nat} {v : Int32} (hw : Cond.constant own index v ∈ ws) (hdg : decode cc pc = .ok (.ldc_w index, 3)) (kk : J K M (pc + 3) L (.int v :: st)) : J K M pc L st := by
  obtain ⟨p, l', e, R', s, m, args, below, meth, c, Q, G', n0', nL', cells, slots⟩ := K
  obtain ⟨rfl, rfl, rfl, rfl, rfl, hx, hb, hown, hts, hK, hml, hSt, hce, hsl⟩ := C
  intro H locs ls hP hS hl
  exact lv_ldcw hx hb hown (hts _ hw) hdg (kk H locs ls hP hS hl)
theorem j_ldc2 (C : Ok K l R cc own ws G n0 nL) {index : Nat} {v : Int64} (hw : Cond.constantLong own index v ∈ ws) (hdg : decode cc pc = .ok (.ldc2_w index, 3)) (kk : J K M (pc + 3) L (.long v :: st)) : J K M pc L st := by
  obtain ⟨p, l', e, R', s, m, args, below, meth, c, Q, G', n0', nL', cells, slots⟩ := K
  obtain ⟨rfl, rfl, rfl, rfl, rfl, hx, hb, hown, hts, hK, hml, hSt, hce, hsl⟩ := C
  intro H locs ls hP hS hl
  exact lv_ldc2 hx hb hown (hts _ hw) hdg (kk H locs ls hP hS hl)
theorem j_getf (C : Ok K l R cc own ws G n0 nL) {D : String} {T : u_T} {N ci index t tag : Nat} {fs : List Value} {v : Value} (k : Nat) (hin : ∀ w ∈ u_ws D T N, w ∈ ws) (hc : vwCl[ci]? = some (D, T, N)) (hk : k < N) (hD : (T k).1 = D) (hlk : Cond.fieldLink own index D (T k).2.1 (T k).2.2.1 ∈ ws) (ht : lay[t]? = some tag) (he : ent G n0 tag t (M.1 t) (M.2 t) = .inr (ci, fs)) (hv : fs[k]? = some v) (hdg : decode cc pc = .ok (.getfield index, 3)) (kk : J K M (pc + 3) L (v :: st)) : J K M pc L (.ref (n0 + t) :: st) := by
  obtain ⟨p, l', e, R', s, m, args, below, meth, c, Q, G', n0', nL', cells, slots⟩ := K
  obtain ⟨rfl, rfl, rfl, rfl, rfl, hx, hb, hown, hts, hK, hml, hSt, hce, hsl⟩ := C
  intro H locs ls hP hS hl
  exact va_get hx hb hts hin hown hK hP t (by rw [wld_at ht, he]) hc k hk (hts _ hlk) (fun x h => by rw [hD] at h; exact h) hv hdg (kk H locs ls hP hS hl)
theorem j_putf (C : Ok K l R cc own ws G n0 nL) {D : String} {T : u_T} {N ci index t tag : Nat} {fs : List Value} {v : Value} {ty : FieldType} {M' : Mem} (ty0 : Nat → FieldType) (k : Nat) (hin : ∀ w ∈ u_ws D T N, w ∈ ws) (hc : vwCl[ci]? = some (D, T, N)) (hk : k < N) (hty : ∀ k, k < N → parseFieldDescriptor (T k).2.2.1 = some (ty0 k)) (hnm : ∀ a, a < N → ∀ b, b < N → a ≠ b → (T a).2.1 ≠ (T b).2.1) (hD : (T k).1 = D) (hlk : Cond.fieldLink own index D (T k).2.1 (T k).2.2.1 ∈ ws) (hfin : (T k).2.2.2 = false) (hd : parseFieldDescriptor (T k).2.2.1 = some ty) (hn : narrow ty v = v) (hfit : fits ty v = true) (ht : lay[t]? = some tag) (he : ent G n0 tag t (M.1 t) (M.2 t) = .inr (ci, fs)) (hl' : k < fs.length) (he' : ent G n0 tag t (M'.1 t) (M'.2 t) = .inr (ci, fs.set k v)) (ho1 : ∀ a, a ≠ t → M'.1 a = M.1 a) (ho2 : ∀ a, a ≠ t → M'.2 a = M.2 a) (hdg : decode cc pc = .ok (.putfield index, 3)) (kk : J K M' (pc + 3) L st) : J K M pc L (v :: .ref (n0 + t) :: st) := by
  obtain ⟨p, l', e, R', s, m, args, below, meth, c, Q, G', n0', nL', cells, slots⟩ := K
  obtain ⟨rfl, rfl, rfl, rfl, rfl, hx, hb, hown, hts, hK, hml, hSt, hce, hsl⟩ := C
  intro H locs ls hP hS hl
  refine va_put hx hb hts hin ty0 hty hnm hown hK hP (wld_D _ _ _) hS t (by rw [wld_at ht, he]) hc k hk (hts _ hlk) (fun x h => by rw [hD] at h; exact h) hfin hd hn hfit hl' hdg (fun H1 locs1 hP1 _ hS1 => ?_)
  rw [wld_set ht he' ho1 ho2] at hP1
  exact kk H1 locs1 ls hP1 hS1 hl
theorem j_iald (C : Ok K l R cc own ws G n0 nL) {t n : Nat} {i : Int32} (ht : lay[t]? = some (tI n)) (hin : vp_in i n) (hdg : decode cc pc = .ok (.iaload, 1)) (kk : J K M (pc + 1) L (.int (M.1 t i.toNatClampNeg) :: st)) : J K M pc L (.int i :: .ref (n0 + t) :: st) := by
  obtain ⟨p, l', e, R', s, m, args, below, meth, c, Q, G', n0', nL', cells, slots⟩ := K
  obtain ⟨rfl, rfl, rfl, rfl, rfl, hx, hb, hown, hts, hK, hml, hSt, hce, hsl⟩ := C
  intro H locs ls hP hS hl
  exact va_iald hx hb hK hP t 0 (by rw [wld_at ht, ent_I]) rfl hin hdg (kk H locs ls hP hS hl)
theorem j_iast (C : Ok K l R cc own ws G n0 nL) {t n : Nat} {i x : Int32} {M' : Mem} (ht : lay[t]? = some (tI n)) (hin : vp_in i n) (hM : M' = mput M t i.toNatClampNeg x) (hdg : decode cc pc = .ok (.iastore, 1)) (kk : J K M' (pc + 1) L st) : J K M pc L (.int x :: .int i :: .ref (n0 + t) :: st) := by
  obtain ⟨p, l', e, R', s, m, args, below, meth, c, Q, G', n0', nL', cells, slots⟩ := K
  obtain ⟨rfl, rfl, rfl, rfl, rfl, hx, hb, hown, hts, hK, hml, hSt, hce, hsl⟩ := C
  intro H locs ls hP hS hl
  subst hM
  refine va_iast hx hb hK hP (wld_D _ _ _) hS t 0 (by rw [wld_at ht, ent_I]) rfl hin hdg (fun H1 locs1 hP1 _ hS1 => ?_)
  rw [wld_set ht (M' := mput M t i.toNatClampNeg x) (by rw [ent_I, mput_row]) (fun a ha => mput_ne M x ha) (fun a ha => rfl)] at hP1
  exact kk H1 locs1 ls hP1 hS1 hl
theorem j_alenI (C : Ok K l R cc own ws G n0 nL) {t n : Nat} (v : Int32) (hv : Int32.ofNat n = v) (ht : lay[t]? = some (tI n)) (hdg : decode cc pc = .ok (.arraylength, 1)) (kk : J K M (pc + 1) L (.int v :: st)) : J K M pc L (.ref (n0 + t) :: st) := by
  obtain ⟨p, l', e, R', s, m, args, below, meth, c, Q, G', n0', nL', cells, slots⟩ := K
  obtain ⟨rfl, rfl, rfl, rfl, rfl, hx, hb, hown, hts, hK, hml, hSt, hce, hsl⟩ := C
  intro H locs ls hP hS hl
  exact va_alen hx hb hK hP t 0 (by rw [wld_at ht, ent_I]) rfl hv hdg (kk H locs ls hP hS hl)
theorem j_alenC (C : Ok K l R cc own ws G n0 nL) {t w : Nat} (ht : lay[t]? = some (tC w)) (hdg : decode cc pc = .ok (.arraylength, 1)) (kk : J K M (pc + 1) L (.int (nI w) :: st)) : J K M pc L (.ref (n0 + t) :: st) := by
  obtain ⟨p, l', e, R', s, m, args, below, meth, c, Q, G', n0', nL', cells, slots⟩ := K
  obtain ⟨rfl, rfl, rfl, rfl, rfl, hx, hb, hown, hts, hK, hml, hSt, hce, hsl⟩ := C
  intro H locs ls hP hS hl
  exact va_alen hx hb hK hP t 3 (by rw [wld_at ht, ent_C]) rfl rfl hdg (kk H locs ls hP hS hl)
theorem j_aldC (C : Ok K l R cc own ws G n0 nL) {t w : Nat} {i : Int32} (ht : lay[t]? = some (tC w)) (hin : vp_in i w) (hdg : decode cc pc = .ok (.aaload, 1)) (kk : J K M (pc + 1) L (.ref (n0 + (t + (1 + i.toNatClampNeg))) :: st)) : J K M pc L (.int i :: .ref (n0 + t) :: st) := by
  obtain ⟨p, l', e, R', s, m, args, below, meth, c, Q, G', n0', nL', cells, slots⟩ := K
  obtain ⟨rfl, rfl, rfl, rfl, rfl, hx, hb, hown, hts, hK, hml, hSt, hce, hsl⟩ := C
  intro H locs ls hP hS hl
  have hlt : i.toNatClampNeg < w := Nat.not_le.mp fun q => hin (Or.inr q)
  have ha : (wld G' n0' M)[t]? = some (n0' + t, .inl (G'.2.1 3, w, .inr (.inr (.inr (.inr (fun i => some (n0' + (t + (1 + i))))))))) := by rw [wld_at ht, ent_C]
  exact W.aald (v := .ref (n0' + (t + (1 + i.toNatClampNeg)))) (ty := .array .int) hx hb (hP t _ ha) ((hK.2 3 _ rfl).1 w (fun j => va_rf (some (n0' + (t + (1 + j)))))) rfl (fun q => by cases q) (by show ¬ (i < 0 ∨ (arrV _ _ _).slots.size ≤ _); rw [arrV_size]; exact hin) (by show (arrV _ _ _).slots[_]? = _; rw [arrV_read _ _ hlt]; rfl) rfl rfl hdg (kk H locs ls hP hS hl)
theorem j_bald (C : Ok K l R cc own ws G n0 nL) {t : Nat} {i : Int32} (ht : lay[t]? = some (tK 14)) (hin : vp_in i 150) (hdg : decode cc pc = .ok (.baload, 1)) (kk : J K M (pc + 1) L (.int (M.1 t i.toNatClampNeg) :: st)) : J K M pc L (.int i :: .ref (n0 + t) :: st) := by
  obtain ⟨p, l', e, R', s, m, args, below, meth, c, Q, G', n0', nL', cells, slots⟩ := K
  obtain ⟨rfl, rfl, rfl, rfl, rfl, hx, hb, hown, hts, hK, hml, hSt, hce, hsl⟩ := C
  intro H locs ls hP hS hl
  exact va_bald hx hb hK hP t 1 (by rw [wld_at ht, ent_K]; rfl) rfl hin hdg (kk H locs ls hP hS hl)
theorem j_bast (C : Ok K l R cc own ws G n0 nL) {t : Nat} {i x : Int32} {M' : Mem} (ht : lay[t]? = some (tK 14)) (hin : vp_in i 150) (hM : M' = mput M t i.toNatClampNeg (vp_nar .byte x)) (hdg : decode cc pc = .ok (.bastore, 1)) (kk : J K M' (pc + 1) L st) : J K M pc L (.int x :: .int i :: .ref (n0 + t) :: st) := by
  obtain ⟨p, l', e, R', s, m, args, below, meth, c, Q, G', n0', nL', cells, slots⟩ := K
  obtain ⟨rfl, rfl, rfl, rfl, rfl, hx, hb, hown, hts, hK, hml, hSt, hce, hsl⟩ := C
  intro H locs ls hP hS hl
  subst hM
  refine va_bast hx hb hK hP (wld_D _ _ _) hS t 1 (by rw [wld_at ht, ent_K]; rfl) rfl hin hdg (fun H1 locs1 hP1 _ hS1 => ?_)
  rw [wld_set ht (M' := mput M t i.toNatClampNeg (vp_nar .byte x)) (by rw [ent_K, mput_row]; rfl) (fun a ha => mput_ne M _ ha) (fun a ha => rfl)] at hP1
  exact kk H1 locs1 ls hP1 hS1 hl
end JROWS
end
section
/-- a method returns v and leaves the memory M' -/
def QR (G : Gx) (n0 : Nat) (v : Option Value) (M' : Mem) : Array Value → State → Outcome → State → Prop := fun _ st oc t => oc = .returned v ∧ Rl G n0 M' t ∧ va_F (fun q => n0 ≤ q) st t
def Ct (l : Launch) (y : MethodName) (ws : List Cond) (rm : Room) (G : Gx) (n0 : Nat) (av : List Value) (M : Mem) (v : Option Value) (M' : Mem) : Prop := Met l y ws rm (va_Pc av (Rl G n0 M)) (QR G n0 v M') 0 0 (fun q => n0 ≤ q)
def bI (b : Bool) : Int32 := if b then 1 else 0
theorem bI_nar (b : Bool) : narrow .boolean (.int (bI b)) = .int (bI b) := by cases b <;> decide
theorem Rl_blind {G : Gx} {n0 : Nat} {M : Mem} {av : List Value} : FrameBlind (va_Pc av (Rl G n0 M)) := by
  intro a U g mk q
  obtain ⟨q0, qP, qK, qS⟩ := q
  exact ⟨q0, qP, va_K.moved (u := U) (U := U.calling g mk a) (Vm.Alike.refl U.vm) qK, St.same qS rfl rfl⟩
theorem Rl_end {G : Gx} {n0 : Nat} {M : Mem} {s t : State} {H : Heap} {locs : List Loc} (hP : va_P G.1 vwCl (wld G n0 M) H) (hK : va_K G.1 vwCl (tyG G) s) (hSt : St G n0 s) (hS : va_S (fun q => n0 ≤ q) s.heap H locs) (ht : t.heap = H) (hW : s.WarmedH t.vm) : Rl G n0 M t ∧ va_F (fun q => n0 ≤ q) s t := by
  have hF := hS.F ht
  exact ⟨⟨by rw [ht]; exact hP, va_K.moved hW.alike hK, hSt.step hW hF⟩, hF⟩
theorem ct_int {l : Launch} {y : MethodName} {ws ws' : List Cond} {rm : Room} {cc : ByteArray} {maxL : Nat} {G : Gx} {n0 : Nat} {av : List Value} {M M' : Mem} {r : Int32} (hy : plainName y.cls = true) (hw : ws = Cond.code y cc maxL (some .int) :: ws') (hn : (lg_sl av).length ≤ maxL)
    (body : ∀ K, Ok K l rm cc y.cls ws G n0 maxL → (∀ pc L, decode cc pc = .ok (.ireturn, 1) → J K M' pc L [.int r]) → J K M 0 (lv_args 0 av) []) : Ct l y ws rm G n0 av M (some (.int r)) M' := by
  refine Met.ofW (cc := cc) (maxL := maxL) (ret := some .int) hy hw ?_
  intro p e s m args below meth c s₁ B hml hv
  obtain ⟨rfl, hP, hK, hSt⟩ := hv
  have hts := atoms_spec (ws := ws) B.pre
  have hown : s.vm.findClass y.cls = some m.cls := findClass_of_methodNamed B.named
  have hl := lv_entry av (n := maxL) hn
  rw [lg_entry_eq]
  exact body (p, l, e, rm, s, m, av.toArray, below, meth, c, MQ below (QR G n0 (some (.int r)) M') av.toArray s 0 0 (fun q => n0 ≤ q), G, n0, maxL, 0, 0)
    ⟨rfl, rfl, rfl, rfl, rfl, B.exec, B.bytes, hown, hts, hK, hml, hSt, Nat.zero_le _, Nat.zero_le _⟩
    (fun pc L hd H locs ls hP1 hS1 _ => W.iret B.exec B.bytes B.returns (fun t ht hW => ⟨rfl, Rl_end hP1 hK hSt hS1 ht hW⟩) hS1.2.2 hd B.notSynchronized) s.heap [] _ hP va_S.rf hl
theorem ct_bool {l : Launch} {y : MethodName} {ws ws' : List Cond} {rm : Room} {cc : ByteArray} {maxL : Nat} {G : Gx} {n0 : Nat} {av : List Value} {M M' : Mem} {r : Bool} (hy : plainName y.cls = true) (hw : ws = Cond.code y cc maxL (some .boolean) :: ws') (hn : (lg_sl av).length ≤ maxL)
    (body : ∀ K, Ok K l rm cc y.cls ws G n0 maxL → (∀ pc L, decode cc pc = .ok (.ireturn, 1) → J K M' pc L [.int (bI r)]) → J K M 0 (lv_args 0 av) []) : Ct l y ws rm G n0 av M (some (.int (bI r))) M' := by
  refine Met.ofW (cc := cc) (maxL := maxL) (ret := some .boolean) hy hw ?_
  intro p e s m args below meth c s₁ B hml hv
  obtain ⟨rfl, hP, hK, hSt⟩ := hv
  have hts := atoms_spec (ws := ws) B.pre
  have hown : s.vm.findClass y.cls = some m.cls := findClass_of_methodNamed B.named
  have hl := lv_entry av (n := maxL) hn
  rw [lg_entry_eq]
  exact body (p, l, e, rm, s, m, av.toArray, below, meth, c, MQ below (QR G n0 (some (.int (bI r))) M') av.toArray s 0 0 (fun q => n0 ≤ q), G, n0, maxL, 0, 0)
    ⟨rfl, rfl, rfl, rfl, rfl, B.exec, B.bytes, hown, hts, hK, hml, hSt, Nat.zero_le _, Nat.zero_le _⟩
    (fun pc L hd H locs ls hP1 hS1 _ => W.zret B.exec B.bytes B.returns (bI_nar r) (fun t ht hW => ⟨rfl, Rl_end hP1 hK hSt hS1 ht hW⟩) hS1.2.2 hd B.notSynchronized) s.heap [] _ hP va_S.rf hl
theorem ct_long {l : Launch} {y : MethodName} {ws ws' : List Cond} {rm : Room} {cc : ByteArray} {maxL : Nat} {G : Gx} {n0 : Nat} {av : List Value} {M M' : Mem} {r : Int64} (hy : plainName y.cls = true) (hw : ws = Cond.code y cc maxL (some .long) :: ws') (hn : (lg_sl av).length ≤ maxL)
    (body : ∀ K, Ok K l rm cc y.cls ws G n0 maxL → (∀ pc L, decode cc pc = .ok (.lreturn, 1) → J K M' pc L [.long r]) → J K M 0 (lv_args 0 av) []) : Ct l y ws rm G n0 av M (some (.long r)) M' := by
  refine Met.ofW (cc := cc) (maxL := maxL) (ret := some .long) hy hw ?_
  intro p e s m args below meth c s₁ B hml hv
  obtain ⟨rfl, hP, hK, hSt⟩ := hv
  have hts := atoms_spec (ws := ws) B.pre
  have hown : s.vm.findClass y.cls = some m.cls := findClass_of_methodNamed B.named
  have hl := lv_entry av (n := maxL) hn
  rw [lg_entry_eq]
  exact body (p, l, e, rm, s, m, av.toArray, below, meth, c, MQ below (QR G n0 (some (.long r)) M') av.toArray s 0 0 (fun q => n0 ≤ q), G, n0, maxL, 0, 0)
    ⟨rfl, rfl, rfl, rfl, rfl, B.exec, B.bytes, hown, hts, hK, hml, hSt, Nat.zero_le _, Nat.zero_le _⟩
    (fun pc L hd H locs ls hP1 hS1 _ => W.lret B.exec B.bytes B.returns (fun t ht hW => ⟨rfl, Rl_end hP1 hK hSt hS1 ht hW⟩) hS1.2.2 hd B.notSynchronized) s.heap [] _ hP va_S.rf hl
theorem ct_void {l : Launch} {y : MethodName} {ws ws' : List Cond} {rm : Room} {cc : ByteArray} {maxL : Nat} {G : Gx} {n0 : Nat} {av : List Value} {M M' : Mem} (hy : plainName y.cls = true) (hw : ws = Cond.code y cc maxL none :: ws') (hn : (lg_sl av).length ≤ maxL)
    (body : ∀ K, Ok K l rm cc y.cls ws G n0 maxL → (∀ pc L, decode cc pc = .ok (.return_, 1) → J K M' pc L []) → J K M 0 (lv_args 0 av) []) : Ct l y ws rm G n0 av M none M' := by
  refine Met.ofW (cc := cc) (maxL := maxL) (ret := none) hy hw ?_
  intro p e s m args below meth c s₁ B hml hv
  obtain ⟨rfl, hP, hK, hSt⟩ := hv
  have hts := atoms_spec (ws := ws) B.pre
  have hown : s.vm.findClass y.cls = some m.cls := findClass_of_methodNamed B.named
  have hl := lv_entry av (n := maxL) hn
  rw [lg_entry_eq]
  exact body (p, l, e, rm, s, m, av.toArray, below, meth, c, MQ below (QR G n0 none M') av.toArray s 0 0 (fun q => n0 ≤ q), G, n0, maxL, 0, 0)
    ⟨rfl, rfl, rfl, rfl, rfl, B.exec, B.bytes, hown, hts, hK, hml, hSt, Nat.zero_le _, Nat.zero_le _⟩
    (fun pc L hd H locs ls hP1 hS1 _ => W.vret B.exec B.bytes B.returns (fun t ht hW => ⟨rfl, Rl_end hP1 hK hSt hS1 ht hW⟩) hS1.2.2 hd B.notSynchronized) s.heap [] _ hP va_S.rf hl
/-- a reference or null is returned -/
theorem ct_ref {l : Launch} {y : MethodName} {ws ws' : List Cond} {rm : Room} {cc : ByteArray} {maxL : Nat} {G : Gx} {n0 : Nat} {av : List Value} {M M' : Mem} {r : Option Nat} {rt : FieldType} (hrt : (∃ n, rt = .object n) ∨ ∃ t, rt = .array t) (hy : plainName y.cls = true) (hw : ws = Cond.code y cc maxL (some rt) :: ws') (hn : (lg_sl av).length ≤ maxL)
    (body : ∀ K, Ok K l rm cc y.cls ws G n0 maxL → (∀ pc L, decode cc pc = .ok (.areturn, 1) → J K M' pc L [va_rf r]) → J K M 0 (lv_args 0 av) []) : Ct l y ws rm G n0 av M (some (va_rf r)) M' := by
  refine Met.ofW (cc := cc) (maxL := maxL) (ret := some rt) hy hw ?_
  intro p e s m args below meth c s₁ B hml hv
  obtain ⟨rfl, hP, hK, hSt⟩ := hv
  have hts := atoms_spec (ws := ws) B.pre
  have hown : s.vm.findClass y.cls = some m.cls := findClass_of_methodNamed B.named
  have hl := lv_entry av (n := maxL) hn
  rw [lg_entry_eq]
  exact body (p, l, e, rm, s, m, av.toArray, below, meth, c, MQ below (QR G n0 (some (va_rf r)) M') av.toArray s 0 0 (fun q => n0 ≤ q), G, n0, maxL, 0, 0)
    ⟨rfl, rfl, rfl, rfl, rfl, B.exec, B.bytes, hown, hts, hK, hml, hSt, Nat.zero_le _, Nat.zero_le _⟩
    (fun pc L hd H locs ls hP1 hS1 _ => W.aret B.exec B.bytes B.returns hrt (va_rf_or r) (fun t ht hW => ⟨rfl, Rl_end hP1 hK hSt hS1 ht hW⟩) hS1.2.2 hd B.notSynchronized) s.heap [] _ hP va_S.rf hl
/-- behind a call -/
theorem j_ret {p : Program} {l : Launch} {e : Env} {R : Room} {s : State} {m : MethodId} {args : Array Value} {below : List Frame} {meth : Method} {c : Code} {H : Heap} {locs : List Loc} {cells slots : Nat} {Q : State → Prop} {pc n0 : Nat} {ls : Array Slot} {st rest : List Value} {a : Array Value} {G : Gx} {v : Option Value} {M' : Mem}
    (hr : va_Run p l e R s m args below meth c H locs cells slots 0 0 (F0 m pc ls st) rest (QR G n0 v M' a) (fun q => n0 ≤ q)) (hS : va_S (fun q => n0 ≤ q) s.heap H locs)
    (kk : ∀ (H1 : Heap) (locs1 : List Loc), va_P G.1 vwCl (wld G n0 M') H1 → va_S (fun q => n0 ≤ q) s.heap H1 locs1 → W p l e R s m args below meth c H1 locs1 cells slots Q (F0 m (pc + 3) ls (v.toList ++ rest))) : W p l e R s m args below meth c H locs cells slots Q (F0 m pc ls st) := by
  intro T hT X
  obtain ⟨v', st₀, t, T', L, h0, X', hL, e1, e2, ⟨hv, ⟨hP, hK, hSt⟩, hz, hk⟩, st⟩ := hr T hT X
  cases hv
  rw [h0] at hz hk
  obtain ⟨t2, a1, b1⟩ := kk T'.heap (locs ++ L) (by rw [e1]; exact hP)
    ⟨Nat.le_trans hS.1 (by rw [e1]; exact hz), fun q h1 h2 => by rw [e1, hk q (Nat.lt_of_lt_of_le h1 hS.1) h2]; exact hS.2.1 q h1 h2, fun q hq => by
      rcases List.mem_append.mp hq with h | h
      · exact hS.2.2 q h
      · exact hL q h⟩ T' rfl X'
  exact ⟨t2, st t2 a1, b1⟩
section JCALLS
variable {K : Kx} {l : Launch} {R : Room} {cc : ByteArray} {own : String} {ws : List Cond} {G : Gx} {n0 nL : Nat} {M M' : Mem} {pc : Nat} {L : List (Nat × Value)} {st st0 : List Value}
variable {y : MethodName} {ws2 ws2' : List Cond} {rm : Room} {bytes : ByteArray} {maxL index : Nat} {ret : Option FieldType} {v : Option Value} {As : List Value}
theorem j_callS (C : Ok K l R cc own ws G n0 nL) (n : Nat) (h : Ct l y ws2 rm G n0 As M v M') (hg : GoodIn ws (wsS own index y ws2)) (hw : ws2 = Cond.code y bytes maxL ret :: ws2') (hrm : rm.cells = 0 ∧ rm.slots = 0)
    (hd : y.cls = own ∧ y.cls ≠ "java/lang/invoke/MethodHandle" ∧ y.cls ≠ "java/lang/invoke/VarHandle" ∧ (parseMethodDescriptor y.desc).map (fun d => d.parameters.length) = some n) (hR : rm.frames + 1 ≤ R.frames ∧ 8 + (maxL + 11) + rm.locals ≤ R.locals) (hn : As.length = n) (hst : st0 = As.reverse ++ st) (hW : (st.map fun v => v.category).sum ≤ 8) (hdg : decode cc pc = .ok (.invokestatic index, 3))
    (kk : J K M' (pc + 3) L (v.toList ++ st)) : J K M pc L st0 := by
  obtain ⟨p, l', e, R', s, m, args, below, meth, c, Q, G', n0', nL', cells, slots⟩ := K
  obtain ⟨rfl, rfl, rfl, rfl, rfl, hx, hb, hown, hts, hK, hml, hSt, hce, hsl⟩ := C
  intro H locs ls hP hS hl
  subst hst
  exact j_ret (va_runS (As := As) (rest := st) ⟨hx, hb, hml, hown, hts⟩ h (cwS n hts hg hw hrm.1 hrm.2 hd hR) ⟨Rl_blind, fun U hU hW => ⟨rfl, by rw [hU]; exact hP, va_K.moved hW.alike hK, hSt.step hW (hS.F hU)⟩⟩ rfl hn hl.1 rfl (lv_room hW) hdg ⟨hce, hsl⟩) hS (fun H1 locs1 hP1 hS1 => kk H1 locs1 ls hP1 hS1 hl)
theorem j_callS2 (C : Ok K l R cc own ws G n0 nL) (n : Nat) (h : Ct l y ws2 rm G n0 As M v M') (hg : GoodIn ws (va_wsS own index y ws2)) (hw : ws2 = Cond.code y bytes maxL ret :: ws2') (hrm : rm.cells = 0 ∧ rm.slots = 0)
    (hd : y.cls ≠ "java/lang/invoke/MethodHandle" ∧ y.cls ≠ "java/lang/invoke/VarHandle" ∧ (parseMethodDescriptor y.desc).map (fun d => d.parameters.length) = some n) (hR : rm.frames + 1 ≤ R.frames ∧ 8 + (maxL + 11) + rm.locals ≤ R.locals) (hn : As.length = n) (hst : st0 = As.reverse ++ st) (hW : (st.map fun v => v.category).sum ≤ 8) (hdg : decode cc pc = .ok (.invokestatic index, 3))
    (kk : J K M' (pc + 3) L (v.toList ++ st)) : J K M pc L st0 := by
  obtain ⟨p, l', e, R', s, m, args, below, meth, c, Q, G', n0', nL', cells, slots⟩ := K
  obtain ⟨rfl, rfl, rfl, rfl, rfl, hx, hb, hown, hts, hK, hml, hSt, hce, hsl⟩ := C
  intro H locs ls hP hS hl
  subst hst
  exact j_ret (va_runS (As := As) (rest := st) ⟨hx, hb, hml, hown, hts⟩ h (va_cwS n hts hg hw hrm.1 hrm.2 hd hR) ⟨Rl_blind, fun U hU hW => ⟨rfl, by rw [hU]; exact hP, va_K.moved hW.alike hK, hSt.step hW (hS.F hU)⟩⟩ rfl hn hl.1 rfl (lv_room hW) hdg ⟨hce, hsl⟩) hS (fun H1 locs1 hP1 hS1 => kk H1 locs1 ls hP1 hS1 hl)
theorem j_callV (C : Ok K l R cc own ws G n0 nL) {t tag ci : Nat} {fs : List Value} {r : vw_C} (n : Nat) (ht : lay[t]? = some tag) (he : ent G n0 tag t (M.1 t) (M.2 t) = .inr (ci, fs)) (hc : vwCl[ci]? = some r) (h : Ct l y ws2 rm G n0 (.ref (n0 + t) :: As) M v M') (hg : GoodIn ws (wsV own index r.1 y ws2)) (hw : ws2 = Cond.code y bytes maxL ret :: ws2') (hrm : rm.cells = 0 ∧ rm.slots = 0)
    (hd : y.cls = r.1 ∧ y.cls ≠ "java/lang/invoke/MethodHandle" ∧ y.cls ≠ "java/lang/invoke/VarHandle" ∧ (parseMethodDescriptor y.desc).map (fun d => d.parameters.length) = some n) (hR : rm.frames + 1 ≤ R.frames ∧ 8 + (maxL + 11) + rm.locals ≤ R.locals) (hn : As.length = n) (hst : st0 = As.reverse ++ .ref (n0 + t) :: st) (hW : (st.map fun v => v.category).sum ≤ 8) (hdg : decode cc pc = .ok (.invokevirtual index, 3))
    (kk : J K M' (pc + 3) L (v.toList ++ st)) : J K M pc L st0 := by
  obtain ⟨p, l', e, R', s, m, args, below, meth, c, Q, G', n0', nL', cells, slots⟩ := K
  obtain ⟨rfl, rfl, rfl, rfl, rfl, hx, hb, hown, hts, hK, hml, hSt, hce, hsl⟩ := C
  intro H locs ls hP hS hl
  subst hst
  have hat : (wld G' n0' M)[t]? = some (n0' + t, .inr (ci, fs)) := by rw [wld_at ht, he]
  exact j_ret (va_runV (As := As) (rest := st) ⟨hx, hb, hml, hown, hts⟩ h (cwV n hts hg hw hrm.1 hrm.2 hd hR) ⟨Rl_blind, va_recv hK hP hc hat, fun U hU hW => ⟨rfl, by rw [hU]; exact hP, va_K.moved hW.alike hK, hSt.step hW (hS.F hU)⟩⟩ rfl hn hl.1 rfl (lv_room hW) hdg ⟨hce, hsl⟩) hS (fun H1 locs1 hP1 hS1 => kk H1 locs1 ls hP1 hS1 hl)
end JCALLS
end
