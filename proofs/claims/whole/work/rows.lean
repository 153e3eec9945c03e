section
-- ===== PART A: goes FIRST, ahead of the names: the tables' words, and 'selects' of the private methods out of them =====
/-- a private method of a class that the tables say can be made, by its rows of tables_1 -/
def lw_okq (q : MethodName × Nat) : Prop := (q.1.cls ≠ "java/lang/invoke/MethodHandle" ∧ q.1.cls ≠ "java/lang/invoke/VarHandle") ∧ Cond.instantiable q.1.cls q.2 ∈ tables_1 ∧ Cond.privateMethod q.1 ∈ tables_1 ∧ Cond.instanceMethod q.1 ∈ tables_1
theorem lw_p0 : lw_okq (⟨"WaterByLetters", "addHouses", "()V"⟩, 20) := ⟨⟨by decide +kernel, by decide +kernel⟩, List.mem_of_getElem? (i := 26) (by decide +kernel), List.mem_of_getElem? (i := 411) (by decide +kernel), List.mem_of_getElem? (i := 412) (by decide +kernel)⟩
theorem lw_p1 : lw_okq (⟨"WaterByLetters", "takeRule", "(LWaterByLetters$Rule;)I"⟩, 20) := ⟨⟨by decide +kernel, by decide +kernel⟩, List.mem_of_getElem? (i := 26) (by decide +kernel), List.mem_of_getElem? (i := 446) (by decide +kernel), List.mem_of_getElem? (i := 447) (by decide +kernel)⟩
theorem lw_p2 : lw_okq (⟨"WaterByLetters", "placeNow", "(I)I"⟩, 20) := ⟨⟨by decide +kernel, by decide +kernel⟩, List.mem_of_getElem? (i := 26) (by decide +kernel), List.mem_of_getElem? (i := 541) (by decide +kernel), List.mem_of_getElem? (i := 542) (by decide +kernel)⟩
theorem lw_p3 : lw_okq (⟨"WaterByLetters$Book", "keyOf", "(LWaterByLetters$Town;I)I"⟩, 5) := ⟨⟨by decide +kernel, by decide +kernel⟩, List.mem_of_getElem? (i := 149) (by decide +kernel), List.mem_of_getElem? (i := 549) (by decide +kernel), List.mem_of_getElem? (i := 550) (by decide +kernel)⟩
theorem lw_p4 : lw_okq (⟨"WaterByLetters$Rule", "openSum", "()V"⟩, 10) := ⟨⟨by decide +kernel, by decide +kernel⟩, List.mem_of_getElem? (i := 69) (by decide +kernel), List.mem_of_getElem? (i := 592) (by decide +kernel), List.mem_of_getElem? (i := 593) (by decide +kernel)⟩
theorem lw_p5 : lw_okq (⟨"WaterByLetters$Rule", "takeThing", "(I)V"⟩, 10) := ⟨⟨by decide +kernel, by decide +kernel⟩, List.mem_of_getElem? (i := 69) (by decide +kernel), List.mem_of_getElem? (i := 596) (by decide +kernel), List.mem_of_getElem? (i := 597) (by decide +kernel)⟩
theorem lw_p6 : lw_okq (⟨"WaterByLetters$Rule", "takeSign", "(IZ)V"⟩, 10) := ⟨⟨by decide +kernel, by decide +kernel⟩, List.mem_of_getElem? (i := 69) (by decide +kernel), List.mem_of_getElem? (i := 600) (by decide +kernel), List.mem_of_getElem? (i := 601) (by decide +kernel)⟩
theorem lw_p7 : lw_okq (⟨"WaterByLetters$Rule", "closeProduct", "()V"⟩, 10) := ⟨⟨by decide +kernel, by decide +kernel⟩, List.mem_of_getElem? (i := 69) (by decide +kernel), List.mem_of_getElem? (i := 604) (by decide +kernel), List.mem_of_getElem? (i := 605) (by decide +kernel)⟩
theorem lw_p8 : lw_okq (⟨"WaterByLetters$Rule", "comparedValue", "()I"⟩, 10) := ⟨⟨by decide +kernel, by decide +kernel⟩, List.mem_of_getElem? (i := 69) (by decide +kernel), List.mem_of_getElem? (i := 608) (by decide +kernel), List.mem_of_getElem? (i := 609) (by decide +kernel)⟩
theorem lw_p9 : lw_okq (⟨"WaterByLetters", "act", "(I)Z"⟩, 20) := ⟨⟨by decide +kernel, by decide +kernel⟩, List.mem_of_getElem? (i := 26) (by decide +kernel), List.mem_of_getElem? (i := 647) (by decide +kernel), List.mem_of_getElem? (i := 648) (by decide +kernel)⟩
theorem lw_p10 : lw_okq (⟨"WaterByLetters", "wed", "(II)Z"⟩, 20) := ⟨⟨by decide +kernel, by decide +kernel⟩, List.mem_of_getElem? (i := 26) (by decide +kernel), List.mem_of_getElem? (i := 651) (by decide +kernel), List.mem_of_getElem? (i := 652) (by decide +kernel)⟩
theorem lw_p11 : lw_okq (⟨"WaterByLetters", "pourToday", "()V"⟩, 20) := ⟨⟨by decide +kernel, by decide +kernel⟩, List.mem_of_getElem? (i := 26) (by decide +kernel), List.mem_of_getElem? (i := 694) (by decide +kernel), List.mem_of_getElem? (i := 695) (by decide +kernel)⟩
theorem lw_p12 : lw_okq (⟨"WaterByLetters", "yieldToday", "()I"⟩, 20) := ⟨⟨by decide +kernel, by decide +kernel⟩, List.mem_of_getElem? (i := 26) (by decide +kernel), List.mem_of_getElem? (i := 698) (by decide +kernel), List.mem_of_getElem? (i := 699) (by decide +kernel)⟩
theorem lw_p13 : lw_okq (⟨"WaterByLetters", "fewestMinutes", "()I"⟩, 20) := ⟨⟨by decide +kernel, by decide +kernel⟩, List.mem_of_getElem? (i := 26) (by decide +kernel), List.mem_of_getElem? (i := 712) (by decide +kernel), List.mem_of_getElem? (i := 713) (by decide +kernel)⟩
theorem lw_p14 : lw_okq (⟨"WaterByLetters$Thrift", "sortByThirst", "()V"⟩, 12) := ⟨⟨by decide +kernel, by decide +kernel⟩, List.mem_of_getElem? (i := 263) (by decide +kernel), List.mem_of_getElem? (i := 725) (by decide +kernel), List.mem_of_getElem? (i := 726) (by decide +kernel)⟩
theorem lw_p15 : lw_okq (⟨"WaterByLetters$Thrift", "compareNames", "(LWaterByLetters$Town;)V"⟩, 12) := ⟨⟨by decide +kernel, by decide +kernel⟩, List.mem_of_getElem? (i := 263) (by decide +kernel), List.mem_of_getElem? (i := 729) (by decide +kernel), List.mem_of_getElem? (i := 730) (by decide +kernel)⟩
def lw_privs_1 : List (MethodName × Nat) := [(⟨"WaterByLetters", "addHouses", "()V"⟩, 20), (⟨"WaterByLetters", "takeRule", "(LWaterByLetters$Rule;)I"⟩, 20), (⟨"WaterByLetters", "placeNow", "(I)I"⟩, 20), (⟨"WaterByLetters$Book", "keyOf", "(LWaterByLetters$Town;I)I"⟩, 5), (⟨"WaterByLetters$Rule", "openSum", "()V"⟩, 10), (⟨"WaterByLetters$Rule", "takeThing", "(I)V"⟩, 10), (⟨"WaterByLetters$Rule", "takeSign", "(IZ)V"⟩, 10), (⟨"WaterByLetters$Rule", "closeProduct", "()V"⟩, 10), (⟨"WaterByLetters$Rule", "comparedValue", "()I"⟩, 10), (⟨"WaterByLetters", "act", "(I)Z"⟩, 20), (⟨"WaterByLetters", "wed", "(II)Z"⟩, 20), (⟨"WaterByLetters", "pourToday", "()V"⟩, 20), (⟨"WaterByLetters", "yieldToday", "()I"⟩, 20), (⟨"WaterByLetters", "fewestMinutes", "()I"⟩, 20), (⟨"WaterByLetters$Thrift", "sortByThirst", "()V"⟩, 12), (⟨"WaterByLetters$Thrift", "compareNames", "(LWaterByLetters$Town;)V"⟩, 12)]
theorem lw_r1 : ∀ q ∈ lw_privs_1, lw_okq q := List.forall_mem_cons.mpr ⟨lw_p0, List.forall_mem_cons.mpr ⟨lw_p1, List.forall_mem_cons.mpr ⟨lw_p2, List.forall_mem_cons.mpr ⟨lw_p3, List.forall_mem_cons.mpr ⟨lw_p4, List.forall_mem_cons.mpr ⟨lw_p5, List.forall_mem_cons.mpr ⟨lw_p6, List.forall_mem_cons.mpr ⟨lw_p7, List.forall_mem_cons.mpr ⟨lw_p8, List.forall_mem_cons.mpr ⟨lw_p9, List.forall_mem_cons.mpr ⟨lw_p10, List.forall_mem_cons.mpr ⟨lw_p11, List.forall_mem_cons.mpr ⟨lw_p12, List.forall_mem_cons.mpr ⟨lw_p13, List.forall_mem_cons.mpr ⟨lw_p14, List.forall_mem_cons.mpr ⟨lw_p15, fun _ h => absurd h List.not_mem_nil⟩⟩⟩⟩⟩⟩⟩⟩⟩⟩⟩⟩⟩⟩⟩⟩
theorem lw_p16 : lw_okq (⟨"WaterByLetters$Thrift", "hope", "(I)I"⟩, 12) := ⟨⟨by decide +kernel, by decide +kernel⟩, List.mem_of_getElem? (i := 263) (by decide +kernel), List.mem_of_getElem? (i := 743) (by decide +kernel), List.mem_of_getElem? (i := 744) (by decide +kernel)⟩
theorem lw_p17 : lw_okq (⟨"WaterByLetters$Thrift", "hopeWithLast", "(II)I"⟩, 12) := ⟨⟨by decide +kernel, by decide +kernel⟩, List.mem_of_getElem? (i := 263) (by decide +kernel), List.mem_of_getElem? (i := 747) (by decide +kernel), List.mem_of_getElem? (i := 748) (by decide +kernel)⟩
theorem lw_p18 : lw_okq (⟨"WaterByLetters$Thrift", "openFor", "(II)I"⟩, 12) := ⟨⟨by decide +kernel, by decide +kernel⟩, List.mem_of_getElem? (i := 263) (by decide +kernel), List.mem_of_getElem? (i := 752) (by decide +kernel), List.mem_of_getElem? (i := 753) (by decide +kernel)⟩
theorem lw_p19 : lw_okq (⟨"WaterByLetters$Thrift", "isSettled", "(I)Z"⟩, 12) := ⟨⟨by decide +kernel, by decide +kernel⟩, List.mem_of_getElem? (i := 263) (by decide +kernel), List.mem_of_getElem? (i := 758) (by decide +kernel), List.mem_of_getElem? (i := 759) (by decide +kernel)⟩
theorem lw_p20 : lw_okq (⟨"WaterByLetters$Thrift", "keepBest", "(III)V"⟩, 12) := ⟨⟨by decide +kernel, by decide +kernel⟩, List.mem_of_getElem? (i := 263) (by decide +kernel), List.mem_of_getElem? (i := 762) (by decide +kernel), List.mem_of_getElem? (i := 763) (by decide +kernel)⟩
theorem lw_p21 : lw_okq (⟨"WaterByLetters$Thrift", "nextIdle", "(I)I"⟩, 12) := ⟨⟨by decide +kernel, by decide +kernel⟩, List.mem_of_getElem? (i := 263) (by decide +kernel), List.mem_of_getElem? (i := 766) (by decide +kernel), List.mem_of_getElem? (i := 767) (by decide +kernel)⟩
theorem lw_p22 : lw_okq (⟨"WaterByLetters$Thrift", "setNext", "(II)V"⟩, 12) := ⟨⟨by decide +kernel, by decide +kernel⟩, List.mem_of_getElem? (i := 263) (by decide +kernel), List.mem_of_getElem? (i := 770) (by decide +kernel), List.mem_of_getElem? (i := 771) (by decide +kernel)⟩
theorem lw_p23 : lw_okq (⟨"WaterByLetters$Thrift", "settle", "(III)V"⟩, 12) := ⟨⟨by decide +kernel, by decide +kernel⟩, List.mem_of_getElem? (i := 263) (by decide +kernel), List.mem_of_getElem? (i := 774) (by decide +kernel), List.mem_of_getElem? (i := 775) (by decide +kernel)⟩
theorem lw_p24 : lw_okq (⟨"WaterByLetters$Orders", "lossesOf", "(LWaterByLetters$Town;I)I"⟩, 7) := ⟨⟨by decide +kernel, by decide +kernel⟩, List.mem_of_getElem? (i := 235) (by decide +kernel), List.mem_of_getElem? (i := 787) (by decide +kernel), List.mem_of_getElem? (i := 788) (by decide +kernel)⟩
theorem lw_p25 : lw_okq (⟨"WaterByLetters$Orders", "loss", "(II)I"⟩, 7) := ⟨⟨by decide +kernel, by decide +kernel⟩, List.mem_of_getElem? (i := 235) (by decide +kernel), List.mem_of_getElem? (i := 797) (by decide +kernel), List.mem_of_getElem? (i := 798) (by decide +kernel)⟩
theorem lw_p26 : lw_okq (⟨"WaterByLetters$Orders", "leastNext", "(I)I"⟩, 7) := ⟨⟨by decide +kernel, by decide +kernel⟩, List.mem_of_getElem? (i := 235) (by decide +kernel), List.mem_of_getElem? (i := 802) (by decide +kernel), List.mem_of_getElem? (i := 803) (by decide +kernel)⟩
theorem lw_p27 : lw_okq (⟨"WaterByLetters", "readOtherOrder", "()I"⟩, 20) := ⟨⟨by decide +kernel, by decide +kernel⟩, List.mem_of_getElem? (i := 26) (by decide +kernel), List.mem_of_getElem? (i := 814) (by decide +kernel), List.mem_of_getElem? (i := 815) (by decide +kernel)⟩
theorem lw_p28 : lw_okq (⟨"WaterByLetters", "leastThirsty", "(II)I"⟩, 20) := ⟨⟨by decide +kernel, by decide +kernel⟩, List.mem_of_getElem? (i := 26) (by decide +kernel), List.mem_of_getElem? (i := 827) (by decide +kernel), List.mem_of_getElem? (i := 828) (by decide +kernel)⟩
theorem lw_p29 : lw_okq (⟨"WaterByLetters$Matching", "worthWith", "(III)I"⟩, 2) := ⟨⟨by decide +kernel, by decide +kernel⟩, List.mem_of_getElem? (i := 307) (by decide +kernel), List.mem_of_getElem? (i := 854) (by decide +kernel), List.mem_of_getElem? (i := 855) (by decide +kernel)⟩
theorem lw_p30 : lw_okq (⟨"WaterByLetters$Matching", "spouseOf", "(IIII)I"⟩, 2) := ⟨⟨by decide +kernel, by decide +kernel⟩, List.mem_of_getElem? (i := 307) (by decide +kernel), List.mem_of_getElem? (i := 863) (by decide +kernel), List.mem_of_getElem? (i := 864) (by decide +kernel)⟩
theorem lw_p31 : lw_okq (⟨"WaterByLetters", "isBookWithout", "(I)Z"⟩, 20) := ⟨⟨by decide +kernel, by decide +kernel⟩, List.mem_of_getElem? (i := 26) (by decide +kernel), List.mem_of_getElem? (i := 876) (by decide +kernel), List.mem_of_getElem? (i := 877) (by decide +kernel)⟩
def lw_privs_2 : List (MethodName × Nat) := [(⟨"WaterByLetters$Thrift", "hope", "(I)I"⟩, 12), (⟨"WaterByLetters$Thrift", "hopeWithLast", "(II)I"⟩, 12), (⟨"WaterByLetters$Thrift", "openFor", "(II)I"⟩, 12), (⟨"WaterByLetters$Thrift", "isSettled", "(I)Z"⟩, 12), (⟨"WaterByLetters$Thrift", "keepBest", "(III)V"⟩, 12), (⟨"WaterByLetters$Thrift", "nextIdle", "(I)I"⟩, 12), (⟨"WaterByLetters$Thrift", "setNext", "(II)V"⟩, 12), (⟨"WaterByLetters$Thrift", "settle", "(III)V"⟩, 12), (⟨"WaterByLetters$Orders", "lossesOf", "(LWaterByLetters$Town;I)I"⟩, 7), (⟨"WaterByLetters$Orders", "loss", "(II)I"⟩, 7), (⟨"WaterByLetters$Orders", "leastNext", "(I)I"⟩, 7), (⟨"WaterByLetters", "readOtherOrder", "()I"⟩, 20), (⟨"WaterByLetters", "leastThirsty", "(II)I"⟩, 20), (⟨"WaterByLetters$Matching", "worthWith", "(III)I"⟩, 2), (⟨"WaterByLetters$Matching", "spouseOf", "(IIII)I"⟩, 2), (⟨"WaterByLetters", "isBookWithout", "(I)Z"⟩, 20)]
theorem lw_r2 : ∀ q ∈ lw_privs_2, lw_okq q := List.forall_mem_cons.mpr ⟨lw_p16, List.forall_mem_cons.mpr ⟨lw_p17, List.forall_mem_cons.mpr ⟨lw_p18, List.forall_mem_cons.mpr ⟨lw_p19, List.forall_mem_cons.mpr ⟨lw_p20, List.forall_mem_cons.mpr ⟨lw_p21, List.forall_mem_cons.mpr ⟨lw_p22, List.forall_mem_cons.mpr ⟨lw_p23, List.forall_mem_cons.mpr ⟨lw_p24, List.forall_mem_cons.mpr ⟨lw_p25, List.forall_mem_cons.mpr ⟨lw_p26, List.forall_mem_cons.mpr ⟨lw_p27, List.forall_mem_cons.mpr ⟨lw_p28, List.forall_mem_cons.mpr ⟨lw_p29, List.forall_mem_cons.mpr ⟨lw_p30, List.forall_mem_cons.mpr ⟨lw_p31, fun _ h => absurd h List.not_mem_nil⟩⟩⟩⟩⟩⟩⟩⟩⟩⟩⟩⟩⟩⟩⟩⟩
theorem lw_p32 : lw_okq (⟨"WaterByLetters", "greatestRest", "(III)I"⟩, 20) := ⟨⟨by decide +kernel, by decide +kernel⟩, List.mem_of_getElem? (i := 26) (by decide +kernel), List.mem_of_getElem? (i := 900) (by decide +kernel), List.mem_of_getElem? (i := 901) (by decide +kernel)⟩
theorem lw_p33 : lw_okq (⟨"WaterByLetters", "fitAll", "()I"⟩, 20) := ⟨⟨by decide +kernel, by decide +kernel⟩, List.mem_of_getElem? (i := 26) (by decide +kernel), List.mem_of_getElem? (i := 916) (by decide +kernel), List.mem_of_getElem? (i := 917) (by decide +kernel)⟩
theorem lw_p34 : lw_okq (⟨"WaterByLetters$Orders", "canFollow", "(II)Z"⟩, 7) := ⟨⟨by decide +kernel, by decide +kernel⟩, List.mem_of_getElem? (i := 235) (by decide +kernel), List.mem_of_getElem? (i := 932) (by decide +kernel), List.mem_of_getElem? (i := 933) (by decide +kernel)⟩
theorem lw_p35 : lw_okq (⟨"WaterByLetters$Orders", "leastFitNext", "(I)I"⟩, 7) := ⟨⟨by decide +kernel, by decide +kernel⟩, List.mem_of_getElem? (i := 235) (by decide +kernel), List.mem_of_getElem? (i := 940) (by decide +kernel), List.mem_of_getElem? (i := 941) (by decide +kernel)⟩
theorem lw_p36 : lw_okq (⟨"WaterByLetters", "draw", "(I)I"⟩, 20) := ⟨⟨by decide +kernel, by decide +kernel⟩, List.mem_of_getElem? (i := 26) (by decide +kernel), List.mem_of_getElem? (i := 977) (by decide +kernel), List.mem_of_getElem? (i := 978) (by decide +kernel)⟩
theorem lw_p37 : lw_okq (⟨"WaterByLetters", "drawMarriage", "()V"⟩, 20) := ⟨⟨by decide +kernel, by decide +kernel⟩, List.mem_of_getElem? (i := 26) (by decide +kernel), List.mem_of_getElem? (i := 982) (by decide +kernel), List.mem_of_getElem? (i := 983) (by decide +kernel)⟩
theorem lw_p38 : lw_okq (⟨"java/lang/Throwable", "fillInStackTrace", "(I)Ljava/lang/Throwable;"⟩, 6) := ⟨⟨by decide +kernel, by decide +kernel⟩, List.mem_of_getElem? (i := 1052) (by decide +kernel), List.mem_of_getElem? (i := 1050) (by decide +kernel), List.mem_of_getElem? (i := 1051) (by decide +kernel)⟩
theorem lw_p39 : lw_okq (⟨"WaterByLettersModel", "begins", "(I)I"⟩, 65) := ⟨⟨by decide +kernel, by decide +kernel⟩, List.mem_of_getElem? (i := 1095) (by decide +kernel), List.mem_of_getElem? (i := 1312) (by decide +kernel), List.mem_of_getElem? (i := 1313) (by decide +kernel)⟩
theorem lw_p40 : lw_okq (⟨"WaterByLettersModel", "readsHouse", "()Z"⟩, 65) := ⟨⟨by decide +kernel, by decide +kernel⟩, List.mem_of_getElem? (i := 1095) (by decide +kernel), List.mem_of_getElem? (i := 1317) (by decide +kernel), List.mem_of_getElem? (i := 1318) (by decide +kernel)⟩
theorem lw_p41 : lw_okq (⟨"WaterByLettersModel", "readsName", "(I)I"⟩, 65) := ⟨⟨by decide +kernel, by decide +kernel⟩, List.mem_of_getElem? (i := 1095) (by decide +kernel), List.mem_of_getElem? (i := 1321) (by decide +kernel), List.mem_of_getElem? (i := 1322) (by decide +kernel)⟩
theorem lw_p42 : lw_okq (⟨"WaterByLettersModel", "among", "(Ljava/lang/String;)I"⟩, 65) := ⟨⟨by decide +kernel, by decide +kernel⟩, List.mem_of_getElem? (i := 1095) (by decide +kernel), List.mem_of_getElem? (i := 1326) (by decide +kernel), List.mem_of_getElem? (i := 1327) (by decide +kernel)⟩
theorem lw_p43 : lw_okq (⟨"WaterByLettersModel", "takesOf", "(Ljava/lang/String;)I"⟩, 65) := ⟨⟨by decide +kernel, by decide +kernel⟩, List.mem_of_getElem? (i := 1095) (by decide +kernel), List.mem_of_getElem? (i := 1378) (by decide +kernel), List.mem_of_getElem? (i := 1379) (by decide +kernel)⟩
theorem lw_p44 : lw_okq (⟨"WaterByLettersModel", "takes", "(I)Z"⟩, 65) := ⟨⟨by decide +kernel, by decide +kernel⟩, List.mem_of_getElem? (i := 1095) (by decide +kernel), List.mem_of_getElem? (i := 1386) (by decide +kernel), List.mem_of_getElem? (i := 1387) (by decide +kernel)⟩
theorem lw_p45 : lw_okq (⟨"WaterByLettersModel", "faultOf", "(IIZ)I"⟩, 65) := ⟨⟨by decide +kernel, by decide +kernel⟩, List.mem_of_getElem? (i := 1095) (by decide +kernel), List.mem_of_getElem? (i := 1390) (by decide +kernel), List.mem_of_getElem? (i := 1391) (by decide +kernel)⟩
theorem lw_p46 : lw_okq (⟨"WaterByLettersModel", "namesSo", "(III)V"⟩, 65) := ⟨⟨by decide +kernel, by decide +kernel⟩, List.mem_of_getElem? (i := 1095) (by decide +kernel), List.mem_of_getElem? (i := 1394) (by decide +kernel), List.mem_of_getElem? (i := 1395) (by decide +kernel)⟩
theorem lw_p47 : lw_okq (⟨"WaterByLettersModel", "isDigit", "()Z"⟩, 65) := ⟨⟨by decide +kernel, by decide +kernel⟩, List.mem_of_getElem? (i := 1095) (by decide +kernel), List.mem_of_getElem? (i := 1403) (by decide +kernel), List.mem_of_getElem? (i := 1404) (by decide +kernel)⟩
def lw_privs_3 : List (MethodName × Nat) := [(⟨"WaterByLetters", "greatestRest", "(III)I"⟩, 20), (⟨"WaterByLetters", "fitAll", "()I"⟩, 20), (⟨"WaterByLetters$Orders", "canFollow", "(II)Z"⟩, 7), (⟨"WaterByLetters$Orders", "leastFitNext", "(I)I"⟩, 7), (⟨"WaterByLetters", "draw", "(I)I"⟩, 20), (⟨"WaterByLetters", "drawMarriage", "()V"⟩, 20), (⟨"java/lang/Throwable", "fillInStackTrace", "(I)Ljava/lang/Throwable;"⟩, 6), (⟨"WaterByLettersModel", "begins", "(I)I"⟩, 65), (⟨"WaterByLettersModel", "readsHouse", "()Z"⟩, 65), (⟨"WaterByLettersModel", "readsName", "(I)I"⟩, 65), (⟨"WaterByLettersModel", "among", "(Ljava/lang/String;)I"⟩, 65), (⟨"WaterByLettersModel", "takesOf", "(Ljava/lang/String;)I"⟩, 65), (⟨"WaterByLettersModel", "takes", "(I)Z"⟩, 65), (⟨"WaterByLettersModel", "faultOf", "(IIZ)I"⟩, 65), (⟨"WaterByLettersModel", "namesSo", "(III)V"⟩, 65), (⟨"WaterByLettersModel", "isDigit", "()Z"⟩, 65)]
theorem lw_r3 : ∀ q ∈ lw_privs_3, lw_okq q := List.forall_mem_cons.mpr ⟨lw_p32, List.forall_mem_cons.mpr ⟨lw_p33, List.forall_mem_cons.mpr ⟨lw_p34, List.forall_mem_cons.mpr ⟨lw_p35, List.forall_mem_cons.mpr ⟨lw_p36, List.forall_mem_cons.mpr ⟨lw_p37, List.forall_mem_cons.mpr ⟨lw_p38, List.forall_mem_cons.mpr ⟨lw_p39, List.forall_mem_cons.mpr ⟨lw_p40, List.forall_mem_cons.mpr ⟨lw_p41, List.forall_mem_cons.mpr ⟨lw_p42, List.forall_mem_cons.mpr ⟨lw_p43, List.forall_mem_cons.mpr ⟨lw_p44, List.forall_mem_cons.mpr ⟨lw_p45, List.forall_mem_cons.mpr ⟨lw_p46, List.forall_mem_cons.mpr ⟨lw_p47, fun _ h => absurd h List.not_mem_nil⟩⟩⟩⟩⟩⟩⟩⟩⟩⟩⟩⟩⟩⟩⟩⟩
theorem lw_p48 : lw_okq (⟨"WaterByLettersModel", "number", "(I)I"⟩, 65) := ⟨⟨by decide +kernel, by decide +kernel⟩, List.mem_of_getElem? (i := 1095) (by decide +kernel), List.mem_of_getElem? (i := 1409) (by decide +kernel), List.mem_of_getElem? (i := 1410) (by decide +kernel)⟩
theorem lw_p49 : lw_okq (⟨"WaterByLettersModel", "readsRule", "()I"⟩, 65) := ⟨⟨by decide +kernel, by decide +kernel⟩, List.mem_of_getElem? (i := 1095) (by decide +kernel), List.mem_of_getElem? (i := 1417) (by decide +kernel), List.mem_of_getElem? (i := 1418) (by decide +kernel)⟩
theorem lw_p50 : lw_okq (⟨"WaterByLettersModel", "readsRank", "(I)Z"⟩, 65) := ⟨⟨by decide +kernel, by decide +kernel⟩, List.mem_of_getElem? (i := 1095) (by decide +kernel), List.mem_of_getElem? (i := 1421) (by decide +kernel), List.mem_of_getElem? (i := 1422) (by decide +kernel)⟩
theorem lw_p51 : lw_okq (⟨"WaterByLettersModel", "readsThing", "()Z"⟩, 65) := ⟨⟨by decide +kernel, by decide +kernel⟩, List.mem_of_getElem? (i := 1095) (by decide +kernel), List.mem_of_getElem? (i := 1425) (by decide +kernel), List.mem_of_getElem? (i := 1426) (by decide +kernel)⟩
theorem lw_p52 : lw_okq (⟨"WaterByLettersModel", "codes", "(I)V"⟩, 65) := ⟨⟨by decide +kernel, by decide +kernel⟩, List.mem_of_getElem? (i := 1095) (by decide +kernel), List.mem_of_getElem? (i := 1429) (by decide +kernel), List.mem_of_getElem? (i := 1430) (by decide +kernel)⟩
theorem lw_p53 : lw_okq (⟨"WaterByLettersModel", "laysCode", "([II)V"⟩, 65) := ⟨⟨by decide +kernel, by decide +kernel⟩, List.mem_of_getElem? (i := 1095) (by decide +kernel), List.mem_of_getElem? (i := 1437) (by decide +kernel), List.mem_of_getElem? (i := 1438) (by decide +kernel)⟩
theorem lw_p54 : lw_okq (⟨"WaterByLettersModel", "isHouse", "(I)Z"⟩, 65) := ⟨⟨by decide +kernel, by decide +kernel⟩, List.mem_of_getElem? (i := 1095) (by decide +kernel), List.mem_of_getElem? (i := 1445) (by decide +kernel), List.mem_of_getElem? (i := 1446) (by decide +kernel)⟩
theorem lw_p55 : lw_okq (⟨"WaterByLettersModel", "refuse", "()I"⟩, 65) := ⟨⟨by decide +kernel, by decide +kernel⟩, List.mem_of_getElem? (i := 1095) (by decide +kernel), List.mem_of_getElem? (i := 1450) (by decide +kernel), List.mem_of_getElem? (i := 1451) (by decide +kernel)⟩
theorem lw_p56 : lw_okq (⟨"WaterByLettersModel", "givesNow", "()V"⟩, 65) := ⟨⟨by decide +kernel, by decide +kernel⟩, List.mem_of_getElem? (i := 1095) (by decide +kernel), List.mem_of_getElem? (i := 1454) (by decide +kernel), List.mem_of_getElem? (i := 1455) (by decide +kernel)⟩
theorem lw_p57 : lw_okq (⟨"WaterByLettersModel", "laysBook", "([I)V"⟩, 65) := ⟨⟨by decide +kernel, by decide +kernel⟩, List.mem_of_getElem? (i := 1095) (by decide +kernel), List.mem_of_getElem? (i := 1458) (by decide +kernel), List.mem_of_getElem? (i := 1459) (by decide +kernel)⟩
theorem lw_p58 : lw_okq (⟨"WaterByLettersModel", "laysUnlike", "([I)V"⟩, 65) := ⟨⟨by decide +kernel, by decide +kernel⟩, List.mem_of_getElem? (i := 1095) (by decide +kernel), List.mem_of_getElem? (i := 1462) (by decide +kernel), List.mem_of_getElem? (i := 1463) (by decide +kernel)⟩
theorem lw_p59 : lw_okq (⟨"WaterByLettersModel", "laysRanks", "([I)V"⟩, 65) := ⟨⟨by decide +kernel, by decide +kernel⟩, List.mem_of_getElem? (i := 1095) (by decide +kernel), List.mem_of_getElem? (i := 1469) (by decide +kernel), List.mem_of_getElem? (i := 1470) (by decide +kernel)⟩
theorem lw_p60 : lw_okq (⟨"WaterByLettersModel", "laysPlaces", "()V"⟩, 65) := ⟨⟨by decide +kernel, by decide +kernel⟩, List.mem_of_getElem? (i := 1095) (by decide +kernel), List.mem_of_getElem? (i := 1473) (by decide +kernel), List.mem_of_getElem? (i := 1474) (by decide +kernel)⟩
theorem lw_p61 : lw_okq (⟨"WaterByLettersModel", "goesAhead", "(II)Z"⟩, 65) := ⟨⟨by decide +kernel, by decide +kernel⟩, List.mem_of_getElem? (i := 1095) (by decide +kernel), List.mem_of_getElem? (i := 1477) (by decide +kernel), List.mem_of_getElem? (i := 1478) (by decide +kernel)⟩
theorem lw_p62 : lw_okq (⟨"WaterByLettersModel", "yieldOn", "(I)I"⟩, 65) := ⟨⟨by decide +kernel, by decide +kernel⟩, List.mem_of_getElem? (i := 1095) (by decide +kernel), List.mem_of_getElem? (i := 1481) (by decide +kernel), List.mem_of_getElem? (i := 1482) (by decide +kernel)⟩
theorem lw_p63 : lw_okq (⟨"WaterByLettersModel", "allThirst", "()I"⟩, 65) := ⟨⟨by decide +kernel, by decide +kernel⟩, List.mem_of_getElem? (i := 1095) (by decide +kernel), List.mem_of_getElem? (i := 1485) (by decide +kernel), List.mem_of_getElem? (i := 1486) (by decide +kernel)⟩
def lw_privs_4 : List (MethodName × Nat) := [(⟨"WaterByLettersModel", "number", "(I)I"⟩, 65), (⟨"WaterByLettersModel", "readsRule", "()I"⟩, 65), (⟨"WaterByLettersModel", "readsRank", "(I)Z"⟩, 65), (⟨"WaterByLettersModel", "readsThing", "()Z"⟩, 65), (⟨"WaterByLettersModel", "codes", "(I)V"⟩, 65), (⟨"WaterByLettersModel", "laysCode", "([II)V"⟩, 65), (⟨"WaterByLettersModel", "isHouse", "(I)Z"⟩, 65), (⟨"WaterByLettersModel", "refuse", "()I"⟩, 65), (⟨"WaterByLettersModel", "givesNow", "()V"⟩, 65), (⟨"WaterByLettersModel", "laysBook", "([I)V"⟩, 65), (⟨"WaterByLettersModel", "laysUnlike", "([I)V"⟩, 65), (⟨"WaterByLettersModel", "laysRanks", "([I)V"⟩, 65), (⟨"WaterByLettersModel", "laysPlaces", "()V"⟩, 65), (⟨"WaterByLettersModel", "goesAhead", "(II)Z"⟩, 65), (⟨"WaterByLettersModel", "yieldOn", "(I)I"⟩, 65), (⟨"WaterByLettersModel", "allThirst", "()I"⟩, 65)]
theorem lw_r4 : ∀ q ∈ lw_privs_4, lw_okq q := List.forall_mem_cons.mpr ⟨lw_p48, List.forall_mem_cons.mpr ⟨lw_p49, List.forall_mem_cons.mpr ⟨lw_p50, List.forall_mem_cons.mpr ⟨lw_p51, List.forall_mem_cons.mpr ⟨lw_p52, List.forall_mem_cons.mpr ⟨lw_p53, List.forall_mem_cons.mpr ⟨lw_p54, List.forall_mem_cons.mpr ⟨lw_p55, List.forall_mem_cons.mpr ⟨lw_p56, List.forall_mem_cons.mpr ⟨lw_p57, List.forall_mem_cons.mpr ⟨lw_p58, List.forall_mem_cons.mpr ⟨lw_p59, List.forall_mem_cons.mpr ⟨lw_p60, List.forall_mem_cons.mpr ⟨lw_p61, List.forall_mem_cons.mpr ⟨lw_p62, List.forall_mem_cons.mpr ⟨lw_p63, fun _ h => absurd h List.not_mem_nil⟩⟩⟩⟩⟩⟩⟩⟩⟩⟩⟩⟩⟩⟩⟩⟩
theorem lw_p64 : lw_okq (⟨"WaterByLettersModel", "ruled", "()I"⟩, 65) := ⟨⟨by decide +kernel, by decide +kernel⟩, List.mem_of_getElem? (i := 1095) (by decide +kernel), List.mem_of_getElem? (i := 1492) (by decide +kernel), List.mem_of_getElem? (i := 1493) (by decide +kernel)⟩
theorem lw_p65 : lw_okq (⟨"WaterByLettersModel", "gives", "(I)I"⟩, 65) := ⟨⟨by decide +kernel, by decide +kernel⟩, List.mem_of_getElem? (i := 1095) (by decide +kernel), List.mem_of_getElem? (i := 1500) (by decide +kernel), List.mem_of_getElem? (i := 1501) (by decide +kernel)⟩
theorem lw_p66 : lw_okq (⟨"WaterByLettersModel", "readsOrder", "()I"⟩, 65) := ⟨⟨by decide +kernel, by decide +kernel⟩, List.mem_of_getElem? (i := 1095) (by decide +kernel), List.mem_of_getElem? (i := 1521) (by decide +kernel), List.mem_of_getElem? (i := 1522) (by decide +kernel)⟩
theorem lw_p67 : lw_okq (⟨"WaterByLettersModel", "putsBy", "()V"⟩, 65) := ⟨⟨by decide +kernel, by decide +kernel⟩, List.mem_of_getElem? (i := 1095) (by decide +kernel), List.mem_of_getElem? (i := 1528) (by decide +kernel), List.mem_of_getElem? (i := 1529) (by decide +kernel)⟩
theorem lw_p68 : lw_okq (⟨"WaterByLettersModel", "adds", "(I)I"⟩, 65) := ⟨⟨by decide +kernel, by decide +kernel⟩, List.mem_of_getElem? (i := 1095) (by decide +kernel), List.mem_of_getElem? (i := 1532) (by decide +kernel), List.mem_of_getElem? (i := 1533) (by decide +kernel)⟩
theorem lw_p69 : lw_okq (⟨"WaterByLettersModel", "placeOf", "([II)I"⟩, 65) := ⟨⟨by decide +kernel, by decide +kernel⟩, List.mem_of_getElem? (i := 1095) (by decide +kernel), List.mem_of_getElem? (i := 1540) (by decide +kernel), List.mem_of_getElem? (i := 1541) (by decide +kernel)⟩
theorem lw_p70 : lw_okq (⟨"WaterByLettersModel", "marries", "([III)I"⟩, 65) := ⟨⟨by decide +kernel, by decide +kernel⟩, List.mem_of_getElem? (i := 1095) (by decide +kernel), List.mem_of_getElem? (i := 1548) (by decide +kernel), List.mem_of_getElem? (i := 1549) (by decide +kernel)⟩
theorem lw_p71 : lw_okq (⟨"WaterByLettersModel", "dayGoes", "([I)I"⟩, 65) := ⟨⟨by decide +kernel, by decide +kernel⟩, List.mem_of_getElem? (i := 1095) (by decide +kernel), List.mem_of_getElem? (i := 1557) (by decide +kernel), List.mem_of_getElem? (i := 1558) (by decide +kernel)⟩
theorem lw_p72 : lw_okq (⟨"WaterByLettersModel", "lessBits", "()I"⟩, 65) := ⟨⟨by decide +kernel, by decide +kernel⟩, List.mem_of_getElem? (i := 1095) (by decide +kernel), List.mem_of_getElem? (i := 1561) (by decide +kernel), List.mem_of_getElem? (i := 1562) (by decide +kernel)⟩
theorem lw_p73 : lw_okq (⟨"WaterByLettersModel", "enters", "(J)V"⟩, 65) := ⟨⟨by decide +kernel, by decide +kernel⟩, List.mem_of_getElem? (i := 1095) (by decide +kernel), List.mem_of_getElem? (i := 1565) (by decide +kernel), List.mem_of_getElem? (i := 1566) (by decide +kernel)⟩
theorem lw_p74 : lw_okq (⟨"WaterByLettersModel", "readsAct", "()Z"⟩, 65) := ⟨⟨by decide +kernel, by decide +kernel⟩, List.mem_of_getElem? (i := 1095) (by decide +kernel), List.mem_of_getElem? (i := 1573) (by decide +kernel), List.mem_of_getElem? (i := 1574) (by decide +kernel)⟩
theorem lw_p75 : lw_okq (⟨"WaterByLettersModel", "does", "(I)Z"⟩, 65) := ⟨⟨by decide +kernel, by decide +kernel⟩, List.mem_of_getElem? (i := 1095) (by decide +kernel), List.mem_of_getElem? (i := 1578) (by decide +kernel), List.mem_of_getElem? (i := 1579) (by decide +kernel)⟩
theorem lw_p76 : lw_okq (⟨"WaterByLettersModel", "lessMany", "()I"⟩, 65) := ⟨⟨by decide +kernel, by decide +kernel⟩, List.mem_of_getElem? (i := 1095) (by decide +kernel), List.mem_of_getElem? (i := 1597) (by decide +kernel), List.mem_of_getElem? (i := 1598) (by decide +kernel)⟩
theorem lw_p77 : lw_okq (⟨"WaterByLettersModel", "puts", "()V"⟩, 65) := ⟨⟨by decide +kernel, by decide +kernel⟩, List.mem_of_getElem? (i := 1095) (by decide +kernel), List.mem_of_getElem? (i := 1609) (by decide +kernel), List.mem_of_getElem? (i := 1610) (by decide +kernel)⟩
theorem lw_p78 : lw_okq (⟨"WaterByLettersModel", "goesThrough", "(III)V"⟩, 65) := ⟨⟨by decide +kernel, by decide +kernel⟩, List.mem_of_getElem? (i := 1095) (by decide +kernel), List.mem_of_getElem? (i := 1622) (by decide +kernel), List.mem_of_getElem? (i := 1623) (by decide +kernel)⟩
theorem lw_p79 : lw_okq (⟨"WaterByLettersModel", "looksAt", "(I)V"⟩, 65) := ⟨⟨by decide +kernel, by decide +kernel⟩, List.mem_of_getElem? (i := 1095) (by decide +kernel), List.mem_of_getElem? (i := 1626) (by decide +kernel), List.mem_of_getElem? (i := 1627) (by decide +kernel)⟩
def lw_privs_5 : List (MethodName × Nat) := [(⟨"WaterByLettersModel", "ruled", "()I"⟩, 65), (⟨"WaterByLettersModel", "gives", "(I)I"⟩, 65), (⟨"WaterByLettersModel", "readsOrder", "()I"⟩, 65), (⟨"WaterByLettersModel", "putsBy", "()V"⟩, 65), (⟨"WaterByLettersModel", "adds", "(I)I"⟩, 65), (⟨"WaterByLettersModel", "placeOf", "([II)I"⟩, 65), (⟨"WaterByLettersModel", "marries", "([III)I"⟩, 65), (⟨"WaterByLettersModel", "dayGoes", "([I)I"⟩, 65), (⟨"WaterByLettersModel", "lessBits", "()I"⟩, 65), (⟨"WaterByLettersModel", "enters", "(J)V"⟩, 65), (⟨"WaterByLettersModel", "readsAct", "()Z"⟩, 65), (⟨"WaterByLettersModel", "does", "(I)Z"⟩, 65), (⟨"WaterByLettersModel", "lessMany", "()I"⟩, 65), (⟨"WaterByLettersModel", "puts", "()V"⟩, 65), (⟨"WaterByLettersModel", "goesThrough", "(III)V"⟩, 65), (⟨"WaterByLettersModel", "looksAt", "(I)V"⟩, 65)]
theorem lw_r5 : ∀ q ∈ lw_privs_5, lw_okq q := List.forall_mem_cons.mpr ⟨lw_p64, List.forall_mem_cons.mpr ⟨lw_p65, List.forall_mem_cons.mpr ⟨lw_p66, List.forall_mem_cons.mpr ⟨lw_p67, List.forall_mem_cons.mpr ⟨lw_p68, List.forall_mem_cons.mpr ⟨lw_p69, List.forall_mem_cons.mpr ⟨lw_p70, List.forall_mem_cons.mpr ⟨lw_p71, List.forall_mem_cons.mpr ⟨lw_p72, List.forall_mem_cons.mpr ⟨lw_p73, List.forall_mem_cons.mpr ⟨lw_p74, List.forall_mem_cons.mpr ⟨lw_p75, List.forall_mem_cons.mpr ⟨lw_p76, List.forall_mem_cons.mpr ⟨lw_p77, List.forall_mem_cons.mpr ⟨lw_p78, List.forall_mem_cons.mpr ⟨lw_p79, fun _ h => absurd h List.not_mem_nil⟩⟩⟩⟩⟩⟩⟩⟩⟩⟩⟩⟩⟩⟩⟩⟩
theorem lw_p80 : lw_okq (⟨"WaterByLettersModel", "keepsTurn", "(I)V"⟩, 65) := ⟨⟨by decide +kernel, by decide +kernel⟩, List.mem_of_getElem? (i := 1095) (by decide +kernel), List.mem_of_getElem? (i := 1630) (by decide +kernel), List.mem_of_getElem? (i := 1631) (by decide +kernel)⟩
theorem lw_p81 : lw_okq (⟨"WaterByLettersModel", "isAsSeen", "()Z"⟩, 65) := ⟨⟨by decide +kernel, by decide +kernel⟩, List.mem_of_getElem? (i := 1095) (by decide +kernel), List.mem_of_getElem? (i := 1634) (by decide +kernel), List.mem_of_getElem? (i := 1635) (by decide +kernel)⟩
theorem lw_p82 : lw_okq (⟨"WaterByLettersModel", "tellsTurn", "(I)I"⟩, 65) := ⟨⟨by decide +kernel, by decide +kernel⟩, List.mem_of_getElem? (i := 1095) (by decide +kernel), List.mem_of_getElem? (i := 1638) (by decide +kernel), List.mem_of_getElem? (i := 1639) (by decide +kernel)⟩
theorem lw_p83 : lw_okq (⟨"WaterByLettersModel", "earlier", "()I"⟩, 65) := ⟨⟨by decide +kernel, by decide +kernel⟩, List.mem_of_getElem? (i := 1095) (by decide +kernel), List.mem_of_getElem? (i := 1654) (by decide +kernel), List.mem_of_getElem? (i := 1655) (by decide +kernel)⟩
theorem lw_p84 : lw_okq (⟨"WaterByLettersModel", "thirstOf", "(I)I"⟩, 65) := ⟨⟨by decide +kernel, by decide +kernel⟩, List.mem_of_getElem? (i := 1095) (by decide +kernel), List.mem_of_getElem? (i := 1663) (by decide +kernel), List.mem_of_getElem? (i := 1664) (by decide +kernel)⟩
theorem lw_p85 : lw_okq (⟨"WaterByLettersModel", "laysClimbs", "()V"⟩, 65) := ⟨⟨by decide +kernel, by decide +kernel⟩, List.mem_of_getElem? (i := 1095) (by decide +kernel), List.mem_of_getElem? (i := 1675) (by decide +kernel), List.mem_of_getElem? (i := 1676) (by decide +kernel)⟩
theorem lw_p86 : lw_okq (⟨"WaterByLettersModel", "pairsFrom", "(IIII)V"⟩, 65) := ⟨⟨by decide +kernel, by decide +kernel⟩, List.mem_of_getElem? (i := 1095) (by decide +kernel), List.mem_of_getElem? (i := 1679) (by decide +kernel), List.mem_of_getElem? (i := 1680) (by decide +kernel)⟩
theorem lw_p87 : lw_okq (⟨"WaterByLettersModel", "tellsFraction", "(JJ)V"⟩, 65) := ⟨⟨by decide +kernel, by decide +kernel⟩, List.mem_of_getElem? (i := 1095) (by decide +kernel), List.mem_of_getElem? (i := 1691) (by decide +kernel), List.mem_of_getElem? (i := 1692) (by decide +kernel)⟩
theorem lw_p88 : lw_okq (⟨"WaterByLettersModel", "laysFits", "()V"⟩, 65) := ⟨⟨by decide +kernel, by decide +kernel⟩, List.mem_of_getElem? (i := 1095) (by decide +kernel), List.mem_of_getElem? (i := 1714) (by decide +kernel), List.mem_of_getElem? (i := 1715) (by decide +kernel)⟩
theorem lw_p89 : lw_okq (⟨"WaterByLettersModel", "lessIn", "(I)I"⟩, 65) := ⟨⟨by decide +kernel, by decide +kernel⟩, List.mem_of_getElem? (i := 1095) (by decide +kernel), List.mem_of_getElem? (i := 1734) (by decide +kernel), List.mem_of_getElem? (i := 1735) (by decide +kernel)⟩
theorem lw_p90 : lw_okq (⟨"WaterByLettersModel", "draws", "(I)I"⟩, 65) := ⟨⟨by decide +kernel, by decide +kernel⟩, List.mem_of_getElem? (i := 1095) (by decide +kernel), List.mem_of_getElem? (i := 1756) (by decide +kernel), List.mem_of_getElem? (i := 1757) (by decide +kernel)⟩
def lw_privs_6 : List (MethodName × Nat) := [(⟨"WaterByLettersModel", "keepsTurn", "(I)V"⟩, 65), (⟨"WaterByLettersModel", "isAsSeen", "()Z"⟩, 65), (⟨"WaterByLettersModel", "tellsTurn", "(I)I"⟩, 65), (⟨"WaterByLettersModel", "earlier", "()I"⟩, 65), (⟨"WaterByLettersModel", "thirstOf", "(I)I"⟩, 65), (⟨"WaterByLettersModel", "laysClimbs", "()V"⟩, 65), (⟨"WaterByLettersModel", "pairsFrom", "(IIII)V"⟩, 65), (⟨"WaterByLettersModel", "tellsFraction", "(JJ)V"⟩, 65), (⟨"WaterByLettersModel", "laysFits", "()V"⟩, 65), (⟨"WaterByLettersModel", "lessIn", "(I)I"⟩, 65), (⟨"WaterByLettersModel", "draws", "(I)I"⟩, 65)]
theorem lw_r6 : ∀ q ∈ lw_privs_6, lw_okq q := List.forall_mem_cons.mpr ⟨lw_p80, List.forall_mem_cons.mpr ⟨lw_p81, List.forall_mem_cons.mpr ⟨lw_p82, List.forall_mem_cons.mpr ⟨lw_p83, List.forall_mem_cons.mpr ⟨lw_p84, List.forall_mem_cons.mpr ⟨lw_p85, List.forall_mem_cons.mpr ⟨lw_p86, List.forall_mem_cons.mpr ⟨lw_p87, List.forall_mem_cons.mpr ⟨lw_p88, List.forall_mem_cons.mpr ⟨lw_p89, List.forall_mem_cons.mpr ⟨lw_p90, fun _ h => absurd h List.not_mem_nil⟩⟩⟩⟩⟩⟩⟩⟩⟩⟩⟩
def lw_privs : List (MethodName × Nat) := lw_privs_1 ++ (lw_privs_2 ++ (lw_privs_3 ++ (lw_privs_4 ++ (lw_privs_5 ++ (lw_privs_6)))))
def lw_tbl : List Cond := k2_sels lw_privs ++ tables_1
theorem lw_privs_ok : ∀ q ∈ lw_privs, lw_okq q := by
  show ∀ q ∈ lw_privs_1 ++ (lw_privs_2 ++ (lw_privs_3 ++ (lw_privs_4 ++ (lw_privs_5 ++ (lw_privs_6))))), lw_okq q
  exact List.forall_mem_append.mpr ⟨lw_r1, List.forall_mem_append.mpr ⟨lw_r2, List.forall_mem_append.mpr ⟨lw_r3, List.forall_mem_append.mpr ⟨lw_r4, List.forall_mem_append.mpr ⟨lw_r5, lw_r6⟩⟩⟩⟩⟩
-- ===== end of PART A; then your names; then what follows =====
end
section
/-! AN ABSTRACT MACHINE OVER INTEGERS: values are ints, longs (as Int) and references (kind, number of the cell); the memory is a function.
z_step is the meaning of one instruction as a formula over continuations; 04 shows that the JVM model follows it. -/
abbrev zD : Type := Nat × Int
abbrev zU : Type := Int ⊕ Int ⊕ (zD × Nat)
abbrev zV : Type := Option zU
abbrev zM : Type := Nat → Int → Int
abbrev zE : Type := Nat × Instr × Nat × List Nat × Int
abbrev z_i (x : Int) : zU := .inl x
abbrev z_l (x : Int) : zU := .inr (.inl x)
abbrev z_r (k : zD) (a : Nat) : zU := .inr (.inr (k, a))
def z_wr (x : Int) : Int := (x + 2147483648) % 4294967296 - 2147483648
def z_wl (x : Int) : Int := (x + 9223372036854775808) % 18446744073709551616 - 9223372036854775808
def z_and (a b : Int) : Int := (Int32.ofInt a &&& Int32.ofInt b).toInt
def z_or (a b : Int) : Int := (Int32.ofInt a ||| Int32.ofInt b).toInt
def z_xor (a b : Int) : Int := (Int32.ofInt a ^^^ Int32.ofInt b).toInt
def z_shl (a b : Int) : Int := (Int32.ofInt a <<< (Int32.ofInt b &&& 31)).toInt
def z_shr (a b : Int) : Int := (Int32.ofInt a >>> (Int32.ofInt b &&& 31)).toInt
def z_ushr (a b : Int) : Int := ((Int32.ofInt a).toUInt32 >>> ((Int32.ofInt b).toUInt32 &&& Int32.toUInt32 31)).toInt32.toInt
def z_i2b (a : Int) : Int := (Int32.ofInt a).toInt8.toInt32.toInt
def z_i2s (a : Int) : Int := (Int32.ofInt a).toInt16.toInt32.toInt
def z_cmp (a b : Int) : Int := if b < a then 1 else if a = b then 0 else -1
def z_up (M : zM) (a : Nat) (i v : Int) : zM := fun b j => if b = a ∧ j = i then v else M b j
def z_cp (M : zM) (a : Nat) (sp : Int) (b : Nat) (dp n : Int) : zM := fun c j => if c = b ∧ dp ≤ j ∧ j < dp + n then M a (sp + (j - dp)) else M c j
def z_get : List zV → Nat → zV
  | [], _ => none
  | v :: _, 0 => v
  | _ :: l, k + 1 => z_get l k
def z_isl : zV → Bool
  | some (.inr (.inl _)) => true
  | _ => false
def z_hd : List zV → List zV
  | [] => []
  | _ :: l => none :: l
def z_put : List zV → Nat → zU → List zV
  | [], _, _ => []
  | _ :: l, 0, v => some v :: cond (z_isl (some v)) (z_hd l) l
  | w :: l, k + 1, v => cond (Nat.beq k 0) (cond (z_isl w) none w) w :: z_put l k v
def z_cat : zU → Nat
  | .inr (.inl _) => 2
  | _ => 1
def z_cats : List zU → Nat
  | [] => 0
  | u :: l => z_cat u + z_cats l
/-- the towns that two arrays of references hold -/
def z_el (a : Nat) (i : Int) : Nat := cond (Nat.beq a 50) 51 163 + 6 * i.toNat
def z_fetch : List zE → Nat → Option (Instr × Nat × List Nat × Int)
  | [], _ => none
  | e :: l, pc => cond (Nat.beq e.1 pc) (some e.2) (z_fetch l pc)
def z_take : Nat → List zU → Option (List zU × List zU)
  | 0, st => some ([], st)
  | _ + 1, [] => none
  | n + 1, u :: st => match z_take n st with
    | some (a, r) => some (u :: a, r)
    | none => none
def z_rev : List zU → List zU → List zU
  | [], b => b
  | u :: l, b => z_rev l (u :: b)
def z_c (c : Jvm.ClassFile.Cond) (a b : Int) : Prop := match c with
  | .eq => a = b
  | .ne => a ≠ b
  | .lt => a < b
  | .ge => b ≤ a
  | .gt => b < a
  | .le => a ≤ b
def z_ts (a : Int) (K : Nat → Prop) (dflt : Nat) (lo : Int) : List Nat → Int → Prop
  | [], k => (a < lo ∨ k ≤ a) → K dflt
  | t :: ts, k => (a = k → K t) ∧ z_ts a K dflt lo ts (k + 1)
def z_ls (a : Int) (K : Nat → Prop) (dflt : Nat) : List Nat → Prop
  | k :: t :: r => (a = (k : Int) → K t) ∧ (a ≠ (k : Int) → z_ls a K dflt r)
  | _ => K dflt
section
variable (K : Nat → List zV → List zU → zM → Prop) (Q : Option zU → zM → Prop) (C : Nat → List zU → zM → (Option zU → zM → Prop) → Prop)
/-- one instruction: at pc, of length n, with its places x and its number v -/
def z_step (pc : Nat) (i : Instr) (n : Nat) (x : List Nat) (v : Int) (ls : List zV) (st : List zU) (M : zM) : Prop :=
  match i with
  | .iconst _ => K (pc + n) ls (z_i v :: st) M
  | .bipush _ => K (pc + n) ls (z_i v :: st) M
  | .sipush _ => K (pc + n) ls (z_i v :: st) M
  | .lconst _ => K (pc + n) ls (z_l v :: st) M
  | .ldc2_w _ => K (pc + n) ls (z_l v :: st) M
  | .ldc _ => match x with
    | [j, len] => K (pc + n) ls (z_r (104, (len : Int)) j :: st) M
    | _ => K (pc + n) ls (z_i v :: st) M
  | .ldc_w _ => match x with
    | [j, len] => K (pc + n) ls (z_r (104, (len : Int)) j :: st) M
    | _ => K (pc + n) ls (z_i v :: st) M
  | .iload k => match z_get ls k with
    | some (.inl a) => K (pc + n) ls (z_i a :: st) M
    | _ => False
  | .iload_n k => match z_get ls k.val with
    | some (.inl a) => K (pc + n) ls (z_i a :: st) M
    | _ => False
  | .lload k => match z_get ls k with
    | some (.inr (.inl a)) => K (pc + n) ls (z_l a :: st) M
    | _ => False
  | .lload_n k => match z_get ls k.val with
    | some (.inr (.inl a)) => K (pc + n) ls (z_l a :: st) M
    | _ => False
  | .aload k => match z_get ls k with
    | some (.inr (.inr a)) => K (pc + n) ls (.inr (.inr a) :: st) M
    | _ => False
  | .aload_n k => match z_get ls k.val with
    | some (.inr (.inr a)) => K (pc + n) ls (.inr (.inr a) :: st) M
    | _ => False
  | .istore k => match st with
    | .inl a :: st => K (pc + n) (z_put ls k (z_i a)) st M
    | _ => False
  | .istore_n k => match st with
    | .inl a :: st => K (pc + n) (z_put ls k.val (z_i a)) st M
    | _ => False
  | .lstore k => match st with
    | .inr (.inl a) :: st => K (pc + n) (z_put ls k (z_l a)) st M
    | _ => False
  | .lstore_n k => match st with
    | .inr (.inl a) :: st => K (pc + n) (z_put ls k.val (z_l a)) st M
    | _ => False
  | .iinc k _ => match z_get ls k with
    | some (.inl a) => K (pc + n) (z_put ls k (z_i (z_wr (a + v)))) st M
    | _ => False
  | .iadd => match st with
    | .inl b :: .inl a :: st => K (pc + n) ls (z_i (z_wr (a + b)) :: st) M
    | _ => False
  | .isub => match st with
    | .inl b :: .inl a :: st => K (pc + n) ls (z_i (z_wr (a - b)) :: st) M
    | _ => False
  | .imul => match st with
    | .inl b :: .inl a :: st => K (pc + n) ls (z_i (z_wr (a * b)) :: st) M
    | _ => False
  | .idiv => match st with
    | .inl b :: .inl a :: st => b ≠ 0 ∧ K (pc + n) ls (z_i (z_wr (a.tdiv b)) :: st) M
    | _ => False
  | .irem => match st with
    | .inl b :: .inl a :: st => b ≠ 0 ∧ K (pc + n) ls (z_i (a.tmod b) :: st) M
    | _ => False
  | .ineg => match st with
    | .inl a :: st => K (pc + n) ls (z_i (z_wr (-a)) :: st) M
    | _ => False
  | .iand => match st with
    | .inl b :: .inl a :: st => K (pc + n) ls (z_i (z_and a b) :: st) M
    | _ => False
  | .ior => match st with
    | .inl b :: .inl a :: st => K (pc + n) ls (z_i (z_or a b) :: st) M
    | _ => False
  | .ixor => match st with
    | .inl b :: .inl a :: st => K (pc + n) ls (z_i (z_xor a b) :: st) M
    | _ => False
  | .ishl => match st with
    | .inl b :: .inl a :: st => K (pc + n) ls (z_i (z_shl a b) :: st) M
    | _ => False
  | .ishr => match st with
    | .inl b :: .inl a :: st => K (pc + n) ls (z_i (z_shr a b) :: st) M
    | _ => False
  | .iushr => match st with
    | .inl b :: .inl a :: st => K (pc + n) ls (z_i (z_ushr a b) :: st) M
    | _ => False
  | .i2l => match st with
    | .inl a :: st => K (pc + n) ls (z_l a :: st) M
    | _ => False
  | .i2b => match st with
    | .inl a :: st => K (pc + n) ls (z_i (z_i2b a) :: st) M
    | _ => False
  | .i2s => match st with
    | .inl a :: st => K (pc + n) ls (z_i (z_i2s a) :: st) M
    | _ => False
  | .ladd => match st with
    | .inr (.inl b) :: .inr (.inl a) :: st => K (pc + n) ls (z_l (z_wl (a + b)) :: st) M
    | _ => False
  | .lmul => match st with
    | .inr (.inl b) :: .inr (.inl a) :: st => K (pc + n) ls (z_l (z_wl (a * b)) :: st) M
    | _ => False
  | .ldiv => match st with
    | .inr (.inl b) :: .inr (.inl a) :: st => b ≠ 0 ∧ K (pc + n) ls (z_l (z_wl (a.tdiv b)) :: st) M
    | _ => False
  | .lrem => match st with
    | .inr (.inl b) :: .inr (.inl a) :: st => b ≠ 0 ∧ K (pc + n) ls (z_l (a.tmod b) :: st) M
    | _ => False
  | .lcmp => match st with
    | .inr (.inl b) :: .inr (.inl a) :: st => K (pc + n) ls (z_i (z_cmp a b) :: st) M
    | _ => False
  | .ifCond c _ => match st, x with
    | .inl a :: st, [t] => (z_c c a 0 → K t ls st M) ∧ (¬ z_c c a 0 → K (pc + n) ls st M)
    | _, _ => False
  | .if_icmp c _ => match st, x with
    | .inl b :: .inl a :: st, [t] => (z_c c a b → K t ls st M) ∧ (¬ z_c c a b → K (pc + n) ls st M)
    | _, _ => False
  | .goto _ => match x with
    | [t] => K t ls st M
    | _ => False
  | .tableswitch _ _ _ _ => match st, x with
    | .inl a :: st, dflt :: ts => z_ts a (fun t => K t ls st M) dflt v ts v
    | _, _ => False
  | .lookupswitch _ _ => match st, x with
    | .inl a :: st, dflt :: ts => z_ls a (fun t => K t ls st M) dflt ts
    | _, _ => False
  | .getfield _ => match st, x with
    | .inr (.inr (k, a)) :: st, [ci, j] => cond (Nat.beq k.1 ci) (K (pc + n) ls (z_i (M a (j : Int)) :: st) M) False
    | .inr (.inr (k, a)) :: st, [ci, _, off, kc, kl] => cond (Nat.beq k.1 ci) (K (pc + n) ls (z_r (kc, (kl : Int)) (a + off) :: st) M) False
    | _, _ => False
  | .putfield _ => match st, x with
    | .inl w :: .inr (.inr (k, a)) :: st, [ci, j] => cond (Nat.beq k.1 ci) (K (pc + n) ls st (z_up M a (j : Int) w)) False
    | .inl w :: .inr (.inr (k, a)) :: st, [ci, j, _] => cond (Nat.beq k.1 ci) ((w = 0 ∨ w = 1) ∧ K (pc + n) ls st (z_up M a (j : Int) w)) False
    | _, _ => False
  | .iaload => match st with
    | .inl j :: .inr (.inr (k, a)) :: st => cond (Nat.beq k.1 100) ((0 ≤ j ∧ j < k.2) ∧ K (pc + n) ls (z_i (M a j) :: st) M) (cond (Nat.beq k.1 105) ((0 ≤ j ∧ j < k.2) ∧ K (pc + n) ls (z_i (M 999 j) :: st) M) False)
    | _ => False
  | .laload => match st with
    | .inl j :: .inr (.inr (k, a)) :: st => cond (Nat.beq k.1 101) ((0 ≤ j ∧ j < k.2) ∧ K (pc + n) ls (z_l (M a j) :: st) M) False
    | _ => False
  | .baload => match st with
    | .inl j :: .inr (.inr (k, a)) :: st => cond (Nat.beq k.1 102) ((0 ≤ j ∧ j < k.2) ∧ K (pc + n) ls (z_i (M a j) :: st) M) False
    | _ => False
  | .aaload => match st with
    | .inl j :: .inr (.inr (k, a)) :: st => cond (Nat.beq k.1 103) ((0 ≤ j ∧ j < k.2) ∧ K (pc + n) ls (z_r (9, 0) (z_el a j) :: st) M) False
    | _ => False
  | .iastore => match st with
    | .inl w :: .inl j :: .inr (.inr (k, a)) :: st => cond (Nat.beq k.1 100) ((0 ≤ j ∧ j < k.2) ∧ K (pc + n) ls st (z_up M a j w)) False
    | _ => False
  | .lastore => match st with
    | .inr (.inl w) :: .inl j :: .inr (.inr (k, a)) :: st => cond (Nat.beq k.1 101) ((0 ≤ j ∧ j < k.2) ∧ K (pc + n) ls st (z_up M a j w)) False
    | _ => False
  | .bastore => match st with
    | .inl w :: .inl j :: .inr (.inr (k, a)) :: st => cond (Nat.beq k.1 102) ((0 ≤ j ∧ j < k.2) ∧ (w = 0 ∨ w = 1) ∧ K (pc + n) ls st (z_up M a j w)) False
    | _ => False
  | .arraylength => match st with
    | .inr (.inr (k, a)) :: st => cond (Nat.beq k.1 100 || Nat.beq k.1 105) (K (pc + n) ls (z_i k.2 :: st) M) False
    | _ => False
  | .dup => match st with
    | .inl a :: st => K (pc + n) ls (z_i a :: z_i a :: st) M
    | .inr (.inr a) :: st => K (pc + n) ls (.inr (.inr a) :: .inr (.inr a) :: st) M
    | _ => False
  | .dup2 => match st with
    | .inl b :: .inr (.inr a) :: st => K (pc + n) ls (z_i b :: .inr (.inr a) :: z_i b :: .inr (.inr a) :: st) M
    | _ => False
  | .pop => match st with
    | .inl _ :: st => K (pc + n) ls st M
    | _ => False
  | .invokestatic _ => match x with
    | [3] => match st with
      | .inl b :: .inl a :: st => cond (Nat.ble (z_cats st) 8) (K (pc + n) ls (z_i (if b < a then b else a) :: st) M) False
      | _ => False
    | [4] => match st with
      | .inl b :: .inl a :: st => cond (Nat.ble (z_cats st) 8) (K (pc + n) ls (z_i (if a < b then b else a) :: st) M) False
      | _ => False
    | [5] => match st with
      | .inl w :: .inl dp :: .inr (.inr (kb, b)) :: .inl sp :: .inr (.inr (ka, a)) :: st => cond (Nat.beq ka.1 100 && (Nat.beq kb.1 100 && Nat.ble (z_cats st) 8)) ((0 ≤ sp ∧ 0 ≤ dp ∧ 0 ≤ w ∧ sp + w ≤ ka.2 ∧ dp + w ≤ kb.2) ∧ K (pc + n) ls st (z_cp M a sp b dp w)) False
      | _ => False
    | [_, y, na] => match z_take na st with
      | some (a, st) => cond (Nat.ble (z_cats st) 8) (C y (z_rev a []) M (fun r M => K (pc + n) ls (r.toList ++ st) M)) False
      | none => False
    | _ => False
  | .invokevirtual _ => match x with
    | [y, na] => match z_take (na + 1) st with
      | some (a, st) => cond (Nat.ble (z_cats st) 8) (C y (z_rev a []) M (fun r M => K (pc + n) ls (r.toList ++ st) M)) False
      | none => False
    | _ => False
  | .ireturn => match st with
    | [.inl a] => cond (Nat.beq v.toNat 1) ((a = 0 ∨ a = 1) ∧ Q (some (z_i a)) M) (Q (some (z_i a)) M)
    | _ => False
  | .lreturn => match st with
    | [.inr (.inl a)] => Q (some (z_l a)) M
    | _ => False
  | .return_ => match st with
    | [] => Q none M
    | _ => False
  | _ => False
end
/-- a stretch of instructions, up to the places in cuts, where R takes over -/
def z_go (L : List zE) (cuts : List Nat) (R : Nat → List zV → List zU → zM → Prop) (Q : Option zU → zM → Prop) (C : Nat → List zU → zM → (Option zU → zM → Prop) → Prop) : Nat → Nat → List zV → List zU → zM → Prop
  | 0, _, _, _, _ => False
  | k + 1, pc, ls, st, M => cond (cuts.any (fun c => Nat.beq c pc)) (R pc ls st M) (match z_fetch L pc with
    | some (i, n, x, v) => z_step (fun pc ls st M => z_go L cuts R Q C k pc ls st M) Q C pc i n x v ls st M
    | none => False)
/-- the same, its first place no cut -/
def z_wp (L : List zE) (cuts : List Nat) (R : Nat → List zV → List zU → zM → Prop) (Q : Option zU → zM → Prop) (C : Nat → List zU → zM → (Option zU → zM → Prop) → Prop) (k pc : Nat) (ls : List zV) (st : List zU) (M : zM) : Prop :=
  match z_fetch L pc with
  | some (i, n, x, v) => z_step (fun pc ls st M => z_go L cuts R Q C k pc ls st M) Q C pc i n x v ls st M
  | none => False
end
section
/-! THE CLASSES, THE KINDS OF THE CELLS (by the order in which the constructors make them), THE STRINGS: written by gen_static.py -/
def zF0 : u_T := fun k => match k with
  | 0 => ("WaterByLetters$Book", "turn", "[I", true)
  | 1 => ("WaterByLetters$Book", "places", "[I", true)
  | 2 => ("WaterByLetters$Book", "keys", "[I", true)
  | 3 => ("WaterByLetters$Book", "ranks", "[I", true)
  | _ => ("WaterByLetters$Book", "count", "I", false)
def zt0 : Nat → FieldType := fun k => match k with
  | 0 => .array .int
  | 1 => .array .int
  | 2 => .array .int
  | 3 => .array .int
  | _ => .int
def zF1 : u_T := fun k => match k with
  | 0 => ("WaterByLetters$Matching", "climbs", "[I", true)
  | _ => ("WaterByLetters$Matching", "worth", "[I", true)
def zt1 : Nat → FieldType := fun k => match k with
  | 0 => .array .int
  | _ => .array .int
def zF2 : u_T := fun k => match k with
  | 0 => ("WaterByLetters$Orders", "losses", "[I", true)
  | 1 => ("WaterByLetters$Orders", "losers", "[I", true)
  | 2 => ("WaterByLetters$Orders", "least", "[I", true)
  | 3 => ("WaterByLetters$Orders", "demands", "[I", true)
  | 4 => ("WaterByLetters$Orders", "possible", "Z", false)
  | 5 => ("WaterByLetters$Orders", "beginnings", "[I", true)
  | _ => ("WaterByLetters$Orders", "endings", "[I", true)
def zt2 : Nat → FieldType := fun k => match k with
  | 0 => .array .int
  | 1 => .array .int
  | 2 => .array .int
  | 3 => .array .int
  | 4 => .boolean
  | 5 => .array .int
  | _ => .array .int
def zF3 : u_T := fun k => match k with
  | 0 => ("WaterByLetters$Past", "towns", "[LWaterByLetters$Town;", true)
  | 1 => ("WaterByLetters$Past", "next", "I", false)
  | _ => ("WaterByLetters$Past", "size", "I", false)
def zt3 : Nat → FieldType := fun k => match k with
  | 0 => .array (.object "WaterByLetters$Town")
  | 1 => .int
  | _ => .int
def zF4 : u_T := fun k => match k with
  | 0 => ("WaterByLetters$Pump", "thirst", "[I", true)
  | 1 => ("WaterByLetters$Pump", "heat", "[I", true)
  | 2 => ("WaterByLetters$Pump", "heatLength", "I", false)
  | 3 => ("WaterByLetters$Pump", "cups", "[I", true)
  | 4 => ("WaterByLetters$Pump", "left", "I", false)
  | 5 => ("WaterByLetters$Pump", "dryBits", "I", false)
  | 6 => ("WaterByLetters$Pump", "leftOfAll", "I", false)
  | _ => ("WaterByLetters$Pump", "dryBitsOfAll", "I", false)
def zt4 : Nat → FieldType := fun k => match k with
  | 0 => .array .int
  | 1 => .array .int
  | 2 => .int
  | 3 => .array .int
  | 4 => .int
  | 5 => .int
  | 6 => .int
  | _ => .int
def zF5 : u_T := fun k => match k with
  | 0 => ("WaterByLetters$Row", "numbers", "[J", true)
  | _ => ("WaterByLetters$Row", "size", "I", false)
def zt5 : Nat → FieldType := fun k => match k with
  | 0 => .array .long
  | _ => .int
def zF6 : u_T := fun k => match k with
  | 0 => ("WaterByLetters$Rule", "signs", "[I", true)
  | 1 => ("WaterByLetters$Rule", "length", "I", false)
  | 2 => ("WaterByLetters$Rule", "compared", "[I", true)
  | 3 => ("WaterByLetters$Rule", "comparisons", "[I", true)
  | 4 => ("WaterByLetters$Rule", "sums", "[I", true)
  | 5 => ("WaterByLetters$Rule", "addings", "[I", true)
  | 6 => ("WaterByLetters$Rule", "products", "[I", true)
  | 7 => ("WaterByLetters$Rule", "factorings", "[I", true)
  | 8 => ("WaterByLetters$Rule", "negated", "[Z", true)
  | _ => ("WaterByLetters$Rule", "depth", "I", false)
def zt6 : Nat → FieldType := fun k => match k with
  | 0 => .array .int
  | 1 => .int
  | 2 => .array .int
  | 3 => .array .int
  | 4 => .array .int
  | 5 => .array .int
  | 6 => .array .int
  | 7 => .array .int
  | 8 => .array .boolean
  | _ => .int
def zF7 : u_T := fun k => match k with
  | 0 => ("WaterByLetters$Text", "signs", "[I", true)
  | _ => ("WaterByLetters$Text", "length", "I", false)
def zt7 : Nat → FieldType := fun k => match k with
  | 0 => .array .int
  | _ => .int
def zF8 : u_T := fun k => match k with
  | 0 => ("WaterByLetters$Thrift", "best", "[I", true)
  | 1 => ("WaterByLetters$Thrift", "sums", "[I", true)
  | 2 => ("WaterByLetters$Thrift", "byThirst", "[I", true)
  | 3 => ("WaterByLetters$Thrift", "telling", "[I", true)
  | 4 => ("WaterByLetters$Thrift", "tellingBits", "I", false)
  | 5 => ("WaterByLetters$Thrift", "ahead", "[I", true)
  | 6 => ("WaterByLetters$Thrift", "behind", "[I", true)
  | 7 => ("WaterByLetters$Thrift", "chosen", "[I", true)
  | 8 => ("WaterByLetters$Thrift", "count", "I", false)
  | 9 => ("WaterByLetters$Thrift", "cupsToday", "I", false)
  | 10 => ("WaterByLetters$Thrift", "most", "I", false)
  | _ => ("WaterByLetters$Thrift", "bound", "I", false)
def zt8 : Nat → FieldType := fun k => match k with
  | 0 => .array .int
  | 1 => .array .int
  | 2 => .array .int
  | 3 => .array .int
  | 4 => .int
  | 5 => .array .int
  | 6 => .array .int
  | 7 => .array .int
  | 8 => .int
  | 9 => .int
  | 10 => .int
  | _ => .int
def zF9 : u_T := fun k => match k with
  | 0 => ("WaterByLetters$Town", "order", "[I", true)
  | 1 => ("WaterByLetters$Town", "names", "[I", true)
  | 2 => ("WaterByLetters$Town", "lengths", "[I", true)
  | 3 => ("WaterByLetters$Town", "dry", "[I", true)
  | 4 => ("WaterByLetters$Town", "had", "[I", true)
  | 5 => ("WaterByLetters$Town", "count", "I", false)
  | _ => ("WaterByLetters$Town", "day", "I", false)
def zt9 : Nat → FieldType := fun k => match k with
  | 0 => .array .int
  | 1 => .array .int
  | 2 => .array .int
  | 3 => .array .int
  | 4 => .array .int
  | 5 => .int
  | _ => .int
def zF10 : u_T := fun k => match k with
  | 0 => ("WaterByLetters", "text", "LWaterByLetters$Text;", true)
  | 1 => ("WaterByLetters", "told", "LWaterByLetters$Row;", true)
  | 2 => ("WaterByLetters", "rule", "LWaterByLetters$Rule;", true)
  | 3 => ("WaterByLetters", "otherRule", "LWaterByLetters$Rule;", true)
  | 4 => ("WaterByLetters", "town", "LWaterByLetters$Town;", true)
  | 5 => ("WaterByLetters", "spare", "LWaterByLetters$Town;", true)
  | 6 => ("WaterByLetters", "book", "LWaterByLetters$Book;", true)
  | 7 => ("WaterByLetters", "otherBook", "LWaterByLetters$Book;", true)
  | 8 => ("WaterByLetters", "pump", "LWaterByLetters$Pump;", true)
  | 9 => ("WaterByLetters", "past", "LWaterByLetters$Past;", true)
  | 10 => ("WaterByLetters", "kept", "[LWaterByLetters$Town;", true)
  | 11 => ("WaterByLetters", "keptBits", "I", false)
  | 12 => ("WaterByLetters", "seenAhead", "[I", true)
  | 13 => ("WaterByLetters", "seenBehind", "[I", true)
  | 14 => ("WaterByLetters", "seen", "I", false)
  | 15 => ("WaterByLetters", "orders", "LWaterByLetters$Orders;", true)
  | 16 => ("WaterByLetters", "thrift", "LWaterByLetters$Thrift;", true)
  | 17 => ("WaterByLetters", "matching", "LWaterByLetters$Matching;", true)
  | 18 => ("WaterByLetters", "letters", "[I", true)
  | _ => ("WaterByLetters", "drawn", "I", false)
def zt10 : Nat → FieldType := fun k => match k with
  | 0 => .object "WaterByLetters$Text"
  | 1 => .object "WaterByLetters$Row"
  | 2 => .object "WaterByLetters$Rule"
  | 3 => .object "WaterByLetters$Rule"
  | 4 => .object "WaterByLetters$Town"
  | 5 => .object "WaterByLetters$Town"
  | 6 => .object "WaterByLetters$Book"
  | 7 => .object "WaterByLetters$Book"
  | 8 => .object "WaterByLetters$Pump"
  | 9 => .object "WaterByLetters$Past"
  | 10 => .array (.object "WaterByLetters$Town")
  | 11 => .int
  | 12 => .array .int
  | 13 => .array .int
  | 14 => .int
  | 15 => .object "WaterByLetters$Orders"
  | 16 => .object "WaterByLetters$Thrift"
  | 17 => .object "WaterByLetters$Matching"
  | 18 => .array .int
  | _ => .int
def zF11 : u_T := fun k => match k with
  | 0 => ("WaterByLettersModel", "thrown", "I", false)
  | 1 => ("WaterByLettersModel", "told", "I", false)
  | 2 => ("WaterByLettersModel", "row", "[J", true)
  | 3 => ("WaterByLettersModel", "houses", "I", false)
  | 4 => ("WaterByLettersModel", "changes", "I", false)
  | 5 => ("WaterByLettersModel", "skyLong", "I", false)
  | 6 => ("WaterByLettersModel", "sky", "[I", true)
  | 7 => ("WaterByLettersModel", "thirst", "[I", true)
  | 8 => ("WaterByLettersModel", "now", "[I", true)
  | 9 => ("WaterByLettersModel", "then", "[I", true)
  | 10 => ("WaterByLettersModel", "tape", "[I", true)
  | 11 => ("WaterByLettersModel", "taped", "I", false)
  | 12 => ("WaterByLettersModel", "at", "I", false)
  | 13 => ("WaterByLettersModel", "to", "I", false)
  | 14 => ("WaterByLettersModel", "nest", "I", false)
  | 15 => ("WaterByLettersModel", "readName", "[I", true)
  | 16 => ("WaterByLettersModel", "readLong", "[I", true)
  | 17 => ("WaterByLettersModel", "readThirst", "[I", true)
  | 18 => ("WaterByLettersModel", "readMany", "I", false)
  | 19 => ("WaterByLettersModel", "readSky", "[I", true)
  | 20 => ("WaterByLettersModel", "code", "[I", true)
  | 21 => ("WaterByLettersModel", "readCode", "[I", true)
  | 22 => ("WaterByLettersModel", "codeLong", "I", false)
  | 23 => ("WaterByLettersModel", "codesRead", "I", false)
  | 24 => ("WaterByLettersModel", "stack", "[I", true)
  | 25 => ("WaterByLettersModel", "asked", "[I", true)
  | 26 => ("WaterByLettersModel", "mine", "[I", true)
  | 27 => ("WaterByLettersModel", "theirs", "[I", true)
  | 28 => ("WaterByLettersModel", "isAhead", "[Z", true)
  | 29 => ("WaterByLettersModel", "rank", "[I", true)
  | 30 => ("WaterByLettersModel", "place", "[I", true)
  | 31 => ("WaterByLettersModel", "book", "[I", true)
  | 32 => ("WaterByLettersModel", "cups", "[I", true)
  | 33 => ("WaterByLettersModel", "undos", "I", false)
  | 34 => ("WaterByLettersModel", "undone", "[I", true)
  | 35 => ("WaterByLettersModel", "leftOver", "I", false)
  | 36 => ("WaterByLettersModel", "readOrder", "[I", true)
  | 37 => ("WaterByLettersModel", "actSign", "[I", true)
  | 38 => ("WaterByLettersModel", "actOne", "[I", true)
  | 39 => ("WaterByLettersModel", "actTwo", "[I", true)
  | 40 => ("WaterByLettersModel", "acts", "I", false)
  | 41 => ("WaterByLettersModel", "turn", "[I", true)
  | 42 => ("WaterByLettersModel", "bestTurn", "[I", true)
  | 43 => ("WaterByLettersModel", "least", "I", false)
  | 44 => ("WaterByLettersModel", "askedHouse", "I", false)
  | 45 => ("WaterByLettersModel", "askedYield", "I", false)
  | 46 => ("WaterByLettersModel", "fitMany", "I", false)
  | 47 => ("WaterByLettersModel", "aheadMany", "[I", true)
  | 48 => ("WaterByLettersModel", "wasPlace", "[I", true)
  | 49 => ("WaterByLettersModel", "climb", "[I", true)
  | 50 => ("WaterByLettersModel", "pairs", "[I", true)
  | 51 => ("WaterByLettersModel", "bestPairs", "[I", true)
  | 52 => ("WaterByLettersModel", "bestClimb", "I", false)
  | 53 => ("WaterByLettersModel", "bestMany", "I", false)
  | 54 => ("WaterByLettersModel", "line", "[I", true)
  | 55 => ("WaterByLettersModel", "share", "[I", true)
  | 56 => ("WaterByLettersModel", "rest", "[I", true)
  | 57 => ("WaterByLettersModel", "seenMany", "I", false)
  | 58 => ("WaterByLettersModel", "seenOne", "[I", true)
  | 59 => ("WaterByLettersModel", "seenOther", "[I", true)
  | 60 => ("WaterByLettersModel", "wasCode", "[I", true)
  | 61 => ("WaterByLettersModel", "random", "I", false)
  | 62 => ("WaterByLettersModel", "isKept", "[Z", true)
  | 63 => ("WaterByLettersModel", "keptChanges", "[I", true)
  | _ => ("WaterByLettersModel", "kept", "[I", true)
def zt11 : Nat → FieldType := fun k => match k with
  | 0 => .int
  | 1 => .int
  | 2 => .array .long
  | 3 => .int
  | 4 => .int
  | 5 => .int
  | 6 => .array .int
  | 7 => .array .int
  | 8 => .array .int
  | 9 => .array .int
  | 10 => .array .int
  | 11 => .int
  | 12 => .int
  | 13 => .int
  | 14 => .int
  | 15 => .array .int
  | 16 => .array .int
  | 17 => .array .int
  | 18 => .int
  | 19 => .array .int
  | 20 => .array .int
  | 21 => .array .int
  | 22 => .int
  | 23 => .int
  | 24 => .array .int
  | 25 => .array .int
  | 26 => .array .int
  | 27 => .array .int
  | 28 => .array .boolean
  | 29 => .array .int
  | 30 => .array .int
  | 31 => .array .int
  | 32 => .array .int
  | 33 => .int
  | 34 => .array .int
  | 35 => .int
  | 36 => .array .int
  | 37 => .array .int
  | 38 => .array .int
  | 39 => .array .int
  | 40 => .int
  | 41 => .array .int
  | 42 => .array .int
  | 43 => .int
  | 44 => .int
  | 45 => .int
  | 46 => .int
  | 47 => .array .int
  | 48 => .array .int
  | 49 => .array .int
  | 50 => .array .int
  | 51 => .array .int
  | 52 => .int
  | 53 => .int
  | 54 => .array .int
  | 55 => .array .int
  | 56 => .array .int
  | 57 => .int
  | 58 => .array .int
  | 59 => .array .int
  | 60 => .array .int
  | 61 => .int
  | 62 => .array .boolean
  | 63 => .array .int
  | _ => .array .int
def z_cl : List vw_C := [("WaterByLetters$Book", zF0, 5), ("WaterByLetters$Matching", zF1, 2), ("WaterByLetters$Orders", zF2, 7), ("WaterByLetters$Past", zF3, 3), ("WaterByLetters$Pump", zF4, 8), ("WaterByLetters$Row", zF5, 2), ("WaterByLetters$Rule", zF6, 10), ("WaterByLetters$Text", zF7, 2), ("WaterByLetters$Thrift", zF8, 12), ("WaterByLetters$Town", zF9, 7), ("WaterByLetters", zF10, 20), ("WaterByLettersModel", zF11, 65)]
def z_tf : List (Nat → FieldType) := [zt0, zt1, zt2, zt3, zt4, zt5, zt6, zt7, zt8, zt9, zt10, zt11]
/-- the fields: type (0 int, 2 boolean, 1 a reference) and, of a reference, how far behind its object its cell lies -/
def z_ft : List (List (Nat × Nat)) := [[(1, 1), (1, 2), (1, 3), (1, 4), (0, 0)],
  [(1, 1), (1, 2)],
  [(1, 1), (1, 2), (1, 3), (1, 4), (2, 0), (1, 5), (1, 6)],
  [(1, 1), (0, 0), (0, 0)],
  [(1, 1), (1, 2), (0, 0), (1, 3), (0, 0), (0, 0), (0, 0), (0, 0)],
  [(1, 1), (0, 0)],
  [(1, 1), (0, 0), (1, 2), (1, 3), (1, 4), (1, 5), (1, 6), (1, 7), (1, 8), (0, 0)],
  [(1, 1), (0, 0)],
  [(1, 1), (1, 2), (1, 3), (1, 4), (0, 0), (1, 5), (1, 6), (1, 7), (0, 0), (0, 0), (0, 0), (0, 0)],
  [(1, 1), (1, 2), (1, 3), (1, 4), (1, 5), (0, 0), (0, 0)],
  [(1, 1), (1, 3), (1, 5), (1, 14), (1, 23), (1, 29), (1, 35), (1, 40), (1, 45), (1, 49), (1, 141), (0, 0), (1, 142), (1, 143), (0, 0), (1, 144), (1, 151), (1, 159), (1, 162), (0, 0)],
  [(0, 0), (0, 0), (1, 1), (0, 0), (0, 0), (0, 0), (1, 2), (1, 3), (1, 4), (1, 5), (1, 6), (0, 0), (0, 0), (0, 0), (0, 0), (1, 7), (1, 8), (1, 9), (0, 0), (1, 10), (1, 11), (1, 12), (0, 0), (0, 0), (1, 13), (1, 14), (1, 15), (1, 16), (1, 17), (1, 18), (1, 19), (1, 20), (1, 21), (0, 0), (1, 22), (0, 0), (1, 23), (1, 24), (1, 25), (1, 26), (0, 0), (1, 27), (1, 28), (0, 0), (0, 0), (0, 0), (0, 0), (1, 29), (1, 30), (1, 31), (1, 32), (1, 33), (0, 0), (0, 0), (1, 34), (1, 35), (1, 36), (0, 0), (1, 37), (1, 38), (1, 39), (0, 0), (1, 40), (1, 41), (1, 42)]]
def z_kt : List zD := [(10, 0), (7, 0), (100, 80), (5, 0), (101, 8), (6, 0), (100, 40), (100, 5), (100, 5), (100, 5), (100, 5), (100, 5), (100, 5), (102, 5), (6, 0), (100, 40), (100, 5), (100, 5), (100, 5), (100, 5), (100, 5), (100, 5), (102, 5), (9, 0), (100, 8), (100, 48), (100, 8), (100, 8), (100, 8), (9, 0), (100, 8), (100, 48), (100, 8), (100, 8), (100, 8), (0, 0), (100, 8), (100, 8), (100, 8), (100, 8), (0, 0), (100, 8), (100, 8), (100, 8), (100, 8), (4, 0), (100, 8), (100, 20), (100, 8), (3, 0), (103, 15), (9, 0), (100, 8), (100, 48), (100, 8), (100, 8), (100, 8), (9, 0), (100, 8), (100, 48), (100, 8), (100, 8), (100, 8), (9, 0), (100, 8), (100, 48), (100, 8), (100, 8), (100, 8), (9, 0), (100, 8), (100, 48), (100, 8), (100, 8), (100, 8), (9, 0), (100, 8), (100, 48), (100, 8), (100, 8), (100, 8), (9, 0), (100, 8), (100, 48), (100, 8), (100, 8), (100, 8), (9, 0), (100, 8), (100, 48), (100, 8), (100, 8), (100, 8), (9, 0), (100, 8), (100, 48), (100, 8), (100, 8), (100, 8), (9, 0), (100, 8), (100, 48), (100, 8), (100, 8), (100, 8), (9, 0), (100, 8), (100, 48), (100, 8), (100, 8), (100, 8), (9, 0), (100, 8), (100, 48), (100, 8), (100, 8), (100, 8), (9, 0), (100, 8), (100, 48), (100, 8), (100, 8), (100, 8), (9, 0), (100, 8), (100, 48), (100, 8), (100, 8), (100, 8), (9, 0), (100, 8), (100, 48), (100, 8), (100, 8), (100, 8), (9, 0), (100, 8), (100, 48), (100, 8), (100, 8), (100, 8), (103, 3), (100, 8), (100, 8), (2, 0), (100, 64), (100, 8), (100, 256), (100, 8), (100, 256), (100, 256), (8, 0), (100, 8), (100, 256), (100, 8), (100, 64), (100, 72), (100, 72), (100, 8), (1, 0), (100, 64), (100, 256), (100, 8), (9, 0), (100, 8), (100, 48), (100, 8), (100, 8), (100, 8), (9, 0), (100, 8), (100, 48), (100, 8), (100, 8), (100, 8), (9, 0), (100, 8), (100, 48), (100, 8), (100, 8), (100, 8), (11, 0), (101, 24), (100, 20), (100, 8), (100, 81), (100, 81), (100, 80), (100, 48), (100, 8), (100, 8), (100, 20), (100, 80), (100, 80), (100, 80), (100, 4), (100, 64), (100, 64), (102, 64), (100, 8), (100, 8), (100, 8), (100, 8), (100, 1296), (100, 8), (100, 60), (100, 60), (100, 60), (100, 8), (100, 8), (100, 64), (100, 8), (100, 64), (100, 8), (100, 8), (100, 8), (100, 8), (100, 8), (100, 8), (100, 8), (100, 80), (102, 3), (100, 3), (100, 243), (101, 1)]
def z_st : List (String × Nat × String) := [("WaterByLettersModel", 213, "abcdefgh"), ("WaterByLettersModel", 225, "123456789"), ("WaterByLettersModel", 264, "hdnt"), ("WaterByLettersModel", 269, "<>="), ("WaterByLettersModel", 271, "+-"), ("WaterByLettersModel", 273, "*/"), ("WaterByLettersModel", 371, "dmrs")]
def z_sl : List Nat := [8, 9, 4, 3, 2, 2, 4]
def z_sb : List (List Int32) := [[97, 98, 99, 100, 101, 102, 103, 104], [49, 50, 51, 52, 53, 54, 55, 56, 57], [104, 100, 110, 116], [60, 62, 61], [43, 45], [42, 47], [100, 109, 114, 115]]
end
section
/-! THE METHODS: names, bytes, instructions as the abstract machine reads them, places of the words: written by gen_static.py -/
def c_W_sign : List zE := [(0, .aload_n 0, 1, [], 0),
  (1, .getfield 12, 3, [10, 0, 1, 7, 0], 0),
  (4, .iload_n 1, 1, [], 0),
  (5, .invokevirtual 102, 3, [1, 1], 0),
  (8, .ifCond .eq 13, 3, [21], 0),
  (11, .aload_n 0, 1, [], 0),
  (12, .getfield 12, 3, [10, 0, 1, 7, 0], 0),
  (15, .getfield 106, 3, [7, 1], 0),
  (18, .goto 4, 3, [22], 0),
  (21, .iconst (-1), 1, [], (-1)),
  (22, .ireturn, 1, [], 0)]
def k_W_sign : List (List (Nat × Nat)) := [[], [(2, 79)], [], [(2, 144), (2, 145), (2, 146), (1, 2), (2, 147)], [], [], [(2, 79)], [(1, 44)], [], [], []]
def c_Text_add : List zE := [(0, .aload_n 0, 1, [], 0),
  (1, .getfield 15, 3, [7, 1], 0),
  (4, .iconst 4, 1, [], 4),
  (5, .iadd, 1, [], 0),
  (6, .bipush 80, 2, [], 80),
  (8, .if_icmp .le 5, 3, [13], 0),
  (11, .iconst 0, 1, [], 0),
  (12, .ireturn, 1, [], 1),
  (13, .bipush 24, 2, [], 24),
  (15, .istore_n 2, 1, [], 0),
  (16, .iload_n 2, 1, [], 0),
  (17, .ifCond .lt 35, 3, [52], 0),
  (20, .aload_n 0, 1, [], 0),
  (21, .getfield 9, 3, [7, 0, 1, 100, 80], 0),
  (24, .aload_n 0, 1, [], 0),
  (25, .getfield 15, 3, [7, 1], 0),
  (28, .iload_n 1, 1, [], 0),
  (29, .iload_n 2, 1, [], 0),
  (30, .iushr, 1, [], 0),
  (31, .sipush 255, 3, [], 255),
  (34, .iand, 1, [], 0),
  (35, .iastore, 1, [], 0),
  (36, .aload_n 0, 1, [], 0),
  (37, .dup, 1, [], 0),
  (38, .getfield 15, 3, [7, 1], 0),
  (41, .iconst 1, 1, [], 1),
  (42, .iadd, 1, [], 0),
  (43, .putfield 15, 3, [7, 1], 0),
  (46, .iinc 2 (-8), 3, [], (-8)),
  (49, .goto (-33), 3, [16], 0),
  (52, .iconst 1, 1, [], 1),
  (53, .ireturn, 1, [], 1)]
def k_Text_add : List (List (Nat × Nat)) := [[], [(1, 43)], [], [], [], [], [], [], [], [], [], [], [], [(1, 39)], [], [(1, 43)], [], [], [], [], [], [], [], [], [(1, 43)], [], [], [(1, 43)], [], [], [], []]
def c_W_end : List zE := [(0, .iload_n 1, 1, [], 0),
  (1, .ifCond .lt 14, 3, [15], 0),
  (4, .iload_n 1, 1, [], 0),
  (5, .aload_n 0, 1, [], 0),
  (6, .getfield 12, 3, [10, 0, 1, 7, 0], 0),
  (9, .getfield 106, 3, [7, 1], 0),
  (12, .if_icmp .le 5, 3, [17], 0),
  (15, .iconst 0, 1, [], 0),
  (16, .ireturn, 1, [], 1),
  (17, .aload_n 0, 1, [], 0),
  (18, .getfield 12, 3, [10, 0, 1, 7, 0], 0),
  (21, .iload_n 1, 1, [], 0),
  (22, .putfield 106, 3, [7, 1], 0),
  (25, .iconst 1, 1, [], 1),
  (26, .ireturn, 1, [], 1)]
def k_W_end : List (List (Nat × Nat)) := [[], [], [], [], [(2, 79)], [(1, 44)], [], [], [], [], [(2, 79)], [], [(1, 44)], [], []]
def c_W_houses : List zE := [(0, .aload_n 0, 1, [], 0),
  (1, .getfield 12, 3, [10, 0, 1, 7, 0], 0),
  (4, .getfield 106, 3, [7, 1], 0),
  (7, .ifCond .ne 5, 3, [12], 0),
  (10, .iconst 0, 1, [], 0),
  (11, .ireturn, 1, [], 0),
  (12, .aload_n 0, 1, [], 0),
  (13, .getfield 12, 3, [10, 0, 1, 7, 0], 0),
  (16, .aload_n 0, 1, [], 0),
  (17, .getfield 36, 3, [10, 4, 23, 9, 0], 0),
  (20, .getfield 110, 3, [9, 5], 0),
  (23, .invokevirtual 113, 3, [4, 1], 0),
  (26, .istore_n 1, 1, [], 0),
  (27, .aload_n 0, 1, [], 0),
  (28, .getfield 36, 3, [10, 4, 23, 9, 0], 0),
  (31, .getfield 110, 3, [9, 5], 0),
  (34, .istore_n 2, 1, [], 0),
  (35, .iload_n 1, 1, [], 0),
  (36, .iconst (-1), 1, [], (-1)),
  (37, .if_icmp .ne 20, 3, [57], 0),
  (40, .aload_n 0, 1, [], 0),
  (41, .invokevirtual 117, 3, [8, 0], 0),
  (44, .aload_n 0, 1, [], 0),
  (45, .getfield 63, 3, [10, 9, 49, 3, 0], 0),
  (48, .iconst 0, 1, [], 0),
  (49, .putfield 120, 3, [3, 2], 0),
  (52, .aload_n 0, 1, [], 0),
  (53, .iconst 0, 1, [], 0),
  (54, .putfield 123, 3, [10, 11], 0),
  (57, .aload_n 0, 1, [], 0),
  (58, .getfield 12, 3, [10, 0, 1, 7, 0], 0),
  (61, .iconst 0, 1, [], 0),
  (62, .putfield 106, 3, [7, 1], 0),
  (65, .iload_n 1, 1, [], 0),
  (66, .iconst (-1), 1, [], (-1)),
  (67, .if_icmp .ne 15, 3, [82], 0),
  (70, .aload_n 0, 1, [], 0),
  (71, .getfield 36, 3, [10, 4, 23, 9, 0], 0),
  (74, .getfield 110, 3, [9, 5], 0),
  (77, .iload_n 2, 1, [], 0),
  (78, .isub, 1, [], 0),
  (79, .goto 6, 3, [85], 0),
  (82, .iconst (-1), 1, [], (-1)),
  (83, .iload_n 1, 1, [], 0),
  (84, .isub, 1, [], 0),
  (85, .ireturn, 1, [], 0)]
def k_W_houses : List (List (Nat × Nat)) := [[], [(2, 79)], [(1, 44)], [], [], [], [], [(2, 79)], [], [(2, 83)], [(1, 128)], [(2, 156), (2, 157), (2, 158), (1, 2), (2, 159)], [], [], [(2, 83)], [(1, 128)], [], [], [], [], [], [(2, 170), (2, 172), (0, 0), (1, 1), (2, 173)], [], [(2, 88)], [], [(1, 226)], [], [], [(2, 90)], [], [(2, 79)], [], [(1, 44)], [], [], [], [], [(2, 83)], [(1, 128)], [], [], [], [], [], [], []]
def c_Text_faultInHouses : List zE := [(0, .iload_n 1, 1, [], 0),
  (1, .istore_n 2, 1, [], 0),
  (2, .iconst 0, 1, [], 0),
  (3, .istore_n 3, 1, [], 0),
  (4, .iconst 0, 1, [], 0),
  (5, .istore 4, 2, [], 0),
  (7, .iconst 0, 1, [], 0),
  (8, .istore 5, 2, [], 0),
  (10, .iload 5, 2, [], 0),
  (12, .aload_n 0, 1, [], 0),
  (13, .getfield 15, 3, [7, 1], 0),
  (16, .if_icmp .ge 96, 3, [112], 0),
  (19, .iload 5, 2, [], 0),
  (21, .bipush 71, 2, [], 71),
  (23, .if_icmp .ge 89, 3, [112], 0),
  (26, .aload_n 0, 1, [], 0),
  (27, .getfield 9, 3, [7, 0, 1, 100, 80], 0),
  (30, .iload 5, 2, [], 0),
  (32, .iaload, 1, [], 0),
  (33, .istore 6, 2, [], 0),
  (35, .iload 4, 2, [], 0),
  (37, .ifCond .eq 19, 3, [56], 0),
  (40, .iload 6, 2, [], 0),
  (42, .bipush 59, 2, [], 59),
  (44, .if_icmp .eq 6, 3, [50], 0),
  (47, .iload 5, 2, [], 0),
  (49, .ireturn, 1, [], 0),
  (50, .iconst 0, 1, [], 0),
  (51, .istore 4, 2, [], 0),
  (53, .goto 53, 3, [106], 0),
  (56, .iload_n 3, 1, [], 0),
  (57, .ifCond .le 22, 3, [79], 0),
  (60, .iload 6, 2, [], 0),
  (62, .invokestatic 19, 3, [2, 5, 1], 0),
  (65, .ifCond .le 14, 3, [79], 0),
  (68, .iinc 2 1, 3, [], 1),
  (71, .iconst 0, 1, [], 0),
  (72, .istore_n 3, 1, [], 0),
  (73, .iconst 1, 1, [], 1),
  (74, .istore 4, 2, [], 0),
  (76, .goto 30, 3, [106], 0),
  (79, .iload 6, 2, [], 0),
  (81, .invokestatic 23, 3, [2, 6, 1], 0),
  (84, .iconst (-1), 1, [], (-1)),
  (85, .if_icmp .eq 15, 3, [100], 0),
  (88, .iload_n 3, 1, [], 0),
  (89, .bipush 6, 2, [], 6),
  (91, .if_icmp .eq 9, 3, [100], 0),
  (94, .iload_n 2, 1, [], 0),
  (95, .bipush 8, 2, [], 8),
  (97, .if_icmp .lt 6, 3, [103], 0),
  (100, .iload 5, 2, [], 0),
  (102, .ireturn, 1, [], 0),
  (103, .iinc 3 1, 3, [], 1),
  (106, .iinc 5 1, 3, [], 1),
  (109, .goto (-99), 3, [10], 0),
  (112, .aload_n 0, 1, [], 0),
  (113, .bipush 71, 2, [], 71),
  (115, .iload 4, 2, [], 0),
  (117, .invokevirtual 26, 3, [7, 2], 0),
  (120, .ireturn, 1, [], 0)]
def k_Text_faultInHouses : List (List (Nat × Nat)) := [[], [], [], [], [], [], [], [], [], [], [(1, 43)], [], [], [], [], [], [(1, 39)], [], [], [], [], [], [], [], [], [], [], [], [], [], [], [], [], [(2, 161), (1, 1), (2, 162), (2, 160)], [], [], [], [], [], [], [], [], [(2, 164), (1, 1), (2, 165), (2, 163)], [], [], [], [], [], [], [], [], [], [], [], [], [], [], [], [], [(2, 166), (2, 167), (2, 168), (1, 2), (2, 169)], []]
def c_W_digitOf : List zE := [(0, .iload_n 0, 1, [], 0),
  (1, .bipush 48, 2, [], 48),
  (3, .if_icmp .lt 16, 3, [19], 0),
  (6, .iload_n 0, 1, [], 0),
  (7, .bipush 57, 2, [], 57),
  (9, .if_icmp .gt 10, 3, [19], 0),
  (12, .iload_n 0, 1, [], 0),
  (13, .bipush 48, 2, [], 48),
  (15, .isub, 1, [], 0),
  (16, .goto 4, 3, [20], 0),
  (19, .iconst (-1), 1, [], (-1)),
  (20, .ireturn, 1, [], 0)]
def k_W_digitOf : List (List (Nat × Nat)) := [[], [], [], [], [], [], [], [], [], [], [], []]
def c_W_letterOf : List zE := [(0, .iload_n 0, 1, [], 0),
  (1, .bipush 97, 2, [], 97),
  (3, .if_icmp .lt 16, 3, [19], 0),
  (6, .iload_n 0, 1, [], 0),
  (7, .bipush 104, 2, [], 104),
  (9, .if_icmp .gt 10, 3, [19], 0),
  (12, .iload_n 0, 1, [], 0),
  (13, .bipush 97, 2, [], 97),
  (15, .isub, 1, [], 0),
  (16, .goto 4, 3, [20], 0),
  (19, .iconst (-1), 1, [], (-1)),
  (20, .ireturn, 1, [], 0)]
def k_W_letterOf : List (List (Nat × Nat)) := [[], [], [], [], [], [], [], [], [], [], [], []]
def c_Text_faultAtEnd : List zE := [(0, .aload_n 0, 1, [], 0),
  (1, .getfield 15, 3, [7, 1], 0),
  (4, .iload_n 1, 1, [], 0),
  (5, .if_icmp .le 5, 3, [10], 0),
  (8, .iload_n 1, 1, [], 0),
  (9, .ireturn, 1, [], 0),
  (10, .iload_n 2, 1, [], 0),
  (11, .ifCond .eq 7, 3, [18], 0),
  (14, .iconst (-1), 1, [], (-1)),
  (15, .goto 7, 3, [22], 0),
  (18, .aload_n 0, 1, [], 0),
  (19, .getfield 15, 3, [7, 1], 0),
  (22, .ireturn, 1, [], 0)]
def k_Text_faultAtEnd : List (List (Nat × Nat)) := [[], [(1, 43)], [], [], [], [], [], [], [], [], [], [(1, 43)], []]
def c_W_addHouses : List zE := [(0, .iconst 0, 1, [], 0),
  (1, .istore_n 1, 1, [], 0),
  (2, .iload_n 1, 1, [], 0),
  (3, .aload_n 0, 1, [], 0),
  (4, .getfield 12, 3, [10, 0, 1, 7, 0], 0),
  (7, .getfield 106, 3, [7, 1], 0),
  (10, .if_icmp .ge 102, 3, [112], 0),
  (13, .aload_n 0, 1, [], 0),
  (14, .getfield 36, 3, [10, 4, 23, 9, 0], 0),
  (17, .getfield 110, 3, [9, 5], 0),
  (20, .bipush 8, 2, [], 8),
  (22, .if_icmp .ge 90, 3, [112], 0),
  (25, .aload_n 0, 1, [], 0),
  (26, .getfield 12, 3, [10, 0, 1, 7, 0], 0),
  (29, .iload_n 1, 1, [], 0),
  (30, .invokevirtual 126, 3, [9, 1], 0),
  (33, .invokestatic 129, 3, [1, 6, 1], 0),
  (36, .istore_n 2, 1, [], 0),
  (37, .aload_n 0, 1, [], 0),
  (38, .getfield 12, 3, [10, 0, 1, 7, 0], 0),
  (41, .iload_n 1, 1, [], 0),
  (42, .invokevirtual 126, 3, [9, 1], 0),
  (45, .invokestatic 132, 3, [1, 5, 1], 0),
  (48, .istore_n 3, 1, [], 0),
  (49, .iload_n 2, 1, [], 0),
  (50, .iconst (-1), 1, [], (-1)),
  (51, .if_icmp .eq 21, 3, [72], 0),
  (54, .aload_n 0, 1, [], 0),
  (55, .getfield 36, 3, [10, 4, 23, 9, 0], 0),
  (58, .aload_n 0, 1, [], 0),
  (59, .getfield 36, 3, [10, 4, 23, 9, 0], 0),
  (62, .getfield 110, 3, [9, 5], 0),
  (65, .iload_n 2, 1, [], 0),
  (66, .invokevirtual 135, 3, [10, 2], 0),
  (69, .goto 37, 3, [106], 0),
  (72, .iload_n 3, 1, [], 0),
  (73, .iconst (-1), 1, [], (-1)),
  (74, .if_icmp .eq 32, 3, [106], 0),
  (77, .aload_n 0, 1, [], 0),
  (78, .getfield 56, 3, [10, 8, 45, 4, 0], 0),
  (81, .getfield 139, 3, [4, 0, 1, 100, 8], 0),
  (84, .aload_n 0, 1, [], 0),
  (85, .getfield 36, 3, [10, 4, 23, 9, 0], 0),
  (88, .getfield 110, 3, [9, 5], 0),
  (91, .iload_n 3, 1, [], 0),
  (92, .iastore, 1, [], 0),
  (93, .aload_n 0, 1, [], 0),
  (94, .getfield 36, 3, [10, 4, 23, 9, 0], 0),
  (97, .dup, 1, [], 0),
  (98, .getfield 110, 3, [9, 5], 0),
  (101, .iconst 1, 1, [], 1),
  (102, .iadd, 1, [], 0),
  (103, .putfield 110, 3, [9, 5], 0),
  (106, .iinc 1 1, 3, [], 1),
  (109, .goto (-107), 3, [2], 0),
  (112, .return_, 1, [], 0)]
def k_W_addHouses : List (List (Nat × Nat)) := [[], [], [], [], [(2, 79)], [(1, 44)], [], [], [(2, 83)], [(1, 128)], [], [], [], [(2, 79)], [], [(2, 174), (2, 175), (2, 176), (1, 2), (2, 177)], [(2, 178), (2, 164), (1, 1), (2, 165)], [], [], [(2, 79)], [], [(2, 174), (2, 175), (2, 176), (1, 2), (2, 177)], [(2, 179), (2, 161), (1, 1), (2, 162)], [], [], [], [], [], [(2, 83)], [], [(2, 83)], [(1, 128)], [], [(2, 180), (2, 181), (2, 182), (1, 5), (2, 183)], [], [], [], [], [], [(2, 87)], [(1, 184)], [], [(2, 83)], [(1, 128)], [], [], [], [(2, 83)], [], [(1, 128)], [], [], [(1, 128)], [], [], []]
def c_Text_at : List zE := [(0, .iload_n 1, 1, [], 0),
  (1, .ifCond .lt 20, 3, [21], 0),
  (4, .iload_n 1, 1, [], 0),
  (5, .aload_n 0, 1, [], 0),
  (6, .getfield 15, 3, [7, 1], 0),
  (9, .if_icmp .ge 12, 3, [21], 0),
  (12, .aload_n 0, 1, [], 0),
  (13, .getfield 9, 3, [7, 0, 1, 100, 80], 0),
  (16, .iload_n 1, 1, [], 0),
  (17, .iaload, 1, [], 0),
  (18, .goto 4, 3, [22], 0),
  (21, .iconst (-1), 1, [], (-1)),
  (22, .ireturn, 1, [], 0)]
def k_Text_at : List (List (Nat × Nat)) := [[], [], [], [], [(1, 43)], [], [], [(1, 39)], [], [], [], [], []]
def c_Town_lengthen : List zE := [(0, .aload_n 0, 1, [], 0),
  (1, .getfield 18, 3, [9, 2, 3, 100, 8], 0),
  (4, .iload_n 1, 1, [], 0),
  (5, .iaload, 1, [], 0),
  (6, .bipush 6, 2, [], 6),
  (8, .if_icmp .ge 30, 3, [38], 0),
  (11, .aload_n 0, 1, [], 0),
  (12, .getfield 15, 3, [9, 1, 2, 100, 48], 0),
  (15, .iload_n 1, 1, [], 0),
  (16, .bipush 6, 2, [], 6),
  (18, .imul, 1, [], 0),
  (19, .aload_n 0, 1, [], 0),
  (20, .getfield 18, 3, [9, 2, 3, 100, 8], 0),
  (23, .iload_n 1, 1, [], 0),
  (24, .iaload, 1, [], 0),
  (25, .iadd, 1, [], 0),
  (26, .iload_n 2, 1, [], 0),
  (27, .iastore, 1, [], 0),
  (28, .aload_n 0, 1, [], 0),
  (29, .getfield 18, 3, [9, 2, 3, 100, 8], 0),
  (32, .iload_n 1, 1, [], 0),
  (33, .dup2, 1, [], 0),
  (34, .iaload, 1, [], 0),
  (35, .iconst 1, 1, [], 1),
  (36, .iadd, 1, [], 0),
  (37, .iastore, 1, [], 0),
  (38, .return_, 1, [], 0)]
def k_Town_lengthen : List (List (Nat × Nat)) := [[], [(1, 116)], [], [], [], [], [], [(1, 115)], [], [], [], [], [(1, 116)], [], [], [], [], [], [], [(1, 116)], [], [], [], [], [], [], []]
def c_W_heat : List zE := [(0, .aload_n 0, 1, [], 0),
  (1, .getfield 12, 3, [10, 0, 1, 7, 0], 0),
  (4, .invokevirtual 142, 3, [12, 0], 0),
  (7, .istore_n 1, 1, [], 0),
  (8, .iload_n 1, 1, [], 0),
  (9, .iconst (-1), 1, [], (-1)),
  (10, .if_icmp .ne 14, 3, [24], 0),
  (13, .aload_n 0, 1, [], 0),
  (14, .getfield 56, 3, [10, 8, 45, 4, 0], 0),
  (17, .aload_n 0, 1, [], 0),
  (18, .getfield 12, 3, [10, 0, 1, 7, 0], 0),
  (21, .invokevirtual 146, 3, [13, 1], 0),
  (24, .aload_n 0, 1, [], 0),
  (25, .getfield 12, 3, [10, 0, 1, 7, 0], 0),
  (28, .iconst 0, 1, [], 0),
  (29, .putfield 106, 3, [7, 1], 0),
  (32, .iload_n 1, 1, [], 0),
  (33, .iconst (-1), 1, [], (-1)),
  (34, .if_icmp .ne 13, 3, [47], 0),
  (37, .aload_n 0, 1, [], 0),
  (38, .getfield 56, 3, [10, 8, 45, 4, 0], 0),
  (41, .getfield 150, 3, [4, 2], 0),
  (44, .goto 6, 3, [50], 0),
  (47, .iconst (-1), 1, [], (-1)),
  (48, .iload_n 1, 1, [], 0),
  (49, .isub, 1, [], 0),
  (50, .ireturn, 1, [], 0)]
def k_W_heat : List (List (Nat × Nat)) := [[], [(2, 79)], [(2, 188), (2, 189), (2, 190), (1, 2), (2, 191)], [], [], [], [], [], [(2, 87)], [], [(2, 79)], [(2, 192), (2, 193), (2, 194), (1, 7), (2, 195)], [], [(2, 79)], [], [(1, 44)], [], [], [], [], [(2, 87)], [(1, 187)], [], [], [], [], []]
def c_Text_faultInHeat : List zE := [(0, .iconst 0, 1, [], 0),
  (1, .istore_n 1, 1, [], 0),
  (2, .iload_n 1, 1, [], 0),
  (3, .aload_n 0, 1, [], 0),
  (4, .getfield 15, 3, [7, 1], 0),
  (7, .if_icmp .ge 30, 3, [37], 0),
  (10, .iload_n 1, 1, [], 0),
  (11, .bipush 20, 2, [], 20),
  (13, .if_icmp .ge 24, 3, [37], 0),
  (16, .aload_n 0, 1, [], 0),
  (17, .getfield 9, 3, [7, 0, 1, 100, 80], 0),
  (20, .iload_n 1, 1, [], 0),
  (21, .iaload, 1, [], 0),
  (22, .invokestatic 19, 3, [2, 5, 1], 0),
  (25, .iconst (-1), 1, [], (-1)),
  (26, .if_icmp .ne 5, 3, [31], 0),
  (29, .iload_n 1, 1, [], 0),
  (30, .ireturn, 1, [], 0),
  (31, .iinc 1 1, 3, [], 1),
  (34, .goto (-32), 3, [2], 0),
  (37, .aload_n 0, 1, [], 0),
  (38, .bipush 20, 2, [], 20),
  (40, .aload_n 0, 1, [], 0),
  (41, .getfield 15, 3, [7, 1], 0),
  (44, .ifCond .le 7, 3, [51], 0),
  (47, .iconst 1, 1, [], 1),
  (48, .goto 4, 3, [52], 0),
  (51, .iconst 0, 1, [], 0),
  (52, .invokevirtual 26, 3, [7, 2], 0),
  (55, .ireturn, 1, [], 0)]
def k_Text_faultInHeat : List (List (Nat × Nat)) := [[], [], [], [], [(1, 43)], [], [], [], [], [], [(1, 39)], [], [], [(2, 161), (1, 1), (2, 162), (2, 160)], [], [], [], [], [], [], [], [], [], [(1, 43)], [], [], [], [], [(2, 166), (2, 167), (2, 168), (1, 2), (2, 169)], []]
def c_Pump_takeHeat : List zE := [(0, .aload_n 0, 1, [], 0),
  (1, .aload_n 1, 1, [], 0),
  (2, .getfield 25, 3, [7, 1], 0),
  (5, .bipush 20, 2, [], 20),
  (7, .invokestatic 30, 3, [3], 0),
  (10, .putfield 18, 3, [4, 2], 0),
  (13, .iconst 0, 1, [], 0),
  (14, .istore_n 2, 1, [], 0),
  (15, .iload_n 2, 1, [], 0),
  (16, .aload_n 0, 1, [], 0),
  (17, .getfield 18, 3, [4, 2], 0),
  (20, .if_icmp .ge 23, 3, [43], 0),
  (23, .aload_n 0, 1, [], 0),
  (24, .getfield 15, 3, [4, 1, 2, 100, 20], 0),
  (27, .iload_n 2, 1, [], 0),
  (28, .aload_n 1, 1, [], 0),
  (29, .iload_n 2, 1, [], 0),
  (30, .invokevirtual 36, 3, [9, 1], 0),
  (33, .invokestatic 40, 3, [2, 5, 1], 0),
  (36, .iastore, 1, [], 0),
  (37, .iinc 2 1, 3, [], 1),
  (40, .goto (-25), 3, [15], 0),
  (43, .return_, 1, [], 0)]
def k_Pump_takeHeat : List (List (Nat × Nat)) := [[], [], [(1, 41)], [], [(2, 196)], [(1, 186)], [], [], [], [], [(1, 186)], [], [], [(1, 185)], [], [], [], [(2, 199), (2, 175), (2, 176), (1, 2), (2, 177)], [(2, 161), (1, 1), (2, 162), (2, 200)], [], [], [], []]
def c_W_rule : List zE := [(0, .aload_n 0, 1, [], 0),
  (1, .aload_n 0, 1, [], 0),
  (2, .getfield 26, 3, [10, 2, 5, 6, 0], 0),
  (5, .invokevirtual 153, 3, [15, 1], 0),
  (8, .istore_n 1, 1, [], 0),
  (9, .iload_n 1, 1, [], 0),
  (10, .iconst (-1), 1, [], (-1)),
  (11, .if_icmp .ne 7, 3, [18], 0),
  (14, .iconst 0, 1, [], 0),
  (15, .goto 6, 3, [21], 0),
  (18, .iconst (-1), 1, [], (-1)),
  (19, .iload_n 1, 1, [], 0),
  (20, .isub, 1, [], 0),
  (21, .ireturn, 1, [], 0)]
def k_W_rule : List (List (Nat × Nat)) := [[], [], [(2, 81)], [(2, 205), (2, 207), (0, 1), (1, 1), (2, 208)], [], [], [], [], [], [], [], [], [], []]
def c_W_takeRule : List zE := [(0, .aload_n 0, 1, [], 0),
  (1, .getfield 12, 3, [10, 0, 1, 7, 0], 0),
  (4, .getfield 106, 3, [7, 1], 0),
  (7, .ifCond .ne 7, 3, [14], 0),
  (10, .iconst (-1), 1, [], (-1)),
  (11, .goto 10, 3, [21], 0),
  (14, .aload_n 0, 1, [], 0),
  (15, .getfield 12, 3, [10, 0, 1, 7, 0], 0),
  (18, .invokestatic 157, 3, [1, 16, 1], 0),
  (21, .istore_n 2, 1, [], 0),
  (22, .iload_n 2, 1, [], 0),
  (23, .iconst (-1), 1, [], (-1)),
  (24, .if_icmp .ne 11, 3, [35], 0),
  (27, .aload_n 1, 1, [], 0),
  (28, .aload_n 0, 1, [], 0),
  (29, .getfield 12, 3, [10, 0, 1, 7, 0], 0),
  (32, .invokevirtual 161, 3, [23, 1], 0),
  (35, .aload_n 0, 1, [], 0),
  (36, .getfield 12, 3, [10, 0, 1, 7, 0], 0),
  (39, .iconst 0, 1, [], 0),
  (40, .putfield 106, 3, [7, 1], 0),
  (43, .iload_n 2, 1, [], 0),
  (44, .ireturn, 1, [], 0)]
def k_W_takeRule : List (List (Nat × Nat)) := [[], [(2, 79)], [(1, 44)], [], [], [], [], [(2, 79)], [(2, 209), (2, 210), (1, 4), (2, 211)], [], [], [], [], [], [], [(2, 79)], [(2, 233), (2, 234), (2, 235), (1, 4), (2, 236)], [], [(2, 79)], [], [(1, 44)], [], []]
def c_Rule_faultIn : List zE := [(0, .iconst 0, 1, [], 0),
  (1, .istore_n 1, 1, [], 0),
  (2, .iconst 0, 1, [], 0),
  (3, .istore_n 2, 1, [], 0),
  (4, .iconst 0, 1, [], 0),
  (5, .istore_n 3, 1, [], 0),
  (6, .iconst 0, 1, [], 0),
  (7, .istore 4, 2, [], 0),
  (9, .iconst 0, 1, [], 0),
  (10, .istore 5, 2, [], 0),
  (12, .iload 5, 2, [], 0),
  (14, .aload_n 0, 1, [], 0),
  (15, .getfield 37, 3, [7, 1], 0),
  (18, .if_icmp .ge 169, 3, [187], 0),
  (21, .iload 5, 2, [], 0),
  (23, .bipush 40, 2, [], 40),
  (25, .if_icmp .ge 162, 3, [187], 0),
  (28, .aload_n 0, 1, [], 0),
  (29, .iload 5, 2, [], 0),
  (31, .invokevirtual 57, 3, [9, 1], 0),
  (34, .istore 6, 2, [], 0),
  (36, .iload 6, 2, [], 0),
  (38, .invokestatic 61, 3, [2, 5, 1], 0),
  (41, .iconst (-1), 1, [], (-1)),
  (42, .if_icmp .eq 7, 3, [49], 0),
  (45, .iconst 1, 1, [], 1),
  (46, .goto 4, 3, [50], 0),
  (49, .iconst 0, 1, [], 0),
  (50, .istore 7, 2, [], 0),
  (52, .iload 7, 2, [], 0),
  (54, .ifCond .eq 20, 3, [74], 0),
  (57, .iload 4, 2, [], 0),
  (59, .ifCond .eq 34, 3, [93], 0),
  (62, .iload_n 3, 1, [], 0),
  (63, .ifCond .eq 27, 3, [90], 0),
  (66, .iload_n 3, 1, [], 0),
  (67, .iconst 3, 1, [], 3),
  (68, .if_icmp .ne 25, 3, [93], 0),
  (71, .goto 19, 3, [90], 0),
  (74, .iload 6, 2, [], 0),
  (76, .iload 4, 2, [], 0),
  (78, .iload_n 1, 1, [], 0),
  (79, .iload_n 2, 1, [], 0),
  (80, .iload_n 1, 1, [], 0),
  (81, .invokestatic 64, 3, [2, 17, 2], 0),
  (84, .invokestatic 68, 3, [1, 18, 4], 0),
  (87, .ifCond .ne 6, 3, [93], 0),
  (90, .iload 5, 2, [], 0),
  (92, .ireturn, 1, [], 0),
  (93, .iload 6, 2, [], 0),
  (95, .bipush 40, 2, [], 40),
  (97, .if_icmp .ne 17, 3, [114], 0),
  (100, .iinc 1 1, 3, [], 1),
  (103, .iload_n 2, 1, [], 0),
  (104, .iconst 1, 1, [], 1),
  (105, .iload_n 1, 1, [], 0),
  (106, .ishl, 1, [], 0),
  (107, .iconst (-1), 1, [], (-1)),
  (108, .ixor, 1, [], 0),
  (109, .iand, 1, [], 0),
  (110, .istore_n 2, 1, [], 0),
  (111, .goto 30, 3, [141], 0),
  (114, .iload 6, 2, [], 0),
  (116, .bipush 41, 2, [], 41),
  (118, .if_icmp .ne 9, 3, [127], 0),
  (121, .iinc 1 (-1), 3, [], (-1)),
  (124, .goto 17, 3, [141], 0),
  (127, .iload 6, 2, [], 0),
  (129, .invokestatic 72, 3, [1, 22, 1], 0),
  (132, .ifCond .eq 9, 3, [141], 0),
  (135, .iload_n 2, 1, [], 0),
  (136, .iconst 1, 1, [], 1),
  (137, .iload_n 1, 1, [], 0),
  (138, .ishl, 1, [], 0),
  (139, .ior, 1, [], 0),
  (140, .istore_n 2, 1, [], 0),
  (141, .iload 7, 2, [], 0),
  (143, .ifCond .eq 9, 3, [152], 0),
  (146, .iload_n 3, 1, [], 0),
  (147, .iconst 1, 1, [], 1),
  (148, .iadd, 1, [], 0),
  (149, .goto 4, 3, [153], 0),
  (152, .iconst 0, 1, [], 0),
  (153, .istore_n 3, 1, [], 0),
  (154, .iload 7, 2, [], 0),
  (156, .ifCond .ne 18, 3, [174], 0),
  (159, .iload 6, 2, [], 0),
  (161, .bipush 41, 2, [], 41),
  (163, .if_icmp .eq 11, 3, [174], 0),
  (166, .iload 6, 2, [], 0),
  (168, .invokestatic 76, 3, [1, 19, 1], 0),
  (171, .ifCond .eq 7, 3, [178], 0),
  (174, .iconst 1, 1, [], 1),
  (175, .goto 4, 3, [179], 0),
  (178, .iconst 0, 1, [], 0),
  (179, .istore 4, 2, [], 0),
  (181, .iinc 5 1, 3, [], 1),
  (184, .goto (-172), 3, [12], 0),
  (187, .aload_n 0, 1, [], 0),
  (188, .bipush 40, 2, [], 40),
  (190, .iload 4, 2, [], 0),
  (192, .ifCond .eq 11, 3, [203], 0),
  (195, .iload_n 1, 1, [], 0),
  (196, .ifCond .ne 7, 3, [203], 0),
  (199, .iconst 1, 1, [], 1),
  (200, .goto 4, 3, [204], 0),
  (203, .iconst 0, 1, [], 0),
  (204, .invokevirtual 79, 3, [7, 2], 0),
  (207, .ireturn, 1, [], 0)]
def k_Rule_faultIn : List (List (Nat × Nat)) := [[], [], [], [], [], [], [], [], [], [], [], [], [(1, 42)], [], [], [], [], [], [], [(2, 212), (2, 175), (2, 176), (1, 2), (2, 177)], [], [], [(2, 161), (1, 1), (2, 162), (2, 213)], [], [], [], [], [], [], [], [], [], [], [], [], [], [], [], [], [], [], [], [], [], [(2, 215), (1, 1), (2, 216), (2, 214)], [(2, 217), (2, 218), (1, 4), (2, 219)], [], [], [], [], [], [], [], [], [], [], [], [], [], [], [], [], [], [], [], [], [], [], [(2, 229), (2, 230), (1, 4), (2, 231)], [], [], [], [], [], [], [], [], [], [], [], [], [], [], [], [], [], [], [], [], [], [(2, 220), (2, 221), (1, 4), (2, 222)], [], [], [], [], [], [], [], [], [], [], [], [], [], [], [], [], [(2, 232), (2, 167), (2, 168), (1, 2), (2, 169)], []]
def c_W_isIn : List zE := [(0, .iload_n 0, 1, [], 0),
  (1, .iload_n 1, 1, [], 0),
  (2, .ishr, 1, [], 0),
  (3, .iconst 1, 1, [], 1),
  (4, .iand, 1, [], 0),
  (5, .ifCond .eq 7, 3, [12], 0),
  (8, .iconst 1, 1, [], 1),
  (9, .goto 4, 3, [13], 0),
  (12, .iconst 0, 1, [], 0),
  (13, .ireturn, 1, [], 1)]
def k_W_isIn : List (List (Nat × Nat)) := [[], [], [], [], [], [], [], [], [], []]
def c_Rule_canStand : List zE := [(0, .iload_n 1, 1, [], 0),
  (1, .ifCond .ne 33, 3, [34], 0),
  (4, .iload_n 0, 1, [], 0),
  (5, .bipush 45, 2, [], 45),
  (7, .if_icmp .eq 21, 3, [28], 0),
  (10, .iload_n 0, 1, [], 0),
  (11, .invokestatic 76, 3, [1, 19, 1], 0),
  (14, .ifCond .ne 14, 3, [28], 0),
  (17, .iload_n 0, 1, [], 0),
  (18, .bipush 40, 2, [], 40),
  (20, .if_icmp .ne 12, 3, [32], 0),
  (23, .iload_n 2, 1, [], 0),
  (24, .iconst 4, 1, [], 4),
  (25, .if_icmp .ge 7, 3, [32], 0),
  (28, .iconst 1, 1, [], 1),
  (29, .goto 4, 3, [33], 0),
  (32, .iconst 0, 1, [], 0),
  (33, .ireturn, 1, [], 1),
  (34, .iload_n 0, 1, [], 0),
  (35, .bipush 41, 2, [], 41),
  (37, .if_icmp .ne 13, 3, [50], 0),
  (40, .iload_n 2, 1, [], 0),
  (41, .ifCond .le 7, 3, [48], 0),
  (44, .iconst 1, 1, [], 1),
  (45, .goto 4, 3, [49], 0),
  (48, .iconst 0, 1, [], 0),
  (49, .ireturn, 1, [], 1),
  (50, .iload_n 0, 1, [], 0),
  (51, .invokestatic 83, 3, [1, 20, 1], 0),
  (54, .ifCond .ne 21, 3, [75], 0),
  (57, .iload_n 0, 1, [], 0),
  (58, .invokestatic 86, 3, [1, 21, 1], 0),
  (61, .ifCond .ne 14, 3, [75], 0),
  (64, .iload_n 0, 1, [], 0),
  (65, .invokestatic 72, 3, [1, 22, 1], 0),
  (68, .ifCond .eq 11, 3, [79], 0),
  (71, .iload_n 3, 1, [], 0),
  (72, .ifCond .ne 7, 3, [79], 0),
  (75, .iconst 1, 1, [], 1),
  (76, .goto 4, 3, [80], 0),
  (79, .iconst 0, 1, [], 0),
  (80, .ireturn, 1, [], 1)]
def k_Rule_canStand : List (List (Nat × Nat)) := [[], [], [], [], [], [], [(2, 220), (2, 221), (1, 4), (2, 222)], [], [], [], [], [], [], [], [], [], [], [], [], [], [], [], [], [], [], [], [], [], [(2, 223), (2, 224), (1, 4), (2, 225)], [], [], [(2, 226), (2, 227), (1, 4), (2, 228)], [], [], [(2, 229), (2, 230), (1, 4), (2, 231)], [], [], [], [], [], [], []]
def c_Rule_isVariable : List zE := [(0, .iload_n 0, 1, [], 0),
  (1, .bipush 104, 2, [], 104),
  (3, .if_icmp .eq 21, 3, [24], 0),
  (6, .iload_n 0, 1, [], 0),
  (7, .bipush 100, 2, [], 100),
  (9, .if_icmp .eq 15, 3, [24], 0),
  (12, .iload_n 0, 1, [], 0),
  (13, .bipush 110, 2, [], 110),
  (15, .if_icmp .eq 9, 3, [24], 0),
  (18, .iload_n 0, 1, [], 0),
  (19, .bipush 116, 2, [], 116),
  (21, .if_icmp .ne 7, 3, [28], 0),
  (24, .iconst 1, 1, [], 1),
  (25, .goto 4, 3, [29], 0),
  (28, .iconst 0, 1, [], 0),
  (29, .ireturn, 1, [], 1)]
def k_Rule_isVariable : List (List (Nat × Nat)) := [[], [], [], [], [], [], [], [], [], [], [], [], [], [], [], []]
def c_Rule_isAdding : List zE := [(0, .iload_n 0, 1, [], 0),
  (1, .bipush 43, 2, [], 43),
  (3, .if_icmp .eq 9, 3, [12], 0),
  (6, .iload_n 0, 1, [], 0),
  (7, .bipush 45, 2, [], 45),
  (9, .if_icmp .ne 7, 3, [16], 0),
  (12, .iconst 1, 1, [], 1),
  (13, .goto 4, 3, [17], 0),
  (16, .iconst 0, 1, [], 0),
  (17, .ireturn, 1, [], 1)]
def k_Rule_isAdding : List (List (Nat × Nat)) := [[], [], [], [], [], [], [], [], [], []]
def c_Rule_isFactoring : List zE := [(0, .iload_n 0, 1, [], 0),
  (1, .bipush 42, 2, [], 42),
  (3, .if_icmp .eq 9, 3, [12], 0),
  (6, .iload_n 0, 1, [], 0),
  (7, .bipush 47, 2, [], 47),
  (9, .if_icmp .ne 7, 3, [16], 0),
  (12, .iconst 1, 1, [], 1),
  (13, .goto 4, 3, [17], 0),
  (16, .iconst 0, 1, [], 0),
  (17, .ireturn, 1, [], 1)]
def k_Rule_isFactoring : List (List (Nat × Nat)) := [[], [], [], [], [], [], [], [], [], []]
def c_Rule_isComparison : List zE := [(0, .iload_n 0, 1, [], 0),
  (1, .bipush 60, 2, [], 60),
  (3, .if_icmp .eq 15, 3, [18], 0),
  (6, .iload_n 0, 1, [], 0),
  (7, .bipush 62, 2, [], 62),
  (9, .if_icmp .eq 9, 3, [18], 0),
  (12, .iload_n 0, 1, [], 0),
  (13, .bipush 61, 2, [], 61),
  (15, .if_icmp .ne 7, 3, [22], 0),
  (18, .iconst 1, 1, [], 1),
  (19, .goto 4, 3, [23], 0),
  (22, .iconst 0, 1, [], 0),
  (23, .ireturn, 1, [], 1)]
def k_Rule_isComparison : List (List (Nat × Nat)) := [[], [], [], [], [], [], [], [], [], [], [], [], []]
def c_Rule_take : List zE := [(0, .aload_n 0, 1, [], 0),
  (1, .aload_n 1, 1, [], 0),
  (2, .getfield 37, 3, [7, 1], 0),
  (5, .bipush 40, 2, [], 40),
  (7, .invokestatic 43, 3, [3], 0),
  (10, .putfield 49, 3, [6, 1], 0),
  (13, .aload_n 1, 1, [], 0),
  (14, .getfield 50, 3, [7, 0, 1, 100, 80], 0),
  (17, .iconst 0, 1, [], 0),
  (18, .aload_n 0, 1, [], 0),
  (19, .getfield 9, 3, [6, 0, 1, 100, 40], 0),
  (22, .iconst 0, 1, [], 0),
  (23, .aload_n 0, 1, [], 0),
  (24, .getfield 49, 3, [6, 1], 0),
  (27, .invokestatic 51, 3, [5], 0),
  (30, .return_, 1, [], 0)]
def k_Rule_take : List (List (Nat × Nat)) := [[], [], [(1, 42)], [], [(2, 237)], [(1, 75)], [], [(1, 40)], [], [], [(1, 74)], [], [], [(1, 75)], [(2, 238)], []]
def c_W_sheet : List zE := [(0, .iload_n 1, 1, [], 0),
  (1, .ifCond .lt 14, 3, [15], 0),
  (4, .iload_n 1, 1, [], 0),
  (5, .iconst 3, 1, [], 3),
  (6, .if_icmp .gt 9, 3, [15], 0),
  (9, .iload_n 2, 1, [], 0),
  (10, .bipush 8, 2, [], 8),
  (12, .if_icmp .le 5, 3, [17], 0),
  (15, .iconst (-1), 1, [], (-1)),
  (16, .ireturn, 1, [], 0),
  (17, .iload_n 1, 1, [], 0),
  (18, .iconst 3, 1, [], 3),
  (19, .if_icmp .eq 10, 3, [29], 0),
  (22, .iload_n 2, 1, [], 0),
  (23, .ifCond .ge 6, 3, [29], 0),
  (26, .bipush (-2), 2, [], (-2)),
  (28, .ireturn, 1, [], 0),
  (29, .iload_n 1, 1, [], 0),
  (30, .iconst 3, 1, [], 3),
  (31, .if_icmp .ne 7, 3, [38], 0),
  (34, .iconst 0, 1, [], 0),
  (35, .goto 4, 3, [39], 0),
  (38, .iload_n 2, 1, [], 0),
  (39, .istore 5, 2, [], 0),
  (41, .iconst 0, 1, [], 0),
  (42, .istore 6, 2, [], 0),
  (44, .iload 6, 2, [], 0),
  (46, .aload_n 0, 1, [], 0),
  (47, .getfield 36, 3, [10, 4, 23, 9, 0], 0),
  (50, .getfield 110, 3, [9, 5], 0),
  (53, .if_icmp .ge 41, 3, [94], 0),
  (56, .aload_n 0, 1, [], 0),
  (57, .getfield 56, 3, [10, 8, 45, 4, 0], 0),
  (60, .getfield 139, 3, [4, 0, 1, 100, 8], 0),
  (63, .iload 6, 2, [], 0),
  (65, .iload 6, 2, [], 0),
  (67, .iload 5, 2, [], 0),
  (69, .if_icmp .ge 17, 3, [86], 0),
  (72, .iload_n 1, 1, [], 0),
  (73, .iload_n 3, 1, [], 0),
  (74, .iload 6, 2, [], 0),
  (76, .iload 4, 2, [], 0),
  (78, .imul, 1, [], 0),
  (79, .iadd, 1, [], 0),
  (80, .invokestatic 192, 3, [1, 25, 2], 0),
  (83, .goto 4, 3, [87], 0),
  (86, .iconst 1, 1, [], 1),
  (87, .iastore, 1, [], 0),
  (88, .iinc 6 1, 3, [], 1),
  (91, .goto (-47), 3, [44], 0),
  (94, .iload_n 1, 1, [], 0),
  (95, .iconst 3, 1, [], 3),
  (96, .if_icmp .ne 8, 3, [104], 0),
  (99, .bipush (-3), 2, [], (-3)),
  (101, .goto 17, 3, [118], 0),
  (104, .aload_n 0, 1, [], 0),
  (105, .getfield 56, 3, [10, 8, 45, 4, 0], 0),
  (108, .aload_n 0, 1, [], 0),
  (109, .getfield 36, 3, [10, 4, 23, 9, 0], 0),
  (112, .getfield 110, 3, [9, 5], 0),
  (115, .invokevirtual 195, 3, [26, 1], 0),
  (118, .ireturn, 1, [], 0)]
def k_W_sheet : List (List (Nat × Nat)) := [[], [], [], [], [], [], [], [], [], [], [], [], [], [], [], [], [], [], [], [], [], [], [], [], [], [], [], [], [(2, 83)], [(1, 128)], [], [], [(2, 87)], [(1, 184)], [], [], [], [], [], [], [], [], [], [], [(3, 5), (3, 6), (1, 1), (3, 7)], [], [], [], [], [], [], [], [], [], [], [], [(2, 87)], [], [(2, 83)], [(1, 128)], [(3, 12), (3, 13), (3, 14), (1, 7), (3, 15)], []]
def c_W_thirstOf : List zE := [(0, .iload_n 0, 1, [], 0),
  (1, .ifCond .ne 8, 3, [9], 0),
  (4, .iload_n 1, 1, [], 0),
  (5, .i2b, 1, [], 0),
  (6, .goto 14, 3, [20], 0),
  (9, .iload_n 0, 1, [], 0),
  (10, .iconst 1, 1, [], 1),
  (11, .if_icmp .ne 8, 3, [19], 0),
  (14, .iload_n 1, 1, [], 0),
  (15, .i2s, 1, [], 0),
  (16, .goto 4, 3, [20], 0),
  (19, .iload_n 1, 1, [], 0),
  (20, .istore_n 2, 1, [], 0),
  (21, .iconst 1, 1, [], 1),
  (22, .bipush 9, 2, [], 9),
  (24, .iload_n 2, 1, [], 0),
  (25, .invokestatic 198, 3, [3], 0),
  (28, .invokestatic 203, 3, [4], 0),
  (31, .ireturn, 1, [], 0)]
def k_W_thirstOf : List (List (Nat × Nat)) := [[], [], [], [], [], [], [], [], [], [], [], [], [], [], [], [], [(3, 8)], [(3, 9)], []]
def c_Pump_thirstOfAll : List zE := [(0, .aload_n 0, 1, [], 0),
  (1, .iconst 1, 1, [], 1),
  (2, .iload_n 1, 1, [], 0),
  (3, .ishl, 1, [], 0),
  (4, .iconst 1, 1, [], 1),
  (5, .isub, 1, [], 0),
  (6, .invokevirtual 43, 3, [27, 1], 0),
  (9, .ireturn, 1, [], 0)]
def k_Pump_thirstOfAll : List (List (Nat × Nat)) := [[], [], [], [], [], [], [(3, 16), (3, 17), (3, 18), (1, 7), (3, 19)], []]
def c_Pump_thirstOfSet : List zE := [(0, .iconst 0, 1, [], 0),
  (1, .istore_n 2, 1, [], 0),
  (2, .iconst 0, 1, [], 0),
  (3, .istore_n 3, 1, [], 0),
  (4, .iload_n 3, 1, [], 0),
  (5, .bipush 8, 2, [], 8),
  (7, .if_icmp .ge 26, 3, [33], 0),
  (10, .iload_n 1, 1, [], 0),
  (11, .iload_n 3, 1, [], 0),
  (12, .invokestatic 46, 3, [2, 17, 2], 0),
  (15, .ifCond .eq 12, 3, [27], 0),
  (18, .iload_n 2, 1, [], 0),
  (19, .aload_n 0, 1, [], 0),
  (20, .getfield 9, 3, [4, 0, 1, 100, 8], 0),
  (23, .iload_n 3, 1, [], 0),
  (24, .iaload, 1, [], 0),
  (25, .iadd, 1, [], 0),
  (26, .istore_n 2, 1, [], 0),
  (27, .iinc 3 1, 3, [], 1),
  (30, .goto (-26), 3, [4], 0),
  (33, .iload_n 2, 1, [], 0),
  (34, .ireturn, 1, [], 0)]
def k_Pump_thirstOfSet : List (List (Nat × Nat)) := [[], [], [], [], [], [], [], [], [], [(2, 215), (1, 1), (2, 216), (3, 20)], [], [], [], [(1, 183)], [], [], [], [], [], [], [], []]
def c_W_order : List zE := [(0, .aload_n 0, 1, [], 0),
  (1, .getfield 12, 3, [10, 0, 1, 7, 0], 0),
  (4, .invokevirtual 206, 3, [29, 0], 0),
  (7, .istore_n 1, 1, [], 0),
  (8, .aload_n 0, 1, [], 0),
  (9, .getfield 36, 3, [10, 4, 23, 9, 0], 0),
  (12, .getfield 209, 3, [9, 0, 1, 100, 8], 0),
  (15, .iconst 0, 1, [], 0),
  (16, .iaload, 1, [], 0),
  (17, .istore_n 2, 1, [], 0),
  (18, .iload_n 1, 1, [], 0),
  (19, .iconst (-1), 1, [], (-1)),
  (20, .if_icmp .ne 28, 3, [48], 0),
  (23, .aload_n 0, 1, [], 0),
  (24, .getfield 63, 3, [10, 9, 49, 3, 0], 0),
  (27, .aload_n 0, 1, [], 0),
  (28, .getfield 36, 3, [10, 4, 23, 9, 0], 0),
  (31, .invokevirtual 212, 3, [30, 1], 0),
  (34, .aload_n 0, 1, [], 0),
  (35, .getfield 12, 3, [10, 0, 1, 7, 0], 0),
  (38, .aload_n 0, 1, [], 0),
  (39, .getfield 36, 3, [10, 4, 23, 9, 0], 0),
  (42, .getfield 209, 3, [9, 0, 1, 100, 8], 0),
  (45, .invokevirtual 216, 3, [32, 1], 0),
  (48, .aload_n 0, 1, [], 0),
  (49, .getfield 12, 3, [10, 0, 1, 7, 0], 0),
  (52, .iconst 0, 1, [], 0),
  (53, .putfield 106, 3, [7, 1], 0),
  (56, .iload_n 1, 1, [], 0),
  (57, .iconst (-1), 1, [], (-1)),
  (58, .if_icmp .ne 14, 3, [72], 0),
  (61, .aload_n 0, 1, [], 0),
  (62, .getfield 36, 3, [10, 4, 23, 9, 0], 0),
  (65, .iload_n 2, 1, [], 0),
  (66, .invokevirtual 220, 3, [33, 1], 0),
  (69, .goto 6, 3, [75], 0),
  (72, .iconst (-1), 1, [], (-1)),
  (73, .iload_n 1, 1, [], 0),
  (74, .isub, 1, [], 0),
  (75, .ireturn, 1, [], 0)]
def k_W_order : List (List (Nat × Nat)) := [[], [(2, 79)], [(3, 25), (3, 26), (3, 27), (1, 2), (3, 28)], [], [], [(2, 83)], [(1, 114)], [], [], [], [], [], [], [], [(2, 88)], [], [(2, 83)], [(3, 30), (3, 31), (3, 32), (1, 8), (3, 33)], [], [(2, 79)], [], [(2, 83)], [(1, 114)], [(3, 40), (3, 41), (3, 42), (1, 2), (3, 43)], [], [(2, 79)], [], [(1, 44)], [], [], [], [], [(2, 83)], [], [(3, 44), (3, 45), (3, 46), (1, 5), (3, 47)], [], [], [], [], []]
def c_Text_faultInOrder : List zE := [(0, .iconst 0, 1, [], 0),
  (1, .istore_n 1, 1, [], 0),
  (2, .iconst 0, 1, [], 0),
  (3, .istore_n 2, 1, [], 0),
  (4, .iload_n 2, 1, [], 0),
  (5, .aload_n 0, 1, [], 0),
  (6, .getfield 15, 3, [7, 1], 0),
  (9, .if_icmp .ge 46, 3, [55], 0),
  (12, .iload_n 2, 1, [], 0),
  (13, .bipush 8, 2, [], 8),
  (15, .if_icmp .ge 40, 3, [55], 0),
  (18, .aload_n 0, 1, [], 0),
  (19, .getfield 9, 3, [7, 0, 1, 100, 80], 0),
  (22, .iload_n 2, 1, [], 0),
  (23, .iaload, 1, [], 0),
  (24, .invokestatic 23, 3, [2, 6, 1], 0),
  (27, .istore_n 3, 1, [], 0),
  (28, .iload_n 3, 1, [], 0),
  (29, .iconst (-1), 1, [], (-1)),
  (30, .if_icmp .eq 11, 3, [41], 0),
  (33, .iload_n 1, 1, [], 0),
  (34, .iload_n 3, 1, [], 0),
  (35, .invokestatic 30, 3, [2, 17, 2], 0),
  (38, .ifCond .eq 5, 3, [43], 0),
  (41, .iload_n 2, 1, [], 0),
  (42, .ireturn, 1, [], 0),
  (43, .iload_n 1, 1, [], 0),
  (44, .iconst 1, 1, [], 1),
  (45, .iload_n 3, 1, [], 0),
  (46, .ishl, 1, [], 0),
  (47, .ior, 1, [], 0),
  (48, .istore_n 1, 1, [], 0),
  (49, .iinc 2 1, 3, [], 1),
  (52, .goto (-48), 3, [4], 0),
  (55, .aload_n 0, 1, [], 0),
  (56, .bipush 8, 2, [], 8),
  (58, .aload_n 0, 1, [], 0),
  (59, .getfield 15, 3, [7, 1], 0),
  (62, .bipush 8, 2, [], 8),
  (64, .if_icmp .ne 7, 3, [71], 0),
  (67, .iconst 1, 1, [], 1),
  (68, .goto 4, 3, [72], 0),
  (71, .iconst 0, 1, [], 0),
  (72, .invokevirtual 26, 3, [7, 2], 0),
  (75, .ireturn, 1, [], 0)]
def k_Text_faultInOrder : List (List (Nat × Nat)) := [[], [], [], [], [], [], [(1, 43)], [], [], [], [], [], [(1, 39)], [], [], [(2, 164), (1, 1), (2, 165), (2, 163)], [], [], [], [], [], [], [(2, 215), (1, 1), (2, 216), (3, 29)], [], [], [], [], [], [], [], [], [], [], [], [], [], [], [(1, 43)], [], [], [], [], [], [(2, 166), (2, 167), (2, 168), (1, 2), (2, 169)], []]
def c_Past_push : List zE := [(0, .aload_n 0, 1, [], 0),
  (1, .getfield 11, 3, [3, 0, 1, 103, 15], 0),
  (4, .aload_n 0, 1, [], 0),
  (5, .getfield 18, 3, [3, 1], 0),
  (8, .aaload, 1, [], 0),
  (9, .aload_n 1, 1, [], 0),
  (10, .invokevirtual 22, 3, [31, 1], 0),
  (13, .aload_n 0, 1, [], 0),
  (14, .aload_n 0, 1, [], 0),
  (15, .getfield 18, 3, [3, 1], 0),
  (18, .iconst 1, 1, [], 1),
  (19, .iadd, 1, [], 0),
  (20, .bipush 15, 2, [], 15),
  (22, .if_icmp .ge 12, 3, [34], 0),
  (25, .aload_n 0, 1, [], 0),
  (26, .getfield 18, 3, [3, 1], 0),
  (29, .iconst 1, 1, [], 1),
  (30, .iadd, 1, [], 0),
  (31, .goto 4, 3, [35], 0),
  (34, .iconst 0, 1, [], 0),
  (35, .putfield 18, 3, [3, 1], 0),
  (38, .aload_n 0, 1, [], 0),
  (39, .aload_n 0, 1, [], 0),
  (40, .getfield 26, 3, [3, 2], 0),
  (43, .iconst 1, 1, [], 1),
  (44, .iadd, 1, [], 0),
  (45, .bipush 15, 2, [], 15),
  (47, .invokestatic 29, 3, [3], 0),
  (50, .putfield 26, 3, [3, 2], 0),
  (53, .return_, 1, [], 0)]
def k_Past_push : List (List (Nat × Nat)) := [[], [(1, 223)], [], [(1, 224)], [], [], [(3, 34), (3, 35), (3, 36), (1, 5), (3, 37)], [], [], [(1, 224)], [], [], [], [], [], [(1, 224)], [], [], [], [], [(1, 224)], [], [], [(1, 225)], [], [], [], [(3, 39)], [(1, 225)], []]
def c_Town_become : List zE := [(0, .aload_n 1, 1, [], 0),
  (1, .getfield 9, 3, [9, 0, 1, 100, 8], 0),
  (4, .iconst 0, 1, [], 0),
  (5, .aload_n 0, 1, [], 0),
  (6, .getfield 9, 3, [9, 0, 1, 100, 8], 0),
  (9, .iconst 0, 1, [], 0),
  (10, .bipush 8, 2, [], 8),
  (12, .invokestatic 27, 3, [5], 0),
  (15, .aload_n 1, 1, [], 0),
  (16, .getfield 15, 3, [9, 1, 2, 100, 48], 0),
  (19, .iconst 0, 1, [], 0),
  (20, .aload_n 0, 1, [], 0),
  (21, .getfield 15, 3, [9, 1, 2, 100, 48], 0),
  (24, .iconst 0, 1, [], 0),
  (25, .bipush 48, 2, [], 48),
  (27, .invokestatic 27, 3, [5], 0),
  (30, .aload_n 1, 1, [], 0),
  (31, .getfield 18, 3, [9, 2, 3, 100, 8], 0),
  (34, .iconst 0, 1, [], 0),
  (35, .aload_n 0, 1, [], 0),
  (36, .getfield 18, 3, [9, 2, 3, 100, 8], 0),
  (39, .iconst 0, 1, [], 0),
  (40, .bipush 8, 2, [], 8),
  (42, .invokestatic 27, 3, [5], 0),
  (45, .aload_n 1, 1, [], 0),
  (46, .getfield 21, 3, [9, 3, 4, 100, 8], 0),
  (49, .iconst 0, 1, [], 0),
  (50, .aload_n 0, 1, [], 0),
  (51, .getfield 21, 3, [9, 3, 4, 100, 8], 0),
  (54, .iconst 0, 1, [], 0),
  (55, .bipush 8, 2, [], 8),
  (57, .invokestatic 27, 3, [5], 0),
  (60, .aload_n 1, 1, [], 0),
  (61, .getfield 24, 3, [9, 4, 5, 100, 8], 0),
  (64, .iconst 0, 1, [], 0),
  (65, .aload_n 0, 1, [], 0),
  (66, .getfield 24, 3, [9, 4, 5, 100, 8], 0),
  (69, .iconst 0, 1, [], 0),
  (70, .bipush 8, 2, [], 8),
  (72, .invokestatic 27, 3, [5], 0),
  (75, .aload_n 0, 1, [], 0),
  (76, .aload_n 1, 1, [], 0),
  (77, .getfield 33, 3, [9, 5], 0),
  (80, .putfield 33, 3, [9, 5], 0),
  (83, .aload_n 0, 1, [], 0),
  (84, .aload_n 1, 1, [], 0),
  (85, .getfield 37, 3, [9, 6], 0),
  (88, .putfield 37, 3, [9, 6], 0),
  (91, .return_, 1, [], 0)]
def k_Town_become : List (List (Nat × Nat)) := [[], [(1, 112)], [], [], [(1, 112)], [], [], [(3, 38)], [], [(1, 115)], [], [], [(1, 115)], [], [], [(3, 38)], [], [(1, 116)], [], [], [(1, 116)], [], [], [(3, 38)], [], [(1, 118)], [], [], [(1, 118)], [], [], [(3, 38)], [], [(1, 121)], [], [], [(1, 121)], [], [], [(3, 38)], [], [], [(1, 126)], [(1, 126)], [], [], [(1, 130)], [(1, 130)], []]
def c_Text_copyOrder : List zE := [(0, .iconst 0, 1, [], 0),
  (1, .istore_n 2, 1, [], 0),
  (2, .iload_n 2, 1, [], 0),
  (3, .aload_n 0, 1, [], 0),
  (4, .getfield 15, 3, [7, 1], 0),
  (7, .if_icmp .ge 27, 3, [34], 0),
  (10, .iload_n 2, 1, [], 0),
  (11, .bipush 8, 2, [], 8),
  (13, .if_icmp .ge 21, 3, [34], 0),
  (16, .aload_n 1, 1, [], 0),
  (17, .iload_n 2, 1, [], 0),
  (18, .aload_n 0, 1, [], 0),
  (19, .getfield 9, 3, [7, 0, 1, 100, 80], 0),
  (22, .iload_n 2, 1, [], 0),
  (23, .iaload, 1, [], 0),
  (24, .invokestatic 23, 3, [2, 6, 1], 0),
  (27, .iastore, 1, [], 0),
  (28, .iinc 2 1, 3, [], 1),
  (31, .goto (-29), 3, [2], 0),
  (34, .return_, 1, [], 0)]
def k_Text_copyOrder : List (List (Nat × Nat)) := [[], [], [], [], [(1, 43)], [], [], [], [], [], [], [], [(1, 39)], [], [], [(2, 164), (1, 1), (2, 165), (2, 163)], [], [], [], []]
def c_Town_placeOfLetter : List zE := [(0, .iconst 0, 1, [], 0),
  (1, .istore_n 2, 1, [], 0),
  (2, .iload_n 2, 1, [], 0),
  (3, .bipush 8, 2, [], 8),
  (5, .if_icmp .ge 21, 3, [26], 0),
  (8, .aload_n 0, 1, [], 0),
  (9, .getfield 9, 3, [9, 0, 1, 100, 8], 0),
  (12, .iload_n 2, 1, [], 0),
  (13, .iaload, 1, [], 0),
  (14, .iload_n 1, 1, [], 0),
  (15, .if_icmp .ne 5, 3, [20], 0),
  (18, .iload_n 2, 1, [], 0),
  (19, .ireturn, 1, [], 0),
  (20, .iinc 2 1, 3, [], 1),
  (23, .goto (-21), 3, [2], 0),
  (26, .iconst (-1), 1, [], (-1)),
  (27, .ireturn, 1, [], 0)]
def k_Town_placeOfLetter : List (List (Nat × Nat)) := [[], [], [], [], [], [], [(1, 112)], [], [], [], [], [], [], [], [], [], []]
def c_W_name : List zE := [(0, .aload_n 0, 1, [], 0),
  (1, .getfield 36, 3, [10, 4, 23, 9, 0], 0),
  (4, .iload_n 1, 1, [], 0),
  (5, .invokevirtual 164, 3, [35, 1], 0),
  (8, .ifCond .ne 14, 3, [22], 0),
  (11, .aload_n 0, 1, [], 0),
  (12, .getfield 12, 3, [10, 0, 1, 7, 0], 0),
  (15, .iconst 0, 1, [], 0),
  (16, .putfield 106, 3, [7, 1], 0),
  (19, .bipush (-100), 2, [], (-100)),
  (21, .ireturn, 1, [], 0),
  (22, .aload_n 0, 1, [], 0),
  (23, .getfield 12, 3, [10, 0, 1, 7, 0], 0),
  (26, .invokevirtual 223, 3, [36, 0], 0),
  (29, .istore_n 2, 1, [], 0),
  (30, .iload_n 2, 1, [], 0),
  (31, .iconst (-1), 1, [], (-1)),
  (32, .if_icmp .ne 62, 3, [94], 0),
  (35, .aload_n 0, 1, [], 0),
  (36, .getfield 63, 3, [10, 9, 49, 3, 0], 0),
  (39, .aload_n 0, 1, [], 0),
  (40, .getfield 36, 3, [10, 4, 23, 9, 0], 0),
  (43, .invokevirtual 212, 3, [30, 1], 0),
  (46, .aload_n 0, 1, [], 0),
  (47, .getfield 36, 3, [10, 4, 23, 9, 0], 0),
  (50, .getfield 170, 3, [9, 2, 3, 100, 8], 0),
  (53, .iload_n 1, 1, [], 0),
  (54, .iconst 0, 1, [], 0),
  (55, .iastore, 1, [], 0),
  (56, .iconst 0, 1, [], 0),
  (57, .istore_n 3, 1, [], 0),
  (58, .iload_n 3, 1, [], 0),
  (59, .aload_n 0, 1, [], 0),
  (60, .getfield 12, 3, [10, 0, 1, 7, 0], 0),
  (63, .getfield 106, 3, [7, 1], 0),
  (66, .if_icmp .ge 28, 3, [94], 0),
  (69, .aload_n 0, 1, [], 0),
  (70, .getfield 36, 3, [10, 4, 23, 9, 0], 0),
  (73, .iload_n 1, 1, [], 0),
  (74, .aload_n 0, 1, [], 0),
  (75, .getfield 12, 3, [10, 0, 1, 7, 0], 0),
  (78, .iload_n 3, 1, [], 0),
  (79, .invokevirtual 126, 3, [9, 1], 0),
  (82, .invokestatic 129, 3, [1, 6, 1], 0),
  (85, .invokevirtual 135, 3, [10, 2], 0),
  (88, .iinc 3 1, 3, [], 1),
  (91, .goto (-33), 3, [58], 0),
  (94, .aload_n 0, 1, [], 0),
  (95, .getfield 12, 3, [10, 0, 1, 7, 0], 0),
  (98, .iconst 0, 1, [], 0),
  (99, .putfield 106, 3, [7, 1], 0),
  (102, .iload_n 2, 1, [], 0),
  (103, .iconst (-1), 1, [], (-1)),
  (104, .if_icmp .ne 11, 3, [115], 0),
  (107, .aload_n 0, 1, [], 0),
  (108, .iload_n 1, 1, [], 0),
  (109, .invokevirtual 179, 3, [37, 1], 0),
  (112, .goto 6, 3, [118], 0),
  (115, .iconst (-1), 1, [], (-1)),
  (116, .iload_n 2, 1, [], 0),
  (117, .isub, 1, [], 0),
  (118, .ireturn, 1, [], 0)]
def k_W_name : List (List (Nat × Nat)) := [[], [(2, 83)], [], [(3, 52), (3, 53), (3, 54), (1, 5), (3, 55)], [], [], [(2, 79)], [], [(1, 44)], [], [], [], [(2, 79)], [(3, 56), (3, 57), (3, 58), (1, 2), (3, 59)], [], [], [], [], [], [(2, 88)], [], [(2, 83)], [(3, 30), (3, 31), (3, 32), (1, 8), (3, 33)], [], [(2, 83)], [(1, 117)], [], [], [], [], [], [], [], [(2, 79)], [(1, 44)], [], [], [(2, 83)], [], [], [(2, 79)], [], [(2, 174), (2, 175), (2, 176), (1, 2), (2, 177)], [(2, 178), (2, 164), (1, 1), (2, 165)], [(2, 180), (2, 181), (2, 182), (1, 5), (2, 183)], [], [], [], [(2, 79)], [], [(1, 44)], [], [], [], [], [], [(3, 60), (3, 62), (0, 2), (1, 1), (3, 63)], [], [], [], [], []]
def c_Town_has : List zE := [(0, .iload_n 1, 1, [], 0),
  (1, .ifCond .lt 15, 3, [16], 0),
  (4, .iload_n 1, 1, [], 0),
  (5, .aload_n 0, 1, [], 0),
  (6, .getfield 33, 3, [9, 5], 0),
  (9, .if_icmp .ge 7, 3, [16], 0),
  (12, .iconst 1, 1, [], 1),
  (13, .goto 4, 3, [17], 0),
  (16, .iconst 0, 1, [], 0),
  (17, .ireturn, 1, [], 1)]
def k_Town_has : List (List (Nat × Nat)) := [[], [], [], [], [(1, 126)], [], [], [], [], []]
def c_Text_faultInName : List zE := [(0, .iconst 0, 1, [], 0),
  (1, .istore_n 1, 1, [], 0),
  (2, .iload_n 1, 1, [], 0),
  (3, .aload_n 0, 1, [], 0),
  (4, .getfield 15, 3, [7, 1], 0),
  (7, .if_icmp .ge 30, 3, [37], 0),
  (10, .iload_n 1, 1, [], 0),
  (11, .bipush 6, 2, [], 6),
  (13, .if_icmp .ge 24, 3, [37], 0),
  (16, .aload_n 0, 1, [], 0),
  (17, .getfield 9, 3, [7, 0, 1, 100, 80], 0),
  (20, .iload_n 1, 1, [], 0),
  (21, .iaload, 1, [], 0),
  (22, .invokestatic 23, 3, [2, 6, 1], 0),
  (25, .iconst (-1), 1, [], (-1)),
  (26, .if_icmp .ne 5, 3, [31], 0),
  (29, .iload_n 1, 1, [], 0),
  (30, .ireturn, 1, [], 0),
  (31, .iinc 1 1, 3, [], 1),
  (34, .goto (-32), 3, [2], 0),
  (37, .aload_n 0, 1, [], 0),
  (38, .bipush 6, 2, [], 6),
  (40, .aload_n 0, 1, [], 0),
  (41, .getfield 15, 3, [7, 1], 0),
  (44, .ifCond .le 7, 3, [51], 0),
  (47, .iconst 1, 1, [], 1),
  (48, .goto 4, 3, [52], 0),
  (51, .iconst 0, 1, [], 0),
  (52, .invokevirtual 26, 3, [7, 2], 0),
  (55, .ireturn, 1, [], 0)]
def k_Text_faultInName : List (List (Nat × Nat)) := [[], [], [], [], [(1, 43)], [], [], [], [], [], [(1, 39)], [], [], [(2, 164), (1, 1), (2, 165), (2, 163)], [], [], [], [], [], [], [], [], [], [(1, 43)], [], [], [], [], [(2, 166), (2, 167), (2, 168), (1, 2), (2, 169)], []]
def c_W_placeNow : List zE := [(0, .aload_n 0, 1, [], 0),
  (1, .getfield 46, 3, [10, 6, 35, 0, 0], 0),
  (4, .aload_n 0, 1, [], 0),
  (5, .getfield 36, 3, [10, 4, 23, 9, 0], 0),
  (8, .aload_n 0, 1, [], 0),
  (9, .getfield 36, 3, [10, 4, 23, 9, 0], 0),
  (12, .getfield 209, 3, [9, 0, 1, 100, 8], 0),
  (15, .invokevirtual 275, 3, [38, 2], 0),
  (18, .aload_n 0, 1, [], 0),
  (19, .getfield 46, 3, [10, 6, 35, 0, 0], 0),
  (22, .getfield 310, 3, [0, 1, 2, 100, 8], 0),
  (25, .iload_n 1, 1, [], 0),
  (26, .iaload, 1, [], 0),
  (27, .ireturn, 1, [], 0)]
def k_W_placeNow : List (List (Nat × Nat)) := [[], [(2, 85)], [], [(2, 83)], [], [(2, 83)], [(1, 114)], [(3, 64), (3, 65), (3, 66), (1, 6), (3, 67)], [], [(2, 85)], [(1, 159)], [], [], []]
def c_Book_write : List zE := [(0, .aload_n 0, 1, [], 0),
  (1, .aload_n 1, 1, [], 0),
  (2, .getfield 24, 3, [9, 5], 0),
  (5, .putfield 30, 3, [0, 4], 0),
  (8, .iconst 0, 1, [], 0),
  (9, .istore_n 3, 1, [], 0),
  (10, .iload_n 3, 1, [], 0),
  (11, .bipush 8, 2, [], 8),
  (13, .if_icmp .ge 18, 3, [31], 0),
  (16, .aload_n 0, 1, [], 0),
  (17, .getfield 21, 3, [0, 3, 4, 100, 8], 0),
  (20, .aload_n 2, 1, [], 0),
  (21, .iload_n 3, 1, [], 0),
  (22, .iaload, 1, [], 0),
  (23, .iload_n 3, 1, [], 0),
  (24, .iastore, 1, [], 0),
  (25, .iinc 3 1, 3, [], 1),
  (28, .goto (-18), 3, [10], 0),
  (31, .iconst 0, 1, [], 0),
  (32, .istore_n 3, 1, [], 0),
  (33, .iload_n 3, 1, [], 0),
  (34, .aload_n 0, 1, [], 0),
  (35, .getfield 30, 3, [0, 4], 0),
  (38, .if_icmp .ge 21, 3, [59], 0),
  (41, .aload_n 0, 1, [], 0),
  (42, .getfield 18, 3, [0, 2, 3, 100, 8], 0),
  (45, .iload_n 3, 1, [], 0),
  (46, .aload_n 0, 1, [], 0),
  (47, .aload_n 1, 1, [], 0),
  (48, .iload_n 3, 1, [], 0),
  (49, .invokevirtual 31, 3, [39, 2], 0),
  (52, .iastore, 1, [], 0),
  (53, .iinc 3 1, 3, [], 1),
  (56, .goto (-23), 3, [33], 0),
  (59, .iconst 0, 1, [], 0),
  (60, .istore_n 3, 1, [], 0),
  (61, .iload_n 3, 1, [], 0),
  (62, .aload_n 0, 1, [], 0),
  (63, .getfield 30, 3, [0, 4], 0),
  (66, .if_icmp .ge 38, 3, [104], 0),
  (69, .aload_n 0, 1, [], 0),
  (70, .getfield 15, 3, [0, 1, 2, 100, 8], 0),
  (73, .iload_n 3, 1, [], 0),
  (74, .aload_n 0, 1, [], 0),
  (75, .iload_n 3, 1, [], 0),
  (76, .aload_n 0, 1, [], 0),
  (77, .getfield 18, 3, [0, 2, 3, 100, 8], 0),
  (80, .iload_n 3, 1, [], 0),
  (81, .iaload, 1, [], 0),
  (82, .invokevirtual 35, 3, [41, 2], 0),
  (85, .iastore, 1, [], 0),
  (86, .aload_n 0, 1, [], 0),
  (87, .getfield 9, 3, [0, 0, 1, 100, 8], 0),
  (90, .aload_n 0, 1, [], 0),
  (91, .getfield 15, 3, [0, 1, 2, 100, 8], 0),
  (94, .iload_n 3, 1, [], 0),
  (95, .iaload, 1, [], 0),
  (96, .iload_n 3, 1, [], 0),
  (97, .iastore, 1, [], 0),
  (98, .iinc 3 1, 3, [], 1),
  (101, .goto (-40), 3, [61], 0),
  (104, .return_, 1, [], 0)]
def k_Book_write : List (List (Nat × Nat)) := [[], [], [(1, 124)], [(1, 164)], [], [], [], [], [], [], [(1, 162)], [], [], [], [], [], [], [], [], [], [], [], [(1, 164)], [], [], [(1, 160)], [], [], [], [], [(3, 68), (3, 70), (0, 3), (1, 6), (3, 71)], [], [], [], [], [], [], [], [(1, 164)], [], [], [(1, 157)], [], [], [], [], [(1, 160)], [], [], [(3, 76), (3, 77), (3, 78), (1, 6), (3, 79)], [], [], [(1, 154)], [], [(1, 157)], [], [], [], [], [], [], []]
def c_Book_keyOf : List zE := [(0, .iconst 0, 1, [], 0),
  (1, .istore_n 3, 1, [], 0),
  (2, .iconst 0, 1, [], 0),
  (3, .istore 4, 2, [], 0),
  (5, .iload 4, 2, [], 0),
  (7, .bipush 6, 2, [], 6),
  (9, .if_icmp .ge 43, 3, [52], 0),
  (12, .aload_n 1, 1, [], 0),
  (13, .iload_n 2, 1, [], 0),
  (14, .iload 4, 2, [], 0),
  (16, .invokevirtual 39, 3, [40, 2], 0),
  (19, .istore 5, 2, [], 0),
  (21, .iload_n 3, 1, [], 0),
  (22, .bipush 9, 2, [], 9),
  (24, .imul, 1, [], 0),
  (25, .iload 5, 2, [], 0),
  (27, .iconst (-1), 1, [], (-1)),
  (28, .if_icmp .ne 7, 3, [35], 0),
  (31, .iconst 0, 1, [], 0),
  (32, .goto 12, 3, [44], 0),
  (35, .aload_n 0, 1, [], 0),
  (36, .getfield 21, 3, [0, 3, 4, 100, 8], 0),
  (39, .iload 5, 2, [], 0),
  (41, .iaload, 1, [], 0),
  (42, .iconst 1, 1, [], 1),
  (43, .iadd, 1, [], 0),
  (44, .iadd, 1, [], 0),
  (45, .istore_n 3, 1, [], 0),
  (46, .iinc 4 1, 3, [], 1),
  (49, .goto (-44), 3, [5], 0),
  (52, .iload_n 3, 1, [], 0),
  (53, .bipush 8, 2, [], 8),
  (55, .imul, 1, [], 0),
  (56, .iload_n 2, 1, [], 0),
  (57, .iadd, 1, [], 0),
  (58, .ireturn, 1, [], 0)]
def k_Book_keyOf : List (List (Nat × Nat)) := [[], [], [], [], [], [], [], [], [], [], [(3, 72), (3, 73), (3, 74), (1, 5), (3, 75)], [], [], [], [], [], [], [], [], [], [], [(1, 162)], [], [], [], [], [], [], [], [], [], [], [], [], [], []]
def c_Town_letterAt : List zE := [(0, .iload_n 2, 1, [], 0),
  (1, .aload_n 0, 1, [], 0),
  (2, .getfield 18, 3, [9, 2, 3, 100, 8], 0),
  (5, .iload_n 1, 1, [], 0),
  (6, .iaload, 1, [], 0),
  (7, .if_icmp .ge 17, 3, [24], 0),
  (10, .aload_n 0, 1, [], 0),
  (11, .getfield 15, 3, [9, 1, 2, 100, 48], 0),
  (14, .iload_n 1, 1, [], 0),
  (15, .bipush 6, 2, [], 6),
  (17, .imul, 1, [], 0),
  (18, .iload_n 2, 1, [], 0),
  (19, .iadd, 1, [], 0),
  (20, .iaload, 1, [], 0),
  (21, .goto 4, 3, [25], 0),
  (24, .iconst (-1), 1, [], (-1)),
  (25, .ireturn, 1, [], 0)]
def k_Town_letterAt : List (List (Nat × Nat)) := [[], [], [(1, 116)], [], [], [], [], [(1, 115)], [], [], [], [], [], [], [], [], []]
def c_Book_placeByKey : List zE := [(0, .iconst 0, 1, [], 0),
  (1, .istore_n 3, 1, [], 0),
  (2, .iconst 0, 1, [], 0),
  (3, .istore 4, 2, [], 0),
  (5, .iload 4, 2, [], 0),
  (7, .aload_n 0, 1, [], 0),
  (8, .getfield 30, 3, [0, 4], 0),
  (11, .if_icmp .ge 29, 3, [40], 0),
  (14, .iload 4, 2, [], 0),
  (16, .iload_n 1, 1, [], 0),
  (17, .if_icmp .eq 17, 3, [34], 0),
  (20, .aload_n 0, 1, [], 0),
  (21, .getfield 18, 3, [0, 2, 3, 100, 8], 0),
  (24, .iload 4, 2, [], 0),
  (26, .iaload, 1, [], 0),
  (27, .iload_n 2, 1, [], 0),
  (28, .if_icmp .ge 6, 3, [34], 0),
  (31, .iinc 3 1, 3, [], 1),
  (34, .iinc 4 1, 3, [], 1),
  (37, .goto (-32), 3, [5], 0),
  (40, .iload_n 3, 1, [], 0),
  (41, .ireturn, 1, [], 0)]
def k_Book_placeByKey : List (List (Nat × Nat)) := [[], [], [], [], [], [], [(1, 164)], [], [], [], [], [], [(1, 160)], [], [], [], [], [], [], [], [], []]
def c_W_marry : List zE := [(0, .aload_n 0, 1, [], 0),
  (1, .getfield 36, 3, [10, 4, 23, 9, 0], 0),
  (4, .iload_n 1, 1, [], 0),
  (5, .iload_n 2, 1, [], 0),
  (6, .invokevirtual 226, 3, [43, 2], 0),
  (9, .ifCond .ne 6, 3, [15], 0),
  (12, .bipush (-100), 2, [], (-100)),
  (14, .ireturn, 1, [], 0),
  (15, .aload_n 0, 1, [], 0),
  (16, .getfield 63, 3, [10, 9, 49, 3, 0], 0),
  (19, .aload_n 0, 1, [], 0),
  (20, .getfield 36, 3, [10, 4, 23, 9, 0], 0),
  (23, .invokevirtual 212, 3, [30, 1], 0),
  (26, .aload_n 0, 1, [], 0),
  (27, .iload_n 1, 1, [], 0),
  (28, .invokevirtual 179, 3, [37, 1], 0),
  (31, .istore_n 3, 1, [], 0),
  (32, .aload_n 0, 1, [], 0),
  (33, .getfield 36, 3, [10, 4, 23, 9, 0], 0),
  (36, .iload_n 1, 1, [], 0),
  (37, .iload_n 2, 1, [], 0),
  (38, .invokevirtual 230, 3, [44, 2], 0),
  (41, .iload_n 3, 1, [], 0),
  (42, .aload_n 0, 1, [], 0),
  (43, .iload_n 1, 1, [], 0),
  (44, .invokevirtual 179, 3, [37, 1], 0),
  (47, .isub, 1, [], 0),
  (48, .ireturn, 1, [], 0)]
def k_W_marry : List (List (Nat × Nat)) := [[], [(2, 83)], [], [], [(3, 84), (3, 85), (3, 86), (1, 5), (3, 87)], [], [], [], [], [(2, 88)], [], [(2, 83)], [(3, 30), (3, 31), (3, 32), (1, 8), (3, 33)], [], [], [(3, 60), (3, 62), (0, 2), (1, 1), (3, 63)], [], [], [(2, 83)], [], [], [(3, 89), (3, 90), (3, 91), (1, 5), (3, 92)], [], [], [], [(3, 60), (3, 62), (0, 2), (1, 1), (3, 63)], [], []]
def c_Town_canMarry : List zE := [(0, .aload_n 0, 1, [], 0),
  (1, .iload_n 1, 1, [], 0),
  (2, .invokevirtual 40, 3, [35, 1], 0),
  (5, .ifCond .eq 20, 3, [25], 0),
  (8, .aload_n 0, 1, [], 0),
  (9, .iload_n 2, 1, [], 0),
  (10, .invokevirtual 40, 3, [35, 1], 0),
  (13, .ifCond .eq 12, 3, [25], 0),
  (16, .iload_n 1, 1, [], 0),
  (17, .iload_n 2, 1, [], 0),
  (18, .if_icmp .eq 7, 3, [25], 0),
  (21, .iconst 1, 1, [], 1),
  (22, .goto 4, 3, [26], 0),
  (25, .iconst 0, 1, [], 0),
  (26, .ireturn, 1, [], 1)]
def k_Town_canMarry : List (List (Nat × Nat)) := [[], [], [(3, 88), (3, 53), (3, 54), (1, 5), (3, 55)], [], [], [], [(3, 88), (3, 53), (3, 54), (1, 5), (3, 55)], [], [], [], [], [], [], [], []]
def c_Town_takeName : List zE := [(0, .aload_n 0, 1, [], 0),
  (1, .getfield 15, 3, [9, 1, 2, 100, 48], 0),
  (4, .iload_n 2, 1, [], 0),
  (5, .bipush 6, 2, [], 6),
  (7, .imul, 1, [], 0),
  (8, .aload_n 0, 1, [], 0),
  (9, .getfield 15, 3, [9, 1, 2, 100, 48], 0),
  (12, .iload_n 1, 1, [], 0),
  (13, .bipush 6, 2, [], 6),
  (15, .imul, 1, [], 0),
  (16, .bipush 6, 2, [], 6),
  (18, .invokestatic 27, 3, [5], 0),
  (21, .aload_n 0, 1, [], 0),
  (22, .getfield 18, 3, [9, 2, 3, 100, 8], 0),
  (25, .iload_n 1, 1, [], 0),
  (26, .aload_n 0, 1, [], 0),
  (27, .getfield 18, 3, [9, 2, 3, 100, 8], 0),
  (30, .iload_n 2, 1, [], 0),
  (31, .iaload, 1, [], 0),
  (32, .iastore, 1, [], 0),
  (33, .return_, 1, [], 0)]
def k_Town_takeName : List (List (Nat × Nat)) := [[], [(1, 115)], [], [], [], [], [(1, 115)], [], [], [], [], [(3, 38)], [], [(1, 116)], [], [], [(1, 116)], [], [], [], []]
def c_W_days : List zE := [(0, .iload_n 1, 1, [], 0),
  (1, .ifCond .lt 9, 3, [10], 0),
  (4, .iload_n 1, 1, [], 0),
  (5, .bipush 60, 2, [], 60),
  (7, .if_icmp .le 5, 3, [12], 0),
  (10, .iconst (-1), 1, [], (-1)),
  (11, .ireturn, 1, [], 0),
  (12, .aload_n 0, 1, [], 0),
  (13, .getfield 63, 3, [10, 9, 49, 3, 0], 0),
  (16, .aload_n 0, 1, [], 0),
  (17, .getfield 36, 3, [10, 4, 23, 9, 0], 0),
  (20, .invokevirtual 212, 3, [30, 1], 0),
  (23, .aload_n 0, 1, [], 0),
  (24, .getfield 56, 3, [10, 8, 45, 4, 0], 0),
  (27, .aload_n 0, 1, [], 0),
  (28, .getfield 36, 3, [10, 4, 23, 9, 0], 0),
  (31, .aload_n 0, 1, [], 0),
  (32, .getfield 46, 3, [10, 6, 35, 0, 0], 0),
  (35, .aload_n 0, 1, [], 0),
  (36, .getfield 26, 3, [10, 2, 5, 6, 0], 0),
  (39, .iload_n 1, 1, [], 0),
  (40, .invokevirtual 233, 3, [46, 4], 0),
  (43, .istore_n 2, 1, [], 0),
  (44, .aload_n 0, 1, [], 0),
  (45, .getfield 19, 3, [10, 1, 3, 5, 0], 0),
  (48, .aload_n 0, 1, [], 0),
  (49, .getfield 56, 3, [10, 8, 45, 4, 0], 0),
  (52, .getfield 237, 3, [4, 7], 0),
  (55, .i2l, 1, [], 0),
  (56, .aload_n 0, 1, [], 0),
  (57, .getfield 56, 3, [10, 8, 45, 4, 0], 0),
  (60, .getfield 240, 3, [4, 6], 0),
  (63, .i2l, 1, [], 0),
  (64, .invokevirtual 243, 3, [55, 2], 0),
  (67, .iload_n 2, 1, [], 0),
  (68, .ireturn, 1, [], 0)]
def k_W_days : List (List (Nat × Nat)) := [[], [], [], [], [], [], [], [], [(2, 88)], [], [(2, 83)], [(3, 30), (3, 31), (3, 32), (1, 8), (3, 33)], [], [(2, 87)], [], [(2, 83)], [], [(2, 85)], [], [(2, 81)], [], [(3, 97), (3, 98), (3, 99), (1, 7), (3, 100)], [], [], [(2, 80)], [], [(2, 87)], [(1, 196)], [], [], [(2, 87)], [(1, 194)], [], [(3, 142), (3, 143), (3, 144), (1, 3), (3, 145)], [], []]
def c_Pump_live : List zE := [(0, .aload_n 2, 1, [], 0),
  (1, .aload_n 1, 1, [], 0),
  (2, .aload_n 1, 1, [], 0),
  (3, .getfield 81, 3, [9, 0, 1, 100, 8], 0),
  (6, .invokevirtual 86, 3, [38, 2], 0),
  (9, .aload_n 0, 1, [], 0),
  (10, .iconst 0, 1, [], 0),
  (11, .putfield 90, 3, [4, 6], 0),
  (14, .aload_n 0, 1, [], 0),
  (15, .iconst 0, 1, [], 0),
  (16, .putfield 93, 3, [4, 7], 0),
  (19, .iconst 0, 1, [], 0),
  (20, .istore 5, 2, [], 0),
  (22, .iconst 0, 1, [], 0),
  (23, .istore 6, 2, [], 0),
  (25, .iload 6, 2, [], 0),
  (27, .iload 4, 2, [], 0),
  (29, .if_icmp .ge 130, 3, [159], 0),
  (32, .iload 5, 2, [], 0),
  (34, .aload_n 0, 1, [], 0),
  (35, .aload_n 2, 1, [], 0),
  (36, .aload_n 0, 1, [], 0),
  (37, .aload_n 3, 1, [], 0),
  (38, .aload_n 1, 1, [], 0),
  (39, .getfield 96, 3, [9, 5], 0),
  (42, .aload_n 1, 1, [], 0),
  (43, .getfield 97, 3, [9, 6], 0),
  (46, .invokevirtual 100, 3, [47, 3], 0),
  (49, .invokevirtual 104, 3, [54, 2], 0),
  (52, .iadd, 1, [], 0),
  (53, .istore 5, 2, [], 0),
  (55, .aload_n 0, 1, [], 0),
  (56, .dup, 1, [], 0),
  (57, .getfield 90, 3, [4, 6], 0),
  (60, .aload_n 0, 1, [], 0),
  (61, .getfield 62, 3, [4, 4], 0),
  (64, .iadd, 1, [], 0),
  (65, .putfield 90, 3, [4, 6], 0),
  (68, .aload_n 0, 1, [], 0),
  (69, .dup, 1, [], 0),
  (70, .getfield 93, 3, [4, 7], 0),
  (73, .aload_n 0, 1, [], 0),
  (74, .getfield 65, 3, [4, 5], 0),
  (77, .ior, 1, [], 0),
  (78, .putfield 93, 3, [4, 7], 0),
  (81, .iconst 0, 1, [], 0),
  (82, .istore 7, 2, [], 0),
  (84, .iload 7, 2, [], 0),
  (86, .aload_n 1, 1, [], 0),
  (87, .getfield 96, 3, [9, 5], 0),
  (90, .if_icmp .ge 53, 3, [143], 0),
  (93, .aload_n 1, 1, [], 0),
  (94, .getfield 108, 3, [9, 4, 5, 100, 8], 0),
  (97, .iload 7, 2, [], 0),
  (99, .dup2, 1, [], 0),
  (100, .iaload, 1, [], 0),
  (101, .aload_n 0, 1, [], 0),
  (102, .getfield 22, 3, [4, 3, 3, 100, 8], 0),
  (105, .iload 7, 2, [], 0),
  (107, .iaload, 1, [], 0),
  (108, .iadd, 1, [], 0),
  (109, .iastore, 1, [], 0),
  (110, .aload_n 1, 1, [], 0),
  (111, .getfield 111, 3, [9, 3, 4, 100, 8], 0),
  (114, .iload 7, 2, [], 0),
  (116, .dup2, 1, [], 0),
  (117, .iaload, 1, [], 0),
  (118, .aload_n 0, 1, [], 0),
  (119, .getfield 65, 3, [4, 5], 0),
  (122, .iload 7, 2, [], 0),
  (124, .invokestatic 46, 3, [2, 17, 2], 0),
  (127, .ifCond .eq 7, 3, [134], 0),
  (130, .iconst 1, 1, [], 1),
  (131, .goto 4, 3, [135], 0),
  (134, .iconst 0, 1, [], 0),
  (135, .iadd, 1, [], 0),
  (136, .iastore, 1, [], 0),
  (137, .iinc 7 1, 3, [], 1),
  (140, .goto (-56), 3, [84], 0),
  (143, .aload_n 1, 1, [], 0),
  (144, .dup, 1, [], 0),
  (145, .getfield 97, 3, [9, 6], 0),
  (148, .iconst 1, 1, [], 1),
  (149, .iadd, 1, [], 0),
  (150, .putfield 97, 3, [9, 6], 0),
  (153, .iinc 6 1, 3, [], 1),
  (156, .goto (-131), 3, [25], 0),
  (159, .iload 5, 2, [], 0),
  (161, .ireturn, 1, [], 0)]
def k_Pump_live : List (List (Nat × Nat)) := [[], [], [], [(1, 113)], [(3, 101), (3, 65), (3, 66), (1, 6), (3, 67)], [], [], [(1, 193)], [], [], [(1, 195)], [], [], [], [], [], [], [], [], [], [], [], [], [], [(1, 129)], [], [(1, 131)], [(3, 102), (3, 103), (3, 104), (1, 7), (3, 105)], [(3, 132), (3, 133), (3, 134), (1, 7), (3, 135)], [], [], [], [], [(1, 193)], [], [(1, 190)], [], [(1, 193)], [], [], [(1, 195)], [], [(1, 192)], [], [(1, 195)], [], [], [], [], [(1, 129)], [], [], [(1, 122)], [], [], [], [], [(1, 188)], [], [], [], [], [], [(1, 119)], [], [], [], [], [(1, 192)], [], [(2, 215), (1, 1), (2, 216), (3, 20)], [], [], [], [], [], [], [], [], [], [], [(1, 131)], [], [], [(1, 131)], [], [], [], []]
def c_Pump_yieldOn : List zE := [(0, .aload_n 0, 1, [], 0),
  (1, .getfield 18, 3, [4, 2], 0),
  (4, .ifCond .le 17, 3, [21], 0),
  (7, .aload_n 0, 1, [], 0),
  (8, .getfield 15, 3, [4, 1, 2, 100, 20], 0),
  (11, .iload_n 3, 1, [], 0),
  (12, .aload_n 0, 1, [], 0),
  (13, .getfield 18, 3, [4, 2], 0),
  (16, .irem, 1, [], 0),
  (17, .iaload, 1, [], 0),
  (18, .goto 4, 3, [22], 0),
  (21, .iconst 0, 1, [], 0),
  (22, .istore 4, 2, [], 0),
  (24, .aload_n 1, 1, [], 0),
  (25, .iload 4, 2, [], 0),
  (27, .iload_n 3, 1, [], 0),
  (28, .bipush 10, 2, [], 10),
  (30, .irem, 1, [], 0),
  (31, .iload_n 2, 1, [], 0),
  (32, .aload_n 0, 1, [], 0),
  (33, .iload_n 2, 1, [], 0),
  (34, .invokevirtual 50, 3, [26, 1], 0),
  (37, .invokevirtual 53, 3, [48, 4], 0),
  (40, .istore 5, 2, [], 0),
  (42, .iconst 0, 1, [], 0),
  (43, .bipush 99, 2, [], 99),
  (45, .iload 5, 2, [], 0),
  (47, .invokestatic 30, 3, [3], 0),
  (50, .invokestatic 59, 3, [4], 0),
  (53, .ireturn, 1, [], 0)]
def k_Pump_yieldOn : List (List (Nat × Nat)) := [[], [(1, 186)], [], [], [(1, 185)], [], [], [(1, 186)], [], [], [], [], [], [], [], [], [], [], [], [], [], [(3, 106), (3, 13), (3, 14), (1, 7), (3, 15)], [(3, 107), (3, 108), (3, 109), (1, 4), (3, 110)], [], [], [], [], [(2, 196)], [(3, 131)], []]
def c_Rule_valueOf : List zE := [(0, .aload_n 0, 1, [], 0),
  (1, .getfield 49, 3, [6, 1], 0),
  (4, .ifCond .ne 10, 3, [14], 0),
  (7, .bipush 20, 2, [], 20),
  (9, .iload_n 1, 1, [], 0),
  (10, .iconst 2, 1, [], 2),
  (11, .imul, 1, [], 0),
  (12, .isub, 1, [], 0),
  (13, .ireturn, 1, [], 0),
  (14, .aload_n 0, 1, [], 0),
  (15, .iconst 0, 1, [], 0),
  (16, .putfield 89, 3, [6, 9], 0),
  (19, .aload_n 0, 1, [], 0),
  (20, .getfield 18, 3, [6, 3, 3, 100, 5], 0),
  (23, .iconst 0, 1, [], 0),
  (24, .iconst 0, 1, [], 0),
  (25, .iastore, 1, [], 0),
  (26, .aload_n 0, 1, [], 0),
  (27, .invokevirtual 92, 3, [49, 0], 0),
  (30, .iconst 0, 1, [], 0),
  (31, .istore 5, 2, [], 0),
  (33, .iconst 0, 1, [], 0),
  (34, .istore 6, 2, [], 0),
  (36, .iconst 0, 1, [], 0),
  (37, .istore 7, 2, [], 0),
  (39, .iload 7, 2, [], 0),
  (41, .aload_n 0, 1, [], 0),
  (42, .getfield 49, 3, [6, 1], 0),
  (45, .if_icmp .ge 166, 3, [211], 0),
  (48, .aload_n 0, 1, [], 0),
  (49, .getfield 9, 3, [6, 0, 1, 100, 40], 0),
  (52, .iload 7, 2, [], 0),
  (54, .iaload, 1, [], 0),
  (55, .istore 8, 2, [], 0),
  (57, .iload 8, 2, [], 0),
  (59, .invokestatic 61, 3, [2, 5, 1], 0),
  (62, .istore 9, 2, [], 0),
  (64, .iload 9, 2, [], 0),
  (66, .iconst (-1), 1, [], (-1)),
  (67, .if_icmp .eq 52, 3, [119], 0),
  (70, .iload 6, 2, [], 0),
  (72, .bipush 10, 2, [], 10),
  (74, .imul, 1, [], 0),
  (75, .iload 9, 2, [], 0),
  (77, .iadd, 1, [], 0),
  (78, .istore 6, 2, [], 0),
  (80, .iload 7, 2, [], 0),
  (82, .iconst 1, 1, [], 1),
  (83, .iadd, 1, [], 0),
  (84, .aload_n 0, 1, [], 0),
  (85, .getfield 49, 3, [6, 1], 0),
  (88, .if_icmp .eq 19, 3, [107], 0),
  (91, .aload_n 0, 1, [], 0),
  (92, .getfield 9, 3, [6, 0, 1, 100, 40], 0),
  (95, .iload 7, 2, [], 0),
  (97, .iconst 1, 1, [], 1),
  (98, .iadd, 1, [], 0),
  (99, .iaload, 1, [], 0),
  (100, .invokestatic 61, 3, [2, 5, 1], 0),
  (103, .iconst (-1), 1, [], (-1)),
  (104, .if_icmp .ne 73, 3, [177], 0),
  (107, .aload_n 0, 1, [], 0),
  (108, .iload 6, 2, [], 0),
  (110, .invokevirtual 95, 3, [50, 1], 0),
  (113, .iconst 0, 1, [], 0),
  (114, .istore 6, 2, [], 0),
  (116, .goto 61, 3, [177], 0),
  (119, .iload 8, 2, [], 0),
  (121, .invokestatic 76, 3, [1, 19, 1], 0),
  (124, .ifCond .eq 45, 3, [169], 0),
  (127, .aload_n 0, 1, [], 0),
  (128, .iload 8, 2, [], 0),
  (130, .bipush 104, 2, [], 104),
  (132, .if_icmp .ne 7, 3, [139], 0),
  (135, .iload_n 1, 1, [], 0),
  (136, .goto 27, 3, [163], 0),
  (139, .iload 8, 2, [], 0),
  (141, .bipush 100, 2, [], 100),
  (143, .if_icmp .ne 7, 3, [150], 0),
  (146, .iload_n 2, 1, [], 0),
  (147, .goto 16, 3, [163], 0),
  (150, .iload 8, 2, [], 0),
  (152, .bipush 110, 2, [], 110),
  (154, .if_icmp .ne 7, 3, [161], 0),
  (157, .iload_n 3, 1, [], 0),
  (158, .goto 5, 3, [163], 0),
  (161, .iload 4, 2, [], 0),
  (163, .invokevirtual 95, 3, [50, 1], 0),
  (166, .goto 11, 3, [177], 0),
  (169, .aload_n 0, 1, [], 0),
  (170, .iload 8, 2, [], 0),
  (172, .iload 5, 2, [], 0),
  (174, .invokevirtual 99, 3, [51, 2], 0),
  (177, .iload 9, 2, [], 0),
  (179, .iconst (-1), 1, [], (-1)),
  (180, .if_icmp .ne 18, 3, [198], 0),
  (183, .iload 8, 2, [], 0),
  (185, .bipush 41, 2, [], 41),
  (187, .if_icmp .eq 11, 3, [198], 0),
  (190, .iload 8, 2, [], 0),
  (192, .invokestatic 76, 3, [1, 19, 1], 0),
  (195, .ifCond .eq 7, 3, [202], 0),
  (198, .iconst 1, 1, [], 1),
  (199, .goto 4, 3, [203], 0),
  (202, .iconst 0, 1, [], 0),
  (203, .istore 5, 2, [], 0),
  (205, .iinc 7 1, 3, [], 1),
  (208, .goto (-169), 3, [39], 0),
  (211, .aload_n 0, 1, [], 0),
  (212, .invokevirtual 103, 3, [52, 0], 0),
  (215, .aload_n 0, 1, [], 0),
  (216, .invokevirtual 106, 3, [53, 0], 0),
  (219, .ireturn, 1, [], 0)]
def k_Rule_valueOf : List (List (Nat × Nat)) := [[], [(1, 75)], [], [], [], [], [], [], [], [], [], [(1, 83)], [], [(1, 77)], [], [], [], [], [(3, 111), (3, 113), (0, 4), (1, 4), (3, 114)], [], [], [], [], [], [], [], [], [(1, 75)], [], [], [(1, 74)], [], [], [], [], [(2, 161), (1, 1), (2, 162), (2, 213)], [], [], [], [], [], [], [], [], [], [], [], [], [], [], [(1, 75)], [], [], [(1, 74)], [], [], [], [], [(2, 161), (1, 1), (2, 162), (2, 213)], [], [], [], [], [(3, 115), (3, 117), (0, 5), (1, 4), (3, 118)], [], [], [], [], [(2, 220), (2, 221), (1, 4), (2, 222)], [], [], [], [], [], [], [], [], [], [], [], [], [], [], [], [], [], [], [(3, 115), (3, 117), (0, 5), (1, 4), (3, 118)], [], [], [], [], [(3, 119), (3, 121), (0, 6), (1, 4), (3, 122)], [], [], [], [], [], [], [], [(2, 220), (2, 221), (1, 4), (2, 222)], [], [], [], [], [], [], [], [], [(3, 123), (3, 125), (0, 7), (1, 4), (3, 126)], [], [(3, 127), (3, 129), (0, 8), (1, 4), (3, 130)], []]
def c_Rule_openSum : List zE := [(0, .aload_n 0, 1, [], 0),
  (1, .getfield 21, 3, [6, 4, 4, 100, 5], 0),
  (4, .aload_n 0, 1, [], 0),
  (5, .getfield 89, 3, [6, 9], 0),
  (8, .iconst 0, 1, [], 0),
  (9, .iastore, 1, [], 0),
  (10, .aload_n 0, 1, [], 0),
  (11, .getfield 24, 3, [6, 5, 5, 100, 5], 0),
  (14, .aload_n 0, 1, [], 0),
  (15, .getfield 89, 3, [6, 9], 0),
  (18, .bipush 43, 2, [], 43),
  (20, .iastore, 1, [], 0),
  (21, .aload_n 0, 1, [], 0),
  (22, .getfield 30, 3, [6, 7, 7, 100, 5], 0),
  (25, .aload_n 0, 1, [], 0),
  (26, .getfield 89, 3, [6, 9], 0),
  (29, .iconst 0, 1, [], 0),
  (30, .iastore, 1, [], 0),
  (31, .aload_n 0, 1, [], 0),
  (32, .getfield 33, 3, [6, 8, 8, 102, 5], 0),
  (35, .aload_n 0, 1, [], 0),
  (36, .getfield 89, 3, [6, 9], 0),
  (39, .iconst 0, 1, [], 0),
  (40, .bastore, 1, [], 0),
  (41, .return_, 1, [], 0)]
def k_Rule_openSum : List (List (Nat × Nat)) := [[], [(1, 78)], [], [(1, 83)], [], [], [], [(1, 79)], [], [(1, 83)], [], [], [], [(1, 81)], [], [(1, 83)], [], [], [], [(1, 82)], [], [(1, 83)], [], [], []]
def c_Rule_takeThing : List zE := [(0, .aload_n 0, 1, [], 0),
  (1, .getfield 33, 3, [6, 8, 8, 102, 5], 0),
  (4, .aload_n 0, 1, [], 0),
  (5, .getfield 89, 3, [6, 9], 0),
  (8, .baload, 1, [], 0),
  (9, .ifCond .eq 8, 3, [17], 0),
  (12, .iload_n 1, 1, [], 0),
  (13, .ineg, 1, [], 0),
  (14, .goto 4, 3, [18], 0),
  (17, .iload_n 1, 1, [], 0),
  (18, .istore_n 2, 1, [], 0),
  (19, .aload_n 0, 1, [], 0),
  (20, .getfield 33, 3, [6, 8, 8, 102, 5], 0),
  (23, .aload_n 0, 1, [], 0),
  (24, .getfield 89, 3, [6, 9], 0),
  (27, .iconst 0, 1, [], 0),
  (28, .bastore, 1, [], 0),
  (29, .aload_n 0, 1, [], 0),
  (30, .getfield 30, 3, [6, 7, 7, 100, 5], 0),
  (33, .aload_n 0, 1, [], 0),
  (34, .getfield 89, 3, [6, 9], 0),
  (37, .iaload, 1, [], 0),
  (38, .bipush 42, 2, [], 42),
  (40, .if_icmp .ne 19, 3, [59], 0),
  (43, .aload_n 0, 1, [], 0),
  (44, .getfield 27, 3, [6, 6, 6, 100, 5], 0),
  (47, .aload_n 0, 1, [], 0),
  (48, .getfield 89, 3, [6, 9], 0),
  (51, .dup2, 1, [], 0),
  (52, .iaload, 1, [], 0),
  (53, .iload_n 2, 1, [], 0),
  (54, .imul, 1, [], 0),
  (55, .iastore, 1, [], 0),
  (56, .goto 58, 3, [114], 0),
  (59, .aload_n 0, 1, [], 0),
  (60, .getfield 30, 3, [6, 7, 7, 100, 5], 0),
  (63, .aload_n 0, 1, [], 0),
  (64, .getfield 89, 3, [6, 9], 0),
  (67, .iaload, 1, [], 0),
  (68, .bipush 47, 2, [], 47),
  (70, .if_icmp .ne 34, 3, [104], 0),
  (73, .aload_n 0, 1, [], 0),
  (74, .getfield 27, 3, [6, 6, 6, 100, 5], 0),
  (77, .aload_n 0, 1, [], 0),
  (78, .getfield 89, 3, [6, 9], 0),
  (81, .iload_n 2, 1, [], 0),
  (82, .ifCond .ne 7, 3, [89], 0),
  (85, .iconst 0, 1, [], 0),
  (86, .goto 14, 3, [100], 0),
  (89, .aload_n 0, 1, [], 0),
  (90, .getfield 27, 3, [6, 6, 6, 100, 5], 0),
  (93, .aload_n 0, 1, [], 0),
  (94, .getfield 89, 3, [6, 9], 0),
  (97, .iaload, 1, [], 0),
  (98, .iload_n 2, 1, [], 0),
  (99, .idiv, 1, [], 0),
  (100, .iastore, 1, [], 0),
  (101, .goto 13, 3, [114], 0),
  (104, .aload_n 0, 1, [], 0),
  (105, .getfield 27, 3, [6, 6, 6, 100, 5], 0),
  (108, .aload_n 0, 1, [], 0),
  (109, .getfield 89, 3, [6, 9], 0),
  (112, .iload_n 2, 1, [], 0),
  (113, .iastore, 1, [], 0),
  (114, .return_, 1, [], 0)]
def k_Rule_takeThing : List (List (Nat × Nat)) := [[], [(1, 82)], [], [(1, 83)], [], [], [], [], [], [], [], [], [(1, 82)], [], [(1, 83)], [], [], [], [(1, 81)], [], [(1, 83)], [], [], [], [], [(1, 80)], [], [(1, 83)], [], [], [], [], [], [], [], [(1, 81)], [], [(1, 83)], [], [], [], [], [(1, 80)], [], [(1, 83)], [], [], [], [], [], [(1, 80)], [], [(1, 83)], [], [], [], [], [], [], [(1, 80)], [], [(1, 83)], [], [], []]
def c_Rule_takeSign : List zE := [(0, .iload_n 1, 1, [], 0),
  (1, .bipush 40, 2, [], 40),
  (3, .if_icmp .ne 38, 3, [41], 0),
  (6, .aload_n 0, 1, [], 0),
  (7, .getfield 89, 3, [6, 9], 0),
  (10, .iconst 4, 1, [], 4),
  (11, .if_icmp .ge 183, 3, [194], 0),
  (14, .aload_n 0, 1, [], 0),
  (15, .dup, 1, [], 0),
  (16, .getfield 89, 3, [6, 9], 0),
  (19, .iconst 1, 1, [], 1),
  (20, .iadd, 1, [], 0),
  (21, .putfield 89, 3, [6, 9], 0),
  (24, .aload_n 0, 1, [], 0),
  (25, .getfield 18, 3, [6, 3, 3, 100, 5], 0),
  (28, .aload_n 0, 1, [], 0),
  (29, .getfield 89, 3, [6, 9], 0),
  (32, .iconst 0, 1, [], 0),
  (33, .iastore, 1, [], 0),
  (34, .aload_n 0, 1, [], 0),
  (35, .invokevirtual 92, 3, [49, 0], 0),
  (38, .goto 156, 3, [194], 0),
  (41, .iload_n 1, 1, [], 0),
  (42, .bipush 41, 2, [], 41),
  (44, .if_icmp .ne 37, 3, [81], 0),
  (47, .aload_n 0, 1, [], 0),
  (48, .invokevirtual 103, 3, [52, 0], 0),
  (51, .aload_n 0, 1, [], 0),
  (52, .invokevirtual 106, 3, [53, 0], 0),
  (55, .istore_n 3, 1, [], 0),
  (56, .aload_n 0, 1, [], 0),
  (57, .getfield 89, 3, [6, 9], 0),
  (60, .ifCond .le 13, 3, [73], 0),
  (63, .aload_n 0, 1, [], 0),
  (64, .dup, 1, [], 0),
  (65, .getfield 89, 3, [6, 9], 0),
  (68, .iconst 1, 1, [], 1),
  (69, .isub, 1, [], 0),
  (70, .putfield 89, 3, [6, 9], 0),
  (73, .aload_n 0, 1, [], 0),
  (74, .iload_n 3, 1, [], 0),
  (75, .invokevirtual 95, 3, [50, 1], 0),
  (78, .goto 116, 3, [194], 0),
  (81, .iload_n 2, 1, [], 0),
  (82, .ifCond .ne 32, 3, [114], 0),
  (85, .aload_n 0, 1, [], 0),
  (86, .getfield 33, 3, [6, 8, 8, 102, 5], 0),
  (89, .aload_n 0, 1, [], 0),
  (90, .getfield 89, 3, [6, 9], 0),
  (93, .aload_n 0, 1, [], 0),
  (94, .getfield 33, 3, [6, 8, 8, 102, 5], 0),
  (97, .aload_n 0, 1, [], 0),
  (98, .getfield 89, 3, [6, 9], 0),
  (101, .baload, 1, [], 0),
  (102, .ifCond .ne 7, 3, [109], 0),
  (105, .iconst 1, 1, [], 1),
  (106, .goto 4, 3, [110], 0),
  (109, .iconst 0, 1, [], 0),
  (110, .bastore, 1, [], 0),
  (111, .goto 83, 3, [194], 0),
  (114, .iload_n 1, 1, [], 0),
  (115, .invokestatic 86, 3, [1, 21, 1], 0),
  (118, .ifCond .eq 16, 3, [134], 0),
  (121, .aload_n 0, 1, [], 0),
  (122, .getfield 30, 3, [6, 7, 7, 100, 5], 0),
  (125, .aload_n 0, 1, [], 0),
  (126, .getfield 89, 3, [6, 9], 0),
  (129, .iload_n 1, 1, [], 0),
  (130, .iastore, 1, [], 0),
  (131, .goto 63, 3, [194], 0),
  (134, .iload_n 1, 1, [], 0),
  (135, .invokestatic 83, 3, [1, 20, 1], 0),
  (138, .ifCond .eq 20, 3, [158], 0),
  (141, .aload_n 0, 1, [], 0),
  (142, .invokevirtual 103, 3, [52, 0], 0),
  (145, .aload_n 0, 1, [], 0),
  (146, .getfield 24, 3, [6, 5, 5, 100, 5], 0),
  (149, .aload_n 0, 1, [], 0),
  (150, .getfield 89, 3, [6, 9], 0),
  (153, .iload_n 1, 1, [], 0),
  (154, .iastore, 1, [], 0),
  (155, .goto 39, 3, [194], 0),
  (158, .aload_n 0, 1, [], 0),
  (159, .invokevirtual 103, 3, [52, 0], 0),
  (162, .aload_n 0, 1, [], 0),
  (163, .getfield 15, 3, [6, 2, 2, 100, 5], 0),
  (166, .aload_n 0, 1, [], 0),
  (167, .getfield 89, 3, [6, 9], 0),
  (170, .aload_n 0, 1, [], 0),
  (171, .getfield 21, 3, [6, 4, 4, 100, 5], 0),
  (174, .aload_n 0, 1, [], 0),
  (175, .getfield 89, 3, [6, 9], 0),
  (178, .iaload, 1, [], 0),
  (179, .iastore, 1, [], 0),
  (180, .aload_n 0, 1, [], 0),
  (181, .getfield 18, 3, [6, 3, 3, 100, 5], 0),
  (184, .aload_n 0, 1, [], 0),
  (185, .getfield 89, 3, [6, 9], 0),
  (188, .iload_n 1, 1, [], 0),
  (189, .iastore, 1, [], 0),
  (190, .aload_n 0, 1, [], 0),
  (191, .invokevirtual 92, 3, [49, 0], 0),
  (194, .return_, 1, [], 0)]
def k_Rule_takeSign : List (List (Nat × Nat)) := [[], [], [], [], [(1, 83)], [], [], [], [], [(1, 83)], [], [], [(1, 83)], [], [(1, 77)], [], [(1, 83)], [], [], [], [(3, 111), (3, 113), (0, 4), (1, 4), (3, 114)], [], [], [], [], [], [(3, 123), (3, 125), (0, 7), (1, 4), (3, 126)], [], [(3, 127), (3, 129), (0, 8), (1, 4), (3, 130)], [], [], [(1, 83)], [], [], [], [(1, 83)], [], [], [(1, 83)], [], [], [(3, 115), (3, 117), (0, 5), (1, 4), (3, 118)], [], [], [], [], [(1, 82)], [], [(1, 83)], [], [(1, 82)], [], [(1, 83)], [], [], [], [], [], [], [], [], [(2, 226), (2, 227), (1, 4), (2, 228)], [], [], [(1, 81)], [], [(1, 83)], [], [], [], [], [(2, 223), (2, 224), (1, 4), (2, 225)], [], [], [(3, 123), (3, 125), (0, 7), (1, 4), (3, 126)], [], [(1, 79)], [], [(1, 83)], [], [], [], [], [(3, 123), (3, 125), (0, 7), (1, 4), (3, 126)], [], [(1, 76)], [], [(1, 83)], [], [(1, 78)], [], [(1, 83)], [], [], [], [(1, 77)], [], [(1, 83)], [], [], [], [(3, 111), (3, 113), (0, 4), (1, 4), (3, 114)], []]
def c_Rule_closeProduct : List zE := [(0, .aload_n 0, 1, [], 0),
  (1, .getfield 21, 3, [6, 4, 4, 100, 5], 0),
  (4, .aload_n 0, 1, [], 0),
  (5, .getfield 89, 3, [6, 9], 0),
  (8, .dup2, 1, [], 0),
  (9, .iaload, 1, [], 0),
  (10, .aload_n 0, 1, [], 0),
  (11, .getfield 24, 3, [6, 5, 5, 100, 5], 0),
  (14, .aload_n 0, 1, [], 0),
  (15, .getfield 89, 3, [6, 9], 0),
  (18, .iaload, 1, [], 0),
  (19, .bipush 43, 2, [], 43),
  (21, .if_icmp .ne 15, 3, [36], 0),
  (24, .aload_n 0, 1, [], 0),
  (25, .getfield 27, 3, [6, 6, 6, 100, 5], 0),
  (28, .aload_n 0, 1, [], 0),
  (29, .getfield 89, 3, [6, 9], 0),
  (32, .iaload, 1, [], 0),
  (33, .goto 13, 3, [46], 0),
  (36, .aload_n 0, 1, [], 0),
  (37, .getfield 27, 3, [6, 6, 6, 100, 5], 0),
  (40, .aload_n 0, 1, [], 0),
  (41, .getfield 89, 3, [6, 9], 0),
  (44, .iaload, 1, [], 0),
  (45, .ineg, 1, [], 0),
  (46, .iadd, 1, [], 0),
  (47, .iastore, 1, [], 0),
  (48, .aload_n 0, 1, [], 0),
  (49, .getfield 30, 3, [6, 7, 7, 100, 5], 0),
  (52, .aload_n 0, 1, [], 0),
  (53, .getfield 89, 3, [6, 9], 0),
  (56, .iconst 0, 1, [], 0),
  (57, .iastore, 1, [], 0),
  (58, .return_, 1, [], 0)]
def k_Rule_closeProduct : List (List (Nat × Nat)) := [[], [(1, 78)], [], [(1, 83)], [], [], [], [(1, 79)], [], [(1, 83)], [], [], [], [], [(1, 80)], [], [(1, 83)], [], [], [], [(1, 80)], [], [(1, 83)], [], [], [], [], [], [(1, 81)], [], [(1, 83)], [], [], []]
def c_Rule_comparedValue : List zE := [(0, .aload_n 0, 1, [], 0),
  (1, .getfield 18, 3, [6, 3, 3, 100, 5], 0),
  (4, .aload_n 0, 1, [], 0),
  (5, .getfield 89, 3, [6, 9], 0),
  (8, .iaload, 1, [], 0),
  (9, .tableswitch 108 60 62 #[27, 81, 54], 27, [117, 36, 90, 63], 60),
  (36, .aload_n 0, 1, [], 0),
  (37, .getfield 15, 3, [6, 2, 2, 100, 5], 0),
  (40, .aload_n 0, 1, [], 0),
  (41, .getfield 89, 3, [6, 9], 0),
  (44, .iaload, 1, [], 0),
  (45, .aload_n 0, 1, [], 0),
  (46, .getfield 21, 3, [6, 4, 4, 100, 5], 0),
  (49, .aload_n 0, 1, [], 0),
  (50, .getfield 89, 3, [6, 9], 0),
  (53, .iaload, 1, [], 0),
  (54, .if_icmp .ge 7, 3, [61], 0),
  (57, .iconst 1, 1, [], 1),
  (58, .goto 4, 3, [62], 0),
  (61, .iconst 0, 1, [], 0),
  (62, .ireturn, 1, [], 0),
  (63, .aload_n 0, 1, [], 0),
  (64, .getfield 15, 3, [6, 2, 2, 100, 5], 0),
  (67, .aload_n 0, 1, [], 0),
  (68, .getfield 89, 3, [6, 9], 0),
  (71, .iaload, 1, [], 0),
  (72, .aload_n 0, 1, [], 0),
  (73, .getfield 21, 3, [6, 4, 4, 100, 5], 0),
  (76, .aload_n 0, 1, [], 0),
  (77, .getfield 89, 3, [6, 9], 0),
  (80, .iaload, 1, [], 0),
  (81, .if_icmp .le 7, 3, [88], 0),
  (84, .iconst 1, 1, [], 1),
  (85, .goto 4, 3, [89], 0),
  (88, .iconst 0, 1, [], 0),
  (89, .ireturn, 1, [], 0),
  (90, .aload_n 0, 1, [], 0),
  (91, .getfield 15, 3, [6, 2, 2, 100, 5], 0),
  (94, .aload_n 0, 1, [], 0),
  (95, .getfield 89, 3, [6, 9], 0),
  (98, .iaload, 1, [], 0),
  (99, .aload_n 0, 1, [], 0),
  (100, .getfield 21, 3, [6, 4, 4, 100, 5], 0),
  (103, .aload_n 0, 1, [], 0),
  (104, .getfield 89, 3, [6, 9], 0),
  (107, .iaload, 1, [], 0),
  (108, .if_icmp .ne 7, 3, [115], 0),
  (111, .iconst 1, 1, [], 1),
  (112, .goto 4, 3, [116], 0),
  (115, .iconst 0, 1, [], 0),
  (116, .ireturn, 1, [], 0),
  (117, .aload_n 0, 1, [], 0),
  (118, .getfield 21, 3, [6, 4, 4, 100, 5], 0),
  (121, .aload_n 0, 1, [], 0),
  (122, .getfield 89, 3, [6, 9], 0),
  (125, .iaload, 1, [], 0),
  (126, .ireturn, 1, [], 0)]
def k_Rule_comparedValue : List (List (Nat × Nat)) := [[], [(1, 77)], [], [(1, 83)], [], [], [], [(1, 76)], [], [(1, 83)], [], [], [(1, 78)], [], [(1, 83)], [], [], [], [], [], [], [], [(1, 76)], [], [(1, 83)], [], [], [(1, 78)], [], [(1, 83)], [], [], [], [], [], [], [], [(1, 76)], [], [(1, 83)], [], [], [(1, 78)], [], [(1, 83)], [], [], [], [], [], [], [], [(1, 78)], [], [(1, 83)], [], []]
def c_Pump_pour : List zE := [(0, .aload_n 0, 1, [], 0),
  (1, .iload_n 2, 1, [], 0),
  (2, .putfield 62, 3, [4, 4], 0),
  (5, .aload_n 0, 1, [], 0),
  (6, .iconst 0, 1, [], 0),
  (7, .putfield 65, 3, [4, 5], 0),
  (10, .iconst 0, 1, [], 0),
  (11, .istore_n 3, 1, [], 0),
  (12, .iload_n 3, 1, [], 0),
  (13, .aload_n 1, 1, [], 0),
  (14, .getfield 68, 3, [0, 4], 0),
  (17, .if_icmp .ge 84, 3, [101], 0),
  (20, .aload_n 1, 1, [], 0),
  (21, .getfield 73, 3, [0, 0, 1, 100, 8], 0),
  (24, .iload_n 3, 1, [], 0),
  (25, .iaload, 1, [], 0),
  (26, .istore 4, 2, [], 0),
  (28, .aload_n 0, 1, [], 0),
  (29, .getfield 22, 3, [4, 3, 3, 100, 8], 0),
  (32, .iload 4, 2, [], 0),
  (34, .aload_n 0, 1, [], 0),
  (35, .getfield 9, 3, [4, 0, 1, 100, 8], 0),
  (38, .iload 4, 2, [], 0),
  (40, .iaload, 1, [], 0),
  (41, .aload_n 0, 1, [], 0),
  (42, .getfield 62, 3, [4, 4], 0),
  (45, .invokestatic 30, 3, [3], 0),
  (48, .iastore, 1, [], 0),
  (49, .aload_n 0, 1, [], 0),
  (50, .dup, 1, [], 0),
  (51, .getfield 62, 3, [4, 4], 0),
  (54, .aload_n 0, 1, [], 0),
  (55, .getfield 22, 3, [4, 3, 3, 100, 8], 0),
  (58, .iload 4, 2, [], 0),
  (60, .iaload, 1, [], 0),
  (61, .isub, 1, [], 0),
  (62, .putfield 62, 3, [4, 4], 0),
  (65, .aload_n 0, 1, [], 0),
  (66, .getfield 22, 3, [4, 3, 3, 100, 8], 0),
  (69, .iload 4, 2, [], 0),
  (71, .iaload, 1, [], 0),
  (72, .aload_n 0, 1, [], 0),
  (73, .getfield 9, 3, [4, 0, 1, 100, 8], 0),
  (76, .iload 4, 2, [], 0),
  (78, .iaload, 1, [], 0),
  (79, .if_icmp .ge 16, 3, [95], 0),
  (82, .aload_n 0, 1, [], 0),
  (83, .dup, 1, [], 0),
  (84, .getfield 65, 3, [4, 5], 0),
  (87, .iconst 1, 1, [], 1),
  (88, .iload 4, 2, [], 0),
  (90, .ishl, 1, [], 0),
  (91, .ior, 1, [], 0),
  (92, .putfield 65, 3, [4, 5], 0),
  (95, .iinc 3 1, 3, [], 1),
  (98, .goto (-86), 3, [12], 0),
  (101, .aload_n 0, 1, [], 0),
  (102, .getfield 65, 3, [4, 5], 0),
  (105, .invokestatic 76, 3, [1, 255, 1], 0),
  (108, .ireturn, 1, [], 0)]
def k_Pump_pour : List (List (Nat × Nat)) := [[], [], [(1, 190)], [], [], [(1, 192)], [], [], [], [], [(1, 165)], [], [], [(1, 155)], [], [], [], [], [(1, 188)], [], [], [(1, 183)], [], [], [], [(1, 190)], [(2, 196)], [], [], [], [(1, 190)], [], [(1, 188)], [], [], [], [(1, 190)], [], [(1, 188)], [], [], [], [(1, 183)], [], [], [], [], [], [(1, 192)], [], [], [], [], [(1, 192)], [], [], [], [(1, 192)], [(3, 136), (3, 137), (1, 23), (3, 138)], []]
def c_Row_tellTwo : List zE := [(0, .aload_n 0, 1, [], 0),
  (1, .lload_n 1, 1, [], 0),
  (2, .invokevirtual 23, 3, [56, 1], 0),
  (5, .aload_n 0, 1, [], 0),
  (6, .lload_n 3, 1, [], 0),
  (7, .invokevirtual 19, 3, [57, 1], 0),
  (10, .return_, 1, [], 0)]
def k_Row_tellTwo : List (List (Nat × Nat)) := [[], [], [(3, 146), (3, 147), (3, 148), (1, 3), (3, 149)], [], [], [(3, 150), (3, 151), (3, 152), (1, 3), (3, 153)], []]
def c_Row_tellOne : List zE := [(0, .aload_n 0, 1, [], 0),
  (1, .iconst 0, 1, [], 0),
  (2, .putfield 15, 3, [5, 1], 0),
  (5, .aload_n 0, 1, [], 0),
  (6, .lload_n 1, 1, [], 0),
  (7, .invokevirtual 19, 3, [57, 1], 0),
  (10, .return_, 1, [], 0)]
def k_Row_tellOne : List (List (Nat × Nat)) := [[], [], [(1, 59)], [], [], [(3, 150), (3, 151), (3, 152), (1, 3), (3, 153)], []]
def c_Row_add : List zE := [(0, .aload_n 0, 1, [], 0),
  (1, .getfield 15, 3, [5, 1], 0),
  (4, .bipush 8, 2, [], 8),
  (6, .if_icmp .ge 23, 3, [29], 0),
  (9, .aload_n 0, 1, [], 0),
  (10, .getfield 9, 3, [5, 0, 1, 101, 8], 0),
  (13, .aload_n 0, 1, [], 0),
  (14, .getfield 15, 3, [5, 1], 0),
  (17, .lload_n 1, 1, [], 0),
  (18, .lastore, 1, [], 0),
  (19, .aload_n 0, 1, [], 0),
  (20, .dup, 1, [], 0),
  (21, .getfield 15, 3, [5, 1], 0),
  (24, .iconst 1, 1, [], 1),
  (25, .iadd, 1, [], 0),
  (26, .putfield 15, 3, [5, 1], 0),
  (29, .return_, 1, [], 0)]
def k_Row_add : List (List (Nat × Nat)) := [[], [(1, 59)], [], [], [], [(1, 57)], [], [(1, 59)], [], [], [], [], [(1, 59)], [], [], [(1, 59)], []]
def c_W_year : List zE := [(0, .aload_n 0, 1, [], 0),
  (1, .getfield 12, 3, [10, 0, 1, 7, 0], 0),
  (4, .invokevirtual 247, 3, [59, 0], 0),
  (7, .istore_n 1, 1, [], 0),
  (8, .iload_n 1, 1, [], 0),
  (9, .iconst (-1), 1, [], (-1)),
  (10, .if_icmp .eq 15, 3, [25], 0),
  (13, .aload_n 0, 1, [], 0),
  (14, .getfield 12, 3, [10, 0, 1, 7, 0], 0),
  (17, .iconst 0, 1, [], 0),
  (18, .putfield 106, 3, [7, 1], 0),
  (21, .iconst (-1), 1, [], (-1)),
  (22, .iload_n 1, 1, [], 0),
  (23, .isub, 1, [], 0),
  (24, .ireturn, 1, [], 0),
  (25, .aload_n 0, 1, [], 0),
  (26, .getfield 40, 3, [10, 5, 29, 9, 0], 0),
  (29, .aload_n 0, 1, [], 0),
  (30, .getfield 36, 3, [10, 4, 23, 9, 0], 0),
  (33, .invokevirtual 250, 3, [31, 1], 0),
  (36, .iconst 0, 1, [], 0),
  (37, .istore_n 2, 1, [], 0),
  (38, .iconst 0, 1, [], 0),
  (39, .istore_n 3, 1, [], 0),
  (40, .iconst 0, 1, [], 0),
  (41, .istore 4, 2, [], 0),
  (43, .iload 4, 2, [], 0),
  (45, .aload_n 0, 1, [], 0),
  (46, .getfield 12, 3, [10, 0, 1, 7, 0], 0),
  (49, .getfield 106, 3, [7, 1], 0),
  (52, .if_icmp .ge 58, 3, [110], 0),
  (55, .iload_n 3, 1, [], 0),
  (56, .ifCond .ne 54, 3, [110], 0),
  (59, .aload_n 0, 1, [], 0),
  (60, .iload 4, 2, [], 0),
  (62, .invokevirtual 253, 3, [61, 1], 0),
  (65, .ifCond .ne 7, 3, [72], 0),
  (68, .iconst 1, 1, [], 1),
  (69, .goto 4, 3, [73], 0),
  (72, .iconst 0, 1, [], 0),
  (73, .istore_n 3, 1, [], 0),
  (74, .iload_n 2, 1, [], 0),
  (75, .iload_n 3, 1, [], 0),
  (76, .ifCond .eq 7, 3, [83], 0),
  (79, .iconst 0, 1, [], 0),
  (80, .goto 4, 3, [84], 0),
  (83, .iconst 1, 1, [], 1),
  (84, .iadd, 1, [], 0),
  (85, .istore_n 2, 1, [], 0),
  (86, .iload 4, 2, [], 0),
  (88, .iconst 1, 1, [], 1),
  (89, .aload_n 0, 1, [], 0),
  (90, .getfield 12, 3, [10, 0, 1, 7, 0], 0),
  (93, .iload 4, 2, [], 0),
  (95, .invokevirtual 126, 3, [9, 1], 0),
  (98, .invokestatic 256, 3, [1, 60, 1], 0),
  (101, .invokestatic 203, 3, [4], 0),
  (104, .iadd, 1, [], 0),
  (105, .istore 4, 2, [], 0),
  (107, .goto (-64), 3, [43], 0),
  (110, .aload_n 0, 1, [], 0),
  (111, .getfield 12, 3, [10, 0, 1, 7, 0], 0),
  (114, .iconst 0, 1, [], 0),
  (115, .putfield 106, 3, [7, 1], 0),
  (118, .iload_n 2, 1, [], 0),
  (119, .ifCond .le 14, 3, [133], 0),
  (122, .aload_n 0, 1, [], 0),
  (123, .getfield 63, 3, [10, 9, 49, 3, 0], 0),
  (126, .aload_n 0, 1, [], 0),
  (127, .getfield 40, 3, [10, 5, 29, 9, 0], 0),
  (130, .invokevirtual 212, 3, [30, 1], 0),
  (133, .aload_n 0, 1, [], 0),
  (134, .getfield 19, 3, [10, 1, 3, 5, 0], 0),
  (137, .iload_n 3, 1, [], 0),
  (138, .ifCond .eq 7, 3, [145], 0),
  (141, .lconst 1, 1, [], 1),
  (142, .goto 4, 3, [146], 0),
  (145, .lconst 0, 1, [], 0),
  (146, .aload_n 0, 1, [], 0),
  (147, .getfield 36, 3, [10, 4, 23, 9, 0], 0),
  (150, .invokevirtual 259, 3, [65, 0], 0),
  (153, .i2l, 1, [], 0),
  (154, .invokevirtual 243, 3, [55, 2], 0),
  (157, .iload_n 2, 1, [], 0),
  (158, .ireturn, 1, [], 0)]
def k_W_year : List (List (Nat × Nat)) := [[], [(2, 79)], [(3, 158), (3, 159), (3, 160), (1, 2), (3, 161)], [], [], [], [], [], [(2, 79)], [], [(1, 44)], [], [], [], [], [], [(2, 84)], [], [(2, 83)], [(3, 165), (3, 35), (3, 36), (1, 5), (3, 37)], [], [], [], [], [], [], [], [], [(2, 79)], [(1, 44)], [], [], [], [], [], [(3, 166), (3, 168), (0, 9), (1, 1), (3, 169)], [], [], [], [], [], [], [], [], [], [], [], [], [], [], [], [], [(2, 79)], [], [(2, 174), (2, 175), (2, 176), (1, 2), (2, 177)], [(3, 182), (3, 163), (1, 2), (3, 164)], [(3, 9)], [], [], [], [], [(2, 79)], [], [(1, 44)], [], [], [], [(2, 88)], [], [(2, 84)], [(3, 30), (3, 31), (3, 32), (1, 8), (3, 33)], [], [(2, 80)], [], [], [], [], [], [], [(2, 83)], [(3, 183), (3, 184), (3, 185), (1, 5), (3, 186)], [], [(3, 142), (3, 143), (3, 144), (1, 3), (3, 145)], [], []]
def c_Text_faultInYear : List zE := [(0, .iconst 0, 1, [], 0),
  (1, .istore_n 1, 1, [], 0),
  (2, .iconst 0, 1, [], 0),
  (3, .istore_n 2, 1, [], 0),
  (4, .iload_n 2, 1, [], 0),
  (5, .aload_n 0, 1, [], 0),
  (6, .getfield 15, 3, [7, 1], 0),
  (9, .if_icmp .ge 66, 3, [75], 0),
  (12, .iload_n 2, 1, [], 0),
  (13, .bipush 60, 2, [], 60),
  (15, .if_icmp .ge 60, 3, [75], 0),
  (18, .iload_n 1, 1, [], 0),
  (19, .ifCond .le 24, 3, [43], 0),
  (22, .aload_n 0, 1, [], 0),
  (23, .getfield 9, 3, [7, 0, 1, 100, 80], 0),
  (26, .iload_n 2, 1, [], 0),
  (27, .iaload, 1, [], 0),
  (28, .invokestatic 19, 3, [2, 5, 1], 0),
  (31, .iconst (-1), 1, [], (-1)),
  (32, .if_icmp .ne 5, 3, [37], 0),
  (35, .iload_n 2, 1, [], 0),
  (36, .ireturn, 1, [], 0),
  (37, .iinc 1 (-1), 3, [], (-1)),
  (40, .goto 29, 3, [69], 0),
  (43, .aload_n 0, 1, [], 0),
  (44, .getfield 9, 3, [7, 0, 1, 100, 80], 0),
  (47, .iload_n 2, 1, [], 0),
  (48, .iaload, 1, [], 0),
  (49, .invokestatic 34, 3, [1, 60, 1], 0),
  (52, .ifCond .ne 5, 3, [57], 0),
  (55, .iload_n 2, 1, [], 0),
  (56, .ireturn, 1, [], 0),
  (57, .aload_n 0, 1, [], 0),
  (58, .getfield 9, 3, [7, 0, 1, 100, 80], 0),
  (61, .iload_n 2, 1, [], 0),
  (62, .iaload, 1, [], 0),
  (63, .invokestatic 34, 3, [1, 60, 1], 0),
  (66, .iconst 1, 1, [], 1),
  (67, .isub, 1, [], 0),
  (68, .istore_n 1, 1, [], 0),
  (69, .iinc 2 1, 3, [], 1),
  (72, .goto (-68), 3, [4], 0),
  (75, .aload_n 0, 1, [], 0),
  (76, .bipush 60, 2, [], 60),
  (78, .iload_n 1, 1, [], 0),
  (79, .ifCond .ne 7, 3, [86], 0),
  (82, .iconst 1, 1, [], 1),
  (83, .goto 4, 3, [87], 0),
  (86, .iconst 0, 1, [], 0),
  (87, .invokevirtual 26, 3, [7, 2], 0),
  (90, .ireturn, 1, [], 0)]
def k_Text_faultInYear : List (List (Nat × Nat)) := [[], [], [], [], [], [], [(1, 43)], [], [], [], [], [], [], [], [(1, 39)], [], [], [(2, 161), (1, 1), (2, 162), (2, 160)], [], [], [], [], [], [], [], [(1, 39)], [], [], [(3, 162), (3, 163), (1, 2), (3, 164)], [], [], [], [], [(1, 39)], [], [], [(3, 162), (3, 163), (1, 2), (3, 164)], [], [], [], [], [], [], [], [], [], [], [], [], [(2, 166), (2, 167), (2, 168), (1, 2), (2, 169)], []]
def c_Text_signsOfAct : List zE := [(0, .iload_n 0, 1, [], 0),
  (1, .lookupswitch 49 #[(100, 43), (109, 45), (114, 47), (115, 47)], 43, [50, 100, 44, 109, 46, 114, 48, 115, 48], 0),
  (44, .iconst 2, 1, [], 2),
  (45, .ireturn, 1, [], 0),
  (46, .iconst 3, 1, [], 3),
  (47, .ireturn, 1, [], 0),
  (48, .iconst 1, 1, [], 1),
  (49, .ireturn, 1, [], 0),
  (50, .iconst 0, 1, [], 0),
  (51, .ireturn, 1, [], 0)]
def k_Text_signsOfAct : List (List (Nat × Nat)) := [[], [], [], [], [], [], [], [], [], []]
def c_W_act : List zE := [(0, .aload_n 0, 1, [], 0),
  (1, .getfield 12, 3, [10, 0, 1, 7, 0], 0),
  (4, .iload_n 1, 1, [], 0),
  (5, .invokevirtual 126, 3, [9, 1], 0),
  (8, .lookupswitch 111 #[(100, 36), (109, 71), (114, 102)], 36, [119, 100, 44, 109, 79, 114, 110], 0),
  (44, .aload_n 0, 1, [], 0),
  (45, .getfield 56, 3, [10, 8, 45, 4, 0], 0),
  (48, .aload_n 0, 1, [], 0),
  (49, .getfield 36, 3, [10, 4, 23, 9, 0], 0),
  (52, .aload_n 0, 1, [], 0),
  (53, .getfield 46, 3, [10, 6, 35, 0, 0], 0),
  (56, .aload_n 0, 1, [], 0),
  (57, .getfield 26, 3, [10, 2, 5, 6, 0], 0),
  (60, .aload_n 0, 1, [], 0),
  (61, .getfield 12, 3, [10, 0, 1, 7, 0], 0),
  (64, .iload_n 1, 1, [], 0),
  (65, .iconst 1, 1, [], 1),
  (66, .iadd, 1, [], 0),
  (67, .invokevirtual 126, 3, [9, 1], 0),
  (70, .invokestatic 132, 3, [1, 5, 1], 0),
  (73, .invokevirtual 233, 3, [46, 4], 0),
  (76, .pop, 1, [], 0),
  (77, .iconst 1, 1, [], 1),
  (78, .ireturn, 1, [], 1),
  (79, .aload_n 0, 1, [], 0),
  (80, .aload_n 0, 1, [], 0),
  (81, .getfield 12, 3, [10, 0, 1, 7, 0], 0),
  (84, .iload_n 1, 1, [], 0),
  (85, .iconst 1, 1, [], 1),
  (86, .iadd, 1, [], 0),
  (87, .invokevirtual 126, 3, [9, 1], 0),
  (90, .invokestatic 132, 3, [1, 5, 1], 0),
  (93, .aload_n 0, 1, [], 0),
  (94, .getfield 12, 3, [10, 0, 1, 7, 0], 0),
  (97, .iload_n 1, 1, [], 0),
  (98, .iconst 2, 1, [], 2),
  (99, .iadd, 1, [], 0),
  (100, .invokevirtual 126, 3, [9, 1], 0),
  (103, .invokestatic 132, 3, [1, 5, 1], 0),
  (106, .invokevirtual 262, 3, [62, 2], 0),
  (109, .ireturn, 1, [], 1),
  (110, .aload_n 0, 1, [], 0),
  (111, .getfield 36, 3, [10, 4, 23, 9, 0], 0),
  (114, .invokevirtual 265, 3, [63, 0], 0),
  (117, .iconst 1, 1, [], 1),
  (118, .ireturn, 1, [], 1),
  (119, .aload_n 0, 1, [], 0),
  (120, .getfield 36, 3, [10, 4, 23, 9, 0], 0),
  (123, .invokevirtual 268, 3, [64, 0], 0),
  (126, .iconst 1, 1, [], 1),
  (127, .ireturn, 1, [], 1)]
def k_W_act : List (List (Nat × Nat)) := [[], [(2, 79)], [], [(2, 174), (2, 175), (2, 176), (1, 2), (2, 177)], [], [], [(2, 87)], [], [(2, 83)], [], [(2, 85)], [], [(2, 81)], [], [(2, 79)], [], [], [], [(2, 174), (2, 175), (2, 176), (1, 2), (2, 177)], [(2, 179), (2, 161), (1, 1), (2, 162)], [(3, 97), (3, 98), (3, 99), (1, 7), (3, 100)], [], [], [], [], [], [(2, 79)], [], [], [], [(2, 174), (2, 175), (2, 176), (1, 2), (2, 177)], [(2, 179), (2, 161), (1, 1), (2, 162)], [], [(2, 79)], [], [], [], [(2, 174), (2, 175), (2, 176), (1, 2), (2, 177)], [(2, 179), (2, 161), (1, 1), (2, 162)], [(3, 170), (3, 172), (0, 10), (1, 1), (3, 173)], [], [], [(2, 83)], [(3, 174), (3, 175), (3, 176), (1, 5), (3, 177)], [], [], [], [(2, 83)], [(3, 178), (3, 179), (3, 180), (1, 5), (3, 181)], [], []]
def c_W_wed : List zE := [(0, .aload_n 0, 1, [], 0),
  (1, .getfield 36, 3, [10, 4, 23, 9, 0], 0),
  (4, .iload_n 1, 1, [], 0),
  (5, .iload_n 2, 1, [], 0),
  (6, .invokevirtual 226, 3, [43, 2], 0),
  (9, .ifCond .ne 5, 3, [14], 0),
  (12, .iconst 0, 1, [], 0),
  (13, .ireturn, 1, [], 1),
  (14, .aload_n 0, 1, [], 0),
  (15, .getfield 36, 3, [10, 4, 23, 9, 0], 0),
  (18, .iload_n 1, 1, [], 0),
  (19, .iload_n 2, 1, [], 0),
  (20, .invokevirtual 230, 3, [44, 2], 0),
  (23, .iconst 1, 1, [], 1),
  (24, .ireturn, 1, [], 1)]
def k_W_wed : List (List (Nat × Nat)) := [[], [(2, 83)], [], [], [(3, 84), (3, 85), (3, 86), (1, 5), (3, 87)], [], [], [], [], [(2, 83)], [], [], [(3, 89), (3, 90), (3, 91), (1, 5), (3, 92)], [], []]
def c_Town_turnRound : List zE := [(0, .iconst 0, 1, [], 0),
  (1, .istore_n 1, 1, [], 0),
  (2, .iload_n 1, 1, [], 0),
  (3, .iconst 4, 1, [], 4),
  (4, .if_icmp .ge 41, 3, [45], 0),
  (7, .aload_n 0, 1, [], 0),
  (8, .getfield 9, 3, [9, 0, 1, 100, 8], 0),
  (11, .iload_n 1, 1, [], 0),
  (12, .iaload, 1, [], 0),
  (13, .istore_n 2, 1, [], 0),
  (14, .aload_n 0, 1, [], 0),
  (15, .getfield 9, 3, [9, 0, 1, 100, 8], 0),
  (18, .iload_n 1, 1, [], 0),
  (19, .aload_n 0, 1, [], 0),
  (20, .getfield 9, 3, [9, 0, 1, 100, 8], 0),
  (23, .bipush 7, 2, [], 7),
  (25, .iload_n 1, 1, [], 0),
  (26, .isub, 1, [], 0),
  (27, .iaload, 1, [], 0),
  (28, .iastore, 1, [], 0),
  (29, .aload_n 0, 1, [], 0),
  (30, .getfield 9, 3, [9, 0, 1, 100, 8], 0),
  (33, .bipush 7, 2, [], 7),
  (35, .iload_n 1, 1, [], 0),
  (36, .isub, 1, [], 0),
  (37, .iload_n 2, 1, [], 0),
  (38, .iastore, 1, [], 0),
  (39, .iinc 1 1, 3, [], 1),
  (42, .goto (-40), 3, [2], 0),
  (45, .return_, 1, [], 0)]
def k_Town_turnRound : List (List (Nat × Nat)) := [[], [], [], [], [], [], [(1, 112)], [], [], [], [], [(1, 112)], [], [], [(1, 112)], [], [], [], [], [], [], [(1, 112)], [], [], [], [], [], [], [], []]
def c_Town_firstBecomesLast : List zE := [(0, .aload_n 0, 1, [], 0),
  (1, .getfield 9, 3, [9, 0, 1, 100, 8], 0),
  (4, .iconst 0, 1, [], 0),
  (5, .iaload, 1, [], 0),
  (6, .istore_n 1, 1, [], 0),
  (7, .aload_n 0, 1, [], 0),
  (8, .getfield 9, 3, [9, 0, 1, 100, 8], 0),
  (11, .iconst 1, 1, [], 1),
  (12, .aload_n 0, 1, [], 0),
  (13, .getfield 9, 3, [9, 0, 1, 100, 8], 0),
  (16, .iconst 0, 1, [], 0),
  (17, .bipush 7, 2, [], 7),
  (19, .invokestatic 27, 3, [5], 0),
  (22, .aload_n 0, 1, [], 0),
  (23, .getfield 9, 3, [9, 0, 1, 100, 8], 0),
  (26, .bipush 7, 2, [], 7),
  (28, .iload_n 1, 1, [], 0),
  (29, .iastore, 1, [], 0),
  (30, .return_, 1, [], 0)]
def k_Town_firstBecomesLast : List (List (Nat × Nat)) := [[], [(1, 112)], [], [], [], [], [(1, 112)], [], [], [(1, 112)], [], [], [(3, 38)], [], [(1, 112)], [], [], [], []]
def c_Town_dryOfAll : List zE := [(0, .iconst 0, 1, [], 0),
  (1, .istore_n 1, 1, [], 0),
  (2, .iconst 0, 1, [], 0),
  (3, .istore_n 2, 1, [], 0),
  (4, .iload_n 2, 1, [], 0),
  (5, .aload_n 0, 1, [], 0),
  (6, .getfield 33, 3, [9, 5], 0),
  (9, .if_icmp .ge 18, 3, [27], 0),
  (12, .iload_n 1, 1, [], 0),
  (13, .aload_n 0, 1, [], 0),
  (14, .getfield 21, 3, [9, 3, 4, 100, 8], 0),
  (17, .iload_n 2, 1, [], 0),
  (18, .iaload, 1, [], 0),
  (19, .iadd, 1, [], 0),
  (20, .istore_n 1, 1, [], 0),
  (21, .iinc 2 1, 3, [], 1),
  (24, .goto (-20), 3, [4], 0),
  (27, .iload_n 1, 1, [], 0),
  (28, .ireturn, 1, [], 0)]
def k_Town_dryOfAll : List (List (Nat × Nat)) := [[], [], [], [], [], [], [(1, 126)], [], [], [], [(1, 118)], [], [], [], [], [], [], [], []]
def c_W_undo : List zE := [(0, .aload_n 0, 1, [], 0),
  (1, .getfield 63, 3, [10, 9, 49, 3, 0], 0),
  (4, .aload_n 0, 1, [], 0),
  (5, .getfield 36, 3, [10, 4, 23, 9, 0], 0),
  (8, .invokevirtual 271, 3, [67, 1], 0),
  (11, .ifCond .eq 13, 3, [24], 0),
  (14, .aload_n 0, 1, [], 0),
  (15, .getfield 63, 3, [10, 9, 49, 3, 0], 0),
  (18, .getfield 120, 3, [3, 2], 0),
  (21, .goto 4, 3, [25], 0),
  (24, .iconst (-1), 1, [], (-1)),
  (25, .ireturn, 1, [], 0)]
def k_W_undo : List (List (Nat × Nat)) := [[], [(2, 88)], [], [(2, 83)], [(3, 191), (3, 192), (3, 193), (1, 8), (3, 194)], [], [], [(2, 88)], [(1, 226)], [], [], []]
def c_Past_pop : List zE := [(0, .aload_n 0, 1, [], 0),
  (1, .getfield 26, 3, [3, 2], 0),
  (4, .ifCond .ne 5, 3, [9], 0),
  (7, .iconst 0, 1, [], 0),
  (8, .ireturn, 1, [], 1),
  (9, .aload_n 0, 1, [], 0),
  (10, .aload_n 0, 1, [], 0),
  (11, .getfield 18, 3, [3, 1], 0),
  (14, .ifCond .le 12, 3, [26], 0),
  (17, .aload_n 0, 1, [], 0),
  (18, .getfield 18, 3, [3, 1], 0),
  (21, .iconst 1, 1, [], 1),
  (22, .isub, 1, [], 0),
  (23, .goto 5, 3, [28], 0),
  (26, .bipush 14, 2, [], 14),
  (28, .putfield 18, 3, [3, 1], 0),
  (31, .aload_n 0, 1, [], 0),
  (32, .dup, 1, [], 0),
  (33, .getfield 26, 3, [3, 2], 0),
  (36, .iconst 1, 1, [], 1),
  (37, .isub, 1, [], 0),
  (38, .putfield 26, 3, [3, 2], 0),
  (41, .aload_n 1, 1, [], 0),
  (42, .aload_n 0, 1, [], 0),
  (43, .getfield 11, 3, [3, 0, 1, 103, 15], 0),
  (46, .aload_n 0, 1, [], 0),
  (47, .getfield 18, 3, [3, 1], 0),
  (50, .aaload, 1, [], 0),
  (51, .invokevirtual 22, 3, [31, 1], 0),
  (54, .iconst 1, 1, [], 1),
  (55, .ireturn, 1, [], 1)]
def k_Past_pop : List (List (Nat × Nat)) := [[], [(1, 225)], [], [], [], [], [], [(1, 224)], [], [], [(1, 224)], [], [], [], [], [(1, 224)], [], [], [(1, 225)], [], [], [(1, 225)], [], [], [(1, 223)], [], [(1, 224)], [], [(3, 34), (3, 35), (3, 36), (1, 5), (3, 37)], [], []]
def c_W_book : List zE := [(0, .aload_n 0, 1, [], 0),
  (1, .getfield 46, 3, [10, 6, 35, 0, 0], 0),
  (4, .aload_n 0, 1, [], 0),
  (5, .getfield 36, 3, [10, 4, 23, 9, 0], 0),
  (8, .aload_n 0, 1, [], 0),
  (9, .getfield 36, 3, [10, 4, 23, 9, 0], 0),
  (12, .getfield 209, 3, [9, 0, 1, 100, 8], 0),
  (15, .invokevirtual 275, 3, [38, 2], 0),
  (18, .aload_n 0, 1, [], 0),
  (19, .getfield 19, 3, [10, 1, 3, 5, 0], 0),
  (22, .aload_n 0, 1, [], 0),
  (23, .getfield 46, 3, [10, 6, 35, 0, 0], 0),
  (26, .getfield 279, 3, [0, 0, 1, 100, 8], 0),
  (29, .aload_n 0, 1, [], 0),
  (30, .getfield 36, 3, [10, 4, 23, 9, 0], 0),
  (33, .getfield 110, 3, [9, 5], 0),
  (36, .invokevirtual 282, 3, [69, 2], 0),
  (39, .aload_n 0, 1, [], 0),
  (40, .getfield 36, 3, [10, 4, 23, 9, 0], 0),
  (43, .getfield 110, 3, [9, 5], 0),
  (46, .ireturn, 1, [], 0)]
def k_W_book : List (List (Nat × Nat)) := [[], [(2, 85)], [], [(2, 83)], [], [(2, 83)], [(1, 114)], [(3, 64), (3, 65), (3, 66), (1, 6), (3, 67)], [], [(2, 80)], [], [(2, 85)], [(1, 156)], [], [(2, 83)], [(1, 128)], [(3, 199), (3, 200), (3, 201), (1, 3), (3, 202)], [], [(2, 83)], [(1, 128)], []]
def c_Row_tellAll : List zE := [(0, .aload_n 0, 1, [], 0),
  (1, .iconst 0, 1, [], 0),
  (2, .putfield 15, 3, [5, 1], 0),
  (5, .iconst 0, 1, [], 0),
  (6, .istore_n 3, 1, [], 0),
  (7, .iload_n 3, 1, [], 0),
  (8, .iload_n 2, 1, [], 0),
  (9, .if_icmp .ge 23, 3, [32], 0),
  (12, .iload_n 3, 1, [], 0),
  (13, .aload_n 1, 1, [], 0),
  (14, .arraylength, 1, [], 0),
  (15, .if_icmp .ge 17, 3, [32], 0),
  (18, .aload_n 0, 1, [], 0),
  (19, .aload_n 1, 1, [], 0),
  (20, .iload_n 3, 1, [], 0),
  (21, .iaload, 1, [], 0),
  (22, .i2l, 1, [], 0),
  (23, .invokevirtual 19, 3, [57, 1], 0),
  (26, .iinc 3 1, 3, [], 1),
  (29, .goto (-22), 3, [7], 0),
  (32, .return_, 1, [], 0)]
def k_Row_tellAll : List (List (Nat × Nat)) := [[], [], [(1, 59)], [], [], [], [], [], [], [], [], [], [], [], [], [], [], [(3, 150), (3, 151), (3, 152), (1, 3), (3, 153)], [], [], []]
def c_W_yields : List zE := [(0, .iload_n 1, 1, [], 0),
  (1, .ifCond .lt 9, 3, [10], 0),
  (4, .iload_n 1, 1, [], 0),
  (5, .bipush 99, 2, [], 99),
  (7, .if_icmp .le 5, 3, [12], 0),
  (10, .iconst (-1), 1, [], (-1)),
  (11, .ireturn, 1, [], 0),
  (12, .aload_n 0, 1, [], 0),
  (13, .getfield 56, 3, [10, 8, 45, 4, 0], 0),
  (16, .aload_n 0, 1, [], 0),
  (17, .getfield 26, 3, [10, 2, 5, 6, 0], 0),
  (20, .aload_n 0, 1, [], 0),
  (21, .getfield 36, 3, [10, 4, 23, 9, 0], 0),
  (24, .getfield 110, 3, [9, 5], 0),
  (27, .aload_n 0, 1, [], 0),
  (28, .getfield 36, 3, [10, 4, 23, 9, 0], 0),
  (31, .getfield 286, 3, [9, 6], 0),
  (34, .iload_n 1, 1, [], 0),
  (35, .iadd, 1, [], 0),
  (36, .invokevirtual 289, 3, [47, 3], 0),
  (39, .istore_n 2, 1, [], 0),
  (40, .aload_n 0, 1, [], 0),
  (41, .getfield 46, 3, [10, 6, 35, 0, 0], 0),
  (44, .aload_n 0, 1, [], 0),
  (45, .getfield 36, 3, [10, 4, 23, 9, 0], 0),
  (48, .aload_n 0, 1, [], 0),
  (49, .getfield 36, 3, [10, 4, 23, 9, 0], 0),
  (52, .getfield 209, 3, [9, 0, 1, 100, 8], 0),
  (55, .invokevirtual 275, 3, [38, 2], 0),
  (58, .aload_n 0, 1, [], 0),
  (59, .getfield 56, 3, [10, 8, 45, 4, 0], 0),
  (62, .aload_n 0, 1, [], 0),
  (63, .getfield 46, 3, [10, 6, 35, 0, 0], 0),
  (66, .iload_n 2, 1, [], 0),
  (67, .invokevirtual 293, 3, [54, 2], 0),
  (70, .istore_n 3, 1, [], 0),
  (71, .aload_n 0, 1, [], 0),
  (72, .getfield 19, 3, [10, 1, 3, 5, 0], 0),
  (75, .aload_n 0, 1, [], 0),
  (76, .getfield 36, 3, [10, 4, 23, 9, 0], 0),
  (79, .getfield 110, 3, [9, 5], 0),
  (82, .iload_n 3, 1, [], 0),
  (83, .isub, 1, [], 0),
  (84, .i2l, 1, [], 0),
  (85, .aload_n 0, 1, [], 0),
  (86, .getfield 56, 3, [10, 8, 45, 4, 0], 0),
  (89, .getfield 297, 3, [4, 4], 0),
  (92, .i2l, 1, [], 0),
  (93, .invokevirtual 243, 3, [55, 2], 0),
  (96, .iload_n 2, 1, [], 0),
  (97, .ireturn, 1, [], 0)]
def k_W_yields : List (List (Nat × Nat)) := [[], [], [], [], [], [], [], [], [(2, 87)], [], [(2, 81)], [], [(2, 83)], [(1, 128)], [], [(2, 83)], [(1, 132)], [], [], [(3, 207), (3, 103), (3, 104), (1, 7), (3, 105)], [], [], [(2, 85)], [], [(2, 83)], [], [(2, 83)], [(1, 114)], [(3, 64), (3, 65), (3, 66), (1, 6), (3, 67)], [], [(2, 87)], [], [(2, 85)], [], [(3, 208), (3, 133), (3, 134), (1, 7), (3, 135)], [], [], [(2, 80)], [], [(2, 83)], [(1, 128)], [], [], [], [], [(2, 87)], [(1, 191)], [], [(3, 142), (3, 143), (3, 144), (1, 3), (3, 145)], [], []]
def c_W_stops : List zE := [(0, .aload_n 0, 1, [], 0),
  (1, .invokevirtual 182, 3, [72, 0], 0),
  (4, .iconst 0, 1, [], 0),
  (5, .istore_n 1, 1, [], 0),
  (6, .iload_n 1, 1, [], 0),
  (7, .aload_n 0, 1, [], 0),
  (8, .getfield 36, 3, [10, 4, 23, 9, 0], 0),
  (11, .getfield 110, 3, [9, 5], 0),
  (14, .if_icmp .ge 69, 3, [83], 0),
  (17, .aload_n 0, 1, [], 0),
  (18, .getfield 46, 3, [10, 6, 35, 0, 0], 0),
  (21, .getfield 279, 3, [0, 0, 1, 100, 8], 0),
  (24, .iload_n 1, 1, [], 0),
  (25, .iaload, 1, [], 0),
  (26, .istore_n 2, 1, [], 0),
  (27, .aload_n 0, 1, [], 0),
  (28, .getfield 56, 3, [10, 8, 45, 4, 0], 0),
  (31, .getfield 185, 3, [4, 3, 3, 100, 8], 0),
  (34, .iload_n 2, 1, [], 0),
  (35, .iaload, 1, [], 0),
  (36, .aload_n 0, 1, [], 0),
  (37, .getfield 56, 3, [10, 8, 45, 4, 0], 0),
  (40, .getfield 139, 3, [4, 0, 1, 100, 8], 0),
  (43, .iload_n 2, 1, [], 0),
  (44, .iaload, 1, [], 0),
  (45, .if_icmp .ge 32, 3, [77], 0),
  (48, .aload_n 0, 1, [], 0),
  (49, .getfield 19, 3, [10, 1, 3, 5, 0], 0),
  (52, .aload_n 0, 1, [], 0),
  (53, .getfield 36, 3, [10, 4, 23, 9, 0], 0),
  (56, .iload_n 2, 1, [], 0),
  (57, .iconst 0, 1, [], 0),
  (58, .invokevirtual 188, 3, [40, 2], 0),
  (61, .i2l, 1, [], 0),
  (62, .aload_n 0, 1, [], 0),
  (63, .getfield 56, 3, [10, 8, 45, 4, 0], 0),
  (66, .getfield 185, 3, [4, 3, 3, 100, 8], 0),
  (69, .iload_n 2, 1, [], 0),
  (70, .iaload, 1, [], 0),
  (71, .i2l, 1, [], 0),
  (72, .invokevirtual 243, 3, [55, 2], 0),
  (75, .iload_n 2, 1, [], 0),
  (76, .ireturn, 1, [], 0),
  (77, .iinc 1 1, 3, [], 1),
  (80, .goto (-74), 3, [6], 0),
  (83, .bipush (-2), 2, [], (-2)),
  (85, .ireturn, 1, [], 0)]
def k_W_stops : List (List (Nat × Nat)) := [[], [(3, 213), (3, 215), (0, 11), (1, 1), (3, 216)], [], [], [], [], [(2, 83)], [(1, 128)], [], [], [(2, 85)], [(1, 156)], [], [], [], [], [(2, 87)], [(1, 189)], [], [], [], [(2, 87)], [(1, 184)], [], [], [], [], [(2, 80)], [], [(2, 83)], [], [], [(3, 221), (3, 73), (3, 74), (1, 5), (3, 75)], [], [], [(2, 87)], [(1, 189)], [], [], [], [(3, 142), (3, 143), (3, 144), (1, 3), (3, 145)], [], [], [], [], [], []]
def c_W_pourToday : List zE := [(0, .aload_n 0, 1, [], 0),
  (1, .getfield 46, 3, [10, 6, 35, 0, 0], 0),
  (4, .aload_n 0, 1, [], 0),
  (5, .getfield 36, 3, [10, 4, 23, 9, 0], 0),
  (8, .aload_n 0, 1, [], 0),
  (9, .getfield 36, 3, [10, 4, 23, 9, 0], 0),
  (12, .getfield 209, 3, [9, 0, 1, 100, 8], 0),
  (15, .invokevirtual 275, 3, [38, 2], 0),
  (18, .aload_n 0, 1, [], 0),
  (19, .getfield 56, 3, [10, 8, 45, 4, 0], 0),
  (22, .aload_n 0, 1, [], 0),
  (23, .getfield 46, 3, [10, 6, 35, 0, 0], 0),
  (26, .aload_n 0, 1, [], 0),
  (27, .invokevirtual 307, 3, [73, 0], 0),
  (30, .invokevirtual 293, 3, [54, 2], 0),
  (33, .pop, 1, [], 0),
  (34, .return_, 1, [], 0)]
def k_W_pourToday : List (List (Nat × Nat)) := [[], [(2, 85)], [], [(2, 83)], [], [(2, 83)], [(1, 114)], [(3, 64), (3, 65), (3, 66), (1, 6), (3, 67)], [], [(2, 87)], [], [(2, 85)], [], [(3, 217), (3, 219), (0, 12), (1, 1), (3, 220)], [(3, 208), (3, 133), (3, 134), (1, 7), (3, 135)], [], []]
def c_W_yieldToday : List zE := [(0, .aload_n 0, 1, [], 0),
  (1, .getfield 56, 3, [10, 8, 45, 4, 0], 0),
  (4, .aload_n 0, 1, [], 0),
  (5, .getfield 26, 3, [10, 2, 5, 6, 0], 0),
  (8, .aload_n 0, 1, [], 0),
  (9, .getfield 36, 3, [10, 4, 23, 9, 0], 0),
  (12, .getfield 110, 3, [9, 5], 0),
  (15, .aload_n 0, 1, [], 0),
  (16, .getfield 36, 3, [10, 4, 23, 9, 0], 0),
  (19, .getfield 286, 3, [9, 6], 0),
  (22, .invokevirtual 289, 3, [47, 3], 0),
  (25, .ireturn, 1, [], 0)]
def k_W_yieldToday : List (List (Nat × Nat)) := [[], [(2, 87)], [], [(2, 81)], [], [(2, 83)], [(1, 128)], [], [(2, 83)], [(1, 132)], [(3, 207), (3, 103), (3, 104), (1, 7), (3, 105)], []]
def c_W_dry : List zE := [(0, .aload_n 0, 1, [], 0),
  (1, .getfield 36, 3, [10, 4, 23, 9, 0], 0),
  (4, .iload_n 1, 1, [], 0),
  (5, .invokevirtual 164, 3, [35, 1], 0),
  (8, .ifCond .eq 13, 3, [21], 0),
  (11, .iload_n 2, 1, [], 0),
  (12, .ifCond .lt 9, 3, [21], 0),
  (15, .iload_n 2, 1, [], 0),
  (16, .bipush 60, 2, [], 60),
  (18, .if_icmp .le 5, 3, [23], 0),
  (21, .iconst (-1), 1, [], (-1)),
  (22, .ireturn, 1, [], 0),
  (23, .aload_n 0, 1, [], 0),
  (24, .getfield 40, 3, [10, 5, 29, 9, 0], 0),
  (27, .aload_n 0, 1, [], 0),
  (28, .getfield 36, 3, [10, 4, 23, 9, 0], 0),
  (31, .invokevirtual 250, 3, [31, 1], 0),
  (34, .aload_n 0, 1, [], 0),
  (35, .getfield 56, 3, [10, 8, 45, 4, 0], 0),
  (38, .aload_n 0, 1, [], 0),
  (39, .getfield 40, 3, [10, 5, 29, 9, 0], 0),
  (42, .aload_n 0, 1, [], 0),
  (43, .getfield 46, 3, [10, 6, 35, 0, 0], 0),
  (46, .aload_n 0, 1, [], 0),
  (47, .getfield 26, 3, [10, 2, 5, 6, 0], 0),
  (50, .iload_n 2, 1, [], 0),
  (51, .invokevirtual 233, 3, [46, 4], 0),
  (54, .pop, 1, [], 0),
  (55, .aload_n 0, 1, [], 0),
  (56, .getfield 19, 3, [10, 1, 3, 5, 0], 0),
  (59, .aload_n 0, 1, [], 0),
  (60, .getfield 40, 3, [10, 5, 29, 9, 0], 0),
  (63, .getfield 176, 3, [9, 4, 5, 100, 8], 0),
  (66, .iload_n 1, 1, [], 0),
  (67, .iaload, 1, [], 0),
  (68, .aload_n 0, 1, [], 0),
  (69, .getfield 36, 3, [10, 4, 23, 9, 0], 0),
  (72, .getfield 176, 3, [9, 4, 5, 100, 8], 0),
  (75, .iload_n 1, 1, [], 0),
  (76, .iaload, 1, [], 0),
  (77, .isub, 1, [], 0),
  (78, .i2l, 1, [], 0),
  (79, .invokevirtual 300, 3, [56, 1], 0),
  (82, .aload_n 0, 1, [], 0),
  (83, .getfield 40, 3, [10, 5, 29, 9, 0], 0),
  (86, .getfield 173, 3, [9, 3, 4, 100, 8], 0),
  (89, .iload_n 1, 1, [], 0),
  (90, .iaload, 1, [], 0),
  (91, .aload_n 0, 1, [], 0),
  (92, .getfield 36, 3, [10, 4, 23, 9, 0], 0),
  (95, .getfield 173, 3, [9, 3, 4, 100, 8], 0),
  (98, .iload_n 1, 1, [], 0),
  (99, .iaload, 1, [], 0),
  (100, .isub, 1, [], 0),
  (101, .ireturn, 1, [], 0)]
def k_W_dry : List (List (Nat × Nat)) := [[], [(2, 83)], [], [(3, 52), (3, 53), (3, 54), (1, 5), (3, 55)], [], [], [], [], [], [], [], [], [], [(2, 84)], [], [(2, 83)], [(3, 165), (3, 35), (3, 36), (1, 5), (3, 37)], [], [(2, 87)], [], [(2, 84)], [], [(2, 85)], [], [(2, 81)], [], [(3, 97), (3, 98), (3, 99), (1, 7), (3, 100)], [], [], [(2, 80)], [], [(2, 84)], [(1, 123)], [], [], [], [(2, 83)], [(1, 123)], [], [], [], [], [(3, 226), (3, 147), (3, 148), (1, 3), (3, 149)], [], [(2, 84)], [(1, 120)], [], [], [], [(2, 83)], [(1, 120)], [], [], [], []]
def c_W_waits : List zE := [(0, .aload_n 0, 1, [], 0),
  (1, .invokevirtual 182, 3, [72, 0], 0),
  (4, .iconst 0, 1, [], 0),
  (5, .istore_n 1, 1, [], 0),
  (6, .iconst 0, 1, [], 0),
  (7, .istore_n 2, 1, [], 0),
  (8, .iconst 0, 1, [], 0),
  (9, .istore_n 3, 1, [], 0),
  (10, .iconst 0, 1, [], 0),
  (11, .istore 4, 2, [], 0),
  (13, .iload 4, 2, [], 0),
  (15, .aload_n 0, 1, [], 0),
  (16, .getfield 36, 3, [10, 4, 23, 9, 0], 0),
  (19, .getfield 110, 3, [9, 5], 0),
  (22, .if_icmp .ge 45, 3, [67], 0),
  (25, .aload_n 0, 1, [], 0),
  (26, .getfield 56, 3, [10, 8, 45, 4, 0], 0),
  (29, .getfield 185, 3, [4, 3, 3, 100, 8], 0),
  (32, .aload_n 0, 1, [], 0),
  (33, .getfield 46, 3, [10, 6, 35, 0, 0], 0),
  (36, .getfield 279, 3, [0, 0, 1, 100, 8], 0),
  (39, .iload 4, 2, [], 0),
  (41, .iaload, 1, [], 0),
  (42, .iaload, 1, [], 0),
  (43, .istore 5, 2, [], 0),
  (45, .iload 5, 2, [], 0),
  (47, .ifCond .le 14, 3, [61], 0),
  (50, .iload_n 3, 1, [], 0),
  (51, .istore_n 2, 1, [], 0),
  (52, .iload_n 1, 1, [], 0),
  (53, .iload_n 3, 1, [], 0),
  (54, .iadd, 1, [], 0),
  (55, .istore_n 1, 1, [], 0),
  (56, .iload_n 3, 1, [], 0),
  (57, .iload 5, 2, [], 0),
  (59, .iadd, 1, [], 0),
  (60, .istore_n 3, 1, [], 0),
  (61, .iinc 4 1, 3, [], 1),
  (64, .goto (-51), 3, [13], 0),
  (67, .aload_n 0, 1, [], 0),
  (68, .getfield 19, 3, [10, 1, 3, 5, 0], 0),
  (71, .aload_n 0, 1, [], 0),
  (72, .invokevirtual 304, 3, [76, 0], 0),
  (75, .i2l, 1, [], 0),
  (76, .iload_n 2, 1, [], 0),
  (77, .i2l, 1, [], 0),
  (78, .invokevirtual 243, 3, [55, 2], 0),
  (81, .iload_n 1, 1, [], 0),
  (82, .ireturn, 1, [], 0)]
def k_W_waits : List (List (Nat × Nat)) := [[], [(3, 213), (3, 215), (0, 11), (1, 1), (3, 216)], [], [], [], [], [], [], [], [], [], [], [(2, 83)], [(1, 128)], [], [], [(2, 87)], [(1, 189)], [], [(2, 85)], [(1, 156)], [], [], [], [], [], [], [], [], [], [], [], [], [], [], [], [], [], [], [], [(2, 80)], [], [(3, 231), (3, 233), (0, 13), (1, 1), (3, 234)], [], [], [], [(3, 142), (3, 143), (3, 144), (1, 3), (3, 145)], [], []]
def c_W_fewestMinutes : List zE := [(0, .iconst 0, 1, [], 0),
  (1, .istore_n 1, 1, [], 0),
  (2, .iconst 0, 1, [], 0),
  (3, .istore_n 2, 1, [], 0),
  (4, .iconst 1, 1, [], 1),
  (5, .istore_n 3, 1, [], 0),
  (6, .iload_n 3, 1, [], 0),
  (7, .bipush 9, 2, [], 9),
  (9, .if_icmp .gt 52, 3, [61], 0),
  (12, .iconst 0, 1, [], 0),
  (13, .istore 4, 2, [], 0),
  (15, .iload 4, 2, [], 0),
  (17, .aload_n 0, 1, [], 0),
  (18, .getfield 36, 3, [10, 4, 23, 9, 0], 0),
  (21, .getfield 110, 3, [9, 5], 0),
  (24, .if_icmp .ge 31, 3, [55], 0),
  (27, .aload_n 0, 1, [], 0),
  (28, .getfield 56, 3, [10, 8, 45, 4, 0], 0),
  (31, .getfield 185, 3, [4, 3, 3, 100, 8], 0),
  (34, .iload 4, 2, [], 0),
  (36, .iaload, 1, [], 0),
  (37, .iload_n 3, 1, [], 0),
  (38, .if_icmp .ne 11, 3, [49], 0),
  (41, .iload_n 1, 1, [], 0),
  (42, .iload_n 2, 1, [], 0),
  (43, .iadd, 1, [], 0),
  (44, .istore_n 1, 1, [], 0),
  (45, .iload_n 2, 1, [], 0),
  (46, .iload_n 3, 1, [], 0),
  (47, .iadd, 1, [], 0),
  (48, .istore_n 2, 1, [], 0),
  (49, .iinc 4 1, 3, [], 1),
  (52, .goto (-37), 3, [15], 0),
  (55, .iinc 3 1, 3, [], 1),
  (58, .goto (-52), 3, [6], 0),
  (61, .iload_n 1, 1, [], 0),
  (62, .ireturn, 1, [], 0)]
def k_W_fewestMinutes : List (List (Nat × Nat)) := [[], [], [], [], [], [], [], [], [], [], [], [], [], [(2, 83)], [(1, 128)], [], [], [(2, 87)], [(1, 189)], [], [], [], [], [], [], [], [], [], [], [], [], [], [], [], [], [], []]
def c_W_fewest : List zE := [(0, .aload_n 0, 1, [], 0),
  (1, .getfield 88, 3, [10, 16, 151, 8, 0], 0),
  (4, .aload_n 0, 1, [], 0),
  (5, .getfield 36, 3, [10, 4, 23, 9, 0], 0),
  (8, .aload_n 0, 1, [], 0),
  (9, .getfield 56, 3, [10, 8, 45, 4, 0], 0),
  (12, .aload_n 0, 1, [], 0),
  (13, .invokevirtual 307, 3, [73, 0], 0),
  (16, .invokevirtual 313, 3, [78, 3], 0),
  (19, .istore_n 1, 1, [], 0),
  (20, .aload_n 0, 1, [], 0),
  (21, .getfield 19, 3, [10, 1, 3, 5, 0], 0),
  (24, .aload_n 0, 1, [], 0),
  (25, .getfield 88, 3, [10, 16, 151, 8, 0], 0),
  (28, .getfield 317, 3, [8, 0, 1, 100, 8], 0),
  (31, .bipush 8, 2, [], 8),
  (33, .invokevirtual 282, 3, [69, 2], 0),
  (36, .aload_n 0, 1, [], 0),
  (37, .getfield 36, 3, [10, 4, 23, 9, 0], 0),
  (40, .getfield 110, 3, [9, 5], 0),
  (43, .iload_n 1, 1, [], 0),
  (44, .isub, 1, [], 0),
  (45, .ireturn, 1, [], 0)]
def k_W_fewest : List (List (Nat × Nat)) := [[], [(2, 95)], [], [(2, 83)], [], [(2, 87)], [], [(3, 217), (3, 219), (0, 12), (1, 1), (3, 220)], [(3, 239), (4, 0), (4, 1), (1, 10), (4, 2)], [], [], [(2, 80)], [], [(2, 95)], [(2, 29)], [], [(3, 199), (3, 200), (3, 201), (1, 3), (3, 202)], [], [(2, 83)], [(1, 128)], [], [], []]
def c_Thrift_seek : List zE := [(0, .aload_n 0, 1, [], 0),
  (1, .aload_n 1, 1, [], 0),
  (2, .getfield 33, 3, [9, 5], 0),
  (5, .putfield 39, 3, [8, 8], 0),
  (8, .aload_n 0, 1, [], 0),
  (9, .iload_n 3, 1, [], 0),
  (10, .putfield 40, 3, [8, 9], 0),
  (13, .iconst 0, 1, [], 0),
  (14, .istore 4, 2, [], 0),
  (16, .iload 4, 2, [], 0),
  (18, .iconst 1, 1, [], 1),
  (19, .aload_n 0, 1, [], 0),
  (20, .getfield 39, 3, [8, 8], 0),
  (23, .ishl, 1, [], 0),
  (24, .if_icmp .ge 22, 3, [46], 0),
  (27, .aload_n 0, 1, [], 0),
  (28, .getfield 15, 3, [8, 1, 2, 100, 256], 0),
  (31, .iload 4, 2, [], 0),
  (33, .aload_n 2, 1, [], 0),
  (34, .iload 4, 2, [], 0),
  (36, .invokevirtual 43, 3, [27, 1], 0),
  (39, .iastore, 1, [], 0),
  (40, .iinc 4 1, 3, [], 1),
  (43, .goto (-27), 3, [16], 0),
  (46, .aload_n 0, 1, [], 0),
  (47, .invokevirtual 49, 3, [79, 0], 0),
  (50, .aload_n 0, 1, [], 0),
  (51, .aload_n 1, 1, [], 0),
  (52, .invokevirtual 52, 3, [80, 1], 0),
  (55, .aload_n 0, 1, [], 0),
  (56, .iconst (-1), 1, [], (-1)),
  (57, .putfield 56, 3, [8, 10], 0),
  (60, .aload_n 0, 1, [], 0),
  (61, .aload_n 0, 1, [], 0),
  (62, .iconst 0, 1, [], 0),
  (63, .invokevirtual 59, 3, [83, 1], 0),
  (66, .putfield 62, 3, [8, 11], 0),
  (69, .aload_n 0, 1, [], 0),
  (70, .iconst 0, 1, [], 0),
  (71, .invokevirtual 65, 3, [86, 1], 0),
  (74, .ifCond .eq 16, 3, [90], 0),
  (77, .aload_n 0, 1, [], 0),
  (78, .iconst 0, 1, [], 0),
  (79, .iconst 0, 1, [], 0),
  (80, .aload_n 0, 1, [], 0),
  (81, .getfield 62, 3, [8, 11], 0),
  (84, .invokevirtual 69, 3, [87, 3], 0),
  (87, .goto 9, 3, [96], 0),
  (90, .aload_n 0, 1, [], 0),
  (91, .iconst 0, 1, [], 0),
  (92, .iconst 0, 1, [], 0),
  (93, .invokevirtual 73, 3, [89, 2], 0),
  (96, .aload_n 0, 1, [], 0),
  (97, .getfield 56, 3, [8, 10], 0),
  (100, .ireturn, 1, [], 0)]
def k_Thrift_seek : List (List (Nat × Nat)) := [[], [], [(1, 125)], [(2, 37)], [], [], [(2, 38)], [], [], [], [], [], [(2, 37)], [], [], [], [(2, 30)], [], [], [], [(4, 3), (3, 17), (3, 18), (1, 7), (3, 19)], [], [], [], [], [(4, 4), (4, 6), (0, 14), (1, 10), (4, 7)], [], [], [(4, 8), (4, 10), (0, 15), (1, 10), (4, 11)], [], [], [(2, 39)], [], [], [], [(4, 22), (4, 24), (0, 16), (1, 10), (4, 25)], [(2, 40)], [], [], [(4, 37), (4, 39), (0, 19), (1, 10), (4, 40)], [], [], [], [], [], [(2, 40)], [(4, 41), (4, 43), (0, 20), (1, 10), (4, 44)], [], [], [], [], [(4, 49), (4, 51), (0, 22), (1, 10), (4, 52)], [], [(2, 39)], []]
def c_Thrift_sortByThirst : List zE := [(0, .iconst 0, 1, [], 0),
  (1, .istore_n 1, 1, [], 0),
  (2, .iconst 1, 1, [], 1),
  (3, .istore_n 2, 1, [], 0),
  (4, .iload_n 2, 1, [], 0),
  (5, .bipush 9, 2, [], 9),
  (7, .if_icmp .gt 53, 3, [60], 0),
  (10, .iconst 0, 1, [], 0),
  (11, .istore_n 3, 1, [], 0),
  (12, .iload_n 3, 1, [], 0),
  (13, .aload_n 0, 1, [], 0),
  (14, .getfield 39, 3, [8, 8], 0),
  (17, .if_icmp .ge 37, 3, [54], 0),
  (20, .iload_n 1, 1, [], 0),
  (21, .bipush 8, 2, [], 8),
  (23, .if_icmp .ge 31, 3, [54], 0),
  (26, .aload_n 0, 1, [], 0),
  (27, .getfield 15, 3, [8, 1, 2, 100, 256], 0),
  (30, .iconst 1, 1, [], 1),
  (31, .iload_n 3, 1, [], 0),
  (32, .ishl, 1, [], 0),
  (33, .iaload, 1, [], 0),
  (34, .iload_n 2, 1, [], 0),
  (35, .if_icmp .ne 13, 3, [48], 0),
  (38, .aload_n 0, 1, [], 0),
  (39, .getfield 18, 3, [8, 2, 3, 100, 8], 0),
  (42, .iload_n 1, 1, [], 0),
  (43, .iload_n 3, 1, [], 0),
  (44, .iastore, 1, [], 0),
  (45, .iinc 1 1, 3, [], 1),
  (48, .iinc 3 1, 3, [], 1),
  (51, .goto (-39), 3, [12], 0),
  (54, .iinc 2 1, 3, [], 1),
  (57, .goto (-53), 3, [4], 0),
  (60, .return_, 1, [], 0)]
def k_Thrift_sortByThirst : List (List (Nat × Nat)) := [[], [], [], [], [], [], [], [], [], [], [], [(2, 37)], [], [], [], [], [], [(2, 30)], [], [], [], [], [], [], [], [(2, 31)], [], [], [], [], [], [], [], [], []]
def c_Thrift_compareNames : List zE := [(0, .aload_n 0, 1, [], 0),
  (1, .iconst 0, 1, [], 0),
  (2, .putfield 77, 3, [8, 4], 0),
  (5, .iconst 0, 1, [], 0),
  (6, .istore_n 2, 1, [], 0),
  (7, .iload_n 2, 1, [], 0),
  (8, .aload_n 0, 1, [], 0),
  (9, .getfield 39, 3, [8, 8], 0),
  (12, .if_icmp .ge 128, 3, [140], 0),
  (15, .aload_n 0, 1, [], 0),
  (16, .getfield 24, 3, [8, 5, 5, 100, 72], 0),
  (19, .iload_n 2, 1, [], 0),
  (20, .iconst 0, 1, [], 0),
  (21, .iastore, 1, [], 0),
  (22, .aload_n 0, 1, [], 0),
  (23, .getfield 27, 3, [8, 6, 6, 100, 72], 0),
  (26, .iload_n 2, 1, [], 0),
  (27, .iconst 0, 1, [], 0),
  (28, .iastore, 1, [], 0),
  (29, .iconst 0, 1, [], 0),
  (30, .istore_n 3, 1, [], 0),
  (31, .iload_n 3, 1, [], 0),
  (32, .aload_n 0, 1, [], 0),
  (33, .getfield 39, 3, [8, 8], 0),
  (36, .if_icmp .ge 98, 3, [134], 0),
  (39, .aload_n 1, 1, [], 0),
  (40, .iload_n 2, 1, [], 0),
  (41, .iload_n 3, 1, [], 0),
  (42, .invokevirtual 80, 3, [81, 2], 0),
  (45, .istore 4, 2, [], 0),
  (47, .aload_n 0, 1, [], 0),
  (48, .getfield 21, 3, [8, 3, 4, 100, 64], 0),
  (51, .iload_n 2, 1, [], 0),
  (52, .bipush 8, 2, [], 8),
  (54, .imul, 1, [], 0),
  (55, .iload_n 3, 1, [], 0),
  (56, .iadd, 1, [], 0),
  (57, .iload 4, 2, [], 0),
  (59, .iastore, 1, [], 0),
  (60, .iload 4, 2, [], 0),
  (62, .iconst (-1), 1, [], (-1)),
  (63, .if_icmp .eq 19, 3, [82], 0),
  (66, .aload_n 0, 1, [], 0),
  (67, .dup, 1, [], 0),
  (68, .getfield 77, 3, [8, 4], 0),
  (71, .iconst 1, 1, [], 1),
  (72, .iload 4, 2, [], 0),
  (74, .ishl, 1, [], 0),
  (75, .ior, 1, [], 0),
  (76, .putfield 77, 3, [8, 4], 0),
  (79, .goto 49, 3, [128], 0),
  (82, .iload_n 2, 1, [], 0),
  (83, .iload_n 3, 1, [], 0),
  (84, .if_icmp .eq 27, 3, [111], 0),
  (87, .aload_n 1, 1, [], 0),
  (88, .iload_n 2, 1, [], 0),
  (89, .iload_n 3, 1, [], 0),
  (90, .invokevirtual 84, 3, [82, 2], 0),
  (93, .ifCond .eq 18, 3, [111], 0),
  (96, .aload_n 0, 1, [], 0),
  (97, .getfield 27, 3, [8, 6, 6, 100, 72], 0),
  (100, .iload_n 2, 1, [], 0),
  (101, .dup2, 1, [], 0),
  (102, .iaload, 1, [], 0),
  (103, .iconst 1, 1, [], 1),
  (104, .iload_n 3, 1, [], 0),
  (105, .ishl, 1, [], 0),
  (106, .ior, 1, [], 0),
  (107, .iastore, 1, [], 0),
  (108, .goto 20, 3, [128], 0),
  (111, .iload_n 2, 1, [], 0),
  (112, .iload_n 3, 1, [], 0),
  (113, .if_icmp .eq 15, 3, [128], 0),
  (116, .aload_n 0, 1, [], 0),
  (117, .getfield 24, 3, [8, 5, 5, 100, 72], 0),
  (120, .iload_n 2, 1, [], 0),
  (121, .dup2, 1, [], 0),
  (122, .iaload, 1, [], 0),
  (123, .iconst 1, 1, [], 1),
  (124, .iload_n 3, 1, [], 0),
  (125, .ishl, 1, [], 0),
  (126, .ior, 1, [], 0),
  (127, .iastore, 1, [], 0),
  (128, .iinc 3 1, 3, [], 1),
  (131, .goto (-100), 3, [31], 0),
  (134, .iinc 2 1, 3, [], 1),
  (137, .goto (-130), 3, [7], 0),
  (140, .return_, 1, [], 0)]
def k_Thrift_compareNames : List (List (Nat × Nat)) := [[], [], [(2, 33)], [], [], [], [], [(2, 37)], [], [], [(2, 34)], [], [], [], [], [(2, 35)], [], [], [], [], [], [], [], [(2, 37)], [], [], [], [], [(4, 12), (4, 13), (4, 14), (1, 5), (4, 15)], [], [], [(2, 32)], [], [], [], [], [], [], [], [], [], [], [], [], [(2, 33)], [], [], [], [], [(2, 33)], [], [], [], [], [], [], [], [(4, 18), (4, 19), (4, 20), (1, 5), (4, 21)], [], [], [(2, 35)], [], [], [], [], [], [], [], [], [], [], [], [], [], [(2, 34)], [], [], [], [], [], [], [], [], [], [], [], [], []]
def c_Town_tellingLetter : List zE := [(0, .aload_n 0, 1, [], 0),
  (1, .getfield 18, 3, [9, 2, 3, 100, 8], 0),
  (4, .iload_n 1, 1, [], 0),
  (5, .iaload, 1, [], 0),
  (6, .aload_n 0, 1, [], 0),
  (7, .getfield 18, 3, [9, 2, 3, 100, 8], 0),
  (10, .iload_n 2, 1, [], 0),
  (11, .iaload, 1, [], 0),
  (12, .invokestatic 50, 3, [3], 0),
  (15, .istore_n 3, 1, [], 0),
  (16, .iconst 0, 1, [], 0),
  (17, .istore 4, 2, [], 0),
  (19, .iload 4, 2, [], 0),
  (21, .iload_n 3, 1, [], 0),
  (22, .if_icmp .ge 34, 3, [56], 0),
  (25, .aload_n 0, 1, [], 0),
  (26, .iload_n 1, 1, [], 0),
  (27, .iload 4, 2, [], 0),
  (29, .invokevirtual 53, 3, [40, 2], 0),
  (32, .aload_n 0, 1, [], 0),
  (33, .iload_n 2, 1, [], 0),
  (34, .iload 4, 2, [], 0),
  (36, .invokevirtual 53, 3, [40, 2], 0),
  (39, .if_icmp .eq 11, 3, [50], 0),
  (42, .aload_n 0, 1, [], 0),
  (43, .iload_n 1, 1, [], 0),
  (44, .iload 4, 2, [], 0),
  (46, .invokevirtual 53, 3, [40, 2], 0),
  (49, .ireturn, 1, [], 0),
  (50, .iinc 4 1, 3, [], 1),
  (53, .goto (-34), 3, [19], 0),
  (56, .iconst (-1), 1, [], (-1)),
  (57, .ireturn, 1, [], 0)]
def k_Town_tellingLetter : List (List (Nat × Nat)) := [[], [(1, 116)], [], [], [], [(1, 116)], [], [], [(4, 16)], [], [], [], [], [], [], [], [], [], [(4, 17), (3, 73), (3, 74), (1, 5), (3, 75)], [], [], [], [(4, 17), (3, 73), (3, 74), (1, 5), (3, 75)], [], [], [], [], [(4, 17), (3, 73), (3, 74), (1, 5), (3, 75)], [], [], [], [], []]
def c_Town_isAheadAnyway : List zE := [(0, .aload_n 0, 1, [], 0),
  (1, .getfield 18, 3, [9, 2, 3, 100, 8], 0),
  (4, .iload_n 1, 1, [], 0),
  (5, .iaload, 1, [], 0),
  (6, .aload_n 0, 1, [], 0),
  (7, .getfield 18, 3, [9, 2, 3, 100, 8], 0),
  (10, .iload_n 2, 1, [], 0),
  (11, .iaload, 1, [], 0),
  (12, .if_icmp .eq 24, 3, [36], 0),
  (15, .aload_n 0, 1, [], 0),
  (16, .getfield 18, 3, [9, 2, 3, 100, 8], 0),
  (19, .iload_n 1, 1, [], 0),
  (20, .iaload, 1, [], 0),
  (21, .aload_n 0, 1, [], 0),
  (22, .getfield 18, 3, [9, 2, 3, 100, 8], 0),
  (25, .iload_n 2, 1, [], 0),
  (26, .iaload, 1, [], 0),
  (27, .if_icmp .ge 7, 3, [34], 0),
  (30, .iconst 1, 1, [], 1),
  (31, .goto 4, 3, [35], 0),
  (34, .iconst 0, 1, [], 0),
  (35, .ireturn, 1, [], 1),
  (36, .iload_n 1, 1, [], 0),
  (37, .iload_n 2, 1, [], 0),
  (38, .if_icmp .ge 7, 3, [45], 0),
  (41, .iconst 1, 1, [], 1),
  (42, .goto 4, 3, [46], 0),
  (45, .iconst 0, 1, [], 0),
  (46, .ireturn, 1, [], 1)]
def k_Town_isAheadAnyway : List (List (Nat × Nat)) := [[], [(1, 116)], [], [], [], [(1, 116)], [], [], [], [], [(1, 116)], [], [], [], [(1, 116)], [], [], [], [], [], [], [], [], [], [], [], [], [], []]
def c_Thrift_hope : List zE := [(0, .iconst 0, 1, [], 0),
  (1, .istore_n 2, 1, [], 0),
  (2, .iconst 0, 1, [], 0),
  (3, .istore_n 3, 1, [], 0),
  (4, .iload_n 3, 1, [], 0),
  (5, .aload_n 0, 1, [], 0),
  (6, .getfield 39, 3, [8, 8], 0),
  (9, .if_icmp .ge 20, 3, [29], 0),
  (12, .iload_n 2, 1, [], 0),
  (13, .aload_n 0, 1, [], 0),
  (14, .iload_n 1, 1, [], 0),
  (15, .iload_n 3, 1, [], 0),
  (16, .invokevirtual 103, 3, [84, 2], 0),
  (19, .invokestatic 106, 3, [4], 0),
  (22, .istore_n 2, 1, [], 0),
  (23, .iinc 3 1, 3, [], 1),
  (26, .goto (-22), 3, [4], 0),
  (29, .iload_n 2, 1, [], 0),
  (30, .ireturn, 1, [], 0)]
def k_Thrift_hope : List (List (Nat × Nat)) := [[], [], [], [], [], [], [(2, 37)], [], [], [], [], [], [(4, 26), (4, 28), (0, 17), (1, 10), (4, 29)], [(4, 36)], [], [], [], [], []]
def c_Thrift_hopeWithLast : List zE := [(0, .aload_n 0, 1, [], 0),
  (1, .getfield 24, 3, [8, 5, 5, 100, 72], 0),
  (4, .iload_n 1, 1, [], 0),
  (5, .bipush 8, 2, [], 8),
  (7, .imul, 1, [], 0),
  (8, .iload_n 2, 1, [], 0),
  (9, .iadd, 1, [], 0),
  (10, .iaload, 1, [], 0),
  (11, .iconst 1, 1, [], 1),
  (12, .iload_n 2, 1, [], 0),
  (13, .ishl, 1, [], 0),
  (14, .ior, 1, [], 0),
  (15, .istore_n 3, 1, [], 0),
  (16, .aload_n 0, 1, [], 0),
  (17, .getfield 40, 3, [8, 9], 0),
  (20, .aload_n 0, 1, [], 0),
  (21, .getfield 15, 3, [8, 1, 2, 100, 256], 0),
  (24, .iload_n 3, 1, [], 0),
  (25, .iaload, 1, [], 0),
  (26, .isub, 1, [], 0),
  (27, .istore 4, 2, [], 0),
  (29, .iload 4, 2, [], 0),
  (31, .ifCond .ge 5, 3, [36], 0),
  (34, .iconst 0, 1, [], 0),
  (35, .ireturn, 1, [], 0),
  (36, .iload_n 3, 1, [], 0),
  (37, .invokestatic 111, 3, [1, 255, 1], 0),
  (40, .istore 5, 2, [], 0),
  (42, .aload_n 0, 1, [], 0),
  (43, .iload_n 1, 1, [], 0),
  (44, .iload_n 2, 1, [], 0),
  (45, .invokevirtual 100, 3, [85, 2], 0),
  (48, .istore 6, 2, [], 0),
  (50, .iconst 0, 1, [], 0),
  (51, .istore 7, 2, [], 0),
  (53, .iload 7, 2, [], 0),
  (55, .aload_n 0, 1, [], 0),
  (56, .getfield 39, 3, [8, 8], 0),
  (59, .if_icmp .ge 91, 3, [150], 0),
  (62, .aload_n 0, 1, [], 0),
  (63, .getfield 18, 3, [8, 2, 3, 100, 8], 0),
  (66, .iload 7, 2, [], 0),
  (68, .iaload, 1, [], 0),
  (69, .istore 8, 2, [], 0),
  (71, .aload_n 0, 1, [], 0),
  (72, .getfield 15, 3, [8, 1, 2, 100, 256], 0),
  (75, .iconst 1, 1, [], 1),
  (76, .iload 8, 2, [], 0),
  (78, .ishl, 1, [], 0),
  (79, .iaload, 1, [], 0),
  (80, .istore 9, 2, [], 0),
  (82, .iload 6, 2, [], 0),
  (84, .iload 8, 2, [], 0),
  (86, .invokestatic 88, 3, [2, 17, 2], 0),
  (89, .ifCond .eq 55, 3, [144], 0),
  (92, .iload 9, 2, [], 0),
  (94, .iload 4, 2, [], 0),
  (96, .if_icmp .gt 48, 3, [144], 0),
  (99, .iload_n 3, 1, [], 0),
  (100, .aload_n 0, 1, [], 0),
  (101, .getfield 24, 3, [8, 5, 5, 100, 72], 0),
  (104, .iload_n 1, 1, [], 0),
  (105, .bipush 8, 2, [], 8),
  (107, .imul, 1, [], 0),
  (108, .iload 8, 2, [], 0),
  (110, .iadd, 1, [], 0),
  (111, .iaload, 1, [], 0),
  (112, .ior, 1, [], 0),
  (113, .iconst 1, 1, [], 1),
  (114, .iload 8, 2, [], 0),
  (116, .ishl, 1, [], 0),
  (117, .ior, 1, [], 0),
  (118, .istore 10, 2, [], 0),
  (120, .aload_n 0, 1, [], 0),
  (121, .getfield 15, 3, [8, 1, 2, 100, 256], 0),
  (124, .iload 10, 2, [], 0),
  (126, .iaload, 1, [], 0),
  (127, .aload_n 0, 1, [], 0),
  (128, .getfield 40, 3, [8, 9], 0),
  (131, .if_icmp .gt 13, 3, [144], 0),
  (134, .iload 4, 2, [], 0),
  (136, .iload 9, 2, [], 0),
  (138, .isub, 1, [], 0),
  (139, .istore 4, 2, [], 0),
  (141, .iinc 5 1, 3, [], 1),
  (144, .iinc 7 1, 3, [], 1),
  (147, .goto (-94), 3, [53], 0),
  (150, .iload 5, 2, [], 0),
  (152, .ireturn, 1, [], 0)]
def k_Thrift_hopeWithLast : List (List (Nat × Nat)) := [[], [(2, 34)], [], [], [], [], [], [], [], [], [], [], [], [], [(2, 38)], [], [(2, 30)], [], [], [], [], [], [], [], [], [], [(4, 30), (3, 137), (1, 23), (3, 138)], [], [], [], [], [(4, 31), (4, 33), (0, 18), (1, 10), (4, 34)], [], [], [], [], [], [(2, 37)], [], [], [(2, 31)], [], [], [], [], [(2, 30)], [], [], [], [], [], [], [], [(2, 215), (1, 1), (2, 216), (4, 35)], [], [], [], [], [], [], [(2, 34)], [], [], [], [], [], [], [], [], [], [], [], [], [], [(2, 30)], [], [], [], [(2, 38)], [], [], [], [], [], [], [], [], [], []]
def c_Thrift_openFor : List zE := [(0, .iload_n 1, 1, [], 0),
  (1, .bipush 8, 2, [], 8),
  (3, .imul, 1, [], 0),
  (4, .iload_n 2, 1, [], 0),
  (5, .iadd, 1, [], 0),
  (6, .istore_n 3, 1, [], 0),
  (7, .iconst 1, 1, [], 1),
  (8, .aload_n 0, 1, [], 0),
  (9, .getfield 39, 3, [8, 8], 0),
  (12, .ishl, 1, [], 0),
  (13, .iconst 1, 1, [], 1),
  (14, .isub, 1, [], 0),
  (15, .aload_n 0, 1, [], 0),
  (16, .getfield 24, 3, [8, 5, 5, 100, 72], 0),
  (19, .iload_n 3, 1, [], 0),
  (20, .iaload, 1, [], 0),
  (21, .aload_n 0, 1, [], 0),
  (22, .getfield 27, 3, [8, 6, 6, 100, 72], 0),
  (25, .iload_n 3, 1, [], 0),
  (26, .iaload, 1, [], 0),
  (27, .ior, 1, [], 0),
  (28, .iconst 1, 1, [], 1),
  (29, .iload_n 2, 1, [], 0),
  (30, .ishl, 1, [], 0),
  (31, .ior, 1, [], 0),
  (32, .iconst (-1), 1, [], (-1)),
  (33, .ixor, 1, [], 0),
  (34, .iand, 1, [], 0),
  (35, .ireturn, 1, [], 0)]
def k_Thrift_openFor : List (List (Nat × Nat)) := [[], [], [], [], [], [], [], [], [(2, 37)], [], [], [], [], [(2, 34)], [], [], [], [(2, 35)], [], [], [], [], [], [], [], [], [], [], []]
def c_Thrift_isSettled : List zE := [(0, .iconst 0, 1, [], 0),
  (1, .istore_n 2, 1, [], 0),
  (2, .iload_n 2, 1, [], 0),
  (3, .aload_n 0, 1, [], 0),
  (4, .getfield 39, 3, [8, 8], 0),
  (7, .if_icmp .ge 20, 3, [27], 0),
  (10, .aload_n 0, 1, [], 0),
  (11, .iload_n 1, 1, [], 0),
  (12, .iload_n 2, 1, [], 0),
  (13, .invokevirtual 100, 3, [85, 2], 0),
  (16, .ifCond .eq 5, 3, [21], 0),
  (19, .iconst 0, 1, [], 0),
  (20, .ireturn, 1, [], 1),
  (21, .iinc 2 1, 3, [], 1),
  (24, .goto (-22), 3, [2], 0),
  (27, .iconst 1, 1, [], 1),
  (28, .ireturn, 1, [], 1)]
def k_Thrift_isSettled : List (List (Nat × Nat)) := [[], [], [], [], [(2, 37)], [], [], [], [], [(4, 31), (4, 33), (0, 18), (1, 10), (4, 34)], [], [], [], [], [], [], []]
def c_Thrift_keepBest : List zE := [(0, .aload_n 0, 1, [], 0),
  (1, .iload_n 3, 1, [], 0),
  (2, .putfield 56, 3, [8, 10], 0),
  (5, .iload_n 1, 1, [], 0),
  (6, .istore 4, 2, [], 0),
  (8, .iconst 0, 1, [], 0),
  (9, .istore 5, 2, [], 0),
  (11, .iload 5, 2, [], 0),
  (13, .bipush 8, 2, [], 8),
  (15, .if_icmp .ge 49, 3, [64], 0),
  (18, .iload 4, 2, [], 0),
  (20, .bipush 8, 2, [], 8),
  (22, .if_icmp .ge 42, 3, [64], 0),
  (25, .aload_n 0, 1, [], 0),
  (26, .getfield 77, 3, [8, 4], 0),
  (29, .iload 5, 2, [], 0),
  (31, .invokestatic 88, 3, [2, 17, 2], 0),
  (34, .ifCond .eq 24, 3, [58], 0),
  (37, .iload_n 2, 1, [], 0),
  (38, .iload 5, 2, [], 0),
  (40, .invokestatic 88, 3, [2, 17, 2], 0),
  (43, .ifCond .ne 15, 3, [58], 0),
  (46, .aload_n 0, 1, [], 0),
  (47, .getfield 30, 3, [8, 7, 7, 100, 8], 0),
  (50, .iload 4, 2, [], 0),
  (52, .iload 5, 2, [], 0),
  (54, .iastore, 1, [], 0),
  (55, .iinc 4 1, 3, [], 1),
  (58, .iinc 5 1, 3, [], 1),
  (61, .goto (-50), 3, [11], 0),
  (64, .iconst 0, 1, [], 0),
  (65, .istore 5, 2, [], 0),
  (67, .aload_n 0, 1, [], 0),
  (68, .iconst 0, 1, [], 0),
  (69, .invokevirtual 116, 3, [88, 1], 0),
  (72, .istore 6, 2, [], 0),
  (74, .iconst 0, 1, [], 0),
  (75, .istore 7, 2, [], 0),
  (77, .iload 7, 2, [], 0),
  (79, .bipush 8, 2, [], 8),
  (81, .if_icmp .ge 67, 3, [148], 0),
  (84, .iload 5, 2, [], 0),
  (86, .iload 4, 2, [], 0),
  (88, .if_icmp .ge 35, 3, [123], 0),
  (91, .aload_n 0, 1, [], 0),
  (92, .getfield 30, 3, [8, 7, 7, 100, 8], 0),
  (95, .iload 5, 2, [], 0),
  (97, .iaload, 1, [], 0),
  (98, .iload 6, 2, [], 0),
  (100, .if_icmp .ge 23, 3, [123], 0),
  (103, .aload_n 0, 1, [], 0),
  (104, .getfield 9, 3, [8, 0, 1, 100, 8], 0),
  (107, .iload 7, 2, [], 0),
  (109, .aload_n 0, 1, [], 0),
  (110, .getfield 30, 3, [8, 7, 7, 100, 8], 0),
  (113, .iload 5, 2, [], 0),
  (115, .iaload, 1, [], 0),
  (116, .iastore, 1, [], 0),
  (117, .iinc 5 1, 3, [], 1),
  (120, .goto 22, 3, [142], 0),
  (123, .aload_n 0, 1, [], 0),
  (124, .getfield 9, 3, [8, 0, 1, 100, 8], 0),
  (127, .iload 7, 2, [], 0),
  (129, .iload 6, 2, [], 0),
  (131, .iastore, 1, [], 0),
  (132, .aload_n 0, 1, [], 0),
  (133, .iload 6, 2, [], 0),
  (135, .iconst 1, 1, [], 1),
  (136, .iadd, 1, [], 0),
  (137, .invokevirtual 116, 3, [88, 1], 0),
  (140, .istore 6, 2, [], 0),
  (142, .iinc 7 1, 3, [], 1),
  (145, .goto (-68), 3, [77], 0),
  (148, .return_, 1, [], 0)]
def k_Thrift_keepBest : List (List (Nat × Nat)) := [[], [], [(2, 39)], [], [], [], [], [], [], [], [], [], [], [], [(2, 33)], [], [(2, 215), (1, 1), (2, 216), (4, 35)], [], [], [], [(2, 215), (1, 1), (2, 216), (4, 35)], [], [], [(2, 36)], [], [], [], [], [], [], [], [], [], [], [(4, 45), (4, 47), (0, 21), (1, 10), (4, 48)], [], [], [], [], [], [], [], [], [], [], [(2, 36)], [], [], [], [], [], [(2, 28)], [], [], [(2, 36)], [], [], [], [], [], [], [(2, 28)], [], [], [], [], [], [], [], [(4, 45), (4, 47), (0, 21), (1, 10), (4, 48)], [], [], [], []]
def c_Thrift_nextIdle : List zE := [(0, .iload_n 1, 1, [], 0),
  (1, .istore_n 2, 1, [], 0),
  (2, .iload_n 2, 1, [], 0),
  (3, .bipush 8, 2, [], 8),
  (5, .if_icmp .ge 22, 3, [27], 0),
  (8, .aload_n 0, 1, [], 0),
  (9, .getfield 77, 3, [8, 4], 0),
  (12, .iload_n 2, 1, [], 0),
  (13, .invokestatic 88, 3, [2, 17, 2], 0),
  (16, .ifCond .ne 5, 3, [21], 0),
  (19, .iload_n 2, 1, [], 0),
  (20, .ireturn, 1, [], 0),
  (21, .iinc 2 1, 3, [], 1),
  (24, .goto (-22), 3, [2], 0),
  (27, .bipush 8, 2, [], 8),
  (29, .ireturn, 1, [], 0)]
def k_Thrift_nextIdle : List (List (Nat × Nat)) := [[], [], [], [], [], [], [(2, 33)], [], [(2, 215), (1, 1), (2, 216), (4, 35)], [], [], [], [], [], [], []]
def c_Thrift_setNext : List zE := [(0, .iconst 0, 1, [], 0),
  (1, .istore_n 3, 1, [], 0),
  (2, .iload_n 3, 1, [], 0),
  (3, .bipush 8, 2, [], 8),
  (5, .if_icmp .ge 122, 3, [127], 0),
  (8, .aload_n 0, 1, [], 0),
  (9, .getfield 56, 3, [8, 10], 0),
  (12, .aload_n 0, 1, [], 0),
  (13, .getfield 62, 3, [8, 11], 0),
  (16, .if_icmp .ge 111, 3, [127], 0),
  (19, .aload_n 0, 1, [], 0),
  (20, .getfield 77, 3, [8, 4], 0),
  (23, .iload_n 3, 1, [], 0),
  (24, .invokestatic 88, 3, [2, 17, 2], 0),
  (27, .ifCond .eq 94, 3, [121], 0),
  (30, .iload_n 2, 1, [], 0),
  (31, .iload_n 3, 1, [], 0),
  (32, .invokestatic 88, 3, [2, 17, 2], 0),
  (35, .ifCond .eq 6, 3, [41], 0),
  (38, .goto 83, 3, [121], 0),
  (41, .iload_n 2, 1, [], 0),
  (42, .iconst 1, 1, [], 1),
  (43, .iload_n 3, 1, [], 0),
  (44, .ishl, 1, [], 0),
  (45, .ior, 1, [], 0),
  (46, .istore 4, 2, [], 0),
  (48, .aload_n 0, 1, [], 0),
  (49, .getfield 30, 3, [8, 7, 7, 100, 8], 0),
  (52, .iload_n 1, 1, [], 0),
  (53, .iload_n 3, 1, [], 0),
  (54, .iastore, 1, [], 0),
  (55, .aload_n 0, 1, [], 0),
  (56, .iload_n 1, 1, [], 0),
  (57, .iload_n 2, 1, [], 0),
  (58, .iload_n 3, 1, [], 0),
  (59, .invokevirtual 91, 3, [90, 3], 0),
  (62, .aload_n 0, 1, [], 0),
  (63, .iload_n 1, 1, [], 0),
  (64, .iconst 1, 1, [], 1),
  (65, .iadd, 1, [], 0),
  (66, .invokevirtual 59, 3, [83, 1], 0),
  (69, .istore 5, 2, [], 0),
  (71, .iload 5, 2, [], 0),
  (73, .aload_n 0, 1, [], 0),
  (74, .getfield 56, 3, [8, 10], 0),
  (77, .if_icmp .le 44, 3, [121], 0),
  (80, .iload_n 1, 1, [], 0),
  (81, .iconst 1, 1, [], 1),
  (82, .iadd, 1, [], 0),
  (83, .bipush 8, 2, [], 8),
  (85, .if_icmp .ge 25, 3, [110], 0),
  (88, .aload_n 0, 1, [], 0),
  (89, .iload_n 1, 1, [], 0),
  (90, .iconst 1, 1, [], 1),
  (91, .iadd, 1, [], 0),
  (92, .invokevirtual 65, 3, [86, 1], 0),
  (95, .ifCond .ne 15, 3, [110], 0),
  (98, .aload_n 0, 1, [], 0),
  (99, .iload_n 1, 1, [], 0),
  (100, .iconst 1, 1, [], 1),
  (101, .iadd, 1, [], 0),
  (102, .iload 4, 2, [], 0),
  (104, .invokevirtual 73, 3, [89, 2], 0),
  (107, .goto 14, 3, [121], 0),
  (110, .aload_n 0, 1, [], 0),
  (111, .iload_n 1, 1, [], 0),
  (112, .iconst 1, 1, [], 1),
  (113, .iadd, 1, [], 0),
  (114, .iload 4, 2, [], 0),
  (116, .iload 5, 2, [], 0),
  (118, .invokevirtual 69, 3, [87, 3], 0),
  (121, .iinc 3 1, 3, [], 1),
  (124, .goto (-122), 3, [2], 0),
  (127, .return_, 1, [], 0)]
def k_Thrift_setNext : List (List (Nat × Nat)) := [[], [], [], [], [], [], [(2, 39)], [], [(2, 40)], [], [], [(2, 33)], [], [(2, 215), (1, 1), (2, 216), (4, 35)], [], [], [], [(2, 215), (1, 1), (2, 216), (4, 35)], [], [], [], [], [], [], [], [], [], [(2, 36)], [], [], [], [], [], [], [], [(4, 53), (4, 55), (0, 23), (1, 10), (4, 56)], [], [], [], [], [(4, 22), (4, 24), (0, 16), (1, 10), (4, 25)], [], [], [], [(2, 39)], [], [], [], [], [], [], [], [], [], [], [(4, 37), (4, 39), (0, 19), (1, 10), (4, 40)], [], [], [], [], [], [], [(4, 49), (4, 51), (0, 22), (1, 10), (4, 52)], [], [], [], [], [], [], [], [(4, 41), (4, 43), (0, 20), (1, 10), (4, 44)], [], [], []]
def c_Thrift_settle : List zE := [(0, .iload_n 1, 1, [], 0),
  (1, .bipush 8, 2, [], 8),
  (3, .imul, 1, [], 0),
  (4, .istore 4, 2, [], 0),
  (6, .iload 4, 2, [], 0),
  (8, .bipush 8, 2, [], 8),
  (10, .iadd, 1, [], 0),
  (11, .istore 5, 2, [], 0),
  (13, .aload_n 0, 1, [], 0),
  (14, .getfield 24, 3, [8, 5, 5, 100, 72], 0),
  (17, .iload 4, 2, [], 0),
  (19, .aload_n 0, 1, [], 0),
  (20, .getfield 24, 3, [8, 5, 5, 100, 72], 0),
  (23, .iload 5, 2, [], 0),
  (25, .bipush 8, 2, [], 8),
  (27, .invokestatic 94, 3, [5], 0),
  (30, .aload_n 0, 1, [], 0),
  (31, .getfield 27, 3, [8, 6, 6, 100, 72], 0),
  (34, .iload 4, 2, [], 0),
  (36, .aload_n 0, 1, [], 0),
  (37, .getfield 27, 3, [8, 6, 6, 100, 72], 0),
  (40, .iload 5, 2, [], 0),
  (42, .bipush 8, 2, [], 8),
  (44, .invokestatic 94, 3, [5], 0),
  (47, .iconst 0, 1, [], 0),
  (48, .istore 6, 2, [], 0),
  (50, .iload 6, 2, [], 0),
  (52, .aload_n 0, 1, [], 0),
  (53, .getfield 39, 3, [8, 8], 0),
  (56, .if_icmp .ge 108, 3, [164], 0),
  (59, .iconst 0, 1, [], 0),
  (60, .istore 7, 2, [], 0),
  (62, .iload 7, 2, [], 0),
  (64, .aload_n 0, 1, [], 0),
  (65, .getfield 39, 3, [8, 8], 0),
  (68, .if_icmp .ge 90, 3, [158], 0),
  (71, .aload_n 0, 1, [], 0),
  (72, .getfield 21, 3, [8, 3, 4, 100, 64], 0),
  (75, .iload 6, 2, [], 0),
  (77, .bipush 8, 2, [], 8),
  (79, .imul, 1, [], 0),
  (80, .iload 7, 2, [], 0),
  (82, .iadd, 1, [], 0),
  (83, .iaload, 1, [], 0),
  (84, .iload_n 3, 1, [], 0),
  (85, .if_icmp .ne 67, 3, [152], 0),
  (88, .aload_n 0, 1, [], 0),
  (89, .getfield 21, 3, [8, 3, 4, 100, 64], 0),
  (92, .iload 7, 2, [], 0),
  (94, .bipush 8, 2, [], 8),
  (96, .imul, 1, [], 0),
  (97, .iload 6, 2, [], 0),
  (99, .iadd, 1, [], 0),
  (100, .iaload, 1, [], 0),
  (101, .istore 8, 2, [], 0),
  (103, .iload 8, 2, [], 0),
  (105, .iconst (-1), 1, [], (-1)),
  (106, .if_icmp .eq 46, 3, [152], 0),
  (109, .iload_n 2, 1, [], 0),
  (110, .iload 8, 2, [], 0),
  (112, .invokestatic 88, 3, [2, 17, 2], 0),
  (115, .ifCond .ne 37, 3, [152], 0),
  (118, .aload_n 0, 1, [], 0),
  (119, .getfield 27, 3, [8, 6, 6, 100, 72], 0),
  (122, .iload 5, 2, [], 0),
  (124, .iload 6, 2, [], 0),
  (126, .iadd, 1, [], 0),
  (127, .dup2, 1, [], 0),
  (128, .iaload, 1, [], 0),
  (129, .iconst 1, 1, [], 1),
  (130, .iload 7, 2, [], 0),
  (132, .ishl, 1, [], 0),
  (133, .ior, 1, [], 0),
  (134, .iastore, 1, [], 0),
  (135, .aload_n 0, 1, [], 0),
  (136, .getfield 24, 3, [8, 5, 5, 100, 72], 0),
  (139, .iload 5, 2, [], 0),
  (141, .iload 7, 2, [], 0),
  (143, .iadd, 1, [], 0),
  (144, .dup2, 1, [], 0),
  (145, .iaload, 1, [], 0),
  (146, .iconst 1, 1, [], 1),
  (147, .iload 6, 2, [], 0),
  (149, .ishl, 1, [], 0),
  (150, .ior, 1, [], 0),
  (151, .iastore, 1, [], 0),
  (152, .iinc 7 1, 3, [], 1),
  (155, .goto (-93), 3, [62], 0),
  (158, .iinc 6 1, 3, [], 1),
  (161, .goto (-111), 3, [50], 0),
  (164, .return_, 1, [], 0)]
def k_Thrift_settle : List (List (Nat × Nat)) := [[], [], [], [], [], [], [], [], [], [(2, 34)], [], [], [(2, 34)], [], [], [(4, 57)], [], [(2, 35)], [], [], [(2, 35)], [], [], [(4, 57)], [], [], [], [], [(2, 37)], [], [], [], [], [], [(2, 37)], [], [], [(2, 32)], [], [], [], [], [], [], [], [], [], [(2, 32)], [], [], [], [], [], [], [], [], [], [], [], [], [(2, 215), (1, 1), (2, 216), (4, 35)], [], [], [(2, 35)], [], [], [], [], [], [], [], [], [], [], [], [(2, 34)], [], [], [], [], [], [], [], [], [], [], [], [], [], [], []]
def c_W_likes : List zE := [(0, .aload_n 0, 1, [], 0),
  (1, .getfield 36, 3, [10, 4, 23, 9, 0], 0),
  (4, .iload_n 1, 1, [], 0),
  (5, .invokevirtual 164, 3, [35, 1], 0),
  (8, .ifCond .ne 5, 3, [13], 0),
  (11, .iconst (-1), 1, [], (-1)),
  (12, .ireturn, 1, [], 0),
  (13, .aload_n 0, 1, [], 0),
  (14, .getfield 81, 3, [10, 15, 144, 2, 0], 0),
  (17, .aload_n 0, 1, [], 0),
  (18, .getfield 36, 3, [10, 4, 23, 9, 0], 0),
  (21, .iload_n 1, 1, [], 0),
  (22, .aload_n 0, 1, [], 0),
  (23, .getfield 99, 3, [10, 18, 162, 100, 8], 0),
  (26, .invokevirtual 320, 3, [92, 3], 0),
  (29, .istore_n 2, 1, [], 0),
  (30, .aload_n 0, 1, [], 0),
  (31, .getfield 19, 3, [10, 1, 3, 5, 0], 0),
  (34, .aload_n 0, 1, [], 0),
  (35, .getfield 99, 3, [10, 18, 162, 100, 8], 0),
  (38, .bipush 8, 2, [], 8),
  (40, .invokevirtual 282, 3, [69, 2], 0),
  (43, .iload_n 2, 1, [], 0),
  (44, .ireturn, 1, [], 0)]
def k_W_likes : List (List (Nat × Nat)) := [[], [(2, 83)], [], [(3, 52), (3, 53), (3, 54), (1, 5), (3, 55)], [], [], [], [], [(2, 94)], [], [(2, 83)], [], [], [(2, 97)], [(4, 62), (4, 63), (4, 64), (1, 9), (4, 65)], [], [], [(2, 80)], [], [(2, 97)], [], [(3, 199), (3, 200), (3, 201), (1, 3), (3, 202)], [], []]
def c_Orders_leastPlace : List zE := [(0, .aload_n 0, 1, [], 0),
  (1, .aload_n 1, 1, [], 0),
  (2, .iload_n 2, 1, [], 0),
  (3, .invokevirtual 30, 3, [93, 2], 0),
  (6, .istore 4, 2, [], 0),
  (8, .sipush 255, 3, [], 255),
  (11, .istore 5, 2, [], 0),
  (13, .iload 5, 2, [], 0),
  (15, .ifCond .lt 94, 3, [109], 0),
  (18, .aload_n 0, 1, [], 0),
  (19, .getfield 18, 3, [2, 2, 3, 100, 256], 0),
  (22, .iload 5, 2, [], 0),
  (24, .iload 5, 2, [], 0),
  (26, .sipush 255, 3, [], 255),
  (29, .if_icmp .ne 7, 3, [36], 0),
  (32, .iconst 0, 1, [], 0),
  (33, .goto 5, 3, [38], 0),
  (36, .bipush 8, 2, [], 8),
  (38, .iastore, 1, [], 0),
  (39, .iconst 0, 1, [], 0),
  (40, .istore 6, 2, [], 0),
  (42, .iload 6, 2, [], 0),
  (44, .bipush 8, 2, [], 8),
  (46, .if_icmp .ge 57, 3, [103], 0),
  (49, .iload 5, 2, [], 0),
  (51, .iload 6, 2, [], 0),
  (53, .invokestatic 34, 3, [2, 17, 2], 0),
  (56, .ifCond .ne 41, 3, [97], 0),
  (59, .aload_n 0, 1, [], 0),
  (60, .getfield 18, 3, [2, 2, 3, 100, 256], 0),
  (63, .iload 5, 2, [], 0),
  (65, .aload_n 0, 1, [], 0),
  (66, .getfield 18, 3, [2, 2, 3, 100, 256], 0),
  (69, .iload 5, 2, [], 0),
  (71, .iaload, 1, [], 0),
  (72, .aload_n 0, 1, [], 0),
  (73, .iload 6, 2, [], 0),
  (75, .iload 5, 2, [], 0),
  (77, .invokevirtual 38, 3, [94, 2], 0),
  (80, .aload_n 0, 1, [], 0),
  (81, .getfield 18, 3, [2, 2, 3, 100, 256], 0),
  (84, .iload 5, 2, [], 0),
  (86, .iconst 1, 1, [], 1),
  (87, .iload 6, 2, [], 0),
  (89, .ishl, 1, [], 0),
  (90, .ior, 1, [], 0),
  (91, .iaload, 1, [], 0),
  (92, .iadd, 1, [], 0),
  (93, .invokestatic 42, 3, [3], 0),
  (96, .iastore, 1, [], 0),
  (97, .iinc 6 1, 3, [], 1),
  (100, .goto (-58), 3, [42], 0),
  (103, .iinc 5 (-1), 3, [], (-1)),
  (106, .goto (-93), 3, [13], 0),
  (109, .iconst 0, 1, [], 0),
  (110, .istore 5, 2, [], 0),
  (112, .iconst 0, 1, [], 0),
  (113, .istore 6, 2, [], 0),
  (115, .iload 6, 2, [], 0),
  (117, .bipush 8, 2, [], 8),
  (119, .if_icmp .ge 32, 3, [151], 0),
  (122, .aload_n 0, 1, [], 0),
  (123, .iload 5, 2, [], 0),
  (125, .invokevirtual 47, 3, [95, 1], 0),
  (128, .istore 7, 2, [], 0),
  (130, .aload_n 3, 1, [], 0),
  (131, .iload 6, 2, [], 0),
  (133, .iload 7, 2, [], 0),
  (135, .iastore, 1, [], 0),
  (136, .iload 5, 2, [], 0),
  (138, .iconst 1, 1, [], 1),
  (139, .iload 7, 2, [], 0),
  (141, .ishl, 1, [], 0),
  (142, .ior, 1, [], 0),
  (143, .istore 5, 2, [], 0),
  (145, .iinc 6 1, 3, [], 1),
  (148, .goto (-33), 3, [115], 0),
  (151, .iload 4, 2, [], 0),
  (153, .aload_n 0, 1, [], 0),
  (154, .getfield 18, 3, [2, 2, 3, 100, 256], 0),
  (157, .iconst 0, 1, [], 0),
  (158, .iaload, 1, [], 0),
  (159, .iadd, 1, [], 0),
  (160, .ireturn, 1, [], 0)]
def k_Orders_leastPlace : List (List (Nat × Nat)) := [[], [], [], [(4, 66), (4, 68), (0, 24), (1, 9), (4, 69)], [], [], [], [], [], [], [(2, 2)], [], [], [], [], [], [], [], [], [], [], [], [], [], [], [], [(2, 215), (1, 1), (2, 216), (4, 75)], [], [], [(2, 2)], [], [], [(2, 2)], [], [], [], [], [], [(4, 76), (4, 78), (0, 25), (1, 9), (4, 79)], [], [(2, 2)], [], [], [], [], [], [], [], [(4, 80)], [], [], [], [], [], [], [], [], [], [], [], [], [], [], [(4, 81), (4, 83), (0, 26), (1, 9), (4, 84)], [], [], [], [], [], [], [], [], [], [], [], [], [], [], [], [(2, 2)], [], [], [], []]
def c_Orders_lossesOf : List zE := [(0, .aload_n 0, 1, [], 0),
  (1, .getfield 9, 3, [2, 0, 1, 100, 64], 0),
  (4, .iconst 0, 1, [], 0),
  (5, .invokestatic 51, 3, [1, 256, 2], 0),
  (8, .aload_n 0, 1, [], 0),
  (9, .getfield 15, 3, [2, 1, 2, 100, 8], 0),
  (12, .iconst 0, 1, [], 0),
  (13, .invokestatic 51, 3, [1, 256, 2], 0),
  (16, .iconst 0, 1, [], 0),
  (17, .istore_n 3, 1, [], 0),
  (18, .iconst 0, 1, [], 0),
  (19, .istore 4, 2, [], 0),
  (21, .iload 4, 2, [], 0),
  (23, .aload_n 1, 1, [], 0),
  (24, .getfield 57, 3, [9, 5], 0),
  (27, .if_icmp .ge 86, 3, [113], 0),
  (30, .aload_n 1, 1, [], 0),
  (31, .iload_n 2, 1, [], 0),
  (32, .iload 4, 2, [], 0),
  (34, .invokevirtual 63, 3, [81, 2], 0),
  (37, .istore 5, 2, [], 0),
  (39, .aload_n 1, 1, [], 0),
  (40, .iload 4, 2, [], 0),
  (42, .iload_n 2, 1, [], 0),
  (43, .invokevirtual 63, 3, [81, 2], 0),
  (46, .istore 6, 2, [], 0),
  (48, .iload 5, 2, [], 0),
  (50, .iconst (-1), 1, [], (-1)),
  (51, .if_icmp .eq 43, 3, [94], 0),
  (54, .iload 6, 2, [], 0),
  (56, .iconst (-1), 1, [], (-1)),
  (57, .if_icmp .eq 37, 3, [94], 0),
  (60, .aload_n 0, 1, [], 0),
  (61, .getfield 9, 3, [2, 0, 1, 100, 64], 0),
  (64, .iload 5, 2, [], 0),
  (66, .bipush 8, 2, [], 8),
  (68, .imul, 1, [], 0),
  (69, .iload 6, 2, [], 0),
  (71, .iadd, 1, [], 0),
  (72, .dup2, 1, [], 0),
  (73, .iaload, 1, [], 0),
  (74, .iconst 1, 1, [], 1),
  (75, .iadd, 1, [], 0),
  (76, .iastore, 1, [], 0),
  (77, .aload_n 0, 1, [], 0),
  (78, .getfield 15, 3, [2, 1, 2, 100, 8], 0),
  (81, .iload 5, 2, [], 0),
  (83, .dup2, 1, [], 0),
  (84, .iaload, 1, [], 0),
  (85, .iconst 1, 1, [], 1),
  (86, .iload 6, 2, [], 0),
  (88, .ishl, 1, [], 0),
  (89, .ior, 1, [], 0),
  (90, .iastore, 1, [], 0),
  (91, .goto 16, 3, [107], 0),
  (94, .aload_n 1, 1, [], 0),
  (95, .iload 4, 2, [], 0),
  (97, .iload_n 2, 1, [], 0),
  (98, .invokevirtual 66, 3, [82, 2], 0),
  (101, .ifCond .eq 6, 3, [107], 0),
  (104, .iinc 3 1, 3, [], 1),
  (107, .iinc 4 1, 3, [], 1),
  (110, .goto (-89), 3, [21], 0),
  (113, .iload_n 3, 1, [], 0),
  (114, .ireturn, 1, [], 0)]
def k_Orders_lossesOf : List (List (Nat × Nat)) := [[], [(2, 0)], [], [(4, 70), (4, 71), (1, 24), (4, 72)], [], [(2, 1)], [], [(4, 70), (4, 71), (1, 24), (4, 72)], [], [], [], [], [], [], [(1, 127)], [], [], [], [], [(4, 73), (4, 13), (4, 14), (1, 5), (4, 15)], [], [], [], [], [(4, 73), (4, 13), (4, 14), (1, 5), (4, 15)], [], [], [], [], [], [], [], [], [(2, 0)], [], [], [], [], [], [], [], [], [], [], [], [(2, 1)], [], [], [], [], [], [], [], [], [], [], [], [], [(4, 74), (4, 19), (4, 20), (1, 5), (4, 21)], [], [], [], [], [], []]
def c_Orders_loss : List zE := [(0, .iconst 0, 1, [], 0),
  (1, .istore_n 3, 1, [], 0),
  (2, .aload_n 0, 1, [], 0),
  (3, .getfield 15, 3, [2, 1, 2, 100, 8], 0),
  (6, .iload_n 1, 1, [], 0),
  (7, .iaload, 1, [], 0),
  (8, .iload_n 2, 1, [], 0),
  (9, .iand, 1, [], 0),
  (10, .istore 4, 2, [], 0),
  (12, .iconst 0, 1, [], 0),
  (13, .istore 5, 2, [], 0),
  (15, .iload 5, 2, [], 0),
  (17, .bipush 8, 2, [], 8),
  (19, .if_icmp .ge 42, 3, [61], 0),
  (22, .iload 4, 2, [], 0),
  (24, .iload 5, 2, [], 0),
  (26, .ishr, 1, [], 0),
  (27, .ifCond .eq 34, 3, [61], 0),
  (30, .iload 4, 2, [], 0),
  (32, .iload 5, 2, [], 0),
  (34, .invokestatic 34, 3, [2, 17, 2], 0),
  (37, .ifCond .eq 18, 3, [55], 0),
  (40, .iload_n 3, 1, [], 0),
  (41, .aload_n 0, 1, [], 0),
  (42, .getfield 9, 3, [2, 0, 1, 100, 64], 0),
  (45, .iload_n 1, 1, [], 0),
  (46, .bipush 8, 2, [], 8),
  (48, .imul, 1, [], 0),
  (49, .iload 5, 2, [], 0),
  (51, .iadd, 1, [], 0),
  (52, .iaload, 1, [], 0),
  (53, .iadd, 1, [], 0),
  (54, .istore_n 3, 1, [], 0),
  (55, .iinc 5 1, 3, [], 1),
  (58, .goto (-43), 3, [15], 0),
  (61, .iload_n 3, 1, [], 0),
  (62, .ireturn, 1, [], 0)]
def k_Orders_loss : List (List (Nat × Nat)) := [[], [], [], [(2, 1)], [], [], [], [], [], [], [], [], [], [], [], [], [], [], [], [], [(2, 215), (1, 1), (2, 216), (4, 75)], [], [], [], [(2, 0)], [], [], [], [], [], [], [], [], [], [], [], []]
def c_Orders_leastNext : List zE := [(0, .iconst 0, 1, [], 0),
  (1, .istore_n 2, 1, [], 0),
  (2, .iload_n 2, 1, [], 0),
  (3, .bipush 8, 2, [], 8),
  (5, .if_icmp .ge 45, 3, [50], 0),
  (8, .iload_n 1, 1, [], 0),
  (9, .iload_n 2, 1, [], 0),
  (10, .invokestatic 34, 3, [2, 17, 2], 0),
  (13, .ifCond .ne 31, 3, [44], 0),
  (16, .aload_n 0, 1, [], 0),
  (17, .iload_n 2, 1, [], 0),
  (18, .iload_n 1, 1, [], 0),
  (19, .invokevirtual 38, 3, [94, 2], 0),
  (22, .aload_n 0, 1, [], 0),
  (23, .getfield 18, 3, [2, 2, 3, 100, 256], 0),
  (26, .iload_n 1, 1, [], 0),
  (27, .iconst 1, 1, [], 1),
  (28, .iload_n 2, 1, [], 0),
  (29, .ishl, 1, [], 0),
  (30, .ior, 1, [], 0),
  (31, .iaload, 1, [], 0),
  (32, .iadd, 1, [], 0),
  (33, .aload_n 0, 1, [], 0),
  (34, .getfield 18, 3, [2, 2, 3, 100, 256], 0),
  (37, .iload_n 1, 1, [], 0),
  (38, .iaload, 1, [], 0),
  (39, .if_icmp .ne 5, 3, [44], 0),
  (42, .iload_n 2, 1, [], 0),
  (43, .ireturn, 1, [], 0),
  (44, .iinc 2 1, 3, [], 1),
  (47, .goto (-45), 3, [2], 0),
  (50, .iconst 0, 1, [], 0),
  (51, .ireturn, 1, [], 0)]
def k_Orders_leastNext : List (List (Nat × Nat)) := [[], [], [], [], [], [], [], [(2, 215), (1, 1), (2, 216), (4, 75)], [], [], [], [], [(4, 76), (4, 78), (0, 25), (1, 9), (4, 79)], [], [(2, 2)], [], [], [], [], [], [], [], [], [(2, 2)], [], [], [], [], [], [], [], [], []]
def c_W_rounds : List zE := [(0, .iload_n 1, 1, [], 0),
  (1, .iconst 1, 1, [], 1),
  (2, .if_icmp .lt 9, 3, [11], 0),
  (5, .iload_n 1, 1, [], 0),
  (6, .bipush 60, 2, [], 60),
  (8, .if_icmp .le 5, 3, [13], 0),
  (11, .iconst (-1), 1, [], (-1)),
  (12, .ireturn, 1, [], 0),
  (13, .aload_n 0, 1, [], 0),
  (14, .getfield 40, 3, [10, 5, 29, 9, 0], 0),
  (17, .aload_n 0, 1, [], 0),
  (18, .getfield 36, 3, [10, 4, 23, 9, 0], 0),
  (21, .invokevirtual 250, 3, [31, 1], 0),
  (24, .iconst 0, 1, [], 0),
  (25, .istore_n 2, 1, [], 0),
  (26, .iconst 0, 1, [], 0),
  (27, .istore_n 3, 1, [], 0),
  (28, .iload_n 3, 1, [], 0),
  (29, .iload_n 1, 1, [], 0),
  (30, .if_icmp .ge 39, 3, [69], 0),
  (33, .iload_n 2, 1, [], 0),
  (34, .aload_n 0, 1, [], 0),
  (35, .getfield 56, 3, [10, 8, 45, 4, 0], 0),
  (38, .aload_n 0, 1, [], 0),
  (39, .getfield 40, 3, [10, 5, 29, 9, 0], 0),
  (42, .aload_n 0, 1, [], 0),
  (43, .getfield 46, 3, [10, 6, 35, 0, 0], 0),
  (46, .aload_n 0, 1, [], 0),
  (47, .getfield 26, 3, [10, 2, 5, 6, 0], 0),
  (50, .iconst 1, 1, [], 1),
  (51, .invokevirtual 233, 3, [46, 4], 0),
  (54, .iadd, 1, [], 0),
  (55, .istore_n 2, 1, [], 0),
  (56, .aload_n 0, 1, [], 0),
  (57, .getfield 40, 3, [10, 5, 29, 9, 0], 0),
  (60, .invokevirtual 268, 3, [64, 0], 0),
  (63, .iinc 3 1, 3, [], 1),
  (66, .goto (-38), 3, [28], 0),
  (69, .iconst 0, 1, [], 0),
  (70, .istore_n 3, 1, [], 0),
  (71, .aload_n 0, 1, [], 0),
  (72, .getfield 36, 3, [10, 4, 23, 9, 0], 0),
  (75, .getfield 110, 3, [9, 5], 0),
  (78, .ifCond .ne 7, 3, [85], 0),
  (81, .iconst 0, 1, [], 0),
  (82, .goto 4, 3, [86], 0),
  (85, .iload_n 1, 1, [], 0),
  (86, .istore 4, 2, [], 0),
  (88, .iconst 0, 1, [], 0),
  (89, .istore 5, 2, [], 0),
  (91, .iload 5, 2, [], 0),
  (93, .aload_n 0, 1, [], 0),
  (94, .getfield 36, 3, [10, 4, 23, 9, 0], 0),
  (97, .getfield 110, 3, [9, 5], 0),
  (100, .if_icmp .ge 48, 3, [148], 0),
  (103, .aload_n 0, 1, [], 0),
  (104, .getfield 40, 3, [10, 5, 29, 9, 0], 0),
  (107, .getfield 173, 3, [9, 3, 4, 100, 8], 0),
  (110, .iload 5, 2, [], 0),
  (112, .iaload, 1, [], 0),
  (113, .aload_n 0, 1, [], 0),
  (114, .getfield 36, 3, [10, 4, 23, 9, 0], 0),
  (117, .getfield 173, 3, [9, 3, 4, 100, 8], 0),
  (120, .iload 5, 2, [], 0),
  (122, .iaload, 1, [], 0),
  (123, .isub, 1, [], 0),
  (124, .istore 6, 2, [], 0),
  (126, .iload_n 3, 1, [], 0),
  (127, .iload 6, 2, [], 0),
  (129, .invokestatic 203, 3, [4], 0),
  (132, .istore_n 3, 1, [], 0),
  (133, .iload 4, 2, [], 0),
  (135, .iload 6, 2, [], 0),
  (137, .invokestatic 198, 3, [3], 0),
  (140, .istore 4, 2, [], 0),
  (142, .iinc 5 1, 3, [], 1),
  (145, .goto (-54), 3, [91], 0),
  (148, .aload_n 0, 1, [], 0),
  (149, .getfield 19, 3, [10, 1, 3, 5, 0], 0),
  (152, .iload_n 3, 1, [], 0),
  (153, .i2l, 1, [], 0),
  (154, .iload 4, 2, [], 0),
  (156, .i2l, 1, [], 0),
  (157, .invokevirtual 243, 3, [55, 2], 0),
  (160, .iload_n 2, 1, [], 0),
  (161, .ireturn, 1, [], 0)]
def k_W_rounds : List (List (Nat × Nat)) := [[], [], [], [], [], [], [], [], [], [(2, 84)], [], [(2, 83)], [(3, 165), (3, 35), (3, 36), (1, 5), (3, 37)], [], [], [], [], [], [], [], [], [], [(2, 87)], [], [(2, 84)], [], [(2, 85)], [], [(2, 81)], [], [(3, 97), (3, 98), (3, 99), (1, 7), (3, 100)], [], [], [], [(2, 84)], [(3, 178), (3, 179), (3, 180), (1, 5), (3, 181)], [], [], [], [], [], [(2, 83)], [(1, 128)], [], [], [], [], [], [], [], [], [], [(2, 83)], [(1, 128)], [], [], [(2, 84)], [(1, 120)], [], [], [], [(2, 83)], [(1, 120)], [], [], [], [], [], [], [(3, 9)], [], [], [], [(3, 8)], [], [], [], [], [(2, 80)], [], [], [], [], [(3, 142), (3, 143), (3, 144), (1, 3), (3, 145)], [], []]
def c_W_votes : List zE := [(0, .aload_n 0, 1, [], 0),
  (1, .invokevirtual 324, 3, [98, 0], 0),
  (4, .istore_n 1, 1, [], 0),
  (5, .iload_n 1, 1, [], 0),
  (6, .iconst (-1), 1, [], (-1)),
  (7, .if_icmp .eq 9, 3, [16], 0),
  (10, .sipush (-10000), 3, [], (-10000)),
  (13, .iload_n 1, 1, [], 0),
  (14, .isub, 1, [], 0),
  (15, .ireturn, 1, [], 0),
  (16, .aload_n 0, 1, [], 0),
  (17, .getfield 46, 3, [10, 6, 35, 0, 0], 0),
  (20, .aload_n 0, 1, [], 0),
  (21, .getfield 50, 3, [10, 7, 40, 0, 0], 0),
  (24, .invokevirtual 327, 3, [99, 1], 0),
  (27, .istore_n 2, 1, [], 0),
  (28, .aload_n 0, 1, [], 0),
  (29, .getfield 19, 3, [10, 1, 3, 5, 0], 0),
  (32, .iload_n 2, 1, [], 0),
  (33, .i2l, 1, [], 0),
  (34, .aload_n 0, 1, [], 0),
  (35, .getfield 50, 3, [10, 7, 40, 0, 0], 0),
  (38, .aload_n 0, 1, [], 0),
  (39, .getfield 46, 3, [10, 6, 35, 0, 0], 0),
  (42, .invokevirtual 327, 3, [99, 1], 0),
  (45, .i2l, 1, [], 0),
  (46, .invokevirtual 243, 3, [55, 2], 0),
  (49, .iload_n 2, 1, [], 0),
  (50, .invokestatic 331, 3, [1, 255, 1], 0),
  (53, .ireturn, 1, [], 0)]
def k_W_votes : List (List (Nat × Nat)) := [[], [(4, 93), (4, 95), (0, 27), (1, 1), (4, 96)], [], [], [], [], [], [], [], [], [], [(2, 85)], [], [(2, 86)], [(4, 97), (4, 98), (4, 99), (1, 6), (4, 100)], [], [], [(2, 80)], [], [], [], [(2, 86)], [], [(2, 85)], [(4, 97), (4, 98), (4, 99), (1, 6), (4, 100)], [], [(3, 142), (3, 143), (3, 144), (1, 3), (3, 145)], [], [(4, 101), (3, 137), (1, 23), (3, 138)], []]
def c_W_readOtherOrder : List zE := [(0, .aload_n 0, 1, [], 0),
  (1, .getfield 12, 3, [10, 0, 1, 7, 0], 0),
  (4, .invokevirtual 206, 3, [29, 0], 0),
  (7, .istore_n 1, 1, [], 0),
  (8, .iload_n 1, 1, [], 0),
  (9, .iconst (-1), 1, [], (-1)),
  (10, .if_icmp .ne 47, 3, [57], 0),
  (13, .aload_n 0, 1, [], 0),
  (14, .getfield 12, 3, [10, 0, 1, 7, 0], 0),
  (17, .aload_n 0, 1, [], 0),
  (18, .getfield 99, 3, [10, 18, 162, 100, 8], 0),
  (21, .invokevirtual 216, 3, [32, 1], 0),
  (24, .aload_n 0, 1, [], 0),
  (25, .getfield 46, 3, [10, 6, 35, 0, 0], 0),
  (28, .aload_n 0, 1, [], 0),
  (29, .getfield 36, 3, [10, 4, 23, 9, 0], 0),
  (32, .aload_n 0, 1, [], 0),
  (33, .getfield 36, 3, [10, 4, 23, 9, 0], 0),
  (36, .getfield 209, 3, [9, 0, 1, 100, 8], 0),
  (39, .invokevirtual 275, 3, [38, 2], 0),
  (42, .aload_n 0, 1, [], 0),
  (43, .getfield 50, 3, [10, 7, 40, 0, 0], 0),
  (46, .aload_n 0, 1, [], 0),
  (47, .getfield 36, 3, [10, 4, 23, 9, 0], 0),
  (50, .aload_n 0, 1, [], 0),
  (51, .getfield 99, 3, [10, 18, 162, 100, 8], 0),
  (54, .invokevirtual 275, 3, [38, 2], 0),
  (57, .aload_n 0, 1, [], 0),
  (58, .getfield 12, 3, [10, 0, 1, 7, 0], 0),
  (61, .iconst 0, 1, [], 0),
  (62, .putfield 106, 3, [7, 1], 0),
  (65, .iload_n 1, 1, [], 0),
  (66, .ireturn, 1, [], 0)]
def k_W_readOtherOrder : List (List (Nat × Nat)) := [[], [(2, 79)], [(3, 25), (3, 26), (3, 27), (1, 2), (3, 28)], [], [], [], [], [], [(2, 79)], [], [(2, 97)], [(3, 40), (3, 41), (3, 42), (1, 2), (3, 43)], [], [(2, 85)], [], [(2, 83)], [], [(2, 83)], [(1, 114)], [(3, 64), (3, 65), (3, 66), (1, 6), (3, 67)], [], [(2, 86)], [], [(2, 83)], [], [(2, 97)], [(3, 64), (3, 65), (3, 66), (1, 6), (3, 67)], [], [(2, 79)], [], [(1, 44)], [], []]
def c_Book_earlierIn : List zE := [(0, .iconst 0, 1, [], 0),
  (1, .istore_n 2, 1, [], 0),
  (2, .iconst 0, 1, [], 0),
  (3, .istore_n 3, 1, [], 0),
  (4, .iload_n 3, 1, [], 0),
  (5, .aload_n 0, 1, [], 0),
  (6, .getfield 30, 3, [0, 4], 0),
  (9, .if_icmp .ge 30, 3, [39], 0),
  (12, .aload_n 1, 1, [], 0),
  (13, .getfield 15, 3, [0, 1, 2, 100, 8], 0),
  (16, .iload_n 3, 1, [], 0),
  (17, .iaload, 1, [], 0),
  (18, .aload_n 0, 1, [], 0),
  (19, .getfield 15, 3, [0, 1, 2, 100, 8], 0),
  (22, .iload_n 3, 1, [], 0),
  (23, .iaload, 1, [], 0),
  (24, .if_icmp .ge 9, 3, [33], 0),
  (27, .iload_n 2, 1, [], 0),
  (28, .iconst 1, 1, [], 1),
  (29, .iload_n 3, 1, [], 0),
  (30, .ishl, 1, [], 0),
  (31, .ior, 1, [], 0),
  (32, .istore_n 2, 1, [], 0),
  (33, .iinc 3 1, 3, [], 1),
  (36, .goto (-32), 3, [4], 0),
  (39, .iload_n 2, 1, [], 0),
  (40, .ireturn, 1, [], 0)]
def k_Book_earlierIn : List (List (Nat × Nat)) := [[], [], [], [], [], [], [(1, 164)], [], [], [(1, 157)], [], [], [], [(1, 157)], [], [], [], [], [], [], [], [], [], [], [], [], []]
def c_W_sways : List zE := [(0, .aload_n 0, 1, [], 0),
  (1, .invokevirtual 324, 3, [98, 0], 0),
  (4, .istore_n 1, 1, [], 0),
  (5, .iload_n 1, 1, [], 0),
  (6, .iconst (-1), 1, [], (-1)),
  (7, .if_icmp .eq 9, 3, [16], 0),
  (10, .sipush (-10000), 3, [], (-10000)),
  (13, .iload_n 1, 1, [], 0),
  (14, .isub, 1, [], 0),
  (15, .ireturn, 1, [], 0),
  (16, .aload_n 0, 1, [], 0),
  (17, .getfield 46, 3, [10, 6, 35, 0, 0], 0),
  (20, .aload_n 0, 1, [], 0),
  (21, .getfield 50, 3, [10, 7, 40, 0, 0], 0),
  (24, .invokevirtual 327, 3, [99, 1], 0),
  (27, .istore_n 2, 1, [], 0),
  (28, .aload_n 0, 1, [], 0),
  (29, .getfield 36, 3, [10, 4, 23, 9, 0], 0),
  (32, .getfield 110, 3, [9, 5], 0),
  (35, .ifCond .ne 7, 3, [42], 0),
  (38, .iconst 0, 1, [], 0),
  (39, .goto 23, 3, [62], 0),
  (42, .iconst 0, 1, [], 0),
  (43, .aload_n 0, 1, [], 0),
  (44, .getfield 36, 3, [10, 4, 23, 9, 0], 0),
  (47, .getfield 110, 3, [9, 5], 0),
  (50, .iconst 2, 1, [], 2),
  (51, .idiv, 1, [], 0),
  (52, .iconst 1, 1, [], 1),
  (53, .iadd, 1, [], 0),
  (54, .iload_n 2, 1, [], 0),
  (55, .invokestatic 331, 3, [1, 255, 1], 0),
  (58, .isub, 1, [], 0),
  (59, .invokestatic 203, 3, [4], 0),
  (62, .istore_n 3, 1, [], 0),
  (63, .aload_n 0, 1, [], 0),
  (64, .getfield 19, 3, [10, 1, 3, 5, 0], 0),
  (67, .aload_n 0, 1, [], 0),
  (68, .iload_n 2, 1, [], 0),
  (69, .iload_n 3, 1, [], 0),
  (70, .invokevirtual 336, 3, [101, 2], 0),
  (73, .i2l, 1, [], 0),
  (74, .invokevirtual 300, 3, [56, 1], 0),
  (77, .iload_n 3, 1, [], 0),
  (78, .ireturn, 1, [], 0)]
def k_W_sways : List (List (Nat × Nat)) := [[], [(4, 93), (4, 95), (0, 27), (1, 1), (4, 96)], [], [], [], [], [], [], [], [], [], [(2, 85)], [], [(2, 86)], [(4, 97), (4, 98), (4, 99), (1, 6), (4, 100)], [], [], [(2, 83)], [(1, 128)], [], [], [], [], [], [(2, 83)], [(1, 128)], [], [], [], [], [], [(4, 101), (3, 137), (1, 23), (3, 138)], [], [(3, 9)], [], [], [(2, 80)], [], [], [], [(4, 106), (4, 108), (0, 28), (1, 1), (4, 109)], [], [(3, 226), (3, 147), (3, 148), (1, 3), (3, 149)], [], []]
def c_W_leastThirsty : List zE := [(0, .iconst 0, 1, [], 0),
  (1, .istore_n 3, 1, [], 0),
  (2, .iconst 0, 1, [], 0),
  (3, .istore 4, 2, [], 0),
  (5, .iconst 1, 1, [], 1),
  (6, .istore 5, 2, [], 0),
  (8, .iload 5, 2, [], 0),
  (10, .bipush 9, 2, [], 9),
  (12, .if_icmp .gt 71, 3, [83], 0),
  (15, .iconst 0, 1, [], 0),
  (16, .istore 6, 2, [], 0),
  (18, .iload 6, 2, [], 0),
  (20, .aload_n 0, 1, [], 0),
  (21, .getfield 36, 3, [10, 4, 23, 9, 0], 0),
  (24, .getfield 110, 3, [9, 5], 0),
  (27, .if_icmp .ge 50, 3, [77], 0),
  (30, .iload_n 3, 1, [], 0),
  (31, .iload_n 2, 1, [], 0),
  (32, .if_icmp .ge 45, 3, [77], 0),
  (35, .aload_n 0, 1, [], 0),
  (36, .getfield 56, 3, [10, 8, 45, 4, 0], 0),
  (39, .getfield 139, 3, [4, 0, 1, 100, 8], 0),
  (42, .iload 6, 2, [], 0),
  (44, .iaload, 1, [], 0),
  (45, .iload 5, 2, [], 0),
  (47, .if_icmp .ne 24, 3, [71], 0),
  (50, .iload_n 1, 1, [], 0),
  (51, .iload 6, 2, [], 0),
  (53, .invokestatic 339, 3, [1, 17, 2], 0),
  (56, .ifCond .ne 15, 3, [71], 0),
  (59, .iload 4, 2, [], 0),
  (61, .iconst 1, 1, [], 1),
  (62, .iload 6, 2, [], 0),
  (64, .ishl, 1, [], 0),
  (65, .ior, 1, [], 0),
  (66, .istore 4, 2, [], 0),
  (68, .iinc 3 1, 3, [], 1),
  (71, .iinc 6 1, 3, [], 1),
  (74, .goto (-56), 3, [18], 0),
  (77, .iinc 5 1, 3, [], 1),
  (80, .goto (-72), 3, [8], 0),
  (83, .iload 4, 2, [], 0),
  (85, .ireturn, 1, [], 0)]
def k_W_leastThirsty : List (List (Nat × Nat)) := [[], [], [], [], [], [], [], [], [], [], [], [], [], [(2, 83)], [(1, 128)], [], [], [], [], [], [(2, 87)], [(1, 184)], [], [], [], [], [], [], [(4, 110), (2, 215), (1, 1), (2, 216)], [], [], [], [], [], [], [], [], [], [], [], [], [], []]
def c_W_initial : List zE := [(0, .aload_n 0, 1, [], 0),
  (1, .getfield 36, 3, [10, 4, 23, 9, 0], 0),
  (4, .iload_n 1, 1, [], 0),
  (5, .invokevirtual 164, 3, [35, 1], 0),
  (8, .ifCond .ne 5, 3, [13], 0),
  (11, .iconst (-1), 1, [], (-1)),
  (12, .ireturn, 1, [], 0),
  (13, .aload_n 0, 1, [], 0),
  (14, .getfield 46, 3, [10, 6, 35, 0, 0], 0),
  (17, .aload_n 0, 1, [], 0),
  (18, .getfield 36, 3, [10, 4, 23, 9, 0], 0),
  (21, .aload_n 0, 1, [], 0),
  (22, .getfield 36, 3, [10, 4, 23, 9, 0], 0),
  (25, .getfield 209, 3, [9, 0, 1, 100, 8], 0),
  (28, .invokevirtual 275, 3, [38, 2], 0),
  (31, .aload_n 0, 1, [], 0),
  (32, .getfield 36, 3, [10, 4, 23, 9, 0], 0),
  (35, .aload_n 0, 1, [], 0),
  (36, .getfield 36, 3, [10, 4, 23, 9, 0], 0),
  (39, .iload_n 1, 1, [], 0),
  (40, .iconst 0, 1, [], 0),
  (41, .invokevirtual 188, 3, [40, 2], 0),
  (44, .invokevirtual 220, 3, [33, 1], 0),
  (47, .istore_n 2, 1, [], 0),
  (48, .iconst 0, 1, [], 0),
  (49, .istore_n 3, 1, [], 0),
  (50, .bipush 8, 2, [], 8),
  (52, .istore 4, 2, [], 0),
  (54, .iconst 0, 1, [], 0),
  (55, .istore 5, 2, [], 0),
  (57, .iload 5, 2, [], 0),
  (59, .bipush 8, 2, [], 8),
  (61, .if_icmp .ge 62, 3, [123], 0),
  (64, .aload_n 0, 1, [], 0),
  (65, .getfield 36, 3, [10, 4, 23, 9, 0], 0),
  (68, .iload 5, 2, [], 0),
  (70, .invokevirtual 220, 3, [33, 1], 0),
  (73, .iload_n 2, 1, [], 0),
  (74, .isub, 1, [], 0),
  (75, .istore 6, 2, [], 0),
  (77, .aload_n 0, 1, [], 0),
  (78, .getfield 46, 3, [10, 6, 35, 0, 0], 0),
  (81, .iload_n 1, 1, [], 0),
  (82, .aload_n 0, 1, [], 0),
  (83, .getfield 46, 3, [10, 6, 35, 0, 0], 0),
  (86, .getfield 342, 3, [0, 2, 3, 100, 8], 0),
  (89, .iload_n 1, 1, [], 0),
  (90, .iaload, 1, [], 0),
  (91, .iload 6, 2, [], 0),
  (93, .ldc_w 345, 3, [], 472392),
  (96, .imul, 1, [], 0),
  (97, .iadd, 1, [], 0),
  (98, .invokevirtual 346, 3, [41, 2], 0),
  (101, .istore 7, 2, [], 0),
  (103, .iload 7, 2, [], 0),
  (105, .iload 4, 2, [], 0),
  (107, .if_icmp .ge 10, 3, [117], 0),
  (110, .iload 7, 2, [], 0),
  (112, .istore 4, 2, [], 0),
  (114, .iload 5, 2, [], 0),
  (116, .istore_n 3, 1, [], 0),
  (117, .iinc 5 1, 3, [], 1),
  (120, .goto (-63), 3, [57], 0),
  (123, .aload_n 0, 1, [], 0),
  (124, .getfield 19, 3, [10, 1, 3, 5, 0], 0),
  (127, .iload 4, 2, [], 0),
  (129, .i2l, 1, [], 0),
  (130, .invokevirtual 300, 3, [56, 1], 0),
  (133, .iload_n 3, 1, [], 0),
  (134, .ireturn, 1, [], 0)]
def k_W_initial : List (List (Nat × Nat)) := [[], [(2, 83)], [], [(3, 52), (3, 53), (3, 54), (1, 5), (3, 55)], [], [], [], [], [(2, 85)], [], [(2, 83)], [], [(2, 83)], [(1, 114)], [(3, 64), (3, 65), (3, 66), (1, 6), (3, 67)], [], [(2, 83)], [], [(2, 83)], [], [], [(3, 221), (3, 73), (3, 74), (1, 5), (3, 75)], [(3, 44), (3, 45), (3, 46), (1, 5), (3, 47)], [], [], [], [], [], [], [], [], [], [], [], [(2, 83)], [], [(3, 44), (3, 45), (3, 46), (1, 5), (3, 47)], [], [], [], [], [(2, 85)], [], [], [(2, 85)], [(1, 161)], [], [], [], [(4, 115)], [], [], [(4, 116), (3, 77), (3, 78), (1, 6), (3, 79)], [], [], [], [], [], [], [], [], [], [], [], [(2, 80)], [], [], [(3, 226), (3, 147), (3, 148), (1, 3), (3, 149)], [], []]
def c_W_matches : List zE := [(0, .aload_n 0, 1, [], 0),
  (1, .getfield 46, 3, [10, 6, 35, 0, 0], 0),
  (4, .aload_n 0, 1, [], 0),
  (5, .getfield 36, 3, [10, 4, 23, 9, 0], 0),
  (8, .aload_n 0, 1, [], 0),
  (9, .getfield 36, 3, [10, 4, 23, 9, 0], 0),
  (12, .getfield 209, 3, [9, 0, 1, 100, 8], 0),
  (15, .invokevirtual 275, 3, [38, 2], 0),
  (18, .aload_n 0, 1, [], 0),
  (19, .getfield 95, 3, [10, 17, 159, 1, 0], 0),
  (22, .aload_n 0, 1, [], 0),
  (23, .getfield 46, 3, [10, 6, 35, 0, 0], 0),
  (26, .invokevirtual 349, 3, [104, 1], 0),
  (29, .aload_n 0, 1, [], 0),
  (30, .getfield 95, 3, [10, 17, 159, 1, 0], 0),
  (33, .aload_n 0, 1, [], 0),
  (34, .getfield 19, 3, [10, 1, 3, 5, 0], 0),
  (37, .aload_n 0, 1, [], 0),
  (38, .getfield 36, 3, [10, 4, 23, 9, 0], 0),
  (41, .getfield 110, 3, [9, 5], 0),
  (44, .invokevirtual 353, 3, [108, 2], 0),
  (47, .ireturn, 1, [], 0)]
def k_W_matches : List (List (Nat × Nat)) := [[], [(2, 85)], [], [(2, 83)], [], [(2, 83)], [(1, 114)], [(3, 64), (3, 65), (3, 66), (1, 6), (3, 67)], [], [(2, 96)], [], [(2, 85)], [(4, 121), (4, 122), (4, 123), (1, 11), (4, 124)], [], [(2, 96)], [], [(2, 80)], [], [(2, 83)], [(1, 128)], [(4, 138), (4, 139), (4, 140), (1, 11), (4, 141)], []]
def c_Matching_weigh : List zE := [(0, .iconst 0, 1, [], 0),
  (1, .istore_n 2, 1, [], 0),
  (2, .iload_n 2, 1, [], 0),
  (3, .aload_n 1, 1, [], 0),
  (4, .getfield 18, 3, [0, 4], 0),
  (7, .if_icmp .ge 98, 3, [105], 0),
  (10, .iconst 0, 1, [], 0),
  (11, .istore_n 3, 1, [], 0),
  (12, .iload_n 3, 1, [], 0),
  (13, .aload_n 1, 1, [], 0),
  (14, .getfield 18, 3, [0, 4], 0),
  (17, .if_icmp .ge 82, 3, [99], 0),
  (20, .aload_n 1, 1, [], 0),
  (21, .getfield 24, 3, [0, 1, 2, 100, 8], 0),
  (24, .iload_n 2, 1, [], 0),
  (25, .iaload, 1, [], 0),
  (26, .aload_n 1, 1, [], 0),
  (27, .getfield 24, 3, [0, 1, 2, 100, 8], 0),
  (30, .iload_n 3, 1, [], 0),
  (31, .iaload, 1, [], 0),
  (32, .if_icmp .le 7, 3, [39], 0),
  (35, .iconst 1, 1, [], 1),
  (36, .goto 4, 3, [40], 0),
  (39, .iconst 0, 1, [], 0),
  (40, .istore 4, 2, [], 0),
  (42, .iload 4, 2, [], 0),
  (44, .ifCond .eq 7, 3, [51], 0),
  (47, .iload_n 2, 1, [], 0),
  (48, .goto 4, 3, [52], 0),
  (51, .iload_n 3, 1, [], 0),
  (52, .istore 5, 2, [], 0),
  (54, .iload 4, 2, [], 0),
  (56, .ifCond .eq 7, 3, [63], 0),
  (59, .iload_n 3, 1, [], 0),
  (60, .goto 4, 3, [64], 0),
  (63, .iload_n 2, 1, [], 0),
  (64, .istore 6, 2, [], 0),
  (66, .aload_n 0, 1, [], 0),
  (67, .getfield 9, 3, [1, 0, 1, 100, 64], 0),
  (70, .iload_n 2, 1, [], 0),
  (71, .bipush 8, 2, [], 8),
  (73, .imul, 1, [], 0),
  (74, .iload_n 3, 1, [], 0),
  (75, .iadd, 1, [], 0),
  (76, .aload_n 1, 1, [], 0),
  (77, .getfield 24, 3, [0, 1, 2, 100, 8], 0),
  (80, .iload 5, 2, [], 0),
  (82, .iaload, 1, [], 0),
  (83, .aload_n 1, 1, [], 0),
  (84, .iload 5, 2, [], 0),
  (86, .iload 6, 2, [], 0),
  (88, .invokevirtual 27, 3, [105, 2], 0),
  (91, .isub, 1, [], 0),
  (92, .iastore, 1, [], 0),
  (93, .iinc 3 1, 3, [], 1),
  (96, .goto (-84), 3, [12], 0),
  (99, .iinc 2 1, 3, [], 1),
  (102, .goto (-100), 3, [2], 0),
  (105, .iconst 1, 1, [], 1),
  (106, .istore_n 2, 1, [], 0),
  (107, .iload_n 2, 1, [], 0),
  (108, .iconst 1, 1, [], 1),
  (109, .aload_n 1, 1, [], 0),
  (110, .getfield 18, 3, [0, 4], 0),
  (113, .ishl, 1, [], 0),
  (114, .if_icmp .ge 90, 3, [204], 0),
  (117, .iload_n 2, 1, [], 0),
  (118, .invokestatic 31, 3, [1, 106, 1], 0),
  (121, .istore_n 3, 1, [], 0),
  (122, .iload_n 2, 1, [], 0),
  (123, .iconst 1, 1, [], 1),
  (124, .iload_n 3, 1, [], 0),
  (125, .ishl, 1, [], 0),
  (126, .iconst (-1), 1, [], (-1)),
  (127, .ixor, 1, [], 0),
  (128, .iand, 1, [], 0),
  (129, .istore 4, 2, [], 0),
  (131, .aload_n 0, 1, [], 0),
  (132, .getfield 15, 3, [1, 1, 2, 100, 256], 0),
  (135, .iload_n 2, 1, [], 0),
  (136, .aload_n 0, 1, [], 0),
  (137, .getfield 15, 3, [1, 1, 2, 100, 256], 0),
  (140, .iload 4, 2, [], 0),
  (142, .iaload, 1, [], 0),
  (143, .iastore, 1, [], 0),
  (144, .iload_n 3, 1, [], 0),
  (145, .iconst 1, 1, [], 1),
  (146, .iadd, 1, [], 0),
  (147, .istore 5, 2, [], 0),
  (149, .iload 5, 2, [], 0),
  (151, .aload_n 1, 1, [], 0),
  (152, .getfield 18, 3, [0, 4], 0),
  (155, .if_icmp .ge 43, 3, [198], 0),
  (158, .iload 4, 2, [], 0),
  (160, .iload 5, 2, [], 0),
  (162, .invokestatic 35, 3, [2, 17, 2], 0),
  (165, .ifCond .eq 27, 3, [192], 0),
  (168, .aload_n 0, 1, [], 0),
  (169, .getfield 15, 3, [1, 1, 2, 100, 256], 0),
  (172, .iload_n 2, 1, [], 0),
  (173, .aload_n 0, 1, [], 0),
  (174, .getfield 15, 3, [1, 1, 2, 100, 256], 0),
  (177, .iload_n 2, 1, [], 0),
  (178, .iaload, 1, [], 0),
  (179, .aload_n 0, 1, [], 0),
  (180, .iload_n 3, 1, [], 0),
  (181, .iload 5, 2, [], 0),
  (183, .iload 4, 2, [], 0),
  (185, .invokevirtual 39, 3, [107, 3], 0),
  (188, .invokestatic 43, 3, [4], 0),
  (191, .iastore, 1, [], 0),
  (192, .iinc 5 1, 3, [], 1),
  (195, .goto (-46), 3, [149], 0),
  (198, .iinc 2 1, 3, [], 1),
  (201, .goto (-94), 3, [107], 0),
  (204, .return_, 1, [], 0)]
def k_Matching_weigh : List (List (Nat × Nat)) := [[], [], [], [], [(1, 163)], [], [], [], [], [], [(1, 163)], [], [], [(1, 158)], [], [], [], [(1, 158)], [], [], [], [], [], [], [], [], [], [], [], [], [], [], [], [], [], [], [], [], [(2, 72)], [], [], [], [], [], [], [(1, 158)], [], [], [], [], [], [(4, 125), (4, 126), (4, 127), (1, 6), (4, 128)], [], [], [], [], [], [], [], [], [], [], [], [(1, 163)], [], [], [], [(4, 129), (4, 130), (1, 11), (4, 131)], [], [], [], [], [], [], [], [], [], [], [(2, 73)], [], [], [(2, 73)], [], [], [], [], [], [], [], [], [], [(1, 163)], [], [], [], [(2, 215), (1, 1), (2, 216), (4, 132)], [], [], [(2, 73)], [], [], [(2, 73)], [], [], [], [], [], [], [(4, 133), (4, 135), (0, 29), (1, 11), (4, 136)], [(4, 137)], [], [], [], [], [], []]
def c_Book_placeByName : List zE := [(0, .aload_n 0, 1, [], 0),
  (1, .iload_n 1, 1, [], 0),
  (2, .aload_n 0, 1, [], 0),
  (3, .getfield 18, 3, [0, 2, 3, 100, 8], 0),
  (6, .iload_n 2, 1, [], 0),
  (7, .iaload, 1, [], 0),
  (8, .iload_n 2, 1, [], 0),
  (9, .isub, 1, [], 0),
  (10, .iload_n 1, 1, [], 0),
  (11, .iadd, 1, [], 0),
  (12, .invokevirtual 35, 3, [41, 2], 0),
  (15, .ireturn, 1, [], 0)]
def k_Book_placeByName : List (List (Nat × Nat)) := [[], [], [], [(1, 160)], [], [], [], [], [], [], [(3, 76), (3, 77), (3, 78), (1, 6), (3, 79)], []]
def c_Matching_firstOf : List zE := [(0, .iconst 0, 1, [], 0),
  (1, .istore_n 1, 1, [], 0),
  (2, .iload_n 1, 1, [], 0),
  (3, .bipush 8, 2, [], 8),
  (5, .if_icmp .ge 19, 3, [24], 0),
  (8, .iload_n 0, 1, [], 0),
  (9, .iload_n 1, 1, [], 0),
  (10, .invokestatic 35, 3, [2, 17, 2], 0),
  (13, .ifCond .eq 5, 3, [18], 0),
  (16, .iload_n 1, 1, [], 0),
  (17, .ireturn, 1, [], 0),
  (18, .iinc 1 1, 3, [], 1),
  (21, .goto (-19), 3, [2], 0),
  (24, .iconst 0, 1, [], 0),
  (25, .ireturn, 1, [], 0)]
def k_Matching_firstOf : List (List (Nat × Nat)) := [[], [], [], [], [], [], [], [(2, 215), (1, 1), (2, 216), (4, 132)], [], [], [], [], [], [], []]
def c_Matching_worthWith : List zE := [(0, .aload_n 0, 1, [], 0),
  (1, .getfield 9, 3, [1, 0, 1, 100, 64], 0),
  (4, .iload_n 1, 1, [], 0),
  (5, .bipush 8, 2, [], 8),
  (7, .imul, 1, [], 0),
  (8, .iload_n 2, 1, [], 0),
  (9, .iadd, 1, [], 0),
  (10, .iaload, 1, [], 0),
  (11, .bipush 16, 2, [], 16),
  (13, .imul, 1, [], 0),
  (14, .iconst 1, 1, [], 1),
  (15, .isub, 1, [], 0),
  (16, .aload_n 0, 1, [], 0),
  (17, .getfield 15, 3, [1, 1, 2, 100, 256], 0),
  (20, .iload_n 3, 1, [], 0),
  (21, .iconst 1, 1, [], 1),
  (22, .iload_n 2, 1, [], 0),
  (23, .ishl, 1, [], 0),
  (24, .iconst (-1), 1, [], (-1)),
  (25, .ixor, 1, [], 0),
  (26, .iand, 1, [], 0),
  (27, .iaload, 1, [], 0),
  (28, .iadd, 1, [], 0),
  (29, .ireturn, 1, [], 0)]
def k_Matching_worthWith : List (List (Nat × Nat)) := [[], [(2, 72)], [], [], [], [], [], [], [], [], [], [], [], [(2, 73)], [], [], [], [], [], [], [], [], [], []]
def c_Matching_tellPairs : List zE := [(0, .aload_n 1, 1, [], 0),
  (1, .iconst 0, 1, [], 0),
  (2, .putfield 48, 3, [5, 1], 0),
  (5, .iconst 0, 1, [], 0),
  (6, .istore_n 3, 1, [], 0),
  (7, .iconst 1, 1, [], 1),
  (8, .iload_n 2, 1, [], 0),
  (9, .ishl, 1, [], 0),
  (10, .iconst 1, 1, [], 1),
  (11, .isub, 1, [], 0),
  (12, .istore 4, 2, [], 0),
  (14, .iconst 0, 1, [], 0),
  (15, .istore 5, 2, [], 0),
  (17, .iload 5, 2, [], 0),
  (19, .iload_n 2, 1, [], 0),
  (20, .if_icmp .ge 99, 3, [119], 0),
  (23, .iload 4, 2, [], 0),
  (25, .iload 5, 2, [], 0),
  (27, .invokestatic 35, 3, [2, 17, 2], 0),
  (30, .ifCond .eq 83, 3, [113], 0),
  (33, .iload 4, 2, [], 0),
  (35, .iconst 1, 1, [], 1),
  (36, .iload 5, 2, [], 0),
  (38, .ishl, 1, [], 0),
  (39, .iconst (-1), 1, [], (-1)),
  (40, .ixor, 1, [], 0),
  (41, .iand, 1, [], 0),
  (42, .istore 6, 2, [], 0),
  (44, .aload_n 0, 1, [], 0),
  (45, .iload 5, 2, [], 0),
  (47, .iload 6, 2, [], 0),
  (49, .aload_n 0, 1, [], 0),
  (50, .getfield 15, 3, [1, 1, 2, 100, 256], 0),
  (53, .iload 4, 2, [], 0),
  (55, .iaload, 1, [], 0),
  (56, .iload_n 2, 1, [], 0),
  (57, .invokevirtual 53, 3, [109, 4], 0),
  (60, .istore 7, 2, [], 0),
  (62, .iload 6, 2, [], 0),
  (64, .istore 4, 2, [], 0),
  (66, .iload 7, 2, [], 0),
  (68, .iconst (-1), 1, [], (-1)),
  (69, .if_icmp .eq 44, 3, [113], 0),
  (72, .aload_n 1, 1, [], 0),
  (73, .iload 5, 2, [], 0),
  (75, .i2l, 1, [], 0),
  (76, .invokevirtual 57, 3, [57, 1], 0),
  (79, .aload_n 1, 1, [], 0),
  (80, .iload 7, 2, [], 0),
  (82, .i2l, 1, [], 0),
  (83, .invokevirtual 57, 3, [57, 1], 0),
  (86, .iload_n 3, 1, [], 0),
  (87, .aload_n 0, 1, [], 0),
  (88, .getfield 9, 3, [1, 0, 1, 100, 64], 0),
  (91, .iload 5, 2, [], 0),
  (93, .bipush 8, 2, [], 8),
  (95, .imul, 1, [], 0),
  (96, .iload 7, 2, [], 0),
  (98, .iadd, 1, [], 0),
  (99, .iaload, 1, [], 0),
  (100, .iadd, 1, [], 0),
  (101, .istore_n 3, 1, [], 0),
  (102, .iload 4, 2, [], 0),
  (104, .iconst 1, 1, [], 1),
  (105, .iload 7, 2, [], 0),
  (107, .ishl, 1, [], 0),
  (108, .iconst (-1), 1, [], (-1)),
  (109, .ixor, 1, [], 0),
  (110, .iand, 1, [], 0),
  (111, .istore 4, 2, [], 0),
  (113, .iinc 5 1, 3, [], 1),
  (116, .goto (-99), 3, [17], 0),
  (119, .iload_n 3, 1, [], 0),
  (120, .ireturn, 1, [], 0)]
def k_Matching_tellPairs : List (List (Nat × Nat)) := [[], [], [(1, 60)], [], [], [], [], [], [], [], [], [], [], [], [], [], [], [], [(2, 215), (1, 1), (2, 216), (4, 132)], [], [], [], [], [], [], [], [], [], [], [], [], [], [(2, 73)], [], [], [], [(4, 142), (4, 144), (0, 30), (1, 11), (4, 145)], [], [], [], [], [], [], [], [], [], [(4, 146), (3, 151), (3, 152), (1, 3), (3, 153)], [], [], [], [(4, 146), (3, 151), (3, 152), (1, 3), (3, 153)], [], [], [(2, 72)], [], [], [], [], [], [], [], [], [], [], [], [], [], [], [], [], [], [], [], []]
def c_Matching_spouseOf : List zE := [(0, .iload_n 1, 1, [], 0),
  (1, .iconst 1, 1, [], 1),
  (2, .iadd, 1, [], 0),
  (3, .istore 5, 2, [], 0),
  (5, .iload 5, 2, [], 0),
  (7, .iload 4, 2, [], 0),
  (9, .if_icmp .ge 33, 3, [42], 0),
  (12, .iload_n 2, 1, [], 0),
  (13, .iload 5, 2, [], 0),
  (15, .invokestatic 35, 3, [2, 17, 2], 0),
  (18, .ifCond .eq 18, 3, [36], 0),
  (21, .aload_n 0, 1, [], 0),
  (22, .iload_n 1, 1, [], 0),
  (23, .iload 5, 2, [], 0),
  (25, .iload_n 2, 1, [], 0),
  (26, .invokevirtual 39, 3, [107, 3], 0),
  (29, .iload_n 3, 1, [], 0),
  (30, .if_icmp .ne 6, 3, [36], 0),
  (33, .iload 5, 2, [], 0),
  (35, .ireturn, 1, [], 0),
  (36, .iinc 5 1, 3, [], 1),
  (39, .goto (-34), 3, [5], 0),
  (42, .iconst (-1), 1, [], (-1)),
  (43, .ireturn, 1, [], 0)]
def k_Matching_spouseOf : List (List (Nat × Nat)) := [[], [], [], [], [], [], [], [], [], [(2, 215), (1, 1), (2, 216), (4, 132)], [], [], [], [], [], [(4, 133), (4, 135), (0, 29), (1, 11), (4, 136)], [], [], [], [], [], [], [], []]
def c_W_lines : List zE := [(0, .aload_n 0, 1, [], 0),
  (1, .getfield 12, 3, [10, 0, 1, 7, 0], 0),
  (4, .aload_n 0, 1, [], 0),
  (5, .getfield 36, 3, [10, 4, 23, 9, 0], 0),
  (8, .getfield 110, 3, [9, 5], 0),
  (11, .invokevirtual 357, 3, [111, 1], 0),
  (14, .istore_n 1, 1, [], 0),
  (15, .iload_n 1, 1, [], 0),
  (16, .iconst (-1), 1, [], (-1)),
  (17, .if_icmp .eq 15, 3, [32], 0),
  (20, .aload_n 0, 1, [], 0),
  (21, .getfield 12, 3, [10, 0, 1, 7, 0], 0),
  (24, .iconst 0, 1, [], 0),
  (25, .putfield 106, 3, [7, 1], 0),
  (28, .iconst (-1), 1, [], (-1)),
  (29, .iload_n 1, 1, [], 0),
  (30, .isub, 1, [], 0),
  (31, .ireturn, 1, [], 0),
  (32, .aload_n 0, 1, [], 0),
  (33, .getfield 46, 3, [10, 6, 35, 0, 0], 0),
  (36, .aload_n 0, 1, [], 0),
  (37, .getfield 36, 3, [10, 4, 23, 9, 0], 0),
  (40, .aload_n 0, 1, [], 0),
  (41, .getfield 36, 3, [10, 4, 23, 9, 0], 0),
  (44, .getfield 209, 3, [9, 0, 1, 100, 8], 0),
  (47, .invokevirtual 275, 3, [38, 2], 0),
  (50, .iconst 0, 1, [], 0),
  (51, .istore_n 2, 1, [], 0),
  (52, .iconst 0, 1, [], 0),
  (53, .istore_n 3, 1, [], 0),
  (54, .iload_n 3, 1, [], 0),
  (55, .aload_n 0, 1, [], 0),
  (56, .getfield 12, 3, [10, 0, 1, 7, 0], 0),
  (59, .getfield 106, 3, [7, 1], 0),
  (62, .if_icmp .ge 25, 3, [87], 0),
  (65, .iload_n 2, 1, [], 0),
  (66, .iconst 1, 1, [], 1),
  (67, .aload_n 0, 1, [], 0),
  (68, .getfield 12, 3, [10, 0, 1, 7, 0], 0),
  (71, .iload_n 3, 1, [], 0),
  (72, .invokevirtual 126, 3, [9, 1], 0),
  (75, .invokestatic 132, 3, [1, 5, 1], 0),
  (78, .ishl, 1, [], 0),
  (79, .ior, 1, [], 0),
  (80, .istore_n 2, 1, [], 0),
  (81, .iinc 3 1, 3, [], 1),
  (84, .goto (-30), 3, [54], 0),
  (87, .iload_n 2, 1, [], 0),
  (88, .istore_n 3, 1, [], 0),
  (89, .iconst 0, 1, [], 0),
  (90, .istore 4, 2, [], 0),
  (92, .iload 4, 2, [], 0),
  (94, .sipush 256, 3, [], 256),
  (97, .if_icmp .ge 42, 3, [139], 0),
  (100, .iload 4, 2, [], 0),
  (102, .iload_n 2, 1, [], 0),
  (103, .iconst (-1), 1, [], (-1)),
  (104, .ixor, 1, [], 0),
  (105, .iand, 1, [], 0),
  (106, .ifCond .ne 27, 3, [133], 0),
  (109, .iload 4, 2, [], 0),
  (111, .invokestatic 331, 3, [1, 255, 1], 0),
  (114, .iload_n 3, 1, [], 0),
  (115, .invokestatic 331, 3, [1, 255, 1], 0),
  (118, .if_icmp .ge 15, 3, [133], 0),
  (121, .aload_n 0, 1, [], 0),
  (122, .iload 4, 2, [], 0),
  (124, .invokevirtual 360, 3, [112, 1], 0),
  (127, .ifCond .eq 6, 3, [133], 0),
  (130, .iload 4, 2, [], 0),
  (132, .istore_n 3, 1, [], 0),
  (133, .iinc 4 1, 3, [], 1),
  (136, .goto (-44), 3, [92], 0),
  (139, .aload_n 0, 1, [], 0),
  (140, .getfield 12, 3, [10, 0, 1, 7, 0], 0),
  (143, .iconst 0, 1, [], 0),
  (144, .putfield 106, 3, [7, 1], 0),
  (147, .aload_n 0, 1, [], 0),
  (148, .getfield 19, 3, [10, 1, 3, 5, 0], 0),
  (151, .iload_n 3, 1, [], 0),
  (152, .i2l, 1, [], 0),
  (153, .invokevirtual 300, 3, [56, 1], 0),
  (156, .iload_n 3, 1, [], 0),
  (157, .invokestatic 331, 3, [1, 255, 1], 0),
  (160, .ireturn, 1, [], 0)]
def k_W_lines : List (List (Nat × Nat)) := [[], [(2, 79)], [], [(2, 83)], [(1, 128)], [(4, 151), (4, 152), (4, 153), (1, 2), (4, 154)], [], [], [], [], [], [(2, 79)], [], [(1, 44)], [], [], [], [], [], [(2, 85)], [], [(2, 83)], [], [(2, 83)], [(1, 114)], [(3, 64), (3, 65), (3, 66), (1, 6), (3, 67)], [], [], [], [], [], [], [(2, 79)], [(1, 44)], [], [], [], [], [(2, 79)], [], [(2, 174), (2, 175), (2, 176), (1, 2), (2, 177)], [(2, 179), (2, 161), (1, 1), (2, 162)], [], [], [], [], [], [], [], [], [], [], [], [], [], [], [], [], [], [], [], [(4, 101), (3, 137), (1, 23), (3, 138)], [], [(4, 101), (3, 137), (1, 23), (3, 138)], [], [], [], [(4, 155), (4, 157), (0, 31), (1, 1), (4, 158)], [], [], [], [], [], [], [(2, 79)], [], [(1, 44)], [], [(2, 80)], [], [], [(3, 226), (3, 147), (3, 148), (1, 3), (3, 149)], [], [(4, 101), (3, 137), (1, 23), (3, 138)], []]
def c_Text_faultInBook : List zE := [(0, .iconst 0, 1, [], 0),
  (1, .istore_n 2, 1, [], 0),
  (2, .iconst 0, 1, [], 0),
  (3, .istore_n 3, 1, [], 0),
  (4, .iload_n 3, 1, [], 0),
  (5, .aload_n 0, 1, [], 0),
  (6, .getfield 15, 3, [7, 1], 0),
  (9, .if_icmp .ge 50, 3, [59], 0),
  (12, .aload_n 0, 1, [], 0),
  (13, .getfield 9, 3, [7, 0, 1, 100, 80], 0),
  (16, .iload_n 3, 1, [], 0),
  (17, .iaload, 1, [], 0),
  (18, .invokestatic 19, 3, [2, 5, 1], 0),
  (21, .istore 4, 2, [], 0),
  (23, .iload 4, 2, [], 0),
  (25, .iconst (-1), 1, [], (-1)),
  (26, .if_icmp .eq 18, 3, [44], 0),
  (29, .iload 4, 2, [], 0),
  (31, .iload_n 1, 1, [], 0),
  (32, .if_icmp .ge 12, 3, [44], 0),
  (35, .iload_n 2, 1, [], 0),
  (36, .iload 4, 2, [], 0),
  (38, .invokestatic 30, 3, [2, 17, 2], 0),
  (41, .ifCond .eq 5, 3, [46], 0),
  (44, .iload_n 3, 1, [], 0),
  (45, .ireturn, 1, [], 0),
  (46, .iload_n 2, 1, [], 0),
  (47, .iconst 1, 1, [], 1),
  (48, .iload 4, 2, [], 0),
  (50, .ishl, 1, [], 0),
  (51, .ior, 1, [], 0),
  (52, .istore_n 2, 1, [], 0),
  (53, .iinc 3 1, 3, [], 1),
  (56, .goto (-52), 3, [4], 0),
  (59, .iconst (-1), 1, [], (-1)),
  (60, .ireturn, 1, [], 0)]
def k_Text_faultInBook : List (List (Nat × Nat)) := [[], [], [], [], [], [], [(1, 43)], [], [], [(1, 39)], [], [], [(2, 161), (1, 1), (2, 162), (2, 160)], [], [], [], [], [], [], [], [], [], [(2, 215), (1, 1), (2, 216), (3, 29)], [], [], [], [], [], [], [], [], [], [], [], [], []]
def c_W_isBookWithout : List zE := [(0, .iconst (-1), 1, [], (-1)),
  (1, .istore_n 2, 1, [], 0),
  (2, .iconst 0, 1, [], 0),
  (3, .istore_n 3, 1, [], 0),
  (4, .iload_n 3, 1, [], 0),
  (5, .aload_n 0, 1, [], 0),
  (6, .getfield 12, 3, [10, 0, 1, 7, 0], 0),
  (9, .getfield 106, 3, [7, 1], 0),
  (12, .if_icmp .ge 70, 3, [82], 0),
  (15, .aload_n 0, 1, [], 0),
  (16, .getfield 12, 3, [10, 0, 1, 7, 0], 0),
  (19, .iload_n 3, 1, [], 0),
  (20, .invokevirtual 126, 3, [9, 1], 0),
  (23, .invokestatic 132, 3, [1, 5, 1], 0),
  (26, .istore 4, 2, [], 0),
  (28, .aload_n 0, 1, [], 0),
  (29, .getfield 36, 3, [10, 4, 23, 9, 0], 0),
  (32, .iload 4, 2, [], 0),
  (34, .invokevirtual 164, 3, [35, 1], 0),
  (37, .ifCond .eq 39, 3, [76], 0),
  (40, .iload_n 1, 1, [], 0),
  (41, .iload 4, 2, [], 0),
  (43, .invokestatic 339, 3, [1, 17, 2], 0),
  (46, .ifCond .ne 30, 3, [76], 0),
  (49, .aload_n 0, 1, [], 0),
  (50, .getfield 46, 3, [10, 6, 35, 0, 0], 0),
  (53, .getfield 310, 3, [0, 1, 2, 100, 8], 0),
  (56, .iload 4, 2, [], 0),
  (58, .iaload, 1, [], 0),
  (59, .iload_n 2, 1, [], 0),
  (60, .if_icmp .ge 5, 3, [65], 0),
  (63, .iconst 0, 1, [], 0),
  (64, .ireturn, 1, [], 1),
  (65, .aload_n 0, 1, [], 0),
  (66, .getfield 46, 3, [10, 6, 35, 0, 0], 0),
  (69, .getfield 310, 3, [0, 1, 2, 100, 8], 0),
  (72, .iload 4, 2, [], 0),
  (74, .iaload, 1, [], 0),
  (75, .istore_n 2, 1, [], 0),
  (76, .iinc 3 1, 3, [], 1),
  (79, .goto (-75), 3, [4], 0),
  (82, .iconst 1, 1, [], 1),
  (83, .ireturn, 1, [], 1)]
def k_W_isBookWithout : List (List (Nat × Nat)) := [[], [], [], [], [], [], [(2, 79)], [(1, 44)], [], [], [(2, 79)], [], [(2, 174), (2, 175), (2, 176), (1, 2), (2, 177)], [(2, 179), (2, 161), (1, 1), (2, 162)], [], [], [(2, 83)], [], [(3, 52), (3, 53), (3, 54), (1, 5), (3, 55)], [], [], [], [(4, 110), (2, 215), (1, 1), (2, 216)], [], [], [(2, 85)], [(1, 159)], [], [], [], [], [], [], [], [(2, 85)], [(1, 159)], [], [], [], [], [], [], []]
def c_W_lot : List zE := [(0, .aload_n 0, 1, [], 0),
  (1, .getfield 36, 3, [10, 4, 23, 9, 0], 0),
  (4, .iload_n 1, 1, [], 0),
  (5, .invokevirtual 164, 3, [35, 1], 0),
  (8, .ifCond .ne 5, 3, [13], 0),
  (11, .iconst (-1), 1, [], (-1)),
  (12, .ireturn, 1, [], 0),
  (13, .aload_n 0, 1, [], 0),
  (14, .invokevirtual 307, 3, [73, 0], 0),
  (17, .aload_n 0, 1, [], 0),
  (18, .getfield 56, 3, [10, 8, 45, 4, 0], 0),
  (21, .getfield 139, 3, [4, 0, 1, 100, 8], 0),
  (24, .iload_n 1, 1, [], 0),
  (25, .iaload, 1, [], 0),
  (26, .isub, 1, [], 0),
  (27, .istore_n 2, 1, [], 0),
  (28, .aload_n 0, 1, [], 0),
  (29, .getfield 36, 3, [10, 4, 23, 9, 0], 0),
  (32, .getfield 110, 3, [9, 5], 0),
  (35, .iconst 1, 1, [], 1),
  (36, .isub, 1, [], 0),
  (37, .istore_n 3, 1, [], 0),
  (38, .lconst 0, 1, [], 0),
  (39, .lstore 4, 2, [], 0),
  (41, .iconst 0, 1, [], 0),
  (42, .istore 6, 2, [], 0),
  (44, .iload 6, 2, [], 0),
  (46, .iconst 1, 1, [], 1),
  (47, .aload_n 0, 1, [], 0),
  (48, .getfield 36, 3, [10, 4, 23, 9, 0], 0),
  (51, .getfield 110, 3, [9, 5], 0),
  (54, .ishl, 1, [], 0),
  (55, .if_icmp .ge 56, 3, [111], 0),
  (58, .iload 6, 2, [], 0),
  (60, .iload_n 1, 1, [], 0),
  (61, .invokestatic 339, 3, [1, 17, 2], 0),
  (64, .ifCond .ne 41, 3, [105], 0),
  (67, .aload_n 0, 1, [], 0),
  (68, .getfield 56, 3, [10, 8, 45, 4, 0], 0),
  (71, .iload 6, 2, [], 0),
  (73, .invokevirtual 363, 3, [27, 1], 0),
  (76, .iload_n 2, 1, [], 0),
  (77, .if_icmp .gt 28, 3, [105], 0),
  (80, .iload 6, 2, [], 0),
  (82, .invokestatic 331, 3, [1, 255, 1], 0),
  (85, .istore 7, 2, [], 0),
  (87, .lload 4, 2, [], 0),
  (89, .iload 7, 2, [], 0),
  (91, .invokestatic 366, 3, [1, 114, 1], 0),
  (94, .iload_n 3, 1, [], 0),
  (95, .iload 7, 2, [], 0),
  (97, .isub, 1, [], 0),
  (98, .invokestatic 366, 3, [1, 114, 1], 0),
  (101, .lmul, 1, [], 0),
  (102, .ladd, 1, [], 0),
  (103, .lstore 4, 2, [], 0),
  (105, .iinc 6 1, 3, [], 1),
  (108, .goto (-64), 3, [44], 0),
  (111, .aload_n 0, 1, [], 0),
  (112, .getfield 19, 3, [10, 1, 3, 5, 0], 0),
  (115, .lload 4, 2, [], 0),
  (117, .aload_n 0, 1, [], 0),
  (118, .getfield 36, 3, [10, 4, 23, 9, 0], 0),
  (121, .getfield 110, 3, [9, 5], 0),
  (124, .invokestatic 366, 3, [1, 114, 1], 0),
  (127, .invokevirtual 370, 3, [115, 2], 0),
  (130, .iconst 0, 1, [], 0),
  (131, .ireturn, 1, [], 0)]
def k_W_lot : List (List (Nat × Nat)) := [[], [(2, 83)], [], [(3, 52), (3, 53), (3, 54), (1, 5), (3, 55)], [], [], [], [], [(3, 217), (3, 219), (0, 12), (1, 1), (3, 220)], [], [(2, 87)], [(1, 184)], [], [], [], [], [], [(2, 83)], [(1, 128)], [], [], [], [], [], [], [], [], [], [], [(2, 83)], [(1, 128)], [], [], [], [], [(4, 110), (2, 215), (1, 1), (2, 216)], [], [], [(2, 87)], [], [(4, 163), (3, 17), (3, 18), (1, 7), (3, 19)], [], [], [], [(4, 101), (3, 137), (1, 23), (3, 138)], [], [], [], [(4, 164), (4, 165), (1, 1), (4, 166)], [], [], [], [(4, 164), (4, 165), (1, 1), (4, 166)], [], [], [], [], [], [], [(2, 80)], [], [], [(2, 83)], [(1, 128)], [(4, 164), (4, 165), (1, 1), (4, 166)], [(4, 167), (4, 168), (4, 169), (1, 3), (4, 170)], [], []]
def c_W_factorial : List zE := [(0, .lconst 1, 1, [], 1),
  (1, .lstore_n 1, 1, [], 0),
  (2, .iconst 2, 1, [], 2),
  (3, .istore_n 3, 1, [], 0),
  (4, .iload_n 3, 1, [], 0),
  (5, .iload_n 0, 1, [], 0),
  (6, .if_icmp .gt 14, 3, [20], 0),
  (9, .lload_n 1, 1, [], 0),
  (10, .iload_n 3, 1, [], 0),
  (11, .i2l, 1, [], 0),
  (12, .lmul, 1, [], 0),
  (13, .lstore_n 1, 1, [], 0),
  (14, .iinc 3 1, 3, [], 1),
  (17, .goto (-13), 3, [4], 0),
  (20, .lload_n 1, 1, [], 0),
  (21, .lreturn, 1, [], 0)]
def k_W_factorial : List (List (Nat × Nat)) := [[], [], [], [], [], [], [], [], [], [], [], [], [], [], [], []]
def c_Row_tellFraction : List zE := [(0, .lload_n 1, 1, [], 0),
  (1, .lload_n 3, 1, [], 0),
  (2, .invokestatic 26, 3, [1, 116, 2], 0),
  (5, .lstore 5, 2, [], 0),
  (7, .lload_n 1, 1, [], 0),
  (8, .lconst 0, 1, [], 0),
  (9, .lcmp, 1, [], 0),
  (10, .ifCond .eq 10, 3, [20], 0),
  (13, .lload 5, 2, [], 0),
  (15, .lconst 0, 1, [], 0),
  (16, .lcmp, 1, [], 0),
  (17, .ifCond .ne 12, 3, [29], 0),
  (20, .aload_n 0, 1, [], 0),
  (21, .lconst 0, 1, [], 0),
  (22, .lconst 1, 1, [], 1),
  (23, .invokevirtual 30, 3, [55, 2], 0),
  (26, .goto 15, 3, [41], 0),
  (29, .aload_n 0, 1, [], 0),
  (30, .lload_n 1, 1, [], 0),
  (31, .lload 5, 2, [], 0),
  (33, .ldiv, 1, [], 0),
  (34, .lload_n 3, 1, [], 0),
  (35, .lload 5, 2, [], 0),
  (37, .ldiv, 1, [], 0),
  (38, .invokevirtual 30, 3, [55, 2], 0),
  (41, .return_, 1, [], 0)]
def k_Row_tellFraction : List (List (Nat × Nat)) := [[], [], [(4, 171), (4, 172), (1, 3), (4, 173)], [], [], [], [], [], [], [], [], [], [], [], [], [(4, 174), (3, 143), (3, 144), (1, 3), (3, 145)], [], [], [], [], [], [], [], [], [(4, 174), (3, 143), (3, 144), (1, 3), (3, 145)], []]
def c_Row_divisorOf : List zE := [(0, .iconst 0, 1, [], 0),
  (1, .istore 4, 2, [], 0),
  (3, .iload 4, 2, [], 0),
  (5, .bipush 100, 2, [], 100),
  (7, .if_icmp .ge 25, 3, [32], 0),
  (10, .lload_n 2, 1, [], 0),
  (11, .lconst 0, 1, [], 0),
  (12, .lcmp, 1, [], 0),
  (13, .ifCond .eq 19, 3, [32], 0),
  (16, .lload_n 0, 1, [], 0),
  (17, .lload_n 2, 1, [], 0),
  (18, .lrem, 1, [], 0),
  (19, .lstore 5, 2, [], 0),
  (21, .lload_n 2, 1, [], 0),
  (22, .lstore_n 0, 1, [], 0),
  (23, .lload 5, 2, [], 0),
  (25, .lstore_n 2, 1, [], 0),
  (26, .iinc 4 1, 3, [], 1),
  (29, .goto (-26), 3, [3], 0),
  (32, .lload_n 0, 1, [], 0),
  (33, .lreturn, 1, [], 0)]
def k_Row_divisorOf : List (List (Nat × Nat)) := [[], [], [], [], [], [], [], [], [], [], [], [], [], [], [], [], [], [], [], [], []]
def c_W_shares : List zE := [(0, .iload_n 1, 1, [], 0),
  (1, .ifCond .lt 9, 3, [10], 0),
  (4, .iload_n 1, 1, [], 0),
  (5, .bipush 99, 2, [], 99),
  (7, .if_icmp .le 5, 3, [12], 0),
  (10, .iconst (-1), 1, [], (-1)),
  (11, .ireturn, 1, [], 0),
  (12, .aload_n 0, 1, [], 0),
  (13, .getfield 56, 3, [10, 8, 45, 4, 0], 0),
  (16, .aload_n 0, 1, [], 0),
  (17, .getfield 36, 3, [10, 4, 23, 9, 0], 0),
  (20, .getfield 110, 3, [9, 5], 0),
  (23, .invokevirtual 195, 3, [26, 1], 0),
  (26, .istore_n 2, 1, [], 0),
  (27, .iload_n 2, 1, [], 0),
  (28, .ifCond .ne 13, 3, [41], 0),
  (31, .aload_n 0, 1, [], 0),
  (32, .getfield 19, 3, [10, 1, 3, 5, 0], 0),
  (35, .iconst 0, 1, [], 0),
  (36, .putfield 373, 3, [5, 1], 0),
  (39, .iconst 0, 1, [], 0),
  (40, .ireturn, 1, [], 0),
  (41, .iload_n 1, 1, [], 0),
  (42, .istore_n 3, 1, [], 0),
  (43, .iconst 0, 1, [], 0),
  (44, .istore 4, 2, [], 0),
  (46, .iload 4, 2, [], 0),
  (48, .aload_n 0, 1, [], 0),
  (49, .getfield 36, 3, [10, 4, 23, 9, 0], 0),
  (52, .getfield 110, 3, [9, 5], 0),
  (55, .if_icmp .ge 40, 3, [95], 0),
  (58, .aload_n 0, 1, [], 0),
  (59, .getfield 99, 3, [10, 18, 162, 100, 8], 0),
  (62, .iload 4, 2, [], 0),
  (64, .iload_n 1, 1, [], 0),
  (65, .aload_n 0, 1, [], 0),
  (66, .getfield 56, 3, [10, 8, 45, 4, 0], 0),
  (69, .getfield 139, 3, [4, 0, 1, 100, 8], 0),
  (72, .iload 4, 2, [], 0),
  (74, .iaload, 1, [], 0),
  (75, .imul, 1, [], 0),
  (76, .iload_n 2, 1, [], 0),
  (77, .idiv, 1, [], 0),
  (78, .iastore, 1, [], 0),
  (79, .iload_n 3, 1, [], 0),
  (80, .aload_n 0, 1, [], 0),
  (81, .getfield 99, 3, [10, 18, 162, 100, 8], 0),
  (84, .iload 4, 2, [], 0),
  (86, .iaload, 1, [], 0),
  (87, .isub, 1, [], 0),
  (88, .istore_n 3, 1, [], 0),
  (89, .iinc 4 1, 3, [], 1),
  (92, .goto (-46), 3, [46], 0),
  (95, .iconst 0, 1, [], 0),
  (96, .istore 4, 2, [], 0),
  (98, .iconst 0, 1, [], 0),
  (99, .istore 5, 2, [], 0),
  (101, .iload 5, 2, [], 0),
  (103, .iload_n 3, 1, [], 0),
  (104, .if_icmp .ge 39, 3, [143], 0),
  (107, .aload_n 0, 1, [], 0),
  (108, .iload_n 1, 1, [], 0),
  (109, .iload_n 2, 1, [], 0),
  (110, .iload 4, 2, [], 0),
  (112, .invokevirtual 374, 3, [118, 3], 0),
  (115, .istore 6, 2, [], 0),
  (117, .aload_n 0, 1, [], 0),
  (118, .getfield 99, 3, [10, 18, 162, 100, 8], 0),
  (121, .iload 6, 2, [], 0),
  (123, .dup2, 1, [], 0),
  (124, .iaload, 1, [], 0),
  (125, .iconst 1, 1, [], 1),
  (126, .iadd, 1, [], 0),
  (127, .iastore, 1, [], 0),
  (128, .iload 4, 2, [], 0),
  (130, .iconst 1, 1, [], 1),
  (131, .iload 6, 2, [], 0),
  (133, .ishl, 1, [], 0),
  (134, .ior, 1, [], 0),
  (135, .istore 4, 2, [], 0),
  (137, .iinc 5 1, 3, [], 1),
  (140, .goto (-39), 3, [101], 0),
  (143, .aload_n 0, 1, [], 0),
  (144, .getfield 19, 3, [10, 1, 3, 5, 0], 0),
  (147, .aload_n 0, 1, [], 0),
  (148, .getfield 99, 3, [10, 18, 162, 100, 8], 0),
  (151, .aload_n 0, 1, [], 0),
  (152, .getfield 36, 3, [10, 4, 23, 9, 0], 0),
  (155, .getfield 110, 3, [9, 5], 0),
  (158, .invokevirtual 282, 3, [69, 2], 0),
  (161, .aload_n 0, 1, [], 0),
  (162, .getfield 99, 3, [10, 18, 162, 100, 8], 0),
  (165, .iconst 0, 1, [], 0),
  (166, .iaload, 1, [], 0),
  (167, .ireturn, 1, [], 0)]
def k_W_shares : List (List (Nat × Nat)) := [[], [], [], [], [], [], [], [], [(2, 87)], [], [(2, 83)], [(1, 128)], [(3, 12), (3, 13), (3, 14), (1, 7), (3, 15)], [], [], [], [], [(2, 80)], [], [(1, 61)], [], [], [], [], [], [], [], [], [(2, 83)], [(1, 128)], [], [], [(2, 97)], [], [], [], [(2, 87)], [(1, 184)], [], [], [], [], [], [], [], [], [(2, 97)], [], [], [], [], [], [], [], [], [], [], [], [], [], [], [], [], [], [(4, 179), (4, 181), (0, 32), (1, 1), (4, 182)], [], [], [(2, 97)], [], [], [], [], [], [], [], [], [], [], [], [], [], [], [], [(2, 80)], [], [(2, 97)], [], [(2, 83)], [(1, 128)], [(3, 199), (3, 200), (3, 201), (1, 3), (3, 202)], [], [(2, 97)], [], [], []]
def c_W_greatestRest : List zE := [(0, .iconst 0, 1, [], 0),
  (1, .istore 4, 2, [], 0),
  (3, .iconst (-1), 1, [], (-1)),
  (4, .istore 5, 2, [], 0),
  (6, .iconst 0, 1, [], 0),
  (7, .istore 6, 2, [], 0),
  (9, .iload 6, 2, [], 0),
  (11, .aload_n 0, 1, [], 0),
  (12, .getfield 36, 3, [10, 4, 23, 9, 0], 0),
  (15, .getfield 110, 3, [9, 5], 0),
  (18, .if_icmp .ge 57, 3, [75], 0),
  (21, .iload_n 2, 1, [], 0),
  (22, .ifCond .le 20, 3, [42], 0),
  (25, .iload_n 1, 1, [], 0),
  (26, .aload_n 0, 1, [], 0),
  (27, .getfield 56, 3, [10, 8, 45, 4, 0], 0),
  (30, .getfield 139, 3, [4, 0, 1, 100, 8], 0),
  (33, .iload 6, 2, [], 0),
  (35, .iaload, 1, [], 0),
  (36, .imul, 1, [], 0),
  (37, .iload_n 2, 1, [], 0),
  (38, .irem, 1, [], 0),
  (39, .goto 4, 3, [43], 0),
  (42, .iconst 0, 1, [], 0),
  (43, .istore 7, 2, [], 0),
  (45, .iload_n 3, 1, [], 0),
  (46, .iload 6, 2, [], 0),
  (48, .invokestatic 339, 3, [1, 17, 2], 0),
  (51, .ifCond .ne 18, 3, [69], 0),
  (54, .iload 7, 2, [], 0),
  (56, .iload 5, 2, [], 0),
  (58, .if_icmp .le 11, 3, [69], 0),
  (61, .iload 7, 2, [], 0),
  (63, .istore 5, 2, [], 0),
  (65, .iload 6, 2, [], 0),
  (67, .istore 4, 2, [], 0),
  (69, .iinc 6 1, 3, [], 1),
  (72, .goto (-63), 3, [9], 0),
  (75, .iload 4, 2, [], 0),
  (77, .ireturn, 1, [], 0)]
def k_W_greatestRest : List (List (Nat × Nat)) := [[], [], [], [], [], [], [], [], [(2, 83)], [(1, 128)], [], [], [], [], [], [(2, 87)], [(1, 184)], [], [], [], [], [], [], [], [], [], [], [(4, 110), (2, 215), (1, 1), (2, 216)], [], [], [], [], [], [], [], [], [], [], [], []]
def c_W_saw : List zE := [(0, .aload_n 0, 1, [], 0),
  (1, .getfield 36, 3, [10, 4, 23, 9, 0], 0),
  (4, .iload_n 1, 1, [], 0),
  (5, .iload_n 2, 1, [], 0),
  (6, .invokevirtual 226, 3, [43, 2], 0),
  (9, .ifCond .eq 12, 3, [21], 0),
  (12, .aload_n 0, 1, [], 0),
  (13, .getfield 378, 3, [10, 14], 0),
  (16, .bipush 8, 2, [], 8),
  (18, .if_icmp .lt 5, 3, [23], 0),
  (21, .iconst (-1), 1, [], (-1)),
  (22, .ireturn, 1, [], 0),
  (23, .aload_n 0, 1, [], 0),
  (24, .getfield 71, 3, [10, 12, 142, 100, 8], 0),
  (27, .aload_n 0, 1, [], 0),
  (28, .getfield 378, 3, [10, 14], 0),
  (31, .iload_n 1, 1, [], 0),
  (32, .iastore, 1, [], 0),
  (33, .aload_n 0, 1, [], 0),
  (34, .getfield 75, 3, [10, 13, 143, 100, 8], 0),
  (37, .aload_n 0, 1, [], 0),
  (38, .getfield 378, 3, [10, 14], 0),
  (41, .iload_n 2, 1, [], 0),
  (42, .iastore, 1, [], 0),
  (43, .aload_n 0, 1, [], 0),
  (44, .dup, 1, [], 0),
  (45, .getfield 378, 3, [10, 14], 0),
  (48, .iconst 1, 1, [], 1),
  (49, .iadd, 1, [], 0),
  (50, .putfield 378, 3, [10, 14], 0),
  (53, .aload_n 0, 1, [], 0),
  (54, .getfield 378, 3, [10, 14], 0),
  (57, .ireturn, 1, [], 0)]
def k_W_saw : List (List (Nat × Nat)) := [[], [(2, 83)], [], [], [(3, 84), (3, 85), (3, 86), (1, 5), (3, 87)], [], [], [(2, 93)], [], [], [], [], [], [(2, 91)], [], [(2, 93)], [], [], [], [(2, 92)], [], [(2, 93)], [], [], [], [], [(2, 93)], [], [], [(2, 93)], [], [(2, 93)], []]
def c_W_forget : List zE := [(0, .aload_n 0, 1, [], 0),
  (1, .getfield 378, 3, [10, 14], 0),
  (4, .istore_n 1, 1, [], 0),
  (5, .aload_n 0, 1, [], 0),
  (6, .iconst 0, 1, [], 0),
  (7, .putfield 378, 3, [10, 14], 0),
  (10, .iload_n 1, 1, [], 0),
  (11, .ireturn, 1, [], 0)]
def k_W_forget : List (List (Nat × Nat)) := [[], [(2, 93)], [], [], [], [(2, 93)], [], []]
def c_W_fits : List zE := [(0, .aload_n 0, 1, [], 0),
  (1, .invokevirtual 381, 3, [122, 0], 0),
  (4, .istore_n 1, 1, [], 0),
  (5, .iload_n 1, 1, [], 0),
  (6, .ifCond .ne 14, 3, [20], 0),
  (9, .aload_n 0, 1, [], 0),
  (10, .getfield 19, 3, [10, 1, 3, 5, 0], 0),
  (13, .iconst 0, 1, [], 0),
  (14, .putfield 373, 3, [5, 1], 0),
  (17, .goto 27, 3, [44], 0),
  (20, .aload_n 0, 1, [], 0),
  (21, .getfield 81, 3, [10, 15, 144, 2, 0], 0),
  (24, .aload_n 0, 1, [], 0),
  (25, .getfield 99, 3, [10, 18, 162, 100, 8], 0),
  (28, .invokevirtual 384, 3, [127, 1], 0),
  (31, .aload_n 0, 1, [], 0),
  (32, .getfield 19, 3, [10, 1, 3, 5, 0], 0),
  (35, .aload_n 0, 1, [], 0),
  (36, .getfield 99, 3, [10, 18, 162, 100, 8], 0),
  (39, .bipush 8, 2, [], 8),
  (41, .invokevirtual 282, 3, [69, 2], 0),
  (44, .iload_n 1, 1, [], 0),
  (45, .ireturn, 1, [], 0)]
def k_W_fits : List (List (Nat × Nat)) := [[], [(4, 195), (4, 197), (0, 33), (1, 1), (4, 198)], [], [], [], [], [(2, 80)], [], [(1, 61)], [], [], [(2, 94)], [], [(2, 97)], [(4, 215), (4, 216), (4, 217), (1, 9), (4, 218)], [], [(2, 80)], [], [(2, 97)], [], [(3, 199), (3, 200), (3, 201), (1, 3), (3, 202)], [], []]
def c_W_fitAll : List zE := [(0, .aload_n 0, 1, [], 0),
  (1, .getfield 81, 3, [10, 15, 144, 2, 0], 0),
  (4, .invokevirtual 387, 3, [123, 0], 0),
  (7, .iconst 0, 1, [], 0),
  (8, .istore_n 1, 1, [], 0),
  (9, .iload_n 1, 1, [], 0),
  (10, .aload_n 0, 1, [], 0),
  (11, .getfield 378, 3, [10, 14], 0),
  (14, .if_icmp .ge 32, 3, [46], 0),
  (17, .aload_n 0, 1, [], 0),
  (18, .getfield 81, 3, [10, 15, 144, 2, 0], 0),
  (21, .aload_n 0, 1, [], 0),
  (22, .getfield 36, 3, [10, 4, 23, 9, 0], 0),
  (25, .aload_n 0, 1, [], 0),
  (26, .getfield 71, 3, [10, 12, 142, 100, 8], 0),
  (29, .iload_n 1, 1, [], 0),
  (30, .iaload, 1, [], 0),
  (31, .aload_n 0, 1, [], 0),
  (32, .getfield 75, 3, [10, 13, 143, 100, 8], 0),
  (35, .iload_n 1, 1, [], 0),
  (36, .iaload, 1, [], 0),
  (37, .invokevirtual 390, 3, [124, 3], 0),
  (40, .iinc 1 1, 3, [], 1),
  (43, .goto (-34), 3, [9], 0),
  (46, .aload_n 0, 1, [], 0),
  (47, .getfield 81, 3, [10, 15, 144, 2, 0], 0),
  (50, .invokevirtual 394, 3, [125, 0], 0),
  (53, .ireturn, 1, [], 0)]
def k_W_fitAll : List (List (Nat × Nat)) := [[], [(2, 94)], [(4, 199), (4, 200), (4, 201), (1, 9), (4, 202)], [], [], [], [], [(2, 93)], [], [], [(2, 94)], [], [(2, 83)], [], [(2, 91)], [], [], [], [(2, 92)], [], [], [(4, 203), (4, 204), (4, 205), (1, 9), (4, 206)], [], [], [], [(2, 94)], [(4, 207), (4, 208), (4, 209), (1, 9), (4, 210)], []]
def c_Orders_demandNothing : List zE := [(0, .aload_n 0, 1, [], 0),
  (1, .iconst 1, 1, [], 1),
  (2, .putfield 69, 3, [2, 4, 0], 0),
  (5, .aload_n 0, 1, [], 0),
  (6, .getfield 21, 3, [2, 3, 4, 100, 8], 0),
  (9, .iconst 0, 1, [], 0),
  (10, .invokestatic 51, 3, [1, 256, 2], 0),
  (13, .return_, 1, [], 0)]
def k_Orders_demandNothing : List (List (Nat × Nat)) := [[], [], [(2, 4)], [], [(2, 3)], [], [(4, 70), (4, 71), (1, 24), (4, 72)], []]
def c_Orders_demand : List zE := [(0, .aload_n 1, 1, [], 0),
  (1, .iload_n 2, 1, [], 0),
  (2, .iload_n 3, 1, [], 0),
  (3, .invokevirtual 63, 3, [81, 2], 0),
  (6, .istore 4, 2, [], 0),
  (8, .aload_n 1, 1, [], 0),
  (9, .iload_n 3, 1, [], 0),
  (10, .iload_n 2, 1, [], 0),
  (11, .invokevirtual 63, 3, [81, 2], 0),
  (14, .istore 5, 2, [], 0),
  (16, .iload 4, 2, [], 0),
  (18, .iconst (-1), 1, [], (-1)),
  (19, .if_icmp .eq 26, 3, [45], 0),
  (22, .iload 5, 2, [], 0),
  (24, .iconst (-1), 1, [], (-1)),
  (25, .if_icmp .eq 20, 3, [45], 0),
  (28, .aload_n 0, 1, [], 0),
  (29, .getfield 21, 3, [2, 3, 4, 100, 8], 0),
  (32, .iload 5, 2, [], 0),
  (34, .dup2, 1, [], 0),
  (35, .iaload, 1, [], 0),
  (36, .iconst 1, 1, [], 1),
  (37, .iload 4, 2, [], 0),
  (39, .ishl, 1, [], 0),
  (40, .ior, 1, [], 0),
  (41, .iastore, 1, [], 0),
  (42, .goto 17, 3, [59], 0),
  (45, .aload_n 1, 1, [], 0),
  (46, .iload_n 2, 1, [], 0),
  (47, .iload_n 3, 1, [], 0),
  (48, .invokevirtual 66, 3, [82, 2], 0),
  (51, .ifCond .ne 8, 3, [59], 0),
  (54, .aload_n 0, 1, [], 0),
  (55, .iconst 0, 1, [], 0),
  (56, .putfield 69, 3, [2, 4, 0], 0),
  (59, .return_, 1, [], 0)]
def k_Orders_demand : List (List (Nat × Nat)) := [[], [], [], [(4, 73), (4, 13), (4, 14), (1, 5), (4, 15)], [], [], [], [], [(4, 73), (4, 13), (4, 14), (1, 5), (4, 15)], [], [], [], [], [], [], [], [], [(2, 3)], [], [], [], [], [], [], [], [], [], [], [], [], [(4, 74), (4, 19), (4, 20), (1, 5), (4, 21)], [], [], [], [(2, 4)], []]
def c_Orders_fitDemands : List zE := [(0, .aload_n 0, 1, [], 0),
  (1, .getfield 24, 3, [2, 5, 5, 100, 256], 0),
  (4, .iconst 0, 1, [], 0),
  (5, .invokestatic 51, 3, [1, 256, 2], 0),
  (8, .aload_n 0, 1, [], 0),
  (9, .getfield 27, 3, [2, 6, 6, 100, 256], 0),
  (12, .iconst 0, 1, [], 0),
  (13, .invokestatic 51, 3, [1, 256, 2], 0),
  (16, .aload_n 0, 1, [], 0),
  (17, .getfield 24, 3, [2, 5, 5, 100, 256], 0),
  (20, .iconst 0, 1, [], 0),
  (21, .aload_n 0, 1, [], 0),
  (22, .getfield 69, 3, [2, 4], 0),
  (25, .ifCond .eq 7, 3, [32], 0),
  (28, .iconst 1, 1, [], 1),
  (29, .goto 4, 3, [33], 0),
  (32, .iconst 0, 1, [], 0),
  (33, .iastore, 1, [], 0),
  (34, .aload_n 0, 1, [], 0),
  (35, .getfield 27, 3, [2, 6, 6, 100, 256], 0),
  (38, .sipush 255, 3, [], 255),
  (41, .aload_n 0, 1, [], 0),
  (42, .getfield 69, 3, [2, 4], 0),
  (45, .ifCond .eq 7, 3, [52], 0),
  (48, .iconst 1, 1, [], 1),
  (49, .goto 4, 3, [53], 0),
  (52, .iconst 0, 1, [], 0),
  (53, .iastore, 1, [], 0),
  (54, .iconst 0, 1, [], 0),
  (55, .istore_n 1, 1, [], 0),
  (56, .iload_n 1, 1, [], 0),
  (57, .sipush 256, 3, [], 256),
  (60, .if_icmp .ge 51, 3, [111], 0),
  (63, .iconst 0, 1, [], 0),
  (64, .istore_n 2, 1, [], 0),
  (65, .iload_n 2, 1, [], 0),
  (66, .bipush 8, 2, [], 8),
  (68, .if_icmp .ge 37, 3, [105], 0),
  (71, .aload_n 0, 1, [], 0),
  (72, .iload_n 1, 1, [], 0),
  (73, .iload_n 2, 1, [], 0),
  (74, .invokevirtual 73, 3, [126, 2], 0),
  (77, .ifCond .eq 22, 3, [99], 0),
  (80, .aload_n 0, 1, [], 0),
  (81, .getfield 24, 3, [2, 5, 5, 100, 256], 0),
  (84, .iload_n 1, 1, [], 0),
  (85, .iconst 1, 1, [], 1),
  (86, .iload_n 2, 1, [], 0),
  (87, .ishl, 1, [], 0),
  (88, .ior, 1, [], 0),
  (89, .dup2, 1, [], 0),
  (90, .iaload, 1, [], 0),
  (91, .aload_n 0, 1, [], 0),
  (92, .getfield 24, 3, [2, 5, 5, 100, 256], 0),
  (95, .iload_n 1, 1, [], 0),
  (96, .iaload, 1, [], 0),
  (97, .iadd, 1, [], 0),
  (98, .iastore, 1, [], 0),
  (99, .iinc 2 1, 3, [], 1),
  (102, .goto (-37), 3, [65], 0),
  (105, .iinc 1 1, 3, [], 1),
  (108, .goto (-52), 3, [56], 0),
  (111, .sipush 255, 3, [], 255),
  (114, .istore_n 1, 1, [], 0),
  (115, .iload_n 1, 1, [], 0),
  (116, .ifCond .lt 51, 3, [167], 0),
  (119, .iconst 0, 1, [], 0),
  (120, .istore_n 2, 1, [], 0),
  (121, .iload_n 2, 1, [], 0),
  (122, .bipush 8, 2, [], 8),
  (124, .if_icmp .ge 37, 3, [161], 0),
  (127, .aload_n 0, 1, [], 0),
  (128, .iload_n 1, 1, [], 0),
  (129, .iload_n 2, 1, [], 0),
  (130, .invokevirtual 73, 3, [126, 2], 0),
  (133, .ifCond .eq 22, 3, [155], 0),
  (136, .aload_n 0, 1, [], 0),
  (137, .getfield 27, 3, [2, 6, 6, 100, 256], 0),
  (140, .iload_n 1, 1, [], 0),
  (141, .dup2, 1, [], 0),
  (142, .iaload, 1, [], 0),
  (143, .aload_n 0, 1, [], 0),
  (144, .getfield 27, 3, [2, 6, 6, 100, 256], 0),
  (147, .iload_n 1, 1, [], 0),
  (148, .iconst 1, 1, [], 1),
  (149, .iload_n 2, 1, [], 0),
  (150, .ishl, 1, [], 0),
  (151, .ior, 1, [], 0),
  (152, .iaload, 1, [], 0),
  (153, .iadd, 1, [], 0),
  (154, .iastore, 1, [], 0),
  (155, .iinc 2 1, 3, [], 1),
  (158, .goto (-37), 3, [121], 0),
  (161, .iinc 1 (-1), 3, [], (-1)),
  (164, .goto (-49), 3, [115], 0),
  (167, .aload_n 0, 1, [], 0),
  (168, .getfield 27, 3, [2, 6, 6, 100, 256], 0),
  (171, .iconst 0, 1, [], 0),
  (172, .iaload, 1, [], 0),
  (173, .ireturn, 1, [], 0)]
def k_Orders_fitDemands : List (List (Nat × Nat)) := [[], [(2, 5)], [], [(4, 70), (4, 71), (1, 24), (4, 72)], [], [(2, 6)], [], [(4, 70), (4, 71), (1, 24), (4, 72)], [], [(2, 5)], [], [], [(2, 4)], [], [], [], [], [], [], [(2, 6)], [], [], [(2, 4)], [], [], [], [], [], [], [], [], [], [], [], [], [], [], [], [], [], [], [(4, 211), (4, 213), (0, 34), (1, 9), (4, 214)], [], [], [(2, 5)], [], [], [], [], [], [], [], [], [(2, 5)], [], [], [], [], [], [], [], [], [], [], [], [], [], [], [], [], [], [], [], [], [(4, 211), (4, 213), (0, 34), (1, 9), (4, 214)], [], [], [(2, 6)], [], [], [], [], [(2, 6)], [], [], [], [], [], [], [], [], [], [], [], [], [], [(2, 6)], [], [], []]
def c_Orders_canFollow : List zE := [(0, .iload_n 1, 1, [], 0),
  (1, .iload_n 2, 1, [], 0),
  (2, .invokestatic 34, 3, [2, 17, 2], 0),
  (5, .ifCond .ne 20, 3, [25], 0),
  (8, .aload_n 0, 1, [], 0),
  (9, .getfield 21, 3, [2, 3, 4, 100, 8], 0),
  (12, .iload_n 2, 1, [], 0),
  (13, .iaload, 1, [], 0),
  (14, .iload_n 1, 1, [], 0),
  (15, .iconst (-1), 1, [], (-1)),
  (16, .ixor, 1, [], 0),
  (17, .iand, 1, [], 0),
  (18, .ifCond .ne 7, 3, [25], 0),
  (21, .iconst 1, 1, [], 1),
  (22, .goto 4, 3, [26], 0),
  (25, .iconst 0, 1, [], 0),
  (26, .ireturn, 1, [], 1)]
def k_Orders_canFollow : List (List (Nat × Nat)) := [[], [], [(2, 215), (1, 1), (2, 216), (4, 75)], [], [], [(2, 3)], [], [], [], [], [], [], [], [], [], [], []]
def c_Orders_leastFit : List zE := [(0, .iconst 0, 1, [], 0),
  (1, .istore_n 2, 1, [], 0),
  (2, .iconst 0, 1, [], 0),
  (3, .istore_n 3, 1, [], 0),
  (4, .iload_n 3, 1, [], 0),
  (5, .bipush 8, 2, [], 8),
  (7, .if_icmp .ge 28, 3, [35], 0),
  (10, .aload_n 0, 1, [], 0),
  (11, .iload_n 2, 1, [], 0),
  (12, .invokevirtual 76, 3, [128, 1], 0),
  (15, .istore 4, 2, [], 0),
  (17, .aload_n 1, 1, [], 0),
  (18, .iload_n 3, 1, [], 0),
  (19, .iload 4, 2, [], 0),
  (21, .iastore, 1, [], 0),
  (22, .iload_n 2, 1, [], 0),
  (23, .iconst 1, 1, [], 1),
  (24, .iload 4, 2, [], 0),
  (26, .ishl, 1, [], 0),
  (27, .ior, 1, [], 0),
  (28, .istore_n 2, 1, [], 0),
  (29, .iinc 3 1, 3, [], 1),
  (32, .goto (-28), 3, [4], 0),
  (35, .return_, 1, [], 0)]
def k_Orders_leastFit : List (List (Nat × Nat)) := [[], [], [], [], [], [], [], [], [], [(4, 219), (4, 221), (0, 35), (1, 9), (4, 222)], [], [], [], [], [], [], [], [], [], [], [], [], [], []]
def c_Orders_leastFitNext : List zE := [(0, .iconst 0, 1, [], 0),
  (1, .istore_n 2, 1, [], 0),
  (2, .iload_n 2, 1, [], 0),
  (3, .bipush 8, 2, [], 8),
  (5, .if_icmp .ge 33, 3, [38], 0),
  (8, .aload_n 0, 1, [], 0),
  (9, .iload_n 1, 1, [], 0),
  (10, .iload_n 2, 1, [], 0),
  (11, .invokevirtual 73, 3, [126, 2], 0),
  (14, .ifCond .eq 18, 3, [32], 0),
  (17, .aload_n 0, 1, [], 0),
  (18, .getfield 27, 3, [2, 6, 6, 100, 256], 0),
  (21, .iload_n 1, 1, [], 0),
  (22, .iconst 1, 1, [], 1),
  (23, .iload_n 2, 1, [], 0),
  (24, .ishl, 1, [], 0),
  (25, .ior, 1, [], 0),
  (26, .iaload, 1, [], 0),
  (27, .ifCond .le 5, 3, [32], 0),
  (30, .iload_n 2, 1, [], 0),
  (31, .ireturn, 1, [], 0),
  (32, .iinc 2 1, 3, [], 1),
  (35, .goto (-33), 3, [2], 0),
  (38, .iconst 0, 1, [], 0),
  (39, .ireturn, 1, [], 0)]
def k_Orders_leastFitNext : List (List (Nat × Nat)) := [[], [], [], [], [], [], [], [], [(4, 211), (4, 213), (0, 34), (1, 9), (4, 214)], [], [], [(2, 6)], [], [], [], [], [], [], [], [], [], [], [], [], []]
def c_W_sure : List zE := [(0, .iload_n 1, 1, [], 0),
  (1, .ifCond .lt 24, 3, [25], 0),
  (4, .iload_n 1, 1, [], 0),
  (5, .bipush 8, 2, [], 8),
  (7, .if_icmp .ge 18, 3, [25], 0),
  (10, .iload_n 2, 1, [], 0),
  (11, .ifCond .lt 14, 3, [25], 0),
  (14, .iload_n 2, 1, [], 0),
  (15, .bipush 8, 2, [], 8),
  (17, .if_icmp .ge 8, 3, [25], 0),
  (20, .iload_n 1, 1, [], 0),
  (21, .iload_n 2, 1, [], 0),
  (22, .if_icmp .ne 5, 3, [27], 0),
  (25, .iconst (-1), 1, [], (-1)),
  (26, .ireturn, 1, [], 0),
  (27, .aload_n 0, 1, [], 0),
  (28, .invokevirtual 381, 3, [122, 0], 0),
  (31, .istore_n 3, 1, [], 0),
  (32, .aload_n 0, 1, [], 0),
  (33, .getfield 81, 3, [10, 15, 144, 2, 0], 0),
  (36, .iload_n 1, 1, [], 0),
  (37, .iload_n 2, 1, [], 0),
  (38, .invokevirtual 397, 3, [130, 2], 0),
  (41, .istore 4, 2, [], 0),
  (43, .aload_n 0, 1, [], 0),
  (44, .getfield 19, 3, [10, 1, 3, 5, 0], 0),
  (47, .iload 4, 2, [], 0),
  (49, .i2l, 1, [], 0),
  (50, .iload_n 3, 1, [], 0),
  (51, .i2l, 1, [], 0),
  (52, .invokevirtual 370, 3, [115, 2], 0),
  (55, .iload 4, 2, [], 0),
  (57, .ireturn, 1, [], 0)]
def k_W_sure : List (List (Nat × Nat)) := [[], [], [], [], [], [], [], [], [], [], [], [], [], [], [], [], [(4, 195), (4, 197), (0, 33), (1, 1), (4, 198)], [], [], [(2, 94)], [], [], [(4, 227), (4, 228), (4, 229), (1, 9), (4, 230)], [], [], [(2, 80)], [], [], [], [], [(4, 167), (4, 168), (4, 169), (1, 3), (4, 170)], [], []]
def c_Orders_fitsWith : List zE := [(0, .iconst 0, 1, [], 0),
  (1, .istore_n 3, 1, [], 0),
  (2, .iconst 0, 1, [], 0),
  (3, .istore 4, 2, [], 0),
  (5, .iload 4, 2, [], 0),
  (7, .sipush 256, 3, [], 256),
  (10, .if_icmp .ge 50, 3, [60], 0),
  (13, .iload 4, 2, [], 0),
  (15, .iload_n 2, 1, [], 0),
  (16, .invokestatic 34, 3, [2, 17, 2], 0),
  (19, .ifCond .ne 35, 3, [54], 0),
  (22, .aload_n 0, 1, [], 0),
  (23, .iload 4, 2, [], 0),
  (25, .iload_n 1, 1, [], 0),
  (26, .invokevirtual 73, 3, [126, 2], 0),
  (29, .ifCond .eq 25, 3, [54], 0),
  (32, .iload_n 3, 1, [], 0),
  (33, .aload_n 0, 1, [], 0),
  (34, .getfield 24, 3, [2, 5, 5, 100, 256], 0),
  (37, .iload 4, 2, [], 0),
  (39, .iaload, 1, [], 0),
  (40, .aload_n 0, 1, [], 0),
  (41, .getfield 27, 3, [2, 6, 6, 100, 256], 0),
  (44, .iload 4, 2, [], 0),
  (46, .iconst 1, 1, [], 1),
  (47, .iload_n 1, 1, [], 0),
  (48, .ishl, 1, [], 0),
  (49, .ior, 1, [], 0),
  (50, .iaload, 1, [], 0),
  (51, .imul, 1, [], 0),
  (52, .iadd, 1, [], 0),
  (53, .istore_n 3, 1, [], 0),
  (54, .iinc 4 1, 3, [], 1),
  (57, .goto (-52), 3, [5], 0),
  (60, .iload_n 3, 1, [], 0),
  (61, .ireturn, 1, [], 0)]
def k_Orders_fitsWith : List (List (Nat × Nat)) := [[], [], [], [], [], [], [], [], [], [(2, 215), (1, 1), (2, 216), (4, 75)], [], [], [], [], [(4, 211), (4, 213), (0, 34), (1, 9), (4, 214)], [], [], [], [(2, 5)], [], [], [], [(2, 6)], [], [], [], [], [], [], [], [], [], [], [], [], []]
def c_W_ask : List zE := [(0, .aload_n 0, 1, [], 0),
  (1, .invokevirtual 381, 3, [122, 0], 0),
  (4, .istore_n 1, 1, [], 0),
  (5, .iload_n 1, 1, [], 0),
  (6, .ifCond .ne 6, 3, [12], 0),
  (9, .bipush (-2), 2, [], (-2)),
  (11, .ireturn, 1, [], 0),
  (12, .iload_n 1, 1, [], 0),
  (13, .iconst 1, 1, [], 1),
  (14, .iadd, 1, [], 0),
  (15, .istore_n 2, 1, [], 0),
  (16, .iconst 0, 1, [], 0),
  (17, .istore_n 3, 1, [], 0),
  (18, .iload_n 3, 1, [], 0),
  (19, .bipush 8, 2, [], 8),
  (21, .if_icmp .ge 71, 3, [92], 0),
  (24, .iload_n 3, 1, [], 0),
  (25, .iconst 1, 1, [], 1),
  (26, .iadd, 1, [], 0),
  (27, .istore 4, 2, [], 0),
  (29, .iload 4, 2, [], 0),
  (31, .bipush 8, 2, [], 8),
  (33, .if_icmp .ge 53, 3, [86], 0),
  (36, .aload_n 0, 1, [], 0),
  (37, .getfield 81, 3, [10, 15, 144, 2, 0], 0),
  (40, .iload_n 3, 1, [], 0),
  (41, .iload 4, 2, [], 0),
  (43, .invokevirtual 397, 3, [130, 2], 0),
  (46, .istore 5, 2, [], 0),
  (48, .iload 5, 2, [], 0),
  (50, .iload_n 1, 1, [], 0),
  (51, .iload 5, 2, [], 0),
  (53, .isub, 1, [], 0),
  (54, .invokestatic 203, 3, [4], 0),
  (57, .istore 6, 2, [], 0),
  (59, .iload 6, 2, [], 0),
  (61, .iload_n 2, 1, [], 0),
  (62, .if_icmp .ge 18, 3, [80], 0),
  (65, .iload 6, 2, [], 0),
  (67, .istore_n 2, 1, [], 0),
  (68, .aload_n 0, 1, [], 0),
  (69, .getfield 19, 3, [10, 1, 3, 5, 0], 0),
  (72, .iload_n 3, 1, [], 0),
  (73, .i2l, 1, [], 0),
  (74, .iload 4, 2, [], 0),
  (76, .i2l, 1, [], 0),
  (77, .invokevirtual 243, 3, [55, 2], 0),
  (80, .iinc 4 1, 3, [], 1),
  (83, .goto (-54), 3, [29], 0),
  (86, .iinc 3 1, 3, [], 1),
  (89, .goto (-71), 3, [18], 0),
  (92, .iload_n 2, 1, [], 0),
  (93, .ireturn, 1, [], 0)]
def k_W_ask : List (List (Nat × Nat)) := [[], [(4, 195), (4, 197), (0, 33), (1, 1), (4, 198)], [], [], [], [], [], [], [], [], [], [], [], [], [], [], [], [], [], [], [], [], [], [], [(2, 94)], [], [], [(4, 227), (4, 228), (4, 229), (1, 9), (4, 230)], [], [], [], [], [], [(3, 9)], [], [], [], [], [], [], [], [(2, 80)], [], [], [], [], [(3, 142), (3, 143), (3, 144), (1, 3), (3, 145)], [], [], [], [], [], []]
def c_W_law : List zE := [(0, .aload_n 0, 1, [], 0),
  (1, .aload_n 0, 1, [], 0),
  (2, .getfield 30, 3, [10, 3, 14, 6, 0], 0),
  (5, .invokevirtual 153, 3, [15, 1], 0),
  (8, .istore_n 1, 1, [], 0),
  (9, .iload_n 1, 1, [], 0),
  (10, .iconst (-1), 1, [], (-1)),
  (11, .if_icmp .eq 9, 3, [20], 0),
  (14, .sipush (-10000), 3, [], (-10000)),
  (17, .iload_n 1, 1, [], 0),
  (18, .isub, 1, [], 0),
  (19, .ireturn, 1, [], 0),
  (20, .aload_n 0, 1, [], 0),
  (21, .getfield 40, 3, [10, 5, 29, 9, 0], 0),
  (24, .aload_n 0, 1, [], 0),
  (25, .getfield 36, 3, [10, 4, 23, 9, 0], 0),
  (28, .invokevirtual 250, 3, [31, 1], 0),
  (31, .aload_n 0, 1, [], 0),
  (32, .getfield 56, 3, [10, 8, 45, 4, 0], 0),
  (35, .aload_n 0, 1, [], 0),
  (36, .getfield 40, 3, [10, 5, 29, 9, 0], 0),
  (39, .aload_n 0, 1, [], 0),
  (40, .getfield 46, 3, [10, 6, 35, 0, 0], 0),
  (43, .aload_n 0, 1, [], 0),
  (44, .getfield 30, 3, [10, 3, 14, 6, 0], 0),
  (47, .bipush 10, 2, [], 10),
  (49, .invokevirtual 233, 3, [46, 4], 0),
  (52, .istore_n 2, 1, [], 0),
  (53, .aload_n 0, 1, [], 0),
  (54, .getfield 40, 3, [10, 5, 29, 9, 0], 0),
  (57, .aload_n 0, 1, [], 0),
  (58, .getfield 36, 3, [10, 4, 23, 9, 0], 0),
  (61, .invokevirtual 250, 3, [31, 1], 0),
  (64, .aload_n 0, 1, [], 0),
  (65, .getfield 56, 3, [10, 8, 45, 4, 0], 0),
  (68, .aload_n 0, 1, [], 0),
  (69, .getfield 40, 3, [10, 5, 29, 9, 0], 0),
  (72, .aload_n 0, 1, [], 0),
  (73, .getfield 46, 3, [10, 6, 35, 0, 0], 0),
  (76, .aload_n 0, 1, [], 0),
  (77, .getfield 26, 3, [10, 2, 5, 6, 0], 0),
  (80, .bipush 10, 2, [], 10),
  (82, .invokevirtual 233, 3, [46, 4], 0),
  (85, .istore_n 3, 1, [], 0),
  (86, .aload_n 0, 1, [], 0),
  (87, .getfield 19, 3, [10, 1, 3, 5, 0], 0),
  (90, .iload_n 2, 1, [], 0),
  (91, .i2l, 1, [], 0),
  (92, .iload_n 3, 1, [], 0),
  (93, .i2l, 1, [], 0),
  (94, .invokevirtual 243, 3, [55, 2], 0),
  (97, .iload_n 2, 1, [], 0),
  (98, .iload_n 3, 1, [], 0),
  (99, .isub, 1, [], 0),
  (100, .ireturn, 1, [], 0)]
def k_W_law : List (List (Nat × Nat)) := [[], [], [(2, 82)], [(2, 205), (2, 207), (0, 1), (1, 1), (2, 208)], [], [], [], [], [], [], [], [], [], [(2, 84)], [], [(2, 83)], [(3, 165), (3, 35), (3, 36), (1, 5), (3, 37)], [], [(2, 87)], [], [(2, 84)], [], [(2, 85)], [], [(2, 82)], [], [(3, 97), (3, 98), (3, 99), (1, 7), (3, 100)], [], [], [(2, 84)], [], [(2, 83)], [(3, 165), (3, 35), (3, 36), (1, 5), (3, 37)], [], [(2, 87)], [], [(2, 84)], [], [(2, 85)], [], [(2, 81)], [], [(3, 97), (3, 98), (3, 99), (1, 7), (3, 100)], [], [], [(2, 80)], [], [], [], [], [(3, 142), (3, 143), (3, 144), (1, 3), (3, 145)], [], [], [], []]
def c_W_rests : List zE := [(0, .iload_n 1, 1, [], 0),
  (1, .ifCond .lt 9, 3, [10], 0),
  (4, .iload_n 1, 1, [], 0),
  (5, .bipush 18, 2, [], 18),
  (7, .if_icmp .le 5, 3, [12], 0),
  (10, .iconst (-1), 1, [], (-1)),
  (11, .ireturn, 1, [], 0),
  (12, .aload_n 0, 1, [], 0),
  (13, .getfield 19, 3, [10, 1, 3, 5, 0], 0),
  (16, .iconst 0, 1, [], 0),
  (17, .putfield 373, 3, [5, 1], 0),
  (20, .iconst 0, 1, [], 0),
  (21, .istore_n 2, 1, [], 0),
  (22, .iconst 0, 1, [], 0),
  (23, .istore_n 3, 1, [], 0),
  (24, .iload_n 3, 1, [], 0),
  (25, .bipush 9, 2, [], 9),
  (27, .if_icmp .gt 78, 3, [105], 0),
  (30, .iconst 0, 1, [], 0),
  (31, .istore 4, 2, [], 0),
  (33, .iload 4, 2, [], 0),
  (35, .bipush 9, 2, [], 9),
  (37, .if_icmp .gt 62, 3, [99], 0),
  (40, .iload_n 3, 1, [], 0),
  (41, .iload_n 1, 1, [], 0),
  (42, .invokestatic 400, 3, [1, 134, 2], 0),
  (45, .iload_n 1, 1, [], 0),
  (46, .invokestatic 403, 3, [1, 135, 1], 0),
  (49, .if_icmp .ne 44, 3, [93], 0),
  (52, .iload 4, 2, [], 0),
  (54, .iload_n 3, 1, [], 0),
  (55, .iload_n 1, 1, [], 0),
  (56, .invokestatic 406, 3, [1, 136, 2], 0),
  (59, .invokestatic 400, 3, [1, 134, 2], 0),
  (62, .iload_n 3, 1, [], 0),
  (63, .iload_n 1, 1, [], 0),
  (64, .invokestatic 406, 3, [1, 136, 2], 0),
  (67, .invokestatic 403, 3, [1, 135, 1], 0),
  (70, .if_icmp .ne 23, 3, [93], 0),
  (73, .iinc 2 1, 3, [], 1),
  (76, .iload_n 2, 1, [], 0),
  (77, .iconst 1, 1, [], 1),
  (78, .if_icmp .ne 15, 3, [93], 0),
  (81, .aload_n 0, 1, [], 0),
  (82, .getfield 19, 3, [10, 1, 3, 5, 0], 0),
  (85, .iload_n 3, 1, [], 0),
  (86, .i2l, 1, [], 0),
  (87, .iload 4, 2, [], 0),
  (89, .i2l, 1, [], 0),
  (90, .invokevirtual 243, 3, [55, 2], 0),
  (93, .iinc 4 1, 3, [], 1),
  (96, .goto (-63), 3, [33], 0),
  (99, .iinc 3 1, 3, [], 1),
  (102, .goto (-78), 3, [24], 0),
  (105, .iload_n 2, 1, [], 0),
  (106, .ireturn, 1, [], 0)]
def k_W_rests : List (List (Nat × Nat)) := [[], [], [], [], [], [], [], [], [(2, 80)], [], [(1, 61)], [], [], [], [], [], [], [], [], [], [], [], [], [], [], [(5, 3), (5, 4), (1, 1), (5, 5)], [], [(5, 6), (5, 7), (1, 1), (5, 8)], [], [], [], [], [(5, 9), (5, 10), (1, 1), (5, 11)], [(5, 3), (5, 4), (1, 1), (5, 5)], [], [], [(5, 9), (5, 10), (1, 1), (5, 11)], [(5, 6), (5, 7), (1, 1), (5, 8)], [], [], [], [], [], [], [(2, 80)], [], [], [], [], [(3, 142), (3, 143), (3, 144), (1, 3), (3, 145)], [], [], [], [], [], []]
def c_W_gain : List zE := [(0, .iload_n 0, 1, [], 0),
  (1, .iload_n 1, 1, [], 0),
  (2, .invokestatic 198, 3, [3], 0),
  (5, .iload_n 0, 1, [], 0),
  (6, .iconst 3, 1, [], 3),
  (7, .idiv, 1, [], 0),
  (8, .isub, 1, [], 0),
  (9, .ireturn, 1, [], 0)]
def k_W_gain : List (List (Nat × Nat)) := [[], [], [(3, 8)], [], [], [], [], []]
def c_W_mostGain : List zE := [(0, .iconst 0, 1, [], 0),
  (1, .istore_n 1, 1, [], 0),
  (2, .iconst 0, 1, [], 0),
  (3, .istore_n 2, 1, [], 0),
  (4, .iload_n 2, 1, [], 0),
  (5, .bipush 9, 2, [], 9),
  (7, .if_icmp .gt 19, 3, [26], 0),
  (10, .iload_n 1, 1, [], 0),
  (11, .iload_n 2, 1, [], 0),
  (12, .iload_n 0, 1, [], 0),
  (13, .invokestatic 400, 3, [1, 134, 2], 0),
  (16, .invokestatic 203, 3, [4], 0),
  (19, .istore_n 1, 1, [], 0),
  (20, .iinc 2 1, 3, [], 1),
  (23, .goto (-19), 3, [4], 0),
  (26, .iload_n 1, 1, [], 0),
  (27, .ireturn, 1, [], 0)]
def k_W_mostGain : List (List (Nat × Nat)) := [[], [], [], [], [], [], [], [], [], [], [(5, 3), (5, 4), (1, 1), (5, 5)], [(3, 9)], [], [], [], [], []]
def c_W_leftBy : List zE := [(0, .iload_n 1, 1, [], 0),
  (1, .iload_n 0, 1, [], 0),
  (2, .iload_n 1, 1, [], 0),
  (3, .invokestatic 198, 3, [3], 0),
  (6, .isub, 1, [], 0),
  (7, .ireturn, 1, [], 0)]
def k_W_leftBy : List (List (Nat × Nat)) := [[], [], [], [(3, 8)], [], []]
def c_W_years : List zE := [(0, .iload_n 2, 1, [], 0),
  (1, .iconst 1, 1, [], 1),
  (2, .if_icmp .lt 9, 3, [11], 0),
  (5, .iload_n 2, 1, [], 0),
  (6, .bipush 60, 2, [], 60),
  (8, .if_icmp .le 5, 3, [13], 0),
  (11, .iconst (-1), 1, [], (-1)),
  (12, .ireturn, 1, [], 0),
  (13, .aload_n 0, 1, [], 0),
  (14, .iload_n 1, 1, [], 0),
  (15, .putfield 409, 3, [10, 19], 0),
  (18, .aload_n 0, 1, [], 0),
  (19, .getfield 40, 3, [10, 5, 29, 9, 0], 0),
  (22, .aload_n 0, 1, [], 0),
  (23, .getfield 36, 3, [10, 4, 23, 9, 0], 0),
  (26, .invokevirtual 250, 3, [31, 1], 0),
  (29, .iconst 0, 1, [], 0),
  (30, .istore_n 3, 1, [], 0),
  (31, .iconst 0, 1, [], 0),
  (32, .istore 4, 2, [], 0),
  (34, .iload 4, 2, [], 0),
  (36, .iload_n 2, 1, [], 0),
  (37, .if_icmp .ge 78, 3, [115], 0),
  (40, .aload_n 0, 1, [], 0),
  (41, .iconst 5, 1, [], 5),
  (42, .invokevirtual 412, 3, [138, 1], 0),
  (45, .istore 5, 2, [], 0),
  (47, .iload 5, 2, [], 0),
  (49, .iconst 3, 1, [], 3),
  (50, .if_icmp .ge 29, 3, [79], 0),
  (53, .iload_n 3, 1, [], 0),
  (54, .aload_n 0, 1, [], 0),
  (55, .getfield 56, 3, [10, 8, 45, 4, 0], 0),
  (58, .aload_n 0, 1, [], 0),
  (59, .getfield 40, 3, [10, 5, 29, 9, 0], 0),
  (62, .aload_n 0, 1, [], 0),
  (63, .getfield 46, 3, [10, 6, 35, 0, 0], 0),
  (66, .aload_n 0, 1, [], 0),
  (67, .getfield 26, 3, [10, 2, 5, 6, 0], 0),
  (70, .iconst 1, 1, [], 1),
  (71, .invokevirtual 233, 3, [46, 4], 0),
  (74, .iadd, 1, [], 0),
  (75, .istore_n 3, 1, [], 0),
  (76, .goto 33, 3, [109], 0),
  (79, .iload 5, 2, [], 0),
  (81, .iconst 4, 1, [], 4),
  (82, .if_icmp .ne 13, 3, [95], 0),
  (85, .aload_n 0, 1, [], 0),
  (86, .getfield 40, 3, [10, 5, 29, 9, 0], 0),
  (89, .invokevirtual 268, 3, [64, 0], 0),
  (92, .goto 17, 3, [109], 0),
  (95, .aload_n 0, 1, [], 0),
  (96, .getfield 40, 3, [10, 5, 29, 9, 0], 0),
  (99, .getfield 110, 3, [9, 5], 0),
  (102, .ifCond .le 7, 3, [109], 0),
  (105, .aload_n 0, 1, [], 0),
  (106, .invokevirtual 415, 3, [139, 0], 0),
  (109, .iinc 4 1, 3, [], 1),
  (112, .goto (-78), 3, [34], 0),
  (115, .aload_n 0, 1, [], 0),
  (116, .getfield 46, 3, [10, 6, 35, 0, 0], 0),
  (119, .aload_n 0, 1, [], 0),
  (120, .getfield 40, 3, [10, 5, 29, 9, 0], 0),
  (123, .aload_n 0, 1, [], 0),
  (124, .getfield 40, 3, [10, 5, 29, 9, 0], 0),
  (127, .getfield 209, 3, [9, 0, 1, 100, 8], 0),
  (130, .invokevirtual 275, 3, [38, 2], 0),
  (133, .aload_n 0, 1, [], 0),
  (134, .getfield 19, 3, [10, 1, 3, 5, 0], 0),
  (137, .aload_n 0, 1, [], 0),
  (138, .getfield 40, 3, [10, 5, 29, 9, 0], 0),
  (141, .getfield 110, 3, [9, 5], 0),
  (144, .ifCond .ne 9, 3, [153], 0),
  (147, .ldc2_w 418, 3, [], (-1)),
  (150, .goto 13, 3, [163], 0),
  (153, .aload_n 0, 1, [], 0),
  (154, .getfield 46, 3, [10, 6, 35, 0, 0], 0),
  (157, .getfield 279, 3, [0, 0, 1, 100, 8], 0),
  (160, .iconst 0, 1, [], 0),
  (161, .iaload, 1, [], 0),
  (162, .i2l, 1, [], 0),
  (163, .aload_n 0, 1, [], 0),
  (164, .getfield 40, 3, [10, 5, 29, 9, 0], 0),
  (167, .invokevirtual 420, 3, [140, 0], 0),
  (170, .i2l, 1, [], 0),
  (171, .invokevirtual 243, 3, [55, 2], 0),
  (174, .iload_n 3, 1, [], 0),
  (175, .ireturn, 1, [], 0)]
def k_W_years : List (List (Nat × Nat)) := [[], [], [], [], [], [], [], [], [], [], [(2, 98)], [], [(2, 84)], [], [(2, 83)], [(3, 165), (3, 35), (3, 36), (1, 5), (3, 37)], [], [], [], [], [], [], [], [], [], [(5, 16), (5, 18), (0, 36), (1, 1), (5, 19)], [], [], [], [], [], [], [(2, 87)], [], [(2, 84)], [], [(2, 85)], [], [(2, 81)], [], [(3, 97), (3, 98), (3, 99), (1, 7), (3, 100)], [], [], [], [], [], [], [], [(2, 84)], [(3, 178), (3, 179), (3, 180), (1, 5), (3, 181)], [], [], [(2, 84)], [(1, 128)], [], [], [(5, 21), (5, 23), (0, 37), (1, 1), (5, 24)], [], [], [], [(2, 85)], [], [(2, 84)], [], [(2, 84)], [(1, 114)], [(3, 64), (3, 65), (3, 66), (1, 6), (3, 67)], [], [(2, 80)], [], [(2, 84)], [(1, 128)], [], [(5, 25)], [], [], [(2, 85)], [(1, 156)], [], [], [], [], [(2, 84)], [(5, 26), (5, 27), (5, 28), (1, 5), (5, 29)], [], [(3, 142), (3, 143), (3, 144), (1, 3), (3, 145)], [], []]
def c_W_draw : List zE := [(0, .aload_n 0, 1, [], 0),
  (1, .aload_n 0, 1, [], 0),
  (2, .getfield 409, 3, [10, 19], 0),
  (5, .ldc_w 423, 3, [], 1103515245),
  (8, .imul, 1, [], 0),
  (9, .sipush 12345, 3, [], 12345),
  (12, .iadd, 1, [], 0),
  (13, .putfield 409, 3, [10, 19], 0),
  (16, .iload_n 1, 1, [], 0),
  (17, .ifCond .le 15, 3, [32], 0),
  (20, .aload_n 0, 1, [], 0),
  (21, .getfield 409, 3, [10, 19], 0),
  (24, .bipush 16, 2, [], 16),
  (26, .iushr, 1, [], 0),
  (27, .iload_n 1, 1, [], 0),
  (28, .irem, 1, [], 0),
  (29, .goto 4, 3, [33], 0),
  (32, .iconst 0, 1, [], 0),
  (33, .ireturn, 1, [], 0)]
def k_W_draw : List (List (Nat × Nat)) := [[], [], [(2, 98)], [(5, 20)], [], [], [], [(2, 98)], [], [], [], [(2, 98)], [], [], [], [], [], [], []]
def c_W_drawMarriage : List zE := [(0, .aload_n 0, 1, [], 0),
  (1, .aload_n 0, 1, [], 0),
  (2, .getfield 40, 3, [10, 5, 29, 9, 0], 0),
  (5, .getfield 110, 3, [9, 5], 0),
  (8, .invokevirtual 412, 3, [138, 1], 0),
  (11, .istore_n 1, 1, [], 0),
  (12, .aload_n 0, 1, [], 0),
  (13, .aload_n 0, 1, [], 0),
  (14, .getfield 40, 3, [10, 5, 29, 9, 0], 0),
  (17, .getfield 110, 3, [9, 5], 0),
  (20, .invokevirtual 412, 3, [138, 1], 0),
  (23, .istore_n 2, 1, [], 0),
  (24, .aload_n 0, 1, [], 0),
  (25, .getfield 40, 3, [10, 5, 29, 9, 0], 0),
  (28, .iload_n 1, 1, [], 0),
  (29, .iload_n 2, 1, [], 0),
  (30, .invokevirtual 226, 3, [43, 2], 0),
  (33, .ifCond .eq 12, 3, [45], 0),
  (36, .aload_n 0, 1, [], 0),
  (37, .getfield 40, 3, [10, 5, 29, 9, 0], 0),
  (40, .iload_n 1, 1, [], 0),
  (41, .iload_n 2, 1, [], 0),
  (42, .invokevirtual 230, 3, [44, 2], 0),
  (45, .return_, 1, [], 0)]
def k_W_drawMarriage : List (List (Nat × Nat)) := [[], [], [(2, 84)], [(1, 128)], [(5, 16), (5, 18), (0, 36), (1, 1), (5, 19)], [], [], [], [(2, 84)], [(1, 128)], [(5, 16), (5, 18), (0, 36), (1, 1), (5, 19)], [], [], [(2, 84)], [], [], [(3, 84), (3, 85), (3, 86), (1, 5), (3, 87)], [], [], [(2, 84)], [], [], [(3, 89), (3, 90), (3, 91), (1, 5), (3, 92)], []]
def c_Town_mostDry : List zE := [(0, .iconst 0, 1, [], 0),
  (1, .istore_n 1, 1, [], 0),
  (2, .iconst 0, 1, [], 0),
  (3, .istore_n 2, 1, [], 0),
  (4, .iload_n 2, 1, [], 0),
  (5, .aload_n 0, 1, [], 0),
  (6, .getfield 33, 3, [9, 5], 0),
  (9, .if_icmp .ge 20, 3, [29], 0),
  (12, .iload_n 1, 1, [], 0),
  (13, .aload_n 0, 1, [], 0),
  (14, .getfield 21, 3, [9, 3, 4, 100, 8], 0),
  (17, .iload_n 2, 1, [], 0),
  (18, .iaload, 1, [], 0),
  (19, .invokestatic 44, 3, [4], 0),
  (22, .istore_n 1, 1, [], 0),
  (23, .iinc 2 1, 3, [], 1),
  (26, .goto (-22), 3, [4], 0),
  (29, .iload_n 1, 1, [], 0),
  (30, .ireturn, 1, [], 0)]
def k_Town_mostDry : List (List (Nat × Nat)) := [[], [], [], [], [], [], [(1, 126)], [], [], [], [(1, 118)], [], [], [(5, 30)], [], [], [], [], []]
def c_W_keep : List zE := [(0, .iload_n 1, 1, [], 0),
  (1, .ifCond .lt 8, 3, [9], 0),
  (4, .iload_n 1, 1, [], 0),
  (5, .iconst 3, 1, [], 3),
  (6, .if_icmp .lt 5, 3, [11], 0),
  (9, .iconst 0, 1, [], 0),
  (10, .ireturn, 1, [], 1),
  (11, .aload_n 0, 1, [], 0),
  (12, .getfield 67, 3, [10, 10, 141, 103, 3], 0),
  (15, .iload_n 1, 1, [], 0),
  (16, .aaload, 1, [], 0),
  (17, .aload_n 0, 1, [], 0),
  (18, .getfield 36, 3, [10, 4, 23, 9, 0], 0),
  (21, .invokevirtual 250, 3, [31, 1], 0),
  (24, .aload_n 0, 1, [], 0),
  (25, .dup, 1, [], 0),
  (26, .getfield 123, 3, [10, 11], 0),
  (29, .iconst 1, 1, [], 1),
  (30, .iload_n 1, 1, [], 0),
  (31, .ishl, 1, [], 0),
  (32, .ior, 1, [], 0),
  (33, .putfield 123, 3, [10, 11], 0),
  (36, .iconst 1, 1, [], 1),
  (37, .ireturn, 1, [], 1)]
def k_W_keep : List (List (Nat × Nat)) := [[], [], [], [], [], [], [], [], [(2, 89)], [], [], [], [(2, 83)], [(3, 165), (3, 35), (3, 36), (1, 5), (3, 37)], [], [], [(2, 90)], [], [], [], [], [(2, 90)], [], []]
def c_W_again : List zE := [(0, .iload_n 1, 1, [], 0),
  (1, .ifCond .lt 19, 3, [20], 0),
  (4, .iload_n 1, 1, [], 0),
  (5, .iconst 3, 1, [], 3),
  (6, .if_icmp .ge 14, 3, [20], 0),
  (9, .aload_n 0, 1, [], 0),
  (10, .getfield 123, 3, [10, 11], 0),
  (13, .iload_n 1, 1, [], 0),
  (14, .invokestatic 339, 3, [1, 17, 2], 0),
  (17, .ifCond .ne 5, 3, [22], 0),
  (20, .iconst 0, 1, [], 0),
  (21, .ireturn, 1, [], 1),
  (22, .aload_n 0, 1, [], 0),
  (23, .getfield 36, 3, [10, 4, 23, 9, 0], 0),
  (26, .aload_n 0, 1, [], 0),
  (27, .getfield 67, 3, [10, 10, 141, 103, 3], 0),
  (30, .iload_n 1, 1, [], 0),
  (31, .aaload, 1, [], 0),
  (32, .invokevirtual 250, 3, [31, 1], 0),
  (35, .aload_n 0, 1, [], 0),
  (36, .getfield 63, 3, [10, 9, 49, 3, 0], 0),
  (39, .iconst 0, 1, [], 0),
  (40, .putfield 120, 3, [3, 2], 0),
  (43, .iconst 1, 1, [], 1),
  (44, .ireturn, 1, [], 1)]
def k_W_again : List (List (Nat × Nat)) := [[], [], [], [], [], [], [(2, 90)], [], [(4, 110), (2, 215), (1, 1), (2, 216)], [], [], [], [], [(2, 83)], [], [(2, 89)], [], [], [(3, 165), (3, 35), (3, 36), (1, 5), (3, 37)], [], [(2, 88)], [], [(1, 226)], [], []]
def c_W_count : List zE := [(0, .iload_n 1, 1, [], 0),
  (1, .tableswitch 162 0 11 #[63, 71, 79, 84, 99, 107, 115, 125, 133, 138, 146, 154], 63, [163, 64, 72, 80, 85, 100, 108, 116, 126, 134, 139, 147, 155], 0),
  (64, .aload_n 0, 1, [], 0),
  (65, .getfield 36, 3, [10, 4, 23, 9, 0], 0),
  (68, .getfield 110, 3, [9, 5], 0),
  (71, .ireturn, 1, [], 0),
  (72, .aload_n 0, 1, [], 0),
  (73, .getfield 36, 3, [10, 4, 23, 9, 0], 0),
  (76, .getfield 286, 3, [9, 6], 0),
  (79, .ireturn, 1, [], 0),
  (80, .aload_n 0, 1, [], 0),
  (81, .invokevirtual 307, 3, [73, 0], 0),
  (84, .ireturn, 1, [], 0),
  (85, .aload_n 0, 1, [], 0),
  (86, .getfield 56, 3, [10, 8, 45, 4, 0], 0),
  (89, .aload_n 0, 1, [], 0),
  (90, .getfield 36, 3, [10, 4, 23, 9, 0], 0),
  (93, .getfield 110, 3, [9, 5], 0),
  (96, .invokevirtual 195, 3, [26, 1], 0),
  (99, .ireturn, 1, [], 0),
  (100, .aload_n 0, 1, [], 0),
  (101, .getfield 36, 3, [10, 4, 23, 9, 0], 0),
  (104, .invokevirtual 259, 3, [65, 0], 0),
  (107, .ireturn, 1, [], 0),
  (108, .aload_n 0, 1, [], 0),
  (109, .getfield 36, 3, [10, 4, 23, 9, 0], 0),
  (112, .invokevirtual 424, 3, [144, 0], 0),
  (115, .ireturn, 1, [], 0),
  (116, .aload_n 0, 1, [], 0),
  (117, .getfield 36, 3, [10, 4, 23, 9, 0], 0),
  (120, .getfield 209, 3, [9, 0, 1, 100, 8], 0),
  (123, .iconst 0, 1, [], 0),
  (124, .iaload, 1, [], 0),
  (125, .ireturn, 1, [], 0),
  (126, .aload_n 0, 1, [], 0),
  (127, .getfield 56, 3, [10, 8, 45, 4, 0], 0),
  (130, .getfield 150, 3, [4, 2], 0),
  (133, .ireturn, 1, [], 0),
  (134, .aload_n 0, 1, [], 0),
  (135, .getfield 378, 3, [10, 14], 0),
  (138, .ireturn, 1, [], 0),
  (139, .aload_n 0, 1, [], 0),
  (140, .getfield 63, 3, [10, 9, 49, 3, 0], 0),
  (143, .getfield 120, 3, [3, 2], 0),
  (146, .ireturn, 1, [], 0),
  (147, .aload_n 0, 1, [], 0),
  (148, .getfield 19, 3, [10, 1, 3, 5, 0], 0),
  (151, .getfield 373, 3, [5, 1], 0),
  (154, .ireturn, 1, [], 0),
  (155, .aload_n 0, 1, [], 0),
  (156, .getfield 12, 3, [10, 0, 1, 7, 0], 0),
  (159, .getfield 106, 3, [7, 1], 0),
  (162, .ireturn, 1, [], 0),
  (163, .bipush (-100), 2, [], (-100)),
  (165, .ireturn, 1, [], 0)]
def k_W_count : List (List (Nat × Nat)) := [[], [], [], [(2, 83)], [(1, 128)], [], [], [(2, 83)], [(1, 132)], [], [], [(3, 217), (3, 219), (0, 12), (1, 1), (3, 220)], [], [], [(2, 87)], [], [(2, 83)], [(1, 128)], [(3, 12), (3, 13), (3, 14), (1, 7), (3, 15)], [], [], [(2, 83)], [(3, 183), (3, 184), (3, 185), (1, 5), (3, 186)], [], [], [(2, 83)], [(5, 43), (5, 44), (5, 45), (1, 5), (5, 46)], [], [], [(2, 83)], [(1, 114)], [], [], [], [], [(2, 87)], [(1, 187)], [], [], [(2, 93)], [], [], [(2, 88)], [(1, 226)], [], [], [(2, 80)], [(1, 61)], [], [], [(2, 79)], [(1, 44)], [], [], []]
def c_Town_hadOfAll : List zE := [(0, .iconst 0, 1, [], 0),
  (1, .istore_n 1, 1, [], 0),
  (2, .iconst 0, 1, [], 0),
  (3, .istore_n 2, 1, [], 0),
  (4, .iload_n 2, 1, [], 0),
  (5, .aload_n 0, 1, [], 0),
  (6, .getfield 33, 3, [9, 5], 0),
  (9, .if_icmp .ge 18, 3, [27], 0),
  (12, .iload_n 1, 1, [], 0),
  (13, .aload_n 0, 1, [], 0),
  (14, .getfield 24, 3, [9, 4, 5, 100, 8], 0),
  (17, .iload_n 2, 1, [], 0),
  (18, .iaload, 1, [], 0),
  (19, .iadd, 1, [], 0),
  (20, .istore_n 1, 1, [], 0),
  (21, .iinc 2 1, 3, [], 1),
  (24, .goto (-20), 3, [4], 0),
  (27, .iload_n 1, 1, [], 0),
  (28, .ireturn, 1, [], 0)]
def k_Town_hadOfAll : List (List (Nat × Nat)) := [[], [], [], [], [], [], [(1, 126)], [], [], [], [(1, 121)], [], [], [], [], [], [], [], []]
def c_W_house : List zE := [(0, .aload_n 0, 1, [], 0),
  (1, .getfield 36, 3, [10, 4, 23, 9, 0], 0),
  (4, .iload_n 1, 1, [], 0),
  (5, .invokevirtual 164, 3, [35, 1], 0),
  (8, .ifCond .ne 11, 3, [19], 0),
  (19, .iload_n 2, 1, [], 0),
  (20, .tableswitch 100 0 5 #[40, 50, 60, 70, 80, 86], 40, [120, 60, 70, 80, 90, 100, 106], 0),
  (60, .aload_n 0, 1, [], 0),
  (61, .getfield 36, 3, [10, 4, 23, 9, 0], 0),
  (64, .getfield 170, 3, [9, 2, 3, 100, 8], 0),
  (67, .iload_n 1, 1, [], 0),
  (68, .iaload, 1, [], 0),
  (69, .ireturn, 1, [], 0),
  (70, .aload_n 0, 1, [], 0),
  (71, .getfield 56, 3, [10, 8, 45, 4, 0], 0),
  (74, .getfield 139, 3, [4, 0, 1, 100, 8], 0),
  (77, .iload_n 1, 1, [], 0),
  (78, .iaload, 1, [], 0),
  (79, .ireturn, 1, [], 0),
  (80, .aload_n 0, 1, [], 0),
  (81, .getfield 36, 3, [10, 4, 23, 9, 0], 0),
  (84, .getfield 173, 3, [9, 3, 4, 100, 8], 0),
  (87, .iload_n 1, 1, [], 0),
  (88, .iaload, 1, [], 0),
  (89, .ireturn, 1, [], 0),
  (90, .aload_n 0, 1, [], 0),
  (91, .getfield 36, 3, [10, 4, 23, 9, 0], 0),
  (94, .getfield 176, 3, [9, 4, 5, 100, 8], 0),
  (97, .iload_n 1, 1, [], 0),
  (98, .iaload, 1, [], 0),
  (99, .ireturn, 1, [], 0),
  (100, .aload_n 0, 1, [], 0),
  (101, .iload_n 1, 1, [], 0),
  (102, .invokevirtual 179, 3, [37, 1], 0),
  (105, .ireturn, 1, [], 0),
  (106, .aload_n 0, 1, [], 0),
  (107, .invokevirtual 182, 3, [72, 0], 0),
  (110, .aload_n 0, 1, [], 0),
  (111, .getfield 56, 3, [10, 8, 45, 4, 0], 0),
  (114, .getfield 185, 3, [4, 3, 3, 100, 8], 0),
  (117, .iload_n 1, 1, [], 0),
  (118, .iaload, 1, [], 0),
  (119, .ireturn, 1, [], 0)]
def k_W_house : List (List (Nat × Nat)) := [[], [(2, 83)], [], [(3, 52), (3, 53), (3, 54), (1, 5), (3, 55)], [], [], [], [], [(2, 83)], [(1, 117)], [], [], [], [], [(2, 87)], [(1, 184)], [], [], [], [], [(2, 83)], [(1, 120)], [], [], [], [], [(2, 83)], [(1, 123)], [], [], [], [], [], [(3, 60), (3, 62), (0, 2), (1, 1), (3, 63)], [], [], [(3, 213), (3, 215), (0, 11), (1, 1), (3, 216)], [], [(2, 87)], [(1, 189)], [], [], []]
def c_W_letter : List zE := [(0, .aload_n 0, 1, [], 0),
  (1, .getfield 36, 3, [10, 4, 23, 9, 0], 0),
  (4, .iload_n 1, 1, [], 0),
  (5, .invokevirtual 164, 3, [35, 1], 0),
  (8, .ifCond .eq 20, 3, [28], 0),
  (11, .iload_n 2, 1, [], 0),
  (12, .ifCond .lt 16, 3, [28], 0),
  (15, .iload_n 2, 1, [], 0),
  (16, .aload_n 0, 1, [], 0),
  (17, .getfield 36, 3, [10, 4, 23, 9, 0], 0),
  (20, .getfield 170, 3, [9, 2, 3, 100, 8], 0),
  (23, .iload_n 1, 1, [], 0),
  (24, .iaload, 1, [], 0),
  (25, .if_icmp .lt 11, 3, [36], 0),
  (36, .aload_n 0, 1, [], 0),
  (37, .getfield 36, 3, [10, 4, 23, 9, 0], 0),
  (40, .iload_n 1, 1, [], 0),
  (41, .iload_n 2, 1, [], 0),
  (42, .invokevirtual 188, 3, [40, 2], 0),
  (45, .ireturn, 1, [], 0)]
def k_W_letter : List (List (Nat × Nat)) := [[], [(2, 83)], [], [(3, 52), (3, 53), (3, 54), (1, 5), (3, 55)], [], [], [], [], [], [(2, 83)], [(1, 117)], [], [], [], [], [(2, 83)], [], [], [(3, 221), (3, 73), (3, 74), (1, 5), (3, 75)], []]
def c_W_row : List zE := [(0, .iload_n 1, 1, [], 0),
  (1, .ifCond .lt 14, 3, [15], 0),
  (4, .iload_n 1, 1, [], 0),
  (5, .aload_n 0, 1, [], 0),
  (6, .getfield 19, 3, [10, 1, 3, 5, 0], 0),
  (9, .getfield 373, 3, [5, 1], 0),
  (12, .if_icmp .lt 11, 3, [23], 0),
  (23, .aload_n 0, 1, [], 0),
  (24, .getfield 19, 3, [10, 1, 3, 5, 0], 0),
  (27, .getfield 427, 3, [5, 0, 1, 101, 8], 0),
  (30, .iload_n 1, 1, [], 0),
  (31, .laload, 1, [], 0),
  (32, .lreturn, 1, [], 0)]
def k_W_row : List (List (Nat × Nat)) := [[], [], [], [], [(2, 80)], [(1, 61)], [], [], [(2, 80)], [(1, 58)], [], [], []]
def c_M_thrown : List zE := [(0, .aload_n 0, 1, [], 0),
  (1, .getfield 3, 3, [11, 0], 0),
  (4, .ireturn, 1, [], 0)]
def k_M_thrown : List (List (Nat × Nat)) := [[], [(5, 140)], []]
def c_M_sign : List zE := [(0, .aload_n 0, 1, [], 0),
  (1, .iconst 0, 1, [], 0),
  (2, .putfield 3, 3, [11, 0], 0),
  (5, .aload_n 0, 1, [], 0),
  (6, .getfield 169, 3, [11, 11], 0),
  (9, .bipush 76, 2, [], 76),
  (11, .if_icmp .le 5, 3, [16], 0),
  (14, .iconst (-1), 1, [], (-1)),
  (15, .ireturn, 1, [], 0),
  (16, .iconst 0, 1, [], 0),
  (17, .istore_n 2, 1, [], 0),
  (18, .iload_n 2, 1, [], 0),
  (19, .iconst 4, 1, [], 4),
  (20, .if_icmp .ge 33, 3, [53], 0),
  (23, .aload_n 0, 1, [], 0),
  (24, .getfield 44, 3, [11, 10, 6, 100, 80], 0),
  (27, .aload_n 0, 1, [], 0),
  (28, .getfield 169, 3, [11, 11], 0),
  (31, .iload_n 2, 1, [], 0),
  (32, .iadd, 1, [], 0),
  (33, .iload_n 1, 1, [], 0),
  (34, .bipush 24, 2, [], 24),
  (36, .bipush 8, 2, [], 8),
  (38, .iload_n 2, 1, [], 0),
  (39, .imul, 1, [], 0),
  (40, .isub, 1, [], 0),
  (41, .ishr, 1, [], 0),
  (42, .sipush 255, 3, [], 255),
  (45, .iand, 1, [], 0),
  (46, .iastore, 1, [], 0),
  (47, .iinc 2 1, 3, [], 1),
  (50, .goto (-32), 3, [18], 0),
  (53, .aload_n 0, 1, [], 0),
  (54, .dup, 1, [], 0),
  (55, .getfield 169, 3, [11, 11], 0),
  (58, .iconst 4, 1, [], 4),
  (59, .iadd, 1, [], 0),
  (60, .putfield 169, 3, [11, 11], 0),
  (63, .aload_n 0, 1, [], 0),
  (64, .getfield 169, 3, [11, 11], 0),
  (67, .ireturn, 1, [], 0)]
def k_M_sign : List (List (Nat × Nat)) := [[], [], [(5, 140)], [], [(5, 151)], [], [], [], [], [], [], [], [], [], [], [(5, 150)], [], [(5, 151)], [], [], [], [], [], [], [], [], [], [], [], [], [], [], [], [], [(5, 151)], [], [], [(5, 151)], [], [(5, 151)], []]
def c_M_end : List zE := [(0, .aload_n 0, 1, [], 0),
  (1, .iconst 0, 1, [], 0),
  (2, .putfield 3, 3, [11, 0], 0),
  (5, .iload_n 1, 1, [], 0),
  (6, .i2l, 1, [], 0),
  (7, .lconst 0, 1, [], 0),
  (8, .aload_n 0, 1, [], 0),
  (9, .getfield 169, 3, [11, 11], 0),
  (12, .i2l, 1, [], 0),
  (13, .invokestatic 159, 3, [1, 151, 3], 0),
  (16, .ifCond .ne 5, 3, [21], 0),
  (19, .iconst 0, 1, [], 0),
  (20, .ireturn, 1, [], 1),
  (21, .aload_n 0, 1, [], 0),
  (22, .iload_n 1, 1, [], 0),
  (23, .putfield 169, 3, [11, 11], 0),
  (26, .iconst 1, 1, [], 1),
  (27, .ireturn, 1, [], 1)]
def k_M_end : List (List (Nat × Nat)) := [[], [], [(5, 140)], [], [], [], [], [(5, 151)], [], [(6, 104), (6, 105), (1, 12), (6, 106)], [], [], [], [], [], [(5, 151)], [], []]
def c_M_in : List zE := [(0, .lload_n 0, 1, [], 0),
  (1, .lload_n 2, 1, [], 0),
  (2, .lcmp, 1, [], 0),
  (3, .ifCond .lt 14, 3, [17], 0),
  (6, .lload_n 0, 1, [], 0),
  (7, .lload 4, 2, [], 0),
  (9, .lcmp, 1, [], 0),
  (10, .ifCond .gt 7, 3, [17], 0),
  (13, .iconst 1, 1, [], 1),
  (14, .goto 4, 3, [18], 0),
  (17, .iconst 0, 1, [], 0),
  (18, .ireturn, 1, [], 1)]
def k_M_in : List (List (Nat × Nat)) := [[], [], [], [], [], [], [], [], [], [], [], []]
def c_M_houses : List zE := [(0, .aload_n 0, 1, [], 0),
  (1, .iconst 0, 1, [], 0),
  (2, .putfield 3, 3, [11, 0], 0),
  (5, .aload_n 0, 1, [], 0),
  (6, .bipush 71, 2, [], 71),
  (8, .invokevirtual 227, 3, [153, 1], 0),
  (11, .istore_n 1, 1, [], 0),
  (12, .aload_n 0, 1, [], 0),
  (13, .iconst 0, 1, [], 0),
  (14, .putfield 218, 3, [11, 18], 0),
  (17, .iconst 1, 1, [], 1),
  (18, .istore_n 2, 1, [], 0),
  (19, .iload_n 1, 1, [], 0),
  (20, .ifCond .le 7, 3, [27], 0),
  (23, .iconst 1, 1, [], 1),
  (24, .goto 4, 3, [28], 0),
  (27, .iconst 0, 1, [], 0),
  (28, .istore_n 3, 1, [], 0),
  (29, .iload_n 3, 1, [], 0),
  (30, .ifCond .eq 30, 3, [60], 0),
  (33, .aload_n 0, 1, [], 0),
  (34, .invokevirtual 230, 3, [154, 0], 0),
  (37, .istore_n 2, 1, [], 0),
  (38, .iload_n 2, 1, [], 0),
  (39, .ifCond .eq 16, 3, [55], 0),
  (42, .aload_n 0, 1, [], 0),
  (43, .bipush 59, 2, [], 59),
  (45, .invokevirtual 233, 3, [159, 1], 0),
  (48, .ifCond .eq 7, 3, [55], 0),
  (51, .iconst 1, 1, [], 1),
  (52, .goto 4, 3, [56], 0),
  (55, .iconst 0, 1, [], 0),
  (56, .istore_n 3, 1, [], 0),
  (57, .goto (-28), 3, [29], 0),
  (60, .aload_n 0, 1, [], 0),
  (61, .iload_n 1, 1, [], 0),
  (62, .bipush 71, 2, [], 71),
  (64, .iload_n 2, 1, [], 0),
  (65, .invokevirtual 237, 3, [160, 3], 0),
  (68, .istore 4, 2, [], 0),
  (70, .iload 4, 2, [], 0),
  (72, .ifCond .ge 6, 3, [78], 0),
  (75, .iload 4, 2, [], 0),
  (77, .ireturn, 1, [], 0),
  (78, .iconst 0, 1, [], 0),
  (79, .istore 5, 2, [], 0),
  (81, .iload 5, 2, [], 0),
  (83, .aload_n 0, 1, [], 0),
  (84, .getfield 218, 3, [11, 18], 0),
  (87, .if_icmp .ge 81, 3, [168], 0),
  (90, .aload_n 0, 1, [], 0),
  (91, .aload_n 0, 1, [], 0),
  (92, .getfield 156, 3, [11, 3], 0),
  (95, .bipush 6, 2, [], 6),
  (97, .iload 5, 2, [], 0),
  (99, .imul, 1, [], 0),
  (100, .aload_n 0, 1, [], 0),
  (101, .getfield 50, 3, [11, 16, 8, 100, 8], 0),
  (104, .iload 5, 2, [], 0),
  (106, .iaload, 1, [], 0),
  (107, .invokevirtual 241, 3, [161, 3], 0),
  (110, .aload_n 0, 1, [], 0),
  (111, .getfield 35, 3, [11, 7, 3, 100, 8], 0),
  (114, .aload_n 0, 1, [], 0),
  (115, .getfield 156, 3, [11, 3], 0),
  (118, .aload_n 0, 1, [], 0),
  (119, .getfield 53, 3, [11, 17, 9, 100, 8], 0),
  (122, .iload 5, 2, [], 0),
  (124, .iaload, 1, [], 0),
  (125, .iastore, 1, [], 0),
  (126, .aload_n 0, 1, [], 0),
  (127, .getfield 38, 3, [11, 8, 4, 100, 81], 0),
  (130, .bipush 64, 2, [], 64),
  (132, .aload_n 0, 1, [], 0),
  (133, .getfield 156, 3, [11, 3], 0),
  (136, .iadd, 1, [], 0),
  (137, .iconst 0, 1, [], 0),
  (138, .iastore, 1, [], 0),
  (139, .aload_n 0, 1, [], 0),
  (140, .getfield 38, 3, [11, 8, 4, 100, 81], 0),
  (143, .bipush 72, 2, [], 72),
  (145, .aload_n 0, 1, [], 0),
  (146, .getfield 156, 3, [11, 3], 0),
  (149, .iadd, 1, [], 0),
  (150, .iconst 0, 1, [], 0),
  (151, .iastore, 1, [], 0),
  (152, .aload_n 0, 1, [], 0),
  (153, .dup, 1, [], 0),
  (154, .getfield 156, 3, [11, 3], 0),
  (157, .iconst 1, 1, [], 1),
  (158, .iadd, 1, [], 0),
  (159, .putfield 156, 3, [11, 3], 0),
  (162, .iinc 5 1, 3, [], 1),
  (165, .goto (-84), 3, [81], 0),
  (168, .aload_n 0, 1, [], 0),
  (169, .getfield 218, 3, [11, 18], 0),
  (172, .ifCond .le 18, 3, [190], 0),
  (175, .aload_n 0, 1, [], 0),
  (176, .iconst 0, 1, [], 0),
  (177, .putfield 245, 3, [11, 33], 0),
  (180, .aload_n 0, 1, [], 0),
  (181, .dup, 1, [], 0),
  (182, .getfield 248, 3, [11, 4], 0),
  (185, .iconst 1, 1, [], 1),
  (186, .iadd, 1, [], 0),
  (187, .putfield 248, 3, [11, 4], 0),
  (190, .aload_n 0, 1, [], 0),
  (191, .getfield 218, 3, [11, 18], 0),
  (194, .ireturn, 1, [], 0)]
def k_M_houses : List (List (Nat × Nat)) := [[], [], [(5, 140)], [], [], [(6, 111), (6, 113), (0, 39), (1, 12), (6, 114)], [], [], [], [(5, 158)], [], [], [], [], [], [], [], [], [], [], [], [(6, 116), (6, 118), (0, 40), (1, 12), (6, 119)], [], [], [], [], [], [(6, 185), (6, 187), (0, 44), (1, 12), (6, 188)], [], [], [], [], [], [], [], [], [], [], [(6, 189), (6, 191), (0, 45), (1, 12), (6, 192)], [], [], [], [], [], [], [], [], [], [(5, 158)], [], [], [], [(5, 143)], [], [], [], [], [(5, 156)], [], [], [(6, 193), (6, 195), (0, 46), (1, 12), (6, 196)], [], [(5, 147)], [], [(5, 143)], [], [(5, 157)], [], [], [], [], [(5, 148)], [], [], [(5, 143)], [], [], [], [], [(5, 148)], [], [], [(5, 143)], [], [], [], [], [], [(5, 143)], [], [], [(5, 143)], [], [], [], [(5, 158)], [], [], [], [(5, 173)], [], [], [(5, 144)], [], [], [(5, 144)], [], [(5, 158)], []]
def c_M_begins : List zE := [(0, .aload_n 0, 1, [], 0),
  (1, .getfield 169, 3, [11, 11], 0),
  (4, .istore_n 2, 1, [], 0),
  (5, .aload_n 0, 1, [], 0),
  (6, .iconst 0, 1, [], 0),
  (7, .putfield 169, 3, [11, 11], 0),
  (10, .aload_n 0, 1, [], 0),
  (11, .iconst 0, 1, [], 0),
  (12, .putfield 172, 3, [11, 12], 0),
  (15, .aload_n 0, 1, [], 0),
  (16, .iconst 0, 1, [], 0),
  (17, .putfield 175, 3, [11, 14], 0),
  (20, .aload_n 0, 1, [], 0),
  (21, .iload_n 2, 1, [], 0),
  (22, .iload_n 1, 1, [], 0),
  (23, .invokestatic 178, 3, [3], 0),
  (26, .putfield 184, 3, [11, 13], 0),
  (29, .iload_n 2, 1, [], 0),
  (30, .ireturn, 1, [], 0)]
def k_M_begins : List (List (Nat × Nat)) := [[], [(5, 151)], [], [], [], [(5, 151)], [], [], [(5, 152)], [], [], [(5, 154)], [], [], [], [(6, 115)], [(5, 153)], [], []]
def c_M_readsHouse : List zE := [(0, .aload_n 0, 1, [], 0),
  (1, .getfield 156, 3, [11, 3], 0),
  (4, .aload_n 0, 1, [], 0),
  (5, .getfield 218, 3, [11, 18], 0),
  (8, .iadd, 1, [], 0),
  (9, .bipush 8, 2, [], 8),
  (11, .if_icmp .ne 5, 3, [16], 0),
  (14, .iconst 0, 1, [], 0),
  (15, .ireturn, 1, [], 1),
  (16, .aload_n 0, 1, [], 0),
  (17, .getfield 218, 3, [11, 18], 0),
  (20, .istore_n 1, 1, [], 0),
  (21, .aload_n 0, 1, [], 0),
  (22, .getfield 50, 3, [11, 16, 8, 100, 8], 0),
  (25, .iload_n 1, 1, [], 0),
  (26, .aload_n 0, 1, [], 0),
  (27, .bipush 6, 2, [], 6),
  (29, .iload_n 1, 1, [], 0),
  (30, .imul, 1, [], 0),
  (31, .invokevirtual 221, 3, [155, 1], 0),
  (34, .iastore, 1, [], 0),
  (35, .aload_n 0, 1, [], 0),
  (36, .getfield 50, 3, [11, 16, 8, 100, 8], 0),
  (39, .iload_n 1, 1, [], 0),
  (40, .iaload, 1, [], 0),
  (41, .ifCond .ne 5, 3, [46], 0),
  (44, .iconst 0, 1, [], 0),
  (45, .ireturn, 1, [], 1),
  (46, .aload_n 0, 1, [], 0),
  (47, .getfield 53, 3, [11, 17, 9, 100, 8], 0),
  (50, .iload_n 1, 1, [], 0),
  (51, .iconst 1, 1, [], 1),
  (52, .aload_n 0, 1, [], 0),
  (53, .ldc 225, 2, [1, 9], 0),
  (55, .invokevirtual 215, 3, [157, 1], 0),
  (58, .iadd, 1, [], 0),
  (59, .iastore, 1, [], 0),
  (60, .aload_n 0, 1, [], 0),
  (61, .dup, 1, [], 0),
  (62, .getfield 218, 3, [11, 18], 0),
  (65, .iconst 1, 1, [], 1),
  (66, .iadd, 1, [], 0),
  (67, .putfield 218, 3, [11, 18], 0),
  (70, .aload_n 0, 1, [], 0),
  (71, .getfield 53, 3, [11, 17, 9, 100, 8], 0),
  (74, .iload_n 1, 1, [], 0),
  (75, .iaload, 1, [], 0),
  (76, .ifCond .le 7, 3, [83], 0),
  (79, .iconst 1, 1, [], 1),
  (80, .goto 4, 3, [84], 0),
  (83, .iconst 0, 1, [], 0),
  (84, .ireturn, 1, [], 1)]
def k_M_readsHouse : List (List (Nat × Nat)) := [[], [(5, 143)], [], [(5, 158)], [], [], [], [], [], [], [(5, 158)], [], [], [(5, 156)], [], [], [], [], [], [(6, 120), (6, 122), (0, 41), (1, 12), (6, 123)], [], [], [(5, 156)], [], [], [], [], [], [], [(5, 157)], [], [], [], [], [(6, 177), (6, 179), (0, 43), (1, 12), (6, 180)], [], [], [], [], [(5, 158)], [], [], [(5, 158)], [], [(5, 157)], [], [], [], [], [], [], []]
def c_M_readsName : List zE := [(0, .iconst 0, 1, [], 0),
  (1, .istore_n 2, 1, [], 0),
  (2, .iload_n 2, 1, [], 0),
  (3, .bipush 6, 2, [], 6),
  (5, .if_icmp .ge 32, 3, [37], 0),
  (8, .aload_n 0, 1, [], 0),
  (9, .ldc 213, 2, [0, 8], 0),
  (11, .invokevirtual 205, 3, [156, 1], 0),
  (14, .ifCond .lt 23, 3, [37], 0),
  (17, .aload_n 0, 1, [], 0),
  (18, .getfield 47, 3, [11, 15, 7, 100, 48], 0),
  (21, .iload_n 1, 1, [], 0),
  (22, .iload_n 2, 1, [], 0),
  (23, .iadd, 1, [], 0),
  (24, .aload_n 0, 1, [], 0),
  (25, .ldc 213, 2, [0, 8], 0),
  (27, .invokevirtual 215, 3, [157, 1], 0),
  (30, .iastore, 1, [], 0),
  (31, .iinc 2 1, 3, [], 1),
  (34, .goto (-32), 3, [2], 0),
  (37, .iload_n 2, 1, [], 0),
  (38, .ireturn, 1, [], 0)]
def k_M_readsName : List (List (Nat × Nat)) := [[], [], [], [], [], [], [], [(6, 125), (6, 127), (0, 42), (1, 12), (6, 128)], [], [], [(5, 155)], [], [], [], [], [], [(6, 177), (6, 179), (0, 43), (1, 12), (6, 180)], [], [], [], [], []]
def c_M_among : List zE := [(0, .iconst 0, 1, [], 0),
  (1, .istore_n 2, 1, [], 0),
  (2, .iload_n 2, 1, [], 0),
  (3, .aload_n 1, 1, [], 0),
  (4, .invokevirtual 195, 3, [257, 0], 0),
  (7, .if_icmp .ge 39, 3, [46], 0),
  (10, .aload_n 0, 1, [], 0),
  (11, .getfield 172, 3, [11, 12], 0),
  (14, .aload_n 0, 1, [], 0),
  (15, .getfield 184, 3, [11, 13], 0),
  (18, .if_icmp .ge 28, 3, [46], 0),
  (21, .aload_n 1, 1, [], 0),
  (22, .iload_n 2, 1, [], 0),
  (23, .invokevirtual 201, 3, [258, 1], 0),
  (26, .aload_n 0, 1, [], 0),
  (27, .getfield 44, 3, [11, 10, 6, 100, 80], 0),
  (30, .aload_n 0, 1, [], 0),
  (31, .getfield 172, 3, [11, 12], 0),
  (34, .iaload, 1, [], 0),
  (35, .if_icmp .ne 5, 3, [40], 0),
  (38, .iload_n 2, 1, [], 0),
  (39, .ireturn, 1, [], 0),
  (40, .iinc 2 1, 3, [], 1),
  (43, .goto (-41), 3, [2], 0),
  (46, .iconst (-1), 1, [], (-1)),
  (47, .ireturn, 1, [], 0)]
def k_M_among : List (List (Nat × Nat)) := [[], [], [], [], [(6, 129), (6, 130), (6, 131), (1, 14), (6, 132)], [], [], [(5, 152)], [], [(5, 153)], [], [], [], [(6, 139), (6, 140), (6, 141), (1, 14), (6, 142)], [], [(5, 150)], [], [(5, 152)], [], [], [], [], [], [], [], []]
def c_M_takesOf : List zE := [(0, .aload_n 0, 1, [], 0),
  (1, .aload_n 1, 1, [], 0),
  (2, .invokevirtual 205, 3, [156, 1], 0),
  (5, .istore_n 2, 1, [], 0),
  (6, .aload_n 0, 1, [], 0),
  (7, .dup, 1, [], 0),
  (8, .getfield 172, 3, [11, 12], 0),
  (11, .iload_n 2, 1, [], 0),
  (12, .ifCond .lt 7, 3, [19], 0),
  (15, .iconst 1, 1, [], 1),
  (16, .goto 4, 3, [20], 0),
  (19, .iconst 0, 1, [], 0),
  (20, .invokestatic 187, 3, [1, 158, 1], 0),
  (23, .iadd, 1, [], 0),
  (24, .putfield 172, 3, [11, 12], 0),
  (27, .iload_n 2, 1, [], 0),
  (28, .ireturn, 1, [], 0)]
def k_M_takesOf : List (List (Nat × Nat)) := [[], [], [(6, 125), (6, 127), (0, 42), (1, 12), (6, 128)], [], [], [], [(5, 152)], [], [], [], [], [], [(6, 181), (6, 182), (1, 12), (6, 183)], [], [(5, 152)], [], []]
def c_M_flag : List zE := [(0, .iload_n 0, 1, [], 0),
  (1, .ifCond .eq 7, 3, [8], 0),
  (4, .iconst 1, 1, [], 1),
  (5, .goto 4, 3, [9], 0),
  (8, .iconst 0, 1, [], 0),
  (9, .ireturn, 1, [], 0)]
def k_M_flag : List (List (Nat × Nat)) := [[], [], [], [], [], []]
def c_M_takes : List zE := [(0, .aload_n 0, 1, [], 0),
  (1, .getfield 172, 3, [11, 12], 0),
  (4, .aload_n 0, 1, [], 0),
  (5, .getfield 184, 3, [11, 13], 0),
  (8, .if_icmp .ge 20, 3, [28], 0),
  (11, .aload_n 0, 1, [], 0),
  (12, .getfield 44, 3, [11, 10, 6, 100, 80], 0),
  (15, .aload_n 0, 1, [], 0),
  (16, .getfield 172, 3, [11, 12], 0),
  (19, .iaload, 1, [], 0),
  (20, .iload_n 1, 1, [], 0),
  (21, .if_icmp .ne 7, 3, [28], 0),
  (24, .iconst 1, 1, [], 1),
  (25, .goto 4, 3, [29], 0),
  (28, .iconst 0, 1, [], 0),
  (29, .istore_n 2, 1, [], 0),
  (30, .aload_n 0, 1, [], 0),
  (31, .dup, 1, [], 0),
  (32, .getfield 172, 3, [11, 12], 0),
  (35, .iload_n 2, 1, [], 0),
  (36, .invokestatic 187, 3, [1, 158, 1], 0),
  (39, .iadd, 1, [], 0),
  (40, .putfield 172, 3, [11, 12], 0),
  (43, .iload_n 2, 1, [], 0),
  (44, .ireturn, 1, [], 1)]
def k_M_takes : List (List (Nat × Nat)) := [[], [(5, 152)], [], [(5, 153)], [], [], [(5, 150)], [], [(5, 152)], [], [], [], [], [], [], [], [], [], [(5, 152)], [], [(6, 181), (6, 182), (1, 12), (6, 183)], [], [(5, 152)], [], []]
def c_M_faultOf : List zE := [(0, .iload_n 3, 1, [], 0),
  (1, .ifCond .eq 18, 3, [19], 0),
  (4, .aload_n 0, 1, [], 0),
  (5, .getfield 172, 3, [11, 12], 0),
  (8, .aload_n 0, 1, [], 0),
  (9, .getfield 184, 3, [11, 13], 0),
  (12, .if_icmp .ne 7, 3, [19], 0),
  (15, .iconst 1, 1, [], 1),
  (16, .goto 4, 3, [20], 0),
  (19, .iconst 0, 1, [], 0),
  (20, .istore 4, 2, [], 0),
  (22, .iload_n 1, 1, [], 0),
  (23, .iload_n 2, 1, [], 0),
  (24, .if_icmp .le 20, 3, [44], 0),
  (27, .iload 4, 2, [], 0),
  (29, .ifCond .ne 11, 3, [40], 0),
  (32, .aload_n 0, 1, [], 0),
  (33, .getfield 172, 3, [11, 12], 0),
  (36, .iload_n 2, 1, [], 0),
  (37, .if_icmp .lt 7, 3, [44], 0),
  (40, .iconst (-1), 1, [], (-1)),
  (41, .iload_n 2, 1, [], 0),
  (42, .isub, 1, [], 0),
  (43, .ireturn, 1, [], 0),
  (44, .iload 4, 2, [], 0),
  (46, .ifCond .eq 7, 3, [53], 0),
  (49, .iconst 0, 1, [], 0),
  (50, .goto 9, 3, [59], 0),
  (53, .iconst (-1), 1, [], (-1)),
  (54, .aload_n 0, 1, [], 0),
  (55, .getfield 172, 3, [11, 12], 0),
  (58, .isub, 1, [], 0),
  (59, .ireturn, 1, [], 0)]
def k_M_faultOf : List (List (Nat × Nat)) := [[], [], [], [(5, 152)], [], [(5, 153)], [], [], [], [], [], [], [], [], [], [], [], [(5, 152)], [], [], [], [], [], [], [], [], [], [], [], [], [(5, 152)], [], []]
def c_M_namesSo : List zE := [(0, .aload_n 0, 1, [], 0),
  (1, .getfield 38, 3, [11, 8, 4, 100, 81], 0),
  (4, .bipush 8, 2, [], 8),
  (6, .iload_n 1, 1, [], 0),
  (7, .iadd, 1, [], 0),
  (8, .iload_n 3, 1, [], 0),
  (9, .iastore, 1, [], 0),
  (10, .iconst 0, 1, [], 0),
  (11, .istore 4, 2, [], 0),
  (13, .iload 4, 2, [], 0),
  (15, .bipush 6, 2, [], 6),
  (17, .if_icmp .ge 43, 3, [60], 0),
  (20, .aload_n 0, 1, [], 0),
  (21, .getfield 38, 3, [11, 8, 4, 100, 81], 0),
  (24, .bipush 16, 2, [], 16),
  (26, .bipush 6, 2, [], 6),
  (28, .iload_n 1, 1, [], 0),
  (29, .imul, 1, [], 0),
  (30, .iadd, 1, [], 0),
  (31, .iload 4, 2, [], 0),
  (33, .iadd, 1, [], 0),
  (34, .iload 4, 2, [], 0),
  (36, .iload_n 3, 1, [], 0),
  (37, .if_icmp .ge 15, 3, [52], 0),
  (40, .aload_n 0, 1, [], 0),
  (41, .getfield 47, 3, [11, 15, 7, 100, 48], 0),
  (44, .iload_n 2, 1, [], 0),
  (45, .iload 4, 2, [], 0),
  (47, .iadd, 1, [], 0),
  (48, .iaload, 1, [], 0),
  (49, .goto 4, 3, [53], 0),
  (52, .iconst 0, 1, [], 0),
  (53, .iastore, 1, [], 0),
  (54, .iinc 4 1, 3, [], 1),
  (57, .goto (-44), 3, [13], 0),
  (60, .return_, 1, [], 0)]
def k_M_namesSo : List (List (Nat × Nat)) := [[], [(5, 148)], [], [], [], [], [], [], [], [], [], [], [], [(5, 148)], [], [], [], [], [], [], [], [], [], [], [], [(5, 155)], [], [], [], [], [], [], [], [], [], []]
def c_M_heat : List zE := [(0, .aload_n 0, 1, [], 0),
  (1, .iconst 0, 1, [], 0),
  (2, .putfield 3, 3, [11, 0], 0),
  (5, .aload_n 0, 1, [], 0),
  (6, .bipush 80, 2, [], 80),
  (8, .invokevirtual 227, 3, [153, 1], 0),
  (11, .pop, 1, [], 0),
  (12, .iconst 0, 1, [], 0),
  (13, .istore_n 1, 1, [], 0),
  (14, .iload_n 1, 1, [], 0),
  (15, .bipush 20, 2, [], 20),
  (17, .if_icmp .ge 27, 3, [44], 0),
  (20, .aload_n 0, 1, [], 0),
  (21, .invokevirtual 209, 3, [163, 0], 0),
  (24, .ifCond .eq 20, 3, [44], 0),
  (27, .aload_n 0, 1, [], 0),
  (28, .getfield 56, 3, [11, 19, 10, 100, 20], 0),
  (31, .iload_n 1, 1, [], 0),
  (32, .aload_n 0, 1, [], 0),
  (33, .iconst 1, 1, [], 1),
  (34, .invokevirtual 251, 3, [164, 1], 0),
  (37, .iastore, 1, [], 0),
  (38, .iinc 1 1, 3, [], 1),
  (41, .goto (-27), 3, [14], 0),
  (44, .iload_n 1, 1, [], 0),
  (45, .ifCond .eq 14, 3, [59], 0),
  (48, .aload_n 0, 1, [], 0),
  (49, .getfield 172, 3, [11, 12], 0),
  (52, .aload_n 0, 1, [], 0),
  (53, .getfield 184, 3, [11, 13], 0),
  (56, .if_icmp .ge 10, 3, [66], 0),
  (59, .iconst (-1), 1, [], (-1)),
  (60, .aload_n 0, 1, [], 0),
  (61, .getfield 172, 3, [11, 12], 0),
  (64, .isub, 1, [], 0),
  (65, .ireturn, 1, [], 0),
  (66, .aload_n 0, 1, [], 0),
  (67, .iload_n 1, 1, [], 0),
  (68, .putfield 28, 3, [11, 5], 0),
  (71, .iconst 0, 1, [], 0),
  (72, .istore_n 2, 1, [], 0),
  (73, .iload_n 2, 1, [], 0),
  (74, .iload_n 1, 1, [], 0),
  (75, .if_icmp .ge 21, 3, [96], 0),
  (78, .aload_n 0, 1, [], 0),
  (79, .getfield 31, 3, [11, 6, 2, 100, 20], 0),
  (82, .iload_n 2, 1, [], 0),
  (83, .aload_n 0, 1, [], 0),
  (84, .getfield 56, 3, [11, 19, 10, 100, 20], 0),
  (87, .iload_n 2, 1, [], 0),
  (88, .iaload, 1, [], 0),
  (89, .iastore, 1, [], 0),
  (90, .iinc 2 1, 3, [], 1),
  (93, .goto (-20), 3, [73], 0),
  (96, .iload_n 1, 1, [], 0),
  (97, .ireturn, 1, [], 0)]
def k_M_heat : List (List (Nat × Nat)) := [[], [], [(5, 140)], [], [], [(6, 111), (6, 113), (0, 39), (1, 12), (6, 114)], [], [], [], [], [], [], [], [(6, 202), (6, 204), (0, 47), (1, 12), (6, 205)], [], [], [(5, 159)], [], [], [], [(6, 208), (6, 210), (0, 48), (1, 12), (6, 211)], [], [], [], [], [], [], [(5, 152)], [], [(5, 153)], [], [], [], [(5, 152)], [], [], [], [], [(5, 145)], [], [], [], [], [], [], [(5, 146)], [], [], [(5, 159)], [], [], [], [], [], [], []]
def c_M_isDigit : List zE := [(0, .aload_n 0, 1, [], 0),
  (1, .getfield 172, 3, [11, 12], 0),
  (4, .aload_n 0, 1, [], 0),
  (5, .getfield 184, 3, [11, 13], 0),
  (8, .if_icmp .ge 29, 3, [37], 0),
  (11, .aload_n 0, 1, [], 0),
  (12, .getfield 44, 3, [11, 10, 6, 100, 80], 0),
  (15, .aload_n 0, 1, [], 0),
  (16, .getfield 172, 3, [11, 12], 0),
  (19, .iaload, 1, [], 0),
  (20, .i2l, 1, [], 0),
  (21, .ldc2_w 191, 3, [], 48),
  (24, .ldc2_w 193, 3, [], 57),
  (27, .invokestatic 159, 3, [1, 151, 3], 0),
  (30, .ifCond .eq 7, 3, [37], 0),
  (33, .iconst 1, 1, [], 1),
  (34, .goto 4, 3, [38], 0),
  (37, .iconst 0, 1, [], 0),
  (38, .ireturn, 1, [], 1)]
def k_M_isDigit : List (List (Nat × Nat)) := [[], [(5, 152)], [], [(5, 153)], [], [], [(5, 150)], [], [(5, 152)], [], [], [(6, 206)], [(6, 207)], [(6, 104), (6, 105), (1, 12), (6, 106)], [], [], [], [], []]
def c_M_number : List zE := [(0, .aload_n 0, 1, [], 0),
  (1, .invokevirtual 209, 3, [163, 0], 0),
  (4, .ifCond .ne 5, 3, [9], 0),
  (7, .iconst (-1), 1, [], (-1)),
  (8, .ireturn, 1, [], 0),
  (9, .iconst 0, 1, [], 0),
  (10, .istore_n 2, 1, [], 0),
  (11, .iconst 0, 1, [], 0),
  (12, .istore_n 3, 1, [], 0),
  (13, .iload_n 3, 1, [], 0),
  (14, .iload_n 1, 1, [], 0),
  (15, .if_icmp .ge 44, 3, [59], 0),
  (18, .aload_n 0, 1, [], 0),
  (19, .invokevirtual 209, 3, [163, 0], 0),
  (22, .ifCond .eq 37, 3, [59], 0),
  (25, .bipush 10, 2, [], 10),
  (27, .iload_n 2, 1, [], 0),
  (28, .imul, 1, [], 0),
  (29, .aload_n 0, 1, [], 0),
  (30, .getfield 44, 3, [11, 10, 6, 100, 80], 0),
  (33, .aload_n 0, 1, [], 0),
  (34, .getfield 172, 3, [11, 12], 0),
  (37, .iaload, 1, [], 0),
  (38, .iadd, 1, [], 0),
  (39, .bipush 48, 2, [], 48),
  (41, .isub, 1, [], 0),
  (42, .istore_n 2, 1, [], 0),
  (43, .aload_n 0, 1, [], 0),
  (44, .dup, 1, [], 0),
  (45, .getfield 172, 3, [11, 12], 0),
  (48, .iconst 1, 1, [], 1),
  (49, .iadd, 1, [], 0),
  (50, .putfield 172, 3, [11, 12], 0),
  (53, .iinc 3 1, 3, [], 1),
  (56, .goto (-43), 3, [13], 0),
  (59, .iload_n 2, 1, [], 0),
  (60, .ireturn, 1, [], 0)]
def k_M_number : List (List (Nat × Nat)) := [[], [(6, 202), (6, 204), (0, 47), (1, 12), (6, 205)], [], [], [], [], [], [], [], [], [], [], [], [(6, 202), (6, 204), (0, 47), (1, 12), (6, 205)], [], [], [], [], [], [(5, 150)], [], [(5, 152)], [], [], [], [], [], [], [], [(5, 152)], [], [], [(5, 152)], [], [], [], []]
def c_M_rule : List zE := [(0, .aload_n 0, 1, [], 0),
  (1, .iconst 0, 1, [], 0),
  (2, .putfield 3, 3, [11, 0], 0),
  (5, .aload_n 0, 1, [], 0),
  (6, .invokevirtual 278, 3, [166, 0], 0),
  (9, .istore_n 1, 1, [], 0),
  (10, .iload_n 1, 1, [], 0),
  (11, .ifCond .ne 15, 3, [26], 0),
  (14, .aload_n 0, 1, [], 0),
  (15, .aload_n 0, 1, [], 0),
  (16, .getfield 62, 3, [11, 21, 12, 100, 80], 0),
  (19, .aload_n 0, 1, [], 0),
  (20, .getfield 254, 3, [11, 23], 0),
  (23, .invokevirtual 281, 3, [170, 2], 0),
  (26, .iload_n 1, 1, [], 0),
  (27, .ireturn, 1, [], 0)]
def k_M_rule : List (List (Nat × Nat)) := [[], [], [(5, 140)], [], [(6, 216), (6, 218), (0, 49), (1, 12), (6, 219)], [], [], [], [], [], [(5, 161)], [], [(5, 163)], [(6, 236), (6, 238), (0, 53), (1, 12), (6, 239)], [], []]
def c_M_readsRule : List zE := [(0, .aload_n 0, 1, [], 0),
  (1, .bipush 40, 2, [], 40),
  (3, .invokevirtual 227, 3, [153, 1], 0),
  (6, .istore_n 1, 1, [], 0),
  (7, .aload_n 0, 1, [], 0),
  (8, .iconst 0, 1, [], 0),
  (9, .putfield 254, 3, [11, 23], 0),
  (12, .iload_n 1, 1, [], 0),
  (13, .ifCond .eq 11, 3, [24], 0),
  (16, .aload_n 0, 1, [], 0),
  (17, .iconst 0, 1, [], 0),
  (18, .invokevirtual 266, 3, [167, 1], 0),
  (21, .ifCond .eq 7, 3, [28], 0),
  (24, .iconst 1, 1, [], 1),
  (25, .goto 4, 3, [29], 0),
  (28, .iconst 0, 1, [], 0),
  (29, .istore_n 2, 1, [], 0),
  (30, .aload_n 0, 1, [], 0),
  (31, .iload_n 1, 1, [], 0),
  (32, .bipush 40, 2, [], 40),
  (34, .iload_n 2, 1, [], 0),
  (35, .invokevirtual 237, 3, [160, 3], 0),
  (38, .ireturn, 1, [], 0)]
def k_M_readsRule : List (List (Nat × Nat)) := [[], [], [(6, 111), (6, 113), (0, 39), (1, 12), (6, 114)], [], [], [], [(5, 163)], [], [], [], [], [(6, 220), (6, 222), (0, 50), (1, 12), (6, 223)], [], [], [], [], [], [], [], [], [], [(6, 189), (6, 191), (0, 45), (1, 12), (6, 192)], []]
def c_M_readsRank : List zE := [(0, .iload_n 1, 1, [], 0),
  (1, .iconst 3, 1, [], 3),
  (2, .if_icmp .ne 8, 3, [10], 0),
  (5, .aload_n 0, 1, [], 0),
  (6, .invokevirtual 257, 3, [168, 0], 0),
  (9, .ireturn, 1, [], 1),
  (10, .aload_n 0, 1, [], 0),
  (11, .iload_n 1, 1, [], 0),
  (12, .iconst 1, 1, [], 1),
  (13, .iadd, 1, [], 0),
  (14, .invokevirtual 266, 3, [167, 1], 0),
  (17, .ifCond .ne 5, 3, [22], 0),
  (20, .iconst 0, 1, [], 0),
  (21, .ireturn, 1, [], 1),
  (22, .iconst 1, 1, [], 1),
  (23, .istore_n 2, 1, [], 0),
  (24, .iload_n 2, 1, [], 0),
  (25, .ifCond .eq 91, 3, [116], 0),
  (28, .aload_n 0, 1, [], 0),
  (29, .iload_n 1, 1, [], 0),
  (30, .ifCond .ne 9, 3, [39], 0),
  (33, .ldc_w 269, 3, [3, 3], 0),
  (36, .goto 17, 3, [53], 0),
  (39, .iload_n 1, 1, [], 0),
  (40, .iconst 1, 1, [], 1),
  (41, .if_icmp .ne 9, 3, [50], 0),
  (44, .ldc_w 271, 3, [4, 2], 0),
  (47, .goto 6, 3, [53], 0),
  (50, .ldc_w 273, 3, [5, 2], 0),
  (53, .invokevirtual 215, 3, [157, 1], 0),
  (56, .istore_n 3, 1, [], 0),
  (57, .iload_n 3, 1, [], 0),
  (58, .ifCond .ge 5, 3, [63], 0),
  (61, .iconst 1, 1, [], 1),
  (62, .ireturn, 1, [], 1),
  (63, .aload_n 0, 1, [], 0),
  (64, .iload_n 1, 1, [], 0),
  (65, .iconst 1, 1, [], 1),
  (66, .iadd, 1, [], 0),
  (67, .invokevirtual 266, 3, [167, 1], 0),
  (70, .ifCond .ne 5, 3, [75], 0),
  (73, .iconst 0, 1, [], 0),
  (74, .ireturn, 1, [], 1),
  (75, .aload_n 0, 1, [], 0),
  (76, .sipush 2000, 3, [], 2000),
  (79, .iload_n 3, 1, [], 0),
  (80, .iadd, 1, [], 0),
  (81, .iload_n 1, 1, [], 0),
  (82, .ifCond .ne 7, 3, [89], 0),
  (85, .iconst 0, 1, [], 0),
  (86, .goto 13, 3, [99], 0),
  (89, .iload_n 1, 1, [], 0),
  (90, .iconst 1, 1, [], 1),
  (91, .if_icmp .ne 7, 3, [98], 0),
  (94, .iconst 3, 1, [], 3),
  (95, .goto 4, 3, [99], 0),
  (98, .iconst 5, 1, [], 5),
  (99, .iadd, 1, [], 0),
  (100, .invokevirtual 260, 3, [169, 1], 0),
  (103, .iload_n 1, 1, [], 0),
  (104, .ifCond .le 7, 3, [111], 0),
  (107, .iconst 1, 1, [], 1),
  (108, .goto 4, 3, [112], 0),
  (111, .iconst 0, 1, [], 0),
  (112, .istore_n 2, 1, [], 0),
  (113, .goto (-89), 3, [24], 0),
  (116, .iconst 1, 1, [], 1),
  (117, .ireturn, 1, [], 1)]
def k_M_readsRank : List (List (Nat × Nat)) := [[], [], [], [], [(6, 224), (6, 226), (0, 51), (1, 12), (6, 227)], [], [], [], [], [], [(6, 220), (6, 222), (0, 50), (1, 12), (6, 223)], [], [], [], [], [], [], [], [], [], [], [], [], [], [], [], [], [], [], [(6, 177), (6, 179), (0, 43), (1, 12), (6, 180)], [], [], [], [], [], [], [], [], [], [(6, 220), (6, 222), (0, 50), (1, 12), (6, 223)], [], [], [], [], [], [], [], [], [], [], [], [], [], [], [], [], [], [], [(6, 228), (6, 230), (0, 52), (1, 12), (6, 231)], [], [], [], [], [], [], [], [], []]
def c_M_readsThing : List zE := [(0, .aload_n 0, 1, [], 0),
  (1, .bipush 45, 2, [], 45),
  (3, .invokevirtual 233, 3, [159, 1], 0),
  (6, .ifCond .eq 17, 3, [23], 0),
  (9, .aload_n 0, 1, [], 0),
  (10, .invokevirtual 257, 3, [168, 0], 0),
  (13, .istore_n 1, 1, [], 0),
  (14, .aload_n 0, 1, [], 0),
  (15, .sipush 3000, 3, [], 3000),
  (18, .invokevirtual 260, 3, [169, 1], 0),
  (21, .iload_n 1, 1, [], 0),
  (22, .ireturn, 1, [], 1),
  (23, .aload_n 0, 1, [], 0),
  (24, .invokevirtual 209, 3, [163, 0], 0),
  (27, .ifCond .eq 14, 3, [41], 0),
  (30, .aload_n 0, 1, [], 0),
  (31, .aload_n 0, 1, [], 0),
  (32, .iconst 3, 1, [], 3),
  (33, .invokevirtual 251, 3, [164, 1], 0),
  (36, .invokevirtual 260, 3, [169, 1], 0),
  (39, .iconst 1, 1, [], 1),
  (40, .ireturn, 1, [], 1),
  (41, .aload_n 0, 1, [], 0),
  (42, .ldc_w 264, 3, [2, 4], 0),
  (45, .invokevirtual 215, 3, [157, 1], 0),
  (48, .istore_n 1, 1, [], 0),
  (49, .iload_n 1, 1, [], 0),
  (50, .ifCond .lt 14, 3, [64], 0),
  (53, .aload_n 0, 1, [], 0),
  (54, .sipush 1000, 3, [], 1000),
  (57, .iload_n 1, 1, [], 0),
  (58, .iadd, 1, [], 0),
  (59, .invokevirtual 260, 3, [169, 1], 0),
  (62, .iconst 1, 1, [], 1),
  (63, .ireturn, 1, [], 1),
  (64, .aload_n 0, 1, [], 0),
  (65, .getfield 175, 3, [11, 14], 0),
  (68, .iconst 4, 1, [], 4),
  (69, .if_icmp .eq 12, 3, [81], 0),
  (72, .aload_n 0, 1, [], 0),
  (73, .bipush 40, 2, [], 40),
  (75, .invokevirtual 233, 3, [159, 1], 0),
  (78, .ifCond .ne 5, 3, [83], 0),
  (81, .iconst 0, 1, [], 0),
  (82, .ireturn, 1, [], 1),
  (83, .aload_n 0, 1, [], 0),
  (84, .dup, 1, [], 0),
  (85, .getfield 175, 3, [11, 14], 0),
  (88, .iconst 1, 1, [], 1),
  (89, .iadd, 1, [], 0),
  (90, .putfield 175, 3, [11, 14], 0),
  (93, .aload_n 0, 1, [], 0),
  (94, .iconst 0, 1, [], 0),
  (95, .invokevirtual 266, 3, [167, 1], 0),
  (98, .ifCond .eq 12, 3, [110], 0),
  (101, .aload_n 0, 1, [], 0),
  (102, .bipush 41, 2, [], 41),
  (104, .invokevirtual 233, 3, [159, 1], 0),
  (107, .ifCond .ne 5, 3, [112], 0),
  (110, .iconst 0, 1, [], 0),
  (111, .ireturn, 1, [], 1),
  (112, .aload_n 0, 1, [], 0),
  (113, .dup, 1, [], 0),
  (114, .getfield 175, 3, [11, 14], 0),
  (117, .iconst 1, 1, [], 1),
  (118, .isub, 1, [], 0),
  (119, .putfield 175, 3, [11, 14], 0),
  (122, .iconst 1, 1, [], 1),
  (123, .ireturn, 1, [], 1)]
def k_M_readsThing : List (List (Nat × Nat)) := [[], [], [(6, 185), (6, 187), (0, 44), (1, 12), (6, 188)], [], [], [(6, 224), (6, 226), (0, 51), (1, 12), (6, 227)], [], [], [], [(6, 228), (6, 230), (0, 52), (1, 12), (6, 231)], [], [], [], [(6, 202), (6, 204), (0, 47), (1, 12), (6, 205)], [], [], [], [], [(6, 208), (6, 210), (0, 48), (1, 12), (6, 211)], [(6, 228), (6, 230), (0, 52), (1, 12), (6, 231)], [], [], [], [], [(6, 177), (6, 179), (0, 43), (1, 12), (6, 180)], [], [], [], [], [], [], [], [(6, 228), (6, 230), (0, 52), (1, 12), (6, 231)], [], [], [], [(5, 154)], [], [], [], [], [(6, 185), (6, 187), (0, 44), (1, 12), (6, 188)], [], [], [], [], [], [(5, 154)], [], [], [(5, 154)], [], [], [(6, 220), (6, 222), (0, 50), (1, 12), (6, 223)], [], [], [], [(6, 185), (6, 187), (0, 44), (1, 12), (6, 188)], [], [], [], [], [], [(5, 154)], [], [], [(5, 154)], [], []]
def c_M_codes : List zE := [(0, .aload_n 0, 1, [], 0),
  (1, .getfield 62, 3, [11, 21, 12, 100, 80], 0),
  (4, .aload_n 0, 1, [], 0),
  (5, .getfield 254, 3, [11, 23], 0),
  (8, .iload_n 1, 1, [], 0),
  (9, .iastore, 1, [], 0),
  (10, .aload_n 0, 1, [], 0),
  (11, .dup, 1, [], 0),
  (12, .getfield 254, 3, [11, 23], 0),
  (15, .iconst 1, 1, [], 1),
  (16, .iadd, 1, [], 0),
  (17, .putfield 254, 3, [11, 23], 0),
  (20, .return_, 1, [], 0)]
def k_M_codes : List (List (Nat × Nat)) := [[], [(5, 161)], [], [(5, 163)], [], [], [], [], [(5, 163)], [], [], [(5, 163)], []]
def c_M_laysCode : List zE := [(0, .aload_n 0, 1, [], 0),
  (1, .iload_n 2, 1, [], 0),
  (2, .putfield 275, 3, [11, 22], 0),
  (5, .iconst 0, 1, [], 0),
  (6, .istore_n 3, 1, [], 0),
  (7, .iload_n 3, 1, [], 0),
  (8, .iload_n 2, 1, [], 0),
  (9, .if_icmp .ge 18, 3, [27], 0),
  (12, .aload_n 0, 1, [], 0),
  (13, .getfield 59, 3, [11, 20, 11, 100, 80], 0),
  (16, .iload_n 3, 1, [], 0),
  (17, .aload_n 1, 1, [], 0),
  (18, .iload_n 3, 1, [], 0),
  (19, .iaload, 1, [], 0),
  (20, .iastore, 1, [], 0),
  (21, .iinc 3 1, 3, [], 1),
  (24, .goto (-17), 3, [7], 0),
  (27, .return_, 1, [], 0)]
def k_M_laysCode : List (List (Nat × Nat)) := [[], [], [(5, 162)], [], [], [], [], [], [], [(5, 160)], [], [], [], [], [], [], [], []]
def c_M_house : List zE := [(0, .aload_n 0, 1, [], 0),
  (1, .iconst 0, 1, [], 0),
  (2, .putfield 3, 3, [11, 0], 0),
  (5, .aload_n 0, 1, [], 0),
  (6, .iload_n 1, 1, [], 0),
  (7, .invokevirtual 324, 3, [172, 1], 0),
  (10, .ifCond .eq 15, 3, [25], 0),
  (13, .iload_n 2, 1, [], 0),
  (14, .i2l, 1, [], 0),
  (15, .lconst 0, 1, [], 0),
  (16, .ldc2_w 327, 3, [], 5),
  (19, .invokestatic 159, 3, [1, 151, 3], 0),
  (22, .ifCond .ne 8, 3, [30], 0),
  (25, .aload_n 0, 1, [], 0),
  (26, .invokevirtual 329, 3, [173, 0], 0),
  (29, .ireturn, 1, [], 0),
  (30, .aload_n 0, 1, [], 0),
  (31, .invokevirtual 332, 3, [174, 0], 0),
  (34, .iload_n 2, 1, [], 0),
  (35, .tableswitch 77 0 4 #[33, 43, 50, 60, 70], 33, [112, 68, 78, 85, 95, 105], 0),
  (68, .aload_n 0, 1, [], 0),
  (69, .getfield 38, 3, [11, 8, 4, 100, 81], 0),
  (72, .bipush 8, 2, [], 8),
  (74, .iload_n 1, 1, [], 0),
  (75, .iadd, 1, [], 0),
  (76, .iaload, 1, [], 0),
  (77, .ireturn, 1, [], 0),
  (78, .aload_n 0, 1, [], 0),
  (79, .getfield 35, 3, [11, 7, 3, 100, 8], 0),
  (82, .iload_n 1, 1, [], 0),
  (83, .iaload, 1, [], 0),
  (84, .ireturn, 1, [], 0),
  (85, .aload_n 0, 1, [], 0),
  (86, .getfield 38, 3, [11, 8, 4, 100, 81], 0),
  (89, .bipush 64, 2, [], 64),
  (91, .iload_n 1, 1, [], 0),
  (92, .iadd, 1, [], 0),
  (93, .iaload, 1, [], 0),
  (94, .ireturn, 1, [], 0),
  (95, .aload_n 0, 1, [], 0),
  (96, .getfield 38, 3, [11, 8, 4, 100, 81], 0),
  (99, .bipush 72, 2, [], 72),
  (101, .iload_n 1, 1, [], 0),
  (102, .iadd, 1, [], 0),
  (103, .iaload, 1, [], 0),
  (104, .ireturn, 1, [], 0),
  (105, .aload_n 0, 1, [], 0),
  (106, .getfield 84, 3, [11, 30, 19, 100, 8], 0),
  (109, .iload_n 1, 1, [], 0),
  (110, .iaload, 1, [], 0),
  (111, .ireturn, 1, [], 0),
  (112, .aload_n 0, 1, [], 0),
  (113, .getfield 90, 3, [11, 32, 21, 100, 8], 0),
  (116, .iload_n 1, 1, [], 0),
  (117, .iaload, 1, [], 0),
  (118, .ireturn, 1, [], 0)]
def k_M_house : List (List (Nat × Nat)) := [[], [], [(5, 140)], [], [], [(7, 4), (7, 6), (0, 54), (1, 12), (7, 7)], [], [], [], [], [(7, 8)], [(6, 104), (6, 105), (1, 12), (6, 106)], [], [], [(7, 9), (7, 11), (0, 55), (1, 12), (7, 12)], [], [], [(7, 13), (7, 15), (0, 56), (1, 12), (7, 16)], [], [], [], [(5, 148)], [], [], [], [], [], [], [(5, 147)], [], [], [], [], [(5, 148)], [], [], [], [], [], [], [(5, 148)], [], [], [], [], [], [], [(5, 170)], [], [], [], [], [(5, 172)], [], [], []]
def c_M_isHouse : List zE := [(0, .iload_n 1, 1, [], 0),
  (1, .i2l, 1, [], 0),
  (2, .lconst 0, 1, [], 0),
  (3, .aload_n 0, 1, [], 0),
  (4, .getfield 156, 3, [11, 3], 0),
  (7, .iconst 1, 1, [], 1),
  (8, .isub, 1, [], 0),
  (9, .i2l, 1, [], 0),
  (10, .invokestatic 159, 3, [1, 151, 3], 0),
  (13, .ireturn, 1, [], 1)]
def k_M_isHouse : List (List (Nat × Nat)) := [[], [], [], [], [(5, 143)], [], [], [], [(6, 104), (6, 105), (1, 12), (6, 106)], []]
def c_M_refuse : List zE := [(0, .aload_n 0, 1, [], 0),
  (1, .iconst 1, 1, [], 1),
  (2, .putfield 3, 3, [11, 0], 0),
  (5, .iconst 0, 1, [], 0),
  (6, .ireturn, 1, [], 0)]
def k_M_refuse : List (List (Nat × Nat)) := [[], [], [(5, 140)], [], []]
def c_M_givesNow : List zE := [(0, .aload_n 0, 1, [], 0),
  (1, .aload_n 0, 1, [], 0),
  (2, .getfield 38, 3, [11, 8, 4, 100, 81], 0),
  (5, .invokevirtual 315, 3, [175, 1], 0),
  (8, .aload_n 0, 1, [], 0),
  (9, .aload_n 0, 1, [], 0),
  (10, .aload_n 0, 1, [], 0),
  (11, .getfield 38, 3, [11, 8, 4, 100, 81], 0),
  (14, .bipush 80, 2, [], 80),
  (16, .iaload, 1, [], 0),
  (17, .invokevirtual 318, 3, [181, 1], 0),
  (20, .invokevirtual 321, 3, [186, 1], 0),
  (23, .pop, 1, [], 0),
  (24, .return_, 1, [], 0)]
def k_M_givesNow : List (List (Nat × Nat)) := [[], [], [(5, 148)], [(7, 17), (7, 19), (0, 57), (1, 12), (7, 20)], [], [], [], [(5, 148)], [], [], [(7, 40), (7, 42), (0, 62), (1, 12), (7, 43)], [(7, 59), (7, 61), (0, 65), (1, 12), (7, 62)], [], []]
def c_M_laysBook : List zE := [(0, .aload_n 0, 1, [], 0),
  (1, .aload_n 1, 1, [], 0),
  (2, .invokevirtual 305, 3, [176, 1], 0),
  (5, .aload_n 0, 1, [], 0),
  (6, .aload_n 1, 1, [], 0),
  (7, .invokevirtual 309, 3, [178, 1], 0),
  (10, .aload_n 0, 1, [], 0),
  (11, .invokevirtual 312, 3, [179, 0], 0),
  (14, .return_, 1, [], 0)]
def k_M_laysBook : List (List (Nat × Nat)) := [[], [], [(7, 21), (7, 23), (0, 58), (1, 12), (7, 24)], [], [], [(7, 28), (7, 30), (0, 59), (1, 12), (7, 31)], [], [(7, 32), (7, 34), (0, 60), (1, 12), (7, 35)], []]
def c_M_laysUnlike : List zE := [(0, .iconst 0, 1, [], 0),
  (1, .istore_n 2, 1, [], 0),
  (2, .iload_n 2, 1, [], 0),
  (3, .aload_n 0, 1, [], 0),
  (4, .getfield 156, 3, [11, 3], 0),
  (7, .if_icmp .ge 200, 3, [207], 0),
  (10, .iconst 0, 1, [], 0),
  (11, .istore_n 3, 1, [], 0),
  (12, .iload_n 3, 1, [], 0),
  (13, .aload_n 0, 1, [], 0),
  (14, .getfield 156, 3, [11, 3], 0),
  (17, .if_icmp .ge 184, 3, [201], 0),
  (20, .bipush 8, 2, [], 8),
  (22, .iload_n 2, 1, [], 0),
  (23, .imul, 1, [], 0),
  (24, .iload_n 3, 1, [], 0),
  (25, .iadd, 1, [], 0),
  (26, .istore 4, 2, [], 0),
  (28, .aload_n 1, 1, [], 0),
  (29, .bipush 8, 2, [], 8),
  (31, .iload_n 2, 1, [], 0),
  (32, .iadd, 1, [], 0),
  (33, .iaload, 1, [], 0),
  (34, .aload_n 1, 1, [], 0),
  (35, .bipush 8, 2, [], 8),
  (37, .iload_n 3, 1, [], 0),
  (38, .iadd, 1, [], 0),
  (39, .iaload, 1, [], 0),
  (40, .invokestatic 178, 3, [3], 0),
  (43, .istore 5, 2, [], 0),
  (45, .iconst 0, 1, [], 0),
  (46, .istore 6, 2, [], 0),
  (48, .iload 6, 2, [], 0),
  (50, .iload 5, 2, [], 0),
  (52, .if_icmp .ge 26, 3, [78], 0),
  (55, .aload_n 1, 1, [], 0),
  (56, .iload_n 2, 1, [], 0),
  (57, .iload 6, 2, [], 0),
  (59, .invokestatic 298, 3, [1, 177, 3], 0),
  (62, .aload_n 1, 1, [], 0),
  (63, .iload_n 3, 1, [], 0),
  (64, .iload 6, 2, [], 0),
  (66, .invokestatic 298, 3, [1, 177, 3], 0),
  (69, .if_icmp .ne 9, 3, [78], 0),
  (72, .iinc 6 1, 3, [], 1),
  (75, .goto (-27), 3, [48], 0),
  (78, .aload_n 0, 1, [], 0),
  (79, .getfield 71, 3, [11, 26, 15, 100, 64], 0),
  (82, .iload 4, 2, [], 0),
  (84, .iload 6, 2, [], 0),
  (86, .iload 5, 2, [], 0),
  (88, .if_icmp .ge 13, 3, [101], 0),
  (91, .aload_n 1, 1, [], 0),
  (92, .iload_n 2, 1, [], 0),
  (93, .iload 6, 2, [], 0),
  (95, .invokestatic 298, 3, [1, 177, 3], 0),
  (98, .goto 4, 3, [102], 0),
  (101, .iconst (-1), 1, [], (-1)),
  (102, .iastore, 1, [], 0),
  (103, .aload_n 0, 1, [], 0),
  (104, .getfield 74, 3, [11, 27, 16, 100, 64], 0),
  (107, .iload 4, 2, [], 0),
  (109, .iload 6, 2, [], 0),
  (111, .iload 5, 2, [], 0),
  (113, .if_icmp .ge 13, 3, [126], 0),
  (116, .aload_n 1, 1, [], 0),
  (117, .iload_n 3, 1, [], 0),
  (118, .iload 6, 2, [], 0),
  (120, .invokestatic 298, 3, [1, 177, 3], 0),
  (123, .goto 4, 3, [127], 0),
  (126, .iconst (-1), 1, [], (-1)),
  (127, .iastore, 1, [], 0),
  (128, .aload_n 1, 1, [], 0),
  (129, .bipush 8, 2, [], 8),
  (131, .iload_n 2, 1, [], 0),
  (132, .iadd, 1, [], 0),
  (133, .iaload, 1, [], 0),
  (134, .aload_n 1, 1, [], 0),
  (135, .bipush 8, 2, [], 8),
  (137, .iload_n 3, 1, [], 0),
  (138, .iadd, 1, [], 0),
  (139, .iaload, 1, [], 0),
  (140, .if_icmp .ne 7, 3, [147], 0),
  (143, .iconst 1, 1, [], 1),
  (144, .goto 4, 3, [148], 0),
  (147, .iconst 0, 1, [], 0),
  (148, .istore 7, 2, [], 0),
  (150, .aload_n 0, 1, [], 0),
  (151, .getfield 77, 3, [11, 28, 17, 102, 64], 0),
  (154, .iload 4, 2, [], 0),
  (156, .iload 7, 2, [], 0),
  (158, .ifCond .eq 16, 3, [174], 0),
  (161, .iload_n 2, 1, [], 0),
  (162, .iload_n 3, 1, [], 0),
  (163, .if_icmp .ge 7, 3, [170], 0),
  (166, .iconst 1, 1, [], 1),
  (167, .goto 27, 3, [194], 0),
  (170, .iconst 0, 1, [], 0),
  (171, .goto 23, 3, [194], 0),
  (174, .aload_n 1, 1, [], 0),
  (175, .bipush 8, 2, [], 8),
  (177, .iload_n 2, 1, [], 0),
  (178, .iadd, 1, [], 0),
  (179, .iaload, 1, [], 0),
  (180, .aload_n 1, 1, [], 0),
  (181, .bipush 8, 2, [], 8),
  (183, .iload_n 3, 1, [], 0),
  (184, .iadd, 1, [], 0),
  (185, .iaload, 1, [], 0),
  (186, .if_icmp .ge 7, 3, [193], 0),
  (189, .iconst 1, 1, [], 1),
  (190, .goto 4, 3, [194], 0),
  (193, .iconst 0, 1, [], 0),
  (194, .bastore, 1, [], 0),
  (195, .iinc 3 1, 3, [], 1),
  (198, .goto (-186), 3, [12], 0),
  (201, .iinc 2 1, 3, [], 1),
  (204, .goto (-202), 3, [2], 0),
  (207, .return_, 1, [], 0)]
def k_M_laysUnlike : List (List (Nat × Nat)) := [[], [], [], [], [(5, 143)], [], [], [], [], [], [(5, 143)], [], [], [], [], [], [], [], [], [], [], [], [], [], [], [], [], [], [(6, 115)], [], [], [], [], [], [], [], [], [], [(7, 25), (7, 26), (1, 12), (7, 27)], [], [], [], [(7, 25), (7, 26), (1, 12), (7, 27)], [], [], [], [], [(5, 166)], [], [], [], [], [], [], [], [(7, 25), (7, 26), (1, 12), (7, 27)], [], [], [], [], [(5, 167)], [], [], [], [], [], [], [], [(7, 25), (7, 26), (1, 12), (7, 27)], [], [], [], [], [], [], [], [], [], [], [], [], [], [], [], [], [], [], [], [(5, 168)], [], [], [], [], [], [], [], [], [], [], [], [], [], [], [], [], [], [], [], [], [], [], [], [], [], [], [], [], [], []]
def c_M_letterOf : List zE := [(0, .aload_n 0, 1, [], 0),
  (1, .bipush 16, 2, [], 16),
  (3, .bipush 6, 2, [], 6),
  (5, .iload_n 1, 1, [], 0),
  (6, .imul, 1, [], 0),
  (7, .iadd, 1, [], 0),
  (8, .iload_n 2, 1, [], 0),
  (9, .iadd, 1, [], 0),
  (10, .iaload, 1, [], 0),
  (11, .ireturn, 1, [], 0)]
def k_M_letterOf : List (List (Nat × Nat)) := [[], [], [], [], [], [], [], [], [], []]
def c_M_laysRanks : List zE := [(0, .iconst 0, 1, [], 0),
  (1, .istore_n 2, 1, [], 0),
  (2, .iload_n 2, 1, [], 0),
  (3, .bipush 8, 2, [], 8),
  (5, .if_icmp .ge 18, 3, [23], 0),
  (8, .aload_n 0, 1, [], 0),
  (9, .getfield 81, 3, [11, 29, 18, 100, 8], 0),
  (12, .aload_n 1, 1, [], 0),
  (13, .iload_n 2, 1, [], 0),
  (14, .iaload, 1, [], 0),
  (15, .iload_n 2, 1, [], 0),
  (16, .iastore, 1, [], 0),
  (17, .iinc 2 1, 3, [], 1),
  (20, .goto (-18), 3, [2], 0),
  (23, .return_, 1, [], 0)]
def k_M_laysRanks : List (List (Nat × Nat)) := [[], [], [], [], [], [], [(5, 169)], [], [], [], [], [], [], [], []]
def c_M_laysPlaces : List zE := [(0, .iconst 0, 1, [], 0),
  (1, .istore_n 1, 1, [], 0),
  (2, .iload_n 1, 1, [], 0),
  (3, .aload_n 0, 1, [], 0),
  (4, .getfield 156, 3, [11, 3], 0),
  (7, .if_icmp .ge 75, 3, [82], 0),
  (10, .aload_n 0, 1, [], 0),
  (11, .getfield 84, 3, [11, 30, 19, 100, 8], 0),
  (14, .iload_n 1, 1, [], 0),
  (15, .iconst 0, 1, [], 0),
  (16, .iastore, 1, [], 0),
  (17, .iconst 0, 1, [], 0),
  (18, .istore_n 2, 1, [], 0),
  (19, .iload_n 2, 1, [], 0),
  (20, .aload_n 0, 1, [], 0),
  (21, .getfield 156, 3, [11, 3], 0),
  (24, .if_icmp .ge 40, 3, [64], 0),
  (27, .aload_n 0, 1, [], 0),
  (28, .getfield 84, 3, [11, 30, 19, 100, 8], 0),
  (31, .iload_n 1, 1, [], 0),
  (32, .dup2, 1, [], 0),
  (33, .iaload, 1, [], 0),
  (34, .iload_n 2, 1, [], 0),
  (35, .iload_n 1, 1, [], 0),
  (36, .if_icmp .eq 16, 3, [52], 0),
  (39, .aload_n 0, 1, [], 0),
  (40, .iload_n 2, 1, [], 0),
  (41, .iload_n 1, 1, [], 0),
  (42, .invokevirtual 301, 3, [180, 2], 0),
  (45, .ifCond .eq 7, 3, [52], 0),
  (48, .iconst 1, 1, [], 1),
  (49, .goto 4, 3, [53], 0),
  (52, .iconst 0, 1, [], 0),
  (53, .invokestatic 187, 3, [1, 158, 1], 0),
  (56, .iadd, 1, [], 0),
  (57, .iastore, 1, [], 0),
  (58, .iinc 2 1, 3, [], 1),
  (61, .goto (-42), 3, [19], 0),
  (64, .aload_n 0, 1, [], 0),
  (65, .getfield 87, 3, [11, 31, 20, 100, 8], 0),
  (68, .aload_n 0, 1, [], 0),
  (69, .getfield 84, 3, [11, 30, 19, 100, 8], 0),
  (72, .iload_n 1, 1, [], 0),
  (73, .iaload, 1, [], 0),
  (74, .iload_n 1, 1, [], 0),
  (75, .iastore, 1, [], 0),
  (76, .iinc 1 1, 3, [], 1),
  (79, .goto (-77), 3, [2], 0),
  (82, .return_, 1, [], 0)]
def k_M_laysPlaces : List (List (Nat × Nat)) := [[], [], [], [], [(5, 143)], [], [], [(5, 170)], [], [], [], [], [], [], [], [(5, 143)], [], [], [(5, 170)], [], [], [], [], [], [], [], [], [], [(7, 36), (7, 38), (0, 61), (1, 12), (7, 39)], [], [], [], [], [(6, 181), (6, 182), (1, 12), (6, 183)], [], [], [], [], [], [(5, 171)], [], [(5, 170)], [], [], [], [], [], [], []]
def c_M_goesAhead : List zE := [(0, .bipush 8, 2, [], 8),
  (2, .iload_n 1, 1, [], 0),
  (3, .imul, 1, [], 0),
  (4, .iload_n 2, 1, [], 0),
  (5, .iadd, 1, [], 0),
  (6, .istore_n 3, 1, [], 0),
  (7, .aload_n 0, 1, [], 0),
  (8, .getfield 71, 3, [11, 26, 15, 100, 64], 0),
  (11, .iload_n 3, 1, [], 0),
  (12, .iaload, 1, [], 0),
  (13, .ifCond .ge 12, 3, [25], 0),
  (16, .aload_n 0, 1, [], 0),
  (17, .getfield 77, 3, [11, 28, 17, 102, 64], 0),
  (20, .iload_n 3, 1, [], 0),
  (21, .baload, 1, [], 0),
  (22, .goto 33, 3, [55], 0),
  (25, .aload_n 0, 1, [], 0),
  (26, .getfield 81, 3, [11, 29, 18, 100, 8], 0),
  (29, .aload_n 0, 1, [], 0),
  (30, .getfield 71, 3, [11, 26, 15, 100, 64], 0),
  (33, .iload_n 3, 1, [], 0),
  (34, .iaload, 1, [], 0),
  (35, .iaload, 1, [], 0),
  (36, .aload_n 0, 1, [], 0),
  (37, .getfield 81, 3, [11, 29, 18, 100, 8], 0),
  (40, .aload_n 0, 1, [], 0),
  (41, .getfield 74, 3, [11, 27, 16, 100, 64], 0),
  (44, .iload_n 3, 1, [], 0),
  (45, .iaload, 1, [], 0),
  (46, .iaload, 1, [], 0),
  (47, .if_icmp .ge 7, 3, [54], 0),
  (50, .iconst 1, 1, [], 1),
  (51, .goto 4, 3, [55], 0),
  (54, .iconst 0, 1, [], 0),
  (55, .ireturn, 1, [], 1)]
def k_M_goesAhead : List (List (Nat × Nat)) := [[], [], [], [], [], [], [], [(5, 166)], [], [], [], [], [(5, 168)], [], [], [], [], [(5, 169)], [], [(5, 166)], [], [], [], [], [(5, 169)], [], [(5, 167)], [], [], [], [], [], [], [], []]
def c_M_yieldOn : List zE := [(0, .aload_n 0, 1, [], 0),
  (1, .getfield 68, 3, [11, 25, 14, 100, 4], 0),
  (4, .iconst 0, 1, [], 0),
  (5, .aload_n 0, 1, [], 0),
  (6, .getfield 31, 3, [11, 6, 2, 100, 20], 0),
  (9, .iload_n 1, 1, [], 0),
  (10, .aload_n 0, 1, [], 0),
  (11, .getfield 28, 3, [11, 5], 0),
  (14, .irem, 1, [], 0),
  (15, .iaload, 1, [], 0),
  (16, .iastore, 1, [], 0),
  (17, .aload_n 0, 1, [], 0),
  (18, .getfield 68, 3, [11, 25, 14, 100, 4], 0),
  (21, .iconst 1, 1, [], 1),
  (22, .iload_n 1, 1, [], 0),
  (23, .bipush 10, 2, [], 10),
  (25, .irem, 1, [], 0),
  (26, .iastore, 1, [], 0),
  (27, .aload_n 0, 1, [], 0),
  (28, .getfield 68, 3, [11, 25, 14, 100, 4], 0),
  (31, .iconst 2, 1, [], 2),
  (32, .aload_n 0, 1, [], 0),
  (33, .getfield 156, 3, [11, 3], 0),
  (36, .iastore, 1, [], 0),
  (37, .aload_n 0, 1, [], 0),
  (38, .getfield 68, 3, [11, 25, 14, 100, 4], 0),
  (41, .iconst 3, 1, [], 3),
  (42, .aload_n 0, 1, [], 0),
  (43, .invokevirtual 289, 3, [182, 0], 0),
  (46, .iastore, 1, [], 0),
  (47, .iconst 0, 1, [], 0),
  (48, .bipush 99, 2, [], 99),
  (50, .aload_n 0, 1, [], 0),
  (51, .invokevirtual 292, 3, [184, 0], 0),
  (54, .invokestatic 178, 3, [3], 0),
  (57, .invokestatic 295, 3, [4], 0),
  (60, .ireturn, 1, [], 0)]
def k_M_yieldOn : List (List (Nat × Nat)) := [[], [(5, 165)], [], [], [(5, 146)], [], [], [(5, 145)], [], [], [], [], [(5, 165)], [], [], [], [], [], [], [(5, 165)], [], [], [(5, 143)], [], [], [(5, 165)], [], [], [(7, 44), (7, 46), (0, 63), (1, 12), (7, 47)], [], [], [], [], [(7, 51), (7, 53), (0, 64), (1, 12), (7, 54)], [(6, 115)], [(7, 58)], []]
def c_M_allThirst : List zE := [(0, .aload_n 0, 1, [], 0),
  (1, .getfield 35, 3, [11, 7, 3, 100, 8], 0),
  (4, .iconst 0, 1, [], 0),
  (5, .aload_n 0, 1, [], 0),
  (6, .getfield 156, 3, [11, 3], 0),
  (9, .invokestatic 165, 3, [1, 183, 3], 0),
  (12, .ireturn, 1, [], 0)]
def k_M_allThirst : List (List (Nat × Nat)) := [[], [(5, 147)], [], [], [(5, 143)], [(7, 48), (7, 49), (1, 12), (7, 50)], []]
def c_M_sumFrom : List zE := [(0, .iconst 0, 1, [], 0),
  (1, .istore_n 3, 1, [], 0),
  (2, .iconst 0, 1, [], 0),
  (3, .istore 4, 2, [], 0),
  (5, .iload 4, 2, [], 0),
  (7, .iload_n 2, 1, [], 0),
  (8, .if_icmp .ge 18, 3, [26], 0),
  (11, .iload_n 3, 1, [], 0),
  (12, .aload_n 0, 1, [], 0),
  (13, .iload_n 1, 1, [], 0),
  (14, .iload 4, 2, [], 0),
  (16, .iadd, 1, [], 0),
  (17, .iaload, 1, [], 0),
  (18, .iadd, 1, [], 0),
  (19, .istore_n 3, 1, [], 0),
  (20, .iinc 4 1, 3, [], 1),
  (23, .goto (-18), 3, [5], 0),
  (26, .iload_n 3, 1, [], 0),
  (27, .ireturn, 1, [], 0)]
def k_M_sumFrom : List (List (Nat × Nat)) := [[], [], [], [], [], [], [], [], [], [], [], [], [], [], [], [], [], [], []]
def c_M_ruled : List zE := [(0, .iconst 0, 1, [], 0),
  (1, .istore_n 1, 1, [], 0),
  (2, .iconst 0, 1, [], 0),
  (3, .istore_n 2, 1, [], 0),
  (4, .iload_n 2, 1, [], 0),
  (5, .aload_n 0, 1, [], 0),
  (6, .getfield 275, 3, [11, 22], 0),
  (9, .if_icmp .ge 116, 3, [125], 0),
  (12, .aload_n 0, 1, [], 0),
  (13, .getfield 59, 3, [11, 20, 11, 100, 80], 0),
  (16, .iload_n 2, 1, [], 0),
  (17, .iaload, 1, [], 0),
  (18, .istore_n 3, 1, [], 0),
  (19, .iload_n 3, 1, [], 0),
  (20, .sipush 3000, 3, [], 3000),
  (23, .if_icmp .ne 23, 3, [46], 0),
  (26, .aload_n 0, 1, [], 0),
  (27, .getfield 65, 3, [11, 24, 13, 100, 80], 0),
  (30, .iload_n 1, 1, [], 0),
  (31, .iconst 1, 1, [], 1),
  (32, .isub, 1, [], 0),
  (33, .aload_n 0, 1, [], 0),
  (34, .getfield 65, 3, [11, 24, 13, 100, 80], 0),
  (37, .iload_n 1, 1, [], 0),
  (38, .iconst 1, 1, [], 1),
  (39, .isub, 1, [], 0),
  (40, .iaload, 1, [], 0),
  (41, .ineg, 1, [], 0),
  (42, .iastore, 1, [], 0),
  (43, .goto 76, 3, [119], 0),
  (46, .iload_n 3, 1, [], 0),
  (47, .sipush 2000, 3, [], 2000),
  (50, .if_icmp .lt 39, 3, [89], 0),
  (53, .iinc 1 (-1), 3, [], (-1)),
  (56, .aload_n 0, 1, [], 0),
  (57, .getfield 65, 3, [11, 24, 13, 100, 80], 0),
  (60, .iload_n 1, 1, [], 0),
  (61, .iconst 1, 1, [], 1),
  (62, .isub, 1, [], 0),
  (63, .iload_n 3, 1, [], 0),
  (64, .sipush 2000, 3, [], 2000),
  (67, .isub, 1, [], 0),
  (68, .aload_n 0, 1, [], 0),
  (69, .getfield 65, 3, [11, 24, 13, 100, 80], 0),
  (72, .iload_n 1, 1, [], 0),
  (73, .iconst 1, 1, [], 1),
  (74, .isub, 1, [], 0),
  (75, .iaload, 1, [], 0),
  (76, .aload_n 0, 1, [], 0),
  (77, .getfield 65, 3, [11, 24, 13, 100, 80], 0),
  (80, .iload_n 1, 1, [], 0),
  (81, .iaload, 1, [], 0),
  (82, .invokestatic 285, 3, [1, 185, 3], 0),
  (85, .iastore, 1, [], 0),
  (86, .goto 33, 3, [119], 0),
  (89, .aload_n 0, 1, [], 0),
  (90, .getfield 65, 3, [11, 24, 13, 100, 80], 0),
  (93, .iload_n 1, 1, [], 0),
  (94, .iload_n 3, 1, [], 0),
  (95, .sipush 1000, 3, [], 1000),
  (98, .if_icmp .lt 16, 3, [114], 0),
  (101, .aload_n 0, 1, [], 0),
  (102, .getfield 68, 3, [11, 25, 14, 100, 4], 0),
  (105, .iload_n 3, 1, [], 0),
  (106, .sipush 1000, 3, [], 1000),
  (109, .isub, 1, [], 0),
  (110, .iaload, 1, [], 0),
  (111, .goto 4, 3, [115], 0),
  (114, .iload_n 3, 1, [], 0),
  (115, .iastore, 1, [], 0),
  (116, .iinc 1 1, 3, [], 1),
  (119, .iinc 2 1, 3, [], 1),
  (122, .goto (-118), 3, [4], 0),
  (125, .aload_n 0, 1, [], 0),
  (126, .getfield 275, 3, [11, 22], 0),
  (129, .ifCond .ne 17, 3, [146], 0),
  (132, .bipush 20, 2, [], 20),
  (134, .iconst 2, 1, [], 2),
  (135, .aload_n 0, 1, [], 0),
  (136, .getfield 68, 3, [11, 25, 14, 100, 4], 0),
  (139, .iconst 0, 1, [], 0),
  (140, .iaload, 1, [], 0),
  (141, .imul, 1, [], 0),
  (142, .isub, 1, [], 0),
  (143, .goto 9, 3, [152], 0),
  (146, .aload_n 0, 1, [], 0),
  (147, .getfield 65, 3, [11, 24, 13, 100, 80], 0),
  (150, .iconst 0, 1, [], 0),
  (151, .iaload, 1, [], 0),
  (152, .ireturn, 1, [], 0)]
def k_M_ruled : List (List (Nat × Nat)) := [[], [], [], [], [], [], [(5, 162)], [], [], [(5, 160)], [], [], [], [], [], [], [], [(5, 164)], [], [], [], [], [(5, 164)], [], [], [], [], [], [], [], [], [], [], [], [], [(5, 164)], [], [], [], [], [], [], [], [(5, 164)], [], [], [], [], [], [(5, 164)], [], [], [(7, 55), (7, 56), (1, 12), (7, 57)], [], [], [], [(5, 164)], [], [], [], [], [], [(5, 165)], [], [], [], [], [], [], [], [], [], [], [], [(5, 162)], [], [], [], [], [(5, 165)], [], [], [], [], [], [], [(5, 164)], [], [], []]
def c_M_worked : List zE := [(0, .iload_n 0, 1, [], 0),
  (1, .tableswitch 93 0 5 #[39, 53, 67, 81, 85, 89], 39, [94, 40, 54, 68, 82, 86, 90], 0),
  (40, .iload_n 1, 1, [], 0),
  (41, .iload_n 2, 1, [], 0),
  (42, .if_icmp .ge 7, 3, [49], 0),
  (45, .iconst 1, 1, [], 1),
  (46, .goto 4, 3, [50], 0),
  (49, .iconst 0, 1, [], 0),
  (50, .invokestatic 187, 3, [1, 158, 1], 0),
  (53, .ireturn, 1, [], 0),
  (54, .iload_n 1, 1, [], 0),
  (55, .iload_n 2, 1, [], 0),
  (56, .if_icmp .le 7, 3, [63], 0),
  (59, .iconst 1, 1, [], 1),
  (60, .goto 4, 3, [64], 0),
  (63, .iconst 0, 1, [], 0),
  (64, .invokestatic 187, 3, [1, 158, 1], 0),
  (67, .ireturn, 1, [], 0),
  (68, .iload_n 1, 1, [], 0),
  (69, .iload_n 2, 1, [], 0),
  (70, .if_icmp .ne 7, 3, [77], 0),
  (73, .iconst 1, 1, [], 1),
  (74, .goto 4, 3, [78], 0),
  (77, .iconst 0, 1, [], 0),
  (78, .invokestatic 187, 3, [1, 158, 1], 0),
  (81, .ireturn, 1, [], 0),
  (82, .iload_n 1, 1, [], 0),
  (83, .iload_n 2, 1, [], 0),
  (84, .iadd, 1, [], 0),
  (85, .ireturn, 1, [], 0),
  (86, .iload_n 1, 1, [], 0),
  (87, .iload_n 2, 1, [], 0),
  (88, .isub, 1, [], 0),
  (89, .ireturn, 1, [], 0),
  (90, .iload_n 1, 1, [], 0),
  (91, .iload_n 2, 1, [], 0),
  (92, .imul, 1, [], 0),
  (93, .ireturn, 1, [], 0),
  (94, .iload_n 2, 1, [], 0),
  (95, .ifCond .ne 7, 3, [102], 0),
  (98, .iconst 0, 1, [], 0),
  (99, .goto 6, 3, [105], 0),
  (102, .iload_n 1, 1, [], 0),
  (103, .iload_n 2, 1, [], 0),
  (104, .idiv, 1, [], 0),
  (105, .ireturn, 1, [], 0)]
def k_M_worked : List (List (Nat × Nat)) := [[], [], [], [], [], [], [], [], [(6, 181), (6, 182), (1, 12), (6, 183)], [], [], [], [], [], [], [], [(6, 181), (6, 182), (1, 12), (6, 183)], [], [], [], [], [], [], [], [(6, 181), (6, 182), (1, 12), (6, 183)], [], [], [], [], [], [], [], [], [], [], [], [], [], [], [], [], [], [], [], [], []]
def c_M_gives : List zE := [(0, .iload_n 1, 1, [], 0),
  (1, .istore_n 2, 1, [], 0),
  (2, .iconst 0, 1, [], 0),
  (3, .istore_n 3, 1, [], 0),
  (4, .iload_n 3, 1, [], 0),
  (5, .aload_n 0, 1, [], 0),
  (6, .getfield 156, 3, [11, 3], 0),
  (9, .if_icmp .ge 45, 3, [54], 0),
  (12, .aload_n 0, 1, [], 0),
  (13, .getfield 87, 3, [11, 31, 20, 100, 8], 0),
  (16, .iload_n 3, 1, [], 0),
  (17, .iaload, 1, [], 0),
  (18, .istore 4, 2, [], 0),
  (20, .aload_n 0, 1, [], 0),
  (21, .getfield 90, 3, [11, 32, 21, 100, 8], 0),
  (24, .iload 4, 2, [], 0),
  (26, .aload_n 0, 1, [], 0),
  (27, .getfield 35, 3, [11, 7, 3, 100, 8], 0),
  (30, .iload 4, 2, [], 0),
  (32, .iaload, 1, [], 0),
  (33, .iload_n 2, 1, [], 0),
  (34, .invokestatic 178, 3, [3], 0),
  (37, .iastore, 1, [], 0),
  (38, .iload_n 2, 1, [], 0),
  (39, .aload_n 0, 1, [], 0),
  (40, .getfield 90, 3, [11, 32, 21, 100, 8], 0),
  (43, .iload 4, 2, [], 0),
  (45, .iaload, 1, [], 0),
  (46, .isub, 1, [], 0),
  (47, .istore_n 2, 1, [], 0),
  (48, .iinc 3 1, 3, [], 1),
  (51, .goto (-47), 3, [4], 0),
  (54, .iload_n 2, 1, [], 0),
  (55, .ireturn, 1, [], 0)]
def k_M_gives : List (List (Nat × Nat)) := [[], [], [], [], [], [], [(5, 143)], [], [], [(5, 171)], [], [], [], [], [(5, 172)], [], [], [(5, 147)], [], [], [], [(6, 115)], [], [], [], [(5, 172)], [], [], [], [], [], [], [], []]
def c_M_letter : List zE := [(0, .aload_n 0, 1, [], 0),
  (1, .iconst 0, 1, [], 0),
  (2, .putfield 3, 3, [11, 0], 0),
  (5, .aload_n 0, 1, [], 0),
  (6, .iload_n 1, 1, [], 0),
  (7, .invokevirtual 324, 3, [172, 1], 0),
  (10, .ifCond .eq 24, 3, [34], 0),
  (13, .iload_n 2, 1, [], 0),
  (14, .i2l, 1, [], 0),
  (15, .lconst 0, 1, [], 0),
  (16, .aload_n 0, 1, [], 0),
  (17, .getfield 38, 3, [11, 8, 4, 100, 81], 0),
  (20, .bipush 8, 2, [], 8),
  (22, .iload_n 1, 1, [], 0),
  (23, .iadd, 1, [], 0),
  (24, .iaload, 1, [], 0),
  (25, .iconst 1, 1, [], 1),
  (26, .isub, 1, [], 0),
  (27, .i2l, 1, [], 0),
  (28, .invokestatic 159, 3, [1, 151, 3], 0),
  (31, .ifCond .ne 8, 3, [39], 0),
  (34, .aload_n 0, 1, [], 0),
  (35, .invokevirtual 329, 3, [173, 0], 0),
  (38, .ireturn, 1, [], 0),
  (39, .aload_n 0, 1, [], 0),
  (40, .getfield 38, 3, [11, 8, 4, 100, 81], 0),
  (43, .iload_n 1, 1, [], 0),
  (44, .iload_n 2, 1, [], 0),
  (45, .invokestatic 298, 3, [1, 177, 3], 0),
  (48, .ireturn, 1, [], 0)]
def k_M_letter : List (List (Nat × Nat)) := [[], [], [(5, 140)], [], [], [(7, 4), (7, 6), (0, 54), (1, 12), (7, 7)], [], [], [], [], [], [(5, 148)], [], [], [], [], [], [], [], [(6, 104), (6, 105), (1, 12), (6, 106)], [], [], [(7, 9), (7, 11), (0, 55), (1, 12), (7, 12)], [], [], [(5, 148)], [], [], [(7, 25), (7, 26), (1, 12), (7, 27)], []]
def c_M_sheet : List zE := [(0, .aload_n 0, 1, [], 0),
  (1, .iconst 0, 1, [], 0),
  (2, .putfield 3, 3, [11, 0], 0),
  (5, .iload_n 1, 1, [], 0),
  (6, .i2l, 1, [], 0),
  (7, .lconst 0, 1, [], 0),
  (8, .ldc2_w 335, 3, [], 3),
  (11, .invokestatic 159, 3, [1, 151, 3], 0),
  (14, .ifCond .eq 9, 3, [23], 0),
  (17, .iload_n 2, 1, [], 0),
  (18, .bipush 8, 2, [], 8),
  (20, .if_icmp .le 5, 3, [25], 0),
  (23, .iconst (-1), 1, [], (-1)),
  (24, .ireturn, 1, [], 0),
  (25, .iload_n 1, 1, [], 0),
  (26, .iconst 3, 1, [], 3),
  (27, .if_icmp .eq 10, 3, [37], 0),
  (30, .iload_n 2, 1, [], 0),
  (31, .ifCond .ge 6, 3, [37], 0),
  (34, .bipush (-2), 2, [], (-2)),
  (36, .ireturn, 1, [], 0),
  (37, .iload_n 3, 1, [], 0),
  (38, .istore 5, 2, [], 0),
  (40, .iconst 0, 1, [], 0),
  (41, .istore 6, 2, [], 0),
  (43, .iload 6, 2, [], 0),
  (45, .aload_n 0, 1, [], 0),
  (46, .getfield 156, 3, [11, 3], 0),
  (49, .if_icmp .ge 74, 3, [123], 0),
  (52, .iload_n 1, 1, [], 0),
  (53, .ifCond .ne 9, 3, [62], 0),
  (56, .iload 5, 2, [], 0),
  (58, .i2b, 1, [], 0),
  (59, .goto 16, 3, [75], 0),
  (62, .iload_n 1, 1, [], 0),
  (63, .iconst 1, 1, [], 1),
  (64, .if_icmp .ne 9, 3, [73], 0),
  (67, .iload 5, 2, [], 0),
  (69, .i2s, 1, [], 0),
  (70, .goto 5, 3, [75], 0),
  (73, .iload 5, 2, [], 0),
  (75, .istore 7, 2, [], 0),
  (77, .aload_n 0, 1, [], 0),
  (78, .getfield 35, 3, [11, 7, 3, 100, 8], 0),
  (81, .iload 6, 2, [], 0),
  (83, .iload_n 1, 1, [], 0),
  (84, .iconst 3, 1, [], 3),
  (85, .if_icmp .eq 9, 3, [94], 0),
  (88, .iload 6, 2, [], 0),
  (90, .iload_n 2, 1, [], 0),
  (91, .if_icmp .lt 7, 3, [98], 0),
  (94, .iconst 1, 1, [], 1),
  (95, .goto 14, 3, [109], 0),
  (98, .iconst 1, 1, [], 1),
  (99, .bipush 9, 2, [], 9),
  (101, .iload 7, 2, [], 0),
  (103, .invokestatic 178, 3, [3], 0),
  (106, .invokestatic 295, 3, [4], 0),
  (109, .iastore, 1, [], 0),
  (110, .iload 5, 2, [], 0),
  (112, .iload 4, 2, [], 0),
  (114, .iadd, 1, [], 0),
  (115, .istore 5, 2, [], 0),
  (117, .iinc 6 1, 3, [], 1),
  (120, .goto (-77), 3, [43], 0),
  (123, .iload_n 1, 1, [], 0),
  (124, .iconst 3, 1, [], 3),
  (125, .if_icmp .ne 8, 3, [133], 0),
  (128, .bipush (-3), 2, [], (-3)),
  (130, .goto 7, 3, [137], 0),
  (133, .aload_n 0, 1, [], 0),
  (134, .invokevirtual 289, 3, [182, 0], 0),
  (137, .ireturn, 1, [], 0)]
def k_M_sheet : List (List (Nat × Nat)) := [[], [], [(5, 140)], [], [], [], [(7, 71)], [(6, 104), (6, 105), (1, 12), (6, 106)], [], [], [], [], [], [], [], [], [], [], [], [], [], [], [], [], [], [], [], [(5, 143)], [], [], [], [], [], [], [], [], [], [], [], [], [], [], [], [(5, 147)], [], [], [], [], [], [], [], [], [], [], [], [], [(6, 115)], [(7, 58)], [], [], [], [], [], [], [], [], [], [], [], [], [], [(7, 44), (7, 46), (0, 63), (1, 12), (7, 47)], []]
def c_M_undo : List zE := [(0, .aload_n 0, 1, [], 0),
  (1, .iconst 0, 1, [], 0),
  (2, .putfield 3, 3, [11, 0], 0),
  (5, .aload_n 0, 1, [], 0),
  (6, .getfield 245, 3, [11, 33], 0),
  (9, .ifCond .ne 5, 3, [14], 0),
  (12, .iconst (-1), 1, [], (-1)),
  (13, .ireturn, 1, [], 0),
  (14, .aload_n 0, 1, [], 0),
  (15, .dup, 1, [], 0),
  (16, .getfield 245, 3, [11, 33], 0),
  (19, .iconst 1, 1, [], 1),
  (20, .isub, 1, [], 0),
  (21, .putfield 245, 3, [11, 33], 0),
  (24, .iconst 0, 1, [], 0),
  (25, .istore_n 1, 1, [], 0),
  (26, .iload_n 1, 1, [], 0),
  (27, .bipush 81, 2, [], 81),
  (29, .if_icmp .ge 29, 3, [58], 0),
  (32, .aload_n 0, 1, [], 0),
  (33, .getfield 38, 3, [11, 8, 4, 100, 81], 0),
  (36, .iload_n 1, 1, [], 0),
  (37, .aload_n 0, 1, [], 0),
  (38, .getfield 93, 3, [11, 34, 22, 100, 1296], 0),
  (41, .bipush 81, 2, [], 81),
  (43, .aload_n 0, 1, [], 0),
  (44, .getfield 245, 3, [11, 33], 0),
  (47, .imul, 1, [], 0),
  (48, .iload_n 1, 1, [], 0),
  (49, .iadd, 1, [], 0),
  (50, .iaload, 1, [], 0),
  (51, .iastore, 1, [], 0),
  (52, .iinc 1 1, 3, [], 1),
  (55, .goto (-29), 3, [26], 0),
  (58, .aload_n 0, 1, [], 0),
  (59, .getfield 245, 3, [11, 33], 0),
  (62, .ireturn, 1, [], 0)]
def k_M_undo : List (List (Nat × Nat)) := [[], [], [(5, 140)], [], [(5, 173)], [], [], [], [], [], [(5, 173)], [], [], [(5, 173)], [], [], [], [], [], [], [(5, 148)], [], [], [(5, 174)], [], [], [(5, 173)], [], [], [], [], [], [], [], [], [(5, 173)], []]
def c_M_order : List zE := [(0, .aload_n 0, 1, [], 0),
  (1, .iconst 0, 1, [], 0),
  (2, .putfield 3, 3, [11, 0], 0),
  (5, .aload_n 0, 1, [], 0),
  (6, .invokevirtual 350, 3, [191, 0], 0),
  (9, .istore_n 1, 1, [], 0),
  (10, .iload_n 1, 1, [], 0),
  (11, .ifCond .ge 5, 3, [16], 0),
  (14, .iload_n 1, 1, [], 0),
  (15, .ireturn, 1, [], 0),
  (16, .aload_n 0, 1, [], 0),
  (17, .invokevirtual 353, 3, [193, 0], 0),
  (20, .iconst 0, 1, [], 0),
  (21, .istore_n 2, 1, [], 0),
  (22, .iconst 0, 1, [], 0),
  (23, .istore_n 3, 1, [], 0),
  (24, .iload_n 3, 1, [], 0),
  (25, .bipush 8, 2, [], 8),
  (27, .if_icmp .ge 30, 3, [57], 0),
  (30, .aload_n 0, 1, [], 0),
  (31, .getfield 96, 3, [11, 36, 23, 100, 8], 0),
  (34, .iload_n 3, 1, [], 0),
  (35, .iaload, 1, [], 0),
  (36, .aload_n 0, 1, [], 0),
  (37, .getfield 38, 3, [11, 8, 4, 100, 81], 0),
  (40, .iconst 0, 1, [], 0),
  (41, .iaload, 1, [], 0),
  (42, .if_icmp .ne 7, 3, [49], 0),
  (45, .iload_n 3, 1, [], 0),
  (46, .goto 4, 3, [50], 0),
  (49, .iload_n 2, 1, [], 0),
  (50, .istore_n 2, 1, [], 0),
  (51, .iinc 3 1, 3, [], 1),
  (54, .goto (-30), 3, [24], 0),
  (57, .iconst 0, 1, [], 0),
  (58, .istore_n 3, 1, [], 0),
  (59, .iload_n 3, 1, [], 0),
  (60, .bipush 8, 2, [], 8),
  (62, .if_icmp .ge 21, 3, [83], 0),
  (65, .aload_n 0, 1, [], 0),
  (66, .getfield 38, 3, [11, 8, 4, 100, 81], 0),
  (69, .iload_n 3, 1, [], 0),
  (70, .aload_n 0, 1, [], 0),
  (71, .getfield 96, 3, [11, 36, 23, 100, 8], 0),
  (74, .iload_n 3, 1, [], 0),
  (75, .iaload, 1, [], 0),
  (76, .iastore, 1, [], 0),
  (77, .iinc 3 1, 3, [], 1),
  (80, .goto (-21), 3, [59], 0),
  (83, .aload_n 0, 1, [], 0),
  (84, .iload_n 2, 1, [], 0),
  (85, .invokevirtual 356, 3, [194, 1], 0),
  (88, .ireturn, 1, [], 0)]
def k_M_order : List (List (Nat × Nat)) := [[], [], [(5, 140)], [], [(7, 80), (7, 82), (0, 66), (1, 12), (7, 83)], [], [], [], [], [], [], [(7, 87), (7, 89), (0, 67), (1, 12), (7, 90)], [], [], [], [], [], [], [], [], [(5, 176)], [], [], [], [(5, 148)], [], [], [], [], [], [], [], [], [], [], [], [], [], [], [], [(5, 148)], [], [], [(5, 176)], [], [], [], [], [], [], [], [(7, 91), (7, 93), (0, 68), (1, 12), (7, 94)], []]
def c_M_readsOrder : List zE := [(0, .aload_n 0, 1, [], 0),
  (1, .bipush 80, 2, [], 80),
  (3, .invokevirtual 227, 3, [153, 1], 0),
  (6, .pop, 1, [], 0),
  (7, .iconst 0, 1, [], 0),
  (8, .istore_n 1, 1, [], 0),
  (9, .iconst 0, 1, [], 0),
  (10, .istore_n 2, 1, [], 0),
  (11, .iload_n 2, 1, [], 0),
  (12, .bipush 8, 2, [], 8),
  (14, .if_icmp .ge 58, 3, [72], 0),
  (17, .aload_n 0, 1, [], 0),
  (18, .ldc 213, 2, [0, 8], 0),
  (20, .invokevirtual 205, 3, [156, 1], 0),
  (23, .istore_n 3, 1, [], 0),
  (24, .iload_n 3, 1, [], 0),
  (25, .ifCond .lt 11, 3, [36], 0),
  (28, .iload_n 1, 1, [], 0),
  (29, .iload_n 3, 1, [], 0),
  (30, .invokestatic 347, 3, [1, 192, 2], 0),
  (33, .ifCond .eq 10, 3, [43], 0),
  (36, .iconst (-1), 1, [], (-1)),
  (37, .aload_n 0, 1, [], 0),
  (38, .getfield 172, 3, [11, 12], 0),
  (41, .isub, 1, [], 0),
  (42, .ireturn, 1, [], 0),
  (43, .aload_n 0, 1, [], 0),
  (44, .dup, 1, [], 0),
  (45, .getfield 172, 3, [11, 12], 0),
  (48, .iconst 1, 1, [], 1),
  (49, .iadd, 1, [], 0),
  (50, .putfield 172, 3, [11, 12], 0),
  (53, .iload_n 1, 1, [], 0),
  (54, .iconst 1, 1, [], 1),
  (55, .iload_n 3, 1, [], 0),
  (56, .ishl, 1, [], 0),
  (57, .ior, 1, [], 0),
  (58, .istore_n 1, 1, [], 0),
  (59, .aload_n 0, 1, [], 0),
  (60, .getfield 96, 3, [11, 36, 23, 100, 8], 0),
  (63, .iload_n 2, 1, [], 0),
  (64, .iload_n 3, 1, [], 0),
  (65, .iastore, 1, [], 0),
  (66, .iinc 2 1, 3, [], 1),
  (69, .goto (-58), 3, [11], 0),
  (72, .aload_n 0, 1, [], 0),
  (73, .getfield 172, 3, [11, 12], 0),
  (76, .aload_n 0, 1, [], 0),
  (77, .getfield 184, 3, [11, 13], 0),
  (80, .if_icmp .ge 12, 3, [92], 0),
  (83, .iconst (-1), 1, [], (-1)),
  (84, .aload_n 0, 1, [], 0),
  (85, .getfield 172, 3, [11, 12], 0),
  (88, .isub, 1, [], 0),
  (89, .goto 4, 3, [93], 0),
  (92, .iconst 0, 1, [], 0),
  (93, .ireturn, 1, [], 0)]
def k_M_readsOrder : List (List (Nat × Nat)) := [[], [], [(6, 111), (6, 113), (0, 39), (1, 12), (6, 114)], [], [], [], [], [], [], [], [], [], [], [(6, 125), (6, 127), (0, 42), (1, 12), (6, 128)], [], [], [], [], [], [(7, 84), (7, 85), (1, 12), (7, 86)], [], [], [], [(5, 152)], [], [], [], [], [(5, 152)], [], [], [(5, 152)], [], [], [], [], [], [], [], [(5, 176)], [], [], [], [], [], [], [(5, 152)], [], [(5, 153)], [], [], [], [(5, 152)], [], [], [], []]
def c_M_has : List zE := [(0, .iload_n 0, 1, [], 0),
  (1, .iload_n 1, 1, [], 0),
  (2, .ishr, 1, [], 0),
  (3, .iconst 1, 1, [], 1),
  (4, .iand, 1, [], 0),
  (5, .iconst 1, 1, [], 1),
  (6, .if_icmp .ne 7, 3, [13], 0),
  (9, .iconst 1, 1, [], 1),
  (10, .goto 4, 3, [14], 0),
  (13, .iconst 0, 1, [], 0),
  (14, .ireturn, 1, [], 1)]
def k_M_has : List (List (Nat × Nat)) := [[], [], [], [], [], [], [], [], [], [], []]
def c_M_putsBy : List zE := [(0, .iconst 0, 1, [], 0),
  (1, .istore_n 1, 1, [], 0),
  (2, .iload_n 1, 1, [], 0),
  (3, .bipush 81, 2, [], 81),
  (5, .if_icmp .ge 29, 3, [34], 0),
  (8, .aload_n 0, 1, [], 0),
  (9, .getfield 93, 3, [11, 34, 22, 100, 1296], 0),
  (12, .bipush 81, 2, [], 81),
  (14, .aload_n 0, 1, [], 0),
  (15, .getfield 245, 3, [11, 33], 0),
  (18, .imul, 1, [], 0),
  (19, .iload_n 1, 1, [], 0),
  (20, .iadd, 1, [], 0),
  (21, .aload_n 0, 1, [], 0),
  (22, .getfield 38, 3, [11, 8, 4, 100, 81], 0),
  (25, .iload_n 1, 1, [], 0),
  (26, .iaload, 1, [], 0),
  (27, .iastore, 1, [], 0),
  (28, .iinc 1 1, 3, [], 1),
  (31, .goto (-29), 3, [2], 0),
  (34, .return_, 1, [], 0)]
def k_M_putsBy : List (List (Nat × Nat)) := [[], [], [], [], [], [], [(5, 174)], [], [], [(5, 173)], [], [], [], [], [(5, 148)], [], [], [], [], [], []]
def c_M_adds : List zE := [(0, .aload_n 0, 1, [], 0),
  (1, .dup, 1, [], 0),
  (2, .getfield 245, 3, [11, 33], 0),
  (5, .iconst 1, 1, [], 1),
  (6, .iadd, 1, [], 0),
  (7, .putfield 245, 3, [11, 33], 0),
  (10, .aload_n 0, 1, [], 0),
  (11, .getfield 245, 3, [11, 33], 0),
  (14, .bipush 15, 2, [], 15),
  (16, .if_icmp .le 43, 3, [59], 0),
  (19, .iconst 0, 1, [], 0),
  (20, .istore_n 2, 1, [], 0),
  (21, .iload_n 2, 1, [], 0),
  (22, .sipush 1215, 3, [], 1215),
  (25, .if_icmp .ge 24, 3, [49], 0),
  (28, .aload_n 0, 1, [], 0),
  (29, .getfield 93, 3, [11, 34, 22, 100, 1296], 0),
  (32, .iload_n 2, 1, [], 0),
  (33, .aload_n 0, 1, [], 0),
  (34, .getfield 93, 3, [11, 34, 22, 100, 1296], 0),
  (37, .iload_n 2, 1, [], 0),
  (38, .bipush 81, 2, [], 81),
  (40, .iadd, 1, [], 0),
  (41, .iaload, 1, [], 0),
  (42, .iastore, 1, [], 0),
  (43, .iinc 2 1, 3, [], 1),
  (46, .goto (-25), 3, [21], 0),
  (49, .aload_n 0, 1, [], 0),
  (50, .dup, 1, [], 0),
  (51, .getfield 245, 3, [11, 33], 0),
  (54, .iconst 1, 1, [], 1),
  (55, .isub, 1, [], 0),
  (56, .putfield 245, 3, [11, 33], 0),
  (59, .iload_n 1, 1, [], 0),
  (60, .ireturn, 1, [], 0)]
def k_M_adds : List (List (Nat × Nat)) := [[], [], [(5, 173)], [], [], [(5, 173)], [], [(5, 173)], [], [], [], [], [], [], [], [], [(5, 174)], [], [], [(5, 174)], [], [], [], [], [], [], [], [], [], [(5, 173)], [], [], [(5, 173)], [], []]
def c_M_name : List zE := [(0, .aload_n 0, 1, [], 0),
  (1, .iconst 0, 1, [], 0),
  (2, .putfield 3, 3, [11, 0], 0),
  (5, .aload_n 0, 1, [], 0),
  (6, .bipush 80, 2, [], 80),
  (8, .invokevirtual 227, 3, [153, 1], 0),
  (11, .pop, 1, [], 0),
  (12, .aload_n 0, 1, [], 0),
  (13, .iload_n 1, 1, [], 0),
  (14, .invokevirtual 324, 3, [172, 1], 0),
  (17, .ifCond .ne 6, 3, [23], 0),
  (20, .bipush (-100), 2, [], (-100)),
  (22, .ireturn, 1, [], 0),
  (23, .aload_n 0, 1, [], 0),
  (24, .iconst 0, 1, [], 0),
  (25, .invokevirtual 221, 3, [155, 1], 0),
  (28, .istore_n 2, 1, [], 0),
  (29, .iload_n 2, 1, [], 0),
  (30, .ifCond .eq 14, 3, [44], 0),
  (33, .aload_n 0, 1, [], 0),
  (34, .getfield 172, 3, [11, 12], 0),
  (37, .aload_n 0, 1, [], 0),
  (38, .getfield 184, 3, [11, 13], 0),
  (41, .if_icmp .ge 10, 3, [51], 0),
  (44, .iconst (-1), 1, [], (-1)),
  (45, .aload_n 0, 1, [], 0),
  (46, .getfield 172, 3, [11, 12], 0),
  (49, .isub, 1, [], 0),
  (50, .ireturn, 1, [], 0),
  (51, .aload_n 0, 1, [], 0),
  (52, .invokevirtual 353, 3, [193, 0], 0),
  (55, .aload_n 0, 1, [], 0),
  (56, .iload_n 1, 1, [], 0),
  (57, .iconst 0, 1, [], 0),
  (58, .iload_n 2, 1, [], 0),
  (59, .invokevirtual 241, 3, [161, 3], 0),
  (62, .aload_n 0, 1, [], 0),
  (63, .aload_n 0, 1, [], 0),
  (64, .aload_n 0, 1, [], 0),
  (65, .getfield 38, 3, [11, 8, 4, 100, 81], 0),
  (68, .iload_n 1, 1, [], 0),
  (69, .invokevirtual 343, 3, [196, 2], 0),
  (72, .invokevirtual 356, 3, [194, 1], 0),
  (75, .ireturn, 1, [], 0)]
def k_M_name : List (List (Nat × Nat)) := [[], [], [(5, 140)], [], [], [(6, 111), (6, 113), (0, 39), (1, 12), (6, 114)], [], [], [], [(7, 4), (7, 6), (0, 54), (1, 12), (7, 7)], [], [], [], [], [], [(6, 120), (6, 122), (0, 41), (1, 12), (6, 123)], [], [], [], [], [(5, 152)], [], [(5, 153)], [], [], [], [(5, 152)], [], [], [], [(7, 87), (7, 89), (0, 67), (1, 12), (7, 90)], [], [], [], [], [(6, 193), (6, 195), (0, 46), (1, 12), (6, 196)], [], [], [], [(5, 148)], [], [(7, 99), (7, 101), (0, 69), (1, 12), (7, 102)], [(7, 91), (7, 93), (0, 68), (1, 12), (7, 94)], []]
def c_M_placeOf : List zE := [(0, .aload_n 0, 1, [], 0),
  (1, .aload_n 1, 1, [], 0),
  (2, .invokevirtual 315, 3, [175, 1], 0),
  (5, .aload_n 0, 1, [], 0),
  (6, .getfield 84, 3, [11, 30, 19, 100, 8], 0),
  (9, .iload_n 2, 1, [], 0),
  (10, .iaload, 1, [], 0),
  (11, .ireturn, 1, [], 0)]
def k_M_placeOf : List (List (Nat × Nat)) := [[], [], [(7, 17), (7, 19), (0, 57), (1, 12), (7, 20)], [], [(5, 170)], [], [], []]
def c_M_marry : List zE := [(0, .aload_n 0, 1, [], 0),
  (1, .iconst 0, 1, [], 0),
  (2, .putfield 3, 3, [11, 0], 0),
  (5, .aload_n 0, 1, [], 0),
  (6, .invokevirtual 353, 3, [193, 0], 0),
  (9, .aload_n 0, 1, [], 0),
  (10, .aload_n 0, 1, [], 0),
  (11, .getfield 38, 3, [11, 8, 4, 100, 81], 0),
  (14, .iload_n 1, 1, [], 0),
  (15, .iload_n 2, 1, [], 0),
  (16, .invokevirtual 359, 3, [198, 3], 0),
  (19, .istore_n 3, 1, [], 0),
  (20, .iload_n 3, 1, [], 0),
  (21, .bipush (-100), 2, [], (-100)),
  (23, .if_icmp .ne 7, 3, [30], 0),
  (26, .iload_n 3, 1, [], 0),
  (27, .goto 8, 3, [35], 0),
  (30, .aload_n 0, 1, [], 0),
  (31, .iload_n 3, 1, [], 0),
  (32, .invokevirtual 356, 3, [194, 1], 0),
  (35, .ireturn, 1, [], 0)]
def k_M_marry : List (List (Nat × Nat)) := [[], [], [(5, 140)], [], [(7, 87), (7, 89), (0, 67), (1, 12), (7, 90)], [], [], [(5, 148)], [], [], [(7, 107), (7, 109), (0, 70), (1, 12), (7, 110)], [], [], [], [], [], [], [], [], [(7, 91), (7, 93), (0, 68), (1, 12), (7, 94)], []]
def c_M_marries : List zE := [(0, .aload_n 0, 1, [], 0),
  (1, .iload_n 2, 1, [], 0),
  (2, .invokevirtual 324, 3, [172, 1], 0),
  (5, .ifCond .eq 16, 3, [21], 0),
  (8, .aload_n 0, 1, [], 0),
  (9, .iload_n 3, 1, [], 0),
  (10, .invokevirtual 324, 3, [172, 1], 0),
  (13, .ifCond .eq 8, 3, [21], 0),
  (16, .iload_n 2, 1, [], 0),
  (17, .iload_n 3, 1, [], 0),
  (18, .if_icmp .ne 6, 3, [24], 0),
  (21, .bipush (-100), 2, [], (-100)),
  (23, .ireturn, 1, [], 0),
  (24, .aload_n 0, 1, [], 0),
  (25, .aload_n 1, 1, [], 0),
  (26, .iload_n 2, 1, [], 0),
  (27, .invokevirtual 343, 3, [196, 2], 0),
  (30, .istore 4, 2, [], 0),
  (32, .aload_n 1, 1, [], 0),
  (33, .bipush 8, 2, [], 8),
  (35, .iload_n 2, 1, [], 0),
  (36, .iadd, 1, [], 0),
  (37, .aload_n 1, 1, [], 0),
  (38, .bipush 8, 2, [], 8),
  (40, .iload_n 3, 1, [], 0),
  (41, .iadd, 1, [], 0),
  (42, .iaload, 1, [], 0),
  (43, .iastore, 1, [], 0),
  (44, .iconst 0, 1, [], 0),
  (45, .istore 5, 2, [], 0),
  (47, .iload 5, 2, [], 0),
  (49, .bipush 6, 2, [], 6),
  (51, .if_icmp .ge 28, 3, [79], 0),
  (54, .aload_n 1, 1, [], 0),
  (55, .bipush 16, 2, [], 16),
  (57, .bipush 6, 2, [], 6),
  (59, .iload_n 2, 1, [], 0),
  (60, .imul, 1, [], 0),
  (61, .iadd, 1, [], 0),
  (62, .iload 5, 2, [], 0),
  (64, .iadd, 1, [], 0),
  (65, .aload_n 1, 1, [], 0),
  (66, .iload_n 3, 1, [], 0),
  (67, .iload 5, 2, [], 0),
  (69, .invokestatic 298, 3, [1, 177, 3], 0),
  (72, .iastore, 1, [], 0),
  (73, .iinc 5 1, 3, [], 1),
  (76, .goto (-29), 3, [47], 0),
  (79, .iload 4, 2, [], 0),
  (81, .aload_n 0, 1, [], 0),
  (82, .aload_n 1, 1, [], 0),
  (83, .iload_n 2, 1, [], 0),
  (84, .invokevirtual 343, 3, [196, 2], 0),
  (87, .isub, 1, [], 0),
  (88, .ireturn, 1, [], 0)]
def k_M_marries : List (List (Nat × Nat)) := [[], [], [(7, 4), (7, 6), (0, 54), (1, 12), (7, 7)], [], [], [], [(7, 4), (7, 6), (0, 54), (1, 12), (7, 7)], [], [], [], [], [], [], [], [], [], [(7, 99), (7, 101), (0, 69), (1, 12), (7, 102)], [], [], [], [], [], [], [], [], [], [], [], [], [], [], [], [], [], [], [], [], [], [], [], [], [], [], [], [(7, 25), (7, 26), (1, 12), (7, 27)], [], [], [], [], [], [], [], [(7, 99), (7, 101), (0, 69), (1, 12), (7, 102)], [], []]
def c_M_days : List zE := [(0, .aload_n 0, 1, [], 0),
  (1, .iconst 0, 1, [], 0),
  (2, .putfield 3, 3, [11, 0], 0),
  (5, .iload_n 1, 1, [], 0),
  (6, .i2l, 1, [], 0),
  (7, .lconst 0, 1, [], 0),
  (8, .ldc2_w 362, 3, [], 60),
  (11, .invokestatic 159, 3, [1, 151, 3], 0),
  (14, .ifCond .ne 5, 3, [19], 0),
  (17, .iconst (-1), 1, [], (-1)),
  (18, .ireturn, 1, [], 0),
  (19, .aload_n 0, 1, [], 0),
  (20, .invokevirtual 353, 3, [193, 0], 0),
  (23, .aload_n 0, 1, [], 0),
  (24, .getfield 38, 3, [11, 8, 4, 100, 81], 0),
  (27, .bipush 64, 2, [], 64),
  (29, .aload_n 0, 1, [], 0),
  (30, .getfield 156, 3, [11, 3], 0),
  (33, .invokestatic 165, 3, [1, 183, 3], 0),
  (36, .istore_n 2, 1, [], 0),
  (37, .iconst 0, 1, [], 0),
  (38, .istore_n 3, 1, [], 0),
  (39, .aload_n 0, 1, [], 0),
  (40, .iconst 0, 1, [], 0),
  (41, .putfield 337, 3, [11, 35], 0),
  (44, .iconst 0, 1, [], 0),
  (45, .istore 4, 2, [], 0),
  (47, .iload 4, 2, [], 0),
  (49, .iload_n 1, 1, [], 0),
  (50, .if_icmp .ge 20, 3, [70], 0),
  (53, .iload_n 3, 1, [], 0),
  (54, .aload_n 0, 1, [], 0),
  (55, .aload_n 0, 1, [], 0),
  (56, .getfield 38, 3, [11, 8, 4, 100, 81], 0),
  (59, .invokevirtual 364, 3, [200, 1], 0),
  (62, .ior, 1, [], 0),
  (63, .istore_n 3, 1, [], 0),
  (64, .iinc 4 1, 3, [], 1),
  (67, .goto (-20), 3, [47], 0),
  (70, .aload_n 0, 1, [], 0),
  (71, .iconst 0, 1, [], 0),
  (72, .putfield 15, 3, [11, 1], 0),
  (75, .aload_n 0, 1, [], 0),
  (76, .iload_n 3, 1, [], 0),
  (77, .i2l, 1, [], 0),
  (78, .invokevirtual 18, 3, [202, 1], 0),
  (81, .aload_n 0, 1, [], 0),
  (82, .aload_n 0, 1, [], 0),
  (83, .getfield 337, 3, [11, 35], 0),
  (86, .i2l, 1, [], 0),
  (87, .invokevirtual 18, 3, [202, 1], 0),
  (90, .aload_n 0, 1, [], 0),
  (91, .aload_n 0, 1, [], 0),
  (92, .getfield 38, 3, [11, 8, 4, 100, 81], 0),
  (95, .bipush 64, 2, [], 64),
  (97, .aload_n 0, 1, [], 0),
  (98, .getfield 156, 3, [11, 3], 0),
  (101, .invokestatic 165, 3, [1, 183, 3], 0),
  (104, .iload_n 2, 1, [], 0),
  (105, .isub, 1, [], 0),
  (106, .invokevirtual 356, 3, [194, 1], 0),
  (109, .ireturn, 1, [], 0)]
def k_M_days : List (List (Nat × Nat)) := [[], [], [(5, 140)], [], [], [], [(7, 115)], [(6, 104), (6, 105), (1, 12), (6, 106)], [], [], [], [], [(7, 87), (7, 89), (0, 67), (1, 12), (7, 90)], [], [(5, 148)], [], [], [(5, 143)], [(7, 48), (7, 49), (1, 12), (7, 50)], [], [], [], [], [], [(5, 175)], [], [], [], [], [], [], [], [], [(5, 148)], [(7, 116), (7, 118), (0, 71), (1, 12), (7, 119)], [], [], [], [], [], [], [(5, 141)], [], [], [], [(7, 124), (7, 126), (0, 73), (1, 12), (7, 127)], [], [], [(5, 175)], [], [(7, 124), (7, 126), (0, 73), (1, 12), (7, 127)], [], [], [(5, 148)], [], [], [(5, 143)], [(7, 48), (7, 49), (1, 12), (7, 50)], [], [], [(7, 91), (7, 93), (0, 68), (1, 12), (7, 94)], []]
def c_M_dayGoes : List zE := [(0, .aload_n 0, 1, [], 0),
  (1, .aload_n 1, 1, [], 0),
  (2, .invokevirtual 315, 3, [175, 1], 0),
  (5, .aload_n 0, 1, [], 0),
  (6, .dup, 1, [], 0),
  (7, .getfield 337, 3, [11, 35], 0),
  (10, .aload_n 0, 1, [], 0),
  (11, .aload_n 0, 1, [], 0),
  (12, .aload_n 1, 1, [], 0),
  (13, .bipush 80, 2, [], 80),
  (15, .iaload, 1, [], 0),
  (16, .invokevirtual 318, 3, [181, 1], 0),
  (19, .invokevirtual 321, 3, [186, 1], 0),
  (22, .iadd, 1, [], 0),
  (23, .putfield 337, 3, [11, 35], 0),
  (26, .iconst 0, 1, [], 0),
  (27, .istore_n 2, 1, [], 0),
  (28, .iload_n 2, 1, [], 0),
  (29, .aload_n 0, 1, [], 0),
  (30, .getfield 156, 3, [11, 3], 0),
  (33, .if_icmp .ge 56, 3, [89], 0),
  (36, .aload_n 1, 1, [], 0),
  (37, .bipush 72, 2, [], 72),
  (39, .iload_n 2, 1, [], 0),
  (40, .iadd, 1, [], 0),
  (41, .dup2, 1, [], 0),
  (42, .iaload, 1, [], 0),
  (43, .aload_n 0, 1, [], 0),
  (44, .getfield 90, 3, [11, 32, 21, 100, 8], 0),
  (47, .iload_n 2, 1, [], 0),
  (48, .iaload, 1, [], 0),
  (49, .iadd, 1, [], 0),
  (50, .iastore, 1, [], 0),
  (51, .aload_n 1, 1, [], 0),
  (52, .bipush 64, 2, [], 64),
  (54, .iload_n 2, 1, [], 0),
  (55, .iadd, 1, [], 0),
  (56, .dup2, 1, [], 0),
  (57, .iaload, 1, [], 0),
  (58, .aload_n 0, 1, [], 0),
  (59, .getfield 90, 3, [11, 32, 21, 100, 8], 0),
  (62, .iload_n 2, 1, [], 0),
  (63, .iaload, 1, [], 0),
  (64, .aload_n 0, 1, [], 0),
  (65, .getfield 35, 3, [11, 7, 3, 100, 8], 0),
  (68, .iload_n 2, 1, [], 0),
  (69, .iaload, 1, [], 0),
  (70, .if_icmp .ge 7, 3, [77], 0),
  (73, .iconst 1, 1, [], 1),
  (74, .goto 4, 3, [78], 0),
  (77, .iconst 0, 1, [], 0),
  (78, .invokestatic 187, 3, [1, 158, 1], 0),
  (81, .iadd, 1, [], 0),
  (82, .iastore, 1, [], 0),
  (83, .iinc 2 1, 3, [], 1),
  (86, .goto (-58), 3, [28], 0),
  (89, .aload_n 1, 1, [], 0),
  (90, .bipush 80, 2, [], 80),
  (92, .dup2, 1, [], 0),
  (93, .iaload, 1, [], 0),
  (94, .iconst 1, 1, [], 1),
  (95, .iadd, 1, [], 0),
  (96, .iastore, 1, [], 0),
  (97, .aload_n 0, 1, [], 0),
  (98, .invokevirtual 340, 3, [201, 0], 0),
  (101, .ireturn, 1, [], 0)]
def k_M_dayGoes : List (List (Nat × Nat)) := [[], [], [(7, 17), (7, 19), (0, 57), (1, 12), (7, 20)], [], [], [(5, 175)], [], [], [], [], [], [(7, 40), (7, 42), (0, 62), (1, 12), (7, 43)], [(7, 59), (7, 61), (0, 65), (1, 12), (7, 62)], [], [(5, 175)], [], [], [], [], [(5, 143)], [], [], [], [], [], [], [], [], [(5, 172)], [], [], [], [], [], [], [], [], [], [], [], [(5, 172)], [], [], [], [(5, 147)], [], [], [], [], [], [], [(6, 181), (6, 182), (1, 12), (6, 183)], [], [], [], [], [], [], [], [], [], [], [], [], [(7, 120), (7, 122), (0, 72), (1, 12), (7, 123)], []]
def c_M_lessBits : List zE := [(0, .iconst 0, 1, [], 0),
  (1, .istore_n 1, 1, [], 0),
  (2, .iconst 0, 1, [], 0),
  (3, .istore_n 2, 1, [], 0),
  (4, .iload_n 2, 1, [], 0),
  (5, .aload_n 0, 1, [], 0),
  (6, .getfield 156, 3, [11, 3], 0),
  (9, .if_icmp .ge 34, 3, [43], 0),
  (12, .iload_n 1, 1, [], 0),
  (13, .aload_n 0, 1, [], 0),
  (14, .getfield 90, 3, [11, 32, 21, 100, 8], 0),
  (17, .iload_n 2, 1, [], 0),
  (18, .iaload, 1, [], 0),
  (19, .aload_n 0, 1, [], 0),
  (20, .getfield 35, 3, [11, 7, 3, 100, 8], 0),
  (23, .iload_n 2, 1, [], 0),
  (24, .iaload, 1, [], 0),
  (25, .if_icmp .ge 9, 3, [34], 0),
  (28, .iconst 1, 1, [], 1),
  (29, .iload_n 2, 1, [], 0),
  (30, .ishl, 1, [], 0),
  (31, .goto 4, 3, [35], 0),
  (34, .iconst 0, 1, [], 0),
  (35, .ior, 1, [], 0),
  (36, .istore_n 1, 1, [], 0),
  (37, .iinc 2 1, 3, [], 1),
  (40, .goto (-36), 3, [4], 0),
  (43, .iload_n 1, 1, [], 0),
  (44, .ireturn, 1, [], 0)]
def k_M_lessBits : List (List (Nat × Nat)) := [[], [], [], [], [], [], [(5, 143)], [], [], [], [(5, 172)], [], [], [], [(5, 147)], [], [], [], [], [], [], [], [], [], [], [], [], [], []]
def c_M_enters : List zE := [(0, .aload_n 0, 1, [], 0),
  (1, .getfield 11, 3, [11, 2, 1, 101, 24], 0),
  (4, .aload_n 0, 1, [], 0),
  (5, .getfield 15, 3, [11, 1], 0),
  (8, .lload_n 1, 1, [], 0),
  (9, .lastore, 1, [], 0),
  (10, .aload_n 0, 1, [], 0),
  (11, .dup, 1, [], 0),
  (12, .getfield 15, 3, [11, 1], 0),
  (15, .iconst 1, 1, [], 1),
  (16, .iadd, 1, [], 0),
  (17, .putfield 15, 3, [11, 1], 0),
  (20, .return_, 1, [], 0)]
def k_M_enters : List (List (Nat × Nat)) := [[], [(5, 142)], [], [(5, 141)], [], [], [], [], [(5, 141)], [], [], [(5, 141)], []]
def c_M_year : List zE := [(0, .aload_n 0, 1, [], 0),
  (1, .iconst 0, 1, [], 0),
  (2, .putfield 3, 3, [11, 0], 0),
  (5, .aload_n 0, 1, [], 0),
  (6, .bipush 60, 2, [], 60),
  (8, .invokevirtual 227, 3, [153, 1], 0),
  (11, .istore_n 1, 1, [], 0),
  (12, .aload_n 0, 1, [], 0),
  (13, .iconst 0, 1, [], 0),
  (14, .putfield 368, 3, [11, 40], 0),
  (17, .iconst 1, 1, [], 1),
  (18, .istore_n 2, 1, [], 0),
  (19, .iload_n 2, 1, [], 0),
  (20, .ifCond .eq 22, 3, [42], 0),
  (23, .aload_n 0, 1, [], 0),
  (24, .getfield 172, 3, [11, 12], 0),
  (27, .aload_n 0, 1, [], 0),
  (28, .getfield 184, 3, [11, 13], 0),
  (31, .if_icmp .ge 11, 3, [42], 0),
  (34, .aload_n 0, 1, [], 0),
  (35, .invokevirtual 379, 3, [204, 0], 0),
  (38, .istore_n 2, 1, [], 0),
  (39, .goto (-20), 3, [19], 0),
  (42, .aload_n 0, 1, [], 0),
  (43, .iload_n 1, 1, [], 0),
  (44, .bipush 60, 2, [], 60),
  (46, .iload_n 2, 1, [], 0),
  (47, .invokevirtual 237, 3, [160, 3], 0),
  (50, .istore_n 3, 1, [], 0),
  (51, .iload_n 3, 1, [], 0),
  (52, .ifCond .ge 5, 3, [57], 0),
  (55, .iload_n 3, 1, [], 0),
  (56, .ireturn, 1, [], 0),
  (57, .aload_n 0, 1, [], 0),
  (58, .invokevirtual 353, 3, [193, 0], 0),
  (61, .iconst 0, 1, [], 0),
  (62, .istore 4, 2, [], 0),
  (64, .iload 4, 2, [], 0),
  (66, .aload_n 0, 1, [], 0),
  (67, .getfield 368, 3, [11, 40], 0),
  (70, .if_icmp .ge 18, 3, [88], 0),
  (73, .aload_n 0, 1, [], 0),
  (74, .iload 4, 2, [], 0),
  (76, .invokevirtual 382, 3, [205, 1], 0),
  (79, .ifCond .eq 9, 3, [88], 0),
  (82, .iinc 4 1, 3, [], 1),
  (85, .goto (-21), 3, [64], 0),
  (88, .aload_n 0, 1, [], 0),
  (89, .iconst 0, 1, [], 0),
  (90, .putfield 15, 3, [11, 1], 0),
  (93, .aload_n 0, 1, [], 0),
  (94, .iload 4, 2, [], 0),
  (96, .aload_n 0, 1, [], 0),
  (97, .getfield 368, 3, [11, 40], 0),
  (100, .if_icmp .ge 7, 3, [107], 0),
  (103, .iconst 1, 1, [], 1),
  (104, .goto 4, 3, [108], 0),
  (107, .iconst 0, 1, [], 0),
  (108, .invokestatic 187, 3, [1, 158, 1], 0),
  (111, .i2l, 1, [], 0),
  (112, .invokevirtual 18, 3, [202, 1], 0),
  (115, .aload_n 0, 1, [], 0),
  (116, .aload_n 0, 1, [], 0),
  (117, .getfield 38, 3, [11, 8, 4, 100, 81], 0),
  (120, .bipush 64, 2, [], 64),
  (122, .aload_n 0, 1, [], 0),
  (123, .getfield 156, 3, [11, 3], 0),
  (126, .invokestatic 165, 3, [1, 183, 3], 0),
  (129, .i2l, 1, [], 0),
  (130, .invokevirtual 18, 3, [202, 1], 0),
  (133, .iload 4, 2, [], 0),
  (135, .ifCond .le 12, 3, [147], 0),
  (138, .aload_n 0, 1, [], 0),
  (139, .iload 4, 2, [], 0),
  (141, .invokevirtual 356, 3, [194, 1], 0),
  (144, .goto 4, 3, [148], 0),
  (147, .iconst 0, 1, [], 0),
  (148, .ireturn, 1, [], 0)]
def k_M_year : List (List (Nat × Nat)) := [[], [], [(5, 140)], [], [], [(6, 111), (6, 113), (0, 39), (1, 12), (6, 114)], [], [], [], [(5, 180)], [], [], [], [], [], [(5, 152)], [], [(5, 153)], [], [], [(7, 132), (7, 134), (0, 74), (1, 12), (7, 135)], [], [], [], [], [], [], [(6, 189), (6, 191), (0, 45), (1, 12), (6, 192)], [], [], [], [], [], [], [(7, 87), (7, 89), (0, 67), (1, 12), (7, 90)], [], [], [], [], [(5, 180)], [], [], [], [(7, 137), (7, 139), (0, 75), (1, 12), (7, 140)], [], [], [], [], [], [(5, 141)], [], [], [], [(5, 180)], [], [], [], [], [(6, 181), (6, 182), (1, 12), (6, 183)], [], [(7, 124), (7, 126), (0, 73), (1, 12), (7, 127)], [], [], [(5, 148)], [], [], [(5, 143)], [(7, 48), (7, 49), (1, 12), (7, 50)], [], [(7, 124), (7, 126), (0, 73), (1, 12), (7, 127)], [], [], [], [], [(7, 91), (7, 93), (0, 68), (1, 12), (7, 94)], [], [], []]
def c_M_readsAct : List zE := [(0, .aload_n 0, 1, [], 0),
  (1, .getfield 368, 3, [11, 40], 0),
  (4, .istore_n 1, 1, [], 0),
  (5, .aload_n 0, 1, [], 0),
  (6, .getfield 99, 3, [11, 37, 24, 100, 60], 0),
  (9, .iload_n 1, 1, [], 0),
  (10, .aload_n 0, 1, [], 0),
  (11, .ldc_w 371, 3, [6, 4], 0),
  (14, .invokevirtual 215, 3, [157, 1], 0),
  (17, .iastore, 1, [], 0),
  (18, .aload_n 0, 1, [], 0),
  (19, .dup, 1, [], 0),
  (20, .getfield 368, 3, [11, 40], 0),
  (23, .iconst 1, 1, [], 1),
  (24, .iadd, 1, [], 0),
  (25, .putfield 368, 3, [11, 40], 0),
  (28, .aload_n 0, 1, [], 0),
  (29, .getfield 99, 3, [11, 37, 24, 100, 60], 0),
  (32, .iload_n 1, 1, [], 0),
  (33, .iaload, 1, [], 0),
  (34, .ifCond .lt 13, 3, [47], 0),
  (37, .aload_n 0, 1, [], 0),
  (38, .getfield 99, 3, [11, 37, 24, 100, 60], 0),
  (41, .iload_n 1, 1, [], 0),
  (42, .iaload, 1, [], 0),
  (43, .iconst 1, 1, [], 1),
  (44, .if_icmp .le 18, 3, [62], 0),
  (47, .aload_n 0, 1, [], 0),
  (48, .getfield 99, 3, [11, 37, 24, 100, 60], 0),
  (51, .iload_n 1, 1, [], 0),
  (52, .iaload, 1, [], 0),
  (53, .ifCond .lt 7, 3, [60], 0),
  (56, .iconst 1, 1, [], 1),
  (57, .goto 4, 3, [61], 0),
  (60, .iconst 0, 1, [], 0),
  (61, .ireturn, 1, [], 1),
  (62, .aload_n 0, 1, [], 0),
  (63, .getfield 102, 3, [11, 38, 25, 100, 60], 0),
  (66, .iload_n 1, 1, [], 0),
  (67, .aload_n 0, 1, [], 0),
  (68, .iconst 1, 1, [], 1),
  (69, .invokevirtual 251, 3, [164, 1], 0),
  (72, .iastore, 1, [], 0),
  (73, .aload_n 0, 1, [], 0),
  (74, .getfield 105, 3, [11, 39, 26, 100, 60], 0),
  (77, .iload_n 1, 1, [], 0),
  (78, .aload_n 0, 1, [], 0),
  (79, .getfield 102, 3, [11, 38, 25, 100, 60], 0),
  (82, .iload_n 1, 1, [], 0),
  (83, .iaload, 1, [], 0),
  (84, .ifCond .ge 7, 3, [91], 0),
  (87, .iconst (-1), 1, [], (-1)),
  (88, .goto 22, 3, [110], 0),
  (91, .aload_n 0, 1, [], 0),
  (92, .getfield 99, 3, [11, 37, 24, 100, 60], 0),
  (95, .iload_n 1, 1, [], 0),
  (96, .iaload, 1, [], 0),
  (97, .iconst 1, 1, [], 1),
  (98, .if_icmp .ne 11, 3, [109], 0),
  (101, .aload_n 0, 1, [], 0),
  (102, .iconst 1, 1, [], 1),
  (103, .invokevirtual 251, 3, [164, 1], 0),
  (106, .goto 4, 3, [110], 0),
  (109, .iconst 0, 1, [], 0),
  (110, .iastore, 1, [], 0),
  (111, .aload_n 0, 1, [], 0),
  (112, .getfield 105, 3, [11, 39, 26, 100, 60], 0),
  (115, .iload_n 1, 1, [], 0),
  (116, .iaload, 1, [], 0),
  (117, .ifCond .lt 7, 3, [124], 0),
  (120, .iconst 1, 1, [], 1),
  (121, .goto 4, 3, [125], 0),
  (124, .iconst 0, 1, [], 0),
  (125, .ireturn, 1, [], 1)]
def k_M_readsAct : List (List (Nat × Nat)) := [[], [(5, 180)], [], [], [(5, 177)], [], [], [], [(6, 177), (6, 179), (0, 43), (1, 12), (6, 180)], [], [], [], [(5, 180)], [], [], [(5, 180)], [], [(5, 177)], [], [], [], [], [(5, 177)], [], [], [], [], [], [(5, 177)], [], [], [], [], [], [], [], [], [(5, 178)], [], [], [], [(6, 208), (6, 210), (0, 48), (1, 12), (6, 211)], [], [], [(5, 179)], [], [], [(5, 178)], [], [], [], [], [], [], [(5, 177)], [], [], [], [], [], [], [(6, 208), (6, 210), (0, 48), (1, 12), (6, 211)], [], [], [], [], [(5, 179)], [], [], [], [], [], [], []]
def c_M_does : List zE := [(0, .aload_n 0, 1, [], 0),
  (1, .getfield 99, 3, [11, 37, 24, 100, 60], 0),
  (4, .iload_n 1, 1, [], 0),
  (5, .iaload, 1, [], 0),
  (6, .tableswitch 95 0 2 #[26, 55, 86], 26, [101, 32, 61, 92], 0),
  (32, .iconst 0, 1, [], 0),
  (33, .istore_n 2, 1, [], 0),
  (34, .iload_n 2, 1, [], 0),
  (35, .aload_n 0, 1, [], 0),
  (36, .getfield 102, 3, [11, 38, 25, 100, 60], 0),
  (39, .iload_n 1, 1, [], 0),
  (40, .iaload, 1, [], 0),
  (41, .if_icmp .ge 18, 3, [59], 0),
  (44, .aload_n 0, 1, [], 0),
  (45, .aload_n 0, 1, [], 0),
  (46, .getfield 38, 3, [11, 8, 4, 100, 81], 0),
  (49, .invokevirtual 364, 3, [200, 1], 0),
  (52, .pop, 1, [], 0),
  (53, .iinc 2 1, 3, [], 1),
  (56, .goto (-22), 3, [34], 0),
  (59, .iconst 1, 1, [], 1),
  (60, .ireturn, 1, [], 1),
  (61, .aload_n 0, 1, [], 0),
  (62, .aload_n 0, 1, [], 0),
  (63, .getfield 38, 3, [11, 8, 4, 100, 81], 0),
  (66, .aload_n 0, 1, [], 0),
  (67, .getfield 102, 3, [11, 38, 25, 100, 60], 0),
  (70, .iload_n 1, 1, [], 0),
  (71, .iaload, 1, [], 0),
  (72, .aload_n 0, 1, [], 0),
  (73, .getfield 105, 3, [11, 39, 26, 100, 60], 0),
  (76, .iload_n 1, 1, [], 0),
  (77, .iaload, 1, [], 0),
  (78, .invokevirtual 359, 3, [198, 3], 0),
  (81, .bipush (-100), 2, [], (-100)),
  (83, .if_icmp .eq 7, 3, [90], 0),
  (86, .iconst 1, 1, [], 1),
  (87, .goto 4, 3, [91], 0),
  (90, .iconst 0, 1, [], 0),
  (91, .ireturn, 1, [], 1),
  (92, .aload_n 0, 1, [], 0),
  (93, .getfield 38, 3, [11, 8, 4, 100, 81], 0),
  (96, .invokestatic 373, 3, [1, 206, 1], 0),
  (99, .iconst 1, 1, [], 1),
  (100, .ireturn, 1, [], 1),
  (101, .aload_n 0, 1, [], 0),
  (102, .getfield 38, 3, [11, 8, 4, 100, 81], 0),
  (105, .invokestatic 376, 3, [1, 207, 1], 0),
  (108, .iconst 1, 1, [], 1),
  (109, .ireturn, 1, [], 1)]
def k_M_does : List (List (Nat × Nat)) := [[], [(5, 177)], [], [], [], [], [], [], [], [(5, 178)], [], [], [], [], [], [(5, 148)], [(7, 116), (7, 118), (0, 71), (1, 12), (7, 119)], [], [], [], [], [], [], [], [(5, 148)], [], [(5, 178)], [], [], [], [(5, 179)], [], [], [(7, 107), (7, 109), (0, 70), (1, 12), (7, 110)], [], [], [], [], [], [], [], [(5, 148)], [(7, 141), (7, 142), (1, 12), (7, 143)], [], [], [], [(5, 148)], [(7, 144), (7, 145), (1, 12), (7, 146)], [], []]
def c_M_turnsRound : List zE := [(0, .iconst 0, 1, [], 0),
  (1, .istore_n 1, 1, [], 0),
  (2, .iload_n 1, 1, [], 0),
  (3, .iconst 4, 1, [], 4),
  (4, .if_icmp .ge 29, 3, [33], 0),
  (7, .aload_n 0, 1, [], 0),
  (8, .iload_n 1, 1, [], 0),
  (9, .iaload, 1, [], 0),
  (10, .istore_n 2, 1, [], 0),
  (11, .aload_n 0, 1, [], 0),
  (12, .iload_n 1, 1, [], 0),
  (13, .aload_n 0, 1, [], 0),
  (14, .bipush 7, 2, [], 7),
  (16, .iload_n 1, 1, [], 0),
  (17, .isub, 1, [], 0),
  (18, .iaload, 1, [], 0),
  (19, .iastore, 1, [], 0),
  (20, .aload_n 0, 1, [], 0),
  (21, .bipush 7, 2, [], 7),
  (23, .iload_n 1, 1, [], 0),
  (24, .isub, 1, [], 0),
  (25, .iload_n 2, 1, [], 0),
  (26, .iastore, 1, [], 0),
  (27, .iinc 1 1, 3, [], 1),
  (30, .goto (-28), 3, [2], 0),
  (33, .return_, 1, [], 0)]
def k_M_turnsRound : List (List (Nat × Nat)) := [[], [], [], [], [], [], [], [], [], [], [], [], [], [], [], [], [], [], [], [], [], [], [], [], [], []]
def c_M_goesRound : List zE := [(0, .aload_n 0, 1, [], 0),
  (1, .iconst 0, 1, [], 0),
  (2, .iaload, 1, [], 0),
  (3, .istore_n 1, 1, [], 0),
  (4, .iconst 0, 1, [], 0),
  (5, .istore_n 2, 1, [], 0),
  (6, .iload_n 2, 1, [], 0),
  (7, .bipush 7, 2, [], 7),
  (9, .if_icmp .ge 17, 3, [26], 0),
  (12, .aload_n 0, 1, [], 0),
  (13, .iload_n 2, 1, [], 0),
  (14, .aload_n 0, 1, [], 0),
  (15, .iload_n 2, 1, [], 0),
  (16, .iconst 1, 1, [], 1),
  (17, .iadd, 1, [], 0),
  (18, .iaload, 1, [], 0),
  (19, .iastore, 1, [], 0),
  (20, .iinc 2 1, 3, [], 1),
  (23, .goto (-17), 3, [6], 0),
  (26, .aload_n 0, 1, [], 0),
  (27, .bipush 7, 2, [], 7),
  (29, .iload_n 1, 1, [], 0),
  (30, .iastore, 1, [], 0),
  (31, .return_, 1, [], 0)]
def k_M_goesRound : List (List (Nat × Nat)) := [[], [], [], [], [], [], [], [], [], [], [], [], [], [], [], [], [], [], [], [], [], [], [], []]
def c_M_book : List zE := [(0, .aload_n 0, 1, [], 0),
  (1, .iconst 0, 1, [], 0),
  (2, .putfield 3, 3, [11, 0], 0),
  (5, .aload_n 0, 1, [], 0),
  (6, .aload_n 0, 1, [], 0),
  (7, .getfield 38, 3, [11, 8, 4, 100, 81], 0),
  (10, .invokevirtual 315, 3, [175, 1], 0),
  (13, .aload_n 0, 1, [], 0),
  (14, .iconst 0, 1, [], 0),
  (15, .putfield 15, 3, [11, 1], 0),
  (18, .iconst 0, 1, [], 0),
  (19, .istore_n 1, 1, [], 0),
  (20, .iload_n 1, 1, [], 0),
  (21, .aload_n 0, 1, [], 0),
  (22, .getfield 156, 3, [11, 3], 0),
  (25, .if_icmp .ge 20, 3, [45], 0),
  (28, .aload_n 0, 1, [], 0),
  (29, .aload_n 0, 1, [], 0),
  (30, .getfield 87, 3, [11, 31, 20, 100, 8], 0),
  (33, .iload_n 1, 1, [], 0),
  (34, .iaload, 1, [], 0),
  (35, .i2l, 1, [], 0),
  (36, .invokevirtual 18, 3, [202, 1], 0),
  (39, .iinc 1 1, 3, [], 1),
  (42, .goto (-22), 3, [20], 0),
  (45, .aload_n 0, 1, [], 0),
  (46, .getfield 156, 3, [11, 3], 0),
  (49, .ireturn, 1, [], 0)]
def k_M_book : List (List (Nat × Nat)) := [[], [], [(5, 140)], [], [], [(5, 148)], [(7, 17), (7, 19), (0, 57), (1, 12), (7, 20)], [], [], [(5, 141)], [], [], [], [], [(5, 143)], [], [], [], [(5, 171)], [], [], [], [(7, 124), (7, 126), (0, 73), (1, 12), (7, 127)], [], [], [], [(5, 143)], []]
def c_M_yields : List zE := [(0, .aload_n 0, 1, [], 0),
  (1, .iconst 0, 1, [], 0),
  (2, .putfield 3, 3, [11, 0], 0),
  (5, .iload_n 1, 1, [], 0),
  (6, .i2l, 1, [], 0),
  (7, .lconst 0, 1, [], 0),
  (8, .ldc2_w 385, 3, [], 99),
  (11, .invokestatic 159, 3, [1, 151, 3], 0),
  (14, .ifCond .ne 5, 3, [19], 0),
  (17, .iconst (-1), 1, [], (-1)),
  (18, .ireturn, 1, [], 0),
  (19, .aload_n 0, 1, [], 0),
  (20, .aload_n 0, 1, [], 0),
  (21, .getfield 38, 3, [11, 8, 4, 100, 81], 0),
  (24, .bipush 80, 2, [], 80),
  (26, .iaload, 1, [], 0),
  (27, .iload_n 1, 1, [], 0),
  (28, .iadd, 1, [], 0),
  (29, .invokevirtual 318, 3, [181, 1], 0),
  (32, .istore_n 2, 1, [], 0),
  (33, .aload_n 0, 1, [], 0),
  (34, .aload_n 0, 1, [], 0),
  (35, .getfield 38, 3, [11, 8, 4, 100, 81], 0),
  (38, .invokevirtual 315, 3, [175, 1], 0),
  (41, .aload_n 0, 1, [], 0),
  (42, .iload_n 2, 1, [], 0),
  (43, .invokevirtual 321, 3, [186, 1], 0),
  (46, .istore_n 3, 1, [], 0),
  (47, .aload_n 0, 1, [], 0),
  (48, .iconst 0, 1, [], 0),
  (49, .putfield 15, 3, [11, 1], 0),
  (52, .aload_n 0, 1, [], 0),
  (53, .aload_n 0, 1, [], 0),
  (54, .getfield 156, 3, [11, 3], 0),
  (57, .aload_n 0, 1, [], 0),
  (58, .invokevirtual 387, 3, [210, 0], 0),
  (61, .isub, 1, [], 0),
  (62, .i2l, 1, [], 0),
  (63, .invokevirtual 18, 3, [202, 1], 0),
  (66, .aload_n 0, 1, [], 0),
  (67, .iload_n 3, 1, [], 0),
  (68, .i2l, 1, [], 0),
  (69, .invokevirtual 18, 3, [202, 1], 0),
  (72, .iload_n 2, 1, [], 0),
  (73, .ireturn, 1, [], 0)]
def k_M_yields : List (List (Nat × Nat)) := [[], [], [(5, 140)], [], [], [], [(7, 155)], [(6, 104), (6, 105), (1, 12), (6, 106)], [], [], [], [], [], [(5, 148)], [], [], [], [], [(7, 40), (7, 42), (0, 62), (1, 12), (7, 43)], [], [], [], [(5, 148)], [(7, 17), (7, 19), (0, 57), (1, 12), (7, 20)], [], [], [(7, 59), (7, 61), (0, 65), (1, 12), (7, 62)], [], [], [], [(5, 141)], [], [], [(5, 143)], [], [(7, 156), (7, 158), (0, 76), (1, 12), (7, 159)], [], [], [(7, 124), (7, 126), (0, 73), (1, 12), (7, 127)], [], [], [], [(7, 124), (7, 126), (0, 73), (1, 12), (7, 127)], [], []]
def c_M_lessMany : List zE := [(0, .iconst 0, 1, [], 0),
  (1, .istore_n 1, 1, [], 0),
  (2, .iconst 0, 1, [], 0),
  (3, .istore_n 2, 1, [], 0),
  (4, .iload_n 2, 1, [], 0),
  (5, .aload_n 0, 1, [], 0),
  (6, .getfield 156, 3, [11, 3], 0),
  (9, .if_icmp .ge 35, 3, [44], 0),
  (12, .iload_n 1, 1, [], 0),
  (13, .aload_n 0, 1, [], 0),
  (14, .getfield 90, 3, [11, 32, 21, 100, 8], 0),
  (17, .iload_n 2, 1, [], 0),
  (18, .iaload, 1, [], 0),
  (19, .aload_n 0, 1, [], 0),
  (20, .getfield 35, 3, [11, 7, 3, 100, 8], 0),
  (23, .iload_n 2, 1, [], 0),
  (24, .iaload, 1, [], 0),
  (25, .if_icmp .ge 7, 3, [32], 0),
  (28, .iconst 1, 1, [], 1),
  (29, .goto 4, 3, [33], 0),
  (32, .iconst 0, 1, [], 0),
  (33, .invokestatic 187, 3, [1, 158, 1], 0),
  (36, .iadd, 1, [], 0),
  (37, .istore_n 1, 1, [], 0),
  (38, .iinc 2 1, 3, [], 1),
  (41, .goto (-37), 3, [4], 0),
  (44, .iload_n 1, 1, [], 0),
  (45, .ireturn, 1, [], 0)]
def k_M_lessMany : List (List (Nat × Nat)) := [[], [], [], [], [], [], [(5, 143)], [], [], [], [(5, 172)], [], [], [], [(5, 147)], [], [], [], [], [], [], [(6, 181), (6, 182), (1, 12), (6, 183)], [], [], [], [], [], []]
def c_M_stops : List zE := [(0, .aload_n 0, 1, [], 0),
  (1, .iconst 0, 1, [], 0),
  (2, .putfield 3, 3, [11, 0], 0),
  (5, .aload_n 0, 1, [], 0),
  (6, .invokevirtual 332, 3, [174, 0], 0),
  (9, .iconst 0, 1, [], 0),
  (10, .istore_n 1, 1, [], 0),
  (11, .iload_n 1, 1, [], 0),
  (12, .aload_n 0, 1, [], 0),
  (13, .getfield 156, 3, [11, 3], 0),
  (16, .if_icmp .ge 63, 3, [79], 0),
  (19, .aload_n 0, 1, [], 0),
  (20, .getfield 87, 3, [11, 31, 20, 100, 8], 0),
  (23, .iload_n 1, 1, [], 0),
  (24, .iaload, 1, [], 0),
  (25, .istore_n 2, 1, [], 0),
  (26, .aload_n 0, 1, [], 0),
  (27, .getfield 90, 3, [11, 32, 21, 100, 8], 0),
  (30, .iload_n 2, 1, [], 0),
  (31, .iaload, 1, [], 0),
  (32, .aload_n 0, 1, [], 0),
  (33, .getfield 35, 3, [11, 7, 3, 100, 8], 0),
  (36, .iload_n 2, 1, [], 0),
  (37, .iaload, 1, [], 0),
  (38, .if_icmp .ge 35, 3, [73], 0),
  (41, .aload_n 0, 1, [], 0),
  (42, .iconst 0, 1, [], 0),
  (43, .putfield 15, 3, [11, 1], 0),
  (46, .aload_n 0, 1, [], 0),
  (47, .aload_n 0, 1, [], 0),
  (48, .getfield 38, 3, [11, 8, 4, 100, 81], 0),
  (51, .iload_n 2, 1, [], 0),
  (52, .iconst 0, 1, [], 0),
  (53, .invokestatic 298, 3, [1, 177, 3], 0),
  (56, .i2l, 1, [], 0),
  (57, .invokevirtual 18, 3, [202, 1], 0),
  (60, .aload_n 0, 1, [], 0),
  (61, .aload_n 0, 1, [], 0),
  (62, .getfield 90, 3, [11, 32, 21, 100, 8], 0),
  (65, .iload_n 2, 1, [], 0),
  (66, .iaload, 1, [], 0),
  (67, .i2l, 1, [], 0),
  (68, .invokevirtual 18, 3, [202, 1], 0),
  (71, .iload_n 2, 1, [], 0),
  (72, .ireturn, 1, [], 0),
  (73, .iinc 1 1, 3, [], 1),
  (76, .goto (-65), 3, [11], 0),
  (79, .bipush (-2), 2, [], (-2)),
  (81, .ireturn, 1, [], 0)]
def k_M_stops : List (List (Nat × Nat)) := [[], [], [(5, 140)], [], [(7, 13), (7, 15), (0, 56), (1, 12), (7, 16)], [], [], [], [], [(5, 143)], [], [], [(5, 171)], [], [], [], [], [(5, 172)], [], [], [], [(5, 147)], [], [], [], [], [], [(5, 141)], [], [], [(5, 148)], [], [], [(7, 25), (7, 26), (1, 12), (7, 27)], [], [(7, 124), (7, 126), (0, 73), (1, 12), (7, 127)], [], [], [(5, 172)], [], [], [], [(7, 124), (7, 126), (0, 73), (1, 12), (7, 127)], [], [], [], [], [], []]
def c_M_dry : List zE := [(0, .aload_n 0, 1, [], 0),
  (1, .iconst 0, 1, [], 0),
  (2, .putfield 3, 3, [11, 0], 0),
  (5, .aload_n 0, 1, [], 0),
  (6, .iload_n 1, 1, [], 0),
  (7, .invokevirtual 324, 3, [172, 1], 0),
  (10, .ifCond .eq 15, 3, [25], 0),
  (13, .iload_n 2, 1, [], 0),
  (14, .i2l, 1, [], 0),
  (15, .lconst 0, 1, [], 0),
  (16, .ldc2_w 362, 3, [], 60),
  (19, .invokestatic 159, 3, [1, 151, 3], 0),
  (22, .ifCond .ne 5, 3, [27], 0),
  (25, .iconst (-1), 1, [], (-1)),
  (26, .ireturn, 1, [], 0),
  (27, .aload_n 0, 1, [], 0),
  (28, .invokevirtual 390, 3, [213, 0], 0),
  (31, .iconst 0, 1, [], 0),
  (32, .istore_n 3, 1, [], 0),
  (33, .iload_n 3, 1, [], 0),
  (34, .iload_n 2, 1, [], 0),
  (35, .if_icmp .ge 18, 3, [53], 0),
  (38, .aload_n 0, 1, [], 0),
  (39, .aload_n 0, 1, [], 0),
  (40, .getfield 41, 3, [11, 9, 5, 100, 81], 0),
  (43, .invokevirtual 364, 3, [200, 1], 0),
  (46, .pop, 1, [], 0),
  (47, .iinc 3 1, 3, [], 1),
  (50, .goto (-17), 3, [33], 0),
  (53, .aload_n 0, 1, [], 0),
  (54, .iconst 0, 1, [], 0),
  (55, .putfield 15, 3, [11, 1], 0),
  (58, .aload_n 0, 1, [], 0),
  (59, .aload_n 0, 1, [], 0),
  (60, .getfield 41, 3, [11, 9, 5, 100, 81], 0),
  (63, .bipush 72, 2, [], 72),
  (65, .iload_n 1, 1, [], 0),
  (66, .iadd, 1, [], 0),
  (67, .iaload, 1, [], 0),
  (68, .aload_n 0, 1, [], 0),
  (69, .getfield 38, 3, [11, 8, 4, 100, 81], 0),
  (72, .bipush 72, 2, [], 72),
  (74, .iload_n 1, 1, [], 0),
  (75, .iadd, 1, [], 0),
  (76, .iaload, 1, [], 0),
  (77, .isub, 1, [], 0),
  (78, .i2l, 1, [], 0),
  (79, .invokevirtual 18, 3, [202, 1], 0),
  (82, .aload_n 0, 1, [], 0),
  (83, .getfield 41, 3, [11, 9, 5, 100, 81], 0),
  (86, .bipush 64, 2, [], 64),
  (88, .iload_n 1, 1, [], 0),
  (89, .iadd, 1, [], 0),
  (90, .iaload, 1, [], 0),
  (91, .aload_n 0, 1, [], 0),
  (92, .getfield 38, 3, [11, 8, 4, 100, 81], 0),
  (95, .bipush 64, 2, [], 64),
  (97, .iload_n 1, 1, [], 0),
  (98, .iadd, 1, [], 0),
  (99, .iaload, 1, [], 0),
  (100, .isub, 1, [], 0),
  (101, .ireturn, 1, [], 0)]
def k_M_dry : List (List (Nat × Nat)) := [[], [], [(5, 140)], [], [], [(7, 4), (7, 6), (0, 54), (1, 12), (7, 7)], [], [], [], [], [(7, 115)], [(6, 104), (6, 105), (1, 12), (6, 106)], [], [], [], [], [(7, 168), (7, 170), (0, 77), (1, 12), (7, 171)], [], [], [], [], [], [], [], [(5, 149)], [(7, 116), (7, 118), (0, 71), (1, 12), (7, 119)], [], [], [], [], [], [(5, 141)], [], [], [(5, 149)], [], [], [], [], [], [(5, 148)], [], [], [], [], [], [], [(7, 124), (7, 126), (0, 73), (1, 12), (7, 127)], [], [(5, 149)], [], [], [], [], [], [(5, 148)], [], [], [], [], [], []]
def c_M_puts : List zE := [(0, .iconst 0, 1, [], 0),
  (1, .istore_n 1, 1, [], 0),
  (2, .iload_n 1, 1, [], 0),
  (3, .bipush 81, 2, [], 81),
  (5, .if_icmp .ge 21, 3, [26], 0),
  (8, .aload_n 0, 1, [], 0),
  (9, .getfield 41, 3, [11, 9, 5, 100, 81], 0),
  (12, .iload_n 1, 1, [], 0),
  (13, .aload_n 0, 1, [], 0),
  (14, .getfield 38, 3, [11, 8, 4, 100, 81], 0),
  (17, .iload_n 1, 1, [], 0),
  (18, .iaload, 1, [], 0),
  (19, .iastore, 1, [], 0),
  (20, .iinc 1 1, 3, [], 1),
  (23, .goto (-21), 3, [2], 0),
  (26, .return_, 1, [], 0)]
def k_M_puts : List (List (Nat × Nat)) := [[], [], [], [], [], [], [(5, 149)], [], [], [(5, 148)], [], [], [], [], [], []]
def c_M_waits : List zE := [(0, .aload_n 0, 1, [], 0),
  (1, .iconst 0, 1, [], 0),
  (2, .putfield 3, 3, [11, 0], 0),
  (5, .aload_n 0, 1, [], 0),
  (6, .invokevirtual 332, 3, [174, 0], 0),
  (9, .iconst 0, 1, [], 0),
  (10, .istore_n 1, 1, [], 0),
  (11, .iconst 0, 1, [], 0),
  (12, .istore_n 2, 1, [], 0),
  (13, .iconst 0, 1, [], 0),
  (14, .istore_n 3, 1, [], 0),
  (15, .iconst 0, 1, [], 0),
  (16, .istore 4, 2, [], 0),
  (18, .iload 4, 2, [], 0),
  (20, .aload_n 0, 1, [], 0),
  (21, .getfield 156, 3, [11, 3], 0),
  (24, .if_icmp .ge 52, 3, [76], 0),
  (27, .aload_n 0, 1, [], 0),
  (28, .getfield 90, 3, [11, 32, 21, 100, 8], 0),
  (31, .aload_n 0, 1, [], 0),
  (32, .getfield 87, 3, [11, 31, 20, 100, 8], 0),
  (35, .iload 4, 2, [], 0),
  (37, .iaload, 1, [], 0),
  (38, .iaload, 1, [], 0),
  (39, .istore 5, 2, [], 0),
  (41, .iload 5, 2, [], 0),
  (43, .ifCond .le 7, 3, [50], 0),
  (46, .iload_n 2, 1, [], 0),
  (47, .goto 4, 3, [51], 0),
  (50, .iload_n 3, 1, [], 0),
  (51, .istore_n 3, 1, [], 0),
  (52, .iload_n 1, 1, [], 0),
  (53, .iload 5, 2, [], 0),
  (55, .ifCond .le 7, 3, [62], 0),
  (58, .iload_n 2, 1, [], 0),
  (59, .goto 4, 3, [63], 0),
  (62, .iconst 0, 1, [], 0),
  (63, .iadd, 1, [], 0),
  (64, .istore_n 1, 1, [], 0),
  (65, .iload_n 2, 1, [], 0),
  (66, .iload 5, 2, [], 0),
  (68, .iadd, 1, [], 0),
  (69, .istore_n 2, 1, [], 0),
  (70, .iinc 4 1, 3, [], 1),
  (73, .goto (-55), 3, [18], 0),
  (76, .iconst 0, 1, [], 0),
  (77, .istore 4, 2, [], 0),
  (79, .iconst 0, 1, [], 0),
  (80, .istore 5, 2, [], 0),
  (82, .iconst 1, 1, [], 1),
  (83, .istore 6, 2, [], 0),
  (85, .iload 6, 2, [], 0),
  (87, .bipush 9, 2, [], 9),
  (89, .if_icmp .gt 73, 3, [162], 0),
  (92, .iconst 0, 1, [], 0),
  (93, .istore 7, 2, [], 0),
  (95, .iload 7, 2, [], 0),
  (97, .aload_n 0, 1, [], 0),
  (98, .getfield 156, 3, [11, 3], 0),
  (101, .if_icmp .ge 55, 3, [156], 0),
  (104, .iload 4, 2, [], 0),
  (106, .aload_n 0, 1, [], 0),
  (107, .getfield 90, 3, [11, 32, 21, 100, 8], 0),
  (110, .iload 7, 2, [], 0),
  (112, .iaload, 1, [], 0),
  (113, .iload 6, 2, [], 0),
  (115, .if_icmp .ne 8, 3, [123], 0),
  (118, .iload 5, 2, [], 0),
  (120, .goto 4, 3, [124], 0),
  (123, .iconst 0, 1, [], 0),
  (124, .iadd, 1, [], 0),
  (125, .istore 4, 2, [], 0),
  (127, .iload 5, 2, [], 0),
  (129, .aload_n 0, 1, [], 0),
  (130, .getfield 90, 3, [11, 32, 21, 100, 8], 0),
  (133, .iload 7, 2, [], 0),
  (135, .iaload, 1, [], 0),
  (136, .iload 6, 2, [], 0),
  (138, .if_icmp .ne 8, 3, [146], 0),
  (141, .iload 6, 2, [], 0),
  (143, .goto 4, 3, [147], 0),
  (146, .iconst 0, 1, [], 0),
  (147, .iadd, 1, [], 0),
  (148, .istore 5, 2, [], 0),
  (150, .iinc 7 1, 3, [], 1),
  (153, .goto (-58), 3, [95], 0),
  (156, .iinc 6 1, 3, [], 1),
  (159, .goto (-74), 3, [85], 0),
  (162, .aload_n 0, 1, [], 0),
  (163, .iconst 0, 1, [], 0),
  (164, .putfield 15, 3, [11, 1], 0),
  (167, .aload_n 0, 1, [], 0),
  (168, .iload 4, 2, [], 0),
  (170, .i2l, 1, [], 0),
  (171, .invokevirtual 18, 3, [202, 1], 0),
  (174, .aload_n 0, 1, [], 0),
  (175, .iload_n 3, 1, [], 0),
  (176, .i2l, 1, [], 0),
  (177, .invokevirtual 18, 3, [202, 1], 0),
  (180, .iload_n 1, 1, [], 0),
  (181, .ireturn, 1, [], 0)]
def k_M_waits : List (List (Nat × Nat)) := [[], [], [(5, 140)], [], [(7, 13), (7, 15), (0, 56), (1, 12), (7, 16)], [], [], [], [], [], [], [], [], [], [], [(5, 143)], [], [], [(5, 172)], [], [(5, 171)], [], [], [], [], [], [], [], [], [], [], [], [], [], [], [], [], [], [], [], [], [], [], [], [], [], [], [], [], [], [], [], [], [], [], [], [], [], [(5, 143)], [], [], [], [(5, 172)], [], [], [], [], [], [], [], [], [], [], [], [(5, 172)], [], [], [], [], [], [], [], [], [], [], [], [], [], [], [], [(5, 141)], [], [], [], [(7, 124), (7, 126), (0, 73), (1, 12), (7, 127)], [], [], [], [(7, 124), (7, 126), (0, 73), (1, 12), (7, 127)], [], []]
def c_M_fewest : List zE := [(0, .aload_n 0, 1, [], 0),
  (1, .iconst 0, 1, [], 0),
  (2, .putfield 3, 3, [11, 0], 0),
  (5, .aload_n 0, 1, [], 0),
  (6, .aload_n 0, 1, [], 0),
  (7, .getfield 38, 3, [11, 8, 4, 100, 81], 0),
  (10, .invokevirtual 305, 3, [176, 1], 0),
  (13, .aload_n 0, 1, [], 0),
  (14, .aload_n 0, 1, [], 0),
  (15, .aload_n 0, 1, [], 0),
  (16, .getfield 38, 3, [11, 8, 4, 100, 81], 0),
  (19, .bipush 80, 2, [], 80),
  (21, .iaload, 1, [], 0),
  (22, .invokevirtual 318, 3, [181, 1], 0),
  (25, .putfield 396, 3, [11, 45], 0),
  (28, .aload_n 0, 1, [], 0),
  (29, .ldc_w 417, 3, [], 1000000),
  (32, .putfield 393, 3, [11, 43], 0),
  (35, .aload_n 0, 1, [], 0),
  (36, .iconst 0, 1, [], 0),
  (37, .iconst 0, 1, [], 0),
  (38, .iconst 0, 1, [], 0),
  (39, .invokevirtual 414, 3, [216, 3], 0),
  (42, .aload_n 0, 1, [], 0),
  (43, .aload_n 0, 1, [], 0),
  (44, .getfield 393, 3, [11, 43], 0),
  (47, .invokevirtual 418, 3, [220, 1], 0),
  (50, .ireturn, 1, [], 0)]
def k_M_fewest : List (List (Nat × Nat)) := [[], [], [(5, 140)], [], [], [(5, 148)], [(7, 21), (7, 23), (0, 58), (1, 12), (7, 24)], [], [], [], [(5, 148)], [], [], [(7, 40), (7, 42), (0, 62), (1, 12), (7, 43)], [(5, 185)], [], [(7, 180)], [(5, 183)], [], [], [], [], [(7, 181), (7, 183), (0, 78), (1, 12), (7, 184)], [], [], [(5, 183)], [(7, 197), (7, 199), (0, 82), (1, 12), (7, 200)], []]
def c_M_goesThrough : List zE := [(0, .iload_n 1, 1, [], 0),
  (1, .bipush 8, 2, [], 8),
  (3, .if_icmp .ne 9, 3, [12], 0),
  (6, .aload_n 0, 1, [], 0),
  (7, .iload_n 3, 1, [], 0),
  (8, .invokevirtual 411, 3, [217, 1], 0),
  (11, .return_, 1, [], 0),
  (12, .iconst 0, 1, [], 0),
  (13, .istore 4, 2, [], 0),
  (15, .iload 4, 2, [], 0),
  (17, .bipush 8, 2, [], 8),
  (19, .if_icmp .ge 48, 3, [67], 0),
  (22, .iload_n 2, 1, [], 0),
  (23, .iload 4, 2, [], 0),
  (25, .invokestatic 347, 3, [1, 192, 2], 0),
  (28, .ifCond .ne 33, 3, [61], 0),
  (31, .aload_n 0, 1, [], 0),
  (32, .getfield 108, 3, [11, 41, 27, 100, 8], 0),
  (35, .iload_n 1, 1, [], 0),
  (36, .iload 4, 2, [], 0),
  (38, .iastore, 1, [], 0),
  (39, .aload_n 0, 1, [], 0),
  (40, .getfield 81, 3, [11, 29, 18, 100, 8], 0),
  (43, .iload 4, 2, [], 0),
  (45, .iload_n 1, 1, [], 0),
  (46, .iastore, 1, [], 0),
  (47, .aload_n 0, 1, [], 0),
  (48, .iload_n 1, 1, [], 0),
  (49, .iconst 1, 1, [], 1),
  (50, .iadd, 1, [], 0),
  (51, .iload_n 2, 1, [], 0),
  (52, .iconst 1, 1, [], 1),
  (53, .iload 4, 2, [], 0),
  (55, .ishl, 1, [], 0),
  (56, .ior, 1, [], 0),
  (57, .iload_n 3, 1, [], 0),
  (58, .invokevirtual 414, 3, [216, 3], 0),
  (61, .iinc 4 1, 3, [], 1),
  (64, .goto (-49), 3, [15], 0),
  (67, .return_, 1, [], 0)]
def k_M_goesThrough : List (List (Nat × Nat)) := [[], [], [], [], [], [(7, 185), (7, 187), (0, 79), (1, 12), (7, 188)], [], [], [], [], [], [], [], [], [(7, 84), (7, 85), (1, 12), (7, 86)], [], [], [(5, 181)], [], [], [], [], [(5, 169)], [], [], [], [], [], [], [], [], [], [], [], [], [], [(7, 181), (7, 183), (0, 78), (1, 12), (7, 184)], [], [], []]
def c_M_looksAt : List zE := [(0, .iload_n 1, 1, [], 0),
  (1, .ifCond .ne 38, 3, [39], 0),
  (4, .aload_n 0, 1, [], 0),
  (5, .invokevirtual 312, 3, [179, 0], 0),
  (8, .aload_n 0, 1, [], 0),
  (9, .aload_n 0, 1, [], 0),
  (10, .getfield 396, 3, [11, 45], 0),
  (13, .invokevirtual 321, 3, [186, 1], 0),
  (16, .pop, 1, [], 0),
  (17, .aload_n 0, 1, [], 0),
  (18, .invokevirtual 387, 3, [210, 0], 0),
  (21, .aload_n 0, 1, [], 0),
  (22, .getfield 393, 3, [11, 43], 0),
  (25, .if_icmp .ge 165, 3, [190], 0),
  (28, .aload_n 0, 1, [], 0),
  (29, .aload_n 0, 1, [], 0),
  (30, .invokevirtual 387, 3, [210, 0], 0),
  (33, .invokevirtual 399, 3, [218, 1], 0),
  (36, .goto 154, 3, [190], 0),
  (39, .iload_n 1, 1, [], 0),
  (40, .iconst 1, 1, [], 1),
  (41, .if_icmp .ne 68, 3, [109], 0),
  (44, .iconst 0, 1, [], 0),
  (45, .istore_n 2, 1, [], 0),
  (46, .iconst 0, 1, [], 0),
  (47, .istore_n 3, 1, [], 0),
  (48, .iload_n 3, 1, [], 0),
  (49, .aload_n 0, 1, [], 0),
  (50, .getfield 156, 3, [11, 3], 0),
  (53, .if_icmp .ge 40, 3, [93], 0),
  (56, .iload_n 2, 1, [], 0),
  (57, .iload_n 3, 1, [], 0),
  (58, .aload_n 0, 1, [], 0),
  (59, .getfield 402, 3, [11, 44], 0),
  (62, .if_icmp .eq 19, 3, [81], 0),
  (65, .aload_n 0, 1, [], 0),
  (66, .iload_n 3, 1, [], 0),
  (67, .aload_n 0, 1, [], 0),
  (68, .getfield 402, 3, [11, 44], 0),
  (71, .invokevirtual 301, 3, [180, 2], 0),
  (74, .ifCond .eq 7, 3, [81], 0),
  (77, .iconst 1, 1, [], 1),
  (78, .goto 4, 3, [82], 0),
  (81, .iconst 0, 1, [], 0),
  (82, .invokestatic 187, 3, [1, 158, 1], 0),
  (85, .iadd, 1, [], 0),
  (86, .istore_n 2, 1, [], 0),
  (87, .iinc 3 1, 3, [], 1),
  (90, .goto (-42), 3, [48], 0),
  (93, .iload_n 2, 1, [], 0),
  (94, .aload_n 0, 1, [], 0),
  (95, .getfield 393, 3, [11, 43], 0),
  (98, .if_icmp .ge 8, 3, [106], 0),
  (101, .aload_n 0, 1, [], 0),
  (102, .iload_n 2, 1, [], 0),
  (103, .invokevirtual 399, 3, [218, 1], 0),
  (106, .goto 84, 3, [190], 0),
  (109, .aload_n 0, 1, [], 0),
  (110, .invokevirtual 405, 3, [219, 0], 0),
  (113, .ifCond .eq 77, 3, [190], 0),
  (116, .aload_n 0, 1, [], 0),
  (117, .getfield 408, 3, [11, 46], 0),
  (120, .ifCond .ne 8, 3, [128], 0),
  (123, .aload_n 0, 1, [], 0),
  (124, .iconst 0, 1, [], 0),
  (125, .invokevirtual 399, 3, [218, 1], 0),
  (128, .aload_n 0, 1, [], 0),
  (129, .dup, 1, [], 0),
  (130, .getfield 408, 3, [11, 46], 0),
  (133, .iconst 1, 1, [], 1),
  (134, .iadd, 1, [], 0),
  (135, .putfield 408, 3, [11, 46], 0),
  (138, .iconst 0, 1, [], 0),
  (139, .istore_n 2, 1, [], 0),
  (140, .iload_n 2, 1, [], 0),
  (141, .bipush 64, 2, [], 64),
  (143, .if_icmp .ge 47, 3, [190], 0),
  (146, .aload_n 0, 1, [], 0),
  (147, .getfield 114, 3, [11, 47, 29, 100, 64], 0),
  (150, .iload_n 2, 1, [], 0),
  (151, .dup2, 1, [], 0),
  (152, .iaload, 1, [], 0),
  (153, .aload_n 0, 1, [], 0),
  (154, .getfield 81, 3, [11, 29, 18, 100, 8], 0),
  (157, .iload_n 2, 1, [], 0),
  (158, .bipush 8, 2, [], 8),
  (160, .idiv, 1, [], 0),
  (161, .iaload, 1, [], 0),
  (162, .aload_n 0, 1, [], 0),
  (163, .getfield 81, 3, [11, 29, 18, 100, 8], 0),
  (166, .iload_n 2, 1, [], 0),
  (167, .bipush 8, 2, [], 8),
  (169, .irem, 1, [], 0),
  (170, .iaload, 1, [], 0),
  (171, .if_icmp .ge 7, 3, [178], 0),
  (174, .iconst 1, 1, [], 1),
  (175, .goto 4, 3, [179], 0),
  (178, .iconst 0, 1, [], 0),
  (179, .invokestatic 187, 3, [1, 158, 1], 0),
  (182, .iadd, 1, [], 0),
  (183, .iastore, 1, [], 0),
  (184, .iinc 2 1, 3, [], 1),
  (187, .goto (-47), 3, [140], 0),
  (190, .return_, 1, [], 0)]
def k_M_looksAt : List (List (Nat × Nat)) := [[], [], [], [(7, 32), (7, 34), (0, 60), (1, 12), (7, 35)], [], [], [(5, 185)], [(7, 59), (7, 61), (0, 65), (1, 12), (7, 62)], [], [], [(7, 156), (7, 158), (0, 76), (1, 12), (7, 159)], [], [(5, 183)], [], [], [], [(7, 156), (7, 158), (0, 76), (1, 12), (7, 159)], [(7, 189), (7, 191), (0, 80), (1, 12), (7, 192)], [], [], [], [], [], [], [], [], [], [], [(5, 143)], [], [], [], [], [(5, 184)], [], [], [], [], [(5, 184)], [(7, 36), (7, 38), (0, 61), (1, 12), (7, 39)], [], [], [], [], [(6, 181), (6, 182), (1, 12), (6, 183)], [], [], [], [], [], [], [(5, 183)], [], [], [], [(7, 189), (7, 191), (0, 80), (1, 12), (7, 192)], [], [], [(7, 193), (7, 195), (0, 81), (1, 12), (7, 196)], [], [], [(5, 186)], [], [], [], [(7, 189), (7, 191), (0, 80), (1, 12), (7, 192)], [], [], [(5, 186)], [], [], [(5, 186)], [], [], [], [], [], [], [(5, 187)], [], [], [], [], [(5, 169)], [], [], [], [], [], [(5, 169)], [], [], [], [], [], [], [], [], [(6, 181), (6, 182), (1, 12), (6, 183)], [], [], [], [], []]
def c_M_keepsTurn : List zE := [(0, .aload_n 0, 1, [], 0),
  (1, .iload_n 1, 1, [], 0),
  (2, .putfield 393, 3, [11, 43], 0),
  (5, .iconst 0, 1, [], 0),
  (6, .istore_n 2, 1, [], 0),
  (7, .iload_n 2, 1, [], 0),
  (8, .bipush 8, 2, [], 8),
  (10, .if_icmp .ge 21, 3, [31], 0),
  (13, .aload_n 0, 1, [], 0),
  (14, .getfield 111, 3, [11, 42, 28, 100, 8], 0),
  (17, .iload_n 2, 1, [], 0),
  (18, .aload_n 0, 1, [], 0),
  (19, .getfield 108, 3, [11, 41, 27, 100, 8], 0),
  (22, .iload_n 2, 1, [], 0),
  (23, .iaload, 1, [], 0),
  (24, .iastore, 1, [], 0),
  (25, .iinc 2 1, 3, [], 1),
  (28, .goto (-21), 3, [7], 0),
  (31, .return_, 1, [], 0)]
def k_M_keepsTurn : List (List (Nat × Nat)) := [[], [], [(5, 183)], [], [], [], [], [], [], [(5, 182)], [], [], [(5, 181)], [], [], [], [], [], []]
def c_M_isAsSeen : List zE := [(0, .iconst 1, 1, [], 1),
  (1, .istore_n 1, 1, [], 0),
  (2, .iconst 0, 1, [], 0),
  (3, .istore_n 2, 1, [], 0),
  (4, .iload_n 2, 1, [], 0),
  (5, .aload_n 0, 1, [], 0),
  (6, .getfield 449, 3, [11, 57], 0),
  (9, .if_icmp .ge 30, 3, [39], 0),
  (12, .iload_n 1, 1, [], 0),
  (13, .ifCond .eq 26, 3, [39], 0),
  (16, .aload_n 0, 1, [], 0),
  (17, .aload_n 0, 1, [], 0),
  (18, .getfield 138, 3, [11, 58, 37, 100, 8], 0),
  (21, .iload_n 2, 1, [], 0),
  (22, .iaload, 1, [], 0),
  (23, .aload_n 0, 1, [], 0),
  (24, .getfield 141, 3, [11, 59, 38, 100, 8], 0),
  (27, .iload_n 2, 1, [], 0),
  (28, .iaload, 1, [], 0),
  (29, .invokevirtual 301, 3, [180, 2], 0),
  (32, .istore_n 1, 1, [], 0),
  (33, .iinc 2 1, 3, [], 1),
  (36, .goto (-32), 3, [4], 0),
  (39, .iload_n 1, 1, [], 0),
  (40, .ireturn, 1, [], 1)]
def k_M_isAsSeen : List (List (Nat × Nat)) := [[], [], [], [], [], [], [(5, 197)], [], [], [], [], [], [(5, 198)], [], [], [], [(5, 199)], [], [], [(7, 36), (7, 38), (0, 61), (1, 12), (7, 39)], [], [], [], [], []]
def c_M_tellsTurn : List zE := [(0, .aload_n 0, 1, [], 0),
  (1, .iconst 0, 1, [], 0),
  (2, .putfield 15, 3, [11, 1], 0),
  (5, .iconst 0, 1, [], 0),
  (6, .istore_n 2, 1, [], 0),
  (7, .iload_n 2, 1, [], 0),
  (8, .bipush 8, 2, [], 8),
  (10, .if_icmp .ge 20, 3, [30], 0),
  (13, .aload_n 0, 1, [], 0),
  (14, .aload_n 0, 1, [], 0),
  (15, .getfield 111, 3, [11, 42, 28, 100, 8], 0),
  (18, .iload_n 2, 1, [], 0),
  (19, .iaload, 1, [], 0),
  (20, .i2l, 1, [], 0),
  (21, .invokevirtual 18, 3, [202, 1], 0),
  (24, .iinc 2 1, 3, [], 1),
  (27, .goto (-20), 3, [7], 0),
  (30, .iload_n 1, 1, [], 0),
  (31, .ireturn, 1, [], 0)]
def k_M_tellsTurn : List (List (Nat × Nat)) := [[], [], [(5, 141)], [], [], [], [], [], [], [], [(5, 182)], [], [], [], [(7, 124), (7, 126), (0, 73), (1, 12), (7, 127)], [], [], [], []]
def c_M_likes : List zE := [(0, .aload_n 0, 1, [], 0),
  (1, .iconst 0, 1, [], 0),
  (2, .putfield 3, 3, [11, 0], 0),
  (5, .aload_n 0, 1, [], 0),
  (6, .iload_n 1, 1, [], 0),
  (7, .invokevirtual 324, 3, [172, 1], 0),
  (10, .ifCond .ne 5, 3, [15], 0),
  (13, .iconst (-1), 1, [], (-1)),
  (14, .ireturn, 1, [], 0),
  (15, .aload_n 0, 1, [], 0),
  (16, .aload_n 0, 1, [], 0),
  (17, .getfield 38, 3, [11, 8, 4, 100, 81], 0),
  (20, .invokevirtual 305, 3, [176, 1], 0),
  (23, .aload_n 0, 1, [], 0),
  (24, .iload_n 1, 1, [], 0),
  (25, .putfield 402, 3, [11, 44], 0),
  (28, .aload_n 0, 1, [], 0),
  (29, .ldc_w 417, 3, [], 1000000),
  (32, .putfield 393, 3, [11, 43], 0),
  (35, .aload_n 0, 1, [], 0),
  (36, .iconst 0, 1, [], 0),
  (37, .iconst 0, 1, [], 0),
  (38, .iconst 1, 1, [], 1),
  (39, .invokevirtual 414, 3, [216, 3], 0),
  (42, .aload_n 0, 1, [], 0),
  (43, .aload_n 0, 1, [], 0),
  (44, .getfield 393, 3, [11, 43], 0),
  (47, .invokevirtual 418, 3, [220, 1], 0),
  (50, .ireturn, 1, [], 0)]
def k_M_likes : List (List (Nat × Nat)) := [[], [], [(5, 140)], [], [], [(7, 4), (7, 6), (0, 54), (1, 12), (7, 7)], [], [], [], [], [], [(5, 148)], [(7, 21), (7, 23), (0, 58), (1, 12), (7, 24)], [], [], [(5, 184)], [], [(7, 180)], [(5, 183)], [], [], [], [], [(7, 181), (7, 183), (0, 78), (1, 12), (7, 184)], [], [], [(5, 183)], [(7, 197), (7, 199), (0, 82), (1, 12), (7, 200)], []]
def c_M_rounds : List zE := [(0, .aload_n 0, 1, [], 0),
  (1, .iconst 0, 1, [], 0),
  (2, .putfield 3, 3, [11, 0], 0),
  (5, .iload_n 1, 1, [], 0),
  (6, .i2l, 1, [], 0),
  (7, .lconst 1, 1, [], 1),
  (8, .ldc2_w 362, 3, [], 60),
  (11, .invokestatic 159, 3, [1, 151, 3], 0),
  (14, .ifCond .ne 5, 3, [19], 0),
  (17, .iconst (-1), 1, [], (-1)),
  (18, .ireturn, 1, [], 0),
  (19, .aload_n 0, 1, [], 0),
  (20, .invokevirtual 390, 3, [213, 0], 0),
  (23, .iconst 0, 1, [], 0),
  (24, .istore_n 2, 1, [], 0),
  (25, .iload_n 2, 1, [], 0),
  (26, .iload_n 1, 1, [], 0),
  (27, .if_icmp .ge 25, 3, [52], 0),
  (30, .aload_n 0, 1, [], 0),
  (31, .aload_n 0, 1, [], 0),
  (32, .getfield 41, 3, [11, 9, 5, 100, 81], 0),
  (35, .invokevirtual 364, 3, [200, 1], 0),
  (38, .pop, 1, [], 0),
  (39, .aload_n 0, 1, [], 0),
  (40, .getfield 41, 3, [11, 9, 5, 100, 81], 0),
  (43, .invokestatic 376, 3, [1, 207, 1], 0),
  (46, .iinc 2 1, 3, [], 1),
  (49, .goto (-24), 3, [25], 0),
  (52, .iconst 0, 1, [], 0),
  (53, .istore_n 2, 1, [], 0),
  (54, .aload_n 0, 1, [], 0),
  (55, .getfield 156, 3, [11, 3], 0),
  (58, .ifCond .ne 7, 3, [65], 0),
  (61, .iconst 0, 1, [], 0),
  (62, .goto 6, 3, [68], 0),
  (65, .ldc_w 417, 3, [], 1000000),
  (68, .istore_n 3, 1, [], 0),
  (69, .iconst 0, 1, [], 0),
  (70, .istore 4, 2, [], 0),
  (72, .iconst 0, 1, [], 0),
  (73, .istore 5, 2, [], 0),
  (75, .iload 5, 2, [], 0),
  (77, .aload_n 0, 1, [], 0),
  (78, .getfield 156, 3, [11, 3], 0),
  (81, .if_icmp .ge 53, 3, [134], 0),
  (84, .aload_n 0, 1, [], 0),
  (85, .getfield 41, 3, [11, 9, 5, 100, 81], 0),
  (88, .bipush 64, 2, [], 64),
  (90, .iload 5, 2, [], 0),
  (92, .iadd, 1, [], 0),
  (93, .iaload, 1, [], 0),
  (94, .aload_n 0, 1, [], 0),
  (95, .getfield 38, 3, [11, 8, 4, 100, 81], 0),
  (98, .bipush 64, 2, [], 64),
  (100, .iload 5, 2, [], 0),
  (102, .iadd, 1, [], 0),
  (103, .iaload, 1, [], 0),
  (104, .isub, 1, [], 0),
  (105, .istore 6, 2, [], 0),
  (107, .iload 4, 2, [], 0),
  (109, .iload 6, 2, [], 0),
  (111, .iadd, 1, [], 0),
  (112, .istore 4, 2, [], 0),
  (114, .iload_n 2, 1, [], 0),
  (115, .iload 6, 2, [], 0),
  (117, .invokestatic 295, 3, [4], 0),
  (120, .istore_n 2, 1, [], 0),
  (121, .iload_n 3, 1, [], 0),
  (122, .iload 6, 2, [], 0),
  (124, .invokestatic 178, 3, [3], 0),
  (127, .istore_n 3, 1, [], 0),
  (128, .iinc 5 1, 3, [], 1),
  (131, .goto (-56), 3, [75], 0),
  (134, .aload_n 0, 1, [], 0),
  (135, .iconst 0, 1, [], 0),
  (136, .putfield 15, 3, [11, 1], 0),
  (139, .aload_n 0, 1, [], 0),
  (140, .iload_n 2, 1, [], 0),
  (141, .i2l, 1, [], 0),
  (142, .invokevirtual 18, 3, [202, 1], 0),
  (145, .aload_n 0, 1, [], 0),
  (146, .iload_n 3, 1, [], 0),
  (147, .i2l, 1, [], 0),
  (148, .invokevirtual 18, 3, [202, 1], 0),
  (151, .iload 4, 2, [], 0),
  (153, .ireturn, 1, [], 0)]
def k_M_rounds : List (List (Nat × Nat)) := [[], [], [(5, 140)], [], [], [], [(7, 115)], [(6, 104), (6, 105), (1, 12), (6, 106)], [], [], [], [], [(7, 168), (7, 170), (0, 77), (1, 12), (7, 171)], [], [], [], [], [], [], [], [(5, 149)], [(7, 116), (7, 118), (0, 71), (1, 12), (7, 119)], [], [], [(5, 149)], [(7, 144), (7, 145), (1, 12), (7, 146)], [], [], [], [], [], [(5, 143)], [], [], [], [(7, 180)], [], [], [], [], [], [], [], [(5, 143)], [], [], [(5, 149)], [], [], [], [], [], [(5, 148)], [], [], [], [], [], [], [], [], [], [], [], [], [(7, 58)], [], [], [], [(6, 115)], [], [], [], [], [], [(5, 141)], [], [], [], [(7, 124), (7, 126), (0, 73), (1, 12), (7, 127)], [], [], [], [(7, 124), (7, 126), (0, 73), (1, 12), (7, 127)], [], []]
def c_M_votes : List zE := [(0, .aload_n 0, 1, [], 0),
  (1, .iconst 0, 1, [], 0),
  (2, .putfield 3, 3, [11, 0], 0),
  (5, .aload_n 0, 1, [], 0),
  (6, .invokevirtual 350, 3, [191, 0], 0),
  (9, .istore_n 1, 1, [], 0),
  (10, .iload_n 1, 1, [], 0),
  (11, .ifCond .ge 11, 3, [22], 0),
  (14, .iload_n 1, 1, [], 0),
  (15, .iconst 1, 1, [], 1),
  (16, .iadd, 1, [], 0),
  (17, .sipush 10000, 3, [], 10000),
  (20, .isub, 1, [], 0),
  (21, .ireturn, 1, [], 0),
  (22, .aload_n 0, 1, [], 0),
  (23, .invokevirtual 421, 3, [224, 0], 0),
  (26, .istore_n 2, 1, [], 0),
  (27, .iconst 0, 1, [], 0),
  (28, .istore_n 3, 1, [], 0),
  (29, .iconst 0, 1, [], 0),
  (30, .istore 4, 2, [], 0),
  (32, .iload 4, 2, [], 0),
  (34, .aload_n 0, 1, [], 0),
  (35, .getfield 156, 3, [11, 3], 0),
  (38, .if_icmp .ge 37, 3, [75], 0),
  (41, .iload_n 3, 1, [], 0),
  (42, .aload_n 0, 1, [], 0),
  (43, .getfield 84, 3, [11, 30, 19, 100, 8], 0),
  (46, .iload 4, 2, [], 0),
  (48, .iaload, 1, [], 0),
  (49, .aload_n 0, 1, [], 0),
  (50, .getfield 117, 3, [11, 48, 30, 100, 8], 0),
  (53, .iload 4, 2, [], 0),
  (55, .iaload, 1, [], 0),
  (56, .if_icmp .le 10, 3, [66], 0),
  (59, .iconst 1, 1, [], 1),
  (60, .iload 4, 2, [], 0),
  (62, .ishl, 1, [], 0),
  (63, .goto 4, 3, [67], 0),
  (66, .iconst 0, 1, [], 0),
  (67, .ior, 1, [], 0),
  (68, .istore_n 3, 1, [], 0),
  (69, .iinc 4 1, 3, [], 1),
  (72, .goto (-40), 3, [32], 0),
  (75, .aload_n 0, 1, [], 0),
  (76, .iconst 0, 1, [], 0),
  (77, .putfield 15, 3, [11, 1], 0),
  (80, .aload_n 0, 1, [], 0),
  (81, .iload_n 2, 1, [], 0),
  (82, .i2l, 1, [], 0),
  (83, .invokevirtual 18, 3, [202, 1], 0),
  (86, .aload_n 0, 1, [], 0),
  (87, .iload_n 3, 1, [], 0),
  (88, .i2l, 1, [], 0),
  (89, .invokevirtual 18, 3, [202, 1], 0),
  (92, .iload_n 2, 1, [], 0),
  (93, .invokestatic 424, 3, [1, 255, 1], 0),
  (96, .ireturn, 1, [], 0)]
def k_M_votes : List (List (Nat × Nat)) := [[], [], [(5, 140)], [], [(7, 80), (7, 82), (0, 66), (1, 12), (7, 83)], [], [], [], [], [], [], [], [], [], [], [(7, 213), (7, 215), (0, 83), (1, 12), (7, 216)], [], [], [], [], [], [], [], [(5, 143)], [], [], [], [(5, 170)], [], [], [], [(5, 188)], [], [], [], [], [], [], [], [], [], [], [], [], [], [], [(5, 141)], [], [], [], [(7, 124), (7, 126), (0, 73), (1, 12), (7, 127)], [], [], [], [(7, 124), (7, 126), (0, 73), (1, 12), (7, 127)], [], [(7, 217), (3, 137), (1, 23), (3, 138)], []]
def c_M_earlier : List zE := [(0, .aload_n 0, 1, [], 0),
  (1, .aload_n 0, 1, [], 0),
  (2, .getfield 38, 3, [11, 8, 4, 100, 81], 0),
  (5, .invokevirtual 315, 3, [175, 1], 0),
  (8, .iconst 0, 1, [], 0),
  (9, .istore_n 1, 1, [], 0),
  (10, .iload_n 1, 1, [], 0),
  (11, .aload_n 0, 1, [], 0),
  (12, .getfield 156, 3, [11, 3], 0),
  (15, .if_icmp .ge 21, 3, [36], 0),
  (18, .aload_n 0, 1, [], 0),
  (19, .getfield 117, 3, [11, 48, 30, 100, 8], 0),
  (22, .iload_n 1, 1, [], 0),
  (23, .aload_n 0, 1, [], 0),
  (24, .getfield 84, 3, [11, 30, 19, 100, 8], 0),
  (27, .iload_n 1, 1, [], 0),
  (28, .iaload, 1, [], 0),
  (29, .iastore, 1, [], 0),
  (30, .iinc 1 1, 3, [], 1),
  (33, .goto (-23), 3, [10], 0),
  (36, .aload_n 0, 1, [], 0),
  (37, .aload_n 0, 1, [], 0),
  (38, .getfield 96, 3, [11, 36, 23, 100, 8], 0),
  (41, .invokevirtual 309, 3, [178, 1], 0),
  (44, .aload_n 0, 1, [], 0),
  (45, .invokevirtual 312, 3, [179, 0], 0),
  (48, .iconst 0, 1, [], 0),
  (49, .istore_n 1, 1, [], 0),
  (50, .iconst 0, 1, [], 0),
  (51, .istore_n 2, 1, [], 0),
  (52, .iload_n 2, 1, [], 0),
  (53, .aload_n 0, 1, [], 0),
  (54, .getfield 156, 3, [11, 3], 0),
  (57, .if_icmp .ge 34, 3, [91], 0),
  (60, .iload_n 1, 1, [], 0),
  (61, .aload_n 0, 1, [], 0),
  (62, .getfield 84, 3, [11, 30, 19, 100, 8], 0),
  (65, .iload_n 2, 1, [], 0),
  (66, .iaload, 1, [], 0),
  (67, .aload_n 0, 1, [], 0),
  (68, .getfield 117, 3, [11, 48, 30, 100, 8], 0),
  (71, .iload_n 2, 1, [], 0),
  (72, .iaload, 1, [], 0),
  (73, .if_icmp .ge 9, 3, [82], 0),
  (76, .iconst 1, 1, [], 1),
  (77, .iload_n 2, 1, [], 0),
  (78, .ishl, 1, [], 0),
  (79, .goto 4, 3, [83], 0),
  (82, .iconst 0, 1, [], 0),
  (83, .ior, 1, [], 0),
  (84, .istore_n 1, 1, [], 0),
  (85, .iinc 2 1, 3, [], 1),
  (88, .goto (-36), 3, [52], 0),
  (91, .iload_n 1, 1, [], 0),
  (92, .ireturn, 1, [], 0)]
def k_M_earlier : List (List (Nat × Nat)) := [[], [], [(5, 148)], [(7, 17), (7, 19), (0, 57), (1, 12), (7, 20)], [], [], [], [], [(5, 143)], [], [], [(5, 188)], [], [], [(5, 170)], [], [], [], [], [], [], [], [(5, 176)], [(7, 28), (7, 30), (0, 59), (1, 12), (7, 31)], [], [(7, 32), (7, 34), (0, 60), (1, 12), (7, 35)], [], [], [], [], [], [], [(5, 143)], [], [], [], [(5, 170)], [], [], [], [(5, 188)], [], [], [], [], [], [], [], [], [], [], [], [], [], []]
def c_M_sways : List zE := [(0, .aload_n 0, 1, [], 0),
  (1, .iconst 0, 1, [], 0),
  (2, .putfield 3, 3, [11, 0], 0),
  (5, .aload_n 0, 1, [], 0),
  (6, .invokevirtual 350, 3, [191, 0], 0),
  (9, .istore_n 1, 1, [], 0),
  (10, .iload_n 1, 1, [], 0),
  (11, .ifCond .ge 11, 3, [22], 0),
  (14, .iload_n 1, 1, [], 0),
  (15, .iconst 1, 1, [], 1),
  (16, .iadd, 1, [], 0),
  (17, .sipush 10000, 3, [], 10000),
  (20, .isub, 1, [], 0),
  (21, .ireturn, 1, [], 0),
  (22, .aload_n 0, 1, [], 0),
  (23, .invokevirtual 421, 3, [224, 0], 0),
  (26, .istore_n 2, 1, [], 0),
  (27, .aload_n 0, 1, [], 0),
  (28, .getfield 156, 3, [11, 3], 0),
  (31, .ifCond .ne 7, 3, [38], 0),
  (34, .iconst 0, 1, [], 0),
  (35, .goto 20, 3, [55], 0),
  (38, .iconst 0, 1, [], 0),
  (39, .aload_n 0, 1, [], 0),
  (40, .getfield 156, 3, [11, 3], 0),
  (43, .iconst 2, 1, [], 2),
  (44, .idiv, 1, [], 0),
  (45, .iconst 1, 1, [], 1),
  (46, .iadd, 1, [], 0),
  (47, .iload_n 2, 1, [], 0),
  (48, .invokestatic 424, 3, [1, 255, 1], 0),
  (51, .isub, 1, [], 0),
  (52, .invokestatic 295, 3, [4], 0),
  (55, .istore_n 3, 1, [], 0),
  (56, .iconst 0, 1, [], 0),
  (57, .istore 4, 2, [], 0),
  (59, .ldc_w 417, 3, [], 1000000),
  (62, .istore 5, 2, [], 0),
  (64, .iconst 0, 1, [], 0),
  (65, .istore 6, 2, [], 0),
  (67, .iload 6, 2, [], 0),
  (69, .iconst 1, 1, [], 1),
  (70, .aload_n 0, 1, [], 0),
  (71, .getfield 156, 3, [11, 3], 0),
  (74, .ishl, 1, [], 0),
  (75, .if_icmp .ge 48, 3, [123], 0),
  (78, .iload 6, 2, [], 0),
  (80, .iload_n 2, 1, [], 0),
  (81, .iand, 1, [], 0),
  (82, .ifCond .ne 35, 3, [117], 0),
  (85, .iload 6, 2, [], 0),
  (87, .invokestatic 424, 3, [1, 255, 1], 0),
  (90, .iload_n 3, 1, [], 0),
  (91, .if_icmp .ne 26, 3, [117], 0),
  (94, .aload_n 0, 1, [], 0),
  (95, .iload 6, 2, [], 0),
  (97, .invokevirtual 429, 3, [226, 1], 0),
  (100, .iload 5, 2, [], 0),
  (102, .if_icmp .ge 15, 3, [117], 0),
  (105, .iload 6, 2, [], 0),
  (107, .istore 4, 2, [], 0),
  (109, .aload_n 0, 1, [], 0),
  (110, .iload 6, 2, [], 0),
  (112, .invokevirtual 429, 3, [226, 1], 0),
  (115, .istore 5, 2, [], 0),
  (117, .iinc 6 1, 3, [], 1),
  (120, .goto (-53), 3, [67], 0),
  (123, .aload_n 0, 1, [], 0),
  (124, .iconst 0, 1, [], 0),
  (125, .putfield 15, 3, [11, 1], 0),
  (128, .aload_n 0, 1, [], 0),
  (129, .iload 4, 2, [], 0),
  (131, .i2l, 1, [], 0),
  (132, .invokevirtual 18, 3, [202, 1], 0),
  (135, .iload_n 3, 1, [], 0),
  (136, .ireturn, 1, [], 0)]
def k_M_sways : List (List (Nat × Nat)) := [[], [], [(5, 140)], [], [(7, 80), (7, 82), (0, 66), (1, 12), (7, 83)], [], [], [], [], [], [], [], [], [], [], [(7, 213), (7, 215), (0, 83), (1, 12), (7, 216)], [], [], [(5, 143)], [], [], [], [], [], [(5, 143)], [], [], [], [], [], [(7, 217), (3, 137), (1, 23), (3, 138)], [], [(7, 58)], [], [], [], [(7, 180)], [], [], [], [], [], [], [(5, 143)], [], [], [], [], [], [], [], [(7, 217), (3, 137), (1, 23), (3, 138)], [], [], [], [], [(7, 222), (7, 224), (0, 84), (1, 12), (7, 225)], [], [], [], [], [], [], [(7, 222), (7, 224), (0, 84), (1, 12), (7, 225)], [], [], [], [], [], [(5, 141)], [], [], [], [(7, 124), (7, 126), (0, 73), (1, 12), (7, 127)], [], []]
def c_M_thirstOf : List zE := [(0, .iconst 0, 1, [], 0),
  (1, .istore_n 2, 1, [], 0),
  (2, .iconst 0, 1, [], 0),
  (3, .istore_n 3, 1, [], 0),
  (4, .iload_n 3, 1, [], 0),
  (5, .aload_n 0, 1, [], 0),
  (6, .getfield 156, 3, [11, 3], 0),
  (9, .if_icmp .ge 30, 3, [39], 0),
  (12, .iload_n 2, 1, [], 0),
  (13, .iload_n 1, 1, [], 0),
  (14, .iload_n 3, 1, [], 0),
  (15, .invokestatic 347, 3, [1, 192, 2], 0),
  (18, .ifCond .eq 12, 3, [30], 0),
  (21, .aload_n 0, 1, [], 0),
  (22, .getfield 35, 3, [11, 7, 3, 100, 8], 0),
  (25, .iload_n 3, 1, [], 0),
  (26, .iaload, 1, [], 0),
  (27, .goto 4, 3, [31], 0),
  (30, .iconst 0, 1, [], 0),
  (31, .iadd, 1, [], 0),
  (32, .istore_n 2, 1, [], 0),
  (33, .iinc 3 1, 3, [], 1),
  (36, .goto (-32), 3, [4], 0),
  (39, .iload_n 2, 1, [], 0),
  (40, .ireturn, 1, [], 0)]
def k_M_thirstOf : List (List (Nat × Nat)) := [[], [], [], [], [], [], [(5, 143)], [], [], [], [], [(7, 84), (7, 85), (1, 12), (7, 86)], [], [], [(5, 147)], [], [], [], [], [], [], [], [], [], []]
def c_M_initial : List zE := [(0, .aload_n 0, 1, [], 0),
  (1, .iconst 0, 1, [], 0),
  (2, .putfield 3, 3, [11, 0], 0),
  (5, .aload_n 0, 1, [], 0),
  (6, .iload_n 1, 1, [], 0),
  (7, .invokevirtual 324, 3, [172, 1], 0),
  (10, .ifCond .ne 5, 3, [15], 0),
  (13, .iconst (-1), 1, [], (-1)),
  (14, .ireturn, 1, [], 0),
  (15, .iconst (-1), 1, [], (-1)),
  (16, .istore_n 2, 1, [], 0),
  (17, .ldc_w 417, 3, [], 1000000),
  (20, .istore_n 3, 1, [], 0),
  (21, .aload_n 0, 1, [], 0),
  (22, .invokevirtual 390, 3, [213, 0], 0),
  (25, .iconst 0, 1, [], 0),
  (26, .istore 4, 2, [], 0),
  (28, .iload 4, 2, [], 0),
  (30, .bipush 8, 2, [], 8),
  (32, .if_icmp .ge 54, 3, [86], 0),
  (35, .aload_n 0, 1, [], 0),
  (36, .getfield 41, 3, [11, 9, 5, 100, 81], 0),
  (39, .bipush 16, 2, [], 16),
  (41, .bipush 6, 2, [], 6),
  (43, .iload_n 1, 1, [], 0),
  (44, .imul, 1, [], 0),
  (45, .iadd, 1, [], 0),
  (46, .iload 4, 2, [], 0),
  (48, .iastore, 1, [], 0),
  (49, .aload_n 0, 1, [], 0),
  (50, .aload_n 0, 1, [], 0),
  (51, .getfield 41, 3, [11, 9, 5, 100, 81], 0),
  (54, .iload_n 1, 1, [], 0),
  (55, .invokevirtual 343, 3, [196, 2], 0),
  (58, .istore 5, 2, [], 0),
  (60, .iload 5, 2, [], 0),
  (62, .iload_n 3, 1, [], 0),
  (63, .if_icmp .ge 8, 3, [71], 0),
  (66, .iload 4, 2, [], 0),
  (68, .goto 4, 3, [72], 0),
  (71, .iload_n 2, 1, [], 0),
  (72, .istore_n 2, 1, [], 0),
  (73, .iload_n 3, 1, [], 0),
  (74, .iload 5, 2, [], 0),
  (76, .invokestatic 178, 3, [3], 0),
  (79, .istore_n 3, 1, [], 0),
  (80, .iinc 4 1, 3, [], 1),
  (83, .goto (-55), 3, [28], 0),
  (86, .aload_n 0, 1, [], 0),
  (87, .iconst 0, 1, [], 0),
  (88, .putfield 15, 3, [11, 1], 0),
  (91, .aload_n 0, 1, [], 0),
  (92, .iload_n 3, 1, [], 0),
  (93, .i2l, 1, [], 0),
  (94, .invokevirtual 18, 3, [202, 1], 0),
  (97, .iload_n 2, 1, [], 0),
  (98, .ireturn, 1, [], 0)]
def k_M_initial : List (List (Nat × Nat)) := [[], [], [(5, 140)], [], [], [(7, 4), (7, 6), (0, 54), (1, 12), (7, 7)], [], [], [], [], [], [(7, 180)], [], [], [(7, 168), (7, 170), (0, 77), (1, 12), (7, 171)], [], [], [], [], [], [], [(5, 149)], [], [], [], [], [], [], [], [], [], [(5, 149)], [], [(7, 99), (7, 101), (0, 69), (1, 12), (7, 102)], [], [], [], [], [], [], [], [], [], [], [(6, 115)], [], [], [], [], [], [(5, 141)], [], [], [], [(7, 124), (7, 126), (0, 73), (1, 12), (7, 127)], [], []]
def c_M_matches : List zE := [(0, .aload_n 0, 1, [], 0),
  (1, .iconst 0, 1, [], 0),
  (2, .putfield 3, 3, [11, 0], 0),
  (5, .aload_n 0, 1, [], 0),
  (6, .invokevirtual 442, 3, [229, 0], 0),
  (9, .aload_n 0, 1, [], 0),
  (10, .iconst (-1), 1, [], (-1)),
  (11, .putfield 432, 3, [11, 52], 0),
  (14, .aload_n 0, 1, [], 0),
  (15, .iconst 0, 1, [], 0),
  (16, .putfield 435, 3, [11, 53], 0),
  (19, .aload_n 0, 1, [], 0),
  (20, .iconst 0, 1, [], 0),
  (21, .iconst 0, 1, [], 0),
  (22, .iconst 0, 1, [], 0),
  (23, .iconst 0, 1, [], 0),
  (24, .invokevirtual 438, 3, [230, 4], 0),
  (27, .aload_n 0, 1, [], 0),
  (28, .iconst 0, 1, [], 0),
  (29, .putfield 15, 3, [11, 1], 0),
  (32, .iconst 0, 1, [], 0),
  (33, .istore_n 1, 1, [], 0),
  (34, .iload_n 1, 1, [], 0),
  (35, .iconst 2, 1, [], 2),
  (36, .aload_n 0, 1, [], 0),
  (37, .getfield 435, 3, [11, 53], 0),
  (40, .imul, 1, [], 0),
  (41, .if_icmp .ge 20, 3, [61], 0),
  (44, .aload_n 0, 1, [], 0),
  (45, .aload_n 0, 1, [], 0),
  (46, .getfield 126, 3, [11, 51, 33, 100, 8], 0),
  (49, .iload_n 1, 1, [], 0),
  (50, .iaload, 1, [], 0),
  (51, .i2l, 1, [], 0),
  (52, .invokevirtual 18, 3, [202, 1], 0),
  (55, .iinc 1 1, 3, [], 1),
  (58, .goto (-24), 3, [34], 0),
  (61, .aload_n 0, 1, [], 0),
  (62, .getfield 432, 3, [11, 52], 0),
  (65, .ireturn, 1, [], 0)]
def k_M_matches : List (List (Nat × Nat)) := [[], [], [(5, 140)], [], [(7, 234), (7, 236), (0, 85), (1, 12), (7, 237)], [], [], [(5, 192)], [], [], [(5, 193)], [], [], [], [], [], [(7, 238), (8, 0), (0, 86), (1, 12), (8, 1)], [], [], [(5, 141)], [], [], [], [], [], [(5, 193)], [], [], [], [], [(5, 191)], [], [], [], [(7, 124), (7, 126), (0, 73), (1, 12), (7, 127)], [], [], [], [(5, 192)], []]
def c_M_laysClimbs : List zE := [(0, .iconst 0, 1, [], 0),
  (1, .istore_n 1, 1, [], 0),
  (2, .iload_n 1, 1, [], 0),
  (3, .aload_n 0, 1, [], 0),
  (4, .getfield 156, 3, [11, 3], 0),
  (7, .if_icmp .ge 98, 3, [105], 0),
  (10, .iload_n 1, 1, [], 0),
  (11, .iconst 1, 1, [], 1),
  (12, .iadd, 1, [], 0),
  (13, .istore_n 2, 1, [], 0),
  (14, .iload_n 2, 1, [], 0),
  (15, .aload_n 0, 1, [], 0),
  (16, .getfield 156, 3, [11, 3], 0),
  (19, .if_icmp .ge 80, 3, [99], 0),
  (22, .aload_n 0, 1, [], 0),
  (23, .invokevirtual 390, 3, [213, 0], 0),
  (26, .aload_n 0, 1, [], 0),
  (27, .aload_n 0, 1, [], 0),
  (28, .getfield 38, 3, [11, 8, 4, 100, 81], 0),
  (31, .invokevirtual 315, 3, [175, 1], 0),
  (34, .aload_n 0, 1, [], 0),
  (35, .getfield 84, 3, [11, 30, 19, 100, 8], 0),
  (38, .iload_n 1, 1, [], 0),
  (39, .iaload, 1, [], 0),
  (40, .aload_n 0, 1, [], 0),
  (41, .getfield 84, 3, [11, 30, 19, 100, 8], 0),
  (44, .iload_n 2, 1, [], 0),
  (45, .iaload, 1, [], 0),
  (46, .if_icmp .le 7, 3, [53], 0),
  (49, .iconst 1, 1, [], 1),
  (50, .goto 4, 3, [54], 0),
  (53, .iconst 0, 1, [], 0),
  (54, .istore_n 3, 1, [], 0),
  (55, .aload_n 0, 1, [], 0),
  (56, .getfield 120, 3, [11, 49, 31, 100, 64], 0),
  (59, .bipush 8, 2, [], 8),
  (61, .iload_n 1, 1, [], 0),
  (62, .imul, 1, [], 0),
  (63, .iload_n 2, 1, [], 0),
  (64, .iadd, 1, [], 0),
  (65, .iload_n 3, 1, [], 0),
  (66, .ifCond .eq 16, 3, [82], 0),
  (69, .aload_n 0, 1, [], 0),
  (70, .aload_n 0, 1, [], 0),
  (71, .getfield 41, 3, [11, 9, 5, 100, 81], 0),
  (74, .iload_n 1, 1, [], 0),
  (75, .iload_n 2, 1, [], 0),
  (76, .invokevirtual 359, 3, [198, 3], 0),
  (79, .goto 13, 3, [92], 0),
  (82, .aload_n 0, 1, [], 0),
  (83, .aload_n 0, 1, [], 0),
  (84, .getfield 41, 3, [11, 9, 5, 100, 81], 0),
  (87, .iload_n 2, 1, [], 0),
  (88, .iload_n 1, 1, [], 0),
  (89, .invokevirtual 359, 3, [198, 3], 0),
  (92, .iastore, 1, [], 0),
  (93, .iinc 2 1, 3, [], 1),
  (96, .goto (-82), 3, [14], 0),
  (99, .iinc 1 1, 3, [], 1),
  (102, .goto (-100), 3, [2], 0),
  (105, .return_, 1, [], 0)]
def k_M_laysClimbs : List (List (Nat × Nat)) := [[], [], [], [], [(5, 143)], [], [], [], [], [], [], [], [(5, 143)], [], [], [(7, 168), (7, 170), (0, 77), (1, 12), (7, 171)], [], [], [(5, 148)], [(7, 17), (7, 19), (0, 57), (1, 12), (7, 20)], [], [(5, 170)], [], [], [], [(5, 170)], [], [], [], [], [], [], [], [], [(5, 189)], [], [], [], [], [], [], [], [], [], [(5, 149)], [], [], [(7, 107), (7, 109), (0, 70), (1, 12), (7, 110)], [], [], [], [(5, 149)], [], [], [(7, 107), (7, 109), (0, 70), (1, 12), (7, 110)], [], [], [], [], [], []]
def c_M_pairsFrom : List zE := [(0, .iload_n 1, 1, [], 0),
  (1, .aload_n 0, 1, [], 0),
  (2, .getfield 156, 3, [11, 3], 0),
  (5, .if_icmp .lt 72, 3, [77], 0),
  (8, .iload 4, 2, [], 0),
  (10, .aload_n 0, 1, [], 0),
  (11, .getfield 432, 3, [11, 52], 0),
  (14, .if_icmp .gt 20, 3, [34], 0),
  (17, .iload 4, 2, [], 0),
  (19, .aload_n 0, 1, [], 0),
  (20, .getfield 432, 3, [11, 52], 0),
  (23, .if_icmp .ne 53, 3, [76], 0),
  (26, .iload_n 3, 1, [], 0),
  (27, .aload_n 0, 1, [], 0),
  (28, .getfield 435, 3, [11, 53], 0),
  (31, .if_icmp .ge 45, 3, [76], 0),
  (34, .aload_n 0, 1, [], 0),
  (35, .iload 4, 2, [], 0),
  (37, .putfield 432, 3, [11, 52], 0),
  (40, .aload_n 0, 1, [], 0),
  (41, .iload_n 3, 1, [], 0),
  (42, .putfield 435, 3, [11, 53], 0),
  (45, .iconst 0, 1, [], 0),
  (46, .istore 5, 2, [], 0),
  (48, .iload 5, 2, [], 0),
  (50, .iconst 2, 1, [], 2),
  (51, .iload_n 3, 1, [], 0),
  (52, .imul, 1, [], 0),
  (53, .if_icmp .ge 23, 3, [76], 0),
  (56, .aload_n 0, 1, [], 0),
  (57, .getfield 126, 3, [11, 51, 33, 100, 8], 0),
  (60, .iload 5, 2, [], 0),
  (62, .aload_n 0, 1, [], 0),
  (63, .getfield 123, 3, [11, 50, 32, 100, 8], 0),
  (66, .iload 5, 2, [], 0),
  (68, .iaload, 1, [], 0),
  (69, .iastore, 1, [], 0),
  (70, .iinc 5 1, 3, [], 1),
  (73, .goto (-25), 3, [48], 0),
  (76, .return_, 1, [], 0),
  (77, .iload_n 1, 1, [], 0),
  (78, .iconst 1, 1, [], 1),
  (79, .iadd, 1, [], 0),
  (80, .istore 5, 2, [], 0),
  (82, .iload 5, 2, [], 0),
  (84, .aload_n 0, 1, [], 0),
  (85, .getfield 156, 3, [11, 3], 0),
  (88, .if_icmp .ge 82, 3, [170], 0),
  (91, .iload_n 2, 1, [], 0),
  (92, .iload_n 1, 1, [], 0),
  (93, .invokestatic 347, 3, [1, 192, 2], 0),
  (96, .ifCond .ne 74, 3, [170], 0),
  (99, .iload_n 2, 1, [], 0),
  (100, .iload 5, 2, [], 0),
  (102, .invokestatic 347, 3, [1, 192, 2], 0),
  (105, .ifCond .ne 59, 3, [164], 0),
  (108, .aload_n 0, 1, [], 0),
  (109, .getfield 123, 3, [11, 50, 32, 100, 8], 0),
  (112, .iconst 2, 1, [], 2),
  (113, .iload_n 3, 1, [], 0),
  (114, .imul, 1, [], 0),
  (115, .iload_n 1, 1, [], 0),
  (116, .iastore, 1, [], 0),
  (117, .aload_n 0, 1, [], 0),
  (118, .getfield 123, 3, [11, 50, 32, 100, 8], 0),
  (121, .iconst 2, 1, [], 2),
  (122, .iload_n 3, 1, [], 0),
  (123, .imul, 1, [], 0),
  (124, .iconst 1, 1, [], 1),
  (125, .iadd, 1, [], 0),
  (126, .iload 5, 2, [], 0),
  (128, .iastore, 1, [], 0),
  (129, .aload_n 0, 1, [], 0),
  (130, .iload_n 1, 1, [], 0),
  (131, .iconst 1, 1, [], 1),
  (132, .iadd, 1, [], 0),
  (133, .iload_n 2, 1, [], 0),
  (134, .iconst 1, 1, [], 1),
  (135, .iload_n 1, 1, [], 0),
  (136, .ishl, 1, [], 0),
  (137, .ior, 1, [], 0),
  (138, .iconst 1, 1, [], 1),
  (139, .iload 5, 2, [], 0),
  (141, .ishl, 1, [], 0),
  (142, .ior, 1, [], 0),
  (143, .iload_n 3, 1, [], 0),
  (144, .iconst 1, 1, [], 1),
  (145, .iadd, 1, [], 0),
  (146, .iload 4, 2, [], 0),
  (148, .aload_n 0, 1, [], 0),
  (149, .getfield 120, 3, [11, 49, 31, 100, 64], 0),
  (152, .bipush 8, 2, [], 8),
  (154, .iload_n 1, 1, [], 0),
  (155, .imul, 1, [], 0),
  (156, .iload 5, 2, [], 0),
  (158, .iadd, 1, [], 0),
  (159, .iaload, 1, [], 0),
  (160, .iadd, 1, [], 0),
  (161, .invokevirtual 438, 3, [230, 4], 0),
  (164, .iinc 5 1, 3, [], 1),
  (167, .goto (-85), 3, [82], 0),
  (170, .aload_n 0, 1, [], 0),
  (171, .iload_n 1, 1, [], 0),
  (172, .iconst 1, 1, [], 1),
  (173, .iadd, 1, [], 0),
  (174, .iload_n 2, 1, [], 0),
  (175, .iload_n 3, 1, [], 0),
  (176, .iload 4, 2, [], 0),
  (178, .invokevirtual 438, 3, [230, 4], 0),
  (181, .return_, 1, [], 0)]
def k_M_pairsFrom : List (List (Nat × Nat)) := [[], [], [(5, 143)], [], [], [], [(5, 192)], [], [], [], [(5, 192)], [], [], [], [(5, 193)], [], [], [], [(5, 192)], [], [], [(5, 193)], [], [], [], [], [], [], [], [], [(5, 191)], [], [], [(5, 190)], [], [], [], [], [], [], [], [], [], [], [], [], [(5, 143)], [], [], [], [(7, 84), (7, 85), (1, 12), (7, 86)], [], [], [], [(7, 84), (7, 85), (1, 12), (7, 86)], [], [], [(5, 190)], [], [], [], [], [], [], [(5, 190)], [], [], [], [], [], [], [], [], [], [], [], [], [], [], [], [], [], [], [], [], [], [], [], [], [], [(5, 189)], [], [], [], [], [], [], [], [(7, 238), (8, 0), (0, 86), (1, 12), (8, 1)], [], [], [], [], [], [], [], [], [], [(7, 238), (8, 0), (0, 86), (1, 12), (8, 1)], []]
def c_M_lines : List zE := [(0, .aload_n 0, 1, [], 0),
  (1, .iconst 0, 1, [], 0),
  (2, .putfield 3, 3, [11, 0], 0),
  (5, .aload_n 0, 1, [], 0),
  (6, .bipush 80, 2, [], 80),
  (8, .invokevirtual 227, 3, [153, 1], 0),
  (11, .pop, 1, [], 0),
  (12, .iconst 0, 1, [], 0),
  (13, .istore_n 1, 1, [], 0),
  (14, .iconst 0, 1, [], 0),
  (15, .istore_n 2, 1, [], 0),
  (16, .aload_n 0, 1, [], 0),
  (17, .invokevirtual 209, 3, [163, 0], 0),
  (20, .ifCond .eq 86, 3, [106], 0),
  (23, .aload_n 0, 1, [], 0),
  (24, .aload_n 0, 1, [], 0),
  (25, .getfield 44, 3, [11, 10, 6, 100, 80], 0),
  (28, .aload_n 0, 1, [], 0),
  (29, .getfield 172, 3, [11, 12], 0),
  (32, .iaload, 1, [], 0),
  (33, .bipush 48, 2, [], 48),
  (35, .isub, 1, [], 0),
  (36, .invokevirtual 324, 3, [172, 1], 0),
  (39, .ifCond .eq 67, 3, [106], 0),
  (42, .iload_n 2, 1, [], 0),
  (43, .aload_n 0, 1, [], 0),
  (44, .getfield 44, 3, [11, 10, 6, 100, 80], 0),
  (47, .aload_n 0, 1, [], 0),
  (48, .getfield 172, 3, [11, 12], 0),
  (51, .iaload, 1, [], 0),
  (52, .bipush 48, 2, [], 48),
  (54, .isub, 1, [], 0),
  (55, .invokestatic 347, 3, [1, 192, 2], 0),
  (58, .ifCond .ne 48, 3, [106], 0),
  (61, .aload_n 0, 1, [], 0),
  (62, .getfield 129, 3, [11, 54, 34, 100, 8], 0),
  (65, .iload_n 1, 1, [], 0),
  (66, .aload_n 0, 1, [], 0),
  (67, .getfield 44, 3, [11, 10, 6, 100, 80], 0),
  (70, .aload_n 0, 1, [], 0),
  (71, .getfield 172, 3, [11, 12], 0),
  (74, .iaload, 1, [], 0),
  (75, .bipush 48, 2, [], 48),
  (77, .isub, 1, [], 0),
  (78, .iastore, 1, [], 0),
  (79, .iload_n 2, 1, [], 0),
  (80, .iconst 1, 1, [], 1),
  (81, .aload_n 0, 1, [], 0),
  (82, .getfield 129, 3, [11, 54, 34, 100, 8], 0),
  (85, .iload_n 1, 1, [], 0),
  (86, .iaload, 1, [], 0),
  (87, .ishl, 1, [], 0),
  (88, .ior, 1, [], 0),
  (89, .istore_n 2, 1, [], 0),
  (90, .iinc 1 1, 3, [], 1),
  (93, .aload_n 0, 1, [], 0),
  (94, .dup, 1, [], 0),
  (95, .getfield 172, 3, [11, 12], 0),
  (98, .iconst 1, 1, [], 1),
  (99, .iadd, 1, [], 0),
  (100, .putfield 172, 3, [11, 12], 0),
  (103, .goto (-87), 3, [16], 0),
  (106, .aload_n 0, 1, [], 0),
  (107, .getfield 172, 3, [11, 12], 0),
  (110, .aload_n 0, 1, [], 0),
  (111, .getfield 184, 3, [11, 13], 0),
  (114, .if_icmp .ge 10, 3, [124], 0),
  (117, .iconst (-1), 1, [], (-1)),
  (118, .aload_n 0, 1, [], 0),
  (119, .getfield 172, 3, [11, 12], 0),
  (122, .isub, 1, [], 0),
  (123, .ireturn, 1, [], 0),
  (124, .aload_n 0, 1, [], 0),
  (125, .aload_n 0, 1, [], 0),
  (126, .getfield 38, 3, [11, 8, 4, 100, 81], 0),
  (129, .invokevirtual 315, 3, [175, 1], 0),
  (132, .iload_n 2, 1, [], 0),
  (133, .istore_n 3, 1, [], 0),
  (134, .iload_n 2, 1, [], 0),
  (135, .istore 4, 2, [], 0),
  (137, .iload 4, 2, [], 0),
  (139, .ifCond .lt 121, 3, [260], 0),
  (142, .iload 4, 2, [], 0),
  (144, .iload_n 2, 1, [], 0),
  (145, .iconst (-1), 1, [], (-1)),
  (146, .ixor, 1, [], 0),
  (147, .iand, 1, [], 0),
  (148, .ifCond .ne 106, 3, [254], 0),
  (151, .iload 4, 2, [], 0),
  (153, .invokestatic 424, 3, [1, 255, 1], 0),
  (156, .iload_n 3, 1, [], 0),
  (157, .invokestatic 424, 3, [1, 255, 1], 0),
  (160, .if_icmp .gt 94, 3, [254], 0),
  (163, .iconst (-1), 1, [], (-1)),
  (164, .istore 5, 2, [], 0),
  (166, .iconst 1, 1, [], 1),
  (167, .istore 6, 2, [], 0),
  (169, .iconst 0, 1, [], 0),
  (170, .istore 7, 2, [], 0),
  (172, .iload 7, 2, [], 0),
  (174, .iload_n 1, 1, [], 0),
  (175, .if_icmp .ge 67, 3, [242], 0),
  (178, .iload 4, 2, [], 0),
  (180, .aload_n 0, 1, [], 0),
  (181, .getfield 129, 3, [11, 54, 34, 100, 8], 0),
  (184, .iload 7, 2, [], 0),
  (186, .iaload, 1, [], 0),
  (187, .invokestatic 347, 3, [1, 192, 2], 0),
  (190, .ifCond .ne 46, 3, [236], 0),
  (193, .iload 6, 2, [], 0),
  (195, .ifCond .eq 24, 3, [219], 0),
  (198, .aload_n 0, 1, [], 0),
  (199, .getfield 84, 3, [11, 30, 19, 100, 8], 0),
  (202, .aload_n 0, 1, [], 0),
  (203, .getfield 129, 3, [11, 54, 34, 100, 8], 0),
  (206, .iload 7, 2, [], 0),
  (208, .iaload, 1, [], 0),
  (209, .iaload, 1, [], 0),
  (210, .iload 5, 2, [], 0),
  (212, .if_icmp .le 7, 3, [219], 0),
  (215, .iconst 1, 1, [], 1),
  (216, .goto 4, 3, [220], 0),
  (219, .iconst 0, 1, [], 0),
  (220, .istore 6, 2, [], 0),
  (222, .aload_n 0, 1, [], 0),
  (223, .getfield 84, 3, [11, 30, 19, 100, 8], 0),
  (226, .aload_n 0, 1, [], 0),
  (227, .getfield 129, 3, [11, 54, 34, 100, 8], 0),
  (230, .iload 7, 2, [], 0),
  (232, .iaload, 1, [], 0),
  (233, .iaload, 1, [], 0),
  (234, .istore 5, 2, [], 0),
  (236, .iinc 7 1, 3, [], 1),
  (239, .goto (-67), 3, [172], 0),
  (242, .iload 6, 2, [], 0),
  (244, .ifCond .eq 8, 3, [252], 0),
  (247, .iload 4, 2, [], 0),
  (249, .goto 4, 3, [253], 0),
  (252, .iload_n 3, 1, [], 0),
  (253, .istore_n 3, 1, [], 0),
  (254, .iinc 4 (-1), 3, [], (-1)),
  (257, .goto (-120), 3, [137], 0),
  (260, .aload_n 0, 1, [], 0),
  (261, .iconst 0, 1, [], 0),
  (262, .putfield 15, 3, [11, 1], 0),
  (265, .aload_n 0, 1, [], 0),
  (266, .iload_n 3, 1, [], 0),
  (267, .i2l, 1, [], 0),
  (268, .invokevirtual 18, 3, [202, 1], 0),
  (271, .iload_n 3, 1, [], 0),
  (272, .invokestatic 424, 3, [1, 255, 1], 0),
  (275, .ireturn, 1, [], 0)]
def k_M_lines : List (List (Nat × Nat)) := [[], [], [(5, 140)], [], [], [(6, 111), (6, 113), (0, 39), (1, 12), (6, 114)], [], [], [], [], [], [], [(6, 202), (6, 204), (0, 47), (1, 12), (6, 205)], [], [], [], [(5, 150)], [], [(5, 152)], [], [], [], [(7, 4), (7, 6), (0, 54), (1, 12), (7, 7)], [], [], [], [(5, 150)], [], [(5, 152)], [], [], [], [(7, 84), (7, 85), (1, 12), (7, 86)], [], [], [(5, 194)], [], [], [(5, 150)], [], [(5, 152)], [], [], [], [], [], [], [], [(5, 194)], [], [], [], [], [], [], [], [], [(5, 152)], [], [], [(5, 152)], [], [], [(5, 152)], [], [(5, 153)], [], [], [], [(5, 152)], [], [], [], [], [(5, 148)], [(7, 17), (7, 19), (0, 57), (1, 12), (7, 20)], [], [], [], [], [], [], [], [], [], [], [], [], [], [(7, 217), (3, 137), (1, 23), (3, 138)], [], [(7, 217), (3, 137), (1, 23), (3, 138)], [], [], [], [], [], [], [], [], [], [], [], [], [(5, 194)], [], [], [(7, 84), (7, 85), (1, 12), (7, 86)], [], [], [], [], [(5, 170)], [], [(5, 194)], [], [], [], [], [], [], [], [], [], [], [(5, 170)], [], [(5, 194)], [], [], [], [], [], [], [], [], [], [], [], [], [], [], [], [], [(5, 141)], [], [], [], [(7, 124), (7, 126), (0, 73), (1, 12), (7, 127)], [], [(7, 217), (3, 137), (1, 23), (3, 138)], []]
def c_M_lot : List zE := [(0, .aload_n 0, 1, [], 0),
  (1, .iconst 0, 1, [], 0),
  (2, .putfield 3, 3, [11, 0], 0),
  (5, .aload_n 0, 1, [], 0),
  (6, .iload_n 1, 1, [], 0),
  (7, .invokevirtual 324, 3, [172, 1], 0),
  (10, .ifCond .ne 5, 3, [15], 0),
  (13, .iconst (-1), 1, [], (-1)),
  (14, .ireturn, 1, [], 0),
  (15, .aload_n 0, 1, [], 0),
  (16, .aload_n 0, 1, [], 0),
  (17, .getfield 38, 3, [11, 8, 4, 100, 81], 0),
  (20, .bipush 80, 2, [], 80),
  (22, .iaload, 1, [], 0),
  (23, .invokevirtual 318, 3, [181, 1], 0),
  (26, .istore_n 2, 1, [], 0),
  (27, .lconst 0, 1, [], 0),
  (28, .lstore_n 3, 1, [], 0),
  (29, .lconst 1, 1, [], 1),
  (30, .lstore 5, 2, [], 0),
  (32, .iconst 2, 1, [], 2),
  (33, .istore 7, 2, [], 0),
  (35, .iload 7, 2, [], 0),
  (37, .aload_n 0, 1, [], 0),
  (38, .getfield 156, 3, [11, 3], 0),
  (41, .if_icmp .gt 17, 3, [58], 0),
  (44, .lload 5, 2, [], 0),
  (46, .iload 7, 2, [], 0),
  (48, .i2l, 1, [], 0),
  (49, .lmul, 1, [], 0),
  (50, .lstore 5, 2, [], 0),
  (52, .iinc 7 1, 3, [], 1),
  (55, .goto (-20), 3, [35], 0),
  (58, .iconst 0, 1, [], 0),
  (59, .istore 7, 2, [], 0),
  (61, .iload 7, 2, [], 0),
  (63, .iconst 1, 1, [], 1),
  (64, .aload_n 0, 1, [], 0),
  (65, .getfield 156, 3, [11, 3], 0),
  (68, .ishl, 1, [], 0),
  (69, .if_icmp .ge 103, 3, [172], 0),
  (72, .iload 7, 2, [], 0),
  (74, .iload_n 1, 1, [], 0),
  (75, .invokestatic 347, 3, [1, 192, 2], 0),
  (78, .ifCond .ne 88, 3, [166], 0),
  (81, .aload_n 0, 1, [], 0),
  (82, .iload 7, 2, [], 0),
  (84, .invokevirtual 429, 3, [226, 1], 0),
  (87, .aload_n 0, 1, [], 0),
  (88, .getfield 35, 3, [11, 7, 3, 100, 8], 0),
  (91, .iload_n 1, 1, [], 0),
  (92, .iaload, 1, [], 0),
  (93, .iadd, 1, [], 0),
  (94, .iload_n 2, 1, [], 0),
  (95, .if_icmp .gt 71, 3, [166], 0),
  (98, .iload 7, 2, [], 0),
  (100, .invokestatic 424, 3, [1, 255, 1], 0),
  (103, .istore 8, 2, [], 0),
  (105, .lconst 1, 1, [], 1),
  (106, .lstore 9, 2, [], 0),
  (108, .iconst 2, 1, [], 2),
  (109, .istore 11, 2, [], 0),
  (111, .iload 11, 2, [], 0),
  (113, .iload 8, 2, [], 0),
  (115, .if_icmp .gt 17, 3, [132], 0),
  (118, .lload 9, 2, [], 0),
  (120, .iload 11, 2, [], 0),
  (122, .i2l, 1, [], 0),
  (123, .lmul, 1, [], 0),
  (124, .lstore 9, 2, [], 0),
  (126, .iinc 11 1, 3, [], 1),
  (129, .goto (-18), 3, [111], 0),
  (132, .iconst 2, 1, [], 2),
  (133, .istore 11, 2, [], 0),
  (135, .iload 11, 2, [], 0),
  (137, .aload_n 0, 1, [], 0),
  (138, .getfield 156, 3, [11, 3], 0),
  (141, .iload 8, 2, [], 0),
  (143, .isub, 1, [], 0),
  (144, .if_icmp .ge 17, 3, [161], 0),
  (147, .lload 9, 2, [], 0),
  (149, .iload 11, 2, [], 0),
  (151, .i2l, 1, [], 0),
  (152, .lmul, 1, [], 0),
  (153, .lstore 9, 2, [], 0),
  (155, .iinc 11 1, 3, [], 1),
  (158, .goto (-23), 3, [135], 0),
  (161, .lload_n 3, 1, [], 0),
  (162, .lload 9, 2, [], 0),
  (164, .ladd, 1, [], 0),
  (165, .lstore_n 3, 1, [], 0),
  (166, .iinc 7 1, 3, [], 1),
  (169, .goto (-108), 3, [61], 0),
  (172, .aload_n 0, 1, [], 0),
  (173, .lload_n 3, 1, [], 0),
  (174, .lload 5, 2, [], 0),
  (176, .invokevirtual 445, 3, [233, 2], 0),
  (179, .iconst 0, 1, [], 0),
  (180, .ireturn, 1, [], 0)]
def k_M_lot : List (List (Nat × Nat)) := [[], [], [(5, 140)], [], [], [(7, 4), (7, 6), (0, 54), (1, 12), (7, 7)], [], [], [], [], [], [(5, 148)], [], [], [(7, 40), (7, 42), (0, 62), (1, 12), (7, 43)], [], [], [], [], [], [], [], [], [], [(5, 143)], [], [], [], [], [], [], [], [], [], [], [], [], [], [(5, 143)], [], [], [], [], [(7, 84), (7, 85), (1, 12), (7, 86)], [], [], [], [(7, 222), (7, 224), (0, 84), (1, 12), (7, 225)], [], [(5, 147)], [], [], [], [], [], [], [(7, 217), (3, 137), (1, 23), (3, 138)], [], [], [], [], [], [], [], [], [], [], [], [], [], [], [], [], [], [], [], [(5, 143)], [], [], [], [], [], [], [], [], [], [], [], [], [], [], [], [], [], [], [], [(8, 10), (8, 12), (0, 87), (1, 12), (8, 13)], [], []]
def c_M_tellsFraction : List zE := [(0, .lload_n 1, 1, [], 0),
  (1, .lload_n 3, 1, [], 0),
  (2, .invokestatic 7, 3, [1, 234, 2], 0),
  (5, .lstore 5, 2, [], 0),
  (7, .aload_n 0, 1, [], 0),
  (8, .iconst 0, 1, [], 0),
  (9, .putfield 15, 3, [11, 1], 0),
  (12, .aload_n 0, 1, [], 0),
  (13, .lload_n 1, 1, [], 0),
  (14, .lload 5, 2, [], 0),
  (16, .ldiv, 1, [], 0),
  (17, .invokevirtual 18, 3, [202, 1], 0),
  (20, .aload_n 0, 1, [], 0),
  (21, .lload_n 3, 1, [], 0),
  (22, .lload 5, 2, [], 0),
  (24, .ldiv, 1, [], 0),
  (25, .invokevirtual 18, 3, [202, 1], 0),
  (28, .return_, 1, [], 0)]
def k_M_tellsFraction : List (List (Nat × Nat)) := [[], [], [(8, 14), (8, 15), (1, 12), (8, 16)], [], [], [], [(5, 141)], [], [], [], [], [(7, 124), (7, 126), (0, 73), (1, 12), (7, 127)], [], [], [], [], [(7, 124), (7, 126), (0, 73), (1, 12), (7, 127)], []]
def c_M_common : List zE := [(0, .lload_n 2, 1, [], 0),
  (1, .lconst 0, 1, [], 0),
  (2, .lcmp, 1, [], 0),
  (3, .ifCond .ne 7, 3, [10], 0),
  (6, .lload_n 0, 1, [], 0),
  (7, .goto 10, 3, [17], 0),
  (10, .lload_n 2, 1, [], 0),
  (11, .lload_n 0, 1, [], 0),
  (12, .lload_n 2, 1, [], 0),
  (13, .lrem, 1, [], 0),
  (14, .invokestatic 7, 3, [1, 234, 2], 0),
  (17, .lreturn, 1, [], 0)]
def k_M_common : List (List (Nat × Nat)) := [[], [], [], [], [], [], [], [], [], [], [(8, 14), (8, 15), (1, 12), (8, 16)], []]
def c_M_shares : List zE := [(0, .aload_n 0, 1, [], 0),
  (1, .iconst 0, 1, [], 0),
  (2, .putfield 3, 3, [11, 0], 0),
  (5, .iload_n 1, 1, [], 0),
  (6, .i2l, 1, [], 0),
  (7, .lconst 0, 1, [], 0),
  (8, .ldc2_w 385, 3, [], 99),
  (11, .invokestatic 159, 3, [1, 151, 3], 0),
  (14, .ifCond .ne 5, 3, [19], 0),
  (17, .iconst (-1), 1, [], (-1)),
  (18, .ireturn, 1, [], 0),
  (19, .aload_n 0, 1, [], 0),
  (20, .invokevirtual 289, 3, [182, 0], 0),
  (23, .istore_n 2, 1, [], 0),
  (24, .iload_n 1, 1, [], 0),
  (25, .istore_n 3, 1, [], 0),
  (26, .iconst 0, 1, [], 0),
  (27, .istore 4, 2, [], 0),
  (29, .iload 4, 2, [], 0),
  (31, .aload_n 0, 1, [], 0),
  (32, .getfield 156, 3, [11, 3], 0),
  (35, .if_icmp .ge 55, 3, [90], 0),
  (38, .aload_n 0, 1, [], 0),
  (39, .getfield 132, 3, [11, 55, 35, 100, 8], 0),
  (42, .iload 4, 2, [], 0),
  (44, .iload_n 1, 1, [], 0),
  (45, .aload_n 0, 1, [], 0),
  (46, .getfield 35, 3, [11, 7, 3, 100, 8], 0),
  (49, .iload 4, 2, [], 0),
  (51, .iaload, 1, [], 0),
  (52, .imul, 1, [], 0),
  (53, .iload_n 2, 1, [], 0),
  (54, .idiv, 1, [], 0),
  (55, .iastore, 1, [], 0),
  (56, .aload_n 0, 1, [], 0),
  (57, .getfield 135, 3, [11, 56, 36, 100, 8], 0),
  (60, .iload 4, 2, [], 0),
  (62, .iload_n 1, 1, [], 0),
  (63, .aload_n 0, 1, [], 0),
  (64, .getfield 35, 3, [11, 7, 3, 100, 8], 0),
  (67, .iload 4, 2, [], 0),
  (69, .iaload, 1, [], 0),
  (70, .imul, 1, [], 0),
  (71, .iload_n 2, 1, [], 0),
  (72, .irem, 1, [], 0),
  (73, .iastore, 1, [], 0),
  (74, .iload_n 3, 1, [], 0),
  (75, .aload_n 0, 1, [], 0),
  (76, .getfield 132, 3, [11, 55, 35, 100, 8], 0),
  (79, .iload 4, 2, [], 0),
  (81, .iaload, 1, [], 0),
  (82, .isub, 1, [], 0),
  (83, .istore_n 3, 1, [], 0),
  (84, .iinc 4 1, 3, [], 1),
  (87, .goto (-58), 3, [29], 0),
  (90, .iload_n 3, 1, [], 0),
  (91, .ifCond .le 82, 3, [173], 0),
  (94, .aload_n 0, 1, [], 0),
  (95, .getfield 156, 3, [11, 3], 0),
  (98, .ifCond .le 75, 3, [173], 0),
  (101, .iconst 0, 1, [], 0),
  (102, .istore 4, 2, [], 0),
  (104, .iconst 1, 1, [], 1),
  (105, .istore 5, 2, [], 0),
  (107, .iload 5, 2, [], 0),
  (109, .aload_n 0, 1, [], 0),
  (110, .getfield 156, 3, [11, 3], 0),
  (113, .if_icmp .ge 35, 3, [148], 0),
  (116, .aload_n 0, 1, [], 0),
  (117, .getfield 135, 3, [11, 56, 36, 100, 8], 0),
  (120, .iload 5, 2, [], 0),
  (122, .iaload, 1, [], 0),
  (123, .aload_n 0, 1, [], 0),
  (124, .getfield 135, 3, [11, 56, 36, 100, 8], 0),
  (127, .iload 4, 2, [], 0),
  (129, .iaload, 1, [], 0),
  (130, .if_icmp .le 8, 3, [138], 0),
  (133, .iload 5, 2, [], 0),
  (135, .goto 5, 3, [140], 0),
  (138, .iload 4, 2, [], 0),
  (140, .istore 4, 2, [], 0),
  (142, .iinc 5 1, 3, [], 1),
  (145, .goto (-38), 3, [107], 0),
  (148, .aload_n 0, 1, [], 0),
  (149, .getfield 132, 3, [11, 55, 35, 100, 8], 0),
  (152, .iload 4, 2, [], 0),
  (154, .dup2, 1, [], 0),
  (155, .iaload, 1, [], 0),
  (156, .iconst 1, 1, [], 1),
  (157, .iadd, 1, [], 0),
  (158, .iastore, 1, [], 0),
  (159, .aload_n 0, 1, [], 0),
  (160, .getfield 135, 3, [11, 56, 36, 100, 8], 0),
  (163, .iload 4, 2, [], 0),
  (165, .iconst (-1), 1, [], (-1)),
  (166, .iastore, 1, [], 0),
  (167, .iinc 3 (-1), 3, [], (-1)),
  (170, .goto (-80), 3, [90], 0),
  (173, .aload_n 0, 1, [], 0),
  (174, .iconst 0, 1, [], 0),
  (175, .putfield 15, 3, [11, 1], 0),
  (178, .iconst 0, 1, [], 0),
  (179, .istore 4, 2, [], 0),
  (181, .iload 4, 2, [], 0),
  (183, .aload_n 0, 1, [], 0),
  (184, .getfield 156, 3, [11, 3], 0),
  (187, .if_icmp .ge 21, 3, [208], 0),
  (190, .aload_n 0, 1, [], 0),
  (191, .aload_n 0, 1, [], 0),
  (192, .getfield 132, 3, [11, 55, 35, 100, 8], 0),
  (195, .iload 4, 2, [], 0),
  (197, .iaload, 1, [], 0),
  (198, .i2l, 1, [], 0),
  (199, .invokevirtual 18, 3, [202, 1], 0),
  (202, .iinc 4 1, 3, [], 1),
  (205, .goto (-24), 3, [181], 0),
  (208, .aload_n 0, 1, [], 0),
  (209, .getfield 156, 3, [11, 3], 0),
  (212, .ifCond .ne 7, 3, [219], 0),
  (215, .iconst 0, 1, [], 0),
  (216, .goto 9, 3, [225], 0),
  (219, .aload_n 0, 1, [], 0),
  (220, .getfield 132, 3, [11, 55, 35, 100, 8], 0),
  (223, .iconst 0, 1, [], 0),
  (224, .iaload, 1, [], 0),
  (225, .ireturn, 1, [], 0)]
def k_M_shares : List (List (Nat × Nat)) := [[], [], [(5, 140)], [], [], [], [(7, 155)], [(6, 104), (6, 105), (1, 12), (6, 106)], [], [], [], [], [(7, 44), (7, 46), (0, 63), (1, 12), (7, 47)], [], [], [], [], [], [], [], [(5, 143)], [], [], [(5, 195)], [], [], [], [(5, 147)], [], [], [], [], [], [], [], [(5, 196)], [], [], [], [(5, 147)], [], [], [], [], [], [], [], [], [(5, 195)], [], [], [], [], [], [], [], [], [], [(5, 143)], [], [], [], [], [], [], [], [(5, 143)], [], [], [(5, 196)], [], [], [], [(5, 196)], [], [], [], [], [], [], [], [], [], [], [(5, 195)], [], [], [], [], [], [], [], [(5, 196)], [], [], [], [], [], [], [], [(5, 141)], [], [], [], [], [(5, 143)], [], [], [], [(5, 195)], [], [], [], [(7, 124), (7, 126), (0, 73), (1, 12), (7, 127)], [], [], [], [(5, 143)], [], [], [], [], [(5, 195)], [], [], []]
def c_M_saw : List zE := [(0, .aload_n 0, 1, [], 0),
  (1, .iconst 0, 1, [], 0),
  (2, .putfield 3, 3, [11, 0], 0),
  (5, .aload_n 0, 1, [], 0),
  (6, .iload_n 1, 1, [], 0),
  (7, .invokevirtual 324, 3, [172, 1], 0),
  (10, .ifCond .eq 25, 3, [35], 0),
  (13, .aload_n 0, 1, [], 0),
  (14, .iload_n 2, 1, [], 0),
  (15, .invokevirtual 324, 3, [172, 1], 0),
  (18, .ifCond .eq 17, 3, [35], 0),
  (21, .iload_n 1, 1, [], 0),
  (22, .iload_n 2, 1, [], 0),
  (23, .if_icmp .eq 12, 3, [35], 0),
  (26, .aload_n 0, 1, [], 0),
  (27, .getfield 449, 3, [11, 57], 0),
  (30, .bipush 8, 2, [], 8),
  (32, .if_icmp .ne 5, 3, [37], 0),
  (35, .iconst (-1), 1, [], (-1)),
  (36, .ireturn, 1, [], 0),
  (37, .aload_n 0, 1, [], 0),
  (38, .getfield 138, 3, [11, 58, 37, 100, 8], 0),
  (41, .aload_n 0, 1, [], 0),
  (42, .getfield 449, 3, [11, 57], 0),
  (45, .iload_n 1, 1, [], 0),
  (46, .iastore, 1, [], 0),
  (47, .aload_n 0, 1, [], 0),
  (48, .getfield 141, 3, [11, 59, 38, 100, 8], 0),
  (51, .aload_n 0, 1, [], 0),
  (52, .getfield 449, 3, [11, 57], 0),
  (55, .iload_n 2, 1, [], 0),
  (56, .iastore, 1, [], 0),
  (57, .aload_n 0, 1, [], 0),
  (58, .dup, 1, [], 0),
  (59, .getfield 449, 3, [11, 57], 0),
  (62, .iconst 1, 1, [], 1),
  (63, .iadd, 1, [], 0),
  (64, .putfield 449, 3, [11, 57], 0),
  (67, .aload_n 0, 1, [], 0),
  (68, .getfield 449, 3, [11, 57], 0),
  (71, .ireturn, 1, [], 0)]
def k_M_saw : List (List (Nat × Nat)) := [[], [], [(5, 140)], [], [], [(7, 4), (7, 6), (0, 54), (1, 12), (7, 7)], [], [], [], [(7, 4), (7, 6), (0, 54), (1, 12), (7, 7)], [], [], [], [], [], [(5, 197)], [], [], [], [], [], [(5, 198)], [], [(5, 197)], [], [], [], [(5, 199)], [], [(5, 197)], [], [], [], [], [(5, 197)], [], [], [(5, 197)], [], [(5, 197)], []]
def c_M_forget : List zE := [(0, .aload_n 0, 1, [], 0),
  (1, .iconst 0, 1, [], 0),
  (2, .putfield 3, 3, [11, 0], 0),
  (5, .aload_n 0, 1, [], 0),
  (6, .getfield 449, 3, [11, 57], 0),
  (9, .istore_n 1, 1, [], 0),
  (10, .aload_n 0, 1, [], 0),
  (11, .iconst 0, 1, [], 0),
  (12, .putfield 449, 3, [11, 57], 0),
  (15, .iload_n 1, 1, [], 0),
  (16, .ireturn, 1, [], 0)]
def k_M_forget : List (List (Nat × Nat)) := [[], [], [(5, 140)], [], [(5, 197)], [], [], [], [(5, 197)], [], []]
def c_M_fits : List zE := [(0, .aload_n 0, 1, [], 0),
  (1, .iconst 0, 1, [], 0),
  (2, .putfield 3, 3, [11, 0], 0),
  (5, .aload_n 0, 1, [], 0),
  (6, .invokevirtual 452, 3, [239, 0], 0),
  (9, .aload_n 0, 1, [], 0),
  (10, .iconst 0, 1, [], 0),
  (11, .invokevirtual 418, 3, [220, 1], 0),
  (14, .pop, 1, [], 0),
  (15, .aload_n 0, 1, [], 0),
  (16, .aload_n 0, 1, [], 0),
  (17, .getfield 408, 3, [11, 46], 0),
  (20, .ifCond .ne 7, 3, [27], 0),
  (23, .iconst 0, 1, [], 0),
  (24, .goto 7, 3, [31], 0),
  (27, .aload_n 0, 1, [], 0),
  (28, .getfield 15, 3, [11, 1], 0),
  (31, .putfield 15, 3, [11, 1], 0),
  (34, .aload_n 0, 1, [], 0),
  (35, .getfield 408, 3, [11, 46], 0),
  (38, .ireturn, 1, [], 0)]
def k_M_fits : List (List (Nat × Nat)) := [[], [], [(5, 140)], [], [(8, 33), (8, 35), (0, 88), (1, 12), (8, 36)], [], [], [(7, 197), (7, 199), (0, 82), (1, 12), (7, 200)], [], [], [], [(5, 186)], [], [], [], [], [(5, 141)], [(5, 141)], [], [(5, 186)], []]
def c_M_laysFits : List zE := [(0, .aload_n 0, 1, [], 0),
  (1, .aload_n 0, 1, [], 0),
  (2, .getfield 38, 3, [11, 8, 4, 100, 81], 0),
  (5, .invokevirtual 305, 3, [176, 1], 0),
  (8, .aload_n 0, 1, [], 0),
  (9, .iconst 0, 1, [], 0),
  (10, .putfield 408, 3, [11, 46], 0),
  (13, .iconst 0, 1, [], 0),
  (14, .istore_n 1, 1, [], 0),
  (15, .iload_n 1, 1, [], 0),
  (16, .bipush 64, 2, [], 64),
  (18, .if_icmp .ge 16, 3, [34], 0),
  (21, .aload_n 0, 1, [], 0),
  (22, .getfield 114, 3, [11, 47, 29, 100, 64], 0),
  (25, .iload_n 1, 1, [], 0),
  (26, .iconst 0, 1, [], 0),
  (27, .iastore, 1, [], 0),
  (28, .iinc 1 1, 3, [], 1),
  (31, .goto (-16), 3, [15], 0),
  (34, .aload_n 0, 1, [], 0),
  (35, .iconst 0, 1, [], 0),
  (36, .iconst 0, 1, [], 0),
  (37, .iconst 2, 1, [], 2),
  (38, .invokevirtual 414, 3, [216, 3], 0),
  (41, .return_, 1, [], 0)]
def k_M_laysFits : List (List (Nat × Nat)) := [[], [], [(5, 148)], [(7, 21), (7, 23), (0, 58), (1, 12), (7, 24)], [], [], [(5, 186)], [], [], [], [], [], [], [(5, 187)], [], [], [], [], [], [], [], [], [], [(7, 181), (7, 183), (0, 78), (1, 12), (7, 184)], []]
def c_M_sure : List zE := [(0, .aload_n 0, 1, [], 0),
  (1, .iconst 0, 1, [], 0),
  (2, .putfield 3, 3, [11, 0], 0),
  (5, .iload_n 1, 1, [], 0),
  (6, .invokestatic 455, 3, [1, 241, 1], 0),
  (9, .ifCond .eq 15, 3, [24], 0),
  (12, .iload_n 2, 1, [], 0),
  (13, .invokestatic 455, 3, [1, 241, 1], 0),
  (16, .ifCond .eq 8, 3, [24], 0),
  (19, .iload_n 1, 1, [], 0),
  (20, .iload_n 2, 1, [], 0),
  (21, .if_icmp .ne 5, 3, [26], 0),
  (24, .iconst (-1), 1, [], (-1)),
  (25, .ireturn, 1, [], 0),
  (26, .aload_n 0, 1, [], 0),
  (27, .invokevirtual 452, 3, [239, 0], 0),
  (30, .aload_n 0, 1, [], 0),
  (31, .getfield 114, 3, [11, 47, 29, 100, 64], 0),
  (34, .bipush 8, 2, [], 8),
  (36, .iload_n 1, 1, [], 0),
  (37, .imul, 1, [], 0),
  (38, .iload_n 2, 1, [], 0),
  (39, .iadd, 1, [], 0),
  (40, .iaload, 1, [], 0),
  (41, .istore_n 3, 1, [], 0),
  (42, .aload_n 0, 1, [], 0),
  (43, .iload_n 3, 1, [], 0),
  (44, .i2l, 1, [], 0),
  (45, .iconst 1, 1, [], 1),
  (46, .aload_n 0, 1, [], 0),
  (47, .getfield 408, 3, [11, 46], 0),
  (50, .invokestatic 295, 3, [4], 0),
  (53, .i2l, 1, [], 0),
  (54, .invokevirtual 445, 3, [233, 2], 0),
  (57, .iload_n 3, 1, [], 0),
  (58, .ireturn, 1, [], 0)]
def k_M_sure : List (List (Nat × Nat)) := [[], [], [(5, 140)], [], [(8, 41), (8, 42), (1, 12), (8, 43)], [], [], [(8, 41), (8, 42), (1, 12), (8, 43)], [], [], [], [], [], [], [], [(8, 33), (8, 35), (0, 88), (1, 12), (8, 36)], [], [(5, 187)], [], [], [], [], [], [], [], [], [], [], [], [], [(5, 186)], [(7, 58)], [], [(8, 10), (8, 12), (0, 87), (1, 12), (8, 13)], [], []]
def c_M_isLetter : List zE := [(0, .iload_n 0, 1, [], 0),
  (1, .i2l, 1, [], 0),
  (2, .lconst 0, 1, [], 0),
  (3, .ldc2_w 163, 3, [], 7),
  (6, .invokestatic 159, 3, [1, 151, 3], 0),
  (9, .ireturn, 1, [], 1)]
def k_M_isLetter : List (List (Nat × Nat)) := [[], [], [], [(8, 44)], [(6, 104), (6, 105), (1, 12), (6, 106)], []]
def c_M_ask : List zE := [(0, .aload_n 0, 1, [], 0),
  (1, .iconst 0, 1, [], 0),
  (2, .putfield 3, 3, [11, 0], 0),
  (5, .aload_n 0, 1, [], 0),
  (6, .invokevirtual 452, 3, [239, 0], 0),
  (9, .aload_n 0, 1, [], 0),
  (10, .getfield 408, 3, [11, 46], 0),
  (13, .ifCond .ne 6, 3, [19], 0),
  (16, .bipush (-2), 2, [], (-2)),
  (18, .ireturn, 1, [], 0),
  (19, .iconst (-1), 1, [], (-1)),
  (20, .istore_n 1, 1, [], 0),
  (21, .iconst (-1), 1, [], (-1)),
  (22, .istore_n 2, 1, [], 0),
  (23, .ldc_w 417, 3, [], 1000000),
  (26, .istore_n 3, 1, [], 0),
  (27, .iconst 0, 1, [], 0),
  (28, .istore 4, 2, [], 0),
  (30, .iload 4, 2, [], 0),
  (32, .bipush 8, 2, [], 8),
  (34, .if_icmp .ge 74, 3, [108], 0),
  (37, .iload 4, 2, [], 0),
  (39, .iconst 1, 1, [], 1),
  (40, .iadd, 1, [], 0),
  (41, .istore 5, 2, [], 0),
  (43, .iload 5, 2, [], 0),
  (45, .bipush 8, 2, [], 8),
  (47, .if_icmp .ge 55, 3, [102], 0),
  (50, .aload_n 0, 1, [], 0),
  (51, .getfield 114, 3, [11, 47, 29, 100, 64], 0),
  (54, .bipush 8, 2, [], 8),
  (56, .iload 4, 2, [], 0),
  (58, .imul, 1, [], 0),
  (59, .iload 5, 2, [], 0),
  (61, .iadd, 1, [], 0),
  (62, .iaload, 1, [], 0),
  (63, .aload_n 0, 1, [], 0),
  (64, .getfield 114, 3, [11, 47, 29, 100, 64], 0),
  (67, .bipush 8, 2, [], 8),
  (69, .iload 5, 2, [], 0),
  (71, .imul, 1, [], 0),
  (72, .iload 4, 2, [], 0),
  (74, .iadd, 1, [], 0),
  (75, .iaload, 1, [], 0),
  (76, .invokestatic 295, 3, [4], 0),
  (79, .istore 6, 2, [], 0),
  (81, .iload 6, 2, [], 0),
  (83, .iload_n 3, 1, [], 0),
  (84, .if_icmp .ge 12, 3, [96], 0),
  (87, .iload 6, 2, [], 0),
  (89, .istore_n 3, 1, [], 0),
  (90, .iload 4, 2, [], 0),
  (92, .istore_n 1, 1, [], 0),
  (93, .iload 5, 2, [], 0),
  (95, .istore_n 2, 1, [], 0),
  (96, .iinc 5 1, 3, [], 1),
  (99, .goto (-56), 3, [43], 0),
  (102, .iinc 4 1, 3, [], 1),
  (105, .goto (-75), 3, [30], 0),
  (108, .aload_n 0, 1, [], 0),
  (109, .iconst 0, 1, [], 0),
  (110, .putfield 15, 3, [11, 1], 0),
  (113, .aload_n 0, 1, [], 0),
  (114, .iload_n 1, 1, [], 0),
  (115, .i2l, 1, [], 0),
  (116, .invokevirtual 18, 3, [202, 1], 0),
  (119, .aload_n 0, 1, [], 0),
  (120, .iload_n 2, 1, [], 0),
  (121, .i2l, 1, [], 0),
  (122, .invokevirtual 18, 3, [202, 1], 0),
  (125, .iload_n 3, 1, [], 0),
  (126, .ireturn, 1, [], 0)]
def k_M_ask : List (List (Nat × Nat)) := [[], [], [(5, 140)], [], [(8, 33), (8, 35), (0, 88), (1, 12), (8, 36)], [], [(5, 186)], [], [], [], [], [], [], [], [(7, 180)], [], [], [], [], [], [], [], [], [], [], [], [], [], [], [(5, 187)], [], [], [], [], [], [], [], [(5, 187)], [], [], [], [], [], [], [(7, 58)], [], [], [], [], [], [], [], [], [], [], [], [], [], [], [], [], [(5, 141)], [], [], [], [(7, 124), (7, 126), (0, 73), (1, 12), (7, 127)], [], [], [], [(7, 124), (7, 126), (0, 73), (1, 12), (7, 127)], [], []]
def c_M_law : List zE := [(0, .aload_n 0, 1, [], 0),
  (1, .iconst 0, 1, [], 0),
  (2, .putfield 3, 3, [11, 0], 0),
  (5, .aload_n 0, 1, [], 0),
  (6, .invokevirtual 278, 3, [166, 0], 0),
  (9, .istore_n 1, 1, [], 0),
  (10, .iload_n 1, 1, [], 0),
  (11, .ifCond .ge 11, 3, [22], 0),
  (14, .iload_n 1, 1, [], 0),
  (15, .iconst 1, 1, [], 1),
  (16, .iadd, 1, [], 0),
  (17, .sipush 10000, 3, [], 10000),
  (20, .isub, 1, [], 0),
  (21, .ireturn, 1, [], 0),
  (22, .aload_n 0, 1, [], 0),
  (23, .bipush 10, 2, [], 10),
  (25, .invokevirtual 458, 3, [244, 1], 0),
  (28, .istore_n 2, 1, [], 0),
  (29, .aload_n 0, 1, [], 0),
  (30, .getfield 275, 3, [11, 22], 0),
  (33, .istore_n 3, 1, [], 0),
  (34, .iconst 0, 1, [], 0),
  (35, .istore 4, 2, [], 0),
  (37, .iload 4, 2, [], 0),
  (39, .aload_n 0, 1, [], 0),
  (40, .getfield 275, 3, [11, 22], 0),
  (43, .if_icmp .ge 23, 3, [66], 0),
  (46, .aload_n 0, 1, [], 0),
  (47, .getfield 144, 3, [11, 60, 39, 100, 80], 0),
  (50, .iload 4, 2, [], 0),
  (52, .aload_n 0, 1, [], 0),
  (53, .getfield 59, 3, [11, 20, 11, 100, 80], 0),
  (56, .iload 4, 2, [], 0),
  (58, .iaload, 1, [], 0),
  (59, .iastore, 1, [], 0),
  (60, .iinc 4 1, 3, [], 1),
  (63, .goto (-26), 3, [37], 0),
  (66, .aload_n 0, 1, [], 0),
  (67, .aload_n 0, 1, [], 0),
  (68, .getfield 62, 3, [11, 21, 12, 100, 80], 0),
  (71, .aload_n 0, 1, [], 0),
  (72, .getfield 254, 3, [11, 23], 0),
  (75, .invokevirtual 281, 3, [170, 2], 0),
  (78, .aload_n 0, 1, [], 0),
  (79, .bipush 10, 2, [], 10),
  (81, .invokevirtual 458, 3, [244, 1], 0),
  (84, .istore 4, 2, [], 0),
  (86, .aload_n 0, 1, [], 0),
  (87, .aload_n 0, 1, [], 0),
  (88, .getfield 144, 3, [11, 60, 39, 100, 80], 0),
  (91, .iload_n 3, 1, [], 0),
  (92, .invokevirtual 281, 3, [170, 2], 0),
  (95, .aload_n 0, 1, [], 0),
  (96, .iconst 0, 1, [], 0),
  (97, .putfield 15, 3, [11, 1], 0),
  (100, .aload_n 0, 1, [], 0),
  (101, .iload 4, 2, [], 0),
  (103, .i2l, 1, [], 0),
  (104, .invokevirtual 18, 3, [202, 1], 0),
  (107, .aload_n 0, 1, [], 0),
  (108, .iload_n 2, 1, [], 0),
  (109, .i2l, 1, [], 0),
  (110, .invokevirtual 18, 3, [202, 1], 0),
  (113, .iload 4, 2, [], 0),
  (115, .iload_n 2, 1, [], 0),
  (116, .isub, 1, [], 0),
  (117, .ireturn, 1, [], 0)]
def k_M_law : List (List (Nat × Nat)) := [[], [], [(5, 140)], [], [(6, 216), (6, 218), (0, 49), (1, 12), (6, 219)], [], [], [], [], [], [], [], [], [], [], [], [(8, 53), (8, 55), (0, 89), (1, 12), (8, 56)], [], [], [(5, 162)], [], [], [], [], [], [(5, 162)], [], [], [(5, 200)], [], [], [(5, 160)], [], [], [], [], [], [], [], [(5, 161)], [], [(5, 163)], [(6, 236), (6, 238), (0, 53), (1, 12), (6, 239)], [], [], [(8, 53), (8, 55), (0, 89), (1, 12), (8, 56)], [], [], [], [(5, 200)], [], [(6, 236), (6, 238), (0, 53), (1, 12), (6, 239)], [], [], [(5, 141)], [], [], [], [(7, 124), (7, 126), (0, 73), (1, 12), (7, 127)], [], [], [], [(7, 124), (7, 126), (0, 73), (1, 12), (7, 127)], [], [], [], []]
def c_M_lessIn : List zE := [(0, .aload_n 0, 1, [], 0),
  (1, .invokevirtual 390, 3, [213, 0], 0),
  (4, .iconst 0, 1, [], 0),
  (5, .istore_n 2, 1, [], 0),
  (6, .iload_n 2, 1, [], 0),
  (7, .iload_n 1, 1, [], 0),
  (8, .if_icmp .ge 18, 3, [26], 0),
  (11, .aload_n 0, 1, [], 0),
  (12, .aload_n 0, 1, [], 0),
  (13, .getfield 41, 3, [11, 9, 5, 100, 81], 0),
  (16, .invokevirtual 364, 3, [200, 1], 0),
  (19, .pop, 1, [], 0),
  (20, .iinc 2 1, 3, [], 1),
  (23, .goto (-17), 3, [6], 0),
  (26, .aload_n 0, 1, [], 0),
  (27, .getfield 41, 3, [11, 9, 5, 100, 81], 0),
  (30, .bipush 64, 2, [], 64),
  (32, .aload_n 0, 1, [], 0),
  (33, .getfield 156, 3, [11, 3], 0),
  (36, .invokestatic 165, 3, [1, 183, 3], 0),
  (39, .aload_n 0, 1, [], 0),
  (40, .getfield 38, 3, [11, 8, 4, 100, 81], 0),
  (43, .bipush 64, 2, [], 64),
  (45, .aload_n 0, 1, [], 0),
  (46, .getfield 156, 3, [11, 3], 0),
  (49, .invokestatic 165, 3, [1, 183, 3], 0),
  (52, .isub, 1, [], 0),
  (53, .ireturn, 1, [], 0)]
def k_M_lessIn : List (List (Nat × Nat)) := [[], [(7, 168), (7, 170), (0, 77), (1, 12), (7, 171)], [], [], [], [], [], [], [], [(5, 149)], [(7, 116), (7, 118), (0, 71), (1, 12), (7, 119)], [], [], [], [], [(5, 149)], [], [], [(5, 143)], [(7, 48), (7, 49), (1, 12), (7, 50)], [], [(5, 148)], [], [], [(5, 143)], [(7, 48), (7, 49), (1, 12), (7, 50)], [], []]
def c_M_rests : List zE := [(0, .aload_n 0, 1, [], 0),
  (1, .iconst 0, 1, [], 0),
  (2, .putfield 3, 3, [11, 0], 0),
  (5, .iload_n 1, 1, [], 0),
  (6, .i2l, 1, [], 0),
  (7, .lconst 0, 1, [], 0),
  (8, .ldc2_w 467, 3, [], 18),
  (11, .invokestatic 159, 3, [1, 151, 3], 0),
  (14, .ifCond .ne 5, 3, [19], 0),
  (17, .iconst (-1), 1, [], (-1)),
  (18, .ireturn, 1, [], 0),
  (19, .iconst 0, 1, [], 0),
  (20, .istore_n 2, 1, [], 0),
  (21, .aload_n 0, 1, [], 0),
  (22, .iconst 0, 1, [], 0),
  (23, .putfield 15, 3, [11, 1], 0),
  (26, .iconst 0, 1, [], 0),
  (27, .istore_n 3, 1, [], 0),
  (28, .iload_n 3, 1, [], 0),
  (29, .bipush 9, 2, [], 9),
  (31, .if_icmp .gt 55, 3, [86], 0),
  (34, .iconst 0, 1, [], 0),
  (35, .istore 4, 2, [], 0),
  (37, .iload 4, 2, [], 0),
  (39, .bipush 9, 2, [], 9),
  (41, .if_icmp .gt 39, 3, [80], 0),
  (44, .iload_n 3, 1, [], 0),
  (45, .iload 4, 2, [], 0),
  (47, .iload_n 1, 1, [], 0),
  (48, .invokestatic 469, 3, [1, 246, 3], 0),
  (51, .ifCond .eq 23, 3, [74], 0),
  (54, .iload_n 2, 1, [], 0),
  (55, .ifCond .ne 16, 3, [71], 0),
  (58, .aload_n 0, 1, [], 0),
  (59, .iload_n 3, 1, [], 0),
  (60, .i2l, 1, [], 0),
  (61, .invokevirtual 18, 3, [202, 1], 0),
  (64, .aload_n 0, 1, [], 0),
  (65, .iload 4, 2, [], 0),
  (67, .i2l, 1, [], 0),
  (68, .invokevirtual 18, 3, [202, 1], 0),
  (71, .iinc 2 1, 3, [], 1),
  (74, .iinc 4 1, 3, [], 1),
  (77, .goto (-40), 3, [37], 0),
  (80, .iinc 3 1, 3, [], 1),
  (83, .goto (-55), 3, [28], 0),
  (86, .iload_n 2, 1, [], 0),
  (87, .ireturn, 1, [], 0)]
def k_M_rests : List (List (Nat × Nat)) := [[], [], [(5, 140)], [], [], [], [(8, 61)], [(6, 104), (6, 105), (1, 12), (6, 106)], [], [], [], [], [], [], [], [(5, 141)], [], [], [], [], [], [], [], [], [], [], [], [], [], [(8, 62), (8, 63), (1, 12), (8, 64)], [], [], [], [], [], [], [(7, 124), (7, 126), (0, 73), (1, 12), (7, 127)], [], [], [], [(7, 124), (7, 126), (0, 73), (1, 12), (7, 127)], [], [], [], [], [], [], []]
def c_M_isRest : List zE := [(0, .iconst 1, 1, [], 1),
  (1, .istore_n 3, 1, [], 0),
  (2, .iconst 0, 1, [], 0),
  (3, .istore 4, 2, [], 0),
  (5, .iload 4, 2, [], 0),
  (7, .bipush 9, 2, [], 9),
  (9, .if_icmp .gt 49, 3, [58], 0),
  (12, .iload_n 3, 1, [], 0),
  (13, .ifCond .eq 37, 3, [50], 0),
  (16, .iload 4, 2, [], 0),
  (18, .iload_n 2, 1, [], 0),
  (19, .invokestatic 461, 3, [1, 247, 2], 0),
  (22, .iload_n 0, 1, [], 0),
  (23, .iload_n 2, 1, [], 0),
  (24, .invokestatic 461, 3, [1, 247, 2], 0),
  (27, .if_icmp .gt 23, 3, [50], 0),
  (30, .iload_n 0, 1, [], 0),
  (31, .iload 4, 2, [], 0),
  (33, .iload_n 2, 1, [], 0),
  (34, .invokestatic 464, 3, [1, 248, 3], 0),
  (37, .iload_n 0, 1, [], 0),
  (38, .iload_n 1, 1, [], 0),
  (39, .iload_n 2, 1, [], 0),
  (40, .invokestatic 464, 3, [1, 248, 3], 0),
  (43, .if_icmp .gt 7, 3, [50], 0),
  (46, .iconst 1, 1, [], 1),
  (47, .goto 4, 3, [51], 0),
  (50, .iconst 0, 1, [], 0),
  (51, .istore_n 3, 1, [], 0),
  (52, .iinc 4 1, 3, [], 1),
  (55, .goto (-50), 3, [5], 0),
  (58, .iload_n 3, 1, [], 0),
  (59, .ireturn, 1, [], 1)]
def k_M_isRest : List (List (Nat × Nat)) := [[], [], [], [], [], [], [], [], [], [], [], [(8, 65), (8, 66), (1, 12), (8, 67)], [], [], [(8, 65), (8, 66), (1, 12), (8, 67)], [], [], [], [], [(8, 68), (8, 69), (1, 12), (8, 70)], [], [], [], [(8, 68), (8, 69), (1, 12), (8, 70)], [], [], [], [], [], [], [], [], []]
def c_M_firstHas : List zE := [(0, .iload_n 0, 1, [], 0),
  (1, .iload_n 1, 1, [], 0),
  (2, .invokestatic 178, 3, [3], 0),
  (5, .iload_n 0, 1, [], 0),
  (6, .iconst 3, 1, [], 3),
  (7, .idiv, 1, [], 0),
  (8, .isub, 1, [], 0),
  (9, .ireturn, 1, [], 0)]
def k_M_firstHas : List (List (Nat × Nat)) := [[], [], [(6, 115)], [], [], [], [], []]
def c_M_otherHas : List zE := [(0, .iload_n 1, 1, [], 0),
  (1, .iload_n 2, 1, [], 0),
  (2, .iload_n 0, 1, [], 0),
  (3, .iload_n 2, 1, [], 0),
  (4, .invokestatic 178, 3, [3], 0),
  (7, .isub, 1, [], 0),
  (8, .invokestatic 178, 3, [3], 0),
  (11, .iload_n 1, 1, [], 0),
  (12, .iconst 3, 1, [], 3),
  (13, .idiv, 1, [], 0),
  (14, .isub, 1, [], 0),
  (15, .ireturn, 1, [], 0)]
def k_M_otherHas : List (List (Nat × Nat)) := [[], [], [], [], [(6, 115)], [], [(6, 115)], [], [], [], [], []]
def c_M_years : List zE := [(0, .aload_n 0, 1, [], 0),
  (1, .iconst 0, 1, [], 0),
  (2, .putfield 3, 3, [11, 0], 0),
  (5, .iload_n 2, 1, [], 0),
  (6, .i2l, 1, [], 0),
  (7, .lconst 1, 1, [], 1),
  (8, .ldc2_w 362, 3, [], 60),
  (11, .invokestatic 159, 3, [1, 151, 3], 0),
  (14, .ifCond .ne 5, 3, [19], 0),
  (17, .iconst (-1), 1, [], (-1)),
  (18, .ireturn, 1, [], 0),
  (19, .aload_n 0, 1, [], 0),
  (20, .iload_n 1, 1, [], 0),
  (21, .putfield 473, 3, [11, 61], 0),
  (24, .aload_n 0, 1, [], 0),
  (25, .invokevirtual 390, 3, [213, 0], 0),
  (28, .iconst 0, 1, [], 0),
  (29, .istore_n 3, 1, [], 0),
  (30, .iload_n 3, 1, [], 0),
  (31, .iload_n 2, 1, [], 0),
  (32, .if_icmp .ge 86, 3, [118], 0),
  (35, .aload_n 0, 1, [], 0),
  (36, .iconst 5, 1, [], 5),
  (37, .invokevirtual 477, 3, [250, 1], 0),
  (40, .istore 4, 2, [], 0),
  (42, .iload 4, 2, [], 0),
  (44, .iconst 3, 1, [], 3),
  (45, .if_icmp .ge 15, 3, [60], 0),
  (48, .aload_n 0, 1, [], 0),
  (49, .aload_n 0, 1, [], 0),
  (50, .getfield 41, 3, [11, 9, 5, 100, 81], 0),
  (53, .invokevirtual 364, 3, [200, 1], 0),
  (56, .pop, 1, [], 0),
  (57, .goto 55, 3, [112], 0),
  (60, .iload 4, 2, [], 0),
  (62, .iconst 4, 1, [], 4),
  (63, .if_icmp .ne 13, 3, [76], 0),
  (66, .aload_n 0, 1, [], 0),
  (67, .getfield 41, 3, [11, 9, 5, 100, 81], 0),
  (70, .invokestatic 376, 3, [1, 207, 1], 0),
  (73, .goto 39, 3, [112], 0),
  (76, .aload_n 0, 1, [], 0),
  (77, .getfield 156, 3, [11, 3], 0),
  (80, .ifCond .le 32, 3, [112], 0),
  (83, .aload_n 0, 1, [], 0),
  (84, .aload_n 0, 1, [], 0),
  (85, .getfield 156, 3, [11, 3], 0),
  (88, .invokevirtual 477, 3, [250, 1], 0),
  (91, .istore 5, 2, [], 0),
  (93, .aload_n 0, 1, [], 0),
  (94, .aload_n 0, 1, [], 0),
  (95, .getfield 41, 3, [11, 9, 5, 100, 81], 0),
  (98, .iload 5, 2, [], 0),
  (100, .aload_n 0, 1, [], 0),
  (101, .aload_n 0, 1, [], 0),
  (102, .getfield 156, 3, [11, 3], 0),
  (105, .invokevirtual 477, 3, [250, 1], 0),
  (108, .invokevirtual 359, 3, [198, 3], 0),
  (111, .pop, 1, [], 0),
  (112, .iinc 3 1, 3, [], 1),
  (115, .goto (-85), 3, [30], 0),
  (118, .aload_n 0, 1, [], 0),
  (119, .getfield 41, 3, [11, 9, 5, 100, 81], 0),
  (122, .bipush 64, 2, [], 64),
  (124, .aload_n 0, 1, [], 0),
  (125, .getfield 156, 3, [11, 3], 0),
  (128, .invokestatic 165, 3, [1, 183, 3], 0),
  (131, .aload_n 0, 1, [], 0),
  (132, .getfield 38, 3, [11, 8, 4, 100, 81], 0),
  (135, .bipush 64, 2, [], 64),
  (137, .aload_n 0, 1, [], 0),
  (138, .getfield 156, 3, [11, 3], 0),
  (141, .invokestatic 165, 3, [1, 183, 3], 0),
  (144, .isub, 1, [], 0),
  (145, .istore_n 3, 1, [], 0),
  (146, .iconst 0, 1, [], 0),
  (147, .istore 4, 2, [], 0),
  (149, .iconst 0, 1, [], 0),
  (150, .istore 5, 2, [], 0),
  (152, .iload 5, 2, [], 0),
  (154, .aload_n 0, 1, [], 0),
  (155, .getfield 156, 3, [11, 3], 0),
  (158, .if_icmp .ge 26, 3, [184], 0),
  (161, .iload 4, 2, [], 0),
  (163, .aload_n 0, 1, [], 0),
  (164, .getfield 41, 3, [11, 9, 5, 100, 81], 0),
  (167, .bipush 64, 2, [], 64),
  (169, .iload 5, 2, [], 0),
  (171, .iadd, 1, [], 0),
  (172, .iaload, 1, [], 0),
  (173, .invokestatic 295, 3, [4], 0),
  (176, .istore 4, 2, [], 0),
  (178, .iinc 5 1, 3, [], 1),
  (181, .goto (-29), 3, [152], 0),
  (184, .aload_n 0, 1, [], 0),
  (185, .aload_n 0, 1, [], 0),
  (186, .getfield 41, 3, [11, 9, 5, 100, 81], 0),
  (189, .invokevirtual 315, 3, [175, 1], 0),
  (192, .aload_n 0, 1, [], 0),
  (193, .iconst 0, 1, [], 0),
  (194, .putfield 15, 3, [11, 1], 0),
  (197, .aload_n 0, 1, [], 0),
  (198, .aload_n 0, 1, [], 0),
  (199, .getfield 156, 3, [11, 3], 0),
  (202, .ifCond .ne 9, 3, [211], 0),
  (205, .ldc2_w 480, 3, [], (-1)),
  (208, .goto 10, 3, [218], 0),
  (211, .aload_n 0, 1, [], 0),
  (212, .getfield 87, 3, [11, 31, 20, 100, 8], 0),
  (215, .iconst 0, 1, [], 0),
  (216, .iaload, 1, [], 0),
  (217, .i2l, 1, [], 0),
  (218, .invokevirtual 18, 3, [202, 1], 0),
  (221, .aload_n 0, 1, [], 0),
  (222, .iload 4, 2, [], 0),
  (224, .i2l, 1, [], 0),
  (225, .invokevirtual 18, 3, [202, 1], 0),
  (228, .iload_n 3, 1, [], 0),
  (229, .ireturn, 1, [], 0)]
def k_M_years : List (List (Nat × Nat)) := [[], [], [(5, 140)], [], [], [], [(7, 115)], [(6, 104), (6, 105), (1, 12), (6, 106)], [], [], [], [], [], [(5, 201)], [], [(7, 168), (7, 170), (0, 77), (1, 12), (7, 171)], [], [], [], [], [], [], [], [(8, 75), (8, 77), (0, 90), (1, 12), (8, 78)], [], [], [], [], [], [], [(5, 149)], [(7, 116), (7, 118), (0, 71), (1, 12), (7, 119)], [], [], [], [], [], [], [(5, 149)], [(7, 144), (7, 145), (1, 12), (7, 146)], [], [], [(5, 143)], [], [], [], [(5, 143)], [(8, 75), (8, 77), (0, 90), (1, 12), (8, 78)], [], [], [], [(5, 149)], [], [], [], [(5, 143)], [(8, 75), (8, 77), (0, 90), (1, 12), (8, 78)], [(7, 107), (7, 109), (0, 70), (1, 12), (7, 110)], [], [], [], [], [(5, 149)], [], [], [(5, 143)], [(7, 48), (7, 49), (1, 12), (7, 50)], [], [(5, 148)], [], [], [(5, 143)], [(7, 48), (7, 49), (1, 12), (7, 50)], [], [], [], [], [], [], [], [], [(5, 143)], [], [], [], [(5, 149)], [], [], [], [], [(7, 58)], [], [], [], [], [], [(5, 149)], [(7, 17), (7, 19), (0, 57), (1, 12), (7, 20)], [], [], [(5, 141)], [], [], [(5, 143)], [], [(8, 80)], [], [], [(5, 171)], [], [], [], [(7, 124), (7, 126), (0, 73), (1, 12), (7, 127)], [], [], [], [(7, 124), (7, 126), (0, 73), (1, 12), (7, 127)], [], []]
def c_M_draws : List zE := [(0, .aload_n 0, 1, [], 0),
  (1, .aload_n 0, 1, [], 0),
  (2, .getfield 473, 3, [11, 61], 0),
  (5, .ldc_w 476, 3, [], 1103515245),
  (8, .imul, 1, [], 0),
  (9, .sipush 12345, 3, [], 12345),
  (12, .iadd, 1, [], 0),
  (13, .putfield 473, 3, [11, 61], 0),
  (16, .aload_n 0, 1, [], 0),
  (17, .getfield 473, 3, [11, 61], 0),
  (20, .bipush 16, 2, [], 16),
  (22, .iushr, 1, [], 0),
  (23, .iload_n 1, 1, [], 0),
  (24, .irem, 1, [], 0),
  (25, .ireturn, 1, [], 0)]
def k_M_draws : List (List (Nat × Nat)) := [[], [], [(5, 201)], [(8, 79)], [], [], [], [(5, 201)], [], [(5, 201)], [], [], [], [], []]
def c_M_keep : List zE := [(0, .aload_n 0, 1, [], 0),
  (1, .iconst 0, 1, [], 0),
  (2, .putfield 3, 3, [11, 0], 0),
  (5, .iload_n 1, 1, [], 0),
  (6, .i2l, 1, [], 0),
  (7, .lconst 0, 1, [], 0),
  (8, .ldc2_w 482, 3, [], 2),
  (11, .invokestatic 159, 3, [1, 151, 3], 0),
  (14, .ifCond .ne 5, 3, [19], 0),
  (17, .iconst 0, 1, [], 0),
  (18, .ireturn, 1, [], 1),
  (19, .aload_n 0, 1, [], 0),
  (20, .getfield 147, 3, [11, 62, 40, 102, 3], 0),
  (23, .iload_n 1, 1, [], 0),
  (24, .iconst 1, 1, [], 1),
  (25, .bastore, 1, [], 0),
  (26, .aload_n 0, 1, [], 0),
  (27, .getfield 150, 3, [11, 63, 41, 100, 3], 0),
  (30, .iload_n 1, 1, [], 0),
  (31, .aload_n 0, 1, [], 0),
  (32, .getfield 248, 3, [11, 4], 0),
  (35, .iastore, 1, [], 0),
  (36, .iconst 0, 1, [], 0),
  (37, .istore_n 2, 1, [], 0),
  (38, .iload_n 2, 1, [], 0),
  (39, .bipush 81, 2, [], 81),
  (41, .if_icmp .ge 26, 3, [67], 0),
  (44, .aload_n 0, 1, [], 0),
  (45, .getfield 153, 3, [11, 64, 42, 100, 243], 0),
  (48, .bipush 81, 2, [], 81),
  (50, .iload_n 1, 1, [], 0),
  (51, .imul, 1, [], 0),
  (52, .iload_n 2, 1, [], 0),
  (53, .iadd, 1, [], 0),
  (54, .aload_n 0, 1, [], 0),
  (55, .getfield 38, 3, [11, 8, 4, 100, 81], 0),
  (58, .iload_n 2, 1, [], 0),
  (59, .iaload, 1, [], 0),
  (60, .iastore, 1, [], 0),
  (61, .iinc 2 1, 3, [], 1),
  (64, .goto (-26), 3, [38], 0),
  (67, .iconst 1, 1, [], 1),
  (68, .ireturn, 1, [], 1)]
def k_M_keep : List (List (Nat × Nat)) := [[], [], [(5, 140)], [], [], [], [(8, 85)], [(6, 104), (6, 105), (1, 12), (6, 106)], [], [], [], [], [(5, 202)], [], [], [], [], [(5, 203)], [], [], [(5, 144)], [], [], [], [], [], [], [], [(5, 204)], [], [], [], [], [], [], [(5, 148)], [], [], [], [], [], [], []]
def c_M_again : List zE := [(0, .aload_n 0, 1, [], 0),
  (1, .iconst 0, 1, [], 0),
  (2, .putfield 3, 3, [11, 0], 0),
  (5, .iload_n 1, 1, [], 0),
  (6, .i2l, 1, [], 0),
  (7, .lconst 0, 1, [], 0),
  (8, .ldc2_w 482, 3, [], 2),
  (11, .invokestatic 159, 3, [1, 151, 3], 0),
  (14, .ifCond .eq 25, 3, [39], 0),
  (17, .aload_n 0, 1, [], 0),
  (18, .getfield 147, 3, [11, 62, 40, 102, 3], 0),
  (21, .iload_n 1, 1, [], 0),
  (22, .baload, 1, [], 0),
  (23, .ifCond .eq 16, 3, [39], 0),
  (26, .aload_n 0, 1, [], 0),
  (27, .getfield 150, 3, [11, 63, 41, 100, 3], 0),
  (30, .iload_n 1, 1, [], 0),
  (31, .iaload, 1, [], 0),
  (32, .aload_n 0, 1, [], 0),
  (33, .getfield 248, 3, [11, 4], 0),
  (36, .if_icmp .eq 5, 3, [41], 0),
  (39, .iconst 0, 1, [], 0),
  (40, .ireturn, 1, [], 1),
  (41, .iconst 0, 1, [], 0),
  (42, .istore_n 2, 1, [], 0),
  (43, .iload_n 2, 1, [], 0),
  (44, .bipush 81, 2, [], 81),
  (46, .if_icmp .ge 26, 3, [72], 0),
  (49, .aload_n 0, 1, [], 0),
  (50, .getfield 38, 3, [11, 8, 4, 100, 81], 0),
  (53, .iload_n 2, 1, [], 0),
  (54, .aload_n 0, 1, [], 0),
  (55, .getfield 153, 3, [11, 64, 42, 100, 243], 0),
  (58, .bipush 81, 2, [], 81),
  (60, .iload_n 1, 1, [], 0),
  (61, .imul, 1, [], 0),
  (62, .iload_n 2, 1, [], 0),
  (63, .iadd, 1, [], 0),
  (64, .iaload, 1, [], 0),
  (65, .iastore, 1, [], 0),
  (66, .iinc 2 1, 3, [], 1),
  (69, .goto (-26), 3, [43], 0),
  (72, .aload_n 0, 1, [], 0),
  (73, .iconst 0, 1, [], 0),
  (74, .putfield 245, 3, [11, 33], 0),
  (77, .iconst 1, 1, [], 1),
  (78, .ireturn, 1, [], 1)]
def k_M_again : List (List (Nat × Nat)) := [[], [], [(5, 140)], [], [], [], [(8, 85)], [(6, 104), (6, 105), (1, 12), (6, 106)], [], [], [(5, 202)], [], [], [], [], [(5, 203)], [], [], [], [(5, 144)], [], [], [], [], [], [], [], [], [], [(5, 148)], [], [], [(5, 204)], [], [], [], [], [], [], [], [], [], [], [], [(5, 173)], [], []]
def c_M_count : List zE := [(0, .aload_n 0, 1, [], 0),
  (1, .iconst 0, 1, [], 0),
  (2, .putfield 3, 3, [11, 0], 0),
  (5, .iload_n 1, 1, [], 0),
  (6, .tableswitch 152 0 11 #[62, 67, 75, 87, 92, 106, 120, 127, 132, 137, 142, 147], 62, [158, 68, 73, 81, 93, 98, 112, 126, 133, 138, 143, 148, 153], 0),
  (68, .aload_n 0, 1, [], 0),
  (69, .getfield 156, 3, [11, 3], 0),
  (72, .ireturn, 1, [], 0),
  (73, .aload_n 0, 1, [], 0),
  (74, .getfield 38, 3, [11, 8, 4, 100, 81], 0),
  (77, .bipush 80, 2, [], 80),
  (79, .iaload, 1, [], 0),
  (80, .ireturn, 1, [], 0),
  (81, .aload_n 0, 1, [], 0),
  (82, .aload_n 0, 1, [], 0),
  (83, .getfield 38, 3, [11, 8, 4, 100, 81], 0),
  (86, .bipush 80, 2, [], 80),
  (88, .iaload, 1, [], 0),
  (89, .invokevirtual 318, 3, [181, 1], 0),
  (92, .ireturn, 1, [], 0),
  (93, .aload_n 0, 1, [], 0),
  (94, .invokevirtual 289, 3, [182, 0], 0),
  (97, .ireturn, 1, [], 0),
  (98, .aload_n 0, 1, [], 0),
  (99, .getfield 38, 3, [11, 8, 4, 100, 81], 0),
  (102, .bipush 64, 2, [], 64),
  (104, .aload_n 0, 1, [], 0),
  (105, .getfield 156, 3, [11, 3], 0),
  (108, .invokestatic 165, 3, [1, 183, 3], 0),
  (111, .ireturn, 1, [], 0),
  (112, .aload_n 0, 1, [], 0),
  (113, .getfield 38, 3, [11, 8, 4, 100, 81], 0),
  (116, .bipush 72, 2, [], 72),
  (118, .aload_n 0, 1, [], 0),
  (119, .getfield 156, 3, [11, 3], 0),
  (122, .invokestatic 165, 3, [1, 183, 3], 0),
  (125, .ireturn, 1, [], 0),
  (126, .aload_n 0, 1, [], 0),
  (127, .getfield 38, 3, [11, 8, 4, 100, 81], 0),
  (130, .iconst 0, 1, [], 0),
  (131, .iaload, 1, [], 0),
  (132, .ireturn, 1, [], 0),
  (133, .aload_n 0, 1, [], 0),
  (134, .getfield 28, 3, [11, 5], 0),
  (137, .ireturn, 1, [], 0),
  (138, .aload_n 0, 1, [], 0),
  (139, .getfield 449, 3, [11, 57], 0),
  (142, .ireturn, 1, [], 0),
  (143, .aload_n 0, 1, [], 0),
  (144, .getfield 245, 3, [11, 33], 0),
  (147, .ireturn, 1, [], 0),
  (148, .aload_n 0, 1, [], 0),
  (149, .getfield 15, 3, [11, 1], 0),
  (152, .ireturn, 1, [], 0),
  (153, .aload_n 0, 1, [], 0),
  (154, .getfield 169, 3, [11, 11], 0),
  (157, .ireturn, 1, [], 0),
  (158, .bipush (-100), 2, [], (-100)),
  (160, .ireturn, 1, [], 0)]
def k_M_count : List (List (Nat × Nat)) := [[], [], [(5, 140)], [], [], [], [(5, 143)], [], [], [(5, 148)], [], [], [], [], [], [(5, 148)], [], [], [(7, 40), (7, 42), (0, 62), (1, 12), (7, 43)], [], [], [(7, 44), (7, 46), (0, 63), (1, 12), (7, 47)], [], [], [(5, 148)], [], [], [(5, 143)], [(7, 48), (7, 49), (1, 12), (7, 50)], [], [], [(5, 148)], [], [], [(5, 143)], [(7, 48), (7, 49), (1, 12), (7, 50)], [], [], [(5, 148)], [], [], [], [], [(5, 145)], [], [], [(5, 197)], [], [], [(5, 173)], [], [], [(5, 141)], [], [], [(5, 151)], [], [], []]
def c_M_row : List zE := [(0, .aload_n 0, 1, [], 0),
  (1, .iconst 0, 1, [], 0),
  (2, .putfield 3, 3, [11, 0], 0),
  (5, .iload_n 1, 1, [], 0),
  (6, .i2l, 1, [], 0),
  (7, .lconst 0, 1, [], 0),
  (8, .aload_n 0, 1, [], 0),
  (9, .getfield 15, 3, [11, 1], 0),
  (12, .iconst 1, 1, [], 1),
  (13, .isub, 1, [], 0),
  (14, .i2l, 1, [], 0),
  (15, .invokestatic 159, 3, [1, 151, 3], 0),
  (18, .ifCond .ne 10, 3, [28], 0),
  (21, .aload_n 0, 1, [], 0),
  (22, .iconst 1, 1, [], 1),
  (23, .putfield 3, 3, [11, 0], 0),
  (26, .lconst 0, 1, [], 0),
  (27, .lreturn, 1, [], 0),
  (28, .aload_n 0, 1, [], 0),
  (29, .getfield 11, 3, [11, 2, 1, 101, 24], 0),
  (32, .iload_n 1, 1, [], 0),
  (33, .laload, 1, [], 0),
  (34, .lreturn, 1, [], 0)]
def k_M_row : List (List (Nat × Nat)) := [[], [], [(5, 140)], [], [], [], [], [(5, 141)], [], [], [], [(6, 104), (6, 105), (1, 12), (6, 106)], [], [], [], [(5, 140)], [], [], [], [(5, 142)], [], [], []]
def c_Integer_bitCount : List zE := [(0, .iload_n 0, 1, [], 0),
  (1, .iload_n 0, 1, [], 0),
  (2, .iconst 1, 1, [], 1),
  (3, .iushr, 1, [], 0),
  (4, .ldc_w 265, 3, [], 1431655765),
  (7, .iand, 1, [], 0),
  (8, .isub, 1, [], 0),
  (9, .istore_n 0, 1, [], 0),
  (10, .iload_n 0, 1, [], 0),
  (11, .ldc_w 266, 3, [], 858993459),
  (14, .iand, 1, [], 0),
  (15, .iload_n 0, 1, [], 0),
  (16, .iconst 2, 1, [], 2),
  (17, .iushr, 1, [], 0),
  (18, .ldc_w 266, 3, [], 858993459),
  (21, .iand, 1, [], 0),
  (22, .iadd, 1, [], 0),
  (23, .istore_n 0, 1, [], 0),
  (24, .iload_n 0, 1, [], 0),
  (25, .iload_n 0, 1, [], 0),
  (26, .iconst 4, 1, [], 4),
  (27, .iushr, 1, [], 0),
  (28, .iadd, 1, [], 0),
  (29, .ldc_w 267, 3, [], 252645135),
  (32, .iand, 1, [], 0),
  (33, .istore_n 0, 1, [], 0),
  (34, .iload_n 0, 1, [], 0),
  (35, .iload_n 0, 1, [], 0),
  (36, .bipush 8, 2, [], 8),
  (38, .iushr, 1, [], 0),
  (39, .iadd, 1, [], 0),
  (40, .istore_n 0, 1, [], 0),
  (41, .iload_n 0, 1, [], 0),
  (42, .iload_n 0, 1, [], 0),
  (43, .bipush 16, 2, [], 16),
  (45, .iushr, 1, [], 0),
  (46, .iadd, 1, [], 0),
  (47, .istore_n 0, 1, [], 0),
  (48, .iload_n 0, 1, [], 0),
  (49, .bipush 63, 2, [], 63),
  (51, .iand, 1, [], 0),
  (52, .ireturn, 1, [], 0)]
def k_Integer_bitCount : List (List (Nat × Nat)) := [[], [], [], [], [(3, 139)], [], [], [], [], [(3, 140)], [], [], [], [], [(3, 140)], [], [], [], [], [], [], [], [], [(3, 141)], [], [], [], [], [], [], [], [], [], [], [], [], [], [], [], [], [], []]
def c_Arrays_fill : List zE := [(0, .iconst 0, 1, [], 0),
  (1, .istore_n 2, 1, [], 0),
  (2, .aload_n 0, 1, [], 0),
  (3, .arraylength, 1, [], 0),
  (4, .istore_n 3, 1, [], 0),
  (5, .iload_n 2, 1, [], 0),
  (6, .iload_n 3, 1, [], 0),
  (7, .if_icmp .ge 13, 3, [20], 0),
  (10, .aload_n 0, 1, [], 0),
  (11, .iload_n 2, 1, [], 0),
  (12, .iload_n 1, 1, [], 0),
  (13, .iastore, 1, [], 0),
  (14, .iinc 2 1, 3, [], 1),
  (17, .goto (-12), 3, [5], 0),
  (20, .return_, 1, [], 0)]
def k_Arrays_fill : List (List (Nat × Nat)) := [[], [], [], [], [], [], [], [], [], [], [], [], [], [], []]
def c_String_length : List zE := []
def k_String_length : List (List (Nat × Nat)) := []
def c_String_charAt : List zE := []
def k_String_charAt : List (List (Nat × Nat)) := []
abbrev zY : Type := MethodName × ByteArray × Nat × Option FieldType × List zE × List (List (Nat × Nat))
def z_mt : List zY := [(⟨"WaterByLetters", "sign", "(I)I"⟩, prog_1_method_2_code, 2, (some .int), c_W_sign, k_W_sign),
  (⟨"WaterByLetters$Text", "add", "(I)Z"⟩, prog_9_method_3_code, 3, (some .boolean), c_Text_add, k_Text_add),
  (⟨"WaterByLetters", "end", "(I)Z"⟩, prog_1_method_3_code, 2, (some .boolean), c_W_end, k_W_end),
  (⟨"WaterByLetters", "houses", "()I"⟩, prog_1_method_4_code, 3, (some .int), c_W_houses, k_W_houses),
  (⟨"WaterByLetters$Text", "faultInHouses", "(I)I"⟩, prog_9_method_4_code, 7, (some .int), c_Text_faultInHouses, k_Text_faultInHouses),
  (⟨"WaterByLetters", "digitOf", "(I)I"⟩, prog_1_method_64_code, 1, (some .int), c_W_digitOf, k_W_digitOf),
  (⟨"WaterByLetters", "letterOf", "(I)I"⟩, prog_1_method_63_code, 1, (some .int), c_W_letterOf, k_W_letterOf),
  (⟨"WaterByLetters$Text", "faultAtEnd", "(IZ)I"⟩, prog_9_method_5_code, 3, (some .int), c_Text_faultAtEnd, k_Text_faultAtEnd),
  (⟨"WaterByLetters", "addHouses", "()V"⟩, prog_1_method_5_code, 4, none, c_W_addHouses, k_W_addHouses),
  (⟨"WaterByLetters$Text", "at", "(I)I"⟩, prog_9_method_2_code, 2, (some .int), c_Text_at, k_Text_at),
  (⟨"WaterByLetters$Town", "lengthen", "(II)V"⟩, prog_11_method_6_code, 3, none, c_Town_lengthen, k_Town_lengthen),
  (⟨"WaterByLetters", "heat", "()I"⟩, prog_1_method_6_code, 2, (some .int), c_W_heat, k_W_heat),
  (⟨"WaterByLetters$Text", "faultInHeat", "()I"⟩, prog_9_method_6_code, 2, (some .int), c_Text_faultInHeat, k_Text_faultInHeat),
  (⟨"WaterByLetters$Pump", "takeHeat", "(LWaterByLetters$Text;)V"⟩, prog_6_method_2_code, 3, none, c_Pump_takeHeat, k_Pump_takeHeat),
  (⟨"WaterByLetters", "rule", "()I"⟩, prog_1_method_7_code, 2, (some .int), c_W_rule, k_W_rule),
  (⟨"WaterByLetters", "takeRule", "(LWaterByLetters$Rule;)I"⟩, prog_1_method_8_code, 3, (some .int), c_W_takeRule, k_W_takeRule),
  (⟨"WaterByLetters$Rule", "faultIn", "(LWaterByLetters$Text;)I"⟩, prog_8_method_3_code, 8, (some .int), c_Rule_faultIn, k_Rule_faultIn),
  (⟨"WaterByLetters", "isIn", "(II)Z"⟩, prog_1_method_65_code, 2, (some .boolean), c_W_isIn, k_W_isIn),
  (⟨"WaterByLetters$Rule", "canStand", "(IZIZ)Z"⟩, prog_8_method_4_code, 4, (some .boolean), c_Rule_canStand, k_Rule_canStand),
  (⟨"WaterByLetters$Rule", "isVariable", "(I)Z"⟩, prog_8_method_5_code, 1, (some .boolean), c_Rule_isVariable, k_Rule_isVariable),
  (⟨"WaterByLetters$Rule", "isAdding", "(I)Z"⟩, prog_8_method_6_code, 1, (some .boolean), c_Rule_isAdding, k_Rule_isAdding),
  (⟨"WaterByLetters$Rule", "isFactoring", "(I)Z"⟩, prog_8_method_7_code, 1, (some .boolean), c_Rule_isFactoring, k_Rule_isFactoring),
  (⟨"WaterByLetters$Rule", "isComparison", "(I)Z"⟩, prog_8_method_8_code, 1, (some .boolean), c_Rule_isComparison, k_Rule_isComparison),
  (⟨"WaterByLetters$Rule", "take", "(LWaterByLetters$Text;)V"⟩, prog_8_method_2_code, 2, none, c_Rule_take, k_Rule_take),
  (⟨"WaterByLetters", "sheet", "(IIII)I"⟩, prog_1_method_11_code, 7, (some .int), c_W_sheet, k_W_sheet),
  (⟨"WaterByLetters", "thirstOf", "(II)I"⟩, prog_1_method_12_code, 3, (some .int), c_W_thirstOf, k_W_thirstOf),
  (⟨"WaterByLetters$Pump", "thirstOfAll", "(I)I"⟩, prog_6_method_3_code, 2, (some .int), c_Pump_thirstOfAll, k_Pump_thirstOfAll),
  (⟨"WaterByLetters$Pump", "thirstOfSet", "(I)I"⟩, prog_6_method_4_code, 4, (some .int), c_Pump_thirstOfSet, k_Pump_thirstOfSet),
  (⟨"WaterByLetters", "order", "()I"⟩, prog_1_method_13_code, 3, (some .int), c_W_order, k_W_order),
  (⟨"WaterByLetters$Text", "faultInOrder", "()I"⟩, prog_9_method_7_code, 4, (some .int), c_Text_faultInOrder, k_Text_faultInOrder),
  (⟨"WaterByLetters$Past", "push", "(LWaterByLetters$Town;)V"⟩, prog_5_method_2_code, 2, none, c_Past_push, k_Past_push),
  (⟨"WaterByLetters$Town", "become", "(LWaterByLetters$Town;)V"⟩, prog_11_method_2_code, 2, none, c_Town_become, k_Town_become),
  (⟨"WaterByLetters$Text", "copyOrder", "([I)V"⟩, prog_9_method_8_code, 3, none, c_Text_copyOrder, k_Text_copyOrder),
  (⟨"WaterByLetters$Town", "placeOfLetter", "(I)I"⟩, prog_11_method_10_code, 3, (some .int), c_Town_placeOfLetter, k_Town_placeOfLetter),
  (⟨"WaterByLetters", "name", "(I)I"⟩, prog_1_method_14_code, 4, (some .int), c_W_name, k_W_name),
  (⟨"WaterByLetters$Town", "has", "(I)Z"⟩, prog_11_method_3_code, 2, (some .boolean), c_Town_has, k_Town_has),
  (⟨"WaterByLetters$Text", "faultInName", "()I"⟩, prog_9_method_9_code, 2, (some .int), c_Text_faultInName, k_Text_faultInName),
  (⟨"WaterByLetters", "placeNow", "(I)I"⟩, prog_1_method_29_code, 2, (some .int), c_W_placeNow, k_W_placeNow),
  (⟨"WaterByLetters$Book", "write", "(LWaterByLetters$Town;[I)V"⟩, prog_2_method_2_code, 4, none, c_Book_write, k_Book_write),
  (⟨"WaterByLetters$Book", "keyOf", "(LWaterByLetters$Town;I)I"⟩, prog_2_method_3_code, 6, (some .int), c_Book_keyOf, k_Book_keyOf),
  (⟨"WaterByLetters$Town", "letterAt", "(II)I"⟩, prog_11_method_5_code, 3, (some .int), c_Town_letterAt, k_Town_letterAt),
  (⟨"WaterByLetters$Book", "placeByKey", "(II)I"⟩, prog_2_method_4_code, 5, (some .int), c_Book_placeByKey, k_Book_placeByKey),
  (⟨"WaterByLetters", "marry", "(II)I"⟩, prog_1_method_15_code, 4, (some .int), c_W_marry, k_W_marry),
  (⟨"WaterByLetters$Town", "canMarry", "(II)Z"⟩, prog_11_method_4_code, 3, (some .boolean), c_Town_canMarry, k_Town_canMarry),
  (⟨"WaterByLetters$Town", "takeName", "(II)V"⟩, prog_11_method_7_code, 3, none, c_Town_takeName, k_Town_takeName),
  (⟨"WaterByLetters", "days", "(I)I"⟩, prog_1_method_16_code, 3, (some .int), c_W_days, k_W_days),
  (⟨"WaterByLetters$Pump", "live", "(LWaterByLetters$Town;LWaterByLetters$Book;LWaterByLetters$Rule;I)I"⟩, prog_6_method_7_code, 8, (some .int), c_Pump_live, k_Pump_live),
  (⟨"WaterByLetters$Pump", "yieldOn", "(LWaterByLetters$Rule;II)I"⟩, prog_6_method_5_code, 6, (some .int), c_Pump_yieldOn, k_Pump_yieldOn),
  (⟨"WaterByLetters$Rule", "valueOf", "(IIII)I"⟩, prog_8_method_9_code, 10, (some .int), c_Rule_valueOf, k_Rule_valueOf),
  (⟨"WaterByLetters$Rule", "openSum", "()V"⟩, prog_8_method_10_code, 1, none, c_Rule_openSum, k_Rule_openSum),
  (⟨"WaterByLetters$Rule", "takeThing", "(I)V"⟩, prog_8_method_11_code, 3, none, c_Rule_takeThing, k_Rule_takeThing),
  (⟨"WaterByLetters$Rule", "takeSign", "(IZ)V"⟩, prog_8_method_12_code, 4, none, c_Rule_takeSign, k_Rule_takeSign),
  (⟨"WaterByLetters$Rule", "closeProduct", "()V"⟩, prog_8_method_13_code, 1, none, c_Rule_closeProduct, k_Rule_closeProduct),
  (⟨"WaterByLetters$Rule", "comparedValue", "()I"⟩, prog_8_method_14_code, 1, (some .int), c_Rule_comparedValue, k_Rule_comparedValue),
  (⟨"WaterByLetters$Pump", "pour", "(LWaterByLetters$Book;I)I"⟩, prog_6_method_6_code, 5, (some .int), c_Pump_pour, k_Pump_pour),
  (⟨"WaterByLetters$Row", "tellTwo", "(JJ)V"⟩, prog_7_method_4_code, 5, none, c_Row_tellTwo, k_Row_tellTwo),
  (⟨"WaterByLetters$Row", "tellOne", "(J)V"⟩, prog_7_method_3_code, 3, none, c_Row_tellOne, k_Row_tellOne),
  (⟨"WaterByLetters$Row", "add", "(J)V"⟩, prog_7_method_2_code, 3, none, c_Row_add, k_Row_add),
  (⟨"WaterByLetters", "year", "()I"⟩, prog_1_method_17_code, 5, (some .int), c_W_year, k_W_year),
  (⟨"WaterByLetters$Text", "faultInYear", "()I"⟩, prog_9_method_10_code, 3, (some .int), c_Text_faultInYear, k_Text_faultInYear),
  (⟨"WaterByLetters$Text", "signsOfAct", "(I)I"⟩, prog_9_method_11_code, 1, (some .int), c_Text_signsOfAct, k_Text_signsOfAct),
  (⟨"WaterByLetters", "act", "(I)Z"⟩, prog_1_method_18_code, 2, (some .boolean), c_W_act, k_W_act),
  (⟨"WaterByLetters", "wed", "(II)Z"⟩, prog_1_method_19_code, 3, (some .boolean), c_W_wed, k_W_wed),
  (⟨"WaterByLetters$Town", "turnRound", "()V"⟩, prog_11_method_8_code, 3, none, c_Town_turnRound, k_Town_turnRound),
  (⟨"WaterByLetters$Town", "firstBecomesLast", "()V"⟩, prog_11_method_9_code, 2, none, c_Town_firstBecomesLast, k_Town_firstBecomesLast),
  (⟨"WaterByLetters$Town", "dryOfAll", "()I"⟩, prog_11_method_11_code, 3, (some .int), c_Town_dryOfAll, k_Town_dryOfAll),
  (⟨"WaterByLetters", "undo", "()I"⟩, prog_1_method_20_code, 1, (some .int), c_W_undo, k_W_undo),
  (⟨"WaterByLetters$Past", "pop", "(LWaterByLetters$Town;)Z"⟩, prog_5_method_3_code, 2, (some .boolean), c_Past_pop, k_Past_pop),
  (⟨"WaterByLetters", "book", "()I"⟩, prog_1_method_21_code, 1, (some .int), c_W_book, k_W_book),
  (⟨"WaterByLetters$Row", "tellAll", "([II)V"⟩, prog_7_method_5_code, 4, none, c_Row_tellAll, k_Row_tellAll),
  (⟨"WaterByLetters", "yields", "(I)I"⟩, prog_1_method_22_code, 4, (some .int), c_W_yields, k_W_yields),
  (⟨"WaterByLetters", "stops", "()I"⟩, prog_1_method_23_code, 3, (some .int), c_W_stops, k_W_stops),
  (⟨"WaterByLetters", "pourToday", "()V"⟩, prog_1_method_28_code, 1, none, c_W_pourToday, k_W_pourToday),
  (⟨"WaterByLetters", "yieldToday", "()I"⟩, prog_1_method_27_code, 1, (some .int), c_W_yieldToday, k_W_yieldToday),
  (⟨"WaterByLetters", "dry", "(II)I"⟩, prog_1_method_24_code, 3, (some .int), c_W_dry, k_W_dry),
  (⟨"WaterByLetters", "waits", "()I"⟩, prog_1_method_25_code, 6, (some .int), c_W_waits, k_W_waits),
  (⟨"WaterByLetters", "fewestMinutes", "()I"⟩, prog_1_method_26_code, 5, (some .int), c_W_fewestMinutes, k_W_fewestMinutes),
  (⟨"WaterByLetters", "fewest", "()I"⟩, prog_1_method_30_code, 2, (some .int), c_W_fewest, k_W_fewest),
  (⟨"WaterByLetters$Thrift", "seek", "(LWaterByLetters$Town;LWaterByLetters$Pump;I)I"⟩, prog_10_method_2_code, 5, (some .int), c_Thrift_seek, k_Thrift_seek),
  (⟨"WaterByLetters$Thrift", "sortByThirst", "()V"⟩, prog_10_method_3_code, 4, none, c_Thrift_sortByThirst, k_Thrift_sortByThirst),
  (⟨"WaterByLetters$Thrift", "compareNames", "(LWaterByLetters$Town;)V"⟩, prog_10_method_4_code, 5, none, c_Thrift_compareNames, k_Thrift_compareNames),
  (⟨"WaterByLetters$Town", "tellingLetter", "(II)I"⟩, prog_11_method_14_code, 5, (some .int), c_Town_tellingLetter, k_Town_tellingLetter),
  (⟨"WaterByLetters$Town", "isAheadAnyway", "(II)Z"⟩, prog_11_method_15_code, 3, (some .boolean), c_Town_isAheadAnyway, k_Town_isAheadAnyway),
  (⟨"WaterByLetters$Thrift", "hope", "(I)I"⟩, prog_10_method_9_code, 4, (some .int), c_Thrift_hope, k_Thrift_hope),
  (⟨"WaterByLetters$Thrift", "hopeWithLast", "(II)I"⟩, prog_10_method_10_code, 11, (some .int), c_Thrift_hopeWithLast, k_Thrift_hopeWithLast),
  (⟨"WaterByLetters$Thrift", "openFor", "(II)I"⟩, prog_10_method_8_code, 4, (some .int), c_Thrift_openFor, k_Thrift_openFor),
  (⟨"WaterByLetters$Thrift", "isSettled", "(I)Z"⟩, prog_10_method_7_code, 3, (some .boolean), c_Thrift_isSettled, k_Thrift_isSettled),
  (⟨"WaterByLetters$Thrift", "keepBest", "(III)V"⟩, prog_10_method_11_code, 8, none, c_Thrift_keepBest, k_Thrift_keepBest),
  (⟨"WaterByLetters$Thrift", "nextIdle", "(I)I"⟩, prog_10_method_12_code, 3, (some .int), c_Thrift_nextIdle, k_Thrift_nextIdle),
  (⟨"WaterByLetters$Thrift", "setNext", "(II)V"⟩, prog_10_method_5_code, 6, none, c_Thrift_setNext, k_Thrift_setNext),
  (⟨"WaterByLetters$Thrift", "settle", "(III)V"⟩, prog_10_method_6_code, 9, none, c_Thrift_settle, k_Thrift_settle),
  (⟨"WaterByLetters", "likes", "(I)I"⟩, prog_1_method_31_code, 3, (some .int), c_W_likes, k_W_likes),
  (⟨"WaterByLetters$Orders", "leastPlace", "(LWaterByLetters$Town;I[I)I"⟩, prog_4_method_2_code, 8, (some .int), c_Orders_leastPlace, k_Orders_leastPlace),
  (⟨"WaterByLetters$Orders", "lossesOf", "(LWaterByLetters$Town;I)I"⟩, prog_4_method_3_code, 7, (some .int), c_Orders_lossesOf, k_Orders_lossesOf),
  (⟨"WaterByLetters$Orders", "loss", "(II)I"⟩, prog_4_method_4_code, 6, (some .int), c_Orders_loss, k_Orders_loss),
  (⟨"WaterByLetters$Orders", "leastNext", "(I)I"⟩, prog_4_method_5_code, 3, (some .int), c_Orders_leastNext, k_Orders_leastNext),
  (⟨"WaterByLetters", "rounds", "(I)I"⟩, prog_1_method_32_code, 7, (some .int), c_W_rounds, k_W_rounds),
  (⟨"WaterByLetters", "votes", "()I"⟩, prog_1_method_33_code, 3, (some .int), c_W_votes, k_W_votes),
  (⟨"WaterByLetters", "readOtherOrder", "()I"⟩, prog_1_method_35_code, 2, (some .int), c_W_readOtherOrder, k_W_readOtherOrder),
  (⟨"WaterByLetters$Book", "earlierIn", "(LWaterByLetters$Book;)I"⟩, prog_2_method_6_code, 4, (some .int), c_Book_earlierIn, k_Book_earlierIn),
  (⟨"WaterByLetters", "sways", "()I"⟩, prog_1_method_34_code, 4, (some .int), c_W_sways, k_W_sways),
  (⟨"WaterByLetters", "leastThirsty", "(II)I"⟩, prog_1_method_36_code, 7, (some .int), c_W_leastThirsty, k_W_leastThirsty),
  (⟨"WaterByLetters", "initial", "(I)I"⟩, prog_1_method_37_code, 8, (some .int), c_W_initial, k_W_initial),
  (⟨"WaterByLetters", "matches", "()I"⟩, prog_1_method_38_code, 1, (some .int), c_W_matches, k_W_matches),
  (⟨"WaterByLetters$Matching", "weigh", "(LWaterByLetters$Book;)V"⟩, prog_3_method_2_code, 7, none, c_Matching_weigh, k_Matching_weigh),
  (⟨"WaterByLetters$Book", "placeByName", "(II)I"⟩, prog_2_method_5_code, 3, (some .int), c_Book_placeByName, k_Book_placeByName),
  (⟨"WaterByLetters$Matching", "firstOf", "(I)I"⟩, prog_3_method_4_code, 2, (some .int), c_Matching_firstOf, k_Matching_firstOf),
  (⟨"WaterByLetters$Matching", "worthWith", "(III)I"⟩, prog_3_method_3_code, 4, (some .int), c_Matching_worthWith, k_Matching_worthWith),
  (⟨"WaterByLetters$Matching", "tellPairs", "(LWaterByLetters$Row;I)I"⟩, prog_3_method_5_code, 8, (some .int), c_Matching_tellPairs, k_Matching_tellPairs),
  (⟨"WaterByLetters$Matching", "spouseOf", "(IIII)I"⟩, prog_3_method_6_code, 6, (some .int), c_Matching_spouseOf, k_Matching_spouseOf),
  (⟨"WaterByLetters", "lines", "()I"⟩, prog_1_method_39_code, 5, (some .int), c_W_lines, k_W_lines),
  (⟨"WaterByLetters$Text", "faultInBook", "(I)I"⟩, prog_9_method_12_code, 5, (some .int), c_Text_faultInBook, k_Text_faultInBook),
  (⟨"WaterByLetters", "isBookWithout", "(I)Z"⟩, prog_1_method_40_code, 5, (some .boolean), c_W_isBookWithout, k_W_isBookWithout),
  (⟨"WaterByLetters", "lot", "(I)I"⟩, prog_1_method_41_code, 8, (some .int), c_W_lot, k_W_lot),
  (⟨"WaterByLetters", "factorial", "(I)J"⟩, prog_1_method_42_code, 4, (some .long), c_W_factorial, k_W_factorial),
  (⟨"WaterByLetters$Row", "tellFraction", "(JJ)V"⟩, prog_7_method_6_code, 7, none, c_Row_tellFraction, k_Row_tellFraction),
  (⟨"WaterByLetters$Row", "divisorOf", "(JJ)J"⟩, prog_7_method_7_code, 7, (some .long), c_Row_divisorOf, k_Row_divisorOf),
  (⟨"WaterByLetters", "shares", "(I)I"⟩, prog_1_method_43_code, 7, (some .int), c_W_shares, k_W_shares),
  (⟨"WaterByLetters", "greatestRest", "(III)I"⟩, prog_1_method_44_code, 8, (some .int), c_W_greatestRest, k_W_greatestRest),
  (⟨"WaterByLetters", "saw", "(II)I"⟩, prog_1_method_45_code, 3, (some .int), c_W_saw, k_W_saw),
  (⟨"WaterByLetters", "forget", "()I"⟩, prog_1_method_46_code, 2, (some .int), c_W_forget, k_W_forget),
  (⟨"WaterByLetters", "fits", "()I"⟩, prog_1_method_47_code, 2, (some .int), c_W_fits, k_W_fits),
  (⟨"WaterByLetters", "fitAll", "()I"⟩, prog_1_method_48_code, 2, (some .int), c_W_fitAll, k_W_fitAll),
  (⟨"WaterByLetters$Orders", "demandNothing", "()V"⟩, prog_4_method_6_code, 1, none, c_Orders_demandNothing, k_Orders_demandNothing),
  (⟨"WaterByLetters$Orders", "demand", "(LWaterByLetters$Town;II)V"⟩, prog_4_method_7_code, 6, none, c_Orders_demand, k_Orders_demand),
  (⟨"WaterByLetters$Orders", "fitDemands", "()I"⟩, prog_4_method_8_code, 3, (some .int), c_Orders_fitDemands, k_Orders_fitDemands),
  (⟨"WaterByLetters$Orders", "canFollow", "(II)Z"⟩, prog_4_method_9_code, 3, (some .boolean), c_Orders_canFollow, k_Orders_canFollow),
  (⟨"WaterByLetters$Orders", "leastFit", "([I)V"⟩, prog_4_method_10_code, 5, none, c_Orders_leastFit, k_Orders_leastFit),
  (⟨"WaterByLetters$Orders", "leastFitNext", "(I)I"⟩, prog_4_method_11_code, 3, (some .int), c_Orders_leastFitNext, k_Orders_leastFitNext),
  (⟨"WaterByLetters", "sure", "(II)I"⟩, prog_1_method_49_code, 5, (some .int), c_W_sure, k_W_sure),
  (⟨"WaterByLetters$Orders", "fitsWith", "(II)I"⟩, prog_4_method_12_code, 5, (some .int), c_Orders_fitsWith, k_Orders_fitsWith),
  (⟨"WaterByLetters", "ask", "()I"⟩, prog_1_method_50_code, 7, (some .int), c_W_ask, k_W_ask),
  (⟨"WaterByLetters", "law", "()I"⟩, prog_1_method_51_code, 4, (some .int), c_W_law, k_W_law),
  (⟨"WaterByLetters", "rests", "(I)I"⟩, prog_1_method_52_code, 5, (some .int), c_W_rests, k_W_rests),
  (⟨"WaterByLetters", "gain", "(II)I"⟩, prog_1_method_54_code, 2, (some .int), c_W_gain, k_W_gain),
  (⟨"WaterByLetters", "mostGain", "(I)I"⟩, prog_1_method_55_code, 3, (some .int), c_W_mostGain, k_W_mostGain),
  (⟨"WaterByLetters", "leftBy", "(II)I"⟩, prog_1_method_53_code, 2, (some .int), c_W_leftBy, k_W_leftBy),
  (⟨"WaterByLetters", "years", "(II)I"⟩, prog_1_method_56_code, 6, (some .int), c_W_years, k_W_years),
  (⟨"WaterByLetters", "draw", "(I)I"⟩, prog_1_method_58_code, 2, (some .int), c_W_draw, k_W_draw),
  (⟨"WaterByLetters", "drawMarriage", "()V"⟩, prog_1_method_57_code, 3, none, c_W_drawMarriage, k_W_drawMarriage),
  (⟨"WaterByLetters$Town", "mostDry", "()I"⟩, prog_11_method_13_code, 3, (some .int), c_Town_mostDry, k_Town_mostDry),
  (⟨"WaterByLetters", "keep", "(I)Z"⟩, prog_1_method_59_code, 2, (some .boolean), c_W_keep, k_W_keep),
  (⟨"WaterByLetters", "again", "(I)Z"⟩, prog_1_method_60_code, 2, (some .boolean), c_W_again, k_W_again),
  (⟨"WaterByLetters", "count", "(I)I"⟩, prog_1_method_61_code, 2, (some .int), c_W_count, k_W_count),
  (⟨"WaterByLetters$Town", "hadOfAll", "()I"⟩, prog_11_method_12_code, 3, (some .int), c_Town_hadOfAll, k_Town_hadOfAll),
  (⟨"WaterByLetters", "house", "(II)I"⟩, prog_1_method_9_code, 3, (some .int), c_W_house, k_W_house),
  (⟨"WaterByLetters", "letter", "(II)I"⟩, prog_1_method_10_code, 3, (some .int), c_W_letter, k_W_letter),
  (⟨"WaterByLetters", "row", "(I)J"⟩, prog_1_method_62_code, 2, (some .long), c_W_row, k_W_row),
  (⟨"WaterByLettersModel", "thrown", "()I"⟩, prog_13_method_1_code, 1, (some .int), c_M_thrown, k_M_thrown),
  (⟨"WaterByLettersModel", "sign", "(I)I"⟩, prog_13_method_15_code, 3, (some .int), c_M_sign, k_M_sign),
  (⟨"WaterByLettersModel", "end", "(I)Z"⟩, prog_13_method_16_code, 2, (some .boolean), c_M_end, k_M_end),
  (⟨"WaterByLettersModel", "in", "(JJJ)Z"⟩, prog_13_method_3_code, 6, (some .boolean), c_M_in, k_M_in),
  (⟨"WaterByLettersModel", "houses", "()I"⟩, prog_13_method_26_code, 6, (some .int), c_M_houses, k_M_houses),
  (⟨"WaterByLettersModel", "begins", "(I)I"⟩, prog_13_method_17_code, 3, (some .int), c_M_begins, k_M_begins),
  (⟨"WaterByLettersModel", "readsHouse", "()Z"⟩, prog_13_method_25_code, 2, (some .boolean), c_M_readsHouse, k_M_readsHouse),
  (⟨"WaterByLettersModel", "readsName", "(I)I"⟩, prog_13_method_24_code, 3, (some .int), c_M_readsName, k_M_readsName),
  (⟨"WaterByLettersModel", "among", "(Ljava/lang/String;)I"⟩, prog_13_method_20_code, 3, (some .int), c_M_among, k_M_among),
  (⟨"WaterByLettersModel", "takesOf", "(Ljava/lang/String;)I"⟩, prog_13_method_21_code, 3, (some .int), c_M_takesOf, k_M_takesOf),
  (⟨"WaterByLettersModel", "flag", "(Z)I"⟩, prog_13_method_5_code, 1, (some .int), c_M_flag, k_M_flag),
  (⟨"WaterByLettersModel", "takes", "(I)Z"⟩, prog_13_method_18_code, 3, (some .boolean), c_M_takes, k_M_takes),
  (⟨"WaterByLettersModel", "faultOf", "(IIZ)I"⟩, prog_13_method_23_code, 5, (some .int), c_M_faultOf, k_M_faultOf),
  (⟨"WaterByLettersModel", "namesSo", "(III)V"⟩, prog_13_method_27_code, 5, none, c_M_namesSo, k_M_namesSo),
  (⟨"WaterByLettersModel", "heat", "()I"⟩, prog_13_method_28_code, 3, (some .int), c_M_heat, k_M_heat),
  (⟨"WaterByLettersModel", "isDigit", "()Z"⟩, prog_13_method_19_code, 1, (some .boolean), c_M_isDigit, k_M_isDigit),
  (⟨"WaterByLettersModel", "number", "(I)I"⟩, prog_13_method_22_code, 4, (some .int), c_M_number, k_M_number),
  (⟨"WaterByLettersModel", "rule", "()I"⟩, prog_13_method_34_code, 2, (some .int), c_M_rule, k_M_rule),
  (⟨"WaterByLettersModel", "readsRule", "()I"⟩, prog_13_method_32_code, 3, (some .int), c_M_readsRule, k_M_readsRule),
  (⟨"WaterByLettersModel", "readsRank", "(I)Z"⟩, prog_13_method_31_code, 4, (some .boolean), c_M_readsRank, k_M_readsRank),
  (⟨"WaterByLettersModel", "readsThing", "()Z"⟩, prog_13_method_30_code, 2, (some .boolean), c_M_readsThing, k_M_readsThing),
  (⟨"WaterByLettersModel", "codes", "(I)V"⟩, prog_13_method_29_code, 2, none, c_M_codes, k_M_codes),
  (⟨"WaterByLettersModel", "laysCode", "([II)V"⟩, prog_13_method_33_code, 4, none, c_M_laysCode, k_M_laysCode),
  (⟨"WaterByLettersModel", "house", "(II)I"⟩, prog_13_method_47_code, 3, (some .int), c_M_house, k_M_house),
  (⟨"WaterByLettersModel", "isHouse", "(I)Z"⟩, prog_13_method_10_code, 2, (some .boolean), c_M_isHouse, k_M_isHouse),
  (⟨"WaterByLettersModel", "refuse", "()I"⟩, prog_13_method_2_code, 1, (some .int), c_M_refuse, k_M_refuse),
  (⟨"WaterByLettersModel", "givesNow", "()V"⟩, prog_13_method_46_code, 1, none, c_M_givesNow, k_M_givesNow),
  (⟨"WaterByLettersModel", "laysBook", "([I)V"⟩, prog_13_method_42_code, 2, none, c_M_laysBook, k_M_laysBook),
  (⟨"WaterByLettersModel", "laysUnlike", "([I)V"⟩, prog_13_method_38_code, 8, none, c_M_laysUnlike, k_M_laysUnlike),
  (⟨"WaterByLettersModel", "letterOf", "([III)I"⟩, prog_13_method_12_code, 3, (some .int), c_M_letterOf, k_M_letterOf),
  (⟨"WaterByLettersModel", "laysRanks", "([I)V"⟩, prog_13_method_39_code, 3, none, c_M_laysRanks, k_M_laysRanks),
  (⟨"WaterByLettersModel", "laysPlaces", "()V"⟩, prog_13_method_41_code, 3, none, c_M_laysPlaces, k_M_laysPlaces),
  (⟨"WaterByLettersModel", "goesAhead", "(II)Z"⟩, prog_13_method_40_code, 4, (some .boolean), c_M_goesAhead, k_M_goesAhead),
  (⟨"WaterByLettersModel", "yieldOn", "(I)I"⟩, prog_13_method_37_code, 2, (some .int), c_M_yieldOn, k_M_yieldOn),
  (⟨"WaterByLettersModel", "allThirst", "()I"⟩, prog_13_method_14_code, 1, (some .int), c_M_allThirst, k_M_allThirst),
  (⟨"WaterByLettersModel", "sumFrom", "([III)I"⟩, prog_13_method_13_code, 5, (some .int), c_M_sumFrom, k_M_sumFrom),
  (⟨"WaterByLettersModel", "ruled", "()I"⟩, prog_13_method_36_code, 4, (some .int), c_M_ruled, k_M_ruled),
  (⟨"WaterByLettersModel", "worked", "(III)I"⟩, prog_13_method_35_code, 3, (some .int), c_M_worked, k_M_worked),
  (⟨"WaterByLettersModel", "gives", "(I)I"⟩, prog_13_method_43_code, 5, (some .int), c_M_gives, k_M_gives),
  (⟨"WaterByLettersModel", "letter", "(II)I"⟩, prog_13_method_48_code, 3, (some .int), c_M_letter, k_M_letter),
  (⟨"WaterByLettersModel", "sheet", "(IIII)I"⟩, prog_13_method_49_code, 8, (some .int), c_M_sheet, k_M_sheet),
  (⟨"WaterByLettersModel", "undo", "()I"⟩, prog_13_method_52_code, 2, (some .int), c_M_undo, k_M_undo),
  (⟨"WaterByLettersModel", "order", "()I"⟩, prog_13_method_59_code, 4, (some .int), c_M_order, k_M_order),
  (⟨"WaterByLettersModel", "readsOrder", "()I"⟩, prog_13_method_58_code, 4, (some .int), c_M_readsOrder, k_M_readsOrder),
  (⟨"WaterByLettersModel", "has", "(II)Z"⟩, prog_13_method_4_code, 2, (some .boolean), c_M_has, k_M_has),
  (⟨"WaterByLettersModel", "putsBy", "()V"⟩, prog_13_method_50_code, 2, none, c_M_putsBy, k_M_putsBy),
  (⟨"WaterByLettersModel", "adds", "(I)I"⟩, prog_13_method_51_code, 3, (some .int), c_M_adds, k_M_adds),
  (⟨"WaterByLettersModel", "name", "(I)I"⟩, prog_13_method_60_code, 3, (some .int), c_M_name, k_M_name),
  (⟨"WaterByLettersModel", "placeOf", "([II)I"⟩, prog_13_method_56_code, 3, (some .int), c_M_placeOf, k_M_placeOf),
  (⟨"WaterByLettersModel", "marry", "(II)I"⟩, prog_13_method_61_code, 4, (some .int), c_M_marry, k_M_marry),
  (⟨"WaterByLettersModel", "marries", "([III)I"⟩, prog_13_method_57_code, 6, (some .int), c_M_marries, k_M_marries),
  (⟨"WaterByLettersModel", "days", "(I)I"⟩, prog_13_method_62_code, 5, (some .int), c_M_days, k_M_days),
  (⟨"WaterByLettersModel", "dayGoes", "([I)I"⟩, prog_13_method_53_code, 3, (some .int), c_M_dayGoes, k_M_dayGoes),
  (⟨"WaterByLettersModel", "lessBits", "()I"⟩, prog_13_method_45_code, 3, (some .int), c_M_lessBits, k_M_lessBits),
  (⟨"WaterByLettersModel", "enters", "(J)V"⟩, prog_13_method_7_code, 3, none, c_M_enters, k_M_enters),
  (⟨"WaterByLettersModel", "year", "()I"⟩, prog_13_method_65_code, 5, (some .int), c_M_year, k_M_year),
  (⟨"WaterByLettersModel", "readsAct", "()Z"⟩, prog_13_method_63_code, 2, (some .boolean), c_M_readsAct, k_M_readsAct),
  (⟨"WaterByLettersModel", "does", "(I)Z"⟩, prog_13_method_64_code, 3, (some .boolean), c_M_does, k_M_does),
  (⟨"WaterByLettersModel", "turnsRound", "([I)V"⟩, prog_13_method_55_code, 3, none, c_M_turnsRound, k_M_turnsRound),
  (⟨"WaterByLettersModel", "goesRound", "([I)V"⟩, prog_13_method_54_code, 3, none, c_M_goesRound, k_M_goesRound),
  (⟨"WaterByLettersModel", "book", "()I"⟩, prog_13_method_67_code, 2, (some .int), c_M_book, k_M_book),
  (⟨"WaterByLettersModel", "yields", "(I)I"⟩, prog_13_method_68_code, 4, (some .int), c_M_yields, k_M_yields),
  (⟨"WaterByLettersModel", "lessMany", "()I"⟩, prog_13_method_44_code, 3, (some .int), c_M_lessMany, k_M_lessMany),
  (⟨"WaterByLettersModel", "stops", "()I"⟩, prog_13_method_69_code, 3, (some .int), c_M_stops, k_M_stops),
  (⟨"WaterByLettersModel", "dry", "(II)I"⟩, prog_13_method_70_code, 4, (some .int), c_M_dry, k_M_dry),
  (⟨"WaterByLettersModel", "puts", "()V"⟩, prog_13_method_66_code, 2, none, c_M_puts, k_M_puts),
  (⟨"WaterByLettersModel", "waits", "()I"⟩, prog_13_method_71_code, 8, (some .int), c_M_waits, k_M_waits),
  (⟨"WaterByLettersModel", "fewest", "()I"⟩, prog_13_method_76_code, 1, (some .int), c_M_fewest, k_M_fewest),
  (⟨"WaterByLettersModel", "goesThrough", "(III)V"⟩, prog_13_method_74_code, 5, none, c_M_goesThrough, k_M_goesThrough),
  (⟨"WaterByLettersModel", "looksAt", "(I)V"⟩, prog_13_method_73_code, 4, none, c_M_looksAt, k_M_looksAt),
  (⟨"WaterByLettersModel", "keepsTurn", "(I)V"⟩, prog_13_method_72_code, 3, none, c_M_keepsTurn, k_M_keepsTurn),
  (⟨"WaterByLettersModel", "isAsSeen", "()Z"⟩, prog_13_method_90_code, 3, (some .boolean), c_M_isAsSeen, k_M_isAsSeen),
  (⟨"WaterByLettersModel", "tellsTurn", "(I)I"⟩, prog_13_method_75_code, 3, (some .int), c_M_tellsTurn, k_M_tellsTurn),
  (⟨"WaterByLettersModel", "likes", "(I)I"⟩, prog_13_method_77_code, 2, (some .int), c_M_likes, k_M_likes),
  (⟨"WaterByLettersModel", "rounds", "(I)I"⟩, prog_13_method_78_code, 7, (some .int), c_M_rounds, k_M_rounds),
  (⟨"WaterByLettersModel", "votes", "()I"⟩, prog_13_method_80_code, 5, (some .int), c_M_votes, k_M_votes),
  (⟨"WaterByLettersModel", "earlier", "()I"⟩, prog_13_method_79_code, 3, (some .int), c_M_earlier, k_M_earlier),
  (⟨"WaterByLettersModel", "sways", "()I"⟩, prog_13_method_82_code, 7, (some .int), c_M_sways, k_M_sways),
  (⟨"WaterByLettersModel", "thirstOf", "(I)I"⟩, prog_13_method_81_code, 4, (some .int), c_M_thirstOf, k_M_thirstOf),
  (⟨"WaterByLettersModel", "initial", "(I)I"⟩, prog_13_method_83_code, 6, (some .int), c_M_initial, k_M_initial),
  (⟨"WaterByLettersModel", "matches", "()I"⟩, prog_13_method_86_code, 2, (some .int), c_M_matches, k_M_matches),
  (⟨"WaterByLettersModel", "laysClimbs", "()V"⟩, prog_13_method_84_code, 4, none, c_M_laysClimbs, k_M_laysClimbs),
  (⟨"WaterByLettersModel", "pairsFrom", "(IIII)V"⟩, prog_13_method_85_code, 6, none, c_M_pairsFrom, k_M_pairsFrom),
  (⟨"WaterByLettersModel", "lines", "()I"⟩, prog_13_method_87_code, 8, (some .int), c_M_lines, k_M_lines),
  (⟨"WaterByLettersModel", "lot", "(I)I"⟩, prog_13_method_88_code, 12, (some .int), c_M_lot, k_M_lot),
  (⟨"WaterByLettersModel", "tellsFraction", "(JJ)V"⟩, prog_13_method_8_code, 7, none, c_M_tellsFraction, k_M_tellsFraction),
  (⟨"WaterByLettersModel", "common", "(JJ)J"⟩, prog_13_method_6_code, 4, (some .long), c_M_common, k_M_common),
  (⟨"WaterByLettersModel", "shares", "(I)I"⟩, prog_13_method_89_code, 6, (some .int), c_M_shares, k_M_shares),
  (⟨"WaterByLettersModel", "saw", "(II)I"⟩, prog_13_method_91_code, 3, (some .int), c_M_saw, k_M_saw),
  (⟨"WaterByLettersModel", "forget", "()I"⟩, prog_13_method_92_code, 2, (some .int), c_M_forget, k_M_forget),
  (⟨"WaterByLettersModel", "fits", "()I"⟩, prog_13_method_94_code, 1, (some .int), c_M_fits, k_M_fits),
  (⟨"WaterByLettersModel", "laysFits", "()V"⟩, prog_13_method_93_code, 2, none, c_M_laysFits, k_M_laysFits),
  (⟨"WaterByLettersModel", "sure", "(II)I"⟩, prog_13_method_95_code, 4, (some .int), c_M_sure, k_M_sure),
  (⟨"WaterByLettersModel", "isLetter", "(I)Z"⟩, prog_13_method_11_code, 1, (some .boolean), c_M_isLetter, k_M_isLetter),
  (⟨"WaterByLettersModel", "ask", "()I"⟩, prog_13_method_96_code, 7, (some .int), c_M_ask, k_M_ask),
  (⟨"WaterByLettersModel", "law", "()I"⟩, prog_13_method_98_code, 5, (some .int), c_M_law, k_M_law),
  (⟨"WaterByLettersModel", "lessIn", "(I)I"⟩, prog_13_method_97_code, 3, (some .int), c_M_lessIn, k_M_lessIn),
  (⟨"WaterByLettersModel", "rests", "(I)I"⟩, prog_13_method_102_code, 5, (some .int), c_M_rests, k_M_rests),
  (⟨"WaterByLettersModel", "isRest", "(III)Z"⟩, prog_13_method_101_code, 5, (some .boolean), c_M_isRest, k_M_isRest),
  (⟨"WaterByLettersModel", "firstHas", "(II)I"⟩, prog_13_method_99_code, 2, (some .int), c_M_firstHas, k_M_firstHas),
  (⟨"WaterByLettersModel", "otherHas", "(III)I"⟩, prog_13_method_100_code, 3, (some .int), c_M_otherHas, k_M_otherHas),
  (⟨"WaterByLettersModel", "years", "(II)I"⟩, prog_13_method_104_code, 6, (some .int), c_M_years, k_M_years),
  (⟨"WaterByLettersModel", "draws", "(I)I"⟩, prog_13_method_103_code, 2, (some .int), c_M_draws, k_M_draws),
  (⟨"WaterByLettersModel", "keep", "(I)Z"⟩, prog_13_method_105_code, 3, (some .boolean), c_M_keep, k_M_keep),
  (⟨"WaterByLettersModel", "again", "(I)Z"⟩, prog_13_method_106_code, 3, (some .boolean), c_M_again, k_M_again),
  (⟨"WaterByLettersModel", "count", "(I)I"⟩, prog_13_method_107_code, 2, (some .int), c_M_count, k_M_count),
  (⟨"WaterByLettersModel", "row", "(I)J"⟩, prog_13_method_108_code, 2, (some .long), c_M_row, k_M_row),
  (⟨"java/lang/Integer", "bitCount", "(I)I"⟩, prog_18_method_49_code, 1, (some .int), c_Integer_bitCount, k_Integer_bitCount),
  (⟨"java/util/Arrays", "fill", "([II)V"⟩, prog_28_method_103_code, 4, none, c_Arrays_fill, k_Arrays_fill),
  (⟨"java/lang/String", "length", "()I"⟩, prog_21_method_54_code, 1, (some .int), c_String_length, k_String_length),
  (⟨"java/lang/String", "charAt", "(I)C"⟩, prog_21_method_56_code, 2, (some .char), c_String_charAt, k_String_charAt)]
/-- the class of the receiver of each method: its number in z_cl, 104 a literal, 99 none (static) -/
def z_rv : List Nat := [10, 7, 10, 10, 7, 99, 99, 7, 10, 7, 9, 10, 7, 4, 10, 10, 99, 99, 99, 99, 99, 99, 99, 6, 10, 99, 4, 4, 10, 7, 3, 9, 7, 9, 10, 9, 7, 10, 0, 0, 9, 0, 10, 9, 9, 10, 4, 4, 6, 6, 6, 6, 6, 6, 4, 5, 5, 5, 10, 7, 99, 10, 10, 9, 9, 9, 10, 3, 10, 5, 10, 10, 10, 10, 10, 10, 10, 10, 8, 8, 8, 9, 9, 8, 8, 8, 8, 8, 8, 8, 8, 10, 2, 2, 2, 2, 10, 10, 10, 0, 10, 10, 10, 10, 1, 0, 99, 1, 1, 1, 10, 7, 10, 10, 99, 5, 99, 10, 10, 10, 10, 10, 10, 2, 2, 2, 2, 2, 2, 10, 2, 10, 10, 10, 99, 99, 99, 10, 10, 10, 9, 10, 10, 10, 9, 10, 10, 10, 11, 11, 11, 99, 11, 11, 11, 11, 11, 11, 99, 11, 11, 11, 11, 11, 11, 11, 11, 11, 11, 11, 11, 11, 11, 11, 11, 11, 11, 99, 11, 11, 11, 11, 11, 99, 11, 99, 11, 11, 11, 11, 11, 11, 99, 11, 11, 11, 11, 11, 11, 11, 11, 11, 11, 11, 11, 11, 99, 99, 11, 11, 11, 11, 11, 11, 11, 11, 11, 11, 11, 11, 11, 11, 11, 11, 11, 11, 11, 11, 11, 11, 11, 11, 11, 11, 99, 11, 11, 11, 11, 11, 11, 99, 11, 11, 11, 11, 99, 99, 99, 11, 11, 11, 11, 11, 11, 99, 99, 104, 104]
end
section
/-! NUMBERS: ints and longs of the machine beside integers -/
abbrev z_ri (x : Int) : Prop := -2147483648 ≤ x ∧ x < 2147483648
abbrev z_rl (x : Int) : Prop := -9223372036854775808 ≤ x ∧ x < 9223372036854775808
theorem zn_wr (x : Int) : z_wr x = x.bmod 4294967296 := by
  unfold z_wr
  have h := Int.bmod_def x 4294967296
  rw [h]
  split <;> omega
theorem zn_wl (x : Int) : z_wl x = x.bmod 18446744073709551616 := by
  unfold z_wl
  have h := Int.bmod_def x 18446744073709551616
  rw [h]
  split <;> omega
theorem zn_wr_r (x : Int) : z_ri (z_wr x) := by
  unfold z_wr z_ri
  omega
theorem zn_wl_r (x : Int) : z_rl (z_wl x) := by
  unfold z_wl z_rl
  omega
theorem zn_id {x : Int} (h : z_ri x) : z_wr x = x := by
  unfold z_wr; unfold z_ri at h
  omega
theorem zn_idl {x : Int} (h : z_rl x) : z_wl x = x := by
  unfold z_wl; unfold z_rl at h
  omega
theorem zn_of (x : Int) : (Int32.ofInt x).toInt = z_wr x := by
  rw [Int32.toInt_ofInt, zn_wr]
theorem zn_ofl (x : Int) : (Int64.ofInt x).toInt = z_wl x := by
  rw [Int64.toInt_ofInt, zn_wl]
theorem zn_t {x : Int} (h : z_ri x) : (Int32.ofInt x).toInt = x := by rw [zn_of, zn_id h]
theorem zn_tl {x : Int} (h : z_rl x) : (Int64.ofInt x).toInt = x := by rw [zn_ofl, zn_idl h]
theorem zn_o (x : Int) : Int32.ofInt (z_wr x) = Int32.ofInt x := Int32.toInt_inj.mp (by rw [zn_of, zn_of, zn_id (zn_wr_r x)])
theorem zn_ol (x : Int) : Int64.ofInt (z_wl x) = Int64.ofInt x := Int64.toInt_inj.mp (by rw [zn_ofl, zn_ofl, zn_idl (zn_wl_r x)])
theorem zn_r (x : Int32) : z_ri x.toInt := by
  have h1 := Int32.le_toInt x
  have h2 := Int32.toInt_lt x
  unfold z_ri
  omega
theorem zn_rl (x : Int64) : z_rl x.toInt := by
  have h1 := Int64.le_toInt x
  have h2 := Int64.toInt_lt x
  unfold z_rl
  omega
theorem zn_back (x : Int32) : Int32.ofInt x.toInt = x := Int32.ofInt_toInt x
theorem zn_add (a b : Int) : Int32.ofInt a + Int32.ofInt b = Int32.ofInt (z_wr (a + b)) := by rw [zn_o, Int32.ofInt_add]
theorem zn_sub (a b : Int) : Int32.ofInt a - Int32.ofInt b = Int32.ofInt (z_wr (a - b)) := by rw [zn_o, Int32.ofInt_sub]
theorem zn_mul (a b : Int) : Int32.ofInt a * Int32.ofInt b = Int32.ofInt (z_wr (a * b)) := by rw [zn_o, Int32.ofInt_mul]
theorem zn_neg (a : Int) : -Int32.ofInt a = Int32.ofInt (z_wr (-a)) := by rw [zn_o, Int32.ofInt_neg]
theorem zn_addl (a b : Int) : Int64.ofInt a + Int64.ofInt b = Int64.ofInt (z_wl (a + b)) := by rw [zn_ol, Int64.ofInt_add]
theorem zn_mull (a b : Int) : Int64.ofInt a * Int64.ofInt b = Int64.ofInt (z_wl (a * b)) := by rw [zn_ol, Int64.ofInt_mul]
theorem zn_div {a b : Int} (ha : z_ri a) (hb : z_ri b) : Int32.ofInt a / Int32.ofInt b = Int32.ofInt (z_wr (a.tdiv b)) := by
  apply Int32.toInt_inj.mp
  rw [zn_o, Int32.toInt_div, zn_t ha, zn_t hb, zn_of, zn_wr]
theorem zn_divl {a b : Int} (ha : z_rl a) (hb : z_rl b) : Int64.ofInt a / Int64.ofInt b = Int64.ofInt (z_wl (a.tdiv b)) := by
  apply Int64.toInt_inj.mp
  rw [zn_ol, Int64.toInt_div, zn_tl ha, zn_tl hb, zn_ofl, zn_wl]
theorem zn_tmod_r {a b : Int} (ha : z_ri a) : z_ri (a.tmod b) := by
  unfold z_ri at *
  have h1 : (a.tmod b).natAbs ≤ a.natAbs := by
    rw [Int.natAbs_tmod]
    exact Nat.mod_le _ _
  rcases Int.le_total 0 a with h | h
  · have := Int.tmod_nonneg b h
    omega
  · have h2 : a.tmod b = -((-a).tmod b) := by rw [Int.neg_tmod]; omega
    have := Int.tmod_nonneg b (show 0 ≤ -a by omega)
    omega
theorem zn_tmodl_r {a b : Int} (ha : z_rl a) : z_rl (a.tmod b) := by
  unfold z_rl at *
  have h1 : (a.tmod b).natAbs ≤ a.natAbs := by
    rw [Int.natAbs_tmod]
    exact Nat.mod_le _ _
  rcases Int.le_total 0 a with h | h
  · have := Int.tmod_nonneg b h
    omega
  · have h2 : a.tmod b = -((-a).tmod b) := by rw [Int.neg_tmod]; omega
    have := Int.tmod_nonneg b (show 0 ≤ -a by omega)
    omega
theorem zn_rem {a b : Int} (ha : z_ri a) (hb : z_ri b) : Int32.ofInt a - Int32.ofInt a / Int32.ofInt b * Int32.ofInt b = Int32.ofInt (a.tmod b) := by
  rw [zn_div ha hb, zn_o, ← Int32.ofInt_mul, ← Int32.ofInt_sub]
  congr 1
  have := Int.tdiv_mul_add_tmod a b
  omega
theorem zn_reml {a b : Int} (ha : z_rl a) (hb : z_rl b) : Int64.ofInt a - Int64.ofInt a / Int64.ofInt b * Int64.ofInt b = Int64.ofInt (a.tmod b) := by
  rw [zn_divl ha hb, zn_ol, ← Int64.ofInt_mul, ← Int64.ofInt_sub]
  congr 1
  have := Int.tdiv_mul_add_tmod a b
  omega
theorem zn_eq {a b : Int} (ha : z_ri a) (hb : z_ri b) : Int32.ofInt a = Int32.ofInt b ↔ a = b := by
  rw [← Int32.toInt_inj, zn_t ha, zn_t hb]
theorem zn_lt {a b : Int} (ha : z_ri a) (hb : z_ri b) : Int32.ofInt a < Int32.ofInt b ↔ a < b := by
  rw [Int32.lt_iff_toInt_lt, zn_t ha, zn_t hb]
theorem zn_le {a b : Int} (ha : z_ri a) (hb : z_ri b) : Int32.ofInt a ≤ Int32.ofInt b ↔ a ≤ b := by
  rw [Int32.le_iff_toInt_le, zn_t ha, zn_t hb]
theorem zn_eql {a b : Int} (ha : z_rl a) (hb : z_rl b) : Int64.ofInt a = Int64.ofInt b ↔ a = b := by
  rw [← Int64.toInt_inj, zn_tl ha, zn_tl hb]
theorem zn_ltl {a b : Int} (ha : z_rl a) (hb : z_rl b) : Int64.ofInt a < Int64.ofInt b ↔ a < b := by
  rw [Int64.lt_iff_toInt_lt, zn_tl ha, zn_tl hb]
theorem zn_i2l {a : Int} (ha : z_ri a) : (Int32.ofInt a).toInt64 = Int64.ofInt a := by
  apply Int64.toInt_inj.mp
  rw [Int32.toInt_toInt64, zn_t ha, zn_tl (by unfold z_ri at ha; unfold z_rl; omega)]
theorem zn_0 : Int32.ofInt 0 = 0 := rfl
theorem zn_r0 : z_ri 0 := by unfold z_ri; omega
theorem zn_cl {a : Int} (ha : z_ri a) (h : 0 ≤ a) : (Int32.ofInt a).toNatClampNeg = a.toNat := by
  show (Int32.ofInt a).toInt.toNat = a.toNat
  rw [zn_t ha]
theorem zn_in {a : Int} {n : Nat} (ha : z_ri a) (h0 : 0 ≤ a) (h : a < n) : vp_in (Int32.ofInt a) n := by
  rw [vp_in_iff, zn_t ha]
  exact ⟨h0, h⟩
end
section
/-! THE TABLES: fields that are references, words of the classes: written by gen_static.py -/
def z_fk : List (List (Nat × Nat × Nat)) := [[(1, 100, 8), (2, 100, 8), (3, 100, 8), (4, 100, 8), (0, 999, 0)],
  [(1, 100, 64), (2, 100, 256)],
  [(1, 100, 64), (2, 100, 8), (3, 100, 256), (4, 100, 8), (0, 999, 0), (5, 100, 256), (6, 100, 256)],
  [(1, 103, 15), (0, 999, 0), (0, 999, 0)],
  [(1, 100, 8), (2, 100, 20), (0, 999, 0), (3, 100, 8), (0, 999, 0), (0, 999, 0), (0, 999, 0), (0, 999, 0)],
  [(1, 101, 8), (0, 999, 0)],
  [(1, 100, 40), (0, 999, 0), (2, 100, 5), (3, 100, 5), (4, 100, 5), (5, 100, 5), (6, 100, 5), (7, 100, 5), (8, 102, 5), (0, 999, 0)],
  [(1, 100, 80), (0, 999, 0)],
  [(1, 100, 8), (2, 100, 256), (3, 100, 8), (4, 100, 64), (0, 999, 0), (5, 100, 72), (6, 100, 72), (7, 100, 8), (0, 999, 0), (0, 999, 0), (0, 999, 0), (0, 999, 0)],
  [(1, 100, 8), (2, 100, 48), (3, 100, 8), (4, 100, 8), (5, 100, 8), (0, 999, 0), (0, 999, 0)],
  [(1, 7, 0), (3, 5, 0), (5, 6, 0), (14, 6, 0), (23, 9, 0), (29, 9, 0), (35, 0, 0), (40, 0, 0), (45, 4, 0), (49, 3, 0), (141, 103, 3), (0, 999, 0), (142, 100, 8), (143, 100, 8), (0, 999, 0), (144, 2, 0), (151, 8, 0), (159, 1, 0), (162, 100, 8), (0, 999, 0)],
  [(0, 999, 0), (0, 999, 0), (1, 101, 24), (0, 999, 0), (0, 999, 0), (0, 999, 0), (2, 100, 20), (3, 100, 8), (4, 100, 81), (5, 100, 81), (6, 100, 80), (0, 999, 0), (0, 999, 0), (0, 999, 0), (0, 999, 0), (7, 100, 48), (8, 100, 8), (9, 100, 8), (0, 999, 0), (10, 100, 20), (11, 100, 80), (12, 100, 80), (0, 999, 0), (0, 999, 0), (13, 100, 80), (14, 100, 4), (15, 100, 64), (16, 100, 64), (17, 102, 64), (18, 100, 8), (19, 100, 8), (20, 100, 8), (21, 100, 8), (0, 999, 0), (22, 100, 1296), (0, 999, 0), (23, 100, 8), (24, 100, 60), (25, 100, 60), (26, 100, 60), (0, 999, 0), (27, 100, 8), (28, 100, 8), (0, 999, 0), (0, 999, 0), (0, 999, 0), (0, 999, 0), (29, 100, 64), (30, 100, 8), (31, 100, 64), (32, 100, 8), (33, 100, 8), (0, 999, 0), (0, 999, 0), (34, 100, 8), (35, 100, 8), (36, 100, 8), (0, 999, 0), (37, 100, 8), (38, 100, 8), (39, 100, 80), (0, 999, 0), (40, 102, 3), (41, 100, 3), (42, 100, 243)]]
def z_lw : List (List (Nat × Nat)) := [[(1, 166), (1, 168), (1, 170), (1, 172), (1, 174)],
  [(2, 74), (2, 76)],
  [(2, 7), (2, 9), (2, 11), (2, 13), (2, 15), (2, 17), (2, 19)],
  [(1, 227), (1, 229), (1, 231)],
  [(1, 197), (1, 199), (1, 201), (1, 203), (1, 205), (1, 207), (1, 209), (1, 211)],
  [(1, 62), (1, 64)],
  [(1, 84), (1, 86), (1, 88), (1, 90), (1, 92), (1, 94), (1, 96), (1, 98), (1, 100), (1, 102)],
  [(1, 45), (1, 47)],
  [(2, 41), (2, 43), (2, 45), (2, 47), (2, 49), (2, 51), (2, 53), (2, 55), (2, 57), (2, 59), (2, 61), (2, 63)],
  [(1, 133), (1, 135), (1, 137), (1, 139), (1, 141), (1, 143), (1, 145)],
  [(2, 99), (2, 101), (2, 103), (2, 105), (2, 107), (2, 109), (2, 111), (2, 113), (2, 115), (2, 117), (2, 119), (2, 121), (2, 123), (2, 125), (2, 127), (2, 129), (2, 131), (2, 133), (2, 135), (2, 137)],
  [(5, 205), (5, 207), (5, 209), (5, 211), (5, 213), (5, 215), (5, 217), (5, 219), (5, 221), (5, 223), (5, 225), (5, 227), (5, 229), (5, 231), (5, 233), (5, 235), (5, 237), (5, 239), (6, 1), (6, 3), (6, 5), (6, 7), (6, 9), (6, 11), (6, 13), (6, 15), (6, 17), (6, 19), (6, 21), (6, 23), (6, 25), (6, 27), (6, 29), (6, 31), (6, 33), (6, 35), (6, 37), (6, 39), (6, 41), (6, 43), (6, 45), (6, 47), (6, 49), (6, 51), (6, 53), (6, 55), (6, 57), (6, 59), (6, 61), (6, 63), (6, 65), (6, 67), (6, 69), (6, 71), (6, 73), (6, 75), (6, 77), (6, 79), (6, 81), (6, 83), (6, 85), (6, 87), (6, 89), (6, 91), (6, 93)]]
def z_gw : List (Nat × Nat) := [(2, 197), (1, 13), (2, 198), (3, 10), (1, 13), (3, 11), (3, 0), (2, 239), (1, 18)]
end
section
/-! THE CHECK of an instruction against the tables, and what it says -/
/-- the pairs of a lookupswitch, as places -/
def z_lk (pc : Nat) : List (Int × Int) → List Nat → Bool
  | [], [] => true
  | (k, o) :: r, k' :: t :: ts => decide (k = (k' : Int)) && (decide ((pc : Int) + o = (t : Int)) && z_lk pc r ts)
  | _, _ => false
def z_tb : List Cond := lw_tbl.filter goodWord
def z_ck (t : Nat) : List Cond := match t with
  | 0 => k2_sels lw_privs | 1 => tables_1_1 | 2 => tables_1_2 | 3 => tables_1_3 | 4 => tables_1_4 | 5 => tables_1_5 | 6 => tables_1_6 | 7 => tables_1_7 | 8 => tables_1_8 | _ => []
def z_wd (w : Nat × Nat) : Option Cond := (z_ck w.1)[w.2]?
def z_has (w : Option (Nat × Nat)) (c : Cond) : Bool := match w with
  | some q => decide (z_wd q = some c)
  | none => false
theorem z_wd_mem {q : Nat × Nat} {c : Cond} (h : z_wd q = some c) : c ∈ lw_tbl := by
  have h1 : c ∈ z_ck q.1 := List.mem_of_getElem? h
  have h2 : ∀ t, c ∈ z_ck t → c ∈ lw_tbl := by
    intro t ht
    match t, ht with
    | 0, ht => exact List.mem_append_left _ ht
    | 1, ht => exact List.mem_append_right _ (List.mem_append_left _ ht)
    | 2, ht => exact List.mem_append_right _ (List.mem_append_right _ (List.mem_append_left _ ht))
    | 3, ht => exact List.mem_append_right _ (List.mem_append_right _ (List.mem_append_right _ (List.mem_append_left _ ht)))
    | 4, ht => exact List.mem_append_right _ (List.mem_append_right _ (List.mem_append_right _ (List.mem_append_right _ (List.mem_append_left _ ht))))
    | 5, ht => exact List.mem_append_right _ (List.mem_append_right _ (List.mem_append_right _ (List.mem_append_right _ (List.mem_append_right _ (List.mem_append_left _ ht)))))
    | 6, ht => exact List.mem_append_right _ (List.mem_append_right _ (List.mem_append_right _ (List.mem_append_right _ (List.mem_append_right _ (List.mem_append_right _ (List.mem_append_left _ ht))))))
    | 7, ht => exact List.mem_append_right _ (List.mem_append_right _ (List.mem_append_right _ (List.mem_append_right _ (List.mem_append_right _ (List.mem_append_right _ (List.mem_append_right _ (List.mem_append_left _ ht)))))))
    | 8, ht => exact List.mem_append_right _ (List.mem_append_right _ (List.mem_append_right _ (List.mem_append_right _ (List.mem_append_right _ (List.mem_append_right _ (List.mem_append_right _ (List.mem_append_right _ ht)))))))
    | t + 9, ht => cases ht
  exact h2 q.1 h1
theorem z_has_tb {w : Option (Nat × Nat)} {c : Cond} (h : z_has w c = true) (hg : goodWord c = true) : c ∈ z_tb := by
  cases w with
  | none => cases h
  | some q => exact List.mem_filter.mpr ⟨z_wd_mem (of_decide_eq_true h), hg⟩
theorem z_has_tbl {w : Option (Nat × Nat)} {c : Cond} (h : z_has w c = true) : c ∈ lw_tbl := by
  cases w with
  | none => cases h
  | some q => exact z_wd_mem (of_decide_eq_true h)
def z_tg (pc : Nat) (off : Int) (x : List Nat) : Bool := match x with
  | [t] => decide ((pc : Int) + off = (t : Int))
  | _ => false
def z_fd (own : String) (idx ci j : Nat) (w : Option (Nat × Nat)) : Bool := match z_cl[ci]? with
  | some q => decide (ci < 12) && (decide (j < q.2.2) && z_has w (.fieldLink own idx (q.2.1 j).1 (q.2.1 j).2.1 (q.2.1 j).2.2.1))
  | none => false
def z_pf (ci j : Nat) (d : String) : Bool := match z_cl[ci]? with
  | some q => !(q.2.1 j).2.2.2 && decide ((q.2.1 j).2.2.1 = d)
  | none => false
def z_nr (ci j : Nat) : Bool := match (z_ft.getD ci [])[j]? with
  | some q => !(Nat.beq q.1 1)
  | none => false
def z_cm (y na : Nat) (f : zY → Bool) : Bool := match z_mt[y]? with
  | some Y => decide (Y.2.2.1 ≤ 41) && (decide ((parseMethodDescriptor Y.1.desc).map (fun d => d.parameters.length) = some na) && f Y)
  | none => false
def z_rc (r : Nat) (C : String) : Bool := (decide (r < 12) && decide (z_cl[r]?.map (fun q => q.1) = some C)) || (decide (r = 104) && decide (C = "java/lang/String"))
def z_ce (own : String) (nL : Nat) (rt : Option FieldType) (pc : Nat) (i : Instr) (n : Nat) (x : List Nat) (v : Int) (w : List (Nat × Nat)) : Bool :=
  match i with
  | .iconst k => decide (n = 1) && (decide (k = v) && decide (z_ri v))
  | .bipush k => decide (n = 2) && (decide (k = v) && decide (-128 ≤ k ∧ k < 128))
  | .sipush k => decide (n = 3) && (decide (k = v) && decide (-32768 ≤ k ∧ k < 32768))
  | .lconst k => decide (n = 1) && decide ((k.val : Int) = v)
  | .ldc2_w k => decide (n = 3) && (decide (z_rl v) && z_has w[0]? (.constantLong own k (Int64.ofInt v)))
  | .ldc k => decide (n = 2) && (match x with
    | [j, len] => decide (z_st[j]?.map (fun q => (q.1, q.2.1)) = some (own, k)) && (decide (j < 7) && decide (z_sl.getD j 0 = len))
    | [] => decide (z_ri v) && z_has w[0]? (.constant own k (Int32.ofInt v))
    | _ => false)
  | .ldc_w k => decide (n = 3) && (match x with
    | [j, len] => decide (z_st[j]?.map (fun q => (q.1, q.2.1)) = some (own, k)) && (decide (j < 7) && decide (z_sl.getD j 0 = len))
    | [] => decide (z_ri v) && z_has w[0]? (.constant own k (Int32.ofInt v))
    | _ => false)
  | .iload _ => decide (n = 2)
  | .lload _ => decide (n = 2)
  | .aload _ => decide (n = 2)
  | .iload_n _ => decide (n = 1)
  | .lload_n _ => decide (n = 1)
  | .aload_n _ => decide (n = 1)
  | .istore k => decide (n = 2) && decide (k < nL)
  | .istore_n k => decide (n = 1) && decide (k.val < nL)
  | .lstore k => decide (n = 2) && decide (k + 1 < nL)
  | .lstore_n k => decide (n = 1) && decide (k.val + 1 < nL)
  | .iinc k d => decide (n = 3) && (decide (d = v) && decide (k < nL))
  | .iadd | .isub | .imul | .idiv | .irem | .ineg | .iand | .ior | .ixor | .ishl | .ishr | .iushr | .i2l | .i2b | .i2s | .ladd | .lmul | .ldiv | .lrem | .lcmp | .dup | .dup2 | .pop | .iaload | .laload | .baload | .aaload | .iastore | .lastore | .bastore | .arraylength => decide (n = 1)
  | .ifCond _ off => decide (n = 3) && z_tg pc off x
  | .if_icmp _ off => decide (n = 3) && z_tg pc off x
  | .goto off => decide (n = 3) && z_tg pc off x
  | .tableswitch d lo hi offs => match x with
    | dt :: ts => decide ((pc : Int) + d = (dt : Int)) && (decide (offs.toList.map (fun o => (pc : Int) + o) = ts.map (fun t : Nat => (t : Int))) && (decide (hi = lo + ts.length - 1) && decide (lo = v)))
    | [] => false
  | .lookupswitch d ps => match x with
    | dt :: ts => decide ((pc : Int) + d = (dt : Int)) && ((ps.toList.zip (ps.toList.drop 1)).all (fun (a, next) => a.1 < next.1) && z_lk pc ps.toList ts)
    | [] => false
  | .getfield idx => decide (n = 3) && (match x with
    | [ci, j] => z_fd own idx ci j w[0]? && z_nr ci j
    | [ci, j, off, kc, kl] => z_fd own idx ci j w[0]? && (decide ((z_ft.getD ci [])[j]? = some (1, off)) && (decide ((z_fk.getD ci [])[j]? = some (off, kc, kl)) && decide (kc ≠ 104)))
    | _ => false)
  | .putfield idx => decide (n = 3) && (match x with
    | [ci, j] => z_fd own idx ci j w[0]? && (z_nr ci j && z_pf ci j "I")
    | [ci, j, _] => z_fd own idx ci j w[0]? && (z_nr ci j && z_pf ci j "Z")
    | _ => false)
  | .invokestatic idx => decide (n = 3) && (match x with
    | [3] => z_has w[0]? (.methodLink own idx Lib.Math.min.name)
    | [4] => z_has w[0]? (.methodLink own idx Lib.Math.max.name)
    | [5] => z_has w[0]? (.methodLink own idx arraycopyName)
    | [1, y, na] => z_cm y na (fun Y => z_has w[0]? (.methodLink own idx Y.1) && (z_has w[1]? (.static Y.1) && (z_has w[2]? (.initialized Y.1.cls) && z_has w[3]? (.code Y.1 Y.2.1 Y.2.2.1 Y.2.2.2.1))))
    | [2, y, na] => z_cm y na (fun Y => z_has w[3]? (.methodLinkNest own idx Y.1 "WaterByLetters") && (z_has w[0]? (.static Y.1) && (z_has w[1]? (.initialized Y.1.cls) && z_has w[2]? (.code Y.1 Y.2.1 Y.2.2.1 Y.2.2.2.1))))
    | _ => false)
  | .invokevirtual idx => decide (n = 3) && (match x with
    | [y, na] => decide (z_rv.getD y 99 ≠ 99) && z_cm y na (fun Y => z_rc (z_rv.getD y 99) Y.1.cls && (z_has w[0]? (.methodLink own idx Y.1) && (z_has w[1]? (.instanceMethod Y.1) && (z_has w[2]? (.selects Y.1.cls Y.1 Y.1) && (z_has w[3]? (.initialized Y.1.cls) && z_has w[4]? (.code Y.1 Y.2.1 Y.2.2.1 Y.2.2.2.1))))))
    | _ => false)
  | .ireturn => decide (n = 1) && cond (Nat.beq v.toNat 1) (decide (rt = some .boolean)) (decide (rt = some .int))
  | .lreturn => decide (n = 1) && decide (rt = some .long)
  | .return_ => decide (n = 1) && decide (rt = none)
  | _ => false
/-- a method's whole check -/
def z_cY (Y : zY) : Bool := decide (Y.2.2.2.2.1.length = Y.2.2.2.2.2.length) && (Y.2.2.2.2.1.zip Y.2.2.2.2.2).all (fun q => decide (decode Y.2.1 q.1.1 = .ok (q.1.2.1, q.1.2.2.1)) && z_ce Y.1.cls Y.2.2.1 Y.2.2.2.1 q.1.1 q.1.2.1 q.1.2.2.1 q.1.2.2.2.1 q.1.2.2.2.2 q.2)
end
section
/-! EVERY METHOD PASSES THE CHECK -/
def z_cR (a n : Nat) : Bool := ((z_mt.drop a).take n).all z_cY
theorem z_c0 : z_cR 0 10 = true := by decide +kernel
theorem z_c10 : z_cR 10 10 = true := by decide +kernel
theorem z_c20 : z_cR 20 10 = true := by decide +kernel
theorem z_c30 : z_cR 30 10 = true := by decide +kernel
theorem z_c40 : z_cR 40 10 = true := by decide +kernel
theorem z_c50 : z_cR 50 10 = true := by decide +kernel
theorem z_c60 : z_cR 60 10 = true := by decide +kernel
theorem z_c70 : z_cR 70 10 = true := by decide +kernel
theorem z_c80 : z_cR 80 10 = true := by decide +kernel
theorem z_c90 : z_cR 90 10 = true := by decide +kernel
theorem z_c100 : z_cR 100 10 = true := by decide +kernel
theorem z_c110 : z_cR 110 10 = true := by decide +kernel
theorem z_c120 : z_cR 120 10 = true := by decide +kernel
theorem z_c130 : z_cR 130 10 = true := by decide +kernel
theorem z_c140 : z_cR 140 10 = true := by decide +kernel
theorem z_c150 : z_cR 150 10 = true := by decide +kernel
theorem z_c160 : z_cR 160 10 = true := by decide +kernel
theorem z_c170 : z_cR 170 10 = true := by decide +kernel
theorem z_c180 : z_cR 180 10 = true := by decide +kernel
theorem z_c190 : z_cR 190 10 = true := by decide +kernel
theorem z_c200 : z_cR 200 10 = true := by decide +kernel
theorem z_c210 : z_cR 210 10 = true := by decide +kernel
theorem z_c220 : z_cR 220 10 = true := by decide +kernel
theorem z_c230 : z_cR 230 10 = true := by decide +kernel
theorem z_c240 : z_cR 240 10 = true := by decide +kernel
theorem z_c250 : z_cR 250 10 = true := by decide +kernel
end
section
/-! THE WORLD: the machine's cells beside the abstract memory -/
def z_val (ad adK : Nat → Nat) : zU → Value
  | .inl x => .int (Int32.ofInt x)
  | .inr (.inl x) => .long (Int64.ofInt x)
  | .inr (.inr (k, a)) => .ref (cond (Nat.beq k.1 104) (adK a) (ad a))
def z_good : zU → Prop
  | .inl x => z_ri x
  | .inr (.inl x) => z_rl x
  | .inr (.inr (k, a)) => (k.1 = 104 ∧ a < 7 ∧ k.2 = ((z_sl.getD a 0 : Nat) : Int)) ∨ (k.1 ≠ 104 ∧ z_kt[a]? = some k)
def z_mok (M : zM) : Prop := ∀ (a : Nat) (k : zD), z_kt[a]? = some k → ∀ j : Int, (k.1 = 101 → z_rl (M a j)) ∧ (k.1 ≠ 101 → z_ri (M a j))
def z_lv (ad adK : Nat → Nat) : Nat → List zV → List (Nat × Value)
  | _, [] => []
  | i, none :: l => z_lv ad adK (i + 1) l
  | i, some u :: l => (i, z_val ad adK u) :: z_lv ad adK (i + 1) l
theorem z_lv_get {ad adK : Nat → Nat} : ∀ (l : List zV) (j k : Nat) (u : zU), z_get l k = some u → (j + k, z_val ad adK u) ∈ z_lv ad adK j l
  | [], _, _, _, h => by cases h
  | none :: l, j, 0, u, h => by cases h
  | some w :: l, j, 0, u, h => by
    cases h
    exact List.mem_cons_self
  | none :: l, j, k + 1, u, h => by
    have := z_lv_get (ad := ad) (adK := adK) l (j + 1) k u h
    rw [show j + (k + 1) = j + 1 + k by omega]
    exact this
  | some w :: l, j, k + 1, u, h => by
    have := z_lv_get (ad := ad) (adK := adK) l (j + 1) k u h
    rw [show j + (k + 1) = j + 1 + k by omega]
    exact List.mem_cons_of_mem _ this
theorem z_lv_ge {ad adK : Nat → Nat} : ∀ (l : List zV) (j : Nat) (q : Nat × Value), q ∈ z_lv ad adK j l → j ≤ q.1
  | [], _, _, h => by cases h
  | none :: l, j, q, h => by
    have := z_lv_ge l (j + 1) q h
    omega
  | some w :: l, j, q, h => by
    rcases List.mem_cons.mp h with h | h
    · subst h; exact Nat.le_refl _
    · have := z_lv_ge l (j + 1) q h
      omega
theorem z_cat_val {ad adK : Nat → Nat} (u : zU) : (z_val ad adK u).category = z_cat u := by
  rcases u with x | x | ⟨k, a⟩ <;> rfl
theorem z_lv_hd {ad adK : Nat → Nat} (l : List zV) (j : Nat) (q : Nat × Value) (h : q ∈ z_lv ad adK j (z_hd l)) : q ∈ z_lv ad adK j l ∧ q.1 ≠ j := by
  cases l with
  | nil => cases h
  | cons w l =>
    have h2 : q ∈ z_lv ad adK (j + 1) l := h
    have h3 := z_lv_ge l (j + 1) q h2
    refine ⟨?_, by omega⟩
    cases w with
    | none => exact h2
    | some w => exact List.mem_cons_of_mem _ h2
theorem z_lv_put {ad adK : Nat → Nat} (u : zU) : ∀ (l : List zV) (j k : Nat) (q : Nat × Value), q ∈ z_lv ad adK j (z_put l k u) →
    q = (j + k, z_val ad adK u) ∨ (q ∈ z_lv ad adK j l ∧ q.1 ≠ j + k ∧ ¬ (q.1 + 1 = j + k ∧ q.2.category = 2) ∧ (z_cat u = 2 → q.1 ≠ j + k + 1))
  | [], j, k, q, h => by cases h
  | w :: l, j, 0, q, h => by
    have h' : q ∈ (j, z_val ad adK u) :: z_lv ad adK (j + 1) (cond (z_isl (some u)) (z_hd l) l) := h
    rcases List.mem_cons.mp h' with h | h
    · exact Or.inl h
    · right
      have up : ∀ q, q ∈ z_lv ad adK (j + 1) l → q ∈ z_lv ad adK j (w :: l) := by
        intro q hq
        cases w with
        | none => exact hq
        | some w => exact List.mem_cons_of_mem _ hq
      rcases u with x | x | x
      · have h1 : q ∈ z_lv ad adK (j + 1) l := h
        have h2 := z_lv_ge l (j + 1) q h1
        exact ⟨up q h1, by omega, by omega, fun c => by cases c⟩
      · have h1 : q ∈ z_lv ad adK (j + 1) (z_hd l) := h
        obtain ⟨h3, h4⟩ := z_lv_hd l (j + 1) q h1
        have h2 := z_lv_ge l (j + 1) q h3
        exact ⟨up q h3, by omega, by omega, fun _ => by omega⟩
      · have h1 : q ∈ z_lv ad adK (j + 1) l := h
        have h2 := z_lv_ge l (j + 1) q h1
        exact ⟨up q h1, by omega, by omega, fun c => by cases c⟩
  | w :: l, j, k + 1, q, h => by
    have h' : q ∈ z_lv ad adK j (cond (Nat.beq k 0) (cond (z_isl w) none w) w :: z_put l k u) := h
    have tail : q ∈ z_lv ad adK (j + 1) (z_put l k u) → q = (j + (k + 1), z_val ad adK u) ∨ (q ∈ z_lv ad adK j (w :: l) ∧ q.1 ≠ j + (k + 1) ∧ ¬ (q.1 + 1 = j + (k + 1) ∧ q.2.category = 2) ∧ (z_cat u = 2 → q.1 ≠ j + (k + 1) + 1)) := by
      intro hq
      rcases z_lv_put u l (j + 1) k q hq with h1 | ⟨h1, h2, h3, h4⟩
      · left; rw [h1]; congr 1; omega
      · right
        refine ⟨?_, by omega, fun c => h3 ⟨by omega, c.2⟩, fun c => by have := h4 c; omega⟩
        cases w with
        | none => exact h1
        | some w => exact List.mem_cons_of_mem _ h1
    cases w with
    | none =>
      have : q ∈ z_lv ad adK (j + 1) (z_put l k u) := by
        cases hk : Nat.beq k 0 <;> rw [hk] at h' <;> exact h'
      exact tail this
    | some w =>
      by_cases hc : cond (Nat.beq k 0) (cond (z_isl (some w)) none (some w)) (some w) = some w
      · rw [hc] at h'
        rcases List.mem_cons.mp h' with h | h
        · right
          refine ⟨by rw [h]; exact List.mem_cons_self, by rw [h]; show j ≠ _; omega, ?_, fun _ => by rw [h]; show j ≠ _; omega⟩
          rintro ⟨h1, h2⟩
          rw [h] at h1 h2
          have hk0 : k = 0 := by
            have : j + 1 = j + (k + 1) := h1
            omega
          subst hk0
          rcases w with x | x | x
          · cases h2
          · cases hc
          · cases h2
        · exact tail h
      · have hn : cond (Nat.beq k 0) (cond (z_isl (some w)) none (some w)) (some w) = none := by
          cases hk : Nat.beq k 0 <;> rw [hk] at hc
          · exact absurd rfl hc
          · cases hw : z_isl (some w) <;> rw [hw] at hc
            · exact absurd rfl hc
            · rfl
        rw [hn] at h'
        exact tail h'
theorem z_lv_weak {ls : Array Slot} {n : Nat} {l l' : List (Nat × Value)} (h : lv_has ls n l) (hs : ∀ q ∈ l', q ∈ l) : lv_has ls n l' := ⟨h.1, h.2.1, fun q hq => h.2.2 q (hs q hq)⟩
theorem z_put_len (u : zU) : ∀ (l : List zV) (k : Nat), (z_put l k u).length = l.length
  | [], _ => rfl
  | w :: l, 0 => by
    show (cond (z_isl (some u)) (z_hd l) l).length + 1 = l.length + 1
    cases z_isl (some u)
    · rfl
    · cases l <;> rfl
  | w :: l, k + 1 => by
    show (z_put l k u).length + 1 = l.length + 1
    rw [z_put_len u l k]
theorem z_hd_mem {l : List zV} {w : zU} (h : some w ∈ z_hd l) : some w ∈ l := by
  cases l with
  | nil => cases h
  | cons a l =>
    rcases List.mem_cons.mp h with h | h
    · cases h
    · exact List.mem_cons_of_mem _ h
theorem z_put_mem (u : zU) : ∀ (l : List zV) (k : Nat) (w : zU), some w ∈ z_put l k u → w = u ∨ some w ∈ l
  | [], _, _, h => by cases h
  | a :: l, 0, w, h => by
    have h' : some w ∈ some u :: cond (z_isl (some u)) (z_hd l) l := h
    rcases List.mem_cons.mp h' with h | h
    · left; cases h; rfl
    · right
      cases hi : z_isl (some u) <;> rw [hi] at h
      · exact List.mem_cons_of_mem _ h
      · exact List.mem_cons_of_mem _ (z_hd_mem h)
  | a :: l, k + 1, w, h => by
    have h' : some w ∈ cond (Nat.beq k 0) (cond (z_isl a) none a) a :: z_put l k u := h
    rcases List.mem_cons.mp h' with h | h
    · right
      cases hk : Nat.beq k 0 <;> rw [hk] at h
      · rw [show some w = a from h]; exact List.mem_cons_self
      · cases hw : z_isl a <;> rw [hw] at h
        · rw [show some w = a from h]; exact List.mem_cons_self
        · cases h
    · rcases z_put_mem u l k w h with h | h
      · exact Or.inl h
      · exact Or.inr (List.mem_cons_of_mem _ h)
def z_gl (l : List zV) : Prop := ∀ u : zU, some u ∈ l → z_good u
def z_gs (l : List zU) : Prop := ∀ u ∈ l, z_good u
theorem z_get_mem : ∀ (l : List zV) (k : Nat) (u : zU), z_get l k = some u → some u ∈ l
  | [], _, _, h => by cases h
  | a :: l, 0, u, h => by rw [show a = some u from h]; exact List.mem_cons_self
  | a :: l, k + 1, u, h => List.mem_cons_of_mem _ (z_get_mem l k u h)
theorem z_gl_put {l : List zV} {k : Nat} {u : zU} (h : z_gl l) (hu : z_good u) : z_gl (z_put l k u) := by
  intro w hw
  rcases z_put_mem u l k w hw with h1 | h1
  · rw [h1]; exact hu
  · exact h w h1
theorem z_gs_c {u : zU} {l : List zU} : z_gs (u :: l) ↔ z_good u ∧ z_gs l := List.forall_mem_cons
/-- the fields of an object -/
def z_f1 (ad : Nat → Nat) (M : zM) (a j : Nat) (q : Nat × Nat) : Value := cond (Nat.beq q.1 1) (.ref (ad (a + q.2))) (.int (Int32.ofInt (M a (j : Int))))
def z_fs (ad : Nat → Nat) (M : zM) (a : Nat) : Nat → List (Nat × Nat) → List Value
  | _, [] => []
  | j, q :: l => z_f1 ad M a j q :: z_fs ad M a (j + 1) l
theorem z_fs_get {ad : Nat → Nat} {M : zM} {a : Nat} : ∀ (l : List (Nat × Nat)) (j i : Nat), (z_fs ad M a j l)[i]? = l[i]?.map (fun q => z_f1 ad M a (j + i) q)
  | [], _, _ => rfl
  | q :: l, j, 0 => rfl
  | q :: l, j, i + 1 => by
    show (z_fs ad M a (j + 1) l)[i]? = l[i]?.map _
    rw [z_fs_get l (j + 1) i, show j + 1 + i = j + (i + 1) by omega]
theorem z_fs_len {ad : Nat → Nat} {M : zM} {a : Nat} : ∀ (l : List (Nat × Nat)) (j : Nat), (z_fs ad M a j l).length = l.length
  | [], _ => rfl
  | _ :: l, j => by
    show (z_fs ad M a (j + 1) l).length + 1 = l.length + 1
    rw [z_fs_len l (j + 1)]
theorem z_up_same (M : zM) (a : Nat) (i v : Int) : z_up M a i v a i = v := by simp [z_up]
theorem z_up_ne (M : zM) {a b : Nat} {i j : Int} (v : Int) (h : ¬ (b = a ∧ j = i)) : z_up M a i v b j = M b j := by simp [z_up, h]
theorem z_fs_set {ad : Nat → Nat} {M : zM} {a i : Nat} {v : Int} {q : Nat × Nat} {l : List (Nat × Nat)} (h : l[i]? = some q) (hq : Nat.beq q.1 1 = false) : (z_fs ad M a 0 l).set i (.int (Int32.ofInt v)) = z_fs ad (z_up M a (i : Int) v) a 0 l := by
  apply List.ext_getElem?
  intro n
  rw [List.getElem?_set, z_fs_get, z_fs_get, z_fs_len]
  have hlt : i < l.length := (List.getElem?_eq_some_iff.mp h).1
  by_cases hn : i = n
  · subst hn
    rw [if_pos rfl, if_pos hlt, h]
    simp only [Option.map_some, z_f1, hq, cond_false, Nat.zero_add, z_up_same]
  · rw [if_neg hn]
    cases l[n]? with
    | none => rfl
    | some r =>
      simp only [Option.map_some, z_f1, Nat.zero_add]
      rw [z_up_ne]
      intro c
      exact hn (by have := c.2; omega)
/-- a cell -/
def z_e (ad : Nat → Nat) (cA : Nat → ClassId) (M : zM) (a : Nat) (k : zD) : va_E :=
  cond (Nat.beq k.1 100) (.inl (cA 0, k.2.toNat, .inl fun j => Int32.ofInt (M a (j : Int))))
  (cond (Nat.beq k.1 101) (.inl (cA 1, k.2.toNat, .inr (.inl fun j => Int64.ofInt (M a (j : Int)))))
  (cond (Nat.beq k.1 102) (.inl (cA 2, k.2.toNat, .inl fun j => Int32.ofInt (M a (j : Int))))
  (cond (Nat.beq k.1 103) (.inl (cA 3, k.2.toNat, .inr (.inr (.inr (.inr fun j => some (ad (z_el a (j : Int))))))))
  (.inr (k.1, z_fs ad M a 0 (z_ft.getD k.1 []))))))
def z_wf (ad : Nat → Nat) (cA : Nat → ClassId) (M : zM) : Nat → List zD → va_W
  | _, [] => []
  | a, k :: l => (ad a, z_e ad cA M a k) :: z_wf ad cA M (a + 1) l
theorem z_wf_get {ad : Nat → Nat} {cA : Nat → ClassId} {M : zM} : ∀ (l : List zD) (a i : Nat), (z_wf ad cA M a l)[i]? = l[i]?.map (fun k => (ad (a + i), z_e ad cA M (a + i) k))
  | [], _, _ => rfl
  | k :: l, a, 0 => rfl
  | k :: l, a, i + 1 => by
    show (z_wf ad cA M (a + 1) l)[i]? = l[i]?.map _
    rw [z_wf_get l (a + 1) i, show a + 1 + i = a + (i + 1) by omega]
def z_w (ad : Nat → Nat) (cA : Nat → ClassId) (M : zM) : va_W := z_wf ad cA M 0 z_kt
theorem z_w_get {ad : Nat → Nat} {cA : Nat → ClassId} {M : zM} (a : Nat) : (z_w ad cA M)[a]? = z_kt[a]?.map (fun k => (ad a, z_e ad cA M a k)) := by
  unfold z_w
  rw [z_wf_get, Nat.zero_add]
theorem z_w_at {ad : Nat → Nat} {cA : Nat → ClassId} {M : zM} {a : Nat} {k : zD} (h : z_kt[a]? = some k) : (z_w ad cA M)[a]? = some (ad a, z_e ad cA M a k) := by
  rw [z_w_get, h]; rfl
theorem z_fs_ext {ad : Nat → Nat} {M M' : zM} {a : Nat} (h : M' a = M a) : ∀ (l : List (Nat × Nat)) (j : Nat), z_fs ad M' a j l = z_fs ad M a j l
  | [], _ => rfl
  | q :: l, j => by
    show z_f1 ad M' a j q :: z_fs ad M' a (j + 1) l = z_f1 ad M a j q :: z_fs ad M a (j + 1) l
    rw [z_fs_ext h l (j + 1)]
    simp only [z_f1, h]
theorem z_e_ext {ad : Nat → Nat} {cA : Nat → ClassId} {M M' : zM} {a : Nat} {k : zD} (h : M' a = M a) : z_e ad cA M' a k = z_e ad cA M a k := by
  unfold z_e
  rw [z_fs_ext h, h]
theorem z_w_set {ad : Nat → Nat} {cA : Nat → ClassId} {M M' : zM} {a : Nat} {k : zD} {E : va_E} (h : z_kt[a]? = some k) (hE : E = z_e ad cA M' a k) (ho : ∀ b, b ≠ a → M' b = M b) : (z_w ad cA M).set a (ad a, E) = z_w ad cA M' := by
  subst hE
  apply List.ext_getElem?
  intro n
  rw [List.getElem?_set, z_w_get, z_w_get]
  have hlt : a < (z_w ad cA M).length := (List.getElem?_eq_some_iff.mp (z_w_at (ad := ad) (cA := cA) (M := M) h)).1
  by_cases hn : a = n
  · subst hn
    rw [if_pos rfl, if_pos hlt, h]
    rfl
  · rw [if_neg hn]
    cases z_kt[n]? with
    | none => rfl
    | some r =>
      simp only [Option.map_some]
      rw [z_e_ext (ho n (fun c => hn c.symm))]
theorem z_w_D {ad : Nat → Nat} {cA : Nat → ClassId} {M : zM} {A : Nat → Prop} (h1 : ∀ i j, i < z_kt.length → j < z_kt.length → ad i = ad j → i = j) (h2 : ∀ i, i < z_kt.length → A (ad i)) : va_D A (z_w ad cA M) := by
  have get : ∀ (i : Nat) (p : Nat × va_E), (z_w ad cA M)[i]? = some p → i < z_kt.length ∧ p.1 = ad i := by
    intro i p hp
    rw [z_w_get] at hp
    cases hk : z_kt[i]? with
    | none => rw [hk] at hp; cases hp
    | some k =>
      rw [hk] at hp
      cases hp
      exact ⟨(List.getElem?_eq_some_iff.mp hk).1, rfl⟩
  refine ⟨fun i j p q hp hq he => ?_, fun k q hq => ?_⟩
  · obtain ⟨a1, a2⟩ := get i p hp
    obtain ⟨b1, b2⟩ := get j q hq
    exact h1 i j a1 b1 (by rw [← a2, ← b2]; exact he)
  · obtain ⟨a1, a2⟩ := get k q hq
    rw [a2]; exact h2 k a1
end
section
/-! THE MACHINE FOLLOWS z_step: a row an instruction (written by gen_step.py) -/
def z_ty (cA : Nat → ClassId) : List (ClassId × FieldType) := [(cA 0, .int), (cA 1, .long), (cA 2, .boolean), (cA 3, .object "WaterByLetters$Town")]
/-- what holds in a method's body -/
def z_cx (p : Program) (R : Room) (s : State) (m : MethodId) (args : Array Value) (c : Code) (cc : ByteArray) (nL : Nat) (own : String) (D : va_G) (cA : Nat → ClassId) (ad adK : Nat → Nat) (A : Nat → Prop) : Prop :=
  p.tables.exec = Jvm.exec ∧ c.code = cc ∧ c.maxLocals = nL ∧ s.vm.findClass own = some m.cls ∧ (∀ w ∈ z_tb, w.before args s = true) ∧ va_K D z_cl (z_ty cA) s ∧ (∀ i j, i < z_kt.length → j < z_kt.length → ad i = ad j → i = j) ∧ (∀ i, i < z_kt.length → A (ad i)) ∧ (∀ j q, z_st[j]? = some q → vk_R q.1 q.2.1 q.2.2 (adK j) s) ∧ (1 ≤ R.frames ∧ 60 ≤ R.locals)
def z_X (p : Program) (l : Launch) (e : Env) (R : Room) (s : State) (m : MethodId) (args : Array Value) (below : List Frame) (meth : Method) (c : Code) (nL : Nat) (D : va_G) (cA : Nat → ClassId) (ad adK : Nat → Nat) (A : Nat → Prop) (Qj : State → Prop) (pc : Nat) (zl : List zV) (zs : List zU) (M : zM) : Prop :=
  zl.length = nL → z_gl zl → z_gs zs → z_mok M → ∀ (H : Heap) (locs : List Loc) (ls : Array Slot), va_P D z_cl (z_w ad cA M) H → va_S A s.heap H locs → lv_has ls nL (z_lv ad adK 0 zl) → W p l e R s m args below meth c H locs 0 0 Qj (F0 m pc ls (zs.map (z_val ad adK)))
section
variable {p : Program} {l : Launch} {e : Env} {R : Room} {s : State} {m : MethodId} {args : Array Value} {below : List Frame} {meth : Method} {c : Code} {cc : ByteArray} {nL : Nat} {own : String} {D : va_G} {cA : Nat → ClassId} {ad adK : Nat → Nat} {A : Nat → Prop} {Qj : State → Prop} {pc : Nat} {zl : List zV} {zs : List zU} {M : zM}
theorem zs_iconst (cx : z_cx p R s m args c cc nL own D cA ad adK A) {k v : Int} (hd : decode cc pc = .ok (.iconst k, 1)) (hv0 : k = v) (hr : z_ri v) (h : z_X p l e R s m args below meth c nL D cA ad adK A Qj (pc + 1) zl (z_i v :: zs) M) : z_X p l e R s m args below meth c nL D cA ad adK A Qj pc zl zs M := by
  obtain ⟨hx, hb, hml, hown, hts, hK, hinj, hinA, hstr, hroom⟩ := cx
  intro hl hg hs hm H locs ls hP hS hv
  exact lv_iconst hx hb hd (by rw [hv0]) (h hl hg (z_gs_c.mpr ⟨hr, hs⟩) hm H locs ls hP hS hv)
theorem zs_i8 {k : Int} (h1 : -128 ≤ k) (h2 : k < 128) : (Int8.ofInt k).toInt32 = Int32.ofInt k := by
  apply Int32.toInt_inj.mp
  rw [zn_t (by unfold z_ri; omega), Int8.toInt_toInt32, Int8.toInt_ofInt_of_le (by omega) (by omega)]
theorem zs_i16 {k : Int} (h1 : -32768 ≤ k) (h2 : k < 32768) : (Int16.ofInt k).toInt32 = Int32.ofInt k := by
  apply Int32.toInt_inj.mp
  rw [zn_t (by unfold z_ri; omega), Int16.toInt_toInt32, Int16.toInt_ofInt_of_le (by omega) (by omega)]
theorem zs_bipush (cx : z_cx p R s m args c cc nL own D cA ad adK A) {k v : Int} (hd : decode cc pc = .ok (.bipush k, 2)) (hv0 : k = v) (hr : -128 ≤ k ∧ k < 128) (h : z_X p l e R s m args below meth c nL D cA ad adK A Qj (pc + 2) zl (z_i v :: zs) M) : z_X p l e R s m args below meth c nL D cA ad adK A Qj pc zl zs M := by
  obtain ⟨hx, hb, hml, hown, hts, hK, hinj, hinA, hstr, hroom⟩ := cx
  intro hl hg hs hm H locs ls hP hS hv
  subst hv0
  exact lv_bipush hx hb hd (zs_i8 hr.1 hr.2) (h hl hg (z_gs_c.mpr ⟨by show z_ri k; unfold z_ri; omega, hs⟩) hm H locs ls hP hS hv)
theorem zs_sipush (cx : z_cx p R s m args c cc nL own D cA ad adK A) {k v : Int} (hd : decode cc pc = .ok (.sipush k, 3)) (hv0 : k = v) (hr : -32768 ≤ k ∧ k < 32768) (h : z_X p l e R s m args below meth c nL D cA ad adK A Qj (pc + 3) zl (z_i v :: zs) M) : z_X p l e R s m args below meth c nL D cA ad adK A Qj pc zl zs M := by
  obtain ⟨hx, hb, hml, hown, hts, hK, hinj, hinA, hstr, hroom⟩ := cx
  intro hl hg hs hm H locs ls hP hS hv
  subst hv0
  exact lv_sipush hx hb hd (zs_i16 hr.1 hr.2) (h hl hg (z_gs_c.mpr ⟨by show z_ri k; unfold z_ri; omega, hs⟩) hm H locs ls hP hS hv)
theorem zs_lconst (cx : z_cx p R s m args c cc nL own D cA ad adK A) {k : Fin 2} {v : Int} (hd : decode cc pc = .ok (.lconst k, 1)) (hv0 : (k.val : Int) = v) (h : z_X p l e R s m args below meth c nL D cA ad adK A Qj (pc + 1) zl (z_l v :: zs) M) : z_X p l e R s m args below meth c nL D cA ad adK A Qj pc zl zs M := by
  obtain ⟨hx, hb, hml, hown, hts, hK, hinj, hinA, hstr, hroom⟩ := cx
  intro hl hg hs hm H locs ls hP hS hv
  have hk := k.isLt
  refine lv_lconst hx hb hd (v := Int64.ofInt v) ?_ (h hl hg (z_gs_c.mpr ⟨by show z_rl v; unfold z_rl; omega, hs⟩) hm H locs ls hP hS hv)
  rw [← hv0]
  exact (Int64.ofInt_eq_ofNat).symm
theorem zs_ldc2 (cx : z_cx p R s m args c cc nL own D cA ad adK A) {k : Nat} {v : Int} (hd : decode cc pc = .ok (.ldc2_w k, 3)) (hr : z_rl v) (hw : Cond.constantLong own k (Int64.ofInt v) ∈ z_tb) (h : z_X p l e R s m args below meth c nL D cA ad adK A Qj (pc + 3) zl (z_l v :: zs) M) : z_X p l e R s m args below meth c nL D cA ad adK A Qj pc zl zs M := by
  obtain ⟨hx, hb, hml, hown, hts, hK, hinj, hinA, hstr, hroom⟩ := cx
  intro hl hg hs hm H locs ls hP hS hv
  exact lv_ldc2 hx hb hown (hts _ hw) hd (h hl hg (z_gs_c.mpr ⟨hr, hs⟩) hm H locs ls hP hS hv)
theorem zs_ldc (cx : z_cx p R s m args c cc nL own D cA ad adK A) {k : Nat} {v : Int} (hd : decode cc pc = .ok (.ldc k, 2)) (hr : z_ri v) (hw : Cond.constant own k (Int32.ofInt v) ∈ z_tb) (h : z_X p l e R s m args below meth c nL D cA ad adK A Qj (pc + 2) zl (z_i v :: zs) M) : z_X p l e R s m args below meth c nL D cA ad adK A Qj pc zl zs M := by
  obtain ⟨hx, hb, hml, hown, hts, hK, hinj, hinA, hstr, hroom⟩ := cx
  intro hl hg hs hm H locs ls hP hS hv
  exact lv_ldc hx hb hown (hts _ hw) hd (h hl hg (z_gs_c.mpr ⟨hr, hs⟩) hm H locs ls hP hS hv)
theorem zs_ldcw (cx : z_cx p R s m args c cc nL own D cA ad adK A) {k : Nat} {v : Int} (hd : decode cc pc = .ok (.ldc_w k, 3)) (hr : z_ri v) (hw : Cond.constant own k (Int32.ofInt v) ∈ z_tb) (h : z_X p l e R s m args below meth c nL D cA ad adK A Qj (pc + 3) zl (z_i v :: zs) M) : z_X p l e R s m args below meth c nL D cA ad adK A Qj pc zl zs M := by
  obtain ⟨hx, hb, hml, hown, hts, hK, hinj, hinA, hstr, hroom⟩ := cx
  intro hl hg hs hm H locs ls hP hS hv
  exact lv_ldcw hx hb hown (hts _ hw) hd (h hl hg (z_gs_c.mpr ⟨hr, hs⟩) hm H locs ls hP hS hv)
theorem zs_ldcS (cx : z_cx p R s m args c cc nL own D cA ad adK A) {k j len : Nat} {tx : String} (hd : decode cc pc = .ok (.ldc k, 2)) (hj : z_st[j]? = some (own, k, tx)) (hlen : j < 7 ∧ z_sl.getD j 0 = len) (h : z_X p l e R s m args below meth c nL D cA ad adK A Qj (pc + 2) zl (z_r (104, (len : Int)) j :: zs) M) : z_X p l e R s m args below meth c nL D cA ad adK A Qj pc zl zs M := by
  obtain ⟨hx, hb, hml, hown, hts, hK, hinj, hinA, hstr, hroom⟩ := cx
  intro hl hg hs hm H locs ls hP hS hv
  exact va_ldcS hx hb hown (hstr j _ hj) hd (h hl hg (z_gs_c.mpr ⟨Or.inl ⟨rfl, hlen.1, by rw [hlen.2]⟩, hs⟩) hm H locs ls hP hS hv)
theorem zs_ldcwS0 {H : Heap} {locs : List Loc} {cells slots : Nat} {Q : State → Prop} {ls : Array Slot} {rest : List Value} (hexec : p.tables.exec = Jvm.exec) (hb : c.code = cc) {own tx : String} {index q : Nat} (hown : s.vm.findClass own = some m.cls) (hZ : vk_R own index tx q s) (hdg : decode cc pc = .ok (.ldc_w index, 3))
    (k : W p l e R s m args below meth c H locs cells slots Q (F0 m (pc + 3) ls (.ref q :: rest))) : W p l e R s m args below meth c H locs cells slots Q (F0 m pc ls rest) := by
  intro T hT X
  obtain ⟨t, a1, b1⟩ := k T hT X
  refine ⟨t, ?_, b1⟩
  obtain ⟨k, cf, i, a', hk, hcf, hcp, -, hr, hev'⟩ := Cond.stringRef_spec hown hZ.1
  cases hZ.2.symm.trans hev'
  obtain ⟨k', hk', he⟩ := X.warmed.alike.2.2 _ _ hk
  have hr' : k'.resolved[index]? = some (some (.string q)) := by
    rcases X.warmed.entry hk hk' index with h | ⟨h, -⟩
    · rw [h]; exact hr
    · rw [hr] at h; cases h
  subst hb
  jvm_step X.here [hexec, hdg, ldc_w.wp_string (e := e) (s := T) (f := F0 m pc ls rest) X.here.top hk' (by rw [he]; exact hcf) hcp hr']
  exact a1
theorem zs_ldcwS (cx : z_cx p R s m args c cc nL own D cA ad adK A) {k j len : Nat} {tx : String} (hd : decode cc pc = .ok (.ldc_w k, 3)) (hj : z_st[j]? = some (own, k, tx)) (hlen : j < 7 ∧ z_sl.getD j 0 = len) (h : z_X p l e R s m args below meth c nL D cA ad adK A Qj (pc + 3) zl (z_r (104, (len : Int)) j :: zs) M) : z_X p l e R s m args below meth c nL D cA ad adK A Qj pc zl zs M := by
  obtain ⟨hx, hb, hml, hown, hts, hK, hinj, hinA, hstr, hroom⟩ := cx
  intro hl hg hs hm H locs ls hP hS hv
  exact zs_ldcwS0 hx hb hown (hstr j _ hj) hd (h hl hg (z_gs_c.mpr ⟨Or.inl ⟨rfl, hlen.1, by rw [hlen.2]⟩, hs⟩) hm H locs ls hP hS hv)
theorem zs_iload (cx : z_cx p R s m args c cc nL own D cA ad adK A) {k : Nat} {a : Int} (hd : decode cc pc = .ok (.iload k, 2)) (hk : z_get zl k = some (Sum.inl a)) (h : z_X p l e R s m args below meth c nL D cA ad adK A Qj (pc + 2) zl (z_i a :: zs) M) : z_X p l e R s m args below meth c nL D cA ad adK A Qj pc zl zs M := by
  obtain ⟨hx, hb, hml, hown, hts, hK, hinj, hinA, hstr, hroom⟩ := cx
  intro hl hg hs hm H locs ls hP hS hv
  have hmem := z_lv_get (ad := ad) (adK := adK) zl 0 k _ hk
  rw [Nat.zero_add] at hmem
  exact lv_iload hx hb hd (hv.2.2 _ hmem) (h hl hg (z_gs_c.mpr ⟨hg _ (z_get_mem zl k _ hk), hs⟩) hm H locs ls hP hS hv)
theorem zs_iload_n (cx : z_cx p R s m args c cc nL own D cA ad adK A) {k : Fin 4} {a : Int} (hd : decode cc pc = .ok (.iload_n k, 1)) (hk : z_get zl k.val = some (Sum.inl a)) (h : z_X p l e R s m args below meth c nL D cA ad adK A Qj (pc + 1) zl (z_i a :: zs) M) : z_X p l e R s m args below meth c nL D cA ad adK A Qj pc zl zs M := by
  obtain ⟨hx, hb, hml, hown, hts, hK, hinj, hinA, hstr, hroom⟩ := cx
  intro hl hg hs hm H locs ls hP hS hv
  have hmem := z_lv_get (ad := ad) (adK := adK) zl 0 k.val _ hk
  rw [Nat.zero_add] at hmem
  exact lv_iload_n hx hb hd rfl (hv.2.2 _ hmem) (h hl hg (z_gs_c.mpr ⟨hg _ (z_get_mem zl k.val _ hk), hs⟩) hm H locs ls hP hS hv)
theorem zs_lload (cx : z_cx p R s m args c cc nL own D cA ad adK A) {k : Nat} {a : Int} (hd : decode cc pc = .ok (.lload k, 2)) (hk : z_get zl k = some (Sum.inr (.inl a))) (h : z_X p l e R s m args below meth c nL D cA ad adK A Qj (pc + 2) zl (z_l a :: zs) M) : z_X p l e R s m args below meth c nL D cA ad adK A Qj pc zl zs M := by
  obtain ⟨hx, hb, hml, hown, hts, hK, hinj, hinA, hstr, hroom⟩ := cx
  intro hl hg hs hm H locs ls hP hS hv
  have hmem := z_lv_get (ad := ad) (adK := adK) zl 0 k _ hk
  rw [Nat.zero_add] at hmem
  exact lv_lload hx hb hd (hv.2.2 _ hmem) (h hl hg (z_gs_c.mpr ⟨hg _ (z_get_mem zl k _ hk), hs⟩) hm H locs ls hP hS hv)
theorem zs_lload_n (cx : z_cx p R s m args c cc nL own D cA ad adK A) {k : Fin 4} {a : Int} (hd : decode cc pc = .ok (.lload_n k, 1)) (hk : z_get zl k.val = some (Sum.inr (.inl a))) (h : z_X p l e R s m args below meth c nL D cA ad adK A Qj (pc + 1) zl (z_l a :: zs) M) : z_X p l e R s m args below meth c nL D cA ad adK A Qj pc zl zs M := by
  obtain ⟨hx, hb, hml, hown, hts, hK, hinj, hinA, hstr, hroom⟩ := cx
  intro hl hg hs hm H locs ls hP hS hv
  have hmem := z_lv_get (ad := ad) (adK := adK) zl 0 k.val _ hk
  rw [Nat.zero_add] at hmem
  exact lv_lload_n hx hb hd rfl (hv.2.2 _ hmem) (h hl hg (z_gs_c.mpr ⟨hg _ (z_get_mem zl k.val _ hk), hs⟩) hm H locs ls hP hS hv)
theorem zs_aload (cx : z_cx p R s m args c cc nL own D cA ad adK A) {k : Nat} {a : zD × Nat} (hd : decode cc pc = .ok (.aload k, 2)) (hk : z_get zl k = some (Sum.inr (.inr a))) (h : z_X p l e R s m args below meth c nL D cA ad adK A Qj (pc + 2) zl (.inr (.inr a) :: zs) M) : z_X p l e R s m args below meth c nL D cA ad adK A Qj pc zl zs M := by
  obtain ⟨hx, hb, hml, hown, hts, hK, hinj, hinA, hstr, hroom⟩ := cx
  intro hl hg hs hm H locs ls hP hS hv
  have hmem := z_lv_get (ad := ad) (adK := adK) zl 0 k _ hk
  rw [Nat.zero_add] at hmem
  exact lv_aload hx hb hd (hv.2.2 _ hmem) (h hl hg (z_gs_c.mpr ⟨hg _ (z_get_mem zl k _ hk), hs⟩) hm H locs ls hP hS hv)
theorem zs_aload_n (cx : z_cx p R s m args c cc nL own D cA ad adK A) {k : Fin 4} {a : zD × Nat} (hd : decode cc pc = .ok (.aload_n k, 1)) (hk : z_get zl k.val = some (Sum.inr (.inr a))) (h : z_X p l e R s m args below meth c nL D cA ad adK A Qj (pc + 1) zl (.inr (.inr a) :: zs) M) : z_X p l e R s m args below meth c nL D cA ad adK A Qj pc zl zs M := by
  obtain ⟨hx, hb, hml, hown, hts, hK, hinj, hinA, hstr, hroom⟩ := cx
  intro hl hg hs hm H locs ls hP hS hv
  have hmem := z_lv_get (ad := ad) (adK := adK) zl 0 k.val _ hk
  rw [Nat.zero_add] at hmem
  exact lv_aload_n hx hb hd rfl (hv.2.2 _ hmem) (h hl hg (z_gs_c.mpr ⟨hg _ (z_get_mem zl k.val _ hk), hs⟩) hm H locs ls hP hS hv)
theorem zs_st1 {ls : Array Slot} {k : Nat} {u : zU} (hu : z_cat u = 1) (h : lv_has ls nL ((k, z_val ad adK u) :: (z_lv ad adK 0 zl).filter (fun q => !(q.1 == k) && !(q.1 + 1 == k && q.2.category == 2)))) : lv_has ls nL (z_lv ad adK 0 (z_put zl k u)) := by
  refine z_lv_weak h (fun q hq => ?_)
  rcases z_lv_put u zl 0 k q hq with h1 | ⟨h1, h2, h3, -⟩
  · rw [h1, Nat.zero_add]; exact List.mem_cons_self
  · rw [Nat.zero_add] at h2 h3
    refine List.mem_cons_of_mem _ (List.mem_filter.mpr ⟨h1, ?_⟩)
    simp only [Bool.and_eq_true, Bool.not_eq_true', beq_eq_false_iff_ne, Bool.and_eq_false_iff, ne_eq]
    refine ⟨h2, ?_⟩
    by_cases hc : q.1 + 1 = k
    · exact Or.inr (fun c => h3 ⟨hc, c⟩)
    · exact Or.inl hc
theorem zs_st2 {ls : Array Slot} {k : Nat} {u : zU} (hu : z_cat u = 2) (h : lv_has ls nL ((k, z_val ad adK u) :: (z_lv ad adK 0 zl).filter (fun q => !(q.1 == k) && (!(q.1 == k + 1) && !(q.1 + 1 == k && q.2.category == 2))))) : lv_has ls nL (z_lv ad adK 0 (z_put zl k u)) := by
  refine z_lv_weak h (fun q hq => ?_)
  rcases z_lv_put u zl 0 k q hq with h1 | ⟨h1, h2, h3, h4⟩
  · rw [h1, Nat.zero_add]; exact List.mem_cons_self
  · have h4 := h4 hu
    rw [Nat.zero_add] at h2 h3 h4
    refine List.mem_cons_of_mem _ (List.mem_filter.mpr ⟨h1, ?_⟩)
    simp only [Bool.and_eq_true, Bool.not_eq_true', beq_eq_false_iff_ne, Bool.and_eq_false_iff, ne_eq]
    refine ⟨h2, h4, ?_⟩
    by_cases hc : q.1 + 1 = k
    · exact Or.inr (fun c => h3 ⟨hc, c⟩)
    · exact Or.inl hc
theorem zs_istore (cx : z_cx p R s m args c cc nL own D cA ad adK A) {k : Nat} {a : Int} (hd : decode cc pc = .ok (.istore k, 2)) (hk : k < nL) (h : z_X p l e R s m args below meth c nL D cA ad adK A Qj (pc + 2) (z_put zl k (z_i a)) zs M) : z_X p l e R s m args below meth c nL D cA ad adK A Qj pc zl (z_i a :: zs) M := by
  obtain ⟨hx, hb, hml, hown, hts, hK, hinj, hinA, hstr, hroom⟩ := cx
  intro hl hg hs hm H locs ls hP hS hv
  obtain ⟨h1, h2⟩ := z_gs_c.mp hs
  exact lv_istore hx hb hd hv hk rfl (fun ls' hv' => h (by rw [z_put_len]; exact hl) (z_gl_put hg h1) h2 hm H locs ls' hP hS (zs_st1 (u := z_i a) rfl hv'))
theorem zs_istore_n (cx : z_cx p R s m args c cc nL own D cA ad adK A) {k : Fin 4} {a : Int} (hd : decode cc pc = .ok (.istore_n k, 1)) (hk : k.val < nL) (h : z_X p l e R s m args below meth c nL D cA ad adK A Qj (pc + 1) (z_put zl k.val (z_i a)) zs M) : z_X p l e R s m args below meth c nL D cA ad adK A Qj pc zl (z_i a :: zs) M := by
  obtain ⟨hx, hb, hml, hown, hts, hK, hinj, hinA, hstr, hroom⟩ := cx
  intro hl hg hs hm H locs ls hP hS hv
  obtain ⟨h1, h2⟩ := z_gs_c.mp hs
  exact lv_istore_n hx hb hd rfl hv hk rfl (fun ls' hv' => h (by rw [z_put_len]; exact hl) (z_gl_put hg h1) h2 hm H locs ls' hP hS (zs_st1 (u := z_i a) rfl hv'))
theorem zs_lstore (cx : z_cx p R s m args c cc nL own D cA ad adK A) {k : Nat} {a : Int} (hd : decode cc pc = .ok (.lstore k, 2)) (hk : k + 1 < nL) (h : z_X p l e R s m args below meth c nL D cA ad adK A Qj (pc + 2) (z_put zl k (z_l a)) zs M) : z_X p l e R s m args below meth c nL D cA ad adK A Qj pc zl (z_l a :: zs) M := by
  obtain ⟨hx, hb, hml, hown, hts, hK, hinj, hinA, hstr, hroom⟩ := cx
  intro hl hg hs hm H locs ls hP hS hv
  obtain ⟨h1, h2⟩ := z_gs_c.mp hs
  exact lv_lstore hx hb hd hv hk rfl (fun ls' hv' => h (by rw [z_put_len]; exact hl) (z_gl_put hg h1) h2 hm H locs ls' hP hS (zs_st2 (u := z_l a) rfl hv'))
theorem zs_lstore_n (cx : z_cx p R s m args c cc nL own D cA ad adK A) {k : Fin 4} {a : Int} (hd : decode cc pc = .ok (.lstore_n k, 1)) (hk : k.val + 1 < nL) (h : z_X p l e R s m args below meth c nL D cA ad adK A Qj (pc + 1) (z_put zl k.val (z_l a)) zs M) : z_X p l e R s m args below meth c nL D cA ad adK A Qj pc zl (z_l a :: zs) M := by
  obtain ⟨hx, hb, hml, hown, hts, hK, hinj, hinA, hstr, hroom⟩ := cx
  intro hl hg hs hm H locs ls hP hS hv
  obtain ⟨h1, h2⟩ := z_gs_c.mp hs
  exact lv_lstore_n hx hb hd rfl hv hk rfl (fun ls' hv' => h (by rw [z_put_len]; exact hl) (z_gl_put hg h1) h2 hm H locs ls' hP hS (zs_st2 (u := z_l a) rfl hv'))
theorem zs_iinc (cx : z_cx p R s m args c cc nL own D cA ad adK A) {k : Nat} {a v d : Int} (hd : decode cc pc = .ok (.iinc k d, 3)) (hv0 : d = v) (hk : k < nL) (ha : z_get zl k = some (Sum.inl a)) (h : z_X p l e R s m args below meth c nL D cA ad adK A Qj (pc + 3) (z_put zl k (z_i (z_wr (a + v)))) zs M) : z_X p l e R s m args below meth c nL D cA ad adK A Qj pc zl zs M := by
  obtain ⟨hx, hb, hml, hown, hts, hK, hinj, hinA, hstr, hroom⟩ := cx
  intro hl hg hs hm H locs ls hP hS hv
  subst hv0
  have hmem := z_lv_get (ad := ad) (adK := adK) zl 0 k _ ha
  rw [Nat.zero_add] at hmem
  obtain ⟨i, hi⟩ := List.getElem?_of_mem hmem
  exact lv_iinc hx hb hd hv hi (v := Int32.ofInt (z_wr (a + d))) (zn_add a d) hk rfl (fun ls' hv' => h (by rw [z_put_len]; exact hl) (z_gl_put hg (zn_wr_r _)) hs hm H locs ls' hP hS (zs_st1 (u := z_i (z_wr (a + d))) rfl hv'))
theorem zs_iadd (cx : z_cx p R s m args c cc nL own D cA ad adK A) {a b : Int}  (hd : decode cc pc = .ok (.iadd, 1)) (h : z_X p l e R s m args below meth c nL D cA ad adK A Qj (pc + 1) zl (z_i (z_wr (a + b)) :: zs) M) : z_X p l e R s m args below meth c nL D cA ad adK A Qj pc zl (z_i b :: z_i a :: zs) M := by
  obtain ⟨hx, hb, hml, hown, hts, hK, hinj, hinA, hstr, hroom⟩ := cx
  intro hl hg hs hm H locs ls hP hS hv
  obtain ⟨hb1, h2⟩ := z_gs_c.mp hs
  obtain ⟨ha1, h3⟩ := z_gs_c.mp h2
  have hb1 : z_ri b := hb1
  have ha1 : z_ri a := ha1
  have hh := h hl hg (z_gs_c.mpr ⟨zn_wr_r _, h3⟩) hm H locs ls hP hS hv
  refine lv_iadd hx hb hd ?_
  rw [zn_add]
  exact hh
theorem zs_isub (cx : z_cx p R s m args c cc nL own D cA ad adK A) {a b : Int}  (hd : decode cc pc = .ok (.isub, 1)) (h : z_X p l e R s m args below meth c nL D cA ad adK A Qj (pc + 1) zl (z_i (z_wr (a - b)) :: zs) M) : z_X p l e R s m args below meth c nL D cA ad adK A Qj pc zl (z_i b :: z_i a :: zs) M := by
  obtain ⟨hx, hb, hml, hown, hts, hK, hinj, hinA, hstr, hroom⟩ := cx
  intro hl hg hs hm H locs ls hP hS hv
  obtain ⟨hb1, h2⟩ := z_gs_c.mp hs
  obtain ⟨ha1, h3⟩ := z_gs_c.mp h2
  have hb1 : z_ri b := hb1
  have ha1 : z_ri a := ha1
  have hh := h hl hg (z_gs_c.mpr ⟨zn_wr_r _, h3⟩) hm H locs ls hP hS hv
  refine lv_isub hx hb hd ?_
  rw [zn_sub]
  exact hh
theorem zs_imul (cx : z_cx p R s m args c cc nL own D cA ad adK A) {a b : Int}  (hd : decode cc pc = .ok (.imul, 1)) (h : z_X p l e R s m args below meth c nL D cA ad adK A Qj (pc + 1) zl (z_i (z_wr (a * b)) :: zs) M) : z_X p l e R s m args below meth c nL D cA ad adK A Qj pc zl (z_i b :: z_i a :: zs) M := by
  obtain ⟨hx, hb, hml, hown, hts, hK, hinj, hinA, hstr, hroom⟩ := cx
  intro hl hg hs hm H locs ls hP hS hv
  obtain ⟨hb1, h2⟩ := z_gs_c.mp hs
  obtain ⟨ha1, h3⟩ := z_gs_c.mp h2
  have hb1 : z_ri b := hb1
  have ha1 : z_ri a := ha1
  have hh := h hl hg (z_gs_c.mpr ⟨zn_wr_r _, h3⟩) hm H locs ls hP hS hv
  refine lv_imul hx hb hd ?_
  rw [zn_mul]
  exact hh
theorem zs_idiv (cx : z_cx p R s m args c cc nL own D cA ad adK A) {a b : Int} (hne : b ≠ 0) (hd : decode cc pc = .ok (.idiv, 1)) (h : z_X p l e R s m args below meth c nL D cA ad adK A Qj (pc + 1) zl (z_i (z_wr (a.tdiv b)) :: zs) M) : z_X p l e R s m args below meth c nL D cA ad adK A Qj pc zl (z_i b :: z_i a :: zs) M := by
  obtain ⟨hx, hb, hml, hown, hts, hK, hinj, hinA, hstr, hroom⟩ := cx
  intro hl hg hs hm H locs ls hP hS hv
  obtain ⟨hb1, h2⟩ := z_gs_c.mp hs
  obtain ⟨ha1, h3⟩ := z_gs_c.mp h2
  have hb1 : z_ri b := hb1
  have ha1 : z_ri a := ha1
  have hh := h hl hg (z_gs_c.mpr ⟨zn_wr_r _, h3⟩) hm H locs ls hP hS hv
  refine lv_idiv hx hb hd (fun q => hne ((zn_eq hb1 zn_r0).mp q)) ?_
  rw [zn_div ha1 hb1]
  exact hh
theorem zs_irem (cx : z_cx p R s m args c cc nL own D cA ad adK A) {a b : Int} (hne : b ≠ 0) (hd : decode cc pc = .ok (.irem, 1)) (h : z_X p l e R s m args below meth c nL D cA ad adK A Qj (pc + 1) zl (z_i (a.tmod b) :: zs) M) : z_X p l e R s m args below meth c nL D cA ad adK A Qj pc zl (z_i b :: z_i a :: zs) M := by
  obtain ⟨hx, hb, hml, hown, hts, hK, hinj, hinA, hstr, hroom⟩ := cx
  intro hl hg hs hm H locs ls hP hS hv
  obtain ⟨hb1, h2⟩ := z_gs_c.mp hs
  obtain ⟨ha1, h3⟩ := z_gs_c.mp h2
  have hb1 : z_ri b := hb1
  have ha1 : z_ri a := ha1
  have hh := h hl hg (z_gs_c.mpr ⟨zn_tmod_r ha1, h3⟩) hm H locs ls hP hS hv
  refine lv_irem hx hb hd (fun q => hne ((zn_eq hb1 zn_r0).mp q)) ?_
  rw [zn_rem ha1 hb1]
  exact hh
theorem zs_bk (x : Int32) : Int32.ofInt x.toInt = x := Int32.ofInt_toInt x
theorem zs_iand (cx : z_cx p R s m args c cc nL own D cA ad adK A) {a b : Int}  (hd : decode cc pc = .ok (.iand, 1)) (h : z_X p l e R s m args below meth c nL D cA ad adK A Qj (pc + 1) zl (z_i (z_and a b) :: zs) M) : z_X p l e R s m args below meth c nL D cA ad adK A Qj pc zl (z_i b :: z_i a :: zs) M := by
  obtain ⟨hx, hb, hml, hown, hts, hK, hinj, hinA, hstr, hroom⟩ := cx
  intro hl hg hs hm H locs ls hP hS hv
  obtain ⟨hb1, h2⟩ := z_gs_c.mp hs
  obtain ⟨ha1, h3⟩ := z_gs_c.mp h2
  have hb1 : z_ri b := hb1
  have ha1 : z_ri a := ha1
  have hh := h hl hg (z_gs_c.mpr ⟨zn_r _, h3⟩) hm H locs ls hP hS hv
  refine lv_iand hx hb hd ?_
  rw [← zs_bk (Int32.ofInt a &&& Int32.ofInt b)]
  exact hh
theorem zs_ior (cx : z_cx p R s m args c cc nL own D cA ad adK A) {a b : Int}  (hd : decode cc pc = .ok (.ior, 1)) (h : z_X p l e R s m args below meth c nL D cA ad adK A Qj (pc + 1) zl (z_i (z_or a b) :: zs) M) : z_X p l e R s m args below meth c nL D cA ad adK A Qj pc zl (z_i b :: z_i a :: zs) M := by
  obtain ⟨hx, hb, hml, hown, hts, hK, hinj, hinA, hstr, hroom⟩ := cx
  intro hl hg hs hm H locs ls hP hS hv
  obtain ⟨hb1, h2⟩ := z_gs_c.mp hs
  obtain ⟨ha1, h3⟩ := z_gs_c.mp h2
  have hb1 : z_ri b := hb1
  have ha1 : z_ri a := ha1
  have hh := h hl hg (z_gs_c.mpr ⟨zn_r _, h3⟩) hm H locs ls hP hS hv
  refine lv_ior hx hb hd ?_
  rw [← zs_bk (Int32.ofInt a ||| Int32.ofInt b)]
  exact hh
theorem zs_ixor (cx : z_cx p R s m args c cc nL own D cA ad adK A) {a b : Int}  (hd : decode cc pc = .ok (.ixor, 1)) (h : z_X p l e R s m args below meth c nL D cA ad adK A Qj (pc + 1) zl (z_i (z_xor a b) :: zs) M) : z_X p l e R s m args below meth c nL D cA ad adK A Qj pc zl (z_i b :: z_i a :: zs) M := by
  obtain ⟨hx, hb, hml, hown, hts, hK, hinj, hinA, hstr, hroom⟩ := cx
  intro hl hg hs hm H locs ls hP hS hv
  obtain ⟨hb1, h2⟩ := z_gs_c.mp hs
  obtain ⟨ha1, h3⟩ := z_gs_c.mp h2
  have hb1 : z_ri b := hb1
  have ha1 : z_ri a := ha1
  have hh := h hl hg (z_gs_c.mpr ⟨zn_r _, h3⟩) hm H locs ls hP hS hv
  refine lv_ixor hx hb hd ?_
  rw [← zs_bk (Int32.ofInt a ^^^ Int32.ofInt b)]
  exact hh
theorem zs_ishl (cx : z_cx p R s m args c cc nL own D cA ad adK A) {a b : Int}  (hd : decode cc pc = .ok (.ishl, 1)) (h : z_X p l e R s m args below meth c nL D cA ad adK A Qj (pc + 1) zl (z_i (z_shl a b) :: zs) M) : z_X p l e R s m args below meth c nL D cA ad adK A Qj pc zl (z_i b :: z_i a :: zs) M := by
  obtain ⟨hx, hb, hml, hown, hts, hK, hinj, hinA, hstr, hroom⟩ := cx
  intro hl hg hs hm H locs ls hP hS hv
  obtain ⟨hb1, h2⟩ := z_gs_c.mp hs
  obtain ⟨ha1, h3⟩ := z_gs_c.mp h2
  have hb1 : z_ri b := hb1
  have ha1 : z_ri a := ha1
  have hh := h hl hg (z_gs_c.mpr ⟨zn_r _, h3⟩) hm H locs ls hP hS hv
  refine lv_ishl hx hb hd ?_
  rw [← zs_bk (Int32.ofInt a <<< (Int32.ofInt b &&& 31))]
  exact hh
theorem zs_ishr (cx : z_cx p R s m args c cc nL own D cA ad adK A) {a b : Int}  (hd : decode cc pc = .ok (.ishr, 1)) (h : z_X p l e R s m args below meth c nL D cA ad adK A Qj (pc + 1) zl (z_i (z_shr a b) :: zs) M) : z_X p l e R s m args below meth c nL D cA ad adK A Qj pc zl (z_i b :: z_i a :: zs) M := by
  obtain ⟨hx, hb, hml, hown, hts, hK, hinj, hinA, hstr, hroom⟩ := cx
  intro hl hg hs hm H locs ls hP hS hv
  obtain ⟨hb1, h2⟩ := z_gs_c.mp hs
  obtain ⟨ha1, h3⟩ := z_gs_c.mp h2
  have hb1 : z_ri b := hb1
  have ha1 : z_ri a := ha1
  have hh := h hl hg (z_gs_c.mpr ⟨zn_r _, h3⟩) hm H locs ls hP hS hv
  refine lv_ishr hx hb hd ?_
  rw [← zs_bk (Int32.ofInt a >>> (Int32.ofInt b &&& 31))]
  exact hh
theorem zs_iushr (cx : z_cx p R s m args c cc nL own D cA ad adK A) {a b : Int} (hd : decode cc pc = .ok (.iushr, 1)) (h : z_X p l e R s m args below meth c nL D cA ad adK A Qj (pc + 1) zl (z_i (z_ushr a b) :: zs) M) : z_X p l e R s m args below meth c nL D cA ad adK A Qj pc zl (z_i b :: z_i a :: zs) M := by
  obtain ⟨hx, hb, hml, hown, hts, hK, hinj, hinA, hstr, hroom⟩ := cx
  intro hl hg hs hm H locs ls hP hS hv
  obtain ⟨hb1, h2⟩ := z_gs_c.mp hs
  obtain ⟨ha1, h3⟩ := z_gs_c.mp h2
  exact lv_iushr hx hb hd (v := Int32.ofInt (z_ushr a b)) (zs_bk _).symm (h hl hg (z_gs_c.mpr ⟨zn_r _, h3⟩) hm H locs ls hP hS hv)
theorem zs_ineg (cx : z_cx p R s m args c cc nL own D cA ad adK A) {a : Int} (hd : decode cc pc = .ok (.ineg, 1)) (h : z_X p l e R s m args below meth c nL D cA ad adK A Qj (pc + 1) zl (z_i (z_wr (-a)) :: zs) M) : z_X p l e R s m args below meth c nL D cA ad adK A Qj pc zl (z_i a :: zs) M := by
  obtain ⟨hx, hb, hml, hown, hts, hK, hinj, hinA, hstr, hroom⟩ := cx
  intro hl hg hs hm H locs ls hP hS hv
  obtain ⟨ha1, h3⟩ := z_gs_c.mp hs
  have hh := h hl hg (z_gs_c.mpr ⟨zn_wr_r _, h3⟩) hm H locs ls hP hS hv
  refine lv_ineg hx hb hd ?_
  rw [zn_neg]
  exact hh
theorem zs_i2l (cx : z_cx p R s m args c cc nL own D cA ad adK A) {a : Int} (hd : decode cc pc = .ok (.i2l, 1)) (h : z_X p l e R s m args below meth c nL D cA ad adK A Qj (pc + 1) zl (z_l a :: zs) M) : z_X p l e R s m args below meth c nL D cA ad adK A Qj pc zl (z_i a :: zs) M := by
  obtain ⟨hx, hb, hml, hown, hts, hK, hinj, hinA, hstr, hroom⟩ := cx
  intro hl hg hs hm H locs ls hP hS hv
  obtain ⟨ha1, h3⟩ := z_gs_c.mp hs
  have ha1 : z_ri a := ha1
  exact lv_i2l hx hb hd (zn_i2l ha1) (h hl hg (z_gs_c.mpr ⟨by show z_rl a; unfold z_ri at ha1; unfold z_rl; omega, h3⟩) hm H locs ls hP hS hv)
theorem zs_i2b (cx : z_cx p R s m args c cc nL own D cA ad adK A) {a : Int} (hd : decode cc pc = .ok (.i2b, 1)) (h : z_X p l e R s m args below meth c nL D cA ad adK A Qj (pc + 1) zl (z_i (z_i2b a) :: zs) M) : z_X p l e R s m args below meth c nL D cA ad adK A Qj pc zl (z_i a :: zs) M := by
  obtain ⟨hx, hb, hml, hown, hts, hK, hinj, hinA, hstr, hroom⟩ := cx
  intro hl hg hs hm H locs ls hP hS hv
  obtain ⟨ha1, h3⟩ := z_gs_c.mp hs
  exact lv_i2b hx hb hd (v := Int32.ofInt (z_i2b a)) (zs_bk _).symm (h hl hg (z_gs_c.mpr ⟨zn_r _, h3⟩) hm H locs ls hP hS hv)
theorem zs_i2s (cx : z_cx p R s m args c cc nL own D cA ad adK A) {a : Int} (hd : decode cc pc = .ok (.i2s, 1)) (h : z_X p l e R s m args below meth c nL D cA ad adK A Qj (pc + 1) zl (z_i (z_i2s a) :: zs) M) : z_X p l e R s m args below meth c nL D cA ad adK A Qj pc zl (z_i a :: zs) M := by
  obtain ⟨hx, hb, hml, hown, hts, hK, hinj, hinA, hstr, hroom⟩ := cx
  intro hl hg hs hm H locs ls hP hS hv
  obtain ⟨ha1, h3⟩ := z_gs_c.mp hs
  exact lv_i2s hx hb hd (v := Int32.ofInt (z_i2s a)) (zs_bk _).symm (h hl hg (z_gs_c.mpr ⟨zn_r _, h3⟩) hm H locs ls hP hS hv)
theorem zs_ladd (cx : z_cx p R s m args c cc nL own D cA ad adK A) {a b : Int}  (hd : decode cc pc = .ok (.ladd, 1)) (h : z_X p l e R s m args below meth c nL D cA ad adK A Qj (pc + 1) zl (z_l (z_wl (a + b)) :: zs) M) : z_X p l e R s m args below meth c nL D cA ad adK A Qj pc zl (z_l b :: z_l a :: zs) M := by
  obtain ⟨hx, hb, hml, hown, hts, hK, hinj, hinA, hstr, hroom⟩ := cx
  intro hl hg hs hm H locs ls hP hS hv
  obtain ⟨hb1, h2⟩ := z_gs_c.mp hs
  obtain ⟨ha1, h3⟩ := z_gs_c.mp h2
  have hb1 : z_rl b := hb1
  have ha1 : z_rl a := ha1
  have hh := h hl hg (z_gs_c.mpr ⟨zn_wl_r _, h3⟩) hm H locs ls hP hS hv
  refine lv_ladd hx hb hd ?_
  rw [zn_addl]
  exact hh
theorem zs_lmul (cx : z_cx p R s m args c cc nL own D cA ad adK A) {a b : Int}  (hd : decode cc pc = .ok (.lmul, 1)) (h : z_X p l e R s m args below meth c nL D cA ad adK A Qj (pc + 1) zl (z_l (z_wl (a * b)) :: zs) M) : z_X p l e R s m args below meth c nL D cA ad adK A Qj pc zl (z_l b :: z_l a :: zs) M := by
  obtain ⟨hx, hb, hml, hown, hts, hK, hinj, hinA, hstr, hroom⟩ := cx
  intro hl hg hs hm H locs ls hP hS hv
  obtain ⟨hb1, h2⟩ := z_gs_c.mp hs
  obtain ⟨ha1, h3⟩ := z_gs_c.mp h2
  have hb1 : z_rl b := hb1
  have ha1 : z_rl a := ha1
  have hh := h hl hg (z_gs_c.mpr ⟨zn_wl_r _, h3⟩) hm H locs ls hP hS hv
  refine lv_lmul hx hb hd ?_
  rw [zn_mull]
  exact hh
theorem zs_ldiv (cx : z_cx p R s m args c cc nL own D cA ad adK A) {a b : Int} (hne : b ≠ 0) (hd : decode cc pc = .ok (.ldiv, 1)) (h : z_X p l e R s m args below meth c nL D cA ad adK A Qj (pc + 1) zl (z_l (z_wl (a.tdiv b)) :: zs) M) : z_X p l e R s m args below meth c nL D cA ad adK A Qj pc zl (z_l b :: z_l a :: zs) M := by
  obtain ⟨hx, hb, hml, hown, hts, hK, hinj, hinA, hstr, hroom⟩ := cx
  intro hl hg hs hm H locs ls hP hS hv
  obtain ⟨hb1, h2⟩ := z_gs_c.mp hs
  obtain ⟨ha1, h3⟩ := z_gs_c.mp h2
  have hb1 : z_rl b := hb1
  have ha1 : z_rl a := ha1
  have hh := h hl hg (z_gs_c.mpr ⟨zn_wl_r _, h3⟩) hm H locs ls hP hS hv
  refine lv_ldiv hx hb hd (fun q => hne ((zn_eql hb1 (by unfold z_rl; omega)).mp q)) ?_
  rw [zn_divl ha1 hb1]
  exact hh
theorem zs_lrem (cx : z_cx p R s m args c cc nL own D cA ad adK A) {a b : Int} (hne : b ≠ 0) (hd : decode cc pc = .ok (.lrem, 1)) (h : z_X p l e R s m args below meth c nL D cA ad adK A Qj (pc + 1) zl (z_l (a.tmod b) :: zs) M) : z_X p l e R s m args below meth c nL D cA ad adK A Qj pc zl (z_l b :: z_l a :: zs) M := by
  obtain ⟨hx, hb, hml, hown, hts, hK, hinj, hinA, hstr, hroom⟩ := cx
  intro hl hg hs hm H locs ls hP hS hv
  obtain ⟨hb1, h2⟩ := z_gs_c.mp hs
  obtain ⟨ha1, h3⟩ := z_gs_c.mp h2
  have hb1 : z_rl b := hb1
  have ha1 : z_rl a := ha1
  have hh := h hl hg (z_gs_c.mpr ⟨zn_tmodl_r ha1, h3⟩) hm H locs ls hP hS hv
  refine lv_lrem hx hb hd (fun q => hne ((zn_eql hb1 (by unfold z_rl; omega)).mp q)) ?_
  rw [zn_reml ha1 hb1]
  exact hh
theorem zs_lcmp (cx : z_cx p R s m args c cc nL own D cA ad adK A) {a b : Int} (hd : decode cc pc = .ok (.lcmp, 1)) (h : z_X p l e R s m args below meth c nL D cA ad adK A Qj (pc + 1) zl (z_i (z_cmp a b) :: zs) M) : z_X p l e R s m args below meth c nL D cA ad adK A Qj pc zl (z_l b :: z_l a :: zs) M := by
  obtain ⟨hx, hb, hml, hown, hts, hK, hinj, hinA, hstr, hroom⟩ := cx
  intro hl hg hs hm H locs ls hP hS hv
  obtain ⟨hb1, h2⟩ := z_gs_c.mp hs
  obtain ⟨ha1, h3⟩ := z_gs_c.mp h2
  have hb1 : z_rl b := hb1
  have ha1 : z_rl a := ha1
  have hh := h hl hg (z_gs_c.mpr ⟨by show z_ri (z_cmp a b); unfold z_cmp z_ri; split <;> (try split) <;> omega, h3⟩) hm H locs ls hP hS hv
  refine W.lcmp hx hb hd ?_
  have e1 : lg_cmp (Int64.ofInt a) (Int64.ofInt b) = Int32.ofInt (z_cmp a b) := by
    unfold lg_cmp z_cmp
    simp only [gt_iff_lt, zn_ltl hb1 ha1, zn_eql ha1 hb1]
    split
    · rfl
    · split <;> rfl
  rw [e1]
  exact hh
theorem zs_if_eq (cx : z_cx p R s m args c cc nL own D cA ad adK A) {a : Int} {off : Int} {t : Nat} (hd : decode cc pc = .ok (.ifCond .eq off, 3)) (ht : (pc : Int) + off = (t : Int)) (h : (a = 0 → z_X p l e R s m args below meth c nL D cA ad adK A Qj t zl zs M) ∧ (¬ (a = 0) → z_X p l e R s m args below meth c nL D cA ad adK A Qj (pc + 3) zl zs M)) : z_X p l e R s m args below meth c nL D cA ad adK A Qj pc zl (z_i a :: zs) M := by
  obtain ⟨hx, hb, hml, hown, hts, hK, hinj, hinA, hstr, hroom⟩ := cx
  intro hl hg hs hm H locs ls hP hS hv
  obtain ⟨ha1, h3⟩ := z_gs_c.mp hs
  have ha1 : z_ri a := ha1
  exact lv_if_eq hx hb hd ht (fun q => h.1 ((zn_eq ha1 zn_r0).mp q) hl hg h3 hm H locs ls hP hS hv) (fun q => h.2 (fun z => q ((zn_eq ha1 zn_r0).mpr z)) hl hg h3 hm H locs ls hP hS hv)
theorem zs_icmp_eq (cx : z_cx p R s m args c cc nL own D cA ad adK A) {a b : Int} {off : Int} {t : Nat} (hd : decode cc pc = .ok (.if_icmp .eq off, 3)) (ht : (pc : Int) + off = (t : Int)) (h : (a = b → z_X p l e R s m args below meth c nL D cA ad adK A Qj t zl zs M) ∧ (¬ (a = b) → z_X p l e R s m args below meth c nL D cA ad adK A Qj (pc + 3) zl zs M)) : z_X p l e R s m args below meth c nL D cA ad adK A Qj pc zl (z_i b :: z_i a :: zs) M := by
  obtain ⟨hx, hb, hml, hown, hts, hK, hinj, hinA, hstr, hroom⟩ := cx
  intro hl hg hs hm H locs ls hP hS hv
  obtain ⟨hb1, h2⟩ := z_gs_c.mp hs
  obtain ⟨ha1, h3⟩ := z_gs_c.mp h2
  have hb1 : z_ri b := hb1
  have ha1 : z_ri a := ha1
  exact lv_icmp_eq hx hb hd ht (fun q => h.1 ((zn_eq ha1 hb1).mp q) hl hg h3 hm H locs ls hP hS hv) (fun q => h.2 (fun z => q ((zn_eq ha1 hb1).mpr z)) hl hg h3 hm H locs ls hP hS hv)
theorem zs_if_ne (cx : z_cx p R s m args c cc nL own D cA ad adK A) {a : Int} {off : Int} {t : Nat} (hd : decode cc pc = .ok (.ifCond .ne off, 3)) (ht : (pc : Int) + off = (t : Int)) (h : (a ≠ 0 → z_X p l e R s m args below meth c nL D cA ad adK A Qj t zl zs M) ∧ (¬ (a ≠ 0) → z_X p l e R s m args below meth c nL D cA ad adK A Qj (pc + 3) zl zs M)) : z_X p l e R s m args below meth c nL D cA ad adK A Qj pc zl (z_i a :: zs) M := by
  obtain ⟨hx, hb, hml, hown, hts, hK, hinj, hinA, hstr, hroom⟩ := cx
  intro hl hg hs hm H locs ls hP hS hv
  obtain ⟨ha1, h3⟩ := z_gs_c.mp hs
  have ha1 : z_ri a := ha1
  exact lv_if_ne hx hb hd ht (fun q => h.1 ((not_congr (zn_eq ha1 zn_r0)).mp q) hl hg h3 hm H locs ls hP hS hv) (fun q => h.2 (fun z => z ((zn_eq ha1 zn_r0).mp q)) hl hg h3 hm H locs ls hP hS hv)
theorem zs_icmp_ne (cx : z_cx p R s m args c cc nL own D cA ad adK A) {a b : Int} {off : Int} {t : Nat} (hd : decode cc pc = .ok (.if_icmp .ne off, 3)) (ht : (pc : Int) + off = (t : Int)) (h : (a ≠ b → z_X p l e R s m args below meth c nL D cA ad adK A Qj t zl zs M) ∧ (¬ (a ≠ b) → z_X p l e R s m args below meth c nL D cA ad adK A Qj (pc + 3) zl zs M)) : z_X p l e R s m args below meth c nL D cA ad adK A Qj pc zl (z_i b :: z_i a :: zs) M := by
  obtain ⟨hx, hb, hml, hown, hts, hK, hinj, hinA, hstr, hroom⟩ := cx
  intro hl hg hs hm H locs ls hP hS hv
  obtain ⟨hb1, h2⟩ := z_gs_c.mp hs
  obtain ⟨ha1, h3⟩ := z_gs_c.mp h2
  have hb1 : z_ri b := hb1
  have ha1 : z_ri a := ha1
  exact lv_icmp_ne hx hb hd ht (fun q => h.1 ((not_congr (zn_eq ha1 hb1)).mp q) hl hg h3 hm H locs ls hP hS hv) (fun q => h.2 (fun z => z ((zn_eq ha1 hb1).mp q)) hl hg h3 hm H locs ls hP hS hv)
theorem zs_if_lt (cx : z_cx p R s m args c cc nL own D cA ad adK A) {a : Int} {off : Int} {t : Nat} (hd : decode cc pc = .ok (.ifCond .lt off, 3)) (ht : (pc : Int) + off = (t : Int)) (h : (a < 0 → z_X p l e R s m args below meth c nL D cA ad adK A Qj t zl zs M) ∧ (¬ (a < 0) → z_X p l e R s m args below meth c nL D cA ad adK A Qj (pc + 3) zl zs M)) : z_X p l e R s m args below meth c nL D cA ad adK A Qj pc zl (z_i a :: zs) M := by
  obtain ⟨hx, hb, hml, hown, hts, hK, hinj, hinA, hstr, hroom⟩ := cx
  intro hl hg hs hm H locs ls hP hS hv
  obtain ⟨ha1, h3⟩ := z_gs_c.mp hs
  have ha1 : z_ri a := ha1
  exact lv_if_lt hx hb hd ht (fun q => h.1 ((zn_lt ha1 zn_r0).mp q) hl hg h3 hm H locs ls hP hS hv) (fun q => h.2 (fun z => q ((zn_lt ha1 zn_r0).mpr z)) hl hg h3 hm H locs ls hP hS hv)
theorem zs_icmp_lt (cx : z_cx p R s m args c cc nL own D cA ad adK A) {a b : Int} {off : Int} {t : Nat} (hd : decode cc pc = .ok (.if_icmp .lt off, 3)) (ht : (pc : Int) + off = (t : Int)) (h : (a < b → z_X p l e R s m args below meth c nL D cA ad adK A Qj t zl zs M) ∧ (¬ (a < b) → z_X p l e R s m args below meth c nL D cA ad adK A Qj (pc + 3) zl zs M)) : z_X p l e R s m args below meth c nL D cA ad adK A Qj pc zl (z_i b :: z_i a :: zs) M := by
  obtain ⟨hx, hb, hml, hown, hts, hK, hinj, hinA, hstr, hroom⟩ := cx
  intro hl hg hs hm H locs ls hP hS hv
  obtain ⟨hb1, h2⟩ := z_gs_c.mp hs
  obtain ⟨ha1, h3⟩ := z_gs_c.mp h2
  have hb1 : z_ri b := hb1
  have ha1 : z_ri a := ha1
  exact lv_icmp_lt hx hb hd ht (fun q => h.1 ((zn_lt ha1 hb1).mp q) hl hg h3 hm H locs ls hP hS hv) (fun q => h.2 (fun z => q ((zn_lt ha1 hb1).mpr z)) hl hg h3 hm H locs ls hP hS hv)
theorem zs_if_ge (cx : z_cx p R s m args c cc nL own D cA ad adK A) {a : Int} {off : Int} {t : Nat} (hd : decode cc pc = .ok (.ifCond .ge off, 3)) (ht : (pc : Int) + off = (t : Int)) (h : (0 ≤ a → z_X p l e R s m args below meth c nL D cA ad adK A Qj t zl zs M) ∧ (¬ (0 ≤ a) → z_X p l e R s m args below meth c nL D cA ad adK A Qj (pc + 3) zl zs M)) : z_X p l e R s m args below meth c nL D cA ad adK A Qj pc zl (z_i a :: zs) M := by
  obtain ⟨hx, hb, hml, hown, hts, hK, hinj, hinA, hstr, hroom⟩ := cx
  intro hl hg hs hm H locs ls hP hS hv
  obtain ⟨ha1, h3⟩ := z_gs_c.mp hs
  have ha1 : z_ri a := ha1
  exact lv_if_ge hx hb hd ht (fun q => h.1 ((zn_le zn_r0 ha1).mp q) hl hg h3 hm H locs ls hP hS hv) (fun q => h.2 (fun z => q ((zn_le zn_r0 ha1).mpr z)) hl hg h3 hm H locs ls hP hS hv)
theorem zs_icmp_ge (cx : z_cx p R s m args c cc nL own D cA ad adK A) {a b : Int} {off : Int} {t : Nat} (hd : decode cc pc = .ok (.if_icmp .ge off, 3)) (ht : (pc : Int) + off = (t : Int)) (h : (b ≤ a → z_X p l e R s m args below meth c nL D cA ad adK A Qj t zl zs M) ∧ (¬ (b ≤ a) → z_X p l e R s m args below meth c nL D cA ad adK A Qj (pc + 3) zl zs M)) : z_X p l e R s m args below meth c nL D cA ad adK A Qj pc zl (z_i b :: z_i a :: zs) M := by
  obtain ⟨hx, hb, hml, hown, hts, hK, hinj, hinA, hstr, hroom⟩ := cx
  intro hl hg hs hm H locs ls hP hS hv
  obtain ⟨hb1, h2⟩ := z_gs_c.mp hs
  obtain ⟨ha1, h3⟩ := z_gs_c.mp h2
  have hb1 : z_ri b := hb1
  have ha1 : z_ri a := ha1
  exact lv_icmp_ge hx hb hd ht (fun q => h.1 ((zn_le hb1 ha1).mp q) hl hg h3 hm H locs ls hP hS hv) (fun q => h.2 (fun z => q ((zn_le hb1 ha1).mpr z)) hl hg h3 hm H locs ls hP hS hv)
theorem zs_if_gt (cx : z_cx p R s m args c cc nL own D cA ad adK A) {a : Int} {off : Int} {t : Nat} (hd : decode cc pc = .ok (.ifCond .gt off, 3)) (ht : (pc : Int) + off = (t : Int)) (h : (0 < a → z_X p l e R s m args below meth c nL D cA ad adK A Qj t zl zs M) ∧ (¬ (0 < a) → z_X p l e R s m args below meth c nL D cA ad adK A Qj (pc + 3) zl zs M)) : z_X p l e R s m args below meth c nL D cA ad adK A Qj pc zl (z_i a :: zs) M := by
  obtain ⟨hx, hb, hml, hown, hts, hK, hinj, hinA, hstr, hroom⟩ := cx
  intro hl hg hs hm H locs ls hP hS hv
  obtain ⟨ha1, h3⟩ := z_gs_c.mp hs
  have ha1 : z_ri a := ha1
  exact lv_if_gt hx hb hd ht (fun q => h.1 ((zn_lt zn_r0 ha1).mp q) hl hg h3 hm H locs ls hP hS hv) (fun q => h.2 (fun z => q ((zn_lt zn_r0 ha1).mpr z)) hl hg h3 hm H locs ls hP hS hv)
theorem zs_icmp_gt (cx : z_cx p R s m args c cc nL own D cA ad adK A) {a b : Int} {off : Int} {t : Nat} (hd : decode cc pc = .ok (.if_icmp .gt off, 3)) (ht : (pc : Int) + off = (t : Int)) (h : (b < a → z_X p l e R s m args below meth c nL D cA ad adK A Qj t zl zs M) ∧ (¬ (b < a) → z_X p l e R s m args below meth c nL D cA ad adK A Qj (pc + 3) zl zs M)) : z_X p l e R s m args below meth c nL D cA ad adK A Qj pc zl (z_i b :: z_i a :: zs) M := by
  obtain ⟨hx, hb, hml, hown, hts, hK, hinj, hinA, hstr, hroom⟩ := cx
  intro hl hg hs hm H locs ls hP hS hv
  obtain ⟨hb1, h2⟩ := z_gs_c.mp hs
  obtain ⟨ha1, h3⟩ := z_gs_c.mp h2
  have hb1 : z_ri b := hb1
  have ha1 : z_ri a := ha1
  exact lv_icmp_gt hx hb hd ht (fun q => h.1 ((zn_lt hb1 ha1).mp q) hl hg h3 hm H locs ls hP hS hv) (fun q => h.2 (fun z => q ((zn_lt hb1 ha1).mpr z)) hl hg h3 hm H locs ls hP hS hv)
theorem zs_if_le (cx : z_cx p R s m args c cc nL own D cA ad adK A) {a : Int} {off : Int} {t : Nat} (hd : decode cc pc = .ok (.ifCond .le off, 3)) (ht : (pc : Int) + off = (t : Int)) (h : (a ≤ 0 → z_X p l e R s m args below meth c nL D cA ad adK A Qj t zl zs M) ∧ (¬ (a ≤ 0) → z_X p l e R s m args below meth c nL D cA ad adK A Qj (pc + 3) zl zs M)) : z_X p l e R s m args below meth c nL D cA ad adK A Qj pc zl (z_i a :: zs) M := by
  obtain ⟨hx, hb, hml, hown, hts, hK, hinj, hinA, hstr, hroom⟩ := cx
  intro hl hg hs hm H locs ls hP hS hv
  obtain ⟨ha1, h3⟩ := z_gs_c.mp hs
  have ha1 : z_ri a := ha1
  exact lv_if_le hx hb hd ht (fun q => h.1 ((zn_le ha1 zn_r0).mp q) hl hg h3 hm H locs ls hP hS hv) (fun q => h.2 (fun z => q ((zn_le ha1 zn_r0).mpr z)) hl hg h3 hm H locs ls hP hS hv)
theorem zs_icmp_le (cx : z_cx p R s m args c cc nL own D cA ad adK A) {a b : Int} {off : Int} {t : Nat} (hd : decode cc pc = .ok (.if_icmp .le off, 3)) (ht : (pc : Int) + off = (t : Int)) (h : (a ≤ b → z_X p l e R s m args below meth c nL D cA ad adK A Qj t zl zs M) ∧ (¬ (a ≤ b) → z_X p l e R s m args below meth c nL D cA ad adK A Qj (pc + 3) zl zs M)) : z_X p l e R s m args below meth c nL D cA ad adK A Qj pc zl (z_i b :: z_i a :: zs) M := by
  obtain ⟨hx, hb, hml, hown, hts, hK, hinj, hinA, hstr, hroom⟩ := cx
  intro hl hg hs hm H locs ls hP hS hv
  obtain ⟨hb1, h2⟩ := z_gs_c.mp hs
  obtain ⟨ha1, h3⟩ := z_gs_c.mp h2
  have hb1 : z_ri b := hb1
  have ha1 : z_ri a := ha1
  exact lv_icmp_le hx hb hd ht (fun q => h.1 ((zn_le ha1 hb1).mp q) hl hg h3 hm H locs ls hP hS hv) (fun q => h.2 (fun z => q ((zn_le ha1 hb1).mpr z)) hl hg h3 hm H locs ls hP hS hv)
theorem zs_goto (cx : z_cx p R s m args c cc nL own D cA ad adK A) {off : Int} {t : Nat} (hd : decode cc pc = .ok (.goto off, 3)) (ht : (pc : Int) + off = (t : Int)) (h : z_X p l e R s m args below meth c nL D cA ad adK A Qj t zl zs M) : z_X p l e R s m args below meth c nL D cA ad adK A Qj pc zl zs M := by
  obtain ⟨hx, hb, hml, hown, hts, hK, hinj, hinA, hstr, hroom⟩ := cx
  intro hl hg hs hm H locs ls hP hS hv
  exact lv_goto hx hb hd ht (h hl hg hs hm H locs ls hP hS hv)
theorem zs_dup (cx : z_cx p R s m args c cc nL own D cA ad adK A) {u : zU} (hu : z_cat u = 1) (hd : decode cc pc = .ok (.dup, 1)) (h : z_X p l e R s m args below meth c nL D cA ad adK A Qj (pc + 1) zl (u :: u :: zs) M) : z_X p l e R s m args below meth c nL D cA ad adK A Qj pc zl (u :: zs) M := by
  obtain ⟨hx, hb, hml, hown, hts, hK, hinj, hinA, hstr, hroom⟩ := cx
  intro hl hg hs hm H locs ls hP hS hv
  exact lv_dup hx hb hd (by rw [z_cat_val]; exact hu) (h hl hg (z_gs_c.mpr ⟨(z_gs_c.mp hs).1, hs⟩) hm H locs ls hP hS hv)
theorem zs_dup2 (cx : z_cx p R s m args c cc nL own D cA ad adK A) {u w : zU} (hu : z_cat u = 1) (hw : z_cat w = 1) (hd : decode cc pc = .ok (.dup2, 1)) (h : z_X p l e R s m args below meth c nL D cA ad adK A Qj (pc + 1) zl (u :: w :: u :: w :: zs) M) : z_X p l e R s m args below meth c nL D cA ad adK A Qj pc zl (u :: w :: zs) M := by
  obtain ⟨hx, hb, hml, hown, hts, hK, hinj, hinA, hstr, hroom⟩ := cx
  intro hl hg hs hm H locs ls hP hS hv
  obtain ⟨h1, h2⟩ := z_gs_c.mp hs
  exact lv_dup2_11 hx hb hd (by rw [z_cat_val]; exact hu) (by rw [z_cat_val]; exact hw) (h hl hg (z_gs_c.mpr ⟨h1, z_gs_c.mpr ⟨(z_gs_c.mp h2).1, hs⟩⟩) hm H locs ls hP hS hv)
theorem zs_pop (cx : z_cx p R s m args c cc nL own D cA ad adK A) {u : zU} (hu : z_cat u = 1) (hd : decode cc pc = .ok (.pop, 1)) (h : z_X p l e R s m args below meth c nL D cA ad adK A Qj (pc + 1) zl zs M) : z_X p l e R s m args below meth c nL D cA ad adK A Qj pc zl (u :: zs) M := by
  obtain ⟨hx, hb, hml, hown, hts, hK, hinj, hinA, hstr, hroom⟩ := cx
  intro hl hg hs hm H locs ls hP hS hv
  exact lv_pop hx hb hd (by rw [z_cat_val]; exact hu) (h hl hg (z_gs_c.mp hs).2 hm H locs ls hP hS hv)
end
end
section
/-! THE MACHINE FOLLOWS z_step: fields, arrays, Math, arraycopy (written by gen_step2.py) -/
theorem z_mok_up {M : zM} {a : Nat} {j w : Int} (h : z_mok M) (hw : ∀ k : zD, z_kt[a]? = some k → (k.1 = 101 → z_rl w) ∧ (k.1 ≠ 101 → z_ri w)) : z_mok (z_up M a j w) := by
  intro b k hk i
  by_cases hc : b = a ∧ i = j
  · obtain ⟨rfl, rfl⟩ := hc
    rw [z_up_same]
    exact hw k hk
  · rw [z_up_ne M w hc]
    exact h b k hk i
theorem z_mok_cp {M : zM} {a b : Nat} {sp dp n : Int} (h : z_mok M) {ka kb : zD} (ha : z_kt[a]? = some ka) (hb : z_kt[b]? = some kb) (h1 : ka.1 = 100) (h2 : kb.1 = 100) : z_mok (z_cp M a sp b dp n) := by
  intro c k hk i
  unfold z_cp
  split
  · rename_i hc
    obtain ⟨rfl, -⟩ := hc
    rw [hb] at hk
    cases hk
    refine ⟨fun q => absurd q (by omega), fun _ => (h a ka ha _).2 (by omega)⟩
  · exact h c k hk i
theorem z_kt_ok : ∀ a, a < z_kt.length → ∀ k, z_kt[a]? = some k → (0 ≤ k.2 ∧ k.2 < 2147483648) ∧ k.1 ≠ 104 ∧ k.1 ≠ 105 ∧ (k.1 < 12 ∨ k.1 = 100 ∨ k.1 = 101 ∨ k.1 = 102 ∨ k.1 = 103) ∧ (k.1 = 103 → ∀ j, j < k.2.toNat → z_kt[z_el a (j : Int)]? = some (9, 0)) := by
  have h : (List.range z_kt.length).all (fun a => match z_kt[a]? with
    | none => true
    | some k => decide ((0 ≤ k.2 ∧ k.2 < 2147483648) ∧ k.1 ≠ 104 ∧ k.1 ≠ 105 ∧ (k.1 < 12 ∨ k.1 = 100 ∨ k.1 = 101 ∨ k.1 = 102 ∨ k.1 = 103)) && (!(Nat.beq k.1 103) || (List.range k.2.toNat).all (fun j => decide (z_kt[z_el a (j : Int)]? = some (9, 0))))) = true := by decide +kernel
  intro a ha k hk
  have h1 := List.all_eq_true.mp h a (List.mem_range.mpr ha)
  rw [hk] at h1
  simp only [Bool.and_eq_true, decide_eq_true_eq, Bool.or_eq_true] at h1
  obtain ⟨⟨h2, h3, h4, h5⟩, h6⟩ := h1
  refine ⟨h2, h3, h4, h5, fun hq j hj => ?_⟩
  rcases h6 with h6 | h6
  · rw [hq] at h6; cases h6
  · exact of_decide_eq_true (List.all_eq_true.mp h6 j (List.mem_range.mpr hj))
theorem z_beqf {a b : Nat} (h : a ≠ b) : Nat.beq a b = false := by
  cases hb : Nat.beq a b
  · rfl
  · exact absurd (Nat.eq_of_beq_eq_true hb) h
theorem z_kt_lt {a : Nat} {k : zD} (h : z_kt[a]? = some k) : a < z_kt.length := (List.getElem?_eq_some_iff.mp h).1
theorem z_good_ref {k : zD} {a : Nat} (h : z_good (z_r k a)) (hk : k.1 ≠ 104) : z_kt[a]? = some k := by
  rcases h with h | h
  · exact absurd h.1 hk
  · exact h.2
theorem z_val_ref {ad adK : Nat → Nat} {k : zD} {a : Nat} (hk : k.1 ≠ 104) : z_val ad adK (z_r k a) = .ref (ad a) := by
  show Value.ref (cond (Nat.beq k.1 104) (adK a) (ad a)) = _
  rw [show Nat.beq k.1 104 = false from z_beqf hk]
  rfl
theorem z_e_obj {ad : Nat → Nat} {cA : Nat → ClassId} {M : zM} {a : Nat} {k : zD} (h : k.1 < 12) : z_e ad cA M a k = .inr (k.1, z_fs ad M a 0 (z_ft.getD k.1 [])) := by
  unfold z_e
  rw [show Nat.beq k.1 100 = false from z_beqf (by omega), show Nat.beq k.1 101 = false from z_beqf (by omega), show Nat.beq k.1 102 = false from z_beqf (by omega), show Nat.beq k.1 103 = false from z_beqf (by omega)]
  rfl
theorem z_e_int {ad : Nat → Nat} {cA : Nat → ClassId} {M : zM} {a : Nat} {k : zD} (h : k.1 = 100) : z_e ad cA M a k = .inl (cA 0, k.2.toNat, .inl fun j => Int32.ofInt (M a (j : Int))) := by
  unfold z_e; rw [h]; rfl
theorem z_e_long {ad : Nat → Nat} {cA : Nat → ClassId} {M : zM} {a : Nat} {k : zD} (h : k.1 = 101) : z_e ad cA M a k = .inl (cA 1, k.2.toNat, .inr (.inl fun j => Int64.ofInt (M a (j : Int)))) := by
  unfold z_e; rw [h]; rfl
theorem z_e_bool {ad : Nat → Nat} {cA : Nat → ClassId} {M : zM} {a : Nat} {k : zD} (h : k.1 = 102) : z_e ad cA M a k = .inl (cA 2, k.2.toNat, .inl fun j => Int32.ofInt (M a (j : Int))) := by
  unfold z_e; rw [h]; rfl
theorem z_e_town {ad : Nat → Nat} {cA : Nat → ClassId} {M : zM} {a : Nat} {k : zD} (h : k.1 = 103) : z_e ad cA M a k = .inl (cA 3, k.2.toNat, .inr (.inr (.inr (.inr fun j => some (ad (z_el a (j : Int))))))) := by
  unfold z_e; rw [h]; rfl
section
variable {p : Program} {l : Launch} {e : Env} {R : Room} {s : State} {m : MethodId} {args : Array Value} {below : List Frame} {meth : Method} {c : Code} {cc : ByteArray} {nL : Nat} {own : String} {D : va_G} {cA : Nat → ClassId} {ad adK : Nat → Nat} {A : Nat → Prop} {Qj : State → Prop} {pc : Nat} {zl : List zV} {zs : List zU} {M : zM}
theorem zs_iaload (cx : z_cx p R s m args c cc nL own D cA ad adK A) {k : zD} {a : Nat} {j : Int} (hd : decode cc pc = .ok (.iaload, 1)) (hk : k.1 = 100) (hj0 : 0 ≤ j ∧ j < k.2) (h : z_X p l e R s m args below meth c nL D cA ad adK A Qj (pc + 1) zl (z_i (M a j) :: zs) M) : z_X p l e R s m args below meth c nL D cA ad adK A Qj pc zl (z_i j :: z_r k a :: zs) M := by
  obtain ⟨hx, hb, hml, hown, hts, hK, hinj, hinA, hstr, hroom⟩ := cx
  intro hl hg hs hm H locs ls hP hS hv
  obtain ⟨hj, hs2⟩ := z_gs_c.mp hs
  obtain ⟨hr, h3⟩ := z_gs_c.mp hs2
  have hj : z_ri j := hj
  have hk4 : k.1 ≠ 104 := by omega
  have hkt := z_good_ref hr hk4
  obtain ⟨⟨k0, k1⟩, -⟩ := z_kt_ok a (z_kt_lt hkt) k hkt
  have hh := h hl hg (z_gs_c.mpr ⟨(hm a k hkt j).2 (by omega), h3⟩) hm H locs ls hP hS hv
  have ha := z_w_at (ad := ad) (cA := cA) (M := M) hkt
  rw [z_e_int hk] at ha
  show W p l e R s m args below meth c H locs 0 0 Qj (F0 m pc ls (.int (Int32.ofInt j) :: z_val ad adK (z_r k a) :: zs.map (z_val ad adK)))
  rw [z_val_ref hk4]
  refine va_iald hx hb hK hP a 0 ha rfl (zn_in hj hj0.1 (by omega)) hd ?_
  rw [zn_cl hj hj0.1, Int.toNat_of_nonneg hj0.1]
  exact hh
theorem zs_laload (cx : z_cx p R s m args c cc nL own D cA ad adK A) {k : zD} {a : Nat} {j : Int} (hd : decode cc pc = .ok (.laload, 1)) (hk : k.1 = 101) (hj0 : 0 ≤ j ∧ j < k.2) (h : z_X p l e R s m args below meth c nL D cA ad adK A Qj (pc + 1) zl (z_l (M a j) :: zs) M) : z_X p l e R s m args below meth c nL D cA ad adK A Qj pc zl (z_i j :: z_r k a :: zs) M := by
  obtain ⟨hx, hb, hml, hown, hts, hK, hinj, hinA, hstr, hroom⟩ := cx
  intro hl hg hs hm H locs ls hP hS hv
  obtain ⟨hj, hs2⟩ := z_gs_c.mp hs
  obtain ⟨hr, h3⟩ := z_gs_c.mp hs2
  have hj : z_ri j := hj
  have hk4 : k.1 ≠ 104 := by omega
  have hkt := z_good_ref hr hk4
  obtain ⟨⟨k0, k1⟩, -⟩ := z_kt_ok a (z_kt_lt hkt) k hkt
  have hh := h hl hg (z_gs_c.mpr ⟨(hm a k hkt j).1 hk, h3⟩) hm H locs ls hP hS hv
  have ha := z_w_at (ad := ad) (cA := cA) (M := M) hkt
  rw [z_e_long hk] at ha
  show W p l e R s m args below meth c H locs 0 0 Qj (F0 m pc ls (.int (Int32.ofInt j) :: z_val ad adK (z_r k a) :: zs.map (z_val ad adK)))
  rw [z_val_ref hk4]
  refine va_lald hx hb hK hP a 1 ha rfl (zn_in hj hj0.1 (by omega)) hd ?_
  rw [zn_cl hj hj0.1, Int.toNat_of_nonneg hj0.1]
  exact hh
theorem zs_baload (cx : z_cx p R s m args c cc nL own D cA ad adK A) {k : zD} {a : Nat} {j : Int} (hd : decode cc pc = .ok (.baload, 1)) (hk : k.1 = 102) (hj0 : 0 ≤ j ∧ j < k.2) (h : z_X p l e R s m args below meth c nL D cA ad adK A Qj (pc + 1) zl (z_i (M a j) :: zs) M) : z_X p l e R s m args below meth c nL D cA ad adK A Qj pc zl (z_i j :: z_r k a :: zs) M := by
  obtain ⟨hx, hb, hml, hown, hts, hK, hinj, hinA, hstr, hroom⟩ := cx
  intro hl hg hs hm H locs ls hP hS hv
  obtain ⟨hj, hs2⟩ := z_gs_c.mp hs
  obtain ⟨hr, h3⟩ := z_gs_c.mp hs2
  have hj : z_ri j := hj
  have hk4 : k.1 ≠ 104 := by omega
  have hkt := z_good_ref hr hk4
  obtain ⟨⟨k0, k1⟩, -⟩ := z_kt_ok a (z_kt_lt hkt) k hkt
  have hh := h hl hg (z_gs_c.mpr ⟨(hm a k hkt j).2 (by omega), h3⟩) hm H locs ls hP hS hv
  have ha := z_w_at (ad := ad) (cA := cA) (M := M) hkt
  rw [z_e_bool hk] at ha
  show W p l e R s m args below meth c H locs 0 0 Qj (F0 m pc ls (.int (Int32.ofInt j) :: z_val ad adK (z_r k a) :: zs.map (z_val ad adK)))
  rw [z_val_ref hk4]
  refine va_zald hx hb hK hP a 2 ha rfl (zn_in hj hj0.1 (by omega)) hd ?_
  rw [zn_cl hj hj0.1, Int.toNat_of_nonneg hj0.1]
  exact hh
theorem zs_aaload (cx : z_cx p R s m args c cc nL own D cA ad adK A) {k : zD} {a : Nat} {j : Int} (hd : decode cc pc = .ok (.aaload, 1)) (hk : k.1 = 103) (hj0 : 0 ≤ j ∧ j < k.2) (h : z_X p l e R s m args below meth c nL D cA ad adK A Qj (pc + 1) zl (z_r (9, 0) (z_el a j) :: zs) M) : z_X p l e R s m args below meth c nL D cA ad adK A Qj pc zl (z_i j :: z_r k a :: zs) M := by
  obtain ⟨hx, hb, hml, hown, hts, hK, hinj, hinA, hstr, hroom⟩ := cx
  intro hl hg hs hm H locs ls hP hS hv
  obtain ⟨hj, hs2⟩ := z_gs_c.mp hs
  obtain ⟨hr, h3⟩ := z_gs_c.mp hs2
  have hj : z_ri j := hj
  have hk4 : k.1 ≠ 104 := by omega
  have hkt := z_good_ref hr hk4
  obtain ⟨⟨k0, k1⟩, -⟩ := z_kt_ok a (z_kt_lt hkt) k hkt
  have hel := (z_kt_ok a (z_kt_lt hkt) k hkt).2.2.2.2 hk j.toNat (by omega)
  rw [Int.toNat_of_nonneg hj0.1] at hel
  have hh := h hl hg (z_gs_c.mpr ⟨Or.inr ⟨by decide, hel⟩, h3⟩) hm H locs ls hP hS hv
  have ha := z_w_at (ad := ad) (cA := cA) (M := M) hkt
  rw [z_e_town hk] at ha
  show W p l e R s m args below meth c H locs 0 0 Qj (F0 m pc ls (.int (Int32.ofInt j) :: z_val ad adK (z_r k a) :: zs.map (z_val ad adK)))
  rw [z_val_ref hk4]
  refine va_aldq hx hb hK hP a 3 ha rfl (zn_in hj hj0.1 (by omega)) hd ?_
  rw [zn_cl hj hj0.1, Int.toNat_of_nonneg hj0.1]
  exact hh
theorem zs_iastore (cx : z_cx p R s m args c cc nL own D cA ad adK A) {k : zD} {a : Nat} {j w : Int} (hd : decode cc pc = .ok (.iastore, 1)) (hk : k.1 = 100) (hj0 : 0 ≤ j ∧ j < k.2)  (h : z_X p l e R s m args below meth c nL D cA ad adK A Qj (pc + 1) zl zs (z_up M a j w)) : z_X p l e R s m args below meth c nL D cA ad adK A Qj pc zl (z_i w :: z_i j :: z_r k a :: zs) M := by
  obtain ⟨hx, hb, hml, hown, hts, hK, hinj, hinA, hstr, hroom⟩ := cx
  intro hl hg hs hm H locs ls hP hS hv
  obtain ⟨hw, hs1⟩ := z_gs_c.mp hs
  obtain ⟨hj, hs2⟩ := z_gs_c.mp hs1
  obtain ⟨hr, h3⟩ := z_gs_c.mp hs2
  have hj : z_ri j := hj
  have hk4 : k.1 ≠ 104 := by omega
  have hkt := z_good_ref hr hk4
  obtain ⟨⟨k0, k1⟩, -⟩ := z_kt_ok a (z_kt_lt hkt) k hkt
  have hm2 : z_mok (z_up M a j w) := z_mok_up hm (fun k' hk' => by rw [hkt] at hk'; cases hk'; exact ⟨fun q => absurd q (by omega), fun _ => hw⟩)
  have ha := z_w_at (ad := ad) (cA := cA) (M := M) hkt
  rw [z_e_int hk] at ha
  show W p l e R s m args below meth c H locs 0 0 Qj (F0 m pc ls (.int (Int32.ofInt w) :: .int (Int32.ofInt j) :: z_val ad adK (z_r k a) :: zs.map (z_val ad adK)))
  rw [z_val_ref hk4]
  refine va_iast hx hb hK hP (z_w_D hinj hinA) hS a 0 ha rfl (zn_in hj hj0.1 (by omega)) hd (fun H1 locs1 hP1 _ hS1 => ?_)
  rw [z_w_set (M' := z_up M a j w) hkt ?_ (fun b hb => by funext i; rw [z_up_ne]; exact fun q => hb q.1)] at hP1
  · exact h hl hg h3 hm2 H1 locs1 ls hP1 hS1 hv
  · rw [z_e_int hk]
    congr 4
    funext i
    rw [zn_cl hj hj0.1]
    show (if i = j.toNat then Int32.ofInt w else Int32.ofInt (M a i)) = Int32.ofInt (z_up M a j w a i)
    by_cases hi : i = j.toNat
    · rw [if_pos hi, show (i : Int) = j by omega, z_up_same]
    · rw [if_neg hi, z_up_ne M w (fun q => hi (by omega))]
theorem zs_lastore (cx : z_cx p R s m args c cc nL own D cA ad adK A) {k : zD} {a : Nat} {j w : Int} (hd : decode cc pc = .ok (.lastore, 1)) (hk : k.1 = 101) (hj0 : 0 ≤ j ∧ j < k.2)  (h : z_X p l e R s m args below meth c nL D cA ad adK A Qj (pc + 1) zl zs (z_up M a j w)) : z_X p l e R s m args below meth c nL D cA ad adK A Qj pc zl (z_l w :: z_i j :: z_r k a :: zs) M := by
  obtain ⟨hx, hb, hml, hown, hts, hK, hinj, hinA, hstr, hroom⟩ := cx
  intro hl hg hs hm H locs ls hP hS hv
  obtain ⟨hw, hs1⟩ := z_gs_c.mp hs
  obtain ⟨hj, hs2⟩ := z_gs_c.mp hs1
  obtain ⟨hr, h3⟩ := z_gs_c.mp hs2
  have hj : z_ri j := hj
  have hk4 : k.1 ≠ 104 := by omega
  have hkt := z_good_ref hr hk4
  obtain ⟨⟨k0, k1⟩, -⟩ := z_kt_ok a (z_kt_lt hkt) k hkt
  have hm2 : z_mok (z_up M a j w) := z_mok_up hm (fun k' hk' => by rw [hkt] at hk'; cases hk'; exact ⟨fun _ => hw, fun q => absurd hk q⟩)
  have ha := z_w_at (ad := ad) (cA := cA) (M := M) hkt
  rw [z_e_long hk] at ha
  show W p l e R s m args below meth c H locs 0 0 Qj (F0 m pc ls (.long (Int64.ofInt w) :: .int (Int32.ofInt j) :: z_val ad adK (z_r k a) :: zs.map (z_val ad adK)))
  rw [z_val_ref hk4]
  refine va_last hx hb hK hP (z_w_D hinj hinA) hS a 1 ha rfl (zn_in hj hj0.1 (by omega)) hd (fun H1 locs1 hP1 _ hS1 => ?_)
  rw [z_w_set (M' := z_up M a j w) hkt ?_ (fun b hb => by funext i; rw [z_up_ne]; exact fun q => hb q.1)] at hP1
  · exact h hl hg h3 hm2 H1 locs1 ls hP1 hS1 hv
  · rw [z_e_long hk]
    congr 5
    funext i
    rw [zn_cl hj hj0.1]
    show (if i = j.toNat then Int64.ofInt w else Int64.ofInt (M a i)) = Int64.ofInt (z_up M a j w a i)
    by_cases hi : i = j.toNat
    · rw [if_pos hi, show (i : Int) = j by omega, z_up_same]
    · rw [if_neg hi, z_up_ne M w (fun q => hi (by omega))]
theorem zs_bastore (cx : z_cx p R s m args c cc nL own D cA ad adK A) {k : zD} {a : Nat} {j w : Int} (hd : decode cc pc = .ok (.bastore, 1)) (hk : k.1 = 102) (hj0 : 0 ≤ j ∧ j < k.2) (hz : w = 0 ∨ w = 1) (h : z_X p l e R s m args below meth c nL D cA ad adK A Qj (pc + 1) zl zs (z_up M a j w)) : z_X p l e R s m args below meth c nL D cA ad adK A Qj pc zl (z_i w :: z_i j :: z_r k a :: zs) M := by
  obtain ⟨hx, hb, hml, hown, hts, hK, hinj, hinA, hstr, hroom⟩ := cx
  intro hl hg hs hm H locs ls hP hS hv
  obtain ⟨hw, hs1⟩ := z_gs_c.mp hs
  obtain ⟨hj, hs2⟩ := z_gs_c.mp hs1
  obtain ⟨hr, h3⟩ := z_gs_c.mp hs2
  have hj : z_ri j := hj
  have hk4 : k.1 ≠ 104 := by omega
  have hkt := z_good_ref hr hk4
  obtain ⟨⟨k0, k1⟩, -⟩ := z_kt_ok a (z_kt_lt hkt) k hkt
  have hnar : vp_nar .boolean (Int32.ofInt w) = Int32.ofInt w := by rcases hz with rfl | rfl <;> rfl
  have hm2 : z_mok (z_up M a j w) := z_mok_up hm (fun k' hk' => by rw [hkt] at hk'; cases hk'; exact ⟨fun q => absurd q (by omega), fun _ => hw⟩)
  have ha := z_w_at (ad := ad) (cA := cA) (M := M) hkt
  rw [z_e_bool hk] at ha
  show W p l e R s m args below meth c H locs 0 0 Qj (F0 m pc ls (.int (Int32.ofInt w) :: .int (Int32.ofInt j) :: z_val ad adK (z_r k a) :: zs.map (z_val ad adK)))
  rw [z_val_ref hk4]
  refine va_zast hx hb hK hP (z_w_D hinj hinA) hS a 2 ha rfl (zn_in hj hj0.1 (by omega)) hd (fun H1 locs1 hP1 _ hS1 => ?_)
  rw [hnar, z_w_set (M' := z_up M a j w) hkt ?_ (fun b hb => by funext i; rw [z_up_ne]; exact fun q => hb q.1)] at hP1
  · exact h hl hg h3 hm2 H1 locs1 ls hP1 hS1 hv
  · rw [z_e_bool hk]
    congr 4
    funext i
    rw [zn_cl hj hj0.1]
    show (if i = j.toNat then Int32.ofInt w else Int32.ofInt (M a i)) = Int32.ofInt (z_up M a j w a i)
    by_cases hi : i = j.toNat
    · rw [if_pos hi, show (i : Int) = j by omega, z_up_same]
    · rw [if_neg hi, z_up_ne M w (fun q => hi (by omega))]
theorem zs_alen (cx : z_cx p R s m args c cc nL own D cA ad adK A) {k : zD} {a : Nat} (hd : decode cc pc = .ok (.arraylength, 1)) (hk : k.1 = 100) (h : z_X p l e R s m args below meth c nL D cA ad adK A Qj (pc + 1) zl (z_i k.2 :: zs) M) : z_X p l e R s m args below meth c nL D cA ad adK A Qj pc zl (z_r k a :: zs) M := by
  obtain ⟨hx, hb, hml, hown, hts, hK, hinj, hinA, hstr, hroom⟩ := cx
  intro hl hg hs hm H locs ls hP hS hv
  obtain ⟨hr, h3⟩ := z_gs_c.mp hs
  have hk4 : k.1 ≠ 104 := by omega
  have hkt := z_good_ref hr hk4
  obtain ⟨⟨k0, k1⟩, -⟩ := z_kt_ok a (z_kt_lt hkt) k hkt
  have ha := z_w_at (ad := ad) (cA := cA) (M := M) hkt
  rw [z_e_int hk] at ha
  show W p l e R s m args below meth c H locs 0 0 Qj (F0 m pc ls (z_val ad adK (z_r k a) :: zs.map (z_val ad adK)))
  rw [z_val_ref hk4]
  refine va_alen hx hb hK hP a 0 ha rfl (v := Int32.ofInt k.2) ?_ hd (h hl hg (z_gs_c.mpr ⟨by show z_ri k.2; unfold z_ri; omega, h3⟩) hm H locs ls hP hS hv)
  show Int32.ofNat k.2.toNat = Int32.ofInt k.2
  rw [← Int32.ofInt_eq_ofNat, Int.toNat_of_nonneg k0]
theorem zs_getI (cx : z_cx p R s m args c cc nL own D cA ad adK A) {k : zD} {a idx ci j : Nat} {C : String} {T : u_T} {N : Nat} {q : Nat × Nat} (hd : decode cc pc = .ok (.getfield idx, 3)) (hk : k.1 = ci) (hci : ci < 12) (hcl : z_cl[ci]? = some (C, T, N)) (hjN : j < N) (hin : ∀ w ∈ u_ws C T N, w ∈ z_tb) (hw : Cond.fieldLink own idx (T j).1 (T j).2.1 (T j).2.2.1 ∈ z_tb) (hf : (z_ft.getD ci [])[j]? = some q) (hq : Nat.beq q.1 1 = false) (h : z_X p l e R s m args below meth c nL D cA ad adK A Qj (pc + 3) zl (z_i (M a (j : Int)) :: zs) M) : z_X p l e R s m args below meth c nL D cA ad adK A Qj pc zl (z_r k a :: zs) M := by
  obtain ⟨hx, hb, hml, hown, hts, hK, hinj, hinA, hstr, hroom⟩ := cx
  intro hl hg hs hm H locs ls hP hS hv
  obtain ⟨hr, h3⟩ := z_gs_c.mp hs
  have hk4 : k.1 ≠ 104 := by omega
  have hkt := z_good_ref hr hk4
  have ha := z_w_at (ad := ad) (cA := cA) (M := M) hkt
  rw [z_e_obj (by omega), hk] at ha
  show W p l e R s m args below meth c H locs 0 0 Qj (F0 m pc ls (z_val ad adK (z_r k a) :: zs.map (z_val ad adK)))
  rw [z_val_ref hk4]
  refine va_get hx hb hts hin hown hK hP a ha hcl j hjN (hts _ hw) (fun _ z => z) (v := .int (Int32.ofInt (M a (j : Int)))) ?_ hd (h hl hg (z_gs_c.mpr ⟨(hm a k hkt _).2 (by omega), h3⟩) hm H locs ls hP hS hv)
  rw [z_fs_get, hf]
  simp only [Option.map_some, z_f1, hq, cond_false, Nat.zero_add]
theorem zs_getR (cx : z_cx p R s m args c cc nL own D cA ad adK A) {k kc : zD} {a idx ci j off : Nat} {C : String} {T : u_T} {N : Nat} (hd : decode cc pc = .ok (.getfield idx, 3)) (hk : k.1 = ci) (hci : ci < 12) (hcl : z_cl[ci]? = some (C, T, N)) (hjN : j < N) (hin : ∀ w ∈ u_ws C T N, w ∈ z_tb) (hw : Cond.fieldLink own idx (T j).1 (T j).2.1 (T j).2.2.1 ∈ z_tb) (hf : (z_ft.getD ci [])[j]? = some (1, off)) (hkc : kc.1 ≠ 104) (hch : z_kt[a]? = some k → z_kt[a + off]? = some kc) (h : z_X p l e R s m args below meth c nL D cA ad adK A Qj (pc + 3) zl (z_r kc (a + off) :: zs) M) : z_X p l e R s m args below meth c nL D cA ad adK A Qj pc zl (z_r k a :: zs) M := by
  obtain ⟨hx, hb, hml, hown, hts, hK, hinj, hinA, hstr, hroom⟩ := cx
  intro hl hg hs hm H locs ls hP hS hv
  obtain ⟨hr, h3⟩ := z_gs_c.mp hs
  have hk4 : k.1 ≠ 104 := by omega
  have hkt := z_good_ref hr hk4
  have ha := z_w_at (ad := ad) (cA := cA) (M := M) hkt
  rw [z_e_obj (by omega), hk] at ha
  have hh := h hl hg (z_gs_c.mpr ⟨Or.inr ⟨hkc, hch hkt⟩, h3⟩) hm H locs ls hP hS hv
  show W p l e R s m args below meth c H locs 0 0 Qj (F0 m pc ls (z_val ad adK (z_r k a) :: zs.map (z_val ad adK)))
  rw [z_val_ref hk4]
  refine va_get hx hb hts hin hown hK hP a ha hcl j hjN (hts _ hw) (fun _ z => z) (v := z_val ad adK (z_r kc (a + off))) ?_ hd hh
  rw [z_fs_get, hf, z_val_ref hkc]
  rfl
theorem zs_put (cx : z_cx p R s m args c cc nL own D cA ad adK A) {k : zD} {a idx ci j : Nat} {w : Int} {C : String} {T : u_T} {N : Nat} {q : Nat × Nat} {ty : FieldType} (hd : decode cc pc = .ok (.putfield idx, 3)) (hk : k.1 = ci) (hci : ci < 12) (hcl : z_cl[ci]? = some (C, T, N)) (hjN : j < N) (hin : ∀ w ∈ u_ws C T N, w ∈ z_tb) (ty0 : Nat → FieldType) (hty : ∀ k, k < N → parseFieldDescriptor (T k).2.2.1 = some (ty0 k)) (hnm : ∀ a, a < N → ∀ b, b < N → a ≠ b → (T a).2.1 ≠ (T b).2.1) (hw : Cond.fieldLink own idx (T j).1 (T j).2.1 (T j).2.2.1 ∈ z_tb) (hf : (z_ft.getD ci [])[j]? = some q) (hq : Nat.beq q.1 1 = false) (hfin : (T j).2.2.2 = false) (hpd : parseFieldDescriptor (T j).2.2.1 = some ty) (hnar : narrow ty (.int (Int32.ofInt w)) = .int (Int32.ofInt w)) (hfit : fits ty (.int (Int32.ofInt w)) = true) (h : z_X p l e R s m args below meth c nL D cA ad adK A Qj (pc + 3) zl zs (z_up M a (j : Int) w)) : z_X p l e R s m args below meth c nL D cA ad adK A Qj pc zl (z_i w :: z_r k a :: zs) M := by
  obtain ⟨hx, hb, hml, hown, hts, hK, hinj, hinA, hstr, hroom⟩ := cx
  intro hl hg hs hm H locs ls hP hS hv
  obtain ⟨hw1, hs2⟩ := z_gs_c.mp hs
  obtain ⟨hr, h3⟩ := z_gs_c.mp hs2
  have hk4 : k.1 ≠ 104 := by omega
  have hkt := z_good_ref hr hk4
  have ha := z_w_at (ad := ad) (cA := cA) (M := M) hkt
  rw [z_e_obj (by omega), hk] at ha
  have hm2 : z_mok (z_up M a (j : Int) w) := z_mok_up hm (fun k' hk' => by rw [hkt] at hk'; cases hk'; exact ⟨fun z => absurd z (by omega), fun _ => hw1⟩)
  show W p l e R s m args below meth c H locs 0 0 Qj (F0 m pc ls (.int (Int32.ofInt w) :: z_val ad adK (z_r k a) :: zs.map (z_val ad adK)))
  rw [z_val_ref hk4]
  refine va_put hx hb hts hin ty0 hty hnm hown hK hP (z_w_D hinj hinA) hS a ha hcl j hjN (hts _ hw) (fun _ z => z) hfin hpd hnar hfit (by rw [z_fs_len]; exact (List.getElem?_eq_some_iff.mp hf).1) hd (fun H1 locs1 hP1 _ hS1 => ?_)
  rw [z_w_set (M' := z_up M a (j : Int) w) hkt ?_ (fun b hb => by funext i; rw [z_up_ne]; exact fun q => hb q.1)] at hP1
  · exact h hl hg h3 hm2 H1 locs1 ls hP1 hS1 hv
  · rw [z_e_obj (by omega), z_fs_set hf hq, hk]
theorem z_cats_sum {ad adK : Nat → Nat} : ∀ (l : List zU), ((l.map (z_val ad adK)).map fun v => v.category).sum = z_cats l
  | [] => rfl
  | u :: l => by
    show (z_val ad adK u).category + ((l.map (z_val ad adK)).map fun v => v.category).sum = z_cat u + z_cats l
    rw [z_cats_sum l, z_cat_val]
theorem zs_min (cx : z_cx p R s m args c cc nL own D cA ad adK A) {a b : Int} {idx : Nat} (hd : decode cc pc = .ok (.invokestatic idx, 3)) (hc8 : z_cats zs ≤ 8) (hw : Cond.methodLink own idx Lib.Math.min.name ∈ z_tb) (hw2 : Cond.static Lib.Math.min.name ∈ z_tb) (hw3 : Cond.initialized "java/lang/Math" ∈ z_tb) (hw4 : Cond.code Lib.Math.min.name Lib.Math.min.code 2 (some .int) ∈ z_tb) (h : z_X p l e R s m args below meth c nL D cA ad adK A Qj (pc + 3) zl (z_i (if b < a then b else a) :: zs) M) : z_X p l e R s m args below meth c nL D cA ad adK A Qj pc zl (z_i b :: z_i a :: zs) M := by
  obtain ⟨hx, hb, hml, hown, hts, hK, hinj, hinA, hstr, hroom⟩ := cx
  intro hl hg hs hm H locs ls hP hS hv
  obtain ⟨hb1, h2⟩ := z_gs_c.mp hs
  obtain ⟨ha1, h3⟩ := z_gs_c.mp h2
  have hb1 : z_ri b := hb1
  have ha1 : z_ri a := ha1
  have hh := h hl hg (z_gs_c.mpr ⟨by show z_ri (if b < a then b else a); split <;> assumption, h3⟩) hm H locs ls hP hS hv
  refine va_mmin hx hb (by rw [hml]; exact hv.1.symm) hown (hts _ hw) (hts _ hw2) (hts _ hw3) (hts _ hw4) hroom.1 (by rw [z_cats_sum]; omega) (Nat.zero_le _) (Nat.zero_le _) hd ?_
  simp only [zn_lt hb1 ha1]
  by_cases hc : b < a
  · rw [if_pos hc] at hh ⊢
    exact hh
  · rw [if_neg hc] at hh ⊢
    exact hh
theorem zs_max (cx : z_cx p R s m args c cc nL own D cA ad adK A) {a b : Int} {idx : Nat} (hd : decode cc pc = .ok (.invokestatic idx, 3)) (hc8 : z_cats zs ≤ 8) (hw : Cond.methodLink own idx Lib.Math.max.name ∈ z_tb) (hw2 : Cond.static Lib.Math.max.name ∈ z_tb) (hw3 : Cond.initialized "java/lang/Math" ∈ z_tb) (hw4 : Cond.code Lib.Math.max.name Lib.Math.max.code 2 (some .int) ∈ z_tb) (h : z_X p l e R s m args below meth c nL D cA ad adK A Qj (pc + 3) zl (z_i (if a < b then b else a) :: zs) M) : z_X p l e R s m args below meth c nL D cA ad adK A Qj pc zl (z_i b :: z_i a :: zs) M := by
  obtain ⟨hx, hb, hml, hown, hts, hK, hinj, hinA, hstr, hroom⟩ := cx
  intro hl hg hs hm H locs ls hP hS hv
  obtain ⟨hb1, h2⟩ := z_gs_c.mp hs
  obtain ⟨ha1, h3⟩ := z_gs_c.mp h2
  have hb1 : z_ri b := hb1
  have ha1 : z_ri a := ha1
  have hh := h hl hg (z_gs_c.mpr ⟨by show z_ri (if a < b then b else a); split <;> assumption, h3⟩) hm H locs ls hP hS hv
  refine va_mmax hx hb (by rw [hml]; exact hv.1.symm) hown (hts _ hw) (hts _ hw2) (hts _ hw3) (hts _ hw4) hroom.1 (by rw [z_cats_sum]; omega) (Nat.zero_le _) (Nat.zero_le _) hd ?_
  simp only [zn_lt ha1 hb1]
  by_cases hc : a < b
  · rw [if_pos hc] at hh ⊢
    exact hh
  · rw [if_neg hc] at hh ⊢
    exact hh
theorem zs_copy (cx : z_cx p R s m args c cc nL own D cA ad adK A) {ka kb : zD} {a b : Nat} {sp dp n : Int} {idx : Nat} (hd : decode cc pc = .ok (.invokestatic idx, 3)) (hc8 : z_cats zs ≤ 8) (hka : ka.1 = 100) (hkb : kb.1 = 100) (hbd : 0 ≤ sp ∧ 0 ≤ dp ∧ 0 ≤ n ∧ sp + n ≤ ka.2 ∧ dp + n ≤ kb.2) (hw : Cond.methodLink own idx arraycopyName ∈ z_tb) (hw1 : Cond.native arraycopyName ∈ z_tb) (hw2 : Cond.static arraycopyName ∈ z_tb) (hw3 : Cond.initialized "java/lang/System" ∈ z_tb) (h : z_X p l e R s m args below meth c nL D cA ad adK A Qj (pc + 3) zl zs (z_cp M a sp b dp n)) : z_X p l e R s m args below meth c nL D cA ad adK A Qj pc zl (z_i n :: z_i dp :: z_r kb b :: z_i sp :: z_r ka a :: zs) M := by
  obtain ⟨hx, hb, hml, hown, hts, hK, hinj, hinA, hstr, hroom⟩ := cx
  intro hl hg hs hm H locs ls hP hS hv
  obtain ⟨hn1, h2⟩ := z_gs_c.mp hs
  obtain ⟨hd1, h3⟩ := z_gs_c.mp h2
  obtain ⟨hrb, h4⟩ := z_gs_c.mp h3
  obtain ⟨hs1, h5⟩ := z_gs_c.mp h4
  obtain ⟨hra, h6⟩ := z_gs_c.mp h5
  have hn1 : z_ri n := hn1
  have hd1 : z_ri dp := hd1
  have hs1 : z_ri sp := hs1
  obtain ⟨b1, b2, b3, b4, b5⟩ := hbd
  have hkta := z_good_ref hra (by omega)
  have hktb := z_good_ref hrb (by omega)
  have haa := z_w_at (ad := ad) (cA := cA) (M := M) hkta
  have hab := z_w_at (ad := ad) (cA := cA) (M := M) hktb
  rw [z_e_int hka] at haa
  rw [z_e_int hkb] at hab
  have nlt : ∀ {x : Int}, z_ri x → 0 ≤ x → ¬ Int32.ofInt x < 0 := fun hx h0 q => by
    have := (zn_lt hx zn_r0).mp q
    omega
  show W p l e R s m args below meth c H locs 0 0 Qj (F0 m pc ls (.int (Int32.ofInt n) :: .int (Int32.ofInt dp) :: z_val ad adK (z_r kb b) :: .int (Int32.ofInt sp) :: z_val ad adK (z_r ka a) :: zs.map (z_val ad adK)))
  rw [z_val_ref (show kb.1 ≠ 104 by omega), z_val_ref (show ka.1 ≠ 104 by omega)]
  have hloc : ((zs.map (z_val ad adK)).map fun v => v.category).sum + (nativeFrameWords "java/lang/System" "arraycopy" 5 + 11) ≤ R.locals := by
    have h7 : nativeFrameWords "java/lang/System" "arraycopy" 5 = 7 := by decide +kernel
    rw [z_cats_sum, h7]
    omega
  refine va_copyi (ty := .int) hx hb (by rw [hml]; exact hv.1.symm) hown (hts _ hw) (hts _ hw1) (hts _ hw2) (hts _ hw3) hK hP (z_w_D hinj hinA) hS a b 0 0 haa hab rfl rfl rfl (nlt hs1 b1) (nlt hd1 b2) (nlt hn1 b3) (by rw [zn_cl hs1 b1, zn_cl hn1 b3]; omega) (by rw [zn_cl hd1 b2, zn_cl hn1 b3]; omega) (fun _ _ => rfl) hroom.1 hloc hd (fun H1 locs1 hP1 _ hS1 => ?_)
  rw [z_w_set (M' := z_cp M a sp b dp n) hktb ?_ (fun c hc => by funext i; unfold z_cp; rw [if_neg (fun q => hc q.1)])] at hP1
  · exact h hl hg h6 (z_mok_cp hm hkta hktb hka hkb) H1 locs1 ls hP1 hS1 hv
  · rw [z_e_int hkb]
    congr 4
    funext i
    rw [zn_cl hs1 b1, zn_cl hd1 b2, zn_cl hn1 b3]
    unfold va_cpy z_cp
    by_cases hi : dp.toNat ≤ i ∧ i < dp.toNat + n.toNat
    · rw [if_pos hi, if_pos ⟨rfl, by omega, by omega⟩]
      show Int32.ofInt (M a ((sp.toNat + (i - dp.toNat) : Nat) : Int)) = _
      rw [show ((sp.toNat + (i - dp.toNat) : Nat) : Int) = sp + ((i : Int) - dp) by omega]
    · rw [if_neg hi, if_neg (fun q => hi (by omega))]
end
end
section
/-! THE MACHINE FOLLOWS z_step: switches, returns, calls -/
theorem z_ts_in {a lo : Int} {K : Nat → Prop} {dflt : Nat} : ∀ (ts : List Nat) (k : Int), z_ts a K dflt lo ts k → (∀ (i : Nat) (t : Nat), ts[i]? = some t → a = k + i → K t) ∧ ((a < lo ∨ k + ts.length ≤ a) → K dflt)
  | [], k, h => ⟨fun i t ht => by simp at ht, fun q => h (by simpa using q)⟩
  | t :: ts, k, h => by
    obtain ⟨h1, h2⟩ := h
    obtain ⟨h3, h4⟩ := z_ts_in ts (k + 1) h2
    refine ⟨fun i t' ht ha => ?_, fun q => h4 ?_⟩
    · cases i with
      | zero => cases ht; exact h1 (by simpa using ha)
      | succ i => exact h3 i t' ht (by rw [ha]; omega)
    · rw [List.length_cons] at q
      rcases q with q | q
      · exact Or.inl q
      · exact Or.inr (by omega)
theorem z_ls_in {a : Int} {K : Nat → Prop} {dflt pc : Nat} {d : Int} (hd : (pc : Int) + d = (dflt : Int)) : ∀ (ps : List (Int × Int)) (ts : List Nat), z_lk pc ps ts = true → z_ls a K dflt ts → ∃ t : Nat, (pc : Int) + Op.lookupswitch.offset ps d a = (t : Int) ∧ K t
  | [], [], _, h => ⟨dflt, hd, h⟩
  | [], _ :: _, hk, _ => by simp [z_lk] at hk
  | (k, o) :: r, [], hk, _ => by simp [z_lk] at hk
  | (k, o) :: r, [_], hk, _ => by simp [z_lk] at hk
  | (k, o) :: r, k' :: t :: ts, hk, h => by
    simp only [z_lk, Bool.and_eq_true, decide_eq_true_eq] at hk
    obtain ⟨e1, e2, e3⟩ := hk
    obtain ⟨h1, h2⟩ := h
    rw [Op.lookupswitch.offset_cons]
    by_cases hc : k = a
    · rw [if_pos hc]
      exact ⟨t, e2, h1 (by rw [← hc, e1])⟩
    · rw [if_neg hc]
      exact z_ls_in hd r ts e3 (h2 (fun q => hc (by rw [e1, q])))
theorem z_take_ok : ∀ (n : Nat) (st a r : List zU), z_take n st = some (a, r) → st = a ++ r ∧ a.length = n
  | 0, st, a, r, h => by cases h; exact ⟨rfl, rfl⟩
  | n + 1, [], a, r, h => by cases h
  | n + 1, u :: st, a, r, h => by
    simp only [z_take] at h
    cases hq : z_take n st with
    | none => rw [hq] at h; cases h
    | some q =>
      obtain ⟨a', r'⟩ := q
      rw [hq] at h
      cases h
      obtain ⟨h1, h2⟩ := z_take_ok n st a' r hq
      exact ⟨by rw [h1]; rfl, by rw [List.length_cons, h2]⟩
theorem z_rev_eq : ∀ (l b : List zU), z_rev l b = l.reverse ++ b
  | [], b => rfl
  | u :: l, b => by
    show z_rev l (u :: b) = (u :: l).reverse ++ b
    rw [z_rev_eq l (u :: b), List.reverse_cons, List.append_assoc]
    rfl
def z_Qg (D : va_G) (cA : Nat → ClassId) (ad adK : Nat → Nat) (Q : Option zU → zM → Prop) (A1 : Nat → Prop) : Array Value → State → Outcome → State → Prop := fun _ st oc t =>
  (∃ (r : Option zU) (M' : zM), oc = .returned (r.map (z_val ad adK)) ∧ Q r M' ∧ (∀ u, r = some u → z_good u) ∧ z_mok M' ∧ va_P D z_cl (z_w ad cA M') t.heap) ∧ va_F A1 st t
/-- the links to private methods of a nest mate -/
def z_nest (U : State) : Prop := ∀ (a : String) (i : Nat) (x : MethodName) (h : String), Cond.methodLinkNest a i x h ∈ lw_tbl → va_Nw (.methodLinkNest a i x h) U
def z_B (D : va_G) (cA : Nat → ClassId) (ad adK adV : Nat → Nat) (M : zM) (sz : Nat) (U : State) : Prop :=
  U.heap.size = sz ∧ va_P D z_cl (z_w ad cA M) U.heap ∧ va_K D z_cl (z_ty cA) U ∧ vk_S 7 z_sl z_sb adK adV (va_A (z_w ad cA M) sz) U U.heap ∧ (∀ j q, z_st[j]? = some q → vk_R q.1 q.2.1 q.2.2 (adK j) U) ∧ z_nest U
/-- the class of a method's receiver: 99 for a static one -/
def z_rck (r : Nat) (as : List zU) : Bool := cond (Nat.beq r 99) true (match as with
  | .inr (.inr (k, _)) :: _ => Nat.beq k.1 r
  | _ => false)
def z_HC (l : Launch) (D : va_G) (cA : Nat → ClassId) (ad adK adV : Nat → Nat) (rm : Room) (C : Nat → List zU → zM → (Option zU → zM → Prop) → Prop) : Prop :=
  ∀ (y : Nat) (Y : zY) (as : List zU) (M : zM) (Q : Option zU → zM → Prop), z_mt[y]? = some Y → C y as M Q → z_gs as → z_mok M → z_rck (z_rv.getD y 99) as = true ∧ ∀ sz : Nat, Met l Y.1 (Cond.code Y.1 Y.2.1 Y.2.2.1 Y.2.2.2.1 :: z_tb) rm (va_Pc (as.map (z_val ad adK)) (z_B D cA ad adK adV M sz)) (z_Qg D cA ad adK Q (va_A (z_w ad cA M) sz)) 0 0 (va_A (z_w ad cA M) sz)
theorem z_B_blind {D : va_G} {cA : Nat → ClassId} {ad adK adV : Nat → Nat} {M : zM} {sz : Nat} {av : List Value} : FrameBlind (va_Pc av (z_B D cA ad adK adV M sz)) := by
  intro a U g mk q
  obtain ⟨q0, q1, q2, q3, q4, q5, q6⟩ := q
  exact ⟨q0, q1, q2, va_K.moved (u := U) (U := U.calling g mk a) (Vm.Alike.refl U.vm) q3, vk_S.moved (u := U) (U := U.calling g mk a) (Vm.Alike.refl U.vm) q4, fun j q hq => vk_R.same (u := U) (U := U.calling g mk a) rfl (q5 j q hq), fun b i x h hm => va_Nw.same (u := U) (U := U.calling g mk a) rfl rfl (q6 b i x h hm)⟩
theorem z_map_opt {ad adK : Nat → Nat} (r : Option zU) (zs : List zU) : (r.map (z_val ad adK)).toList ++ zs.map (z_val ad adK) = (r.toList ++ zs).map (z_val ad adK) := by
  cases r <;> rfl
theorem z_good_tb {w : Cond} (h : w ∈ z_tb) : (w.onTables && w.keeps) = true ∨ ∃ ty, w = .arrayClass ty := good_of_word (List.mem_filter.mp h).2
theorem z_goodIn {y : MethodName} {bytes : ByteArray} {ml : Nat} {ret : Option FieldType} (h : Cond.code y bytes ml ret ∈ z_tb) : GoodIn z_tb (Cond.code y bytes ml ret :: z_tb) := by
  intro w hw
  rcases List.mem_cons.mp hw with h1 | h1
  · subst h1; exact ⟨h, z_good_tb h⟩
  · exact ⟨h1, z_good_tb h1⟩
section
variable {p : Program} {l : Launch} {e : Env} {R : Room} {s : State} {m : MethodId} {args : Array Value} {below : List Frame} {meth : Method} {c : Code} {cc : ByteArray} {nL : Nat} {own : String} {D : va_G} {cA : Nat → ClassId} {ad adK adV : Nat → Nat} {A : Nat → Prop} {Qj : State → Prop} {pc : Nat} {zl : List zV} {zs : List zU} {M : zM}
theorem zs_table (cx : z_cx p R s m args c cc nL own D cA ad adK A) {a d lo hi : Int} {offs : Array Int} {n dt : Nat} {ts : List Nat} (hd : decode cc pc = .ok (.tableswitch d lo hi offs, n)) (hdt : (pc : Int) + d = (dt : Int)) (hto : offs.toList.map (fun o => (pc : Int) + o) = ts.map (fun t : Nat => (t : Int))) (hhi : hi = lo + ts.length - 1)
    (h : z_ts a (fun t => z_X p l e R s m args below meth c nL D cA ad adK A Qj t zl zs M) dt lo ts lo) : z_X p l e R s m args below meth c nL D cA ad adK A Qj pc zl (z_i a :: zs) M := by
  obtain ⟨hx, hb, hml, hown, hts, hK, hinj, hinA, hstr, hroom⟩ := cx
  intro hl hg hs hm H locs ls hP hS hv
  obtain ⟨ha1, h3⟩ := z_gs_c.mp hs
  have ha1 : z_ri a := ha1
  obtain ⟨h1, h2⟩ := z_ts_in ts lo h
  by_cases hc : a < lo ∨ hi < a
  · exact lv_tableOut hx hb hd (by rw [zn_t ha1]; exact hc) hdt (h2 (by omega) hl hg h3 hm H locs ls hP hS hv)
  · have hlt : (a - lo).toNat < ts.length := by omega
    have hlt2 : (a - lo).toNat < offs.size := by
      have := congrArg List.length hto
      simp only [List.length_map, Array.length_toList] at this
      omega
    have ho : offs[(a - lo).toNat]? = some offs[(a - lo).toNat] := Array.getElem?_eq_getElem hlt2
    have ht : ts[(a - lo).toNat]? = some ts[(a - lo).toNat] := List.getElem?_eq_getElem hlt
    have he : (pc : Int) + offs[(a - lo).toNat] = (ts[(a - lo).toNat] : Nat) := by
      have h5 := congrArg (fun l => l[(a - lo).toNat]?) hto
      simp only [List.getElem?_map, ht, Option.map_some, Array.getElem?_toList, ho] at h5
      exact Option.some.inj h5
    exact lv_tableIn hx hb hd (by rw [zn_t ha1]; omega) (by rw [zn_t ha1]; omega) (by rw [zn_t ha1]; exact ho) he (h1 _ _ ht (by omega) hl hg h3 hm H locs ls hP hS hv)
theorem zs_lookup (cx : z_cx p R s m args c cc nL own D cA ad adK A) {a d : Int} {ps : Array (Int × Int)} {n dt : Nat} {ts : List Nat} (hd : decode cc pc = .ok (.lookupswitch d ps, n)) (hdt : (pc : Int) + d = (dt : Int)) (hp : (ps.toList.zip (ps.toList.drop 1)).all (fun (a, next) => a.1 < next.1) = true) (hto : z_lk pc ps.toList ts = true)
    (h : z_ls a (fun t => z_X p l e R s m args below meth c nL D cA ad adK A Qj t zl zs M) dt ts) : z_X p l e R s m args below meth c nL D cA ad adK A Qj pc zl (z_i a :: zs) M := by
  obtain ⟨hx, hb, hml, hown, hts, hK, hinj, hinA, hstr, hroom⟩ := cx
  intro hl hg hs hm H locs ls hP hS hv
  obtain ⟨ha1, h3⟩ := z_gs_c.mp hs
  have ha1 : z_ri a := ha1
  obtain ⟨t, h1, h2⟩ := z_ls_in hdt ps.toList ts hto h
  exact lv_lookup hx hb hd hp rfl (by rw [zn_t ha1]; exact h1) (h2 hl hg h3 hm H locs ls hP hS hv)
theorem zs_run {H : Heap} {locs : List Loc} {ls : Array Slot} {st0 rest : List Value} {a : Array Value} {A1 : Nat → Prop} {free : Addr → Prop} {Q : Option zU → zM → Prop} (hr : va_Run p l e R s m args below meth c H locs 0 0 0 0 (F0 m pc ls st0) rest (z_Qg D cA ad adK Q A1 a) free) (hS : va_S A s.heap H locs) (hA : ∀ q, q < H.size → A1 q → A q) (hf : ∀ q, free q → A q)
    (kk : ∀ (r : Option zU) (M' : zM) (H1 : Heap) (locs1 : List Loc), Q r M' → (∀ u, r = some u → z_good u) → z_mok M' → va_P D z_cl (z_w ad cA M') H1 → va_S A s.heap H1 locs1 → W p l e R s m args below meth c H1 locs1 0 0 Qj (F0 m (pc + 3) ls ((r.map (z_val ad adK)).toList ++ rest))) : W p l e R s m args below meth c H locs 0 0 Qj (F0 m pc ls st0) := by
  intro T hT X
  obtain ⟨v, st₀, t, T', L, h0, X', hL, e1, e2, ⟨⟨r, M', hv, hq, hg, hm, hP⟩, hz, hk⟩, st⟩ := hr T hT X
  cases hv
  rw [h0] at hz hk
  obtain ⟨t2, a1, b1⟩ := kk r M' T'.heap (locs ++ L) hq hg hm (by rw [e1]; exact hP)
    ⟨Nat.le_trans hS.1 (by rw [e1]; exact hz), fun q h1 h2 => by rw [e1, hk q (Nat.lt_of_lt_of_le h1 hS.1) (fun z => h2 (hA q (Nat.lt_of_lt_of_le h1 hS.1) z))]; exact hS.2.1 q h1 h2, fun q hq => by
      rcases List.mem_append.mp hq with h | h
      · exact hS.2.2 q h
      · exact hf _ (hL q h)⟩ T' rfl X'
  exact ⟨t2, st t2 a1, b1⟩
/-- what a call needs beside z_cx -/
def z_cy (R : Room) (s : State) (adK adV : Nat → Nat) (A : Nat → Prop) (rm : Room) : Prop :=
  vk_S 7 z_sl z_sb adK adV A s s.heap ∧ (∀ q, s.heap.size ≤ q → A q) ∧ rm.cells = 0 ∧ rm.slots = 0 ∧ rm.frames + 1 ≤ R.frames ∧ rm.locals + 60 ≤ R.locals ∧ z_nest s
theorem z_A_in {H : Heap} {locs : List Loc} (hinA : ∀ i, i < z_kt.length → A (ad i)) (hA : ∀ q, s.heap.size ≤ q → A q) (hS : va_S A s.heap H locs) : ∀ q, va_A (z_w ad cA M) H.size q → A q := by
  intro q hq
  rcases hq with ⟨k, e, hk⟩ | hq
  · rw [z_w_get] at hk
    cases hz : z_kt[k]? with
    | none => rw [hz] at hk; cases hk
    | some d =>
      rw [hz] at hk
      cases hk
      exact hinA k (z_kt_lt hz)
  · exact hA q (Nat.le_trans hS.1 hq)
theorem z_B_at {H : Heap} {locs : List Loc} (hK : va_K D z_cl (z_ty cA) s) (hstr : ∀ j q, z_st[j]? = some q → vk_R q.1 q.2.1 q.2.2 (adK j) s) (hVS : vk_S 7 z_sl z_sb adK adV A s s.heap) (hnest : z_nest s) (hS : va_S A s.heap H locs) (hP : va_P D z_cl (z_w ad cA M) H) (hin : ∀ q, va_A (z_w ad cA M) H.size q → A q) (U : State) (hU : U.heap = H) (hW : s.WarmedH U.vm) : z_B D cA ad adK adV M H.size U := by
  refine ⟨by rw [hU], by rw [hU]; exact hP, va_K.moved hW.alike hK, ?_, fun j q hq => vk_R.warm hW (hstr j q hq), fun a i x h hm => va_Nw.warmM hW (hnest a i x h hm)⟩
  rw [hU]
  exact ((hVS.kept hS.2.1).narrow hin).moved hW.alike
theorem zs_callS {rm : Room} {C : Nat → List zU → zM → (Option zU → zM → Prop) → Prop} (cx : z_cx p R s m args c cc nL own D cA ad adK A) (cy : z_cy R s adK adV A rm) (hC : z_HC l D cA ad adK adV rm C) {y idx na : Nat} {Y : zY} {a : List zU} (hmt : z_mt[y]? = some Y) (hml9 : Y.2.2.1 ≤ 41)
    (hd : decode cc pc = .ok (.invokestatic idx, 3)) (hna : a.length = na) (hc8 : z_cats zs ≤ 8) (hw1 : Cond.methodLink own idx Y.1 ∈ z_tb) (hw2 : Cond.static Y.1 ∈ z_tb) (hw3 : Cond.initialized Y.1.cls ∈ z_tb) (hw4 : Cond.code Y.1 Y.2.1 Y.2.2.1 Y.2.2.2.1 ∈ z_tb) (hdesc : Y.1.cls ≠ "java/lang/invoke/MethodHandle" ∧ Y.1.cls ≠ "java/lang/invoke/VarHandle" ∧ (parseMethodDescriptor Y.1.desc).map (fun d => d.parameters.length) = some na)
    (h : C y a.reverse M (fun r M => z_X p l e R s m args below meth c nL D cA ad adK A Qj (pc + 3) zl (r.toList ++ zs) M)) : z_X p l e R s m args below meth c nL D cA ad adK A Qj pc zl (a ++ zs) M := by
  obtain ⟨hx, hb, hml, hown, hts, hK, hinj, hinA, hstr, hroom⟩ := cx
  obtain ⟨hVS, hA, r1, r2, r3, r4, hnest⟩ := cy
  intro hl hg hs hm H locs ls hP hS hv
  have hsa : z_gs a.reverse := fun u hu => hs u (List.mem_append_left _ (List.mem_reverse.mp hu))
  have hsz : z_gs zs := fun u hu => hs u (List.mem_append_right _ hu)
  have hin := z_A_in (cA := cA) (M := M) hinA hA hS
  obtain ⟨-, hMet⟩ := hC y Y a.reverse M _ hmt h hsa hm
  refine zs_run (rest := zs.map (z_val ad adK)) (va_runS (As := a.reverse.map (z_val ad adK)) (n := na) (own := own) (Ts := z_tb) ⟨hx, hb, hml, hown, hts⟩ (hMet H.size) ⟨callB_of (bytes := Y.2.1) (maxL := Y.2.2.1) (ret := Y.2.2.2.1) na hts (z_goodIn hw4) rfl r1 r2 (hts _ hw3) (hts _ hw1) hdesc ⟨r3, by omega⟩, hts _ hw2⟩ ⟨z_B_blind, fun U hU hW => ⟨rfl, z_B_at hK hstr hVS hnest hS hP hin U hU hW⟩⟩ rfl ?_ hv.1 ?_ ?_ hd ⟨Nat.zero_le _, Nat.zero_le _⟩) hS (fun q _ hq => hin q hq) hin (fun r M' H1 locs1 hq hgr hm' hP1 hS1 => ?_)
  · rw [List.length_map, List.length_reverse]; exact hna
  · show (a ++ zs).map (z_val ad adK) = (a.reverse.map (z_val ad adK)).reverse ++ zs.map (z_val ad adK)
    rw [List.map_append, List.map_reverse, List.reverse_reverse]
  · exact lv_room (by rw [z_cats_sum]; exact hc8)
  · rw [z_map_opt]
    refine hq hl hg (fun u hu => ?_) hm' H1 locs1 ls hP1 hS1 hv
    rcases List.mem_append.mp hu with h1 | h1
    · exact hgr u (by simpa using h1)
    · exact hsz u h1
theorem zs_callSN {rm : Room} {C : Nat → List zU → zM → (Option zU → zM → Prop) → Prop} (cx : z_cx p R s m args c cc nL own D cA ad adK A) (cy : z_cy R s adK adV A rm) (hC : z_HC l D cA ad adK adV rm C) {y idx na : Nat} {Y : zY} {a : List zU} (hmt : z_mt[y]? = some Y) (hml9 : Y.2.2.1 ≤ 41)
    (hd : decode cc pc = .ok (.invokestatic idx, 3)) (hna : a.length = na) (hc8 : z_cats zs ≤ 8) {host : String} (hw1 : Cond.methodLinkNest own idx Y.1 host ∈ lw_tbl) (hw2 : Cond.static Y.1 ∈ z_tb) (hw3 : Cond.initialized Y.1.cls ∈ z_tb) (hw4 : Cond.code Y.1 Y.2.1 Y.2.2.1 Y.2.2.2.1 ∈ z_tb) (hdesc : Y.1.cls ≠ "java/lang/invoke/MethodHandle" ∧ Y.1.cls ≠ "java/lang/invoke/VarHandle" ∧ (parseMethodDescriptor Y.1.desc).map (fun d => d.parameters.length) = some na)
    (h : C y a.reverse M (fun r M => z_X p l e R s m args below meth c nL D cA ad adK A Qj (pc + 3) zl (r.toList ++ zs) M)) : z_X p l e R s m args below meth c nL D cA ad adK A Qj pc zl (a ++ zs) M := by
  obtain ⟨hx, hb, hml, hown, hts, hK, hinj, hinA, hstr, hroom⟩ := cx
  obtain ⟨hVS, hA, r1, r2, r3, r4, hnest⟩ := cy
  intro hl hg hs hm H locs ls hP hS hv
  have hsa : z_gs a.reverse := fun u hu => hs u (List.mem_append_left _ (List.mem_reverse.mp hu))
  have hsz : z_gs zs := fun u hu => hs u (List.mem_append_right _ hu)
  have hin := z_A_in (cA := cA) (M := M) hinA hA hS
  obtain ⟨-, hMet⟩ := hC y Y a.reverse M _ hmt h hsa hm
  have hl1 : va_Nw (.methodLinkNest own idx Y.1 host) s := hnest _ _ _ _ hw1
  refine zs_run (rest := zs.map (z_val ad adK)) (va_runSN (As := a.reverse.map (z_val ad adK)) (n := na) (own := own) (Ts := z_tb) ⟨hx, hb, hml, hown, hts⟩ (hMet H.size) ⟨va_cnB (bytes := Y.2.1) (maxL := Y.2.2.1) (ret := Y.2.2.2.1) na hts (z_goodIn hw4) rfl r1 r2 hl1 (hts _ hw3) hdesc ⟨r3, by omega⟩, hts _ hw2, trivial⟩ ⟨z_B_blind, fun U hU hW => ⟨rfl, z_B_at hK hstr hVS hnest hS hP hin U hU hW⟩⟩ rfl ?_ hv.1 ?_ ?_ hd ⟨Nat.zero_le _, Nat.zero_le _⟩) hS (fun q _ hq => hin q hq) hin (fun r M' H1 locs1 hq hgr hm' hP1 hS1 => ?_)
  · rw [List.length_map, List.length_reverse]; exact hna
  · show (a ++ zs).map (z_val ad adK) = (a.reverse.map (z_val ad adK)).reverse ++ zs.map (z_val ad adK)
    rw [List.map_append, List.map_reverse, List.reverse_reverse]
  · exact lv_room (by rw [z_cats_sum]; exact hc8)
  · rw [z_map_opt]
    refine hq hl hg (fun u hu => ?_) hm' H1 locs1 ls hP1 hS1 hv
    rcases List.mem_append.mp hu with h1 | h1
    · exact hgr u (by simpa using h1)
    · exact hsz u h1
/-- a receiver: an object of the class, or a literal -/
theorem z_recv {H : Heap} {locs : List Loc} {k : zD} {b r : Nat} {C : String} (hK : va_K D z_cl (z_ty cA) s) (hP : va_P D z_cl (z_w ad cA M) H) (hVS : vk_S 7 z_sl z_sb adK adV A s s.heap) (hS : va_S A s.heap H locs) (hg : z_good (z_r k b)) (hkr : k.1 = r) (hr : (r < 12 ∧ z_cl[r]?.map (fun q => q.1) = some C) ∨ (r = 104 ∧ C = "java/lang/String")) : ∃ cell : Cell, H[cond (Nat.beq k.1 104) (adK b) (ad b)]? = some cell ∧ cell.vm.isStatics = false ∧ s.vm.findClass C = some cell.cls := by
  rcases hr with ⟨h1, h2⟩ | ⟨h1, h2⟩
  · have hkt := z_good_ref hg (show k.1 ≠ 104 by omega)
    rw [show Nat.beq k.1 104 = false from z_beqf (by omega)]
    have ha := z_w_at (ad := ad) (cA := cA) (M := M) hkt
    rw [z_e_obj (by omega)] at ha
    cases hq : z_cl[r]? with
    | none => rw [hq] at h2; cases h2
    | some q =>
      rw [hq] at h2
      cases h2
      exact va_recv hK hP (by rw [hkr]; exact hq) ha
  · rcases hg with hg | hg
    · rw [show k.1 = 104 from hg.1, h2]
      exact vk_recv (adK := adK) (adV := adV) hVS hg.2.1 hS
    · exact absurd (by rw [hkr, h1]) hg.1
theorem zs_callV {rm : Room} {C : Nat → List zU → zM → (Option zU → zM → Prop) → Prop} (cx : z_cx p R s m args c cc nL own D cA ad adK A) (cy : z_cy R s adK adV A rm) (hC : z_HC l D cA ad adK adV rm C) {y idx na r : Nat} {Y : zY} {a : List zU} (hmt : z_mt[y]? = some Y) (hml9 : Y.2.2.1 ≤ 41) (hrv : z_rv.getD y 99 = r) (hr9 : r ≠ 99) (hrc : (r < 12 ∧ z_cl[r]?.map (fun q => q.1) = some Y.1.cls) ∨ (r = 104 ∧ Y.1.cls = "java/lang/String"))
    (hd : decode cc pc = .ok (.invokevirtual idx, 3)) (hna : a.length = na + 1) (hc8 : z_cats zs ≤ 8) (hw1 : Cond.methodLink own idx Y.1 ∈ z_tb) (hw2 : Cond.instanceMethod Y.1 ∈ z_tb) (hw5 : Cond.selects Y.1.cls Y.1 Y.1 ∈ z_tb) (hw3 : Cond.initialized Y.1.cls ∈ z_tb) (hw4 : Cond.code Y.1 Y.2.1 Y.2.2.1 Y.2.2.2.1 ∈ z_tb) (hdesc : Y.1.cls ≠ "java/lang/invoke/MethodHandle" ∧ Y.1.cls ≠ "java/lang/invoke/VarHandle" ∧ (parseMethodDescriptor Y.1.desc).map (fun d => d.parameters.length) = some na)
    (h : C y a.reverse M (fun r M => z_X p l e R s m args below meth c nL D cA ad adK A Qj (pc + 3) zl (r.toList ++ zs) M)) : z_X p l e R s m args below meth c nL D cA ad adK A Qj pc zl (a ++ zs) M := by
  obtain ⟨hx, hb, hml, hown, hts, hK, hinj, hinA, hstr, hroom⟩ := cx
  obtain ⟨hVS, hA, r1, r2, r3, r4, hnest⟩ := cy
  intro hl hg hs hm H locs ls hP hS hv
  have hsa : z_gs a.reverse := fun u hu => hs u (List.mem_append_left _ (List.mem_reverse.mp hu))
  have hsz : z_gs zs := fun u hu => hs u (List.mem_append_right _ hu)
  have hin := z_A_in (cA := cA) (M := M) hinA hA hS
  obtain ⟨hrk, hMet⟩ := hC y Y a.reverse M _ hmt h hsa hm
  rw [hrv] at hrk
  unfold z_rck at hrk
  rw [z_beqf hr9] at hrk
  cases hrev : a.reverse with
  | nil => rw [hrev] at hrk; cases hrk
  | cons u as =>
    rw [hrev] at hrk hMet
    have hul : z_good u := hsa u (by rw [hrev]; exact List.mem_cons_self)
    have hlen : as.length = na := by
      have h1 := congrArg List.length hrev
      rw [List.length_reverse, List.length_cons] at h1
      omega
    have haa : a = as.reverse ++ [u] := by
      have h1 := congrArg List.reverse hrev
      rw [List.reverse_reverse, List.reverse_cons] at h1
      exact h1
    rcases u with x | x | ⟨k, b⟩
    · cases hrk
    · cases hrk
    · have hkr : k.1 = r := Nat.eq_of_beq_eq_true hrk
      have hrecv := z_recv hK hP hVS hS hul hkr hrc
      refine zs_run (rest := zs.map (z_val ad adK)) (va_runV (As := as.map (z_val ad adK)) (b := cond (Nat.beq k.1 104) (adK b) (ad b)) (n := na) (own := own) (C := Y.1.cls) (Ts := z_tb) ⟨hx, hb, hml, hown, hts⟩ (hMet H.size) ⟨callB_of (bytes := Y.2.1) (maxL := Y.2.2.1) (ret := Y.2.2.2.1) na hts (z_goodIn hw4) rfl r1 r2 (hts _ hw3) (hts _ hw1) hdesc ⟨r3, by omega⟩, hts _ hw2, hts _ hw5⟩ ⟨z_B_blind, hrecv, fun U hU hW => ⟨rfl, z_B_at hK hstr hVS hnest hS hP hin U hU hW⟩⟩ rfl ?_ hv.1 ?_ ?_ hd ⟨Nat.zero_le _, Nat.zero_le _⟩) hS (fun q _ hq => hin q hq) hin (fun r M' H1 locs1 hq hgr hm' hP1 hS1 => ?_)
      · rw [List.length_map]; exact hlen
      · show (a ++ zs).map (z_val ad adK) = (as.map (z_val ad adK)).reverse ++ z_val ad adK (.inr (.inr (k, b))) :: zs.map (z_val ad adK)
        rw [haa, List.map_append, List.map_append, List.map_reverse, List.append_assoc]
        rfl
      · exact lv_room (by rw [z_cats_sum]; exact hc8)
      · rw [z_map_opt]
        refine hq hl hg (fun u hu => ?_) hm' H1 locs1 ls hP1 hS1 hv
        rcases List.mem_append.mp hu with h1 | h1
        · exact hgr u (by simpa using h1)
        · exact hsz u h1
theorem zs_iret (cx : z_cx p R s m args c cc nL own D cA ad adK A) {a : Int} {Q : Option zU → zM → Prop} (hr : meth.sig.returnType = some .int) (hlocks : meth.locks = false) (hd : decode cc pc = .ok (.ireturn, 1)) (h : Q (some (z_i a)) M) : z_X p l e R s m args below meth c nL D cA ad adK A (MQ below (z_Qg D cA ad adK Q A) args s 0 0 A) pc zl [z_i a] M := by
  obtain ⟨hx, hb, hml, hown, hts, hK, hinj, hinA, hstr, hroom⟩ := cx
  intro hl hg hs hm H locs ls hP hS hv
  exact W.iret hx hb hr (fun t ht _ => ⟨⟨some (z_i a), M, rfl, h, fun u hu => by cases hu; exact (z_gs_c.mp hs).1, hm, by rw [ht]; exact hP⟩, hS.F ht⟩) hS.2.2 hd hlocks
theorem zs_zret (cx : z_cx p R s m args c cc nL own D cA ad adK A) {a : Int} {Q : Option zU → zM → Prop} (hr : meth.sig.returnType = some .boolean) (hlocks : meth.locks = false) (hd : decode cc pc = .ok (.ireturn, 1)) (h1 : a = 0 ∨ a = 1) (h : Q (some (z_i a)) M) : z_X p l e R s m args below meth c nL D cA ad adK A (MQ below (z_Qg D cA ad adK Q A) args s 0 0 A) pc zl [z_i a] M := by
  obtain ⟨hx, hb, hml, hown, hts, hK, hinj, hinA, hstr, hroom⟩ := cx
  intro hl hg hs hm H locs ls hP hS hv
  exact W.zret hx hb hr (by rcases h1 with rfl | rfl <;> rfl) (fun t ht _ => ⟨⟨some (z_i a), M, rfl, h, fun u hu => by cases hu; exact (z_gs_c.mp hs).1, hm, by rw [ht]; exact hP⟩, hS.F ht⟩) hS.2.2 hd hlocks
theorem zs_lret (cx : z_cx p R s m args c cc nL own D cA ad adK A) {a : Int} {Q : Option zU → zM → Prop} (hr : meth.sig.returnType = some .long) (hlocks : meth.locks = false) (hd : decode cc pc = .ok (.lreturn, 1)) (h : Q (some (z_l a)) M) : z_X p l e R s m args below meth c nL D cA ad adK A (MQ below (z_Qg D cA ad adK Q A) args s 0 0 A) pc zl [z_l a] M := by
  obtain ⟨hx, hb, hml, hown, hts, hK, hinj, hinA, hstr, hroom⟩ := cx
  intro hl hg hs hm H locs ls hP hS hv
  exact W.lret hx hb hr (fun t ht _ => ⟨⟨some (z_l a), M, rfl, h, fun u hu => by cases hu; exact (z_gs_c.mp hs).1, hm, by rw [ht]; exact hP⟩, hS.F ht⟩) hS.2.2 hd hlocks
theorem zs_vret (cx : z_cx p R s m args c cc nL own D cA ad adK A) {Q : Option zU → zM → Prop} (hr : meth.sig.returnType = none) (hlocks : meth.locks = false) (hd : decode cc pc = .ok (.return_, 1)) (h : Q none M) : z_X p l e R s m args below meth c nL D cA ad adK A (MQ below (z_Qg D cA ad adK Q A) args s 0 0 A) pc zl [] M := by
  obtain ⟨hx, hb, hml, hown, hts, hK, hinj, hinA, hstr, hroom⟩ := cx
  intro hl hg hs hm H locs ls hP hS hv
  exact W.vret hx hb hr (fun t ht _ => ⟨⟨none, M, rfl, h, fun u hu => (by cases hu), hm, by rw [ht]; exact hP⟩, hS.F ht⟩) hS.2.2 hd hlocks
end
end
section
/-! ONE INSTRUCTION: the check and z_step give the machine's step -/
theorem z_cl_w : ∀ ci, ci < 12 → ∀ q, z_cl[ci]? = some q → ∀ k, k < q.2.2 → z_has ((z_lw.getD ci [])[k]?) (u_lay q.1 q.2.1 k) = true := by
  have h : (List.range 12).all (fun ci => match z_cl[ci]? with
    | some q => (List.range q.2.2).all (fun k => z_has ((z_lw.getD ci [])[k]?) (u_lay q.1 q.2.1 k))
    | none => true) = true := by decide +kernel
  intro ci hci q hq k hk
  have h1 := List.all_eq_true.mp h ci (List.mem_range.mpr hci)
  rw [hq] at h1
  exact List.all_eq_true.mp h1 k (List.mem_range.mpr hk)
theorem z_cl_in {ci : Nat} {q : vw_C} (hci : ci < 12) (hq : z_cl[ci]? = some q) : ∀ w ∈ u_ws q.1 q.2.1 q.2.2, w ∈ z_tb := by
  intro w hw
  obtain ⟨k, hk, rfl⟩ := List.mem_map.mp hw
  refine z_has_tb (z_cl_w ci hci q hq k (List.mem_range.mp hk)) ?_
  unfold u_lay
  split <;> rfl
theorem z_cl_ty {ci : Nat} {q : vw_C} (hci : ci < 12) (hq : z_cl[ci]? = some q) : ∀ k, k < q.2.2 → parseFieldDescriptor (q.2.1 k).2.2.1 = some ((z_tf.getD ci (fun _ => .int)) k) := by
  have h : (List.range 12).all (fun ci => match z_cl[ci]? with
    | some q => (List.range q.2.2).all (fun k => decide (parseFieldDescriptor (q.2.1 k).2.2.1 = some ((z_tf.getD ci (fun _ => .int)) k)))
    | none => true) = true := by decide +kernel
  have h1 := List.all_eq_true.mp h ci (List.mem_range.mpr hci)
  rw [hq] at h1
  exact fun k hk => of_decide_eq_true (List.all_eq_true.mp h1 k (List.mem_range.mpr hk))
theorem z_cl_nm {ci : Nat} {q : vw_C} (hci : ci < 12) (hq : z_cl[ci]? = some q) : ∀ a, a < q.2.2 → ∀ b, b < q.2.2 → a ≠ b → (q.2.1 a).2.1 ≠ (q.2.1 b).2.1 := by
  have h : (List.range 12).all (fun ci => match z_cl[ci]? with
    | some q => (List.range q.2.2).all (fun a => (List.range a).all (fun b => decide ((q.2.1 a).2.1 ≠ (q.2.1 b).2.1)))
    | none => true) = true := by decide +kernel
  have h1 := List.all_eq_true.mp h ci (List.mem_range.mpr hci)
  rw [hq] at h1
  have h2 : ∀ a, a < q.2.2 → ∀ b, b < a → (q.2.1 a).2.1 ≠ (q.2.1 b).2.1 := fun a ha b hb => of_decide_eq_true (List.all_eq_true.mp (List.all_eq_true.mp h1 a (List.mem_range.mpr ha)) b (List.mem_range.mpr hb))
  intro a ha b hb hab
  rcases Nat.lt_or_gt_of_ne hab with h3 | h3
  · exact fun e => h2 b hb a h3 e.symm
  · exact h2 a ha b h3
theorem z_fk_ok {a ci j off kc kl : Nat} {k : zD} (hk : z_kt[a]? = some k) (hci : k.1 = ci) (hf : (z_fk.getD ci [])[j]? = some (off, kc, kl)) (hkc : kc ≠ 999) : z_kt[a + off]? = some (kc, (kl : Int)) := by
  have h : (List.range z_kt.length).all (fun a => match z_kt[a]? with
    | some k => (z_fk.getD k.1 []).all (fun q => Nat.beq q.2.1 999 || decide (z_kt[a + q.1]? = some (q.2.1, (q.2.2 : Int))))
    | none => true) = true := by decide +kernel
  have h1 := List.all_eq_true.mp h a (List.mem_range.mpr (z_kt_lt hk))
  rw [hk] at h1
  simp only [hci] at h1
  have h2 := List.all_eq_true.mp h1 _ (List.mem_of_getElem? hf)
  simp only [Bool.or_eq_true] at h2
  rcases h2 with h2 | h2
  · exact absurd (Nat.eq_of_beq_eq_true h2) hkc
  · exact of_decide_eq_true h2
theorem z_fk_999 {ci j off : Nat} {q : Nat × Nat × Nat} (hci : ci < 12) (hf : (z_ft.getD ci [])[j]? = some (1, off)) (hk : (z_fk.getD ci [])[j]? = some q) : q.2.1 ≠ 999 := by
  have h : (List.range 12).all (fun ci => ((z_ft.getD ci []).zip (z_fk.getD ci [])).all (fun q => !(Nat.beq q.1.1 1) || !(Nat.beq q.2.2.1 999))) = true := by decide +kernel
  have h1 := List.all_eq_true.mp h ci (List.mem_range.mpr hci)
  have h2 : ((z_ft.getD ci []).zip (z_fk.getD ci []))[j]? = some ((1, off), q) := by
    rw [List.getElem?_zip_eq_some]
    exact ⟨hf, hk⟩
  have h3 := List.all_eq_true.mp h1 _ (List.mem_of_getElem? h2)
  intro e
  simp [e] at h3
theorem z_gw_ok : z_has z_gw[0]? (.static Lib.Math.min.name) = true ∧ z_has z_gw[1]? (.initialized "java/lang/Math") = true ∧ z_has z_gw[2]? (.code Lib.Math.min.name Lib.Math.min.code 2 (some .int)) = true ∧ z_has z_gw[3]? (.static Lib.Math.max.name) = true ∧ z_has z_gw[5]? (.code Lib.Math.max.name Lib.Math.max.code 2 (some .int)) = true ∧ z_has z_gw[6]? (.native arraycopyName) = true ∧ z_has z_gw[7]? (.static arraycopyName) = true ∧ z_has z_gw[8]? (.initialized "java/lang/System") = true := by
  refine ⟨by decide +kernel, by decide +kernel, by decide +kernel, by decide +kernel, by decide +kernel, by decide +kernel, by decide +kernel, by decide +kernel⟩
theorem z_mt_cls {y : Nat} {Y : zY} (h : z_mt[y]? = some Y) : Y.1.cls ≠ "java/lang/invoke/MethodHandle" ∧ Y.1.cls ≠ "java/lang/invoke/VarHandle" ∧ plainName Y.1.cls = true := by
  have h1 : z_mt.all (fun Y => decide (Y.1.cls ≠ "java/lang/invoke/MethodHandle") && (decide (Y.1.cls ≠ "java/lang/invoke/VarHandle") && plainName Y.1.cls)) = true := by decide +kernel
  have h2 := List.all_eq_true.mp h1 Y (List.mem_of_getElem? h)
  simp only [Bool.and_eq_true, decide_eq_true_eq] at h2
  exact h2
theorem z_fd_ok {own : String} {idx ci j : Nat} {w : Option (Nat × Nat)} (h : z_fd own idx ci j w = true) : ∃ q : vw_C, z_cl[ci]? = some q ∧ ci < 12 ∧ j < q.2.2 ∧ Cond.fieldLink own idx (q.2.1 j).1 (q.2.1 j).2.1 (q.2.1 j).2.2.1 ∈ z_tb := by
  unfold z_fd at h
  cases hq : z_cl[ci]? with
  | none => rw [hq] at h; cases h
  | some q =>
    rw [hq] at h
    simp only [Bool.and_eq_true, decide_eq_true_eq] at h
    exact ⟨q, rfl, h.1, h.2.1, z_has_tb h.2.2 rfl⟩
theorem z_nr_ok {ci j : Nat} (h : z_nr ci j = true) : ∃ q : Nat × Nat, (z_ft.getD ci [])[j]? = some q ∧ Nat.beq q.1 1 = false := by
  unfold z_nr at h
  cases hq : (z_ft.getD ci [])[j]? with
  | none => rw [hq] at h; cases h
  | some q =>
    rw [hq] at h
    exact ⟨q, rfl, by simpa using h⟩
theorem z_cm_ok {y na : Nat} {f : zY → Bool} (h : z_cm y na f = true) : ∃ Y : zY, z_mt[y]? = some Y ∧ Y.2.2.1 ≤ 41 ∧ (parseMethodDescriptor Y.1.desc).map (fun d => d.parameters.length) = some na ∧ f Y = true := by
  unfold z_cm at h
  cases hq : z_mt[y]? with
  | none => rw [hq] at h; cases h
  | some Y =>
    rw [hq] at h
    simp only [Bool.and_eq_true, decide_eq_true_eq] at h
    exact ⟨Y, rfl, h.1, h.2.1, h.2.2⟩
theorem z_tg_ok {pc : Nat} {off : Int} {x : List Nat} (h : z_tg pc off x = true) : ∃ t : Nat, x = [t] ∧ (pc : Int) + off = (t : Int) := by
  unfold z_tg at h
  split at h
  · exact ⟨_, rfl, of_decide_eq_true h⟩
  · cases h
section
variable {p : Program} {l : Launch} {e : Env} {R : Room} {s : State} {m : MethodId} {args : Array Value} {below : List Frame} {meth : Method} {c : Code} {cc : ByteArray} {nL : Nat} {own : String} {D : va_G} {cA : Nat → ClassId} {ad adK adV : Nat → Nat} {A : Nat → Prop} {pc : Nat} {zl : List zV} {zs : List zU} {M : zM} {Q : Option zU → zM → Prop}
set_option maxHeartbeats 4000000 in
theorem z_sim1 {rm : Room} {C : Nat → List zU → zM → (Option zU → zM → Prop) → Prop} {rt : Option FieldType} (cx : z_cx p R s m args c cc nL own D cA ad adK A) (cy : z_cy R s adK adV A rm) (hC : z_HC l D cA ad adK adV rm C) (hr : meth.sig.returnType = rt) (hlocks : meth.locks = false) {i : Instr} {n : Nat} {x : List Nat} {v : Int} {w : List (Nat × Nat)}
    (hd : decode cc pc = .ok (i, n)) (hce : z_ce own nL rt pc i n x v w = true) (h : z_step (z_X p l e R s m args below meth c nL D cA ad adK A (MQ below (z_Qg D cA ad adK Q A) args s 0 0 A)) Q C pc i n x v zl zs M) : z_X p l e R s m args below meth c nL D cA ad adK A (MQ below (z_Qg D cA ad adK Q A) args s 0 0 A) pc zl zs M := by
  cases i with
  | iconst k =>
    simp only [z_ce, Bool.and_eq_true, decide_eq_true_eq] at hce
    obtain ⟨rfl, h1, h2⟩ := hce
    exact zs_iconst cx hd h1 h2 h
  | bipush k =>
    simp only [z_ce, Bool.and_eq_true, decide_eq_true_eq] at hce
    obtain ⟨rfl, h1, h2⟩ := hce
    exact zs_bipush cx hd h1 h2 h
  | sipush k =>
    simp only [z_ce, Bool.and_eq_true, decide_eq_true_eq] at hce
    obtain ⟨rfl, h1, h2⟩ := hce
    exact zs_sipush cx hd h1 h2 h
  | lconst k =>
    simp only [z_ce, Bool.and_eq_true, decide_eq_true_eq] at hce
    obtain ⟨rfl, h1⟩ := hce
    exact zs_lconst cx hd h1 h
  | ldc2_w k =>
    simp only [z_ce, Bool.and_eq_true, decide_eq_true_eq] at hce
    obtain ⟨rfl, h1, h2⟩ := hce
    exact zs_ldc2 cx hd h1 (z_has_tb h2 rfl) h
  | ldc k =>
    simp only [z_ce, Bool.and_eq_true, decide_eq_true_eq] at hce
    obtain ⟨rfl, h1⟩ := hce
    split at h1
    · simp only [Bool.and_eq_true, decide_eq_true_eq] at h1
      obtain ⟨h2, h3⟩ := h1
      rename_i j len
      cases hq : z_st[j]? with
      | none => rw [hq] at h2; cases h2
      | some q =>
        rw [hq] at h2
        obtain ⟨q1, q2, q3⟩ := q
        cases h2
        exact zs_ldcS cx hd hq h3 h
    · simp only [Bool.and_eq_true, decide_eq_true_eq] at h1
      exact zs_ldc cx hd h1.1 (z_has_tb h1.2 rfl) h
    · cases h1
  | ldc_w k =>
    simp only [z_ce, Bool.and_eq_true, decide_eq_true_eq] at hce
    obtain ⟨rfl, h1⟩ := hce
    split at h1
    · simp only [Bool.and_eq_true, decide_eq_true_eq] at h1
      obtain ⟨h2, h3⟩ := h1
      rename_i j len
      cases hq : z_st[j]? with
      | none => rw [hq] at h2; cases h2
      | some q =>
        rw [hq] at h2
        obtain ⟨q1, q2, q3⟩ := q
        cases h2
        exact zs_ldcwS cx hd hq h3 h
    · simp only [Bool.and_eq_true, decide_eq_true_eq] at h1
      exact zs_ldcw cx hd h1.1 (z_has_tb h1.2 rfl) h
    · cases h1
  | iload k =>
    simp only [z_ce, decide_eq_true_eq] at hce
    subst hce
    simp only [z_step] at h
    split at h
    · rename_i hk
      exact zs_iload cx hd hk h
    · exact h.elim
  | lload k =>
    simp only [z_ce, decide_eq_true_eq] at hce
    subst hce
    simp only [z_step] at h
    split at h
    · rename_i hk
      exact zs_lload cx hd hk h
    · exact h.elim
  | aload k =>
    simp only [z_ce, decide_eq_true_eq] at hce
    subst hce
    simp only [z_step] at h
    split at h
    · rename_i hk
      exact zs_aload cx hd hk h
    · exact h.elim
  | iload_n k =>
    simp only [z_ce, decide_eq_true_eq] at hce
    subst hce
    simp only [z_step] at h
    split at h
    · rename_i hk
      exact zs_iload_n cx hd hk h
    · exact h.elim
  | lload_n k =>
    simp only [z_ce, decide_eq_true_eq] at hce
    subst hce
    simp only [z_step] at h
    split at h
    · rename_i hk
      exact zs_lload_n cx hd hk h
    · exact h.elim
  | aload_n k =>
    simp only [z_ce, decide_eq_true_eq] at hce
    subst hce
    simp only [z_step] at h
    split at h
    · rename_i hk
      exact zs_aload_n cx hd hk h
    · exact h.elim
  | istore k =>
    simp only [z_ce, Bool.and_eq_true, decide_eq_true_eq] at hce
    obtain ⟨rfl, h1⟩ := hce
    simp only [z_step] at h
    split at h
    · exact zs_istore cx hd h1 h
    · exact h.elim
  | istore_n k =>
    simp only [z_ce, Bool.and_eq_true, decide_eq_true_eq] at hce
    obtain ⟨rfl, h1⟩ := hce
    simp only [z_step] at h
    split at h
    · exact zs_istore_n cx hd h1 h
    · exact h.elim
  | lstore k =>
    simp only [z_ce, Bool.and_eq_true, decide_eq_true_eq] at hce
    obtain ⟨rfl, h1⟩ := hce
    simp only [z_step] at h
    split at h
    · exact zs_lstore cx hd h1 h
    · exact h.elim
  | lstore_n k =>
    simp only [z_ce, Bool.and_eq_true, decide_eq_true_eq] at hce
    obtain ⟨rfl, h1⟩ := hce
    simp only [z_step] at h
    split at h
    · exact zs_lstore_n cx hd h1 h
    · exact h.elim
  | iinc k d =>
    simp only [z_ce, Bool.and_eq_true, decide_eq_true_eq] at hce
    obtain ⟨rfl, h1, h2⟩ := hce
    simp only [z_step] at h
    split at h
    · rename_i hk
      exact zs_iinc cx hd h1 h2 hk h
    · exact h.elim
  | iadd => simp only [z_ce, decide_eq_true_eq] at hce; subst hce; simp only [z_step] at h; split at h; exact zs_iadd cx hd h; exact h.elim
  | isub => simp only [z_ce, decide_eq_true_eq] at hce; subst hce; simp only [z_step] at h; split at h; exact zs_isub cx hd h; exact h.elim
  | imul => simp only [z_ce, decide_eq_true_eq] at hce; subst hce; simp only [z_step] at h; split at h; exact zs_imul cx hd h; exact h.elim
  | idiv => simp only [z_ce, decide_eq_true_eq] at hce; subst hce; simp only [z_step] at h; split at h; exact zs_idiv cx h.1 hd h.2; exact h.elim
  | irem => simp only [z_ce, decide_eq_true_eq] at hce; subst hce; simp only [z_step] at h; split at h; exact zs_irem cx h.1 hd h.2; exact h.elim
  | ineg => simp only [z_ce, decide_eq_true_eq] at hce; subst hce; simp only [z_step] at h; split at h; exact zs_ineg cx hd h; exact h.elim
  | iand => simp only [z_ce, decide_eq_true_eq] at hce; subst hce; simp only [z_step] at h; split at h; exact zs_iand cx hd h; exact h.elim
  | ior => simp only [z_ce, decide_eq_true_eq] at hce; subst hce; simp only [z_step] at h; split at h; exact zs_ior cx hd h; exact h.elim
  | ixor => simp only [z_ce, decide_eq_true_eq] at hce; subst hce; simp only [z_step] at h; split at h; exact zs_ixor cx hd h; exact h.elim
  | ishl => simp only [z_ce, decide_eq_true_eq] at hce; subst hce; simp only [z_step] at h; split at h; exact zs_ishl cx hd h; exact h.elim
  | ishr => simp only [z_ce, decide_eq_true_eq] at hce; subst hce; simp only [z_step] at h; split at h; exact zs_ishr cx hd h; exact h.elim
  | iushr => simp only [z_ce, decide_eq_true_eq] at hce; subst hce; simp only [z_step] at h; split at h; exact zs_iushr cx hd h; exact h.elim
  | i2l => simp only [z_ce, decide_eq_true_eq] at hce; subst hce; simp only [z_step] at h; split at h; exact zs_i2l cx hd h; exact h.elim
  | i2b => simp only [z_ce, decide_eq_true_eq] at hce; subst hce; simp only [z_step] at h; split at h; exact zs_i2b cx hd h; exact h.elim
  | i2s => simp only [z_ce, decide_eq_true_eq] at hce; subst hce; simp only [z_step] at h; split at h; exact zs_i2s cx hd h; exact h.elim
  | ladd => simp only [z_ce, decide_eq_true_eq] at hce; subst hce; simp only [z_step] at h; split at h; exact zs_ladd cx hd h; exact h.elim
  | lmul => simp only [z_ce, decide_eq_true_eq] at hce; subst hce; simp only [z_step] at h; split at h; exact zs_lmul cx hd h; exact h.elim
  | ldiv => simp only [z_ce, decide_eq_true_eq] at hce; subst hce; simp only [z_step] at h; split at h; exact zs_ldiv cx h.1 hd h.2; exact h.elim
  | lrem => simp only [z_ce, decide_eq_true_eq] at hce; subst hce; simp only [z_step] at h; split at h; exact zs_lrem cx h.1 hd h.2; exact h.elim
  | lcmp => simp only [z_ce, decide_eq_true_eq] at hce; subst hce; simp only [z_step] at h; split at h; exact zs_lcmp cx hd h; exact h.elim
  | ifCond cd off =>
    simp only [z_ce, Bool.and_eq_true, decide_eq_true_eq] at hce
    obtain ⟨rfl, h1⟩ := hce
    obtain ⟨t, rfl, ht⟩ := z_tg_ok h1
    simp only [z_step] at h
    split at h
    · rename_i hx
      cases hx
      cases cd
      · exact zs_if_eq cx hd ht h
      · exact zs_if_ne cx hd ht h
      · exact zs_if_lt cx hd ht h
      · exact zs_if_ge cx hd ht h
      · exact zs_if_gt cx hd ht h
      · exact zs_if_le cx hd ht h
    · exact h.elim
  | if_icmp cd off =>
    simp only [z_ce, Bool.and_eq_true, decide_eq_true_eq] at hce
    obtain ⟨rfl, h1⟩ := hce
    obtain ⟨t, rfl, ht⟩ := z_tg_ok h1
    simp only [z_step] at h
    split at h
    · rename_i hx
      cases hx
      cases cd
      · exact zs_icmp_eq cx hd ht h
      · exact zs_icmp_ne cx hd ht h
      · exact zs_icmp_lt cx hd ht h
      · exact zs_icmp_ge cx hd ht h
      · exact zs_icmp_gt cx hd ht h
      · exact zs_icmp_le cx hd ht h
    · exact h.elim
  | goto off =>
    simp only [z_ce, Bool.and_eq_true, decide_eq_true_eq] at hce
    obtain ⟨rfl, h1⟩ := hce
    obtain ⟨t, rfl, ht⟩ := z_tg_ok h1
    exact zs_goto cx hd ht h
  | tableswitch d lo hi offs =>
    cases x with
    | nil => simp [z_ce] at hce
    | cons dt ts =>
      simp only [z_ce, Bool.and_eq_true, decide_eq_true_eq] at hce
      obtain ⟨h1, h2, h3, rfl⟩ := hce
      simp only [z_step] at h
      split at h
      · rename_i hx
        cases hx
        exact zs_table cx hd h1 h2 h3 h
      · exact h.elim
  | lookupswitch d ps =>
    cases x with
    | nil => simp [z_ce] at hce
    | cons dt ts =>
      simp only [z_ce, Bool.and_eq_true, decide_eq_true_eq] at hce
      obtain ⟨h1, h2, h3⟩ := hce
      simp only [z_step] at h
      split at h
      · rename_i hx
        cases hx
        exact zs_lookup cx hd h1 h2 h3 h
      · exact h.elim
  | getfield idx =>
    simp only [z_ce, Bool.and_eq_true, decide_eq_true_eq] at hce
    obtain ⟨rfl, h1⟩ := hce
    split at h1
    · simp only [Bool.and_eq_true] at h1
      obtain ⟨q, hcl, hci, hj, hw⟩ := z_fd_ok h1.1
      obtain ⟨f, hf, hq⟩ := z_nr_ok h1.2
      simp only [z_step] at h
      split at h
      · rename_i hx
        cases hx
        cases hb : Nat.beq _ _ with
        | true =>
          rw [hb] at h
          exact zs_getI cx hd (Nat.eq_of_beq_eq_true hb) hci hcl hj (z_cl_in hci hcl) hw hf hq h
        | false => rw [hb] at h; exact h.elim
      · rename_i hx; cases hx
      · exact h.elim
    · simp only [Bool.and_eq_true, decide_eq_true_eq] at h1
      obtain ⟨g1, g2, g3, g4⟩ := h1
      obtain ⟨q, hcl, hci, hj, hw⟩ := z_fd_ok g1
      simp only [z_step] at h
      split at h
      · rename_i hx; cases hx
      · rename_i hx
        cases hx
        cases hb : Nat.beq _ _ with
        | true =>
          rw [hb] at h
          have hk9 := Nat.eq_of_beq_eq_true hb
          exact zs_getR cx hd hk9 hci hcl hj (z_cl_in hci hcl) hw g2 g4 (fun hk => z_fk_ok hk hk9 g3 (z_fk_999 hci g2 g3)) h
        | false => rw [hb] at h; exact h.elim
      · exact h.elim
    · cases h1
  | putfield idx =>
    simp only [z_ce, Bool.and_eq_true, decide_eq_true_eq] at hce
    obtain ⟨rfl, h1⟩ := hce
    split at h1
    · simp only [Bool.and_eq_true] at h1
      obtain ⟨g1, g2, g3⟩ := h1
      obtain ⟨q, hcl, hci, hj, hw⟩ := z_fd_ok g1
      obtain ⟨f, hf, hq⟩ := z_nr_ok g2
      unfold z_pf at g3
      rw [hcl] at g3
      simp only [Bool.and_eq_true, decide_eq_true_eq, Bool.not_eq_true'] at g3
      simp only [z_step] at h
      split at h
      · rename_i hx
        cases hx
        cases hb : Nat.beq _ _ with
        | true =>
          rw [hb] at h
          exact zs_put cx hd (Nat.eq_of_beq_eq_true hb) hci hcl hj (z_cl_in hci hcl) _ (z_cl_ty hci hcl) (z_cl_nm hci hcl) hw hf hq g3.1 (ty := .int) (by rw [g3.2]; rfl) rfl rfl h
        | false => rw [hb] at h; exact h.elim
      · rename_i hx; cases hx
      · exact h.elim
    · simp only [Bool.and_eq_true] at h1
      obtain ⟨g1, g2, g3⟩ := h1
      obtain ⟨q, hcl, hci, hj, hw⟩ := z_fd_ok g1
      obtain ⟨f, hf, hq⟩ := z_nr_ok g2
      unfold z_pf at g3
      rw [hcl] at g3
      simp only [Bool.and_eq_true, decide_eq_true_eq, Bool.not_eq_true'] at g3
      simp only [z_step] at h
      split at h
      · rename_i hx; cases hx
      · rename_i hx
        cases hx
        cases hb : Nat.beq _ _ with
        | true =>
          rw [hb] at h
          obtain ⟨h0, h⟩ := h
          exact zs_put cx hd (Nat.eq_of_beq_eq_true hb) hci hcl hj (z_cl_in hci hcl) _ (z_cl_ty hci hcl) (z_cl_nm hci hcl) hw hf hq g3.1 (ty := .boolean) (by rw [g3.2]; rfl) (by rcases h0 with rfl | rfl <;> rfl) (by rcases h0 with rfl | rfl <;> rfl) h
        | false => rw [hb] at h; exact h.elim
      · exact h.elim
    · cases h1
  | iaload =>
    simp only [z_ce, decide_eq_true_eq] at hce
    subst hce
    simp only [z_step] at h
    split at h
    · rename_i j k a st
      cases hb : Nat.beq k.1 100 with
      | true => rw [hb] at h; exact zs_iaload cx hd (Nat.eq_of_beq_eq_true hb) h.1 h.2
      | false => rw [hb] at h; (cases hb2 : Nat.beq k.1 105 with
        | true =>
          intro a1 a2 a3
          have hg := (z_gs_c.mp (z_gs_c.mp a3).2).1
          have hk5 : k.1 = 105 := Nat.eq_of_beq_eq_true hb2
          have hkt := z_good_ref hg (by omega)
          exact absurd hk5 (z_kt_ok a (z_kt_lt hkt) k hkt).2.2.1
        | false => rw [hb2] at h; exact h.elim)
    · exact h.elim
  | laload =>
    simp only [z_ce, decide_eq_true_eq] at hce
    subst hce
    simp only [z_step] at h
    split at h
    · rename_i j k a st
      cases hb : Nat.beq k.1 101 with
      | true => rw [hb] at h; exact zs_laload cx hd (Nat.eq_of_beq_eq_true hb) h.1 h.2
      | false => rw [hb] at h; exact h.elim
    · exact h.elim
  | baload =>
    simp only [z_ce, decide_eq_true_eq] at hce
    subst hce
    simp only [z_step] at h
    split at h
    · rename_i j k a st
      cases hb : Nat.beq k.1 102 with
      | true => rw [hb] at h; exact zs_baload cx hd (Nat.eq_of_beq_eq_true hb) h.1 h.2
      | false => rw [hb] at h; exact h.elim
    · exact h.elim
  | aaload =>
    simp only [z_ce, decide_eq_true_eq] at hce
    subst hce
    simp only [z_step] at h
    split at h
    · rename_i j k a st
      cases hb : Nat.beq k.1 103 with
      | true => rw [hb] at h; exact zs_aaload cx hd (Nat.eq_of_beq_eq_true hb) h.1 h.2
      | false => rw [hb] at h; exact h.elim
    · exact h.elim
  | iastore =>
    simp only [z_ce, decide_eq_true_eq] at hce
    subst hce
    simp only [z_step] at h
    split at h
    · rename_i w j k a st
      cases hb : Nat.beq k.1 100 with
      | true => rw [hb] at h; exact zs_iastore cx hd (Nat.eq_of_beq_eq_true hb) h.1 h.2
      | false => rw [hb] at h; exact h.elim
    · exact h.elim
  | lastore =>
    simp only [z_ce, decide_eq_true_eq] at hce
    subst hce
    simp only [z_step] at h
    split at h
    · rename_i w j k a st
      cases hb : Nat.beq k.1 101 with
      | true => rw [hb] at h; exact zs_lastore cx hd (Nat.eq_of_beq_eq_true hb) h.1 h.2
      | false => rw [hb] at h; exact h.elim
    · exact h.elim
  | bastore =>
    simp only [z_ce, decide_eq_true_eq] at hce
    subst hce
    simp only [z_step] at h
    split at h
    · rename_i w j k a st
      cases hb : Nat.beq k.1 102 with
      | true => rw [hb] at h; exact zs_bastore cx hd (Nat.eq_of_beq_eq_true hb) h.1 h.2.1 h.2.2
      | false => rw [hb] at h; exact h.elim
    · exact h.elim
  | arraylength =>
    simp only [z_ce, decide_eq_true_eq] at hce
    subst hce
    simp only [z_step] at h
    split at h
    · rename_i k a st
      cases hb : Nat.beq k.1 100 with
      | true => rw [hb] at h; exact zs_alen cx hd (Nat.eq_of_beq_eq_true hb) h
      | false =>
        rw [hb] at h
        cases hb2 : Nat.beq k.1 105 with
        | true =>
          intro a1 a2 a3
          have hg := (z_gs_c.mp a3).1
          have hk5 : k.1 = 105 := Nat.eq_of_beq_eq_true hb2
          have hkt := z_good_ref hg (by omega)
          exact absurd hk5 (z_kt_ok a (z_kt_lt hkt) k hkt).2.2.1
        | false => rw [hb2] at h; exact h.elim
    · exact h.elim
  | dup =>
    simp only [z_ce, decide_eq_true_eq] at hce
    subst hce
    simp only [z_step] at h
    split at h
    · exact zs_dup cx rfl hd h
    · exact zs_dup cx rfl hd h
    · exact h.elim
  | dup2 =>
    simp only [z_ce, decide_eq_true_eq] at hce
    subst hce
    simp only [z_step] at h
    split at h
    · exact zs_dup2 cx rfl rfl hd h
    · exact h.elim
  | pop =>
    simp only [z_ce, decide_eq_true_eq] at hce
    subst hce
    simp only [z_step] at h
    split at h
    · exact zs_pop cx rfl hd h
    · exact h.elim
  | invokestatic idx =>
    obtain ⟨w0, w1, w2, w3, w5, w6, w7, w8⟩ := z_gw_ok
    simp only [z_ce, Bool.and_eq_true, decide_eq_true_eq] at hce
    obtain ⟨rfl, h1⟩ := hce
    split at h1
    · simp only [z_step] at h
      split at h
      · cases hb : Nat.ble _ _ with
        | true => rw [hb] at h; exact zs_min cx hd (Nat.le_of_ble_eq_true hb) (z_has_tb h1 rfl) (z_has_tb w0 rfl) (z_has_tb w1 rfl) (z_has_tb w2 rfl) h
        | false => rw [hb] at h; exact h.elim
      · exact h.elim
    · simp only [z_step] at h
      split at h
      · cases hb : Nat.ble _ _ with
        | true => rw [hb] at h; exact zs_max cx hd (Nat.le_of_ble_eq_true hb) (z_has_tb h1 rfl) (z_has_tb w3 rfl) (z_has_tb w1 rfl) (z_has_tb w5 rfl) h
        | false => rw [hb] at h; exact h.elim
      · exact h.elim
    · simp only [z_step] at h
      split at h
      · cases hb : (Nat.beq _ 100 && (Nat.beq _ 100 && Nat.ble _ _)) with
        | true =>
          rw [hb] at h
          simp only [Bool.and_eq_true] at hb
          exact zs_copy cx hd (Nat.le_of_ble_eq_true hb.2.2) (Nat.eq_of_beq_eq_true hb.1) (Nat.eq_of_beq_eq_true hb.2.1) h.1 (z_has_tb h1 rfl) (z_has_tb w6 rfl) (z_has_tb w7 rfl) (z_has_tb w8 rfl) h.2
        | false => rw [hb] at h; exact h.elim
      · exact h.elim
    · rename_i y na
      obtain ⟨Y, hmt, hml9, hds, hf⟩ := z_cm_ok h1
      simp only [Bool.and_eq_true] at hf
      obtain ⟨f1, f2, f3, f4⟩ := hf
      obtain ⟨n1, n2, -⟩ := z_mt_cls hmt
      simp only [z_step] at h
      cases hz : z_take na zs with
      | none => rw [hz] at h; exact h.elim
      | some q =>
        obtain ⟨a, st⟩ := q
        rw [hz] at h
        simp only at h
        obtain ⟨e1, e2⟩ := z_take_ok na zs a st hz
        subst e1
        rw [z_rev_eq, List.append_nil] at h
        cases hb : Nat.ble (z_cats st) 8 with
        | true => rw [hb] at h; exact zs_callS cx cy hC hmt hml9 hd e2 (Nat.le_of_ble_eq_true hb) (z_has_tb f1 rfl) (z_has_tb f2 rfl) (z_has_tb f3 rfl) (z_has_tb f4 rfl) ⟨n1, n2, hds⟩ h
        | false => rw [hb] at h; exact h.elim
    · rename_i y na
      obtain ⟨Y, hmt, hml9, hds, hf⟩ := z_cm_ok h1
      simp only [Bool.and_eq_true] at hf
      obtain ⟨f1, f2, f3, f4⟩ := hf
      obtain ⟨n1, n2, -⟩ := z_mt_cls hmt
      simp only [z_step] at h
      cases hz : z_take na zs with
      | none => rw [hz] at h; exact h.elim
      | some q =>
        obtain ⟨a, st⟩ := q
        rw [hz] at h
        simp only at h
        obtain ⟨e1, e2⟩ := z_take_ok na zs a st hz
        subst e1
        rw [z_rev_eq, List.append_nil] at h
        cases hb : Nat.ble (z_cats st) 8 with
        | true => rw [hb] at h; exact zs_callSN cx cy hC hmt hml9 hd e2 (Nat.le_of_ble_eq_true hb) (z_has_tbl f1) (z_has_tb f2 rfl) (z_has_tb f3 rfl) (z_has_tb f4 rfl) ⟨n1, n2, hds⟩ h
        | false => rw [hb] at h; exact h.elim
    · cases h1
  | invokevirtual idx =>
    simp only [z_ce, Bool.and_eq_true, decide_eq_true_eq] at hce
    obtain ⟨rfl, h1⟩ := hce
    split at h1
    · rename_i y na
      simp only [Bool.and_eq_true, decide_eq_true_eq] at h1
      obtain ⟨h9, h1⟩ := h1
      obtain ⟨Y, hmt, hml9, hds, hf⟩ := z_cm_ok h1
      simp only [Bool.and_eq_true] at hf
      obtain ⟨f0, f1, f2, f5, f3, f4⟩ := hf
      simp only [z_rc, Bool.or_eq_true, Bool.and_eq_true, decide_eq_true_eq] at f0
      obtain ⟨n1, n2, -⟩ := z_mt_cls hmt
      simp only [z_step] at h
      cases hz : z_take (na + 1) zs with
      | none => rw [hz] at h; exact h.elim
      | some q =>
        obtain ⟨a, st⟩ := q
        rw [hz] at h
        simp only at h
        obtain ⟨e1, e2⟩ := z_take_ok (na + 1) zs a st hz
        subst e1
        rw [z_rev_eq, List.append_nil] at h
        cases hb : Nat.ble (z_cats st) 8 with
        | true => rw [hb] at h; exact zs_callV cx cy hC hmt hml9 rfl h9 f0 hd e2 (Nat.le_of_ble_eq_true hb) (z_has_tb f1 rfl) (z_has_tb f2 rfl) (z_has_tb f5 rfl) (z_has_tb f3 rfl) (z_has_tb f4 rfl) ⟨n1, n2, hds⟩ h
        | false => rw [hb] at h; exact h.elim
    · cases h1
  | ireturn =>
    simp only [z_ce, Bool.and_eq_true, decide_eq_true_eq] at hce
    obtain ⟨rfl, h1⟩ := hce
    simp only [z_step] at h
    split at h
    · cases hb : Nat.beq v.toNat 1 with
      | true =>
        rw [hb] at h h1
        exact zs_zret cx (by rw [hr]; exact of_decide_eq_true h1) hlocks hd h.1 h.2
      | false =>
        rw [hb] at h h1
        exact zs_iret cx (by rw [hr]; exact of_decide_eq_true h1) hlocks hd h
    · exact h.elim
  | lreturn =>
    simp only [z_ce, Bool.and_eq_true, decide_eq_true_eq] at hce
    obtain ⟨rfl, h1⟩ := hce
    simp only [z_step] at h
    split at h
    · exact zs_lret cx (by rw [hr]; exact h1) hlocks hd h
    · exact h.elim
  | return_ =>
    simp only [z_ce, Bool.and_eq_true, decide_eq_true_eq] at hce
    obtain ⟨rfl, h1⟩ := hce
    simp only [z_step] at h
    split at h
    · exact zs_vret cx (by rw [hr]; exact h1) hlocks hd h
    · exact h.elim
  | _ => exact h.elim
end
end
section
/-! RUNS OF THE ABSTRACT MACHINE: what a call comes to, and that the machine follows -/
theorem z_cond_mono {b : Bool} {P P' : Prop} (f : P → P') (h : cond b P False) : cond b P' False := by
  cases b
  · exact h
  · exact f h
theorem z_ts_mono {a lo : Int} {K K' : Nat → Prop} (hK : ∀ t, K t → K' t) {dflt : Nat} : ∀ (ts : List Nat) (k : Int), z_ts a K dflt lo ts k → z_ts a K' dflt lo ts k
  | [], _, h => fun q => hK _ (h q)
  | _ :: ts, k, h => ⟨fun q => hK _ (h.1 q), z_ts_mono hK ts (k + 1) h.2⟩
theorem z_ls_mono {a : Int} {K K' : Nat → Prop} (hK : ∀ t, K t → K' t) {dflt : Nat} : ∀ (ts : List Nat), z_ls a K dflt ts → z_ls a K' dflt ts
  | [], h => hK _ h
  | [_], h => hK _ h
  | _ :: _ :: ts, h => ⟨fun q => hK _ (h.1 q), fun q => z_ls_mono hK ts (h.2 q)⟩
def z_CM (C : Nat → List zU → zM → (Option zU → zM → Prop) → Prop) : Prop := ∀ y as M R R', (∀ r M, R r M → R' r M) → C y as M R → C y as M R'
set_option maxHeartbeats 4000000 in
theorem z_step_mono {K K' : Nat → List zV → List zU → zM → Prop} {Q Q' : Option zU → zM → Prop} {C : Nat → List zU → zM → (Option zU → zM → Prop) → Prop} (hK : ∀ pc ls st M, K pc ls st M → K' pc ls st M) (hQ : ∀ r M, Q r M → Q' r M) (hC : z_CM C) {pc : Nat} {i : Instr} {n : Nat} {x : List Nat} {v : Int} {ls : List zV} {st : List zU} {M : zM} (h : z_step K Q C pc i n x v ls st M) : z_step K' Q' C pc i n x v ls st M := by
  cases i
  case ldc k =>
    rcases x with _ | ⟨x1, _ | ⟨x2, _ | ⟨x3, x⟩⟩⟩ <;> exact hK _ _ _ _ h
  case ldc_w k =>
    rcases x with _ | ⟨x1, _ | ⟨x2, _ | ⟨x3, x⟩⟩⟩ <;> exact hK _ _ _ _ h
  case tableswitch a b c d =>
    simp only [z_step] at h ⊢
    split at h
    · exact z_ts_mono (fun t q => hK _ _ _ _ q) _ _ h
    · exact h.elim
  case lookupswitch a b =>
    simp only [z_step] at h ⊢
    split at h
    · exact z_ls_mono (fun t q => hK _ _ _ _ q) _ h
    · exact h.elim
  case iaload =>
    simp only [z_step] at h ⊢
    split at h
    · rename_i j k a st
      show cond (Nat.beq k.1 100) _ (cond (Nat.beq k.1 105) _ False)
      cases hb : Nat.beq k.1 100 with
      | true => rw [hb] at h; exact ⟨h.1, hK _ _ _ _ h.2⟩
      | false => rw [hb] at h; exact z_cond_mono (fun q => ⟨q.1, hK _ _ _ _ q.2⟩) h
    · exact h.elim
  case putfield idx =>
    simp only [z_step] at h ⊢
    split at h
    · exact z_cond_mono (fun q => hK _ _ _ _ q) h
    · exact z_cond_mono (fun q => ⟨q.1, hK _ _ _ _ q.2⟩) h
    · exact h.elim
  case ireturn =>
    simp only [z_step] at h ⊢
    split at h
    · cases hb : Nat.beq v.toNat 1 with
      | true => rw [hb] at h; exact ⟨h.1, hQ _ _ h.2⟩
      | false => rw [hb] at h; exact hQ _ _ h
    · exact h.elim
  case invokestatic idx =>
    simp only [z_step] at h ⊢
    split at h
    · split at h
      · exact z_cond_mono (fun q => hK _ _ _ _ q) h
      · exact h.elim
    · split at h
      · exact z_cond_mono (fun q => hK _ _ _ _ q) h
      · exact h.elim
    · split at h
      · exact z_cond_mono (fun q => ⟨q.1, hK _ _ _ _ q.2⟩) h
      · exact h.elim
    · rename_i y na
      cases hz : z_take na st with
      | none => rw [hz] at h; exact h.elim
      | some q =>
        rw [hz] at h
        exact z_cond_mono (fun q => hC _ _ _ _ _ (fun r M q => hK _ _ _ _ q) q) h
    · exact h.elim
  case invokevirtual idx =>
    simp only [z_step] at h ⊢
    split at h
    · rename_i y na
      cases hz : z_take (na + 1) st with
      | none => rw [hz] at h; exact h.elim
      | some q =>
        rw [hz] at h
        exact z_cond_mono (fun q => hC _ _ _ _ _ (fun r M q => hK _ _ _ _ q) q) h
    · exact h.elim
  all_goals first
    | exact h.elim
    | exact hK _ _ _ _ h
    | (simp only [z_step] at h ⊢
       split at h <;> first
        | exact h.elim
        | exact hK _ _ _ _ h
        | exact ⟨h.1, hK _ _ _ _ h.2⟩
        | exact ⟨fun q => hK _ _ _ _ (h.1 q), fun q => hK _ _ _ _ (h.2 q)⟩
        | exact z_cond_mono (fun q => hK _ _ _ _ q) h
        | exact z_cond_mono (fun q => ⟨q.1, hK _ _ _ _ q.2⟩) h
        | exact z_cond_mono (fun q => ⟨q.1, q.2.1, hK _ _ _ _ q.2.2⟩) h
        | exact hQ _ _ h)
/-- closed under the code's steps -/
def z_D (L : List zE) (Q : Option zU → zM → Prop) (C : Nat → List zU → zM → (Option zU → zM → Prop) → Prop) (X : Nat → List zV → List zU → zM → Prop) : Prop :=
  ∀ (pc : Nat) (ls : List zV) (st : List zU) (M : zM) (i : Instr) (n : Nat) (x : List Nat) (v : Int), z_fetch L pc = some (i, n, x, v) → z_step X Q C pc i n x v ls st M → X pc ls st M
theorem z_D_go {L : List zE} {Q : Option zU → zM → Prop} {C : Nat → List zU → zM → (Option zU → zM → Prop) → Prop} {X : Nat → List zV → List zU → zM → Prop} (hX : z_D L Q C X) (hC : z_CM C) (cuts : List Nat) : ∀ (k pc : Nat) (ls : List zV) (st : List zU) (M : zM), z_go L cuts X Q C k pc ls st M → X pc ls st M
  | 0, _, _, _, _, h => h.elim
  | k + 1, pc, ls, st, M, h => by
    unfold z_go at h
    cases hc : cuts.any (fun c => Nat.beq c pc) with
    | true => rw [hc] at h; exact h
    | false =>
      rw [hc] at h
      cases hf : z_fetch L pc with
      | none => rw [hf] at h; exact h.elim
      | some q =>
        obtain ⟨i, n, x, v⟩ := q
        rw [hf] at h
        exact hX pc ls st M i n x v hf (z_step_mono (fun pc ls st M q => z_D_go hX hC cuts k pc ls st M q) (fun _ _ q => q) hC h)
theorem z_D_wp {L : List zE} {Q : Option zU → zM → Prop} {C : Nat → List zU → zM → (Option zU → zM → Prop) → Prop} {X : Nat → List zV → List zU → zM → Prop} (hX : z_D L Q C X) (hC : z_CM C) (cuts : List Nat) (k : Nat) {pc : Nat} {ls : List zV} {st : List zU} {M : zM} (h : z_wp L cuts X Q C k pc ls st M) : X pc ls st M := by
  unfold z_wp at h
  cases hf : z_fetch L pc with
  | none => rw [hf] at h; exact h.elim
  | some q =>
    obtain ⟨i, n, x, v⟩ := q
    rw [hf] at h
    exact hX pc ls st M i n x v hf (z_step_mono (fun pc ls st M q => z_D_go hX hC cuts k pc ls st M q) (fun _ _ q => q) hC h)
/-- the locals at a method's entry -/
def z_es : List zU → List zV
  | [] => []
  | .inr (.inl a) :: l => some (z_l a) :: none :: z_es l
  | u :: l => some u :: z_es l
def z_fill : Nat → List zV → List zV
  | 0, _ => []
  | n + 1, [] => none :: z_fill n []
  | n + 1, v :: l => v :: z_fill n l
abbrev z_ent (ml : Nat) (as : List zU) : List zV := z_fill ml (z_es as)
/-- the sign at a place of a literal -/
def z_chr (a : Nat) (j : Int) : Int := ((z_sb.getD a []).getD j.toNat 0).toInt
/-- a call of method y, at most d frames deep -/
def z_C : Nat → Nat → List zU → zM → (Option zU → zM → Prop) → Prop
  | 0, _, _, _, _ => False
  | d + 1, y, as, M, Q => match z_mt[y]? with
    | none => False
    | some Y => z_rck (z_rv.getD y 99) as = true ∧ Nat.ble (z_es as).length Y.2.2.1 = true ∧
      cond (Nat.beq y 257) (6 ≤ d ∧ (match as with
        | [.inr (.inr (k, _))] => Q (some (z_i k.2)) M
        | _ => False))
      (cond (Nat.beq y 258) (6 ≤ d ∧ (match as with
        | [.inr (.inr (k, a)), .inl j] => (0 ≤ j ∧ j < k.2) ∧ Q (some (z_i (z_chr a j))) M
        | _ => False))
      (∀ X, z_D Y.2.2.2.2.1 Q (z_C d) X → X 0 (z_ent Y.2.2.1 as) [] M))
theorem z_C_mono : ∀ d, z_CM (z_C d)
  | 0 => fun _ _ _ _ _ _ h => h.elim
  | d + 1 => by
    intro y as M R R' hR h
    unfold z_C at h ⊢
    cases hy : z_mt[y]? with
    | none => rw [hy] at h; exact h.elim
    | some Y =>
      rw [hy] at h
      obtain ⟨h1, h2, h3⟩ := h
      refine ⟨h1, h2, ?_⟩
      cases h7 : Nat.beq y 257 with
      | true =>
        rw [h7] at h3
        obtain ⟨h4, h5⟩ := h3
        refine ⟨h4, ?_⟩
        split at h5
        · exact hR _ _ h5
        · exact h5.elim
      | false =>
        rw [h7] at h3
        cases h8 : Nat.beq y 258 with
        | true =>
          rw [h8] at h3
          obtain ⟨h4, h5⟩ := h3
          refine ⟨h4, ?_⟩
          split at h5
          · exact ⟨h5.1, hR _ _ h5.2⟩
          · exact h5.elim
        | false =>
          rw [h8] at h3
          intro X hX
          exact h3 X (fun pc ls st M i n x v hf hs => hX pc ls st M i n x v hf (z_step_mono (fun _ _ _ _ q => q) hR (z_C_mono d) hs))
theorem z_enter {d y ml : Nat} {L : List zE} {as : List zU} {M : zM} {Q : Option zU → zM → Prop} (hY : z_mt[y]?.map (fun Y => (Y.2.2.1, Y.2.2.2.2.1)) = some (ml, L)) (hr : z_rck (z_rv.getD y 99) as = true) (hl : Nat.ble (z_es as).length ml = true) (h7 : Nat.beq y 257 = false) (h8 : Nat.beq y 258 = false) (h : ∀ X, z_D L Q (z_C d) X → X 0 (z_ent ml as) [] M) : z_C (d + 1) y as M Q := by
  unfold z_C
  cases hy : z_mt[y]? with
  | none => rw [hy] at hY; cases hY
  | some Y =>
    rw [hy] at hY
    have e := Option.some.inj hY
    have e1 : Y.2.2.1 = ml := congrArg Prod.fst e
    have e2 : Y.2.2.2.2.1 = L := congrArg Prod.snd e
    refine ⟨hr, by rw [e1]; exact hl, ?_⟩
    rw [h7, h8, e1, e2]
    exact h
theorem z_fill_len : ∀ (n : Nat) (l : List zV), (z_fill n l).length = n
  | 0, _ => rfl
  | n + 1, [] => by
    show (z_fill n []).length + 1 = n + 1
    rw [z_fill_len n []]
  | n + 1, v :: l => by
    show (z_fill n l).length + 1 = n + 1
    rw [z_fill_len n l]
theorem z_fill_mem : ∀ (n : Nat) (l : List zV) (u : zU), some u ∈ z_fill n l → some u ∈ l
  | 0, _, _, h => by cases h
  | n + 1, [], u, h => by
    rcases List.mem_cons.mp h with h | h
    · cases h
    · exact z_fill_mem n [] u h
  | n + 1, v :: l, u, h => by
    rcases List.mem_cons.mp h with h | h
    · rw [h]; exact List.mem_cons_self
    · exact List.mem_cons_of_mem _ (z_fill_mem n l u h)
theorem z_es_mem : ∀ (as : List zU) (u : zU), some u ∈ z_es as → u ∈ as
  | [], _, h => by cases h
  | .inr (.inl a) :: l, u, h => by
    rcases List.mem_cons.mp h with h | h
    · cases h; exact List.mem_cons_self
    · rcases List.mem_cons.mp h with h | h
      · cases h
      · exact List.mem_cons_of_mem _ (z_es_mem l u h)
  | .inl a :: l, u, h => by
    rcases List.mem_cons.mp h with h | h
    · cases h; exact List.mem_cons_self
    · exact List.mem_cons_of_mem _ (z_es_mem l u h)
  | .inr (.inr a) :: l, u, h => by
    rcases List.mem_cons.mp h with h | h
    · cases h; exact List.mem_cons_self
    · exact List.mem_cons_of_mem _ (z_es_mem l u h)
theorem z_lv_fill {ad adK : Nat → Nat} : ∀ (n : Nat) (l : List zV) (j : Nat) (q : Nat × Value), q ∈ z_lv ad adK j (z_fill n l) → q ∈ z_lv ad adK j l
  | 0, _, _, _, h => by cases h
  | n + 1, [], j, q, h => by
    have h1 : q ∈ z_lv ad adK (j + 1) (z_fill n []) := h
    have := z_lv_fill n [] (j + 1) q h1
    cases this
  | n + 1, none :: l, j, q, h => by
    have h1 : q ∈ z_lv ad adK (j + 1) (z_fill n l) := h
    exact z_lv_fill n l (j + 1) q h1
  | n + 1, some u :: l, j, q, h => by
    have h1 : q ∈ (j, z_val ad adK u) :: z_lv ad adK (j + 1) (z_fill n l) := h
    rcases List.mem_cons.mp h1 with h2 | h2
    · rw [h2]; exact List.mem_cons_self
    · exact List.mem_cons_of_mem _ (z_lv_fill n l (j + 1) q h2)
theorem z_lv_es {ad adK : Nat → Nat} : ∀ (as : List zU) (j : Nat), z_lv ad adK j (z_es as) = lv_args j (as.map (z_val ad adK))
  | [], _ => rfl
  | .inl a :: l, j => by
    show (j, Value.int (Int32.ofInt a)) :: z_lv ad adK (j + 1) (z_es l) = (j, Value.int (Int32.ofInt a)) :: lv_args (j + 1) (l.map (z_val ad adK))
    rw [z_lv_es l (j + 1)]
  | .inr (.inl a) :: l, j => by
    show (j, Value.long (Int64.ofInt a)) :: z_lv ad adK (j + 2) (z_es l) = (j, Value.long (Int64.ofInt a)) :: lv_args (j + 2) (l.map (z_val ad adK))
    rw [z_lv_es l (j + 2)]
  | .inr (.inr (k, a)) :: l, j => by
    show (j, z_val ad adK (.inr (.inr (k, a)))) :: z_lv ad adK (j + 1) (z_es l) = (j, z_val ad adK (.inr (.inr (k, a)))) :: lv_args (j + 1) (l.map (z_val ad adK))
    rw [z_lv_es l (j + 1)]
theorem z_es_len {ad adK : Nat → Nat} : ∀ (as : List zU), (lg_sl (as.map (z_val ad adK))).length = (z_es as).length
  | [] => rfl
  | .inl a :: l => by
    show ([Slot.val (Value.int (Int32.ofInt a))] ++ lg_sl (l.map (z_val ad adK))).length = (z_es l).length + 1
    rw [List.length_append, z_es_len l, List.length_singleton]; omega
  | .inr (.inl a) :: l => by
    show ([Slot.val (Value.long (Int64.ofInt a)), Slot.second] ++ lg_sl (l.map (z_val ad adK))).length = (z_es l).length + 1 + 1
    rw [List.length_append, z_es_len l]; simp; omega
  | .inr (.inr (k, a)) :: l => by
    show ([Slot.val (z_val ad adK (.inr (.inr (k, a))))] ++ lg_sl (l.map (z_val ad adK))).length = (z_es l).length + 1
    rw [List.length_append, z_es_len l, List.length_singleton]; omega
theorem z_fetch_mem : ∀ (L : List zE) (K : List (List (Nat × Nat))) (f : zE → List (Nat × Nat) → Bool), L.length = K.length → (L.zip K).all (fun q => f q.1 q.2) = true → ∀ (pc : Nat) (q : Instr × Nat × List Nat × Int), z_fetch L pc = some q → ∃ w, f (pc, q) w = true
  | [], _, _, _, _, _, _, h => by cases h
  | e :: L, [], _, hl, _, _, _, _ => by cases hl
  | e :: L, w :: K, f, hl, ha, pc, q, h => by
    rw [List.zip_cons_cons, List.all_cons, Bool.and_eq_true] at ha
    unfold z_fetch at h
    cases hb : Nat.beq e.1 pc with
    | true =>
      rw [hb] at h
      have h1 := Option.some.inj h
      have h2 := Nat.eq_of_beq_eq_true hb
      refine ⟨w, ?_⟩
      rw [← h1, ← h2]
      exact ha.1
    | false =>
      rw [hb] at h
      exact z_fetch_mem L K f (by simpa using hl) ha.2 pc q h
def z_rm (d : Nat) : Room := { frames := d, cells := 0, slots := 0, locals := 60 * d }
end
section
theorem z_cR_ok {a n y : Nat} {Y : zY} (h : z_cR a n = true) (h1 : a ≤ y) (h2 : y < a + n) (hY : z_mt[y]? = some Y) : z_cY Y = true := by
  have h3 : ((z_mt.drop a).take n)[y - a]? = some Y := by
    rw [List.getElem?_take, if_pos (by omega), List.getElem?_drop, show a + (y - a) = y by omega]
    exact hY
  exact List.all_eq_true.mp h Y (List.mem_of_getElem? h3)
theorem z_mt_len : z_mt.length = 259 := by decide +kernel
theorem z_cY_ok {y : Nat} {Y : zY} (hY : z_mt[y]? = some Y) : z_cY Y = true := by
  have hlt : y < 259 := by
    have := (List.getElem?_eq_some_iff.mp hY).1
    rw [z_mt_len] at this
    exact this
  by_cases h0 : y < 10
  · exact z_cR_ok z_c0 (by omega) (by omega) hY
  by_cases h10 : y < 20
  · exact z_cR_ok z_c10 (by omega) (by omega) hY
  by_cases h20 : y < 30
  · exact z_cR_ok z_c20 (by omega) (by omega) hY
  by_cases h30 : y < 40
  · exact z_cR_ok z_c30 (by omega) (by omega) hY
  by_cases h40 : y < 50
  · exact z_cR_ok z_c40 (by omega) (by omega) hY
  by_cases h50 : y < 60
  · exact z_cR_ok z_c50 (by omega) (by omega) hY
  by_cases h60 : y < 70
  · exact z_cR_ok z_c60 (by omega) (by omega) hY
  by_cases h70 : y < 80
  · exact z_cR_ok z_c70 (by omega) (by omega) hY
  by_cases h80 : y < 90
  · exact z_cR_ok z_c80 (by omega) (by omega) hY
  by_cases h90 : y < 100
  · exact z_cR_ok z_c90 (by omega) (by omega) hY
  by_cases h100 : y < 110
  · exact z_cR_ok z_c100 (by omega) (by omega) hY
  by_cases h110 : y < 120
  · exact z_cR_ok z_c110 (by omega) (by omega) hY
  by_cases h120 : y < 130
  · exact z_cR_ok z_c120 (by omega) (by omega) hY
  by_cases h130 : y < 140
  · exact z_cR_ok z_c130 (by omega) (by omega) hY
  by_cases h140 : y < 150
  · exact z_cR_ok z_c140 (by omega) (by omega) hY
  by_cases h150 : y < 160
  · exact z_cR_ok z_c150 (by omega) (by omega) hY
  by_cases h160 : y < 170
  · exact z_cR_ok z_c160 (by omega) (by omega) hY
  by_cases h170 : y < 180
  · exact z_cR_ok z_c170 (by omega) (by omega) hY
  by_cases h180 : y < 190
  · exact z_cR_ok z_c180 (by omega) (by omega) hY
  by_cases h190 : y < 200
  · exact z_cR_ok z_c190 (by omega) (by omega) hY
  by_cases h200 : y < 210
  · exact z_cR_ok z_c200 (by omega) (by omega) hY
  by_cases h210 : y < 220
  · exact z_cR_ok z_c210 (by omega) (by omega) hY
  by_cases h220 : y < 230
  · exact z_cR_ok z_c220 (by omega) (by omega) hY
  by_cases h230 : y < 240
  · exact z_cR_ok z_c230 (by omega) (by omega) hY
  by_cases h240 : y < 250
  · exact z_cR_ok z_c240 (by omega) (by omega) hY
  exact z_cR_ok z_c250 (by omega) (by omega) hY
/-- the two methods of String -/
def z_STR (l : Launch) (D : va_G) (cA : Nat → ClassId) (ad adK adV : Nat → Nat) : Prop :=
  ∀ (d y : Nat) (Y : zY) (as : List zU) (M : zM) (Q : Option zU → zM → Prop), (y = 257 ∨ y = 258) → z_mt[y]? = some Y → z_C d y as M Q → z_gs as → z_mok M → ∀ sz : Nat, Met l Y.1 (Cond.code Y.1 Y.2.1 Y.2.2.1 Y.2.2.2.1 :: z_tb) (z_rm d) (va_Pc (as.map (z_val ad adK)) (z_B D cA ad adK adV M sz)) (z_Qg D cA ad adK Q (va_A (z_w ad cA M) sz)) 0 0 (va_A (z_w ad cA M) sz)
set_option maxHeartbeats 4000000 in
theorem z_met (l : Launch) (D : va_G) (cA : Nat → ClassId) (ad adK adV : Nat → Nat) (hinj : ∀ i j, i < z_kt.length → j < z_kt.length → ad i = ad j → i = j) (hstr : z_STR l D cA ad adK adV) : ∀ d : Nat, z_HC l D cA ad adK adV (z_rm d) (z_C d) := by
  intro d
  induction d with
  | zero => intro y Y as M Q hY hC; exact hC.elim
  | succ d ih =>
    intro y Y as M Q hY hC hg hm
    have hC0 := hC
    unfold z_C at hC
    rw [hY] at hC
    obtain ⟨h1, h2, h3⟩ := hC
    refine ⟨h1, fun sz => ?_⟩
    by_cases hs : y = 257 ∨ y = 258
    · exact hstr (d + 1) y Y as M Q hs hY hC0 hg hm sz
    · rw [z_beqf (fun q => hs (Or.inl q)), z_beqf (fun q => hs (Or.inr q))] at h3
      have h3 : ∀ X, z_D Y.2.2.2.2.1 Q (z_C d) X → X 0 (z_ent Y.2.2.1 as) [] M := h3
      have hcY := z_cY_ok hY
      unfold z_cY at hcY
      rw [Bool.and_eq_true] at hcY
      refine Met.ofW (cc := Y.2.1) (maxL := Y.2.2.1) (ret := Y.2.2.2.1) (z_mt_cls hY).2.2 rfl ?_
      intro p e s m args below meth c s₁ B hml hv
      obtain ⟨rfl, hsz, hP, hK, hVS, hR, hN⟩ := hv
      have hx := B.exec
      have hb := B.bytes
      have hr := B.returns
      have hts0 := atoms_spec (ws := Cond.code Y.1 Y.2.1 Y.2.2.1 Y.2.2.2.1 :: z_tb) B.pre
      have hts : ∀ w ∈ z_tb, w.before (as.map (z_val ad adK)).toArray s = true := fun w hw => hts0 w (List.mem_cons_of_mem _ hw)
      have hown : s.vm.findClass Y.1.cls = some m.cls := findClass_of_methodNamed B.named
      have hlocks := B.notSynchronized
      subst hsz
      have hinA : ∀ i, i < z_kt.length → va_A (z_w ad cA M) s.heap.size (ad i) := by
        intro i hi
        have hk : z_kt[i]? = some z_kt[i] := List.getElem?_eq_getElem hi
        exact va_A.in (z_w_at (ad := ad) (cA := cA) (M := M) hk)
      have cx : z_cx p (z_rm (d + 1)) s m (as.map (z_val ad adK)).toArray c Y.2.1 Y.2.2.1 Y.1.cls D cA ad adK (va_A (z_w ad cA M) s.heap.size) :=
        ⟨hx, hb, hml, hown, hts, hK, hinj, hinA, hR, by show 1 ≤ d + 1; omega, by show 60 ≤ 60 * (d + 1); omega⟩
      have cy : z_cy (z_rm (d + 1)) s adK adV (va_A (z_w ad cA M) s.heap.size) (z_rm d) :=
        ⟨hVS, fun q hq => Or.inr hq, rfl, rfl, Nat.le_refl _, by show 60 * d + 60 ≤ 60 * (d + 1); omega, hN⟩
      have closed : z_D Y.2.2.2.2.1 Q (z_C d) (z_X p l e (z_rm (d + 1)) s m (as.map (z_val ad adK)).toArray below meth c Y.2.2.1 D cA ad adK (va_A (z_w ad cA M) s.heap.size) (MQ below (z_Qg D cA ad adK Q (va_A (z_w ad cA M) s.heap.size)) (as.map (z_val ad adK)).toArray s 0 0 (va_A (z_w ad cA M) s.heap.size))) := by
        intro pc ls st M1 i n x v hf hstp
        obtain ⟨w, hw⟩ := z_fetch_mem Y.2.2.2.2.1 Y.2.2.2.2.2 (fun e w => decide (decode Y.2.1 e.1 = .ok (e.2.1, e.2.2.1)) && z_ce Y.1.cls Y.2.2.1 Y.2.2.2.1 e.1 e.2.1 e.2.2.1 e.2.2.2.1 e.2.2.2.2 w) (of_decide_eq_true hcY.1) hcY.2 pc (i, n, x, v) hf
        simp only [Bool.and_eq_true, decide_eq_true_eq] at hw
        exact z_sim1 cx cy ih hr hlocks hw.1 hw.2 hstp
      have hgo := h3 _ closed
      rw [lg_entry_eq]
      refine hgo (z_fill_len _ _) (fun u hu => hg u (z_es_mem as u (z_fill_mem _ _ u hu))) (fun u hu => by cases hu) hm s.heap [] _ hP va_S.rf ?_
      refine z_lv_weak (lv_entry (as.map (z_val ad adK)) (by rw [z_es_len]; exact Nat.le_of_ble_eq_true h2)) (fun q hq => ?_)
      rw [← z_lv_es]
      exact z_lv_fill _ _ 0 q hq
end
section
/-! CALLS BY THE KIND OF THEIR ANSWER -/
def zCi (d y : Nat) (as : List zU) (M : zM) (F : Int → zM → Prop) : Prop := z_C d y as M (fun r M' => ∃ v, r = some (z_i v) ∧ F v M')
def zCl (d y : Nat) (as : List zU) (M : zM) (F : Int → zM → Prop) : Prop := z_C d y as M (fun r M' => ∃ v, r = some (z_l v) ∧ F v M')
def zCv (d y : Nat) (as : List zU) (M : zM) (F : zM → Prop) : Prop := z_C d y as M (fun r M' => r = none ∧ F M')
theorem z_Ci {d y : Nat} {as : List zU} {M : zM} {G : Int → zM → Prop} {R : Option zU → zM → Prop} (h : zCi d y as M G) (k : ∀ v M', G v M' → R (some (z_i v)) M') : z_C d y as M R :=
  z_C_mono d y as M _ R (fun r M' hh => by obtain ⟨v, rfl, hv⟩ := hh; exact k v M' hv) h
theorem z_Cl {d y : Nat} {as : List zU} {M : zM} {G : Int → zM → Prop} {R : Option zU → zM → Prop} (h : zCl d y as M G) (k : ∀ v M', G v M' → R (some (z_l v)) M') : z_C d y as M R :=
  z_C_mono d y as M _ R (fun r M' hh => by obtain ⟨v, rfl, hv⟩ := hh; exact k v M' hv) h
theorem z_Cv {d y : Nat} {as : List zU} {M : zM} {G : zM → Prop} {R : Option zU → zM → Prop} (h : zCv d y as M G) (k : ∀ M', G M' → R none M') : z_C d y as M R :=
  z_C_mono d y as M _ R (fun r M' hh => by obtain ⟨rfl, hv⟩ := hh; exact k M' hv) h
theorem zCi_mono {d y : Nat} {as : List zU} {M : zM} {G G' : Int → zM → Prop} (h : zCi d y as M G) (k : ∀ v M', G v M' → G' v M') : zCi d y as M G' := z_Ci h (fun v M' hv => ⟨v, rfl, k v M' hv⟩)
theorem zCl_mono {d y : Nat} {as : List zU} {M : zM} {G G' : Int → zM → Prop} (h : zCl d y as M G) (k : ∀ v M', G v M' → G' v M') : zCl d y as M G' := z_Cl h (fun v M' hv => ⟨v, rfl, k v M' hv⟩)
theorem zCv_mono {d y : Nat} {as : List zU} {M : zM} {G G' : zM → Prop} (h : zCv d y as M G) (k : ∀ M', G M' → G' M') : zCv d y as M G' := z_Cv h (fun M' hv => ⟨rfl, k M' hv⟩)
theorem s_String_length {d : Nat} {k : Int} {a : Nat} {M : zM} {F : Int → zM → Prop} (h : F k M) : zCi (d + 7) 257 [z_r (104, k) a] M F :=
  show z_C (d + 7) 257 _ _ _ from ⟨rfl, rfl, by show 6 ≤ d + 6; omega, k, rfl, h⟩
theorem s_String_charAt {d : Nat} {k j : Int} {a : Nat} {M : zM} {F : Int → zM → Prop} (hj : 0 ≤ j ∧ j < k) (h : F (z_chr a j) M) : zCi (d + 7) 258 [z_r (104, k) a, z_i j] M F :=
  show z_C (d + 7) 258 _ _ _ from ⟨rfl, rfl, by show 6 ≤ d + 6; omega, hj, z_chr a j, rfl, h⟩
end
section
theorem m_Past_push : z_mt[30]?.map (fun Y => (Y.2.2.1, Y.2.2.2.2.1)) = some (2, c_Past_push) := rfl
theorem e_Past_push {d : Nat} {a1 : Nat} {M : zM} {F : zM → Prop} (H : ((0 ≤ (M 49 1) ∧ (M 49 1) < 15) ∧ zCv d 31 [z_r (9, 0) (z_el 50 (M 49 1)), z_r (9, 0) a1] M (fun M2 => ((15 ≤ (z_wr ((M2 49 1) + 1)) → F (z_up (z_up M2 49 1 0) 49 2 (if 15 < (z_wr (((z_up M2 49 1 0) 49 2) + 1)) then 15 else (z_wr (((z_up M2 49 1 0) 49 2) + 1))))) ∧ (¬ (15 ≤ (z_wr ((M2 49 1) + 1))) → F (z_up (z_up M2 49 1 (z_wr ((M2 49 1) + 1))) 49 2 (if 15 < (z_wr (((z_up M2 49 1 (z_wr ((M2 49 1) + 1))) 49 2) + 1)) then 15 else (z_wr (((z_up M2 49 1 (z_wr ((M2 49 1) + 1))) 49 2) + 1))))))))) : zCv (d + 1) 30 [z_r (3, 0) 49, z_r (9, 0) a1] M F :=
  z_enter m_Past_push rfl rfl rfl rfl (fun X hX => z_D_wp hX (z_C_mono _) [] 32 (have h0 := H
    (And.intro h0.1 (z_Cv h0.2 (fun M2 h => (And.intro (fun q4 => (And.intro rfl (h.1 q4))) (fun q4 => (And.intro rfl (h.2 q4)))))))))

theorem m_Town_has : z_mt[35]?.map (fun Y => (Y.2.2.1, Y.2.2.2.2.1)) = some (2, c_Town_has) := rfl
theorem e_Town_has {d : Nat} {a0 : Nat} {x1 : Int} {M : zM} {F : Int → zM → Prop} (H : ((x1 < 0 → ((0 = 0 ∨ 0 = 1) ∧ F 0 M)) ∧ (¬ (x1 < 0) → (((M a0 5) ≤ x1 → ((0 = 0 ∨ 0 = 1) ∧ F 0 M)) ∧ (¬ ((M a0 5) ≤ x1) → ((1 = 0 ∨ 1 = 1) ∧ F 1 M)))))) : zCi (d + 1) 35 [z_r (9, 0) a0, z_i x1] M F :=
  z_enter m_Town_has rfl rfl rfl rfl (fun X hX => z_D_wp hX (z_C_mono _) [] 12 (have h0 := H
    (And.intro (fun q4 => (And.intro (h0.1 q4).1 (Exists.intro _ (And.intro rfl (h0.1 q4).2)))) (fun q4 => (And.intro (fun q3 => (And.intro ((h0.2 q4).1 q3).1 (Exists.intro _ (And.intro rfl ((h0.2 q4).1 q3).2)))) (fun q3 => (And.intro ((h0.2 q4).2 q3).1 (Exists.intro _ (And.intro rfl ((h0.2 q4).2 q3).2)))))))))

theorem m_Book_placeByKey : z_mt[41]?.map (fun Y => (Y.2.2.1, Y.2.2.2.2.1)) = some (5, c_Book_placeByKey) := rfl
theorem e_Book_placeByKey {d : Nat} {a0 : Nat} {x1 : Int} {x2 : Int} {M : zM} {F : Int → zM → Prop} (H : ∀ P5 : Nat → Int → Int → Int → Int → zM → Prop, 
    (∀ (a0 : Nat) (x1 : Int) (x2 : Int) (x3 : Int) (x4 : Int) (M : zM), (((M a0 4) ≤ x4 → F x3 M) ∧ (¬ ((M a0 4) ≤ x4) → ((x4 = x1 → P5 a0 x1 x2 x3 (z_wr (x4 + 1)) M) ∧ (¬ (x4 = x1) → ((0 ≤ x4 ∧ x4 < 8) ∧ ((x2 ≤ (M (a0 + 3) x4) → P5 a0 x1 x2 x3 (z_wr (x4 + 1)) M) ∧ (¬ (x2 ≤ (M (a0 + 3) x4)) → P5 a0 x1 x2 (z_wr (x3 + 1)) (z_wr (x4 + 1)) M))))))) → P5 a0 x1 x2 x3 x4 M) → 
    P5 a0 x1 x2 0 0 M) : zCi (d + 1) 41 [z_r (0, 0) a0, z_i x1, z_i x2] M F :=
  z_enter m_Book_placeByKey rfl rfl rfl rfl (fun X hX => z_D_wp hX (z_C_mono _) [5] 24 (have h0 := H (fun (a0 : Nat) (x1 : Int) (x2 : Int) (x3 : Int) (x4 : Int) (M : zM) => X 5 [some (z_r (0, 0) a0), some (z_i x1), some (z_i x2), some (z_i x3), some (z_i x4)] [] M) (fun a0 x1 x2 x3 x4 M h => z_D_wp hX (z_C_mono _) [5] 24 (And.intro (fun q6 => (Exists.intro _ (And.intro rfl (h.1 q6)))) (fun q6 => (And.intro (fun q5 => (((h.2 q6).1 q5))) (fun q5 => (And.intro ((h.2 q6).2 q5).1 (And.intro (fun q4 => ((((h.2 q6).2 q5).2.1 q4))) (fun q4 => ((((h.2 q6).2 q5).2.2 q4))))))))))
    (h0)))

theorem m_Pump_pour : z_mt[54]?.map (fun Y => (Y.2.2.1, Y.2.2.2.2.1)) = some (5, c_Pump_pour) := rfl
theorem e_Pump_pour {d : Nat} {a1 : Nat} {x2 : Int} {M : zM} {F : Int → zM → Prop} (H : ∀ P12 : Nat → Int → Int → zM → Prop, 
    (∀ (a1 : Nat) (x2 : Int) (x3 : Int) (M : zM), (((M a1 4) ≤ x3 → zCi d 255 [z_i (M 45 5)] M (fun v4 M3 => F v4 M3)) ∧ (¬ ((M a1 4) ≤ x3) → ((0 ≤ x3 ∧ x3 < 8) ∧ ((0 ≤ (M (a1 + 1) x3) ∧ (M (a1 + 1) x3) < 8) ∧ ((0 ≤ (M (a1 + 1) x3) ∧ (M (a1 + 1) x3) < 8) ∧ ((0 ≤ (M (a1 + 1) x3) ∧ (M (a1 + 1) x3) < 8) ∧ ((0 ≤ (M (a1 + 1) x3) ∧ (M (a1 + 1) x3) < 8) ∧ ((0 ≤ (M (a1 + 1) x3) ∧ (M (a1 + 1) x3) < 8) ∧ ((((z_up (z_up M 48 (M (a1 + 1) x3) (if (M 45 4) < (M 46 (M (a1 + 1) x3)) then (M 45 4) else (M 46 (M (a1 + 1) x3)))) 45 4 (z_wr (((z_up M 48 (M (a1 + 1) x3) (if (M 45 4) < (M 46 (M (a1 + 1) x3)) then (M 45 4) else (M 46 (M (a1 + 1) x3)))) 45 4) - ((z_up M 48 (M (a1 + 1) x3) (if (M 45 4) < (M 46 (M (a1 + 1) x3)) then (M 45 4) else (M 46 (M (a1 + 1) x3)))) 48 (M (a1 + 1) x3))))) 46 (M (a1 + 1) x3)) ≤ ((z_up (z_up M 48 (M (a1 + 1) x3) (if (M 45 4) < (M 46 (M (a1 + 1) x3)) then (M 45 4) else (M 46 (M (a1 + 1) x3)))) 45 4 (z_wr (((z_up M 48 (M (a1 + 1) x3) (if (M 45 4) < (M 46 (M (a1 + 1) x3)) then (M 45 4) else (M 46 (M (a1 + 1) x3)))) 45 4) - ((z_up M 48 (M (a1 + 1) x3) (if (M 45 4) < (M 46 (M (a1 + 1) x3)) then (M 45 4) else (M 46 (M (a1 + 1) x3)))) 48 (M (a1 + 1) x3))))) 48 (M (a1 + 1) x3)) → P12 a1 x2 (z_wr (x3 + 1)) (z_up (z_up M 48 (M (a1 + 1) x3) (if (M 45 4) < (M 46 (M (a1 + 1) x3)) then (M 45 4) else (M 46 (M (a1 + 1) x3)))) 45 4 (z_wr (((z_up M 48 (M (a1 + 1) x3) (if (M 45 4) < (M 46 (M (a1 + 1) x3)) then (M 45 4) else (M 46 (M (a1 + 1) x3)))) 45 4) - ((z_up M 48 (M (a1 + 1) x3) (if (M 45 4) < (M 46 (M (a1 + 1) x3)) then (M 45 4) else (M 46 (M (a1 + 1) x3)))) 48 (M (a1 + 1) x3)))))) ∧ (¬ (((z_up (z_up M 48 (M (a1 + 1) x3) (if (M 45 4) < (M 46 (M (a1 + 1) x3)) then (M 45 4) else (M 46 (M (a1 + 1) x3)))) 45 4 (z_wr (((z_up M 48 (M (a1 + 1) x3) (if (M 45 4) < (M 46 (M (a1 + 1) x3)) then (M 45 4) else (M 46 (M (a1 + 1) x3)))) 45 4) - ((z_up M 48 (M (a1 + 1) x3) (if (M 45 4) < (M 46 (M (a1 + 1) x3)) then (M 45 4) else (M 46 (M (a1 + 1) x3)))) 48 (M (a1 + 1) x3))))) 46 (M (a1 + 1) x3)) ≤ ((z_up (z_up M 48 (M (a1 + 1) x3) (if (M 45 4) < (M 46 (M (a1 + 1) x3)) then (M 45 4) else (M 46 (M (a1 + 1) x3)))) 45 4 (z_wr (((z_up M 48 (M (a1 + 1) x3) (if (M 45 4) < (M 46 (M (a1 + 1) x3)) then (M 45 4) else (M 46 (M (a1 + 1) x3)))) 45 4) - ((z_up M 48 (M (a1 + 1) x3) (if (M 45 4) < (M 46 (M (a1 + 1) x3)) then (M 45 4) else (M 46 (M (a1 + 1) x3)))) 48 (M (a1 + 1) x3))))) 48 (M (a1 + 1) x3))) → P12 a1 x2 (z_wr (x3 + 1)) (z_up (z_up (z_up M 48 (M (a1 + 1) x3) (if (M 45 4) < (M 46 (M (a1 + 1) x3)) then (M 45 4) else (M 46 (M (a1 + 1) x3)))) 45 4 (z_wr (((z_up M 48 (M (a1 + 1) x3) (if (M 45 4) < (M 46 (M (a1 + 1) x3)) then (M 45 4) else (M 46 (M (a1 + 1) x3)))) 45 4) - ((z_up M 48 (M (a1 + 1) x3) (if (M 45 4) < (M 46 (M (a1 + 1) x3)) then (M 45 4) else (M 46 (M (a1 + 1) x3)))) 48 (M (a1 + 1) x3))))) 45 5 (z_or ((z_up (z_up M 48 (M (a1 + 1) x3) (if (M 45 4) < (M 46 (M (a1 + 1) x3)) then (M 45 4) else (M 46 (M (a1 + 1) x3)))) 45 4 (z_wr (((z_up M 48 (M (a1 + 1) x3) (if (M 45 4) < (M 46 (M (a1 + 1) x3)) then (M 45 4) else (M 46 (M (a1 + 1) x3)))) 45 4) - ((z_up M 48 (M (a1 + 1) x3) (if (M 45 4) < (M 46 (M (a1 + 1) x3)) then (M 45 4) else (M 46 (M (a1 + 1) x3)))) 48 (M (a1 + 1) x3))))) 45 5) (z_shl 1 (M (a1 + 1) x3)))))))))))))) → P12 a1 x2 x3 M) → 
    P12 a1 x2 0 (z_up (z_up M 45 4 x2) 45 5 0)) : zCi (d + 1) 54 [z_r (4, 0) 45, z_r (0, 0) a1, z_i x2] M F :=
  z_enter m_Pump_pour rfl rfl rfl rfl (fun X hX => z_D_wp hX (z_C_mono _) [12] 62 (have h0 := H (fun (a1 : Nat) (x2 : Int) (x3 : Int) (M : zM) => ∀ (w4 : zV), X 12 [some (z_r (4, 0) 45), some (z_r (0, 0) a1), some (z_i x2), some (z_i x3), w4] [] M) (fun a1 x2 x3 M h w4 => z_D_wp hX (z_C_mono _) [12] 62 (And.intro (fun q6 => (z_Ci (h.1 q6) (fun v4 M3 h => (Exists.intro _ (And.intro rfl h))))) (fun q6 => (And.intro (h.2 q6).1 (And.intro (h.2 q6).2.1 (And.intro (h.2 q6).2.2.1 (And.intro (h.2 q6).2.2.2.1 (And.intro (h.2 q6).2.2.2.2.1 (And.intro (h.2 q6).2.2.2.2.2.1 (And.intro (fun q5 => (((h.2 q6).2.2.2.2.2.2.1 q5) _)) (fun q5 => (((h.2 q6).2.2.2.2.2.2.2 q5) _))))))))))))
    (h0 _)))

theorem m_M_goesThrough : z_mt[216]?.map (fun Y => (Y.2.2.1, Y.2.2.2.2.1)) = some (5, c_M_goesThrough) := rfl
theorem e_M_goesThrough {d : Nat} {x1 : Int} {x2 : Int} {x3 : Int} {M : zM} {F : zM → Prop} (H : ∀ P15 : Int → Int → Int → Int → zM → Prop, 
    (∀ (x1 : Int) (x2 : Int) (x3 : Int) (x4 : Int) (M : zM), ((8 ≤ x4 → F M) ∧ (¬ (8 ≤ x4) → zCi d 192 [z_i x2, z_i x4] M (fun v6 M5 => ((v6 ≠ 0 → P15 x1 x2 x3 (z_wr (x4 + 1)) M5) ∧ (¬ (v6 ≠ 0) → ((0 ≤ x1 ∧ x1 < 8) ∧ ((0 ≤ x4 ∧ x4 < 8) ∧ zCv d 216 [z_r (11, 0) 181, z_i (z_wr (x1 + 1)), z_i (z_or x2 (z_shl 1 x4)), z_i x3] (z_up (z_up M5 208 x1 x4) 199 x4 x1) (fun M7 => P15 x1 x2 x3 (z_wr (x4 + 1)) M7)))))))) → P15 x1 x2 x3 x4 M) → 
    ((x1 ≠ 8 → P15 x1 x2 x3 0 M) ∧ (¬ (x1 ≠ 8) → zCv d 217 [z_r (11, 0) 181, z_i x3] M (fun M11 => F M11)))) : zCv (d + 1) 216 [z_r (11, 0) 181, z_i x1, z_i x2, z_i x3] M F :=
  z_enter m_M_goesThrough rfl rfl rfl rfl (fun X hX => z_D_wp hX (z_C_mono _) [15] 42 (have h0 := H (fun (x1 : Int) (x2 : Int) (x3 : Int) (x4 : Int) (M : zM) => X 15 [some (z_r (11, 0) 181), some (z_i x1), some (z_i x2), some (z_i x3), some (z_i x4)] [] M) (fun x1 x2 x3 x4 M h => z_D_wp hX (z_C_mono _) [15] 42 (And.intro (fun q10 => (And.intro rfl (h.1 q10))) (fun q10 => (z_Ci (h.2 q10) (fun v6 M5 h => (And.intro (fun q9 => ((h.1 q9))) (fun q9 => (And.intro (h.2 q9).1 (And.intro (h.2 q9).2.1 (z_Cv (h.2 q9).2.2 (fun M7 h => (h))))))))))))
    (And.intro (fun q13 => ((h0.1 q13))) (fun q13 => (z_Cv (h0.2 q13) (fun M11 h => (And.intro rfl h)))))))
end
