section
-- ===== PART A: goes FIRST, ahead of the names: the tables' words, and 'selects' of the private methods out of them =====
/-- a private method of a class that the tables say can be made, by its rows of tables_1 -/
def lw_okq (q : MethodName × Nat) : Prop := (q.1.cls ≠ "java/lang/invoke/MethodHandle" ∧ q.1.cls ≠ "java/lang/invoke/VarHandle") ∧ Cond.instantiable q.1.cls q.2 ∈ tables_1 ∧ Cond.privateMethod q.1 ∈ tables_1 ∧ Cond.instanceMethod q.1 ∈ tables_1
theorem lw_p0 : lw_okq (⟨"LakeBooks$Law", "tellValues", "(LLakeBooks$Account;II)V"⟩, 10) := ⟨⟨by decide +kernel, by decide +kernel⟩, List.mem_of_getElem? (i := 69) (by decide +kernel), List.mem_of_getElem? (i := 394) (by decide +kernel), List.mem_of_getElem? (i := 395) (by decide +kernel)⟩
theorem lw_p1 : lw_okq (⟨"LakeBooks$Law", "holds", "(II)Z"⟩, 10) := ⟨⟨by decide +kernel, by decide +kernel⟩, List.mem_of_getElem? (i := 69) (by decide +kernel), List.mem_of_getElem? (i := 399) (by decide +kernel), List.mem_of_getElem? (i := 400) (by decide +kernel)⟩
theorem lw_p2 : lw_okq (⟨"LakeBooks$Reader", "take", "(I)Z"⟩, 3) := ⟨⟨by decide +kernel, by decide +kernel⟩, List.mem_of_getElem? (i := 234) (by decide +kernel), List.mem_of_getElem? (i := 447) (by decide +kernel), List.mem_of_getElem? (i := 448) (by decide +kernel)⟩
theorem lw_p3 : lw_okq (⟨"LakeBooks$Reader", "takeWord", "()I"⟩, 3) := ⟨⟨by decide +kernel, by decide +kernel⟩, List.mem_of_getElem? (i := 234) (by decide +kernel), List.mem_of_getElem? (i := 451) (by decide +kernel), List.mem_of_getElem? (i := 452) (by decide +kernel)⟩
theorem lw_p4 : lw_okq (⟨"LakeBooks$Reader", "sameSigns", "(Ljava/lang/String;)I"⟩, 3) := ⟨⟨by decide +kernel, by decide +kernel⟩, List.mem_of_getElem? (i := 234) (by decide +kernel), List.mem_of_getElem? (i := 463) (by decide +kernel), List.mem_of_getElem? (i := 464) (by decide +kernel)⟩
theorem lw_p5 : lw_okq (⟨"LakeBooks$Reader", "takeNumber", "()I"⟩, 3) := ⟨⟨by decide +kernel, by decide +kernel⟩, List.mem_of_getElem? (i := 234) (by decide +kernel), List.mem_of_getElem? (i := 517) (by decide +kernel), List.mem_of_getElem? (i := 518) (by decide +kernel)⟩
theorem lw_p6 : lw_okq (⟨"LakeBooks$Reader", "takeEither", "(LLakeBooks$Law;I)Z"⟩, 3) := ⟨⟨by decide +kernel, by decide +kernel⟩, List.mem_of_getElem? (i := 234) (by decide +kernel), List.mem_of_getElem? (i := 525) (by decide +kernel), List.mem_of_getElem? (i := 526) (by decide +kernel)⟩
theorem lw_p7 : lw_okq (⟨"LakeBooks$Reader", "takeBoth", "(LLakeBooks$Law;I)Z"⟩, 3) := ⟨⟨by decide +kernel, by decide +kernel⟩, List.mem_of_getElem? (i := 234) (by decide +kernel), List.mem_of_getElem? (i := 529) (by decide +kernel), List.mem_of_getElem? (i := 530) (by decide +kernel)⟩
theorem lw_p8 : lw_okq (⟨"LakeBooks$Reader", "takeFactor", "(LLakeBooks$Law;I)Z"⟩, 3) := ⟨⟨by decide +kernel, by decide +kernel⟩, List.mem_of_getElem? (i := 234) (by decide +kernel), List.mem_of_getElem? (i := 533) (by decide +kernel), List.mem_of_getElem? (i := 534) (by decide +kernel)⟩
theorem lw_p9 : lw_okq (⟨"LakeBooks$Reader", "takeTest", "(LLakeBooks$Law;)Z"⟩, 3) := ⟨⟨by decide +kernel, by decide +kernel⟩, List.mem_of_getElem? (i := 234) (by decide +kernel), List.mem_of_getElem? (i := 542) (by decide +kernel), List.mem_of_getElem? (i := 543) (by decide +kernel)⟩
theorem lw_p10 : lw_okq (⟨"LakeBooks$Reader", "takeOneOf", "(Ljava/lang/String;)I"⟩, 3) := ⟨⟨by decide +kernel, by decide +kernel⟩, List.mem_of_getElem? (i := 234) (by decide +kernel), List.mem_of_getElem? (i := 547) (by decide +kernel), List.mem_of_getElem? (i := 548) (by decide +kernel)⟩
theorem lw_p11 : lw_okq (⟨"LakeBooks$State", "pourBy", "(LLakeBooks$Account;I)V"⟩, 12) := ⟨⟨by decide +kernel, by decide +kernel⟩, List.mem_of_getElem? (i := 28) (by decide +kernel), List.mem_of_getElem? (i := 641) (by decide +kernel), List.mem_of_getElem? (i := 642) (by decide +kernel)⟩
theorem lw_p12 : lw_okq (⟨"LakeBooks$State", "spillTo", "(I)V"⟩, 12) := ⟨⟨by decide +kernel, by decide +kernel⟩, List.mem_of_getElem? (i := 28) (by decide +kernel), List.mem_of_getElem? (i := 646) (by decide +kernel), List.mem_of_getElem? (i := 647) (by decide +kernel)⟩
theorem lw_p13 : lw_okq (⟨"LakeBooks$Asked", "staysWet", "(I)Z"⟩, 1) := ⟨⟨by decide +kernel, by decide +kernel⟩, List.mem_of_getElem? (i := 222) (by decide +kernel), List.mem_of_getElem? (i := 731) (by decide +kernel), List.mem_of_getElem? (i := 732) (by decide +kernel)⟩
theorem lw_p14 : lw_okq (⟨"LakeBooks$Asked", "beginWithout", "(LLakeBooks$State;I)V"⟩, 1) := ⟨⟨by decide +kernel, by decide +kernel⟩, List.mem_of_getElem? (i := 222) (by decide +kernel), List.mem_of_getElem? (i := 759) (by decide +kernel), List.mem_of_getElem? (i := 760) (by decide +kernel)⟩
theorem lw_p15 : lw_okq (⟨"LakeBooks$Asked", "goesAsSeen", "()Z"⟩, 1) := ⟨⟨by decide +kernel, by decide +kernel⟩, List.mem_of_getElem? (i := 222) (by decide +kernel), List.mem_of_getElem? (i := 823) (by decide +kernel), List.mem_of_getElem? (i := 824) (by decide +kernel)⟩
def lw_privs_1 : List (MethodName × Nat) := [(⟨"LakeBooks$Law", "tellValues", "(LLakeBooks$Account;II)V"⟩, 10), (⟨"LakeBooks$Law", "holds", "(II)Z"⟩, 10), (⟨"LakeBooks$Reader", "take", "(I)Z"⟩, 3), (⟨"LakeBooks$Reader", "takeWord", "()I"⟩, 3), (⟨"LakeBooks$Reader", "sameSigns", "(Ljava/lang/String;)I"⟩, 3), (⟨"LakeBooks$Reader", "takeNumber", "()I"⟩, 3), (⟨"LakeBooks$Reader", "takeEither", "(LLakeBooks$Law;I)Z"⟩, 3), (⟨"LakeBooks$Reader", "takeBoth", "(LLakeBooks$Law;I)Z"⟩, 3), (⟨"LakeBooks$Reader", "takeFactor", "(LLakeBooks$Law;I)Z"⟩, 3), (⟨"LakeBooks$Reader", "takeTest", "(LLakeBooks$Law;)Z"⟩, 3), (⟨"LakeBooks$Reader", "takeOneOf", "(Ljava/lang/String;)I"⟩, 3), (⟨"LakeBooks$State", "pourBy", "(LLakeBooks$Account;I)V"⟩, 12), (⟨"LakeBooks$State", "spillTo", "(I)V"⟩, 12), (⟨"LakeBooks$Asked", "staysWet", "(I)Z"⟩, 1), (⟨"LakeBooks$Asked", "beginWithout", "(LLakeBooks$State;I)V"⟩, 1), (⟨"LakeBooks$Asked", "goesAsSeen", "()Z"⟩, 1)]
theorem lw_r1 : ∀ q ∈ lw_privs_1, lw_okq q := List.forall_mem_cons.mpr ⟨lw_p0, List.forall_mem_cons.mpr ⟨lw_p1, List.forall_mem_cons.mpr ⟨lw_p2, List.forall_mem_cons.mpr ⟨lw_p3, List.forall_mem_cons.mpr ⟨lw_p4, List.forall_mem_cons.mpr ⟨lw_p5, List.forall_mem_cons.mpr ⟨lw_p6, List.forall_mem_cons.mpr ⟨lw_p7, List.forall_mem_cons.mpr ⟨lw_p8, List.forall_mem_cons.mpr ⟨lw_p9, List.forall_mem_cons.mpr ⟨lw_p10, List.forall_mem_cons.mpr ⟨lw_p11, List.forall_mem_cons.mpr ⟨lw_p12, List.forall_mem_cons.mpr ⟨lw_p13, List.forall_mem_cons.mpr ⟨lw_p14, List.forall_mem_cons.mpr ⟨lw_p15, fun _ h => absurd h List.not_mem_nil⟩⟩⟩⟩⟩⟩⟩⟩⟩⟩⟩⟩⟩⟩⟩⟩
theorem lw_p16 : lw_okq (⟨"LakeBooks$Asked", "lastSeen", "()I"⟩, 1) := ⟨⟨by decide +kernel, by decide +kernel⟩, List.mem_of_getElem? (i := 222) (by decide +kernel), List.mem_of_getElem? (i := 827) (by decide +kernel), List.mem_of_getElem? (i := 828) (by decide +kernel)⟩
theorem lw_p17 : lw_okq (⟨"LakeBooks$Asked", "isAsSeenOn", "(I)Z"⟩, 1) := ⟨⟨by decide +kernel, by decide +kernel⟩, List.mem_of_getElem? (i := 222) (by decide +kernel), List.mem_of_getElem? (i := 840) (by decide +kernel), List.mem_of_getElem? (i := 841) (by decide +kernel)⟩
theorem lw_p18 : lw_okq (⟨"LakeBooks", "findTape", "(I)LLakeBooks$Tape;"⟩, 9) := ⟨⟨by decide +kernel, by decide +kernel⟩, List.mem_of_getElem? (i := 20) (by decide +kernel), List.mem_of_getElem? (i := 899) (by decide +kernel), List.mem_of_getElem? (i := 900) (by decide +kernel)⟩
theorem lw_p19 : lw_okq (⟨"LakeBooks$Acts", "run", "(LLakeBooks$Account;IIII)I"⟩, 2) := ⟨⟨by decide +kernel, by decide +kernel⟩, List.mem_of_getElem? (i := 254) (by decide +kernel), List.mem_of_getElem? (i := 930) (by decide +kernel), List.mem_of_getElem? (i := 931) (by decide +kernel)⟩
theorem lw_p20 : lw_okq (⟨"LakeBooks$Acts", "note", "(I)V"⟩, 2) := ⟨⟨by decide +kernel, by decide +kernel⟩, List.mem_of_getElem? (i := 254) (by decide +kernel), List.mem_of_getElem? (i := 946) (by decide +kernel), List.mem_of_getElem? (i := 947) (by decide +kernel)⟩
theorem lw_p21 : lw_okq (⟨"LakeBooks$Acts", "runBody", "(LLakeBooks$Account;IIII)I"⟩, 2) := ⟨⟨by decide +kernel, by decide +kernel⟩, List.mem_of_getElem? (i := 254) (by decide +kernel), List.mem_of_getElem? (i := 950) (by decide +kernel), List.mem_of_getElem? (i := 951) (by decide +kernel)⟩
theorem lw_p22 : lw_okq (⟨"LakeBooks$Tape", "cut", "(J)J"⟩, 3) := ⟨⟨by decide +kernel, by decide +kernel⟩, List.mem_of_getElem? (i := 267) (by decide +kernel), List.mem_of_getElem? (i := 1000) (by decide +kernel), List.mem_of_getElem? (i := 1001) (by decide +kernel)⟩
theorem lw_p23 : lw_okq (⟨"LakeBooksModel", "in", "(III)Z"⟩, 77) := ⟨⟨by decide +kernel, by decide +kernel⟩, List.mem_of_getElem? (i := 1019) (by decide +kernel), List.mem_of_getElem? (i := 1262) (by decide +kernel), List.mem_of_getElem? (i := 1263) (by decide +kernel)⟩
theorem lw_p24 : lw_okq (⟨"LakeBooksModel", "volumeOf", "(I)I"⟩, 77) := ⟨⟨by decide +kernel, by decide +kernel⟩, List.mem_of_getElem? (i := 1019) (by decide +kernel), List.mem_of_getElem? (i := 1270) (by decide +kernel), List.mem_of_getElem? (i := 1271) (by decide +kernel)⟩
theorem lw_p25 : lw_okq (⟨"LakeBooksModel", "isDaily", "(I)Z"⟩, 77) := ⟨⟨by decide +kernel, by decide +kernel⟩, List.mem_of_getElem? (i := 1019) (by decide +kernel), List.mem_of_getElem? (i := 1278) (by decide +kernel), List.mem_of_getElem? (i := 1279) (by decide +kernel)⟩
theorem lw_p26 : lw_okq (⟨"LakeBooksModel", "isAccount", "(I)Z"⟩, 77) := ⟨⟨by decide +kernel, by decide +kernel⟩, List.mem_of_getElem? (i := 1019) (by decide +kernel), List.mem_of_getElem? (i := 1286) (by decide +kernel), List.mem_of_getElem? (i := 1287) (by decide +kernel)⟩
theorem lw_p27 : lw_okq (⟨"LakeBooksModel", "goesText", "(I)Z"⟩, 77) := ⟨⟨by decide +kernel, by decide +kernel⟩, List.mem_of_getElem? (i := 1019) (by decide +kernel), List.mem_of_getElem? (i := 1306) (by decide +kernel), List.mem_of_getElem? (i := 1307) (by decide +kernel)⟩
theorem lw_p28 : lw_okq (⟨"LakeBooksModel", "takesClause", "(I)Z"⟩, 77) := ⟨⟨by decide +kernel, by decide +kernel⟩, List.mem_of_getElem? (i := 1019) (by decide +kernel), List.mem_of_getElem? (i := 1310) (by decide +kernel), List.mem_of_getElem? (i := 1311) (by decide +kernel)⟩
theorem lw_p29 : lw_okq (⟨"LakeBooksModel", "takesHead", "(I)Z"⟩, 77) := ⟨⟨by decide +kernel, by decide +kernel⟩, List.mem_of_getElem? (i := 1019) (by decide +kernel), List.mem_of_getElem? (i := 1314) (by decide +kernel), List.mem_of_getElem? (i := 1315) (by decide +kernel)⟩
theorem lw_p30 : lw_okq (⟨"LakeBooksModel", "next", "()I"⟩, 77) := ⟨⟨by decide +kernel, by decide +kernel⟩, List.mem_of_getElem? (i := 1019) (by decide +kernel), List.mem_of_getElem? (i := 1318) (by decide +kernel), List.mem_of_getElem? (i := 1319) (by decide +kernel)⟩
theorem lw_p31 : lw_okq (⟨"LakeBooksModel", "takesWord", "(II)Z"⟩, 77) := ⟨⟨by decide +kernel, by decide +kernel⟩, List.mem_of_getElem? (i := 1019) (by decide +kernel), List.mem_of_getElem? (i := 1322) (by decide +kernel), List.mem_of_getElem? (i := 1323) (by decide +kernel)⟩
def lw_privs_2 : List (MethodName × Nat) := [(⟨"LakeBooks$Asked", "lastSeen", "()I"⟩, 1), (⟨"LakeBooks$Asked", "isAsSeenOn", "(I)Z"⟩, 1), (⟨"LakeBooks", "findTape", "(I)LLakeBooks$Tape;"⟩, 9), (⟨"LakeBooks$Acts", "run", "(LLakeBooks$Account;IIII)I"⟩, 2), (⟨"LakeBooks$Acts", "note", "(I)V"⟩, 2), (⟨"LakeBooks$Acts", "runBody", "(LLakeBooks$Account;IIII)I"⟩, 2), (⟨"LakeBooks$Tape", "cut", "(J)J"⟩, 3), (⟨"LakeBooksModel", "in", "(III)Z"⟩, 77), (⟨"LakeBooksModel", "volumeOf", "(I)I"⟩, 77), (⟨"LakeBooksModel", "isDaily", "(I)Z"⟩, 77), (⟨"LakeBooksModel", "isAccount", "(I)Z"⟩, 77), (⟨"LakeBooksModel", "goesText", "(I)Z"⟩, 77), (⟨"LakeBooksModel", "takesClause", "(I)Z"⟩, 77), (⟨"LakeBooksModel", "takesHead", "(I)Z"⟩, 77), (⟨"LakeBooksModel", "next", "()I"⟩, 77), (⟨"LakeBooksModel", "takesWord", "(II)Z"⟩, 77)]
theorem lw_r2 : ∀ q ∈ lw_privs_2, lw_okq q := List.forall_mem_cons.mpr ⟨lw_p16, List.forall_mem_cons.mpr ⟨lw_p17, List.forall_mem_cons.mpr ⟨lw_p18, List.forall_mem_cons.mpr ⟨lw_p19, List.forall_mem_cons.mpr ⟨lw_p20, List.forall_mem_cons.mpr ⟨lw_p21, List.forall_mem_cons.mpr ⟨lw_p22, List.forall_mem_cons.mpr ⟨lw_p23, List.forall_mem_cons.mpr ⟨lw_p24, List.forall_mem_cons.mpr ⟨lw_p25, List.forall_mem_cons.mpr ⟨lw_p26, List.forall_mem_cons.mpr ⟨lw_p27, List.forall_mem_cons.mpr ⟨lw_p28, List.forall_mem_cons.mpr ⟨lw_p29, List.forall_mem_cons.mpr ⟨lw_p30, List.forall_mem_cons.mpr ⟨lw_p31, fun _ h => absurd h List.not_mem_nil⟩⟩⟩⟩⟩⟩⟩⟩⟩⟩⟩⟩⟩⟩⟩⟩
theorem lw_p32 : lw_okq (⟨"LakeBooksModel", "takes", "(I)Z"⟩, 77) := ⟨⟨by decide +kernel, by decide +kernel⟩, List.mem_of_getElem? (i := 1019) (by decide +kernel), List.mem_of_getElem? (i := 1326) (by decide +kernel), List.mem_of_getElem? (i := 1327) (by decide +kernel)⟩
theorem lw_p33 : lw_okq (⟨"LakeBooksModel", "second", "()I"⟩, 77) := ⟨⟨by decide +kernel, by decide +kernel⟩, List.mem_of_getElem? (i := 1019) (by decide +kernel), List.mem_of_getElem? (i := 1330) (by decide +kernel), List.mem_of_getElem? (i := 1331) (by decide +kernel)⟩
theorem lw_p34 : lw_okq (⟨"LakeBooksModel", "takesNumber", "()Z"⟩, 77) := ⟨⟨by decide +kernel, by decide +kernel⟩, List.mem_of_getElem? (i := 1019) (by decide +kernel), List.mem_of_getElem? (i := 1334) (by decide +kernel), List.mem_of_getElem? (i := 1335) (by decide +kernel)⟩
theorem lw_p35 : lw_okq (⟨"LakeBooksModel", "isDigit", "()Z"⟩, 77) := ⟨⟨by decide +kernel, by decide +kernel⟩, List.mem_of_getElem? (i := 1019) (by decide +kernel), List.mem_of_getElem? (i := 1338) (by decide +kernel), List.mem_of_getElem? (i := 1339) (by decide +kernel)⟩
theorem lw_p36 : lw_okq (⟨"LakeBooksModel", "takesE", "(I)Z"⟩, 77) := ⟨⟨by decide +kernel, by decide +kernel⟩, List.mem_of_getElem? (i := 1019) (by decide +kernel), List.mem_of_getElem? (i := 1342) (by decide +kernel), List.mem_of_getElem? (i := 1343) (by decide +kernel)⟩
theorem lw_p37 : lw_okq (⟨"LakeBooksModel", "takesTest", "()Z"⟩, 77) := ⟨⟨by decide +kernel, by decide +kernel⟩, List.mem_of_getElem? (i := 1019) (by decide +kernel), List.mem_of_getElem? (i := 1346) (by decide +kernel), List.mem_of_getElem? (i := 1347) (by decide +kernel)⟩
theorem lw_p38 : lw_okq (⟨"LakeBooksModel", "place", "(I)I"⟩, 77) := ⟨⟨by decide +kernel, by decide +kernel⟩, List.mem_of_getElem? (i := 1019) (by decide +kernel), List.mem_of_getElem? (i := 1350) (by decide +kernel), List.mem_of_getElem? (i := 1351) (by decide +kernel)⟩
theorem lw_p39 : lw_okq (⟨"LakeBooksModel", "emits", "(I)V"⟩, 77) := ⟨⟨by decide +kernel, by decide +kernel⟩, List.mem_of_getElem? (i := 1019) (by decide +kernel), List.mem_of_getElem? (i := 1354) (by decide +kernel), List.mem_of_getElem? (i := 1355) (by decide +kernel)⟩
theorem lw_p40 : lw_okq (⟨"LakeBooksModel", "whole", "()V"⟩, 77) := ⟨⟨by decide +kernel, by decide +kernel⟩, List.mem_of_getElem? (i := 1019) (by decide +kernel), List.mem_of_getElem? (i := 1358) (by decide +kernel), List.mem_of_getElem? (i := 1359) (by decide +kernel)⟩
theorem lw_p41 : lw_okq (⟨"LakeBooksModel", "settle", "(I)V"⟩, 77) := ⟨⟨by decide +kernel, by decide +kernel⟩, List.mem_of_getElem? (i := 1019) (by decide +kernel), List.mem_of_getElem? (i := 1362) (by decide +kernel), List.mem_of_getElem? (i := 1363) (by decide +kernel)⟩
theorem lw_p42 : lw_okq (⟨"LakeBooksModel", "liftsOf", "(I)I"⟩, 77) := ⟨⟨by decide +kernel, by decide +kernel⟩, List.mem_of_getElem? (i := 1019) (by decide +kernel), List.mem_of_getElem? (i := 1370) (by decide +kernel), List.mem_of_getElem? (i := 1371) (by decide +kernel)⟩
theorem lw_p43 : lw_okq (⟨"LakeBooksModel", "poursOf", "(I)I"⟩, 77) := ⟨⟨by decide +kernel, by decide +kernel⟩, List.mem_of_getElem? (i := 1019) (by decide +kernel), List.mem_of_getElem? (i := 1374) (by decide +kernel), List.mem_of_getElem? (i := 1375) (by decide +kernel)⟩
theorem lw_p44 : lw_okq (⟨"LakeBooksModel", "lastOf", "(II)I"⟩, 77) := ⟨⟨by decide +kernel, by decide +kernel⟩, List.mem_of_getElem? (i := 1019) (by decide +kernel), List.mem_of_getElem? (i := 1378) (by decide +kernel), List.mem_of_getElem? (i := 1379) (by decide +kernel)⟩
theorem lw_p45 : lw_okq (⟨"LakeBooksModel", "begin", "()I"⟩, 77) := ⟨⟨by decide +kernel, by decide +kernel⟩, List.mem_of_getElem? (i := 1019) (by decide +kernel), List.mem_of_getElem? (i := 1382) (by decide +kernel), List.mem_of_getElem? (i := 1383) (by decide +kernel)⟩
theorem lw_p46 : lw_okq (⟨"LakeBooksModel", "behind", "()I"⟩, 77) := ⟨⟨by decide +kernel, by decide +kernel⟩, List.mem_of_getElem? (i := 1019) (by decide +kernel), List.mem_of_getElem? (i := 1386) (by decide +kernel), List.mem_of_getElem? (i := 1387) (by decide +kernel)⟩
theorem lw_p47 : lw_okq (⟨"LakeBooksModel", "level", "()I"⟩, 77) := ⟨⟨by decide +kernel, by decide +kernel⟩, List.mem_of_getElem? (i := 1019) (by decide +kernel), List.mem_of_getElem? (i := 1390) (by decide +kernel), List.mem_of_getElem? (i := 1391) (by decide +kernel)⟩
def lw_privs_3 : List (MethodName × Nat) := [(⟨"LakeBooksModel", "takes", "(I)Z"⟩, 77), (⟨"LakeBooksModel", "second", "()I"⟩, 77), (⟨"LakeBooksModel", "takesNumber", "()Z"⟩, 77), (⟨"LakeBooksModel", "isDigit", "()Z"⟩, 77), (⟨"LakeBooksModel", "takesE", "(I)Z"⟩, 77), (⟨"LakeBooksModel", "takesTest", "()Z"⟩, 77), (⟨"LakeBooksModel", "place", "(I)I"⟩, 77), (⟨"LakeBooksModel", "emits", "(I)V"⟩, 77), (⟨"LakeBooksModel", "whole", "()V"⟩, 77), (⟨"LakeBooksModel", "settle", "(I)V"⟩, 77), (⟨"LakeBooksModel", "liftsOf", "(I)I"⟩, 77), (⟨"LakeBooksModel", "poursOf", "(I)I"⟩, 77), (⟨"LakeBooksModel", "lastOf", "(II)I"⟩, 77), (⟨"LakeBooksModel", "begin", "()I"⟩, 77), (⟨"LakeBooksModel", "behind", "()I"⟩, 77), (⟨"LakeBooksModel", "level", "()I"⟩, 77)]
theorem lw_r3 : ∀ q ∈ lw_privs_3, lw_okq q := List.forall_mem_cons.mpr ⟨lw_p32, List.forall_mem_cons.mpr ⟨lw_p33, List.forall_mem_cons.mpr ⟨lw_p34, List.forall_mem_cons.mpr ⟨lw_p35, List.forall_mem_cons.mpr ⟨lw_p36, List.forall_mem_cons.mpr ⟨lw_p37, List.forall_mem_cons.mpr ⟨lw_p38, List.forall_mem_cons.mpr ⟨lw_p39, List.forall_mem_cons.mpr ⟨lw_p40, List.forall_mem_cons.mpr ⟨lw_p41, List.forall_mem_cons.mpr ⟨lw_p42, List.forall_mem_cons.mpr ⟨lw_p43, List.forall_mem_cons.mpr ⟨lw_p44, List.forall_mem_cons.mpr ⟨lw_p45, List.forall_mem_cons.mpr ⟨lw_p46, List.forall_mem_cons.mpr ⟨lw_p47, fun _ h => absurd h List.not_mem_nil⟩⟩⟩⟩⟩⟩⟩⟩⟩⟩⟩⟩⟩⟩⟩⟩
theorem lw_p48 : lw_okq (⟨"LakeBooksModel", "levelOf", "(I)I"⟩, 77) := ⟨⟨by decide +kernel, by decide +kernel⟩, List.mem_of_getElem? (i := 1019) (by decide +kernel), List.mem_of_getElem? (i := 1394) (by decide +kernel), List.mem_of_getElem? (i := 1395) (by decide +kernel)⟩
theorem lw_p49 : lw_okq (⟨"LakeBooksModel", "sunOf", "(I)I"⟩, 77) := ⟨⟨by decide +kernel, by decide +kernel⟩, List.mem_of_getElem? (i := 1019) (by decide +kernel), List.mem_of_getElem? (i := 1398) (by decide +kernel), List.mem_of_getElem? (i := 1399) (by decide +kernel)⟩
theorem lw_p50 : lw_okq (⟨"LakeBooksModel", "sumOf", "(II)I"⟩, 77) := ⟨⟨by decide +kernel, by decide +kernel⟩, List.mem_of_getElem? (i := 1019) (by decide +kernel), List.mem_of_getElem? (i := 1402) (by decide +kernel), List.mem_of_getElem? (i := 1403) (by decide +kernel)⟩
theorem lw_p51 : lw_okq (⟨"LakeBooksModel", "holds", "(II)Z"⟩, 77) := ⟨⟨by decide +kernel, by decide +kernel⟩, List.mem_of_getElem? (i := 1019) (by decide +kernel), List.mem_of_getElem? (i := 1406) (by decide +kernel), List.mem_of_getElem? (i := 1407) (by decide +kernel)⟩
theorem lw_p52 : lw_okq (⟨"LakeBooksModel", "factOf", "(II)I"⟩, 77) := ⟨⟨by decide +kernel, by decide +kernel⟩, List.mem_of_getElem? (i := 1019) (by decide +kernel), List.mem_of_getElem? (i := 1410) (by decide +kernel), List.mem_of_getElem? (i := 1411) (by decide +kernel)⟩
theorem lw_p53 : lw_okq (⟨"LakeBooksModel", "mark", "()I"⟩, 77) := ⟨⟨by decide +kernel, by decide +kernel⟩, List.mem_of_getElem? (i := 1019) (by decide +kernel), List.mem_of_getElem? (i := 1418) (by decide +kernel), List.mem_of_getElem? (i := 1419) (by decide +kernel)⟩
theorem lw_p54 : lw_okq (⟨"LakeBooksModel", "floor", "()I"⟩, 77) := ⟨⟨by decide +kernel, by decide +kernel⟩, List.mem_of_getElem? (i := 1019) (by decide +kernel), List.mem_of_getElem? (i := 1422) (by decide +kernel), List.mem_of_getElem? (i := 1423) (by decide +kernel)⟩
theorem lw_p55 : lw_okq (⟨"LakeBooksModel", "spring", "()I"⟩, 77) := ⟨⟨by decide +kernel, by decide +kernel⟩, List.mem_of_getElem? (i := 1019) (by decide +kernel), List.mem_of_getElem? (i := 1426) (by decide +kernel), List.mem_of_getElem? (i := 1427) (by decide +kernel)⟩
theorem lw_p56 : lw_okq (⟨"LakeBooksModel", "goDay", "()V"⟩, 77) := ⟨⟨by decide +kernel, by decide +kernel⟩, List.mem_of_getElem? (i := 1019) (by decide +kernel), List.mem_of_getElem? (i := 1434) (by decide +kernel), List.mem_of_getElem? (i := 1435) (by decide +kernel)⟩
theorem lw_p57 : lw_okq (⟨"LakeBooksModel", "pours", "(II)V"⟩, 77) := ⟨⟨by decide +kernel, by decide +kernel⟩, List.mem_of_getElem? (i := 1019) (by decide +kernel), List.mem_of_getElem? (i := 1438) (by decide +kernel), List.mem_of_getElem? (i := 1439) (by decide +kernel)⟩
theorem lw_p58 : lw_okq (⟨"LakeBooksModel", "held", "(I)I"⟩, 77) := ⟨⟨by decide +kernel, by decide +kernel⟩, List.mem_of_getElem? (i := 1019) (by decide +kernel), List.mem_of_getElem? (i := 1443) (by decide +kernel), List.mem_of_getElem? (i := 1444) (by decide +kernel)⟩
theorem lw_p59 : lw_okq (⟨"LakeBooksModel", "isDays", "(I)Z"⟩, 77) := ⟨⟨by decide +kernel, by decide +kernel⟩, List.mem_of_getElem? (i := 1019) (by decide +kernel), List.mem_of_getElem? (i := 1451) (by decide +kernel), List.mem_of_getElem? (i := 1452) (by decide +kernel)⟩
theorem lw_p60 : lw_okq (⟨"LakeBooksModel", "save", "()V"⟩, 77) := ⟨⟨by decide +kernel, by decide +kernel⟩, List.mem_of_getElem? (i := 1019) (by decide +kernel), List.mem_of_getElem? (i := 1455) (by decide +kernel), List.mem_of_getElem? (i := 1456) (by decide +kernel)⟩
theorem lw_p61 : lw_okq (⟨"LakeBooksModel", "goDays", "(I)V"⟩, 77) := ⟨⟨by decide +kernel, by decide +kernel⟩, List.mem_of_getElem? (i := 1019) (by decide +kernel), List.mem_of_getElem? (i := 1459) (by decide +kernel), List.mem_of_getElem? (i := 1460) (by decide +kernel)⟩
theorem lw_p62 : lw_okq (⟨"LakeBooksModel", "putBack", "()V"⟩, 77) := ⟨⟨by decide +kernel, by decide +kernel⟩, List.mem_of_getElem? (i := 1019) (by decide +kernel), List.mem_of_getElem? (i := 1463) (by decide +kernel), List.mem_of_getElem? (i := 1464) (by decide +kernel)⟩
theorem lw_p63 : lw_okq (⟨"LakeBooksModel", "below", "(I)I"⟩, 77) := ⟨⟨by decide +kernel, by decide +kernel⟩, List.mem_of_getElem? (i := 1019) (by decide +kernel), List.mem_of_getElem? (i := 1479) (by decide +kernel), List.mem_of_getElem? (i := 1480) (by decide +kernel)⟩
def lw_privs_4 : List (MethodName × Nat) := [(⟨"LakeBooksModel", "levelOf", "(I)I"⟩, 77), (⟨"LakeBooksModel", "sunOf", "(I)I"⟩, 77), (⟨"LakeBooksModel", "sumOf", "(II)I"⟩, 77), (⟨"LakeBooksModel", "holds", "(II)Z"⟩, 77), (⟨"LakeBooksModel", "factOf", "(II)I"⟩, 77), (⟨"LakeBooksModel", "mark", "()I"⟩, 77), (⟨"LakeBooksModel", "floor", "()I"⟩, 77), (⟨"LakeBooksModel", "spring", "()I"⟩, 77), (⟨"LakeBooksModel", "goDay", "()V"⟩, 77), (⟨"LakeBooksModel", "pours", "(II)V"⟩, 77), (⟨"LakeBooksModel", "held", "(I)I"⟩, 77), (⟨"LakeBooksModel", "isDays", "(I)Z"⟩, 77), (⟨"LakeBooksModel", "save", "()V"⟩, 77), (⟨"LakeBooksModel", "goDays", "(I)V"⟩, 77), (⟨"LakeBooksModel", "putBack", "()V"⟩, 77), (⟨"LakeBooksModel", "below", "(I)I"⟩, 77)]
theorem lw_r4 : ∀ q ∈ lw_privs_4, lw_okq q := List.forall_mem_cons.mpr ⟨lw_p48, List.forall_mem_cons.mpr ⟨lw_p49, List.forall_mem_cons.mpr ⟨lw_p50, List.forall_mem_cons.mpr ⟨lw_p51, List.forall_mem_cons.mpr ⟨lw_p52, List.forall_mem_cons.mpr ⟨lw_p53, List.forall_mem_cons.mpr ⟨lw_p54, List.forall_mem_cons.mpr ⟨lw_p55, List.forall_mem_cons.mpr ⟨lw_p56, List.forall_mem_cons.mpr ⟨lw_p57, List.forall_mem_cons.mpr ⟨lw_p58, List.forall_mem_cons.mpr ⟨lw_p59, List.forall_mem_cons.mpr ⟨lw_p60, List.forall_mem_cons.mpr ⟨lw_p61, List.forall_mem_cons.mpr ⟨lw_p62, List.forall_mem_cons.mpr ⟨lw_p63, fun _ h => absurd h List.not_mem_nil⟩⟩⟩⟩⟩⟩⟩⟩⟩⟩⟩⟩⟩⟩⟩⟩
theorem lw_p64 : lw_okq (⟨"LakeBooksModel", "isAbove", "(I)Z"⟩, 77) := ⟨⟨by decide +kernel, by decide +kernel⟩, List.mem_of_getElem? (i := 1019) (by decide +kernel), List.mem_of_getElem? (i := 1487) (by decide +kernel), List.mem_of_getElem? (i := 1488) (by decide +kernel)⟩
theorem lw_p65 : lw_okq (⟨"LakeBooksModel", "waterBehind", "(I)I"⟩, 77) := ⟨⟨by decide +kernel, by decide +kernel⟩, List.mem_of_getElem? (i := 1019) (by decide +kernel), List.mem_of_getElem? (i := 1505) (by decide +kernel), List.mem_of_getElem? (i := 1506) (by decide +kernel)⟩
theorem lw_p66 : lw_okq (⟨"LakeBooksModel", "lowestTerms", "(III)J"⟩, 77) := ⟨⟨by decide +kernel, by decide +kernel⟩, List.mem_of_getElem? (i := 1019) (by decide +kernel), List.mem_of_getElem? (i := 1518) (by decide +kernel), List.mem_of_getElem? (i := 1519) (by decide +kernel)⟩
theorem lw_p67 : lw_okq (⟨"LakeBooksModel", "divisor", "(II)I"⟩, 77) := ⟨⟨by decide +kernel, by decide +kernel⟩, List.mem_of_getElem? (i := 1019) (by decide +kernel), List.mem_of_getElem? (i := 1522) (by decide +kernel), List.mem_of_getElem? (i := 1523) (by decide +kernel)⟩
theorem lw_p68 : lw_okq (⟨"LakeBooksModel", "isSeen", "()Z"⟩, 77) := ⟨⟨by decide +kernel, by decide +kernel⟩, List.mem_of_getElem? (i := 1019) (by decide +kernel), List.mem_of_getElem? (i := 1538) (by decide +kernel), List.mem_of_getElem? (i := 1539) (by decide +kernel)⟩
theorem lw_p69 : lw_okq (⟨"LakeBooksModel", "isTape", "(I)Z"⟩, 77) := ⟨⟨by decide +kernel, by decide +kernel⟩, List.mem_of_getElem? (i := 1019) (by decide +kernel), List.mem_of_getElem? (i := 1574) (by decide +kernel), List.mem_of_getElem? (i := 1575) (by decide +kernel)⟩
theorem lw_p70 : lw_okq (⟨"LakeBooksModel", "keepsAct", "(II)I"⟩, 77) := ⟨⟨by decide +kernel, by decide +kernel⟩, List.mem_of_getElem? (i := 1019) (by decide +kernel), List.mem_of_getElem? (i := 1590) (by decide +kernel), List.mem_of_getElem? (i := 1591) (by decide +kernel)⟩
theorem lw_p71 : lw_okq (⟨"LakeBooksModel", "body", "(I)V"⟩, 77) := ⟨⟨by decide +kernel, by decide +kernel⟩, List.mem_of_getElem? (i := 1019) (by decide +kernel), List.mem_of_getElem? (i := 1594) (by decide +kernel), List.mem_of_getElem? (i := 1595) (by decide +kernel)⟩
theorem lw_p72 : lw_okq (⟨"LakeBooksModel", "accountKeeps", "(II)I"⟩, 77) := ⟨⟨by decide +kernel, by decide +kernel⟩, List.mem_of_getElem? (i := 1019) (by decide +kernel), List.mem_of_getElem? (i := 1598) (by decide +kernel), List.mem_of_getElem? (i := 1599) (by decide +kernel)⟩
theorem lw_p73 : lw_okq (⟨"LakeBooksModel", "poursAct", "(II)I"⟩, 77) := ⟨⟨by decide +kernel, by decide +kernel⟩, List.mem_of_getElem? (i := 1019) (by decide +kernel), List.mem_of_getElem? (i := 1602) (by decide +kernel), List.mem_of_getElem? (i := 1603) (by decide +kernel)⟩
theorem lw_p74 : lw_okq (⟨"LakeBooksModel", "savingPours", "(II)I"⟩, 77) := ⟨⟨by decide +kernel, by decide +kernel⟩, List.mem_of_getElem? (i := 1019) (by decide +kernel), List.mem_of_getElem? (i := 1606) (by decide +kernel), List.mem_of_getElem? (i := 1607) (by decide +kernel)⟩
theorem lw_p75 : lw_okq (⟨"LakeBooksModel", "accountPours", "(II)I"⟩, 77) := ⟨⟨by decide +kernel, by decide +kernel⟩, List.mem_of_getElem? (i := 1019) (by decide +kernel), List.mem_of_getElem? (i := 1610) (by decide +kernel), List.mem_of_getElem? (i := 1611) (by decide +kernel)⟩
theorem lw_p76 : lw_okq (⟨"LakeBooksModel", "tellsAct", "(II)I"⟩, 77) := ⟨⟨by decide +kernel, by decide +kernel⟩, List.mem_of_getElem? (i := 1019) (by decide +kernel), List.mem_of_getElem? (i := 1614) (by decide +kernel), List.mem_of_getElem? (i := 1615) (by decide +kernel)⟩
theorem lw_p77 : lw_okq (⟨"LakeBooksModel", "accountTells", "(II)I"⟩, 77) := ⟨⟨by decide +kernel, by decide +kernel⟩, List.mem_of_getElem? (i := 1019) (by decide +kernel), List.mem_of_getElem? (i := 1618) (by decide +kernel), List.mem_of_getElem? (i := 1619) (by decide +kernel)⟩
theorem lw_p78 : lw_okq (⟨"LakeBooksModel", "narrow", "(IJ)J"⟩, 77) := ⟨⟨by decide +kernel, by decide +kernel⟩, List.mem_of_getElem? (i := 1019) (by decide +kernel), List.mem_of_getElem? (i := 1642) (by decide +kernel), List.mem_of_getElem? (i := 1643) (by decide +kernel)⟩
def lw_privs_5 : List (MethodName × Nat) := [(⟨"LakeBooksModel", "isAbove", "(I)Z"⟩, 77), (⟨"LakeBooksModel", "waterBehind", "(I)I"⟩, 77), (⟨"LakeBooksModel", "lowestTerms", "(III)J"⟩, 77), (⟨"LakeBooksModel", "divisor", "(II)I"⟩, 77), (⟨"LakeBooksModel", "isSeen", "()Z"⟩, 77), (⟨"LakeBooksModel", "isTape", "(I)Z"⟩, 77), (⟨"LakeBooksModel", "keepsAct", "(II)I"⟩, 77), (⟨"LakeBooksModel", "body", "(I)V"⟩, 77), (⟨"LakeBooksModel", "accountKeeps", "(II)I"⟩, 77), (⟨"LakeBooksModel", "poursAct", "(II)I"⟩, 77), (⟨"LakeBooksModel", "savingPours", "(II)I"⟩, 77), (⟨"LakeBooksModel", "accountPours", "(II)I"⟩, 77), (⟨"LakeBooksModel", "tellsAct", "(II)I"⟩, 77), (⟨"LakeBooksModel", "accountTells", "(II)I"⟩, 77), (⟨"LakeBooksModel", "narrow", "(IJ)J"⟩, 77)]
theorem lw_r5 : ∀ q ∈ lw_privs_5, lw_okq q := List.forall_mem_cons.mpr ⟨lw_p64, List.forall_mem_cons.mpr ⟨lw_p65, List.forall_mem_cons.mpr ⟨lw_p66, List.forall_mem_cons.mpr ⟨lw_p67, List.forall_mem_cons.mpr ⟨lw_p68, List.forall_mem_cons.mpr ⟨lw_p69, List.forall_mem_cons.mpr ⟨lw_p70, List.forall_mem_cons.mpr ⟨lw_p71, List.forall_mem_cons.mpr ⟨lw_p72, List.forall_mem_cons.mpr ⟨lw_p73, List.forall_mem_cons.mpr ⟨lw_p74, List.forall_mem_cons.mpr ⟨lw_p75, List.forall_mem_cons.mpr ⟨lw_p76, List.forall_mem_cons.mpr ⟨lw_p77, List.forall_mem_cons.mpr ⟨lw_p78, fun _ h => absurd h List.not_mem_nil⟩⟩⟩⟩⟩⟩⟩⟩⟩⟩⟩⟩⟩⟩⟩
def lw_privs : List (MethodName × Nat) := lw_privs_1 ++ (lw_privs_2 ++ (lw_privs_3 ++ (lw_privs_4 ++ (lw_privs_5))))
def lw_tbl : List Cond := k2_sels lw_privs ++ tables_1
theorem lw_privs_ok : ∀ q ∈ lw_privs, lw_okq q := by
  show ∀ q ∈ lw_privs_1 ++ (lw_privs_2 ++ (lw_privs_3 ++ (lw_privs_4 ++ (lw_privs_5)))), lw_okq q
  exact List.forall_mem_append.mpr ⟨lw_r1, List.forall_mem_append.mpr ⟨lw_r2, List.forall_mem_append.mpr ⟨lw_r3, List.forall_mem_append.mpr ⟨lw_r4, lw_r5⟩⟩⟩⟩
end
section
/-! ===== BEGIN printed: names, fields, word lists, decode rows ===== -/
def RX0 : String := "LakeBooks$Account"
def TX0 : u_T := fun k => match k with
  | 0 => ("LakeBooks$Account", "number", "I", true)
  | 1 => ("LakeBooks$Account", "row", "[I", true)
  | 2 => ("LakeBooks$Account", "here", "Z", false)
  | 3 => ("LakeBooks$Account", "kind", "I", false)
  | 4 => ("LakeBooks$Account", "v", "I", false)
  | 5 => ("LakeBooks$Account", "buckets", "I", false)
  | 6 => ("LakeBooks$Account", "daily", "I", false)
  | 7 => ("LakeBooks$Account", "stones", "I", false)
  | 8 => ("LakeBooks$Account", "dayPours", "I", false)
  | _ => ("LakeBooks$Account", "daySun", "I", false)
def tyX0 : Nat → FieldType := fun k => match k with
  | 0 => .int
  | 1 => .array .int
  | 2 => .boolean
  | 3 => .int
  | 4 => .int
  | 5 => .int
  | 6 => .int
  | 7 => .int
  | 8 => .int
  | _ => .int
abbrev wsX00 : List Cond := u_ws RX0 TX0 10
theorem nmX0 : ∀ a, a < 10 → ∀ b, b < 10 → a ≠ b → (TX0 a).2.1 ≠ (TX0 b).2.1 := by decide +kernel
theorem tyX0_ok : ∀ k, k < 10 → parseFieldDescriptor (TX0 k).2.2.1 = some (tyX0 k) := by decide +kernel
abbrev cX0_init : ByteArray := prog_2_method_1_code
def yX0_init : MethodName := ⟨RX0, "<init>", "(I)V"⟩
abbrev cX0_open : ByteArray := prog_2_method_2_code
def yX0_open : MethodName := ⟨RX0, "open", "(III)V"⟩
abbrev cX0_change : ByteArray := prog_2_method_3_code
def yX0_change : MethodName := ⟨RX0, "change", "(II)I"⟩
abbrev cX0_changeRow : ByteArray := prog_2_method_4_code
def yX0_changeRow : MethodName := ⟨RX0, "changeRow", "(II)I"⟩
abbrev cX0_lifts : ByteArray := prog_2_method_5_code
def yX0_lifts : MethodName := ⟨RX0, "lifts", "()I"⟩
abbrev cX0_pours : ByteArray := prog_2_method_6_code
def yX0_pours : MethodName := ⟨RX0, "pours", "(III)I"⟩
abbrev cX0_holdBuckets : ByteArray := prog_2_method_7_code
def yX0_holdBuckets : MethodName := ⟨RX0, "holdBuckets", "()V"⟩
abbrev cX0_copyFrom : ByteArray := prog_2_method_8_code
def yX0_copyFrom : MethodName := ⟨RX0, "copyFrom", "(LLakeBooks$Account;)V"⟩
def RX1 : String := "LakeBooks$Acts"
def TX1 : u_T := fun k => match k with
  | 0 => ("LakeBooks$Acts", "bodies", "[I", true)
  | _ => ("LakeBooks$Acts", "ran", "I", false)
def tyX1 : Nat → FieldType := fun k => match k with
  | 0 => .array .int
  | _ => .int
abbrev wsX10 : List Cond := u_ws RX1 TX1 2
theorem nmX1 : ∀ a, a < 2 → ∀ b, b < 2 → a ≠ b → (TX1 a).2.1 ≠ (TX1 b).2.1 := by decide +kernel
theorem tyX1_ok : ∀ k, k < 2 → parseFieldDescriptor (TX1 k).2.2.1 = some (tyX1 k) := by decide +kernel
abbrev cX1_init : ByteArray := prog_3_method_1_code
def yX1_init : MethodName := ⟨RX1, "<init>", "()V"⟩
abbrev cX1_ran : ByteArray := prog_3_method_2_code
def yX1_ran : MethodName := ⟨RX1, "ran", "()I"⟩
abbrev cX1_bodyAt : ByteArray := prog_3_method_3_code
def yX1_bodyAt : MethodName := ⟨RX1, "bodyAt", "(I)I"⟩
abbrev cX1_perform : ByteArray := prog_3_method_4_code
def yX1_perform : MethodName := ⟨RX1, "perform", "(LLakeBooks$Account;II)I"⟩
abbrev cX1_run : ByteArray := prog_3_method_5_code
def yX1_run : MethodName := ⟨RX1, "run", "(LLakeBooks$Account;IIII)I"⟩
abbrev cX1_runBody : ByteArray := prog_3_method_6_code
def yX1_runBody : MethodName := ⟨RX1, "runBody", "(LLakeBooks$Account;IIII)I"⟩
abbrev cX1_bodyOf : ByteArray := prog_3_method_7_code
def yX1_bodyOf : MethodName := ⟨RX1, "bodyOf", "(II)I"⟩
abbrev cX1_note : ByteArray := prog_3_method_8_code
def yX1_note : MethodName := ⟨RX1, "note", "(I)V"⟩
def RX2 : String := "LakeBooks$Asked"
def TX2 : u_T := fun k => match k with
  | _ => ("LakeBooks$Asked", "later", "LLakeBooks$State;", true)
def tyX2 : Nat → FieldType := fun k => match k with
  | _ => .object "LakeBooks$State"
abbrev wsX20 : List Cond := u_ws RX2 TX2 1
theorem nmX2 : ∀ a, a < 1 → ∀ b, b < 1 → a ≠ b → (TX2 a).2.1 ≠ (TX2 b).2.1 := by decide +kernel
theorem tyX2_ok : ∀ k, k < 1 → parseFieldDescriptor (TX2 k).2.2.1 = some (tyX2 k) := by decide +kernel
abbrev cX2_init : ByteArray := prog_4_method_1_code
def yX2_init : MethodName := ⟨RX2, "<init>", "()V"⟩
abbrev cX2_after : ByteArray := prog_4_method_2_code
def yX2_after : MethodName := ⟨RX2, "after", "(LLakeBooks$State;I)LLakeBooks$State;"⟩
abbrev cX2_afterPlan : ByteArray := prog_4_method_3_code
def yX2_afterPlan : MethodName := ⟨RX2, "afterPlan", "(LLakeBooks$State;)LLakeBooks$State;"⟩
abbrev cX2_daysTillDry : ByteArray := prog_4_method_4_code
def yX2_daysTillDry : MethodName := ⟨RX2, "daysTillDry", "(LLakeBooks$State;)I"⟩
abbrev cX2_daysTillLowest : ByteArray := prog_4_method_5_code
def yX2_daysTillLowest : MethodName := ⟨RX2, "daysTillLowest", "(LLakeBooks$State;I)I"⟩
abbrev cX2_firstBelow : ByteArray := prog_4_method_6_code
def yX2_firstBelow : MethodName := ⟨RX2, "firstBelow", "(LLakeBooks$State;I)I"⟩
abbrev cX2_leastDaily : ByteArray := prog_4_method_7_code
def yX2_leastDaily : MethodName := ⟨RX2, "leastDaily", "(LLakeBooks$State;II)I"⟩
abbrev cX2_daysTillEnough : ByteArray := prog_4_method_8_code
def yX2_daysTillEnough : MethodName := ⟨RX2, "daysTillEnough", "(LLakeBooks$State;II)I"⟩
abbrev cX2_waterBy : ByteArray := prog_4_method_9_code
def yX2_waterBy : MethodName := ⟨RX2, "waterBy", "(LLakeBooks$State;II)I"⟩
abbrev cX2_leastWell : ByteArray := prog_4_method_10_code
def yX2_leastWell : MethodName := ⟨RX2, "leastWell", "(LLakeBooks$State;I)I"⟩
abbrev cX2_sunShare : ByteArray := prog_4_method_11_code
def yX2_sunShare : MethodName := ⟨RX2, "sunShare", "(LLakeBooks$State;III)J"⟩
abbrev cX2_isAsSeenWith : ByteArray := prog_4_method_12_code
def yX2_isAsSeenWith : MethodName := ⟨RX2, "isAsSeenWith", "(LLakeBooks$State;II)Z"⟩
abbrev cX2_absencesAsSeen : ByteArray := prog_4_method_13_code
def yX2_absencesAsSeen : MethodName := ⟨RX2, "absencesAsSeen", "(LLakeBooks$State;)I"⟩
abbrev cX2_springlessOdds : ByteArray := prog_4_method_14_code
def yX2_springlessOdds : MethodName := ⟨RX2, "springlessOdds", "(LLakeBooks$State;II)J"⟩
abbrev cX2_meanLevel : ByteArray := prog_4_method_15_code
def yX2_meanLevel : MethodName := ⟨RX2, "meanLevel", "(LLakeBooks$State;II)J"⟩
abbrev cX2_beginWithout : ByteArray := prog_4_method_16_code
def yX2_beginWithout : MethodName := ⟨RX2, "beginWithout", "(LLakeBooks$State;I)V"⟩
abbrev cX2_staysWet : ByteArray := prog_4_method_17_code
def yX2_staysWet : MethodName := ⟨RX2, "staysWet", "(I)Z"⟩
abbrev cX2_goesAsSeen : ByteArray := prog_4_method_18_code
def yX2_goesAsSeen : MethodName := ⟨RX2, "goesAsSeen", "()Z"⟩
abbrev cX2_lastSeen : ByteArray := prog_4_method_19_code
def yX2_lastSeen : MethodName := ⟨RX2, "lastSeen", "()I"⟩
abbrev cX2_isAsSeenOn : ByteArray := prog_4_method_20_code
def yX2_isAsSeenOn : MethodName := ⟨RX2, "isAsSeenOn", "(I)Z"⟩
def RX3 : String := "LakeBooks$Lake"
def TX3 : u_T := fun k => match k with
  | _ => ("LakeBooks$Lake", "areas", "[I", true)
def tyX3 : Nat → FieldType := fun k => match k with
  | _ => .array .int
abbrev wsX30 : List Cond := u_ws RX3 TX3 1
theorem nmX3 : ∀ a, a < 1 → ∀ b, b < 1 → a ≠ b → (TX3 a).2.1 ≠ (TX3 b).2.1 := by decide +kernel
theorem tyX3_ok : ∀ k, k < 1 → parseFieldDescriptor (TX3 k).2.2.1 = some (tyX3 k) := by decide +kernel
abbrev cX3_init : ByteArray := prog_5_method_1_code
def yX3_init : MethodName := ⟨RX3, "<init>", "()V"⟩
abbrev cX3_areaOf : ByteArray := prog_5_method_2_code
def yX3_areaOf : MethodName := ⟨RX3, "areaOf", "(I)I"⟩
abbrev cX3_change : ByteArray := prog_5_method_3_code
def yX3_change : MethodName := ⟨RX3, "change", "(II)I"⟩
abbrev cX3_volumeOf : ByteArray := prog_5_method_4_code
def yX3_volumeOf : MethodName := ⟨RX3, "volumeOf", "(I)I"⟩
abbrev cX3_levelOf : ByteArray := prog_5_method_5_code
def yX3_levelOf : MethodName := ⟨RX3, "levelOf", "(I)I"⟩
abbrev cX3_copyFrom : ByteArray := prog_5_method_6_code
def yX3_copyFrom : MethodName := ⟨RX3, "copyFrom", "(LLakeBooks$Lake;)V"⟩
def RX4 : String := "LakeBooks$Law"
def TX4 : u_T := fun k => match k with
  | 0 => ("LakeBooks$Law", "words", "[I", true)
  | 1 => ("LakeBooks$Law", "numbers", "[I", true)
  | 2 => ("LakeBooks$Law", "ends", "[I", true)
  | 3 => ("LakeBooks$Law", "code", "[I", true)
  | 4 => ("LakeBooks$Law", "values", "[I", true)
  | 5 => ("LakeBooks$Law", "clauses", "I", false)
  | 6 => ("LakeBooks$Law", "codes", "I", false)
  | 7 => ("LakeBooks$Law", "mark", "I", false)
  | 8 => ("LakeBooks$Law", "floor", "I", false)
  | _ => ("LakeBooks$Law", "rate", "I", false)
def tyX4 : Nat → FieldType := fun k => match k with
  | 0 => .array .int
  | 1 => .array .int
  | 2 => .array .int
  | 3 => .array .int
  | 4 => .array .int
  | 5 => .int
  | 6 => .int
  | 7 => .int
  | 8 => .int
  | _ => .int
abbrev wsX40 : List Cond := u_ws RX4 TX4 10
theorem nmX4 : ∀ a, a < 10 → ∀ b, b < 10 → a ≠ b → (TX4 a).2.1 ≠ (TX4 b).2.1 := by decide +kernel
theorem tyX4_ok : ∀ k, k < 10 → parseFieldDescriptor (TX4 k).2.2.1 = some (tyX4 k) := by decide +kernel
abbrev cX4_init : ByteArray := prog_6_method_1_code
def yX4_init : MethodName := ⟨RX4, "<init>", "()V"⟩
abbrev cX4_clear : ByteArray := prog_6_method_2_code
def yX4_clear : MethodName := ⟨RX4, "clear", "()V"⟩
abbrev cX4_tell : ByteArray := prog_6_method_3_code
def yX4_tell : MethodName := ⟨RX4, "tell", "(II)V"⟩
abbrev cX4_put : ByteArray := prog_6_method_4_code
def yX4_put : MethodName := ⟨RX4, "put", "(I)V"⟩
abbrev cX4_close : ByteArray := prog_6_method_5_code
def yX4_close : MethodName := ⟨RX4, "close", "(II)V"⟩
abbrev cX4_together : ByteArray := prog_6_method_6_code
def yX4_together : MethodName := ⟨RX4, "together", "(ILLakeBooks$Account;II)I"⟩
abbrev cX4_tellValues : ByteArray := prog_6_method_7_code
def yX4_tellValues : MethodName := ⟨RX4, "tellValues", "(LLakeBooks$Account;II)V"⟩
abbrev cX4_holds : ByteArray := prog_6_method_8_code
def yX4_holds : MethodName := ⟨RX4, "holds", "(II)Z"⟩
def RX5 : String := "LakeBooks$Reader"
def TX5 : u_T := fun k => match k with
  | 0 => ("LakeBooks$Reader", "text", "[I", true)
  | 1 => ("LakeBooks$Reader", "length", "I", false)
  | _ => ("LakeBooks$Reader", "place", "I", false)
def tyX5 : Nat → FieldType := fun k => match k with
  | 0 => .array .int
  | 1 => .int
  | _ => .int
abbrev wsX50 : List Cond := u_ws RX5 TX5 3
theorem nmX5 : ∀ a, a < 3 → ∀ b, b < 3 → a ≠ b → (TX5 a).2.1 ≠ (TX5 b).2.1 := by decide +kernel
theorem tyX5_ok : ∀ k, k < 3 → parseFieldDescriptor (TX5 k).2.2.1 = some (tyX5 k) := by decide +kernel
abbrev cX5_init : ByteArray := prog_7_method_1_code
def yX5_init : MethodName := ⟨RX5, "<init>", "()V"⟩
abbrev cX5_length : ByteArray := prog_7_method_2_code
def yX5_length : MethodName := ⟨RX5, "length", "()I"⟩
abbrev cX5_add : ByteArray := prog_7_method_3_code
def yX5_add : MethodName := ⟨RX5, "add", "(I)I"⟩
abbrev cX5_clear : ByteArray := prog_7_method_4_code
def yX5_clear : MethodName := ⟨RX5, "clear", "()V"⟩
abbrev cX5_parse : ByteArray := prog_7_method_5_code
def yX5_parse : MethodName := ⟨RX5, "parse", "(LLakeBooks$Law;)I"⟩
abbrev cX5_wordOf : ByteArray := prog_7_method_6_code
def yX5_wordOf : MethodName := ⟨RX5, "wordOf", "(I)Ljava/lang/String;"⟩
abbrev cX5_take : ByteArray := prog_7_method_7_code
def yX5_take : MethodName := ⟨RX5, "take", "(I)Z"⟩
abbrev cX5_takeWord : ByteArray := prog_7_method_8_code
def yX5_takeWord : MethodName := ⟨RX5, "takeWord", "()I"⟩
abbrev cX5_sameSigns : ByteArray := prog_7_method_9_code
def yX5_sameSigns : MethodName := ⟨RX5, "sameSigns", "(Ljava/lang/String;)I"⟩
abbrev cX5_takeNumber : ByteArray := prog_7_method_10_code
def yX5_takeNumber : MethodName := ⟨RX5, "takeNumber", "()I"⟩
abbrev cX5_takeEither : ByteArray := prog_7_method_11_code
def yX5_takeEither : MethodName := ⟨RX5, "takeEither", "(LLakeBooks$Law;I)Z"⟩
abbrev cX5_takeBoth : ByteArray := prog_7_method_12_code
def yX5_takeBoth : MethodName := ⟨RX5, "takeBoth", "(LLakeBooks$Law;I)Z"⟩
abbrev cX5_takeFactor : ByteArray := prog_7_method_13_code
def yX5_takeFactor : MethodName := ⟨RX5, "takeFactor", "(LLakeBooks$Law;I)Z"⟩
abbrev cX5_takeTest : ByteArray := prog_7_method_14_code
def yX5_takeTest : MethodName := ⟨RX5, "takeTest", "(LLakeBooks$Law;)Z"⟩
abbrev cX5_takeOneOf : ByteArray := prog_7_method_15_code
def yX5_takeOneOf : MethodName := ⟨RX5, "takeOneOf", "(Ljava/lang/String;)I"⟩
def RX6 : String := "LakeBooks$Rows"
def TX6 : u_T := fun k => match k with
  | 0 => ("LakeBooks$Rows", "firsts", "[I", true)
  | 1 => ("LakeBooks$Rows", "seconds", "[I", true)
  | 2 => ("LakeBooks$Rows", "most", "I", true)
  | _ => ("LakeBooks$Rows", "used", "I", false)
def tyX6 : Nat → FieldType := fun k => match k with
  | 0 => .array .int
  | 1 => .array .int
  | 2 => .int
  | _ => .int
abbrev wsX60 : List Cond := u_ws RX6 TX6 4
theorem nmX6 : ∀ a, a < 4 → ∀ b, b < 4 → a ≠ b → (TX6 a).2.1 ≠ (TX6 b).2.1 := by decide +kernel
theorem tyX6_ok : ∀ k, k < 4 → parseFieldDescriptor (TX6 k).2.2.1 = some (tyX6 k) := by decide +kernel
abbrev cX6_init : ByteArray := prog_8_method_1_code
def yX6_init : MethodName := ⟨RX6, "<init>", "(I)V"⟩
abbrev cX6_size : ByteArray := prog_8_method_2_code
def yX6_size : MethodName := ⟨RX6, "size", "()I"⟩
abbrev cX6_first : ByteArray := prog_8_method_3_code
def yX6_first : MethodName := ⟨RX6, "first", "(I)I"⟩
abbrev cX6_second : ByteArray := prog_8_method_4_code
def yX6_second : MethodName := ⟨RX6, "second", "(I)I"⟩
abbrev cX6_clear : ByteArray := prog_8_method_5_code
def yX6_clear : MethodName := ⟨RX6, "clear", "()I"⟩
abbrev cX6_add : ByteArray := prog_8_method_6_code
def yX6_add : MethodName := ⟨RX6, "add", "(II)I"⟩
abbrev cX6_copyFrom : ByteArray := prog_8_method_7_code
def yX6_copyFrom : MethodName := ⟨RX6, "copyFrom", "(LLakeBooks$Rows;)V"⟩
def RX7 : String := "LakeBooks$State"
def TX7 : u_T := fun k => match k with
  | 0 => ("LakeBooks$State", "lake", "LLakeBooks$Lake;", true)
  | 1 => ("LakeBooks$State", "accounts", "[LLakeBooks$Account;", true)
  | 2 => ("LakeBooks$State", "seen", "LLakeBooks$Rows;", true)
  | 3 => ("LakeBooks$State", "plan", "LLakeBooks$Rows;", true)
  | 4 => ("LakeBooks$State", "book", "LLakeBooks$Rows;", true)
  | 5 => ("LakeBooks$State", "law", "LLakeBooks$Law;", false)
  | 6 => ("LakeBooks$State", "accountCount", "I", false)
  | 7 => ("LakeBooks$State", "water", "I", false)
  | 8 => ("LakeBooks$State", "town", "I", false)
  | 9 => ("LakeBooks$State", "day", "I", false)
  | 10 => ("LakeBooks$State", "moreSpring", "I", false)
  | _ => ("LakeBooks$State", "springlessDay", "I", false)
def tyX7 : Nat → FieldType := fun k => match k with
  | 0 => .object "LakeBooks$Lake"
  | 1 => .array (.object "LakeBooks$Account")
  | 2 => .object "LakeBooks$Rows"
  | 3 => .object "LakeBooks$Rows"
  | 4 => .object "LakeBooks$Rows"
  | 5 => .object "LakeBooks$Law"
  | 6 => .int
  | 7 => .int
  | 8 => .int
  | 9 => .int
  | 10 => .int
  | _ => .int
abbrev wsX70 : List Cond := u_ws RX7 TX7 12
theorem nmX7 : ∀ a, a < 12 → ∀ b, b < 12 → a ≠ b → (TX7 a).2.1 ≠ (TX7 b).2.1 := by decide +kernel
theorem tyX7_ok : ∀ k, k < 12 → parseFieldDescriptor (TX7 k).2.2.1 = some (tyX7 k) := by decide +kernel
abbrev cX7_init : ByteArray := prog_9_method_1_code
def yX7_init : MethodName := ⟨RX7, "<init>", "()V"⟩
abbrev cX7_find : ByteArray := prog_9_method_2_code
def yX7_find : MethodName := ⟨RX7, "find", "(I)LLakeBooks$Account;"⟩
abbrev cX7_open : ByteArray := prog_9_method_3_code
def yX7_open : MethodName := ⟨RX7, "open", "(III)I"⟩
abbrev cX7_bucketsOf : ByteArray := prog_9_method_4_code
def yX7_bucketsOf : MethodName := ⟨RX7, "bucketsOf", "(I)I"⟩
abbrev cX7_level : ByteArray := prog_9_method_5_code
def yX7_level : MethodName := ⟨RX7, "level", "()I"⟩
abbrev cX7_spring : ByteArray := prog_9_method_6_code
def yX7_spring : MethodName := ⟨RX7, "spring", "(I)I"⟩
abbrev cX7_sunOf : ByteArray := prog_9_method_7_code
def yX7_sunOf : MethodName := ⟨RX7, "sunOf", "(LLakeBooks$Account;I)I"⟩
abbrev cX7_isDry : ByteArray := prog_9_method_8_code
def yX7_isDry : MethodName := ⟨RX7, "isDry", "()Z"⟩
abbrev cX7_firstBelow : ByteArray := prog_9_method_9_code
def yX7_firstBelow : MethodName := ⟨RX7, "firstBelow", "(I)I"⟩
abbrev cX7_richestNow : ByteArray := prog_9_method_10_code
def yX7_richestNow : MethodName := ⟨RX7, "richestNow", "()I"⟩
abbrev cX7_sunOfDay : ByteArray := prog_9_method_11_code
def yX7_sunOfDay : MethodName := ⟨RX7, "sunOfDay", "()I"⟩
abbrev cX7_pass : ByteArray := prog_9_method_12_code
def yX7_pass : MethodName := ⟨RX7, "pass", "()V"⟩
abbrev cX7_pourBy : ByteArray := prog_9_method_13_code
def yX7_pourBy : MethodName := ⟨RX7, "pourBy", "(LLakeBooks$Account;I)V"⟩
abbrev cX7_spillTo : ByteArray := prog_9_method_14_code
def yX7_spillTo : MethodName := ⟨RX7, "spillTo", "(I)V"⟩
abbrev cX7_copyFrom : ByteArray := prog_9_method_15_code
def yX7_copyFrom : MethodName := ⟨RX7, "copyFrom", "(LLakeBooks$State;)V"⟩
def RX8 : String := "LakeBooks$Tape"
def TX8 : u_T := fun k => match k with
  | 0 => ("LakeBooks$Tape", "items", "[J", true)
  | 1 => ("LakeBooks$Tape", "sort", "I", false)
  | _ => ("LakeBooks$Tape", "size", "I", false)
def tyX8 : Nat → FieldType := fun k => match k with
  | 0 => .array .long
  | 1 => .int
  | _ => .int
abbrev wsX80 : List Cond := u_ws RX8 TX8 3
theorem nmX8 : ∀ a, a < 3 → ∀ b, b < 3 → a ≠ b → (TX8 a).2.1 ≠ (TX8 b).2.1 := by decide +kernel
theorem tyX8_ok : ∀ k, k < 3 → parseFieldDescriptor (TX8 k).2.2.1 = some (tyX8 k) := by decide +kernel
abbrev cX8_init : ByteArray := prog_10_method_1_code
def yX8_init : MethodName := ⟨RX8, "<init>", "()V"⟩
abbrev cX8_isEmpty : ByteArray := prog_10_method_2_code
def yX8_isEmpty : MethodName := ⟨RX8, "isEmpty", "()Z"⟩
abbrev cX8_become : ByteArray := prog_10_method_3_code
def yX8_become : MethodName := ⟨RX8, "become", "(II)I"⟩
abbrev cX8_put : ByteArray := prog_10_method_4_code
def yX8_put : MethodName := ⟨RX8, "put", "(IJ)Z"⟩
abbrev cX8_get : ByteArray := prog_10_method_5_code
def yX8_get : MethodName := ⟨RX8, "get", "(I)J"⟩
abbrev cX8_takeFrom : ByteArray := prog_10_method_6_code
def yX8_takeFrom : MethodName := ⟨RX8, "takeFrom", "(LLakeBooks$Tape;III)Z"⟩
abbrev cX8_cut : ByteArray := prog_10_method_7_code
def yX8_cut : MethodName := ⟨RX8, "cut", "(J)J"⟩
def RX9 : String := "LakeBooks"
def TX9 : u_T := fun k => match k with
  | 0 => ("LakeBooks", "now", "LLakeBooks$State;", true)
  | 1 => ("LakeBooks", "image", "LLakeBooks$State;", true)
  | 2 => ("LakeBooks", "asked", "LLakeBooks$Asked;", true)
  | 3 => ("LakeBooks", "reader", "LLakeBooks$Reader;", true)
  | 4 => ("LakeBooks", "laws", "[LLakeBooks$Law;", true)
  | 5 => ("LakeBooks", "tapes", "[LLakeBooks$Tape;", true)
  | 6 => ("LakeBooks", "acts", "LLakeBooks$Acts;", true)
  | 7 => ("LakeBooks", "imaged", "Z", false)
  | _ => ("LakeBooks", "lawCount", "I", false)
def tyX9 : Nat → FieldType := fun k => match k with
  | 0 => .object "LakeBooks$State"
  | 1 => .object "LakeBooks$State"
  | 2 => .object "LakeBooks$Asked"
  | 3 => .object "LakeBooks$Reader"
  | 4 => .array (.object "LakeBooks$Law")
  | 5 => .array (.object "LakeBooks$Tape")
  | 6 => .object "LakeBooks$Acts"
  | 7 => .boolean
  | _ => .int
abbrev wsX90 : List Cond := u_ws RX9 TX9 9
theorem nmX9 : ∀ a, a < 9 → ∀ b, b < 9 → a ≠ b → (TX9 a).2.1 ≠ (TX9 b).2.1 := by decide +kernel
theorem tyX9_ok : ∀ k, k < 9 → parseFieldDescriptor (TX9 k).2.2.1 = some (tyX9 k) := by decide +kernel
abbrev cX9_init : ByteArray := prog_1_method_1_code
def yX9_init : MethodName := ⟨RX9, "<init>", "()V"⟩
abbrev cX9_area : ByteArray := prog_1_method_2_code
def yX9_area : MethodName := ⟨RX9, "area", "(II)I"⟩
abbrev cX9_volume : ByteArray := prog_1_method_3_code
def yX9_volume : MethodName := ⟨RX9, "volume", "(I)I"⟩
abbrev cX9_account : ByteArray := prog_1_method_4_code
def yX9_account : MethodName := ⟨RX9, "account", "(III)I"⟩
abbrev cX9_of : ByteArray := prog_1_method_5_code
def yX9_of : MethodName := ⟨RX9, "of", "(II)I"⟩
abbrev cX9_set : ByteArray := prog_1_method_6_code
def yX9_set : MethodName := ⟨RX9, "set", "(III)I"⟩
abbrev cX9_row : ByteArray := prog_1_method_7_code
def yX9_row : MethodName := ⟨RX9, "row", "(III)I"⟩
abbrev cX9_water : ByteArray := prog_1_method_8_code
def yX9_water : MethodName := ⟨RX9, "water", "(I)I"⟩
abbrev cX9_feed : ByteArray := prog_1_method_9_code
def yX9_feed : MethodName := ⟨RX9, "feed", "(I)I"⟩
abbrev cX9_law : ByteArray := prog_1_method_10_code
def yX9_law : MethodName := ⟨RX9, "law", "()I"⟩
abbrev cX9_told : ByteArray := prog_1_method_11_code
def yX9_told : MethodName := ⟨RX9, "told", "(I)I"⟩
abbrev cX9_day : ByteArray := prog_1_method_12_code
def yX9_day : MethodName := ⟨RX9, "day", "()I"⟩
abbrev cX9_on : ByteArray := prog_1_method_13_code
def yX9_on : MethodName := ⟨RX9, "on", "(II)I"⟩
abbrev cX9_dry : ByteArray := prog_1_method_14_code
def yX9_dry : MethodName := ⟨RX9, "dry", "()I"⟩
abbrev cX9_lowest : ByteArray := prog_1_method_15_code
def yX9_lowest : MethodName := ⟨RX9, "lowest", "(I)I"⟩
abbrev cX9_ruined : ByteArray := prog_1_method_16_code
def yX9_ruined : MethodName := ⟨RX9, "ruined", "(I)I"⟩
abbrev cX9_may : ByteArray := prog_1_method_17_code
def yX9_may : MethodName := ⟨RX9, "may", "(II)I"⟩
abbrev cX9_enough : ByteArray := prog_1_method_18_code
def yX9_enough : MethodName := ⟨RX9, "enough", "(II)I"⟩
abbrev cX9_lifted : ByteArray := prog_1_method_19_code
def yX9_lifted : MethodName := ⟨RX9, "lifted", "()I"⟩
abbrev cX9_without : ByteArray := prog_1_method_20_code
def yX9_without : MethodName := ⟨RX9, "without", "(II)I"⟩
abbrev cX9_wells : ByteArray := prog_1_method_21_code
def yX9_wells : MethodName := ⟨RX9, "wells", "(I)I"⟩
abbrev cX9_share : ByteArray := prog_1_method_22_code
def yX9_share : MethodName := ⟨RX9, "share", "(III)J"⟩
abbrev cX9_richest : ByteArray := prog_1_method_23_code
def yX9_richest : MethodName := ⟨RX9, "richest", "(I)I"⟩
abbrev cX9_see : ByteArray := prog_1_method_24_code
def yX9_see : MethodName := ⟨RX9, "see", "(II)I"⟩
abbrev cX9_hidden : ByteArray := prog_1_method_25_code
def yX9_hidden : MethodName := ⟨RX9, "hidden", "(II)I"⟩
abbrev cX9_whose : ByteArray := prog_1_method_26_code
def yX9_whose : MethodName := ⟨RX9, "whose", "()I"⟩
abbrev cX9_odds : ByteArray := prog_1_method_27_code
def yX9_odds : MethodName := ⟨RX9, "odds", "(II)J"⟩
abbrev cX9_mean : ByteArray := prog_1_method_28_code
def yX9_mean : MethodName := ⟨RX9, "mean", "(II)J"⟩
abbrev cX9_plan : ByteArray := prog_1_method_29_code
def yX9_plan : MethodName := ⟨RX9, "plan", "(II)I"⟩
abbrev cX9_planned : ByteArray := prog_1_method_30_code
def yX9_planned : MethodName := ⟨RX9, "planned", "(I)I"⟩
abbrev cX9_book : ByteArray := prog_1_method_31_code
def yX9_book : MethodName := ⟨RX9, "book", "(II)I"⟩
abbrev cX9_looked : ByteArray := prog_1_method_32_code
def yX9_looked : MethodName := ⟨RX9, "looked", "()I"⟩
abbrev cX9_judge : ByteArray := prog_1_method_33_code
def yX9_judge : MethodName := ⟨RX9, "judge", "(II)I"⟩
abbrev cX9_image : ByteArray := prog_1_method_34_code
def yX9_image : MethodName := ⟨RX9, "image", "()I"⟩
abbrev cX9_undo : ByteArray := prog_1_method_35_code
def yX9_undo : MethodName := ⟨RX9, "undo", "()I"⟩
abbrev cX9_act : ByteArray := prog_1_method_36_code
def yX9_act : MethodName := ⟨RX9, "act", "(III)I"⟩
abbrev cX9_trace : ByteArray := prog_1_method_37_code
def yX9_trace : MethodName := ⟨RX9, "trace", "(I)I"⟩
abbrev cX9_taken : ByteArray := prog_1_method_38_code
def yX9_taken : MethodName := ⟨RX9, "taken", "(II)I"⟩
abbrev cX9_count : ByteArray := prog_1_method_39_code
def yX9_count : MethodName := ⟨RX9, "count", "(I)I"⟩
abbrev cX9_tape : ByteArray := prog_1_method_40_code
def yX9_tape : MethodName := ⟨RX9, "tape", "(III)I"⟩
abbrev cX9_item : ByteArray := prog_1_method_41_code
def yX9_item : MethodName := ⟨RX9, "item", "(IIJ)I"⟩
abbrev cX9_read : ByteArray := prog_1_method_42_code
def yX9_read : MethodName := ⟨RX9, "read", "(II)J"⟩
abbrev cX9_shift : ByteArray := prog_1_method_43_code
def yX9_shift : MethodName := ⟨RX9, "shift", "(IIIII)I"⟩
abbrev cX9_within : ByteArray := prog_1_method_44_code
def yX9_within : MethodName := ⟨RX9, "within", "(III)Z"⟩
abbrev cX9_isDaily : ByteArray := prog_1_method_45_code
def yX9_isDaily : MethodName := ⟨RX9, "isDaily", "(I)Z"⟩
abbrev cX9_isPart : ByteArray := prog_1_method_46_code
def yX9_isPart : MethodName := ⟨RX9, "isPart", "(I)Z"⟩
abbrev cX9_maySet : ByteArray := prog_1_method_47_code
def yX9_maySet : MethodName := ⟨RX9, "maySet", "(II)Z"⟩
abbrev cX9_findTape : ByteArray := prog_1_method_48_code
def yX9_findTape : MethodName := ⟨RX9, "findTape", "(I)LLakeBooks$Tape;"⟩
abbrev cX9_at : ByteArray := prog_1_method_49_code
def yX9_at : MethodName := ⟨RX9, "at", "([II)I"⟩
abbrev cX9_kindAbove : ByteArray := prog_1_method_50_code
def yX9_kindAbove : MethodName := ⟨RX9, "kindAbove", "(I)I"⟩
abbrev cX9_isOrUnder : ByteArray := prog_1_method_51_code
def yX9_isOrUnder : MethodName := ⟨RX9, "isOrUnder", "(II)Z"⟩
abbrev cX9_lowestTerms : ByteArray := prog_1_method_52_code
def yX9_lowestTerms : MethodName := ⟨RX9, "lowestTerms", "(JJI)J"⟩
abbrev cX9_commonDivisor : ByteArray := prog_1_method_53_code
def yX9_commonDivisor : MethodName := ⟨RX9, "commonDivisor", "(JJ)J"⟩
def RX10 : String := "LakeBooksModel"
def TX10 : u_T := fun k => match k with
  | 0 => ("LakeBooksModel", "accounts", "I", false)
  | 1 => ("LakeBooksModel", "days", "I", false)
  | 2 => ("LakeBooksModel", "wet", "I", false)
  | 3 => ("LakeBooksModel", "town", "I", false)
  | 4 => ("LakeBooksModel", "areas", "[I", true)
  | 5 => ("LakeBooksModel", "kind", "[I", true)
  | 6 => ("LakeBooksModel", "v", "[I", true)
  | 7 => ("LakeBooksModel", "buckets", "[I", true)
  | 8 => ("LakeBooksModel", "daily", "[I", true)
  | 9 => ("LakeBooksModel", "stones", "[I", true)
  | 10 => ("LakeBooksModel", "rows", "[I", true)
  | 11 => ("LakeBooksModel", "laws", "I", false)
  | 12 => ("LakeBooksModel", "the", "I", false)
  | 13 => ("LakeBooksModel", "fed", "I", false)
  | 14 => ("LakeBooksModel", "at", "I", false)
  | 15 => ("LakeBooksModel", "digits", "I", false)
  | 16 => ("LakeBooksModel", "text", "[I", true)
  | 17 => ("LakeBooksModel", "clauses", "[I", true)
  | 18 => ("LakeBooksModel", "word", "[I", true)
  | 19 => ("LakeBooksModel", "number", "[I", true)
  | 20 => ("LakeBooksModel", "from", "[I", true)
  | 21 => ("LakeBooksModel", "to", "[I", true)
  | 22 => ("LakeBooksModel", "sign", "[I", true)
  | 23 => ("LakeBooksModel", "waits", "[I", true)
  | 24 => ("LakeBooksModel", "signs", "I", false)
  | 25 => ("LakeBooksModel", "waiting", "I", false)
  | 26 => ("LakeBooksModel", "open", "I", false)
  | 27 => ("LakeBooksModel", "letters", "[I", true)
  | 28 => ("LakeBooksModel", "pile", "[Z", true)
  | 29 => ("LakeBooksModel", "levelSeen", "I", false)
  | 30 => ("LakeBooksModel", "gone", "I", false)
  | 31 => ("LakeBooksModel", "wells", "I", false)
  | 32 => ("LakeBooksModel", "dryDay", "I", false)
  | 33 => ("LakeBooksModel", "pouring", "[I", true)
  | 34 => ("LakeBooksModel", "sunning", "[I", true)
  | 35 => ("LakeBooksModel", "keptDays", "I", false)
  | 36 => ("LakeBooksModel", "keptWet", "I", false)
  | 37 => ("LakeBooksModel", "keptTown", "I", false)
  | 38 => ("LakeBooksModel", "keptBuckets", "[I", true)
  | 39 => ("LakeBooksModel", "keptDaily", "[I", true)
  | 40 => ("LakeBooksModel", "seen", "I", false)
  | 41 => ("LakeBooksModel", "seenWhen", "[I", true)
  | 42 => ("LakeBooksModel", "seenLevel", "[I", true)
  | 43 => ("LakeBooksModel", "plans", "I", false)
  | 44 => ("LakeBooksModel", "books", "I", false)
  | 45 => ("LakeBooksModel", "planWho", "[I", true)
  | 46 => ("LakeBooksModel", "planDaily", "[I", true)
  | 47 => ("LakeBooksModel", "bookWho", "[I", true)
  | 48 => ("LakeBooksModel", "bookMany", "[I", true)
  | 49 => ("LakeBooksModel", "hasImage", "Z", false)
  | 50 => ("LakeBooksModel", "imageThe", "I", false)
  | 51 => ("LakeBooksModel", "imageAccounts", "I", false)
  | 52 => ("LakeBooksModel", "imageDays", "I", false)
  | 53 => ("LakeBooksModel", "imageWet", "I", false)
  | 54 => ("LakeBooksModel", "imageTown", "I", false)
  | 55 => ("LakeBooksModel", "imageSeen", "I", false)
  | 56 => ("LakeBooksModel", "imagePlans", "I", false)
  | 57 => ("LakeBooksModel", "imageBooks", "I", false)
  | 58 => ("LakeBooksModel", "imageAreas", "[I", true)
  | 59 => ("LakeBooksModel", "imageKind", "[I", true)
  | 60 => ("LakeBooksModel", "imageV", "[I", true)
  | 61 => ("LakeBooksModel", "imageBuckets", "[I", true)
  | 62 => ("LakeBooksModel", "imageDaily", "[I", true)
  | 63 => ("LakeBooksModel", "imageStones", "[I", true)
  | 64 => ("LakeBooksModel", "imageRows", "[I", true)
  | 65 => ("LakeBooksModel", "imageWhen", "[I", true)
  | 66 => ("LakeBooksModel", "imageLevel", "[I", true)
  | 67 => ("LakeBooksModel", "imagePlanWho", "[I", true)
  | 68 => ("LakeBooksModel", "imagePlanDaily", "[I", true)
  | 69 => ("LakeBooksModel", "imageBookWho", "[I", true)
  | 70 => ("LakeBooksModel", "imageBookMany", "[I", true)
  | 71 => ("LakeBooksModel", "ran", "I", false)
  | 72 => ("LakeBooksModel", "bodies", "[I", true)
  | 73 => ("LakeBooksModel", "sort", "[I", true)
  | 74 => ("LakeBooksModel", "length", "[I", true)
  | 75 => ("LakeBooksModel", "item", "[J", true)
  | _ => ("LakeBooksModel", "aside", "[J", true)
def tyX10 : Nat → FieldType := fun k => match k with
  | 0 => .int
  | 1 => .int
  | 2 => .int
  | 3 => .int
  | 4 => .array .int
  | 5 => .array .int
  | 6 => .array .int
  | 7 => .array .int
  | 8 => .array .int
  | 9 => .array .int
  | 10 => .array .int
  | 11 => .int
  | 12 => .int
  | 13 => .int
  | 14 => .int
  | 15 => .int
  | 16 => .array .int
  | 17 => .array .int
  | 18 => .array .int
  | 19 => .array .int
  | 20 => .array .int
  | 21 => .array .int
  | 22 => .array .int
  | 23 => .array .int
  | 24 => .int
  | 25 => .int
  | 26 => .int
  | 27 => .array .int
  | 28 => .array .boolean
  | 29 => .int
  | 30 => .int
  | 31 => .int
  | 32 => .int
  | 33 => .array .int
  | 34 => .array .int
  | 35 => .int
  | 36 => .int
  | 37 => .int
  | 38 => .array .int
  | 39 => .array .int
  | 40 => .int
  | 41 => .array .int
  | 42 => .array .int
  | 43 => .int
  | 44 => .int
  | 45 => .array .int
  | 46 => .array .int
  | 47 => .array .int
  | 48 => .array .int
  | 49 => .boolean
  | 50 => .int
  | 51 => .int
  | 52 => .int
  | 53 => .int
  | 54 => .int
  | 55 => .int
  | 56 => .int
  | 57 => .int
  | 58 => .array .int
  | 59 => .array .int
  | 60 => .array .int
  | 61 => .array .int
  | 62 => .array .int
  | 63 => .array .int
  | 64 => .array .int
  | 65 => .array .int
  | 66 => .array .int
  | 67 => .array .int
  | 68 => .array .int
  | 69 => .array .int
  | 70 => .array .int
  | 71 => .int
  | 72 => .array .int
  | 73 => .array .int
  | 74 => .array .int
  | 75 => .array .long
  | _ => .array .long
abbrev wsX100 : List Cond := u_ws RX10 TX10 77
theorem nmX10 : ∀ a, a < 77 → ∀ b, b < 77 → a ≠ b → (TX10 a).2.1 ≠ (TX10 b).2.1 := by decide +kernel
theorem tyX10_ok : ∀ k, k < 77 → parseFieldDescriptor (TX10 k).2.2.1 = some (tyX10 k) := by decide +kernel
abbrev cX10_init : ByteArray := prog_12_method_1_code
def yX10_init : MethodName := ⟨RX10, "<init>", "()V"⟩
abbrev cX10_in : ByteArray := prog_12_method_2_code
def yX10_in : MethodName := ⟨RX10, "in", "(III)Z"⟩
abbrev cX10_isAccount : ByteArray := prog_12_method_3_code
def yX10_isAccount : MethodName := ⟨RX10, "isAccount", "(I)Z"⟩
abbrev cX10_isDaily : ByteArray := prog_12_method_4_code
def yX10_isDaily : MethodName := ⟨RX10, "isDaily", "(I)Z"⟩
abbrev cX10_area : ByteArray := prog_12_method_5_code
def yX10_area : MethodName := ⟨RX10, "area", "(II)I"⟩
abbrev cX10_volumeOf : ByteArray := prog_12_method_6_code
def yX10_volumeOf : MethodName := ⟨RX10, "volumeOf", "(I)I"⟩
abbrev cX10_volume : ByteArray := prog_12_method_7_code
def yX10_volume : MethodName := ⟨RX10, "volume", "(I)I"⟩
abbrev cX10_levelOf : ByteArray := prog_12_method_8_code
def yX10_levelOf : MethodName := ⟨RX10, "levelOf", "(I)I"⟩
abbrev cX10_account : ByteArray := prog_12_method_9_code
def yX10_account : MethodName := ⟨RX10, "account", "(III)I"⟩
abbrev cX10_row : ByteArray := prog_12_method_10_code
def yX10_row : MethodName := ⟨RX10, "row", "(III)I"⟩
abbrev cX10_water : ByteArray := prog_12_method_11_code
def yX10_water : MethodName := ⟨RX10, "water", "(I)I"⟩
abbrev cX10_set : ByteArray := prog_12_method_12_code
def yX10_set : MethodName := ⟨RX10, "set", "(III)I"⟩
abbrev cX10_feed : ByteArray := prog_12_method_13_code
def yX10_feed : MethodName := ⟨RX10, "feed", "(I)I"⟩
abbrev cX10_next : ByteArray := prog_12_method_14_code
def yX10_next : MethodName := ⟨RX10, "next", "()I"⟩
abbrev cX10_second : ByteArray := prog_12_method_15_code
def yX10_second : MethodName := ⟨RX10, "second", "()I"⟩
abbrev cX10_takes : ByteArray := prog_12_method_16_code
def yX10_takes : MethodName := ⟨RX10, "takes", "(I)Z"⟩
abbrev cX10_takesWord : ByteArray := prog_12_method_17_code
def yX10_takesWord : MethodName := ⟨RX10, "takesWord", "(II)Z"⟩
abbrev cX10_isDigit : ByteArray := prog_12_method_18_code
def yX10_isDigit : MethodName := ⟨RX10, "isDigit", "()Z"⟩
abbrev cX10_takesNumber : ByteArray := prog_12_method_19_code
def yX10_takesNumber : MethodName := ⟨RX10, "takesNumber", "()Z"⟩
abbrev cX10_emits : ByteArray := prog_12_method_20_code
def yX10_emits : MethodName := ⟨RX10, "emits", "(I)V"⟩
abbrev cX10_whole : ByteArray := prog_12_method_21_code
def yX10_whole : MethodName := ⟨RX10, "whole", "()V"⟩
abbrev cX10_settle : ByteArray := prog_12_method_22_code
def yX10_settle : MethodName := ⟨RX10, "settle", "(I)V"⟩
abbrev cX10_place : ByteArray := prog_12_method_23_code
def yX10_place : MethodName := ⟨RX10, "place", "(I)I"⟩
abbrev cX10_takesTest : ByteArray := prog_12_method_24_code
def yX10_takesTest : MethodName := ⟨RX10, "takesTest", "()Z"⟩
abbrev cX10_takesE : ByteArray := prog_12_method_25_code
def yX10_takesE : MethodName := ⟨RX10, "takesE", "(I)Z"⟩
abbrev cX10_takesHead : ByteArray := prog_12_method_26_code
def yX10_takesHead : MethodName := ⟨RX10, "takesHead", "(I)Z"⟩
abbrev cX10_takesClause : ByteArray := prog_12_method_27_code
def yX10_takesClause : MethodName := ⟨RX10, "takesClause", "(I)Z"⟩
abbrev cX10_goesText : ByteArray := prog_12_method_28_code
def yX10_goesText : MethodName := ⟨RX10, "goesText", "(I)Z"⟩
abbrev cX10_law : ByteArray := prog_12_method_29_code
def yX10_law : MethodName := ⟨RX10, "law", "()I"⟩
abbrev cX10_begin : ByteArray := prog_12_method_30_code
def yX10_begin : MethodName := ⟨RX10, "begin", "()I"⟩
abbrev cX10_behind : ByteArray := prog_12_method_31_code
def yX10_behind : MethodName := ⟨RX10, "behind", "()I"⟩
abbrev cX10_lastOf : ByteArray := prog_12_method_32_code
def yX10_lastOf : MethodName := ⟨RX10, "lastOf", "(II)I"⟩
abbrev cX10_mark : ByteArray := prog_12_method_33_code
def yX10_mark : MethodName := ⟨RX10, "mark", "()I"⟩
abbrev cX10_floor : ByteArray := prog_12_method_34_code
def yX10_floor : MethodName := ⟨RX10, "floor", "()I"⟩
abbrev cX10_factOf : ByteArray := prog_12_method_35_code
def yX10_factOf : MethodName := ⟨RX10, "factOf", "(II)I"⟩
abbrev cX10_holds : ByteArray := prog_12_method_36_code
def yX10_holds : MethodName := ⟨RX10, "holds", "(II)Z"⟩
abbrev cX10_liftsOf : ByteArray := prog_12_method_37_code
def yX10_liftsOf : MethodName := ⟨RX10, "liftsOf", "(I)I"⟩
abbrev cX10_level : ByteArray := prog_12_method_38_code
def yX10_level : MethodName := ⟨RX10, "level", "()I"⟩
abbrev cX10_sumOf : ByteArray := prog_12_method_39_code
def yX10_sumOf : MethodName := ⟨RX10, "sumOf", "(II)I"⟩
abbrev cX10_spring : ByteArray := prog_12_method_40_code
def yX10_spring : MethodName := ⟨RX10, "spring", "()I"⟩
abbrev cX10_sunOf : ByteArray := prog_12_method_41_code
def yX10_sunOf : MethodName := ⟨RX10, "sunOf", "(I)I"⟩
abbrev cX10_poursOf : ByteArray := prog_12_method_42_code
def yX10_poursOf : MethodName := ⟨RX10, "poursOf", "(I)I"⟩
abbrev cX10_of : ByteArray := prog_12_method_43_code
def yX10_of : MethodName := ⟨RX10, "of", "(II)I"⟩
abbrev cX10_told : ByteArray := prog_12_method_44_code
def yX10_told : MethodName := ⟨RX10, "told", "(I)I"⟩
abbrev cX10_held : ByteArray := prog_12_method_45_code
def yX10_held : MethodName := ⟨RX10, "held", "(I)I"⟩
abbrev cX10_pours : ByteArray := prog_12_method_46_code
def yX10_pours : MethodName := ⟨RX10, "pours", "(II)V"⟩
abbrev cX10_goDay : ByteArray := prog_12_method_47_code
def yX10_goDay : MethodName := ⟨RX10, "goDay", "()V"⟩
abbrev cX10_day : ByteArray := prog_12_method_48_code
def yX10_day : MethodName := ⟨RX10, "day", "()I"⟩
abbrev cX10_save : ByteArray := prog_12_method_49_code
def yX10_save : MethodName := ⟨RX10, "save", "()V"⟩
abbrev cX10_putBack : ByteArray := prog_12_method_50_code
def yX10_putBack : MethodName := ⟨RX10, "putBack", "()V"⟩
abbrev cX10_isDays : ByteArray := prog_12_method_51_code
def yX10_isDays : MethodName := ⟨RX10, "isDays", "(I)Z"⟩
abbrev cX10_goDays : ByteArray := prog_12_method_52_code
def yX10_goDays : MethodName := ⟨RX10, "goDays", "(I)V"⟩
abbrev cX10_on : ByteArray := prog_12_method_53_code
def yX10_on : MethodName := ⟨RX10, "on", "(II)I"⟩
abbrev cX10_dry : ByteArray := prog_12_method_54_code
def yX10_dry : MethodName := ⟨RX10, "dry", "()I"⟩
abbrev cX10_lowest : ByteArray := prog_12_method_55_code
def yX10_lowest : MethodName := ⟨RX10, "lowest", "(I)I"⟩
abbrev cX10_below : ByteArray := prog_12_method_56_code
def yX10_below : MethodName := ⟨RX10, "below", "(I)I"⟩
abbrev cX10_ruined : ByteArray := prog_12_method_57_code
def yX10_ruined : MethodName := ⟨RX10, "ruined", "(I)I"⟩
abbrev cX10_isAbove : ByteArray := prog_12_method_58_code
def yX10_isAbove : MethodName := ⟨RX10, "isAbove", "(I)Z"⟩
abbrev cX10_may : ByteArray := prog_12_method_59_code
def yX10_may : MethodName := ⟨RX10, "may", "(II)I"⟩
abbrev cX10_enough : ByteArray := prog_12_method_60_code
def yX10_enough : MethodName := ⟨RX10, "enough", "(II)I"⟩
abbrev cX10_lifted : ByteArray := prog_12_method_61_code
def yX10_lifted : MethodName := ⟨RX10, "lifted", "()I"⟩
abbrev cX10_waterBehind : ByteArray := prog_12_method_62_code
def yX10_waterBehind : MethodName := ⟨RX10, "waterBehind", "(I)I"⟩
abbrev cX10_without : ByteArray := prog_12_method_63_code
def yX10_without : MethodName := ⟨RX10, "without", "(II)I"⟩
abbrev cX10_wells : ByteArray := prog_12_method_64_code
def yX10_wells : MethodName := ⟨RX10, "wells", "(I)I"⟩
abbrev cX10_divisor : ByteArray := prog_12_method_65_code
def yX10_divisor : MethodName := ⟨RX10, "divisor", "(II)I"⟩
abbrev cX10_lowestTerms : ByteArray := prog_12_method_66_code
def yX10_lowestTerms : MethodName := ⟨RX10, "lowestTerms", "(III)J"⟩
abbrev cX10_share : ByteArray := prog_12_method_67_code
def yX10_share : MethodName := ⟨RX10, "share", "(III)J"⟩
abbrev cX10_richest : ByteArray := prog_12_method_68_code
def yX10_richest : MethodName := ⟨RX10, "richest", "(I)I"⟩
abbrev cX10_see : ByteArray := prog_12_method_69_code
def yX10_see : MethodName := ⟨RX10, "see", "(II)I"⟩
abbrev cX10_isSeen : ByteArray := prog_12_method_70_code
def yX10_isSeen : MethodName := ⟨RX10, "isSeen", "()Z"⟩
abbrev cX10_hidden : ByteArray := prog_12_method_71_code
def yX10_hidden : MethodName := ⟨RX10, "hidden", "(II)I"⟩
abbrev cX10_whose : ByteArray := prog_12_method_72_code
def yX10_whose : MethodName := ⟨RX10, "whose", "()I"⟩
abbrev cX10_odds : ByteArray := prog_12_method_73_code
def yX10_odds : MethodName := ⟨RX10, "odds", "(II)J"⟩
abbrev cX10_mean : ByteArray := prog_12_method_74_code
def yX10_mean : MethodName := ⟨RX10, "mean", "(II)J"⟩
abbrev cX10_plan : ByteArray := prog_12_method_75_code
def yX10_plan : MethodName := ⟨RX10, "plan", "(II)I"⟩
abbrev cX10_planned : ByteArray := prog_12_method_76_code
def yX10_planned : MethodName := ⟨RX10, "planned", "(I)I"⟩
abbrev cX10_book : ByteArray := prog_12_method_77_code
def yX10_book : MethodName := ⟨RX10, "book", "(II)I"⟩
abbrev cX10_looked : ByteArray := prog_12_method_78_code
def yX10_looked : MethodName := ⟨RX10, "looked", "()I"⟩
abbrev cX10_judge : ByteArray := prog_12_method_79_code
def yX10_judge : MethodName := ⟨RX10, "judge", "(II)I"⟩
abbrev cX10_image : ByteArray := prog_12_method_80_code
def yX10_image : MethodName := ⟨RX10, "image", "()I"⟩
abbrev cX10_undo : ByteArray := prog_12_method_81_code
def yX10_undo : MethodName := ⟨RX10, "undo", "()I"⟩
abbrev cX10_body : ByteArray := prog_12_method_82_code
def yX10_body : MethodName := ⟨RX10, "body", "(I)V"⟩
abbrev cX10_accountKeeps : ByteArray := prog_12_method_83_code
def yX10_accountKeeps : MethodName := ⟨RX10, "accountKeeps", "(II)I"⟩
abbrev cX10_keepsAct : ByteArray := prog_12_method_84_code
def yX10_keepsAct : MethodName := ⟨RX10, "keepsAct", "(II)I"⟩
abbrev cX10_accountPours : ByteArray := prog_12_method_85_code
def yX10_accountPours : MethodName := ⟨RX10, "accountPours", "(II)I"⟩
abbrev cX10_savingPours : ByteArray := prog_12_method_86_code
def yX10_savingPours : MethodName := ⟨RX10, "savingPours", "(II)I"⟩
abbrev cX10_poursAct : ByteArray := prog_12_method_87_code
def yX10_poursAct : MethodName := ⟨RX10, "poursAct", "(II)I"⟩
abbrev cX10_accountTells : ByteArray := prog_12_method_88_code
def yX10_accountTells : MethodName := ⟨RX10, "accountTells", "(II)I"⟩
abbrev cX10_tellsAct : ByteArray := prog_12_method_89_code
def yX10_tellsAct : MethodName := ⟨RX10, "tellsAct", "(II)I"⟩
abbrev cX10_act : ByteArray := prog_12_method_90_code
def yX10_act : MethodName := ⟨RX10, "act", "(III)I"⟩
abbrev cX10_trace : ByteArray := prog_12_method_91_code
def yX10_trace : MethodName := ⟨RX10, "trace", "(I)I"⟩
abbrev cX10_taken : ByteArray := prog_12_method_92_code
def yX10_taken : MethodName := ⟨RX10, "taken", "(II)I"⟩
abbrev cX10_count : ByteArray := prog_12_method_93_code
def yX10_count : MethodName := ⟨RX10, "count", "(I)I"⟩
abbrev cX10_isTape : ByteArray := prog_12_method_94_code
def yX10_isTape : MethodName := ⟨RX10, "isTape", "(I)Z"⟩
abbrev cX10_tape : ByteArray := prog_12_method_95_code
def yX10_tape : MethodName := ⟨RX10, "tape", "(III)I"⟩
abbrev cX10_narrow : ByteArray := prog_12_method_96_code
def yX10_narrow : MethodName := ⟨RX10, "narrow", "(IJ)J"⟩
abbrev cX10_item : ByteArray := prog_12_method_97_code
def yX10_item : MethodName := ⟨RX10, "item", "(IIJ)I"⟩
abbrev cX10_read : ByteArray := prog_12_method_98_code
def yX10_read : MethodName := ⟨RX10, "read", "(II)J"⟩
abbrev cX10_shift : ByteArray := prog_12_method_99_code
def yX10_shift : MethodName := ⟨RX10, "shift", "(IIIII)I"⟩
def RJ11 : String := "java/lang/Character"
def TJ11 : u_T := fun k => match k with
  | _ => ("", "", "", false)
def tyJ11 : Nat → FieldType := fun k => match k with
  | _ => .int
abbrev wsJ110 : List Cond := u_ws RJ11 TJ11 0
theorem nmJ11 : ∀ a, a < 0 → ∀ b, b < 0 → a ≠ b → (TJ11 a).2.1 ≠ (TJ11 b).2.1 := by decide +kernel
theorem tyJ11_ok : ∀ k, k < 0 → parseFieldDescriptor (TJ11 k).2.2.1 = some (tyJ11 k) := by decide +kernel
abbrev cJ11_isValidCodePoint_9a6ad : ByteArray := prog_13_method_11_code
def yJ11_isValidCodePoint_9a6ad : MethodName := ⟨RJ11, "isValidCodePoint", "(I)Z"⟩
abbrev cJ11_highSurrogate_5068e : ByteArray := prog_13_method_28_code
def yJ11_highSurrogate_5068e : MethodName := ⟨RJ11, "highSurrogate", "(I)C"⟩
abbrev cJ11_lowSurrogate_5068e : ByteArray := prog_13_method_29_code
def yJ11_lowSurrogate_5068e : MethodName := ⟨RJ11, "lowSurrogate", "(I)C"⟩
def RJ9 : String := "java/lang/Math"
def TJ9 : u_T := fun k => match k with
  | _ => ("", "", "", false)
def tyJ9 : Nat → FieldType := fun k => match k with
  | _ => .int
abbrev wsJ90 : List Cond := u_ws RJ9 TJ9 0
theorem nmJ9 : ∀ a, a < 0 → ∀ b, b < 0 → a ≠ b → (TJ9 a).2.1 ≠ (TJ9 b).2.1 := by decide +kernel
theorem tyJ9_ok : ∀ k, k < 0 → parseFieldDescriptor (TJ9 k).2.2.1 = some (tyJ9 k) := by decide +kernel
abbrev cJ9_floorMod_7cf53 : ByteArray := prog_14_method_50_code
def yJ9_floorMod_7cf53 : MethodName := ⟨RJ9, "floorMod", "(II)I"⟩
abbrev cJ9_max_7cf53 : ByteArray := prog_14_method_65_code
def yJ9_max_7cf53 : MethodName := ⟨RJ9, "max", "(II)I"⟩
abbrev cJ9_min_7cf53 : ByteArray := prog_14_method_69_code
def yJ9_min_7cf53 : MethodName := ⟨RJ9, "min", "(II)I"⟩
def RJ0 : String := "java/lang/String"
def TJ0 : u_T := fun k => match k with
  | _ => ("", "", "", false)
def tyJ0 : Nat → FieldType := fun k => match k with
  | _ => .int
abbrev wsJ00 : List Cond := u_ws RJ0 TJ0 0
theorem nmJ0 : ∀ a, a < 0 → ∀ b, b < 0 → a ≠ b → (TJ0 a).2.1 ≠ (TJ0 b).2.1 := by decide +kernel
theorem tyJ0_ok : ∀ k, k < 0 → parseFieldDescriptor (TJ0 k).2.2.1 = some (tyJ0 k) := by decide +kernel
abbrev cJ0_length_8abf5 : ByteArray := prog_15_method_54_code
def yJ0_length_8abf5 : MethodName := ⟨RJ0, "length", "()I"⟩
abbrev cJ0_charAt_5068e : ByteArray := prog_15_method_56_code
def yJ0_charAt_5068e : MethodName := ⟨RJ0, "charAt", "(I)C"⟩
abbrev cJ0_indexOf_0f7a4 : ByteArray := prog_15_method_79_code
def yJ0_indexOf_0f7a4 : MethodName := ⟨RJ0, "indexOf", "(I)I"⟩
abbrev cJ0_indexOf_7cf53 : ByteArray := prog_15_method_80_code
def yJ0_indexOf_7cf53 : MethodName := ⟨RJ0, "indexOf", "(II)I"⟩
abbrev cJ0_coder_7d493 : ByteArray := prog_15_method_152_code
def yJ0_coder_7d493 : MethodName := ⟨RJ0, "coder", "()B"⟩
abbrev cJ0_isLatin1_aae02 : ByteArray := prog_15_method_154_code
def yJ0_isLatin1_aae02 : MethodName := ⟨RJ0, "isLatin1", "()Z"⟩
abbrev cJ0_checkIndex_df160 : ByteArray := prog_15_method_155_code
def yJ0_checkIndex_df160 : MethodName := ⟨RJ0, "checkIndex", "(II)V"⟩
abbrev cJ0_checkBoundsBeginEnd_23922 : ByteArray := prog_15_method_158_code
def yJ0_checkBoundsBeginEnd_23922 : MethodName := ⟨RJ0, "checkBoundsBeginEnd", "(III)V"⟩
def RJ1 : String := "java/lang/StringLatin1"
def TJ1 : u_T := fun k => match k with
  | _ => ("", "", "", false)
def tyJ1 : Nat → FieldType := fun k => match k with
  | _ => .int
abbrev wsJ10 : List Cond := u_ws RJ1 TJ1 0
theorem nmJ1 : ∀ a, a < 0 → ∀ b, b < 0 → a ≠ b → (TJ1 a).2.1 ≠ (TJ1 b).2.1 := by decide +kernel
theorem tyJ1_ok : ∀ k, k < 0 → parseFieldDescriptor (TJ1 k).2.2.1 = some (tyJ1 k) := by decide +kernel
abbrev cJ1_charAt_3b067 : ByteArray := prog_16_method_2_code
def yJ1_charAt_3b067 : MethodName := ⟨RJ1, "charAt", "([BI)C"⟩
abbrev cJ1_canEncode_9a6ad : ByteArray := prog_16_method_4_code
def yJ1_canEncode_9a6ad : MethodName := ⟨RJ1, "canEncode", "(I)Z"⟩
abbrev cJ1_indexOf_4cfef : ByteArray := prog_16_method_22_code
def yJ1_indexOf_4cfef : MethodName := ⟨RJ1, "indexOf", "([BIII)I"⟩
abbrev cJ1_indexOfChar_4cfef : ByteArray := prog_16_method_23_code
def yJ1_indexOfChar_4cfef : MethodName := ⟨RJ1, "indexOfChar", "([BIII)I"⟩
def RJ2 : String := "java/lang/StringUTF16"
def TJ2 : u_T := fun k => match k with
  | _ => ("", "", "", false)
def tyJ2 : Nat → FieldType := fun k => match k with
  | _ => .int
abbrev wsJ20 : List Cond := u_ws RJ2 TJ2 0
theorem nmJ2 : ∀ a, a < 0 → ∀ b, b < 0 → a ≠ b → (TJ2 a).2.1 ≠ (TJ2 b).2.1 := by decide +kernel
theorem tyJ2_ok : ∀ k, k < 0 → parseFieldDescriptor (TJ2 k).2.2.1 = some (tyJ2 k) := by decide +kernel
abbrev cJ2_getChar_3b067 : ByteArray := prog_17_method_5_code
def yJ2_getChar_3b067 : MethodName := ⟨RJ2, "getChar", "([BI)C"⟩
abbrev cJ2_length_9d52b : ByteArray := prog_17_method_6_code
def yJ2_length_9d52b : MethodName := ⟨RJ2, "length", "([B)I"⟩
abbrev cJ2_indexOf_4cfef : ByteArray := prog_17_method_40_code
def yJ2_indexOf_4cfef : MethodName := ⟨RJ2, "indexOf", "([BIII)I"⟩
abbrev cJ2_indexOfChar_4cfef : ByteArray := prog_17_method_47_code
def yJ2_indexOfChar_4cfef : MethodName := ⟨RJ2, "indexOfChar", "([BIII)I"⟩
abbrev cJ2_indexOfCharUnsafe_4cfef : ByteArray := prog_17_method_48_code
def yJ2_indexOfCharUnsafe_4cfef : MethodName := ⟨RJ2, "indexOfCharUnsafe", "([BIII)I"⟩
abbrev cJ2_indexOfSupplementary_4cfef : ByteArray := prog_17_method_49_code
def yJ2_indexOfSupplementary_4cfef : MethodName := ⟨RJ2, "indexOfSupplementary", "([BIII)I"⟩
abbrev cJ2_charAt_3b067 : ByteArray := prog_17_method_83_code
def yJ2_charAt_3b067 : MethodName := ⟨RJ2, "charAt", "([BI)C"⟩
abbrev cJ2_checkIndex_2214a : ByteArray := prog_17_method_91_code
def yJ2_checkIndex_2214a : MethodName := ⟨RJ2, "checkIndex", "(I[B)V"⟩
abbrev cJ2_checkBoundsBeginEnd_d044e : ByteArray := prog_17_method_93_code
def yJ2_checkBoundsBeginEnd_d044e : MethodName := ⟨RJ2, "checkBoundsBeginEnd", "(II[B)V"⟩
def RJ10 : String := "java/lang/System"
def TJ10 : u_T := fun k => match k with
  | _ => ("", "", "", false)
def tyJ10 : Nat → FieldType := fun k => match k with
  | _ => .int
abbrev wsJ100 : List Cond := u_ws RJ10 TJ10 0
theorem nmJ10 : ∀ a, a < 0 → ∀ b, b < 0 → a ≠ b → (TJ10 a).2.1 ≠ (TJ10 b).2.1 := by decide +kernel
theorem tyJ10_ok : ∀ k, k < 0 → parseFieldDescriptor (TJ10 k).2.2.1 = some (tyJ10 k) := by decide +kernel
def RJ3 : String := "jdk/internal/util/Preconditions"
def TJ3 : u_T := fun k => match k with
  | _ => ("", "", "", false)
def tyJ3 : Nat → FieldType := fun k => match k with
  | _ => .int
abbrev wsJ30 : List Cond := u_ws RJ3 TJ3 0
theorem nmJ3 : ∀ a, a < 0 → ∀ b, b < 0 → a ≠ b → (TJ3 a).2.1 ≠ (TJ3 b).2.1 := by decide +kernel
theorem tyJ3_ok : ∀ k, k < 0 → parseFieldDescriptor (TJ3 k).2.2.1 = some (tyJ3 k) := by decide +kernel
abbrev cJ3_checkIndex_8e157 : ByteArray := prog_19_method_11_code
def yJ3_checkIndex_8e157 : MethodName := ⟨RJ3, "checkIndex", "(IILjava/util/function/BiFunction;)I"⟩
abbrev cJ3_checkFromToIndex_8c36e : ByteArray := prog_19_method_12_code
def yJ3_checkFromToIndex_8c36e : MethodName := ⟨RJ3, "checkFromToIndex", "(IIILjava/util/function/BiFunction;)I"⟩
def RL : String := "LakeBooksLaw"
abbrev cL_law : ByteArray := code
def yL_law : MethodName := ⟨RL, "law", "([I)Z"⟩
abbrev vwCl : List vw_C := [(RX0, TX0, 10), (RX1, TX1, 2), (RX2, TX2, 1), (RX3, TX3, 1), (RX4, TX4, 10), (RX5, TX5, 3), (RX6, TX6, 4), (RX7, TX7, 12), (RX8, TX8, 3), (RX9, TX9, 9), (RX10, TX10, 77)]
end
section
/-! ===== the memory of a world, by object ids: ints and booleans, references (ids, 0 is null), longs ===== -/
abbrev x_M : Type := (Nat → Nat → Int32) × (Nat → Nat → Nat) × (Nat → Nat → Int64)
/-- a world: kinds of ids, their lengths, their addresses, the classes, the array classes by kind -/
abbrev x_X : Type := (Nat → Nat) × (Nat → Nat) × (Nat → Nat) × va_G × (Nat → ClassId)
abbrev x_kd (X : x_X) : Nat → Nat := X.1
abbrev x_ln (X : x_X) : Nat → Nat := X.2.1
abbrev x_ad (X : x_X) : Nat → Nat := X.2.2.1
abbrev x_D (X : x_X) : va_G := X.2.2.2.1
abbrev x_cA (X : x_X) : Nat → ClassId := X.2.2.2.2
def x_rv (X : x_X) (n : Nat) : Value := if n = 0 then .null else .ref (x_ad X n)
def x_ro (X : x_X) (n : Nat) : Option Nat := if n = 0 then none else some (x_ad X n)
theorem x_rf_ro (X : x_X) (n : Nat) : va_rf (x_ro X n) = x_rv X n := by
  unfold x_ro x_rv
  by_cases h : n = 0
  · rw [if_pos h, if_pos h]; rfl
  · rw [if_neg h, if_neg h]; rfl
theorem x_rv_0 (X : x_X) : x_rv X 0 = .null := rfl
theorem x_rv_n (X : x_X) {n : Nat} (h : n ≠ 0) : x_rv X n = .ref (x_ad X n) := if_neg h
theorem x_rv_cat (X : x_X) (n : Nat) : (x_rv X n).category = 1 := by
  unfold x_rv
  by_cases h : n = 0
  · rw [if_pos h]; rfl
  · rw [if_neg h]; rfl
def x_ty (ci : Nat) : Nat → FieldType := match ci with
  | 0 => tyX0
  | 1 => tyX1
  | 2 => tyX2
  | 3 => tyX3
  | 4 => tyX4
  | 5 => tyX5
  | 6 => tyX6
  | 7 => tyX7
  | 8 => tyX8
  | 9 => tyX9
  | _ => tyX10
def x_isR (ci k : Nat) : Bool := match x_ty ci k with
  | .object _ => true
  | .array _ => true
  | _ => false
def x_f (X : x_X) (μ : x_M) (ci o k : Nat) : Value := if x_isR ci k = true then x_rv X (μ.2.1 o k) else .int (μ.1 o k)
/-- writable cells -/
def x_A (X : x_X) : Nat → Prop := fun q => ∃ o, 0 < x_kd X o ∧ x_kd X o < 40 ∧ x_ad X o = q
def x_at (X : x_X) (μ : x_M) (U : State) (H : Heap) (o : Nat) : Prop :=
  (0 < x_kd X o → x_kd X o < 20 → ∃ r : vw_C, vwCl[x_kd X o - 1]? = some r ∧ t_OB (x_ad X o) ((x_D X).1 (x_kd X o - 1)) r.2.2 ((x_D X).2 (x_kd X o - 1)) H (fun k => x_f X μ (x_kd X o - 1) o k)) ∧
  (x_kd X o = 20 → H[x_ad X o]? = some (vp_cell (x_cA X 20) (x_ln X o, .inl (μ.1 o)))) ∧
  (x_kd X o = 21 → H[x_ad X o]? = some (vp_cell (x_cA X 21) (x_ln X o, .inr (.inl (μ.2.2 o))))) ∧
  (x_kd X o = 22 → H[x_ad X o]? = some (vp_cell (x_cA X 22) (x_ln X o, .inl (μ.1 o)))) ∧
  (22 < x_kd X o → x_kd X o < 40 → H[x_ad X o]? = some (vp_cell (x_cA X (x_kd X o)) (x_ln X o, .inr (.inr (.inr (.inr (fun i => x_ro X (μ.2.1 o i)))))))) ∧
  (x_kd X o = 40 → va_T .int (x_ad X o) (x_ln X o) (fun j => .int (μ.1 o j)) (x_A X) U H) ∧
  (x_kd X o = 41 → va_T .byte (x_ad X o) (x_ln X o) (fun j => .int (μ.1 o j)) (x_A X) U H) ∧
  (x_kd X o = 50 → va_O "java/lang/String" (x_ad X o) (x_A X) U H ∧ va_OF "java/lang/String" "coder" "B" (.int (μ.1 o 0)) (x_ad X o) (x_A X) U H ∧ va_OF "java/lang/String" "value" "[B" (x_rv X (μ.2.1 o 1)) (x_ad X o) (x_A X) U H)
def x_P (X : x_X) (μ : x_M) (U : State) (H : Heap) : Prop := ∀ o, x_at X μ U H o
/-- ids of writable cells have addresses of their own -/
def x_I (X : x_X) : Prop := x_kd X 0 = 0 ∧ ∀ o o', 0 < x_kd X o → x_kd X o < 40 → 0 < x_kd X o' → x_kd X o' < 40 → x_ad X o = x_ad X o' → o = o'
theorem x_at.moved {X : x_X} {μ : x_M} {u U : State} {H : Heap} {o : Nat} (hvm : u.vm.Alike U.vm) (h : x_at X μ u H o) : x_at X μ U H o :=
  ⟨h.1, h.2.1, h.2.2.1, h.2.2.2.1, h.2.2.2.2.1, fun z => (h.2.2.2.2.2.1 z).moved hvm, fun z => (h.2.2.2.2.2.2.1 z).moved hvm, fun z => ⟨va_O.moved hvm (h.2.2.2.2.2.2.2 z).1, va_OF.moved hvm (h.2.2.2.2.2.2.2 z).2.1, va_OF.moved hvm (h.2.2.2.2.2.2.2 z).2.2⟩⟩
theorem x_P.moved {X : x_X} {μ : x_M} {u U : State} {H : Heap} (hvm : u.vm.Alike U.vm) (h : x_P X μ u H) : x_P X μ U H := fun o => (h o).moved hvm
/-- a write at one id, what it holds there afterwards being given -/
theorem x_P.put {X : x_X} {μ μ' : x_M} {U : State} {H H1 : Heap} {o : Nat} (hI : x_I X) (h : x_P X μ U H) (h0 : 0 < x_kd X o) (h4 : x_kd X o < 40) (ho : x_at X μ' U H1 o) (oq : ∀ q : Nat, q ≠ x_ad X o → H1[q]? = H[q]?)
    (e1 : ∀ p, p ≠ o → μ'.1 p = μ.1 p) (e2 : ∀ p, p ≠ o → μ'.2.1 p = μ.2.1 p) (e3 : ∀ p, p ≠ o → μ'.2.2 p = μ.2.2 p) : x_P X μ' U H1 := by
  intro p
  by_cases hp : p = o
  · subst hp; exact ho
  · obtain ⟨a1, a2, a3, a4, a5, a6, a7, a8⟩ := h p
    have ne : 0 < x_kd X p → x_kd X p < 40 → H1[x_ad X p]? = H[x_ad X p]? := fun z1 z2 => oq _ (fun e => hp (hI.2 p o z1 z2 h0 h4 e))
    have hq : ∀ a : Nat, a < H.size → ¬ x_A X a → H1[a]? = H[a]? := fun a _ hA => oq a (fun e => hA ⟨o, h0, h4, e.symm⟩)
    have f1 := e1 p hp
    have f2 := e2 p hp
    have f3 := e3 p hp
    refine ⟨fun z1 z2 => ?_, fun z => ?_, fun z => ?_, fun z => ?_, fun z1 z2 => ?_, fun z => ?_, fun z => ?_, fun z => ?_⟩
    · obtain ⟨r, b1, b2⟩ := a1 z1 z2
      refine ⟨r, b1, ((b2.kept (ne z1 (by omega))).to (fun k _ => ?_))⟩
      unfold x_f
      rw [f1, f2]
    · rw [ne (by omega) (by omega), f1]; exact a2 z
    · rw [ne (by omega) (by omega), f3]; exact a3 z
    · rw [ne (by omega) (by omega), f1]; exact a4 z
    · rw [ne (by omega) (by omega), f2]; exact a5 z1 z2
    · rw [f1]; exact (a6 z).kept hq
    · rw [f1]; exact (a7 z).kept hq
    · rw [f1, f2]; exact ⟨va_O.kept (a8 z).1 hq, va_OF.kept (a8 z).2.1 hq, va_OF.kept (a8 z).2.2 hq⟩
/-- setting one place of one id -/
def x_u {α : Type} (f : Nat → Nat → α) (o k : Nat) (v : α) : Nat → Nat → α := fun p j => if p = o then (if j = k then v else f p j) else f p j
theorem x_u_ne {α : Type} {f : Nat → Nat → α} {o k : Nat} {v : α} {p : Nat} (h : p ≠ o) : x_u f o k v p = f p := by funext j; simp [x_u, h]
theorem x_u_eq {α : Type} {f : Nat → Nat → α} {o k : Nat} {v : α} : x_u f o k v o = fun j => if j = k then v else f o j := by funext j; simp [x_u]
def x_sI (μ : x_M) (o k : Nat) (v : Int32) : x_M := (x_u μ.1 o k v, μ.2.1, μ.2.2)
def x_sR (μ : x_M) (o k : Nat) (v : Nat) : x_M := (μ.1, x_u μ.2.1 o k v, μ.2.2)
def x_sJ (μ : x_M) (o k : Nat) (v : Int64) : x_M := (μ.1, μ.2.1, x_u μ.2.2 o k v)
abbrev x_tys (X : x_X) : List (ClassId × FieldType) := [(x_cA X 20, .int), (x_cA X 21, .long), (x_cA X 22, .boolean), (x_cA X 23, .object RX0), (x_cA X 24, .object RX4), (x_cA X 25, .object RX8)]
def x_K (X : x_X) (U : State) : Prop := va_K (x_D X) vwCl (x_tys X) U
/-- the statics: class, name, descriptor, id that it refers to; or a number -/
abbrev x_Zs : Type := List (String × String × String × Nat) × List (String × String × String × Int32) × List (String × Nat × String × Nat)
def x_Z (X : x_X) (Z : x_Zs) (U : State) (H : Heap) : Prop := (∀ q ∈ Z.1, va_Z q.1 q.2.1 q.2.2.1 (x_rv X q.2.2.2) (x_A X) U H) ∧ ∀ q ∈ Z.2.1, va_Z q.1 q.2.1 q.2.2.1 (.int q.2.2.2) (x_A X) U H
/-- the string constants: class, entry, text, id -/
def x_L (X : x_X) (Z : x_Zs) (U : State) : Prop := ∀ q ∈ Z.2.2, vk_R q.1 q.2.1 q.2.2.1 (x_ad X q.2.2.2) U
/-- words of the tables, at any arguments -/
def x_nest : Cond → Bool
  | .fieldLinkNest _ _ _ _ _ _ => true
  | .methodLinkNest _ _ _ _ => true
  | _ => false
def x_W (U : State) : Prop := ∀ w ∈ lw_tbl, (goodWord w = true ∨ x_nest w = true) → ∀ a : Array Value, w.before a U = true
theorem x_W.warm {s U : State} (hW : s.WarmedH U.vm) (h : x_W s) : x_W U := by
  intro w hw hg a
  rcases hg with hg | hg
  · exact word_at hW (good_of_word hg) (h w hw (Or.inl hg) #[])
  · cases w with
    | fieldLinkNest a1 i b n d hh => exact va_Nw.use rfl (va_Nw.warmF hW (va_Nw.of rfl (h _ hw (Or.inr rfl) #[])))
    | methodLinkNest a1 i x hh => exact va_Nw.use rfl (va_Nw.warmM hW (va_Nw.of rfl (h _ hw (Or.inr rfl) #[])))
    | _ => cases hg
def x_E (X : x_X) (Z : x_Zs) (U : State) (H : Heap) : Prop := x_K X U ∧ (x_Z X Z U H ∧ x_L X Z U) ∧ x_W U
/-- what a method finds -/
def x_H (X : x_X) (Z : x_Zs) (μ : x_M) (U : State) : Prop := x_E X Z U U.heap ∧ x_P X μ U U.heap
theorem x_Z.go {X : x_X} {Z : x_Zs} {u U : State} {H H1 : Heap} (hvm : u.vm.Alike U.vm) (hq : ∀ a : Nat, a < H.size → ¬ x_A X a → H1[a]? = H[a]?) (h : x_Z X Z u H) : x_Z X Z U H1 :=
  ⟨fun q hh => va_Z.kept (va_Z.moved hvm (h.1 q hh)) hq, fun q hh => va_Z.kept (va_Z.moved hvm (h.2 q hh)) hq⟩
theorem x_E.go {X : x_X} {Z : x_Zs} {s U : State} {H H1 : Heap} (hW : s.WarmedH U.vm) (hq : ∀ a : Nat, a < H.size → ¬ x_A X a → H1[a]? = H[a]?) (h : x_E X Z s H) : x_E X Z U H1 :=
  ⟨va_K.moved hW.alike h.1, ⟨h.2.1.1.go hW.alike hq, fun q hh => vk_R.warm hW (h.2.1.2 q hh)⟩, h.2.2.warm hW⟩
theorem x_H.blind {X : x_X} {Z : x_Zs} {μ : x_M} {avs : List Value} : FrameBlind (va_Pc avs (x_H X Z μ)) := by
  intro a U g mk h
  obtain ⟨h1, ⟨k1, ⟨k2, k4⟩, k3⟩, h3⟩ := h
  have hv : (U.calling g mk a).vm = U.vm := rfl
  have al : U.vm.Alike (U.calling g mk a).vm := Vm.Alike.refl U.vm
  exact ⟨h1, ⟨va_K.moved al k1, ⟨x_Z.go al (fun _ _ _ => rfl) k2, fun q hh => vk_R.same (u := U) (U := U.calling g mk a) rfl (k4 q hh)⟩, x_W.warm (s := U) (U := U.calling g mk a) (State.WarmedH.refl U) k3⟩, h3.moved al⟩
end
section
/-! ===== typed values, and the judgement: the machine at pc does what the function o says ===== -/
abbrev x_V : Type := Int32 ⊕ (Nat ⊕ Int64)
abbrev vI (x : Int32) : x_V := .inl x
abbrev vR (n : Nat) : x_V := .inr (.inl n)
abbrev vJ (z : Int64) : x_V := .inr (.inr z)
def x_v (X : x_X) : x_V → Value
  | .inl x => .int x
  | .inr (.inl n) => x_rv X n
  | .inr (.inr z) => .long z
def x_cat : x_V → Nat
  | .inl _ => 1
  | .inr (.inl _) => 1
  | .inr (.inr _) => 2
theorem x_v_cat (X : x_X) (q : x_V) : (x_v X q).category = x_cat q := by
  rcases q with x | n | z
  · rfl
  · exact x_rv_cat X n
  · rfl
abbrev x_lv (X : x_X) (lv : List (Nat × x_V)) : List (Nat × Value) := lv.map (fun q => (q.1, x_v X q.2))
abbrev x_st (X : x_X) (st : List x_V) : List Value := st.map (x_v X)
theorem x_st_sum (X : x_X) (st : List x_V) : ((x_st X st).map fun v => v.category).sum = (st.map x_cat).sum := by
  simp only [x_st, List.map_map]
  congr 1
  exact List.map_congr_left (fun q _ => x_v_cat X q)
theorem x_lv_at {X : x_X} {ls : Array Slot} {nL : Nat} {lv : List (Nat × x_V)} (h : lv_has ls nL (x_lv X lv)) (k : Nat) {i : Nat} {v : x_V} (hk : lv[k]? = some (i, v)) : ls[i]? = some (.val (x_v X v)) := by
  refine lv_at h k (i := i) (v := x_v X v) ?_
  rw [List.getElem?_map, hk]
  rfl
def x_rm (n : Nat) : Room := { frames := n, cells := 0, slots := 0, locals := 64 * n }
def ck {β : Type} (c : Prop) [Decidable c] (k : Option β) : Option β := if c then k else none
def bd {β γ τ : Type} (o : Option (β × τ)) (k : β → τ → Option γ) : Option γ := match o with
  | none => none
  | some (r, μ) => k r μ
def lt {β γ : Type} (v : β) (k : β → γ) : γ := k v
/-- what stays the same in a method's run -/
def x_C (X : x_X) (Z : x_Zs) (p : Program) (R : Room) (s : State) (m : MethodId) (c : Code) (cc : ByteArray) (own : String) (nL cs sl n : Nat) : Prop :=
  p.tables.exec = Jvm.exec ∧ c.code = cc ∧ c.maxLocals = nL ∧ s.vm.findClass own = some m.cls ∧ x_E X Z s s.heap ∧ x_I X ∧ n ≤ R.frames ∧ 64 * n ≤ R.locals ∧ cs ≤ R.cells ∧ sl ≤ R.slots
def Sm {τ α : Type} (X : x_X) (I : τ → Heap → Prop) (A : Nat → Prop) (Q : α → τ → State → Prop) (p : Program) (l : Launch) (e : Env) (R : Room) (s : State) (m : MethodId) (args : Array Value) (below : List Frame) (meth : Method) (c : Code) (nL cs sl : Nat) (pc : Nat) (lv : List (Nat × x_V)) (st : List x_V) (μ : τ) (o : Option (α × τ)) : Prop :=
  ∀ (H : Heap) (locs : List Loc) (ls : Array Slot), I μ H → va_S A s.heap H locs → lv_has ls nL (x_lv X lv) → ∀ (r : α) (μ' : τ), o = some (r, μ') → W p l e R s m args below meth c H locs cs sl (Q r μ') (F0 m pc ls (x_st X st))
abbrev x_PI (X : x_X) (s : State) : x_M → Heap → Prop := fun μ H => x_P X μ s H
section ROWS
variable {τ α β : Type} {X : x_X} {Z : x_Zs} {I : τ → Heap → Prop} {A : Nat → Prop} {Q : α → τ → State → Prop} {p : Program} {l : Launch} {e : Env} {R : Room} {s : State} {m : MethodId} {args : Array Value} {below : List Frame} {meth : Method} {c : Code} {cc : ByteArray} {own : String} {nL cs sl n : Nat} {pc : Nat} {lv lv' : List (Nat × x_V)} {st : List x_V} {μ : τ} {o : Option (α × τ)}
theorem s_iconst (hC : x_C X Z p R s m c cc own nL cs sl n) {i : Int} {v : Int32} (hdg : decode cc pc = .ok (.iconst i, 1)) (hv : Int32.ofInt i = v) (k : Sm X I A Q p l e R s m args below meth c nL cs sl (pc + 1) lv (vI v :: st) μ o) : Sm X I A Q p l e R s m args below meth c nL cs sl pc lv st μ o := by
  exact fun H locs ls hP hS hl r μ1 ho => lv_iconst hC.1 hC.2.1 hdg hv (k H locs ls hP hS hl r μ1 ho)
theorem s_bipush (hC : x_C X Z p R s m c cc own nL cs sl n) {i : Int} {v : Int32} (hdg : decode cc pc = .ok (.bipush i, 2)) (hv : (Int8.ofInt i).toInt32 = v) (k : Sm X I A Q p l e R s m args below meth c nL cs sl (pc + 2) lv (vI v :: st) μ o) : Sm X I A Q p l e R s m args below meth c nL cs sl pc lv st μ o := by
  exact fun H locs ls hP hS hl r μ1 ho => lv_bipush hC.1 hC.2.1 hdg hv (k H locs ls hP hS hl r μ1 ho)
theorem s_sipush (hC : x_C X Z p R s m c cc own nL cs sl n) {i : Int} {v : Int32} (hdg : decode cc pc = .ok (.sipush i, 3)) (hv : (Int16.ofInt i).toInt32 = v) (k : Sm X I A Q p l e R s m args below meth c nL cs sl (pc + 3) lv (vI v :: st) μ o) : Sm X I A Q p l e R s m args below meth c nL cs sl pc lv st μ o := by
  exact fun H locs ls hP hS hl r μ1 ho => lv_sipush hC.1 hC.2.1 hdg hv (k H locs ls hP hS hl r μ1 ho)
theorem s_lconst (hC : x_C X Z p R s m c cc own nL cs sl n) {i : Fin 2} {v : Int64} (hdg : decode cc pc = .ok (.lconst i, 1)) (hv : Int64.ofNat (i : Nat) = v) (k : Sm X I A Q p l e R s m args below meth c nL cs sl (pc + 1) lv (vJ v :: st) μ o) : Sm X I A Q p l e R s m args below meth c nL cs sl pc lv st μ o := by
  exact fun H locs ls hP hS hl r μ1 ho => lv_lconst hC.1 hC.2.1 hdg hv (k H locs ls hP hS hl r μ1 ho)
theorem s_null (hC : x_C X Z p R s m c cc own nL cs sl n)  (hdg : decode cc pc = .ok (.aconst_null, 1))  (k : Sm X I A Q p l e R s m args below meth c nL cs sl (pc + 1) lv (vR 0 :: st) μ o) : Sm X I A Q p l e R s m args below meth c nL cs sl pc lv st μ o := by
  exact fun H locs ls hP hS hl r μ1 ho => lv_null hC.1 hC.2.1 hdg (k H locs ls hP hS hl r μ1 ho)
theorem s_iadd (hC : x_C X Z p R s m c cc own nL cs sl n) {x y : Int32} (hdg : decode cc pc = .ok (.iadd, 1))  (k : Sm X I A Q p l e R s m args below meth c nL cs sl (pc + 1) lv (vI (x + y) :: st) μ o) : Sm X I A Q p l e R s m args below meth c nL cs sl pc lv (vI y :: vI x :: st) μ o := by
  exact fun H locs ls hP hS hl r μ1 ho => lv_iadd hC.1 hC.2.1 hdg (k H locs ls hP hS hl r μ1 ho)
theorem s_isub (hC : x_C X Z p R s m c cc own nL cs sl n) {x y : Int32} (hdg : decode cc pc = .ok (.isub, 1))  (k : Sm X I A Q p l e R s m args below meth c nL cs sl (pc + 1) lv (vI (x - y) :: st) μ o) : Sm X I A Q p l e R s m args below meth c nL cs sl pc lv (vI y :: vI x :: st) μ o := by
  exact fun H locs ls hP hS hl r μ1 ho => lv_isub hC.1 hC.2.1 hdg (k H locs ls hP hS hl r μ1 ho)
theorem s_imul (hC : x_C X Z p R s m c cc own nL cs sl n) {x y : Int32} (hdg : decode cc pc = .ok (.imul, 1))  (k : Sm X I A Q p l e R s m args below meth c nL cs sl (pc + 1) lv (vI (x * y) :: st) μ o) : Sm X I A Q p l e R s m args below meth c nL cs sl pc lv (vI y :: vI x :: st) μ o := by
  exact fun H locs ls hP hS hl r μ1 ho => lv_imul hC.1 hC.2.1 hdg (k H locs ls hP hS hl r μ1 ho)
theorem s_iand (hC : x_C X Z p R s m c cc own nL cs sl n) {x y : Int32} (hdg : decode cc pc = .ok (.iand, 1))  (k : Sm X I A Q p l e R s m args below meth c nL cs sl (pc + 1) lv (vI (x &&& y) :: st) μ o) : Sm X I A Q p l e R s m args below meth c nL cs sl pc lv (vI y :: vI x :: st) μ o := by
  exact fun H locs ls hP hS hl r μ1 ho => lv_iand hC.1 hC.2.1 hdg (k H locs ls hP hS hl r μ1 ho)
theorem s_ior (hC : x_C X Z p R s m c cc own nL cs sl n) {x y : Int32} (hdg : decode cc pc = .ok (.ior, 1))  (k : Sm X I A Q p l e R s m args below meth c nL cs sl (pc + 1) lv (vI (x ||| y) :: st) μ o) : Sm X I A Q p l e R s m args below meth c nL cs sl pc lv (vI y :: vI x :: st) μ o := by
  exact fun H locs ls hP hS hl r μ1 ho => lv_ior hC.1 hC.2.1 hdg (k H locs ls hP hS hl r μ1 ho)
theorem s_ixor (hC : x_C X Z p R s m c cc own nL cs sl n) {x y : Int32} (hdg : decode cc pc = .ok (.ixor, 1))  (k : Sm X I A Q p l e R s m args below meth c nL cs sl (pc + 1) lv (vI (x ^^^ y) :: st) μ o) : Sm X I A Q p l e R s m args below meth c nL cs sl pc lv (vI y :: vI x :: st) μ o := by
  exact fun H locs ls hP hS hl r μ1 ho => lv_ixor hC.1 hC.2.1 hdg (k H locs ls hP hS hl r μ1 ho)
theorem s_ishl (hC : x_C X Z p R s m c cc own nL cs sl n) {x y : Int32} (hdg : decode cc pc = .ok (.ishl, 1))  (k : Sm X I A Q p l e R s m args below meth c nL cs sl (pc + 1) lv (vI (x <<< (y &&& 31)) :: st) μ o) : Sm X I A Q p l e R s m args below meth c nL cs sl pc lv (vI y :: vI x :: st) μ o := by
  exact fun H locs ls hP hS hl r μ1 ho => lv_ishl hC.1 hC.2.1 hdg (k H locs ls hP hS hl r μ1 ho)
theorem s_ineg (hC : x_C X Z p R s m c cc own nL cs sl n) {x : Int32} (hdg : decode cc pc = .ok (.ineg, 1))  (k : Sm X I A Q p l e R s m args below meth c nL cs sl (pc + 1) lv (vI (-x) :: st) μ o) : Sm X I A Q p l e R s m args below meth c nL cs sl pc lv (vI x :: st) μ o := by
  exact fun H locs ls hP hS hl r μ1 ho => lv_ineg hC.1 hC.2.1 hdg (k H locs ls hP hS hl r μ1 ho)
theorem s_idiv (hC : x_C X Z p R s m c cc own nL cs sl n) {x y : Int32} (hdg : decode cc pc = .ok (.idiv, 1))  (k : Sm X I A Q p l e R s m args below meth c nL cs sl (pc + 1) lv (vI (x / y) :: st) μ o) : Sm X I A Q p l e R s m args below meth c nL cs sl pc lv (vI y :: vI x :: st) μ (ck (¬ y = 0) o) := by
  intro H locs ls hP hS hl r μ1 ho
  unfold ck at ho
  by_cases hc : ¬ y = 0
  · rw [if_pos hc] at ho
    exact lv_idiv hC.1 hC.2.1 hdg hc (k H locs ls hP hS hl r μ1 ho)
  · rw [if_neg hc] at ho; cases ho
theorem s_irem (hC : x_C X Z p R s m c cc own nL cs sl n) {x y : Int32} (hdg : decode cc pc = .ok (.irem, 1))  (k : Sm X I A Q p l e R s m args below meth c nL cs sl (pc + 1) lv (vI (x - x / y * y) :: st) μ o) : Sm X I A Q p l e R s m args below meth c nL cs sl pc lv (vI y :: vI x :: st) μ (ck (¬ y = 0) o) := by
  intro H locs ls hP hS hl r μ1 ho
  unfold ck at ho
  by_cases hc : ¬ y = 0
  · rw [if_pos hc] at ho
    exact lv_irem hC.1 hC.2.1 hdg hc (k H locs ls hP hS hl r μ1 ho)
  · rw [if_neg hc] at ho; cases ho
theorem s_ladd (hC : x_C X Z p R s m c cc own nL cs sl n) {x y : Int64} (hdg : decode cc pc = .ok (.ladd, 1))  (k : Sm X I A Q p l e R s m args below meth c nL cs sl (pc + 1) lv (vJ (x + y) :: st) μ o) : Sm X I A Q p l e R s m args below meth c nL cs sl pc lv (vJ y :: vJ x :: st) μ o := by
  exact fun H locs ls hP hS hl r μ1 ho => lv_ladd hC.1 hC.2.1 hdg (k H locs ls hP hS hl r μ1 ho)
theorem s_land (hC : x_C X Z p R s m c cc own nL cs sl n) {x y : Int64} (hdg : decode cc pc = .ok (.land, 1))  (k : Sm X I A Q p l e R s m args below meth c nL cs sl (pc + 1) lv (vJ (x &&& y) :: st) μ o) : Sm X I A Q p l e R s m args below meth c nL cs sl pc lv (vJ y :: vJ x :: st) μ o := by
  exact fun H locs ls hP hS hl r μ1 ho => lv_land hC.1 hC.2.1 hdg (k H locs ls hP hS hl r μ1 ho)
theorem s_lor (hC : x_C X Z p R s m c cc own nL cs sl n) {x y : Int64} (hdg : decode cc pc = .ok (.lor, 1))  (k : Sm X I A Q p l e R s m args below meth c nL cs sl (pc + 1) lv (vJ (x ||| y) :: st) μ o) : Sm X I A Q p l e R s m args below meth c nL cs sl pc lv (vJ y :: vJ x :: st) μ o := by
  exact fun H locs ls hP hS hl r μ1 ho => lv_lor hC.1 hC.2.1 hdg (k H locs ls hP hS hl r μ1 ho)
theorem s_lxor (hC : x_C X Z p R s m c cc own nL cs sl n) {x y : Int64} (hdg : decode cc pc = .ok (.lxor, 1))  (k : Sm X I A Q p l e R s m args below meth c nL cs sl (pc + 1) lv (vJ (x ^^^ y) :: st) μ o) : Sm X I A Q p l e R s m args below meth c nL cs sl pc lv (vJ y :: vJ x :: st) μ o := by
  exact fun H locs ls hP hS hl r μ1 ho => lv_lxor hC.1 hC.2.1 hdg (k H locs ls hP hS hl r μ1 ho)
theorem s_ldiv (hC : x_C X Z p R s m c cc own nL cs sl n) {x y : Int64} (hdg : decode cc pc = .ok (.ldiv, 1))  (k : Sm X I A Q p l e R s m args below meth c nL cs sl (pc + 1) lv (vJ (x / y) :: st) μ o) : Sm X I A Q p l e R s m args below meth c nL cs sl pc lv (vJ y :: vJ x :: st) μ (ck (¬ y = 0) o) := by
  intro H locs ls hP hS hl r μ1 ho
  unfold ck at ho
  by_cases hc : ¬ y = 0
  · rw [if_pos hc] at ho
    exact lv_ldiv hC.1 hC.2.1 hdg hc (k H locs ls hP hS hl r μ1 ho)
  · rw [if_neg hc] at ho; cases ho
theorem s_lrem (hC : x_C X Z p R s m c cc own nL cs sl n) {x y : Int64} (hdg : decode cc pc = .ok (.lrem, 1))  (k : Sm X I A Q p l e R s m args below meth c nL cs sl (pc + 1) lv (vJ (x - x / y * y) :: st) μ o) : Sm X I A Q p l e R s m args below meth c nL cs sl pc lv (vJ y :: vJ x :: st) μ (ck (¬ y = 0) o) := by
  intro H locs ls hP hS hl r μ1 ho
  unfold ck at ho
  by_cases hc : ¬ y = 0
  · rw [if_pos hc] at ho
    exact lv_lrem hC.1 hC.2.1 hdg hc (k H locs ls hP hS hl r μ1 ho)
  · rw [if_neg hc] at ho; cases ho
theorem s_lshl (hC : x_C X Z p R s m c cc own nL cs sl n) {x : Int64} {y : Int32} (hdg : decode cc pc = .ok (.lshl, 1))  (k : Sm X I A Q p l e R s m args below meth c nL cs sl (pc + 1) lv (vJ (x <<< (y.toInt64 &&& 63)) :: st) μ o) : Sm X I A Q p l e R s m args below meth c nL cs sl pc lv (vI y :: vJ x :: st) μ o := by
  exact fun H locs ls hP hS hl r μ1 ho => lv_lshl hC.1 hC.2.1 hdg rfl (k H locs ls hP hS hl r μ1 ho)
theorem s_lushr (hC : x_C X Z p R s m c cc own nL cs sl n) {x : Int64} {y : Int32} (hdg : decode cc pc = .ok (.lushr, 1))  (k : Sm X I A Q p l e R s m args below meth c nL cs sl (pc + 1) lv (vJ (x.toUInt64 >>> (y.toInt64.toUInt64 &&& Int64.toUInt64 63)).toInt64 :: st) μ o) : Sm X I A Q p l e R s m args below meth c nL cs sl pc lv (vI y :: vJ x :: st) μ o := by
  exact fun H locs ls hP hS hl r μ1 ho => lv_lushr hC.1 hC.2.1 hdg rfl (k H locs ls hP hS hl r μ1 ho)
theorem s_i2l (hC : x_C X Z p R s m c cc own nL cs sl n) {x : Int32} (hdg : decode cc pc = .ok (.i2l, 1))  (k : Sm X I A Q p l e R s m args below meth c nL cs sl (pc + 1) lv (vJ x.toInt64 :: st) μ o) : Sm X I A Q p l e R s m args below meth c nL cs sl pc lv (vI x :: st) μ o := by
  exact fun H locs ls hP hS hl r μ1 ho => lv_i2l hC.1 hC.2.1 hdg rfl (k H locs ls hP hS hl r μ1 ho)
theorem s_l2i (hC : x_C X Z p R s m c cc own nL cs sl n) {x : Int64} (hdg : decode cc pc = .ok (.l2i, 1))  (k : Sm X I A Q p l e R s m args below meth c nL cs sl (pc + 1) lv (vI x.toInt32 :: st) μ o) : Sm X I A Q p l e R s m args below meth c nL cs sl pc lv (vJ x :: st) μ o := by
  exact fun H locs ls hP hS hl r μ1 ho => lv_l2i hC.1 hC.2.1 hdg rfl (k H locs ls hP hS hl r μ1 ho)
theorem s_i2b (hC : x_C X Z p R s m c cc own nL cs sl n) {x : Int32} (hdg : decode cc pc = .ok (.i2b, 1))  (k : Sm X I A Q p l e R s m args below meth c nL cs sl (pc + 1) lv (vI x.toInt8.toInt32 :: st) μ o) : Sm X I A Q p l e R s m args below meth c nL cs sl pc lv (vI x :: st) μ o := by
  exact fun H locs ls hP hS hl r μ1 ho => lv_i2b hC.1 hC.2.1 hdg rfl (k H locs ls hP hS hl r μ1 ho)
theorem s_i2s (hC : x_C X Z p R s m c cc own nL cs sl n) {x : Int32} (hdg : decode cc pc = .ok (.i2s, 1))  (k : Sm X I A Q p l e R s m args below meth c nL cs sl (pc + 1) lv (vI x.toInt16.toInt32 :: st) μ o) : Sm X I A Q p l e R s m args below meth c nL cs sl pc lv (vI x :: st) μ o := by
  exact fun H locs ls hP hS hl r μ1 ho => lv_i2s hC.1 hC.2.1 hdg rfl (k H locs ls hP hS hl r μ1 ho)
theorem s_i2c (hC : x_C X Z p R s m c cc own nL cs sl n) {x : Int32} (hdg : decode cc pc = .ok (.i2c, 1))  (k : Sm X I A Q p l e R s m args below meth c nL cs sl (pc + 1) lv (vI (x.toUInt32 % 65536).toInt32 :: st) μ o) : Sm X I A Q p l e R s m args below meth c nL cs sl pc lv (vI x :: st) μ o := by
  exact fun H locs ls hP hS hl r μ1 ho => lv_i2c hC.1 hC.2.1 hdg rfl (k H locs ls hP hS hl r μ1 ho)
theorem s_lcmp (hC : x_C X Z p R s m c cc own nL cs sl n) {x y : Int64} (hdg : decode cc pc = .ok (.lcmp, 1))  (k : Sm X I A Q p l e R s m args below meth c nL cs sl (pc + 1) lv (vI (lg_cmp x y) :: st) μ o) : Sm X I A Q p l e R s m args below meth c nL cs sl pc lv (vJ y :: vJ x :: st) μ o := by
  exact fun H locs ls hP hS hl r μ1 ho => W.lcmp hC.1 hC.2.1 hdg (k H locs ls hP hS hl r μ1 ho)
theorem s_dupI (hC : x_C X Z p R s m c cc own nL cs sl n) {x : Int32} (hdg : decode cc pc = .ok (.dup, 1))  (k : Sm X I A Q p l e R s m args below meth c nL cs sl (pc + 1) lv (vI x :: vI x :: st) μ o) : Sm X I A Q p l e R s m args below meth c nL cs sl pc lv (vI x :: st) μ o := by
  exact fun H locs ls hP hS hl r μ1 ho => lv_dup hC.1 hC.2.1 hdg rfl (k H locs ls hP hS hl r μ1 ho)
theorem s_dupR (hC : x_C X Z p R s m c cc own nL cs sl n) {x : Nat} (hdg : decode cc pc = .ok (.dup, 1))  (k : Sm X I A Q p l e R s m args below meth c nL cs sl (pc + 1) lv (vR x :: vR x :: st) μ o) : Sm X I A Q p l e R s m args below meth c nL cs sl pc lv (vR x :: st) μ o := by
  exact fun H locs ls hP hS hl r μ1 ho => lv_dup hC.1 hC.2.1 hdg (x_rv_cat X x) (k H locs ls hP hS hl r μ1 ho)
theorem s_dup2 (hC : x_C X Z p R s m c cc own nL cs sl n) {x : Int32} {a : Nat} (hdg : decode cc pc = .ok (.dup2, 1))  (k : Sm X I A Q p l e R s m args below meth c nL cs sl (pc + 1) lv (vI x :: vR a :: vI x :: vR a :: st) μ o) : Sm X I A Q p l e R s m args below meth c nL cs sl pc lv (vI x :: vR a :: st) μ o := by
  exact fun H locs ls hP hS hl r μ1 ho => lv_dup2_11 hC.1 hC.2.1 hdg rfl (x_rv_cat X a) (k H locs ls hP hS hl r μ1 ho)
theorem s_dup2J (hC : x_C X Z p R s m c cc own nL cs sl n) {x : Int64} (hdg : decode cc pc = .ok (.dup2, 1))  (k : Sm X I A Q p l e R s m args below meth c nL cs sl (pc + 1) lv (vJ x :: vJ x :: st) μ o) : Sm X I A Q p l e R s m args below meth c nL cs sl pc lv (vJ x :: st) μ o := by
  exact fun H locs ls hP hS hl r μ1 ho => lv_dup2_2 hC.1 hC.2.1 hdg rfl (k H locs ls hP hS hl r μ1 ho)
theorem s_pop (hC : x_C X Z p R s m c cc own nL cs sl n) {q : x_V} (hdg : decode cc pc = .ok (.pop, 1)) (hq : x_cat q = 1) (k : Sm X I A Q p l e R s m args below meth c nL cs sl (pc + 1) lv st μ o) : Sm X I A Q p l e R s m args below meth c nL cs sl pc lv (q :: st) μ o := by
  exact fun H locs ls hP hS hl r μ1 ho => lv_pop hC.1 hC.2.1 hdg ((x_v_cat X q).trans hq) (k H locs ls hP hS hl r μ1 ho)
theorem s_dup_x1 (hC : x_C X Z p R s m c cc own nL cs sl n) {q w : x_V} (hdg : decode cc pc = .ok (.dup_x1, 1)) (hq : x_cat q = 1) (hr : x_cat w = 1) (k : Sm X I A Q p l e R s m args below meth c nL cs sl (pc + 1) lv (q :: w :: q :: st) μ o) : Sm X I A Q p l e R s m args below meth c nL cs sl pc lv (q :: w :: st) μ o := by
  exact fun H locs ls hP hS hl r μ1 ho => lv_dup_x1 hC.1 hC.2.1 hdg ((x_v_cat X q).trans hq) ((x_v_cat X w).trans hr) (k H locs ls hP hS hl r μ1 ho)
theorem s_iload_n (hC : x_C X Z p R s m c cc own nL cs sl n) (k0 : Nat) {k : Fin 4} {x : Int32} (hdg : decode cc pc = .ok (.iload_n k, 1)) (hk : lv[k0]? = some ((k : Nat), vI x)) (k : Sm X I A Q p l e R s m args below meth c nL cs sl (pc + 1) lv (vI x :: st) μ o) : Sm X I A Q p l e R s m args below meth c nL cs sl pc lv st μ o := by
  exact fun H locs ls hP hS hl r μ1 ho => lv_iload_n hC.1 hC.2.1 hdg rfl (x_lv_at hl k0 hk) (k H locs ls hP hS hl r μ1 ho)
theorem s_iload (hC : x_C X Z p R s m c cc own nL cs sl n) (k0 : Nat) {i : Nat} {x : Int32} (hdg : decode cc pc = .ok (.iload i, 2)) (hk : lv[k0]? = some (i, vI x)) (k : Sm X I A Q p l e R s m args below meth c nL cs sl (pc + 2) lv (vI x :: st) μ o) : Sm X I A Q p l e R s m args below meth c nL cs sl pc lv st μ o := by
  exact fun H locs ls hP hS hl r μ1 ho => lv_iload hC.1 hC.2.1 hdg (x_lv_at hl k0 hk) (k H locs ls hP hS hl r μ1 ho)
theorem s_lload_n (hC : x_C X Z p R s m c cc own nL cs sl n) (k0 : Nat) {k : Fin 4} {x : Int64} (hdg : decode cc pc = .ok (.lload_n k, 1)) (hk : lv[k0]? = some ((k : Nat), vJ x)) (k : Sm X I A Q p l e R s m args below meth c nL cs sl (pc + 1) lv (vJ x :: st) μ o) : Sm X I A Q p l e R s m args below meth c nL cs sl pc lv st μ o := by
  exact fun H locs ls hP hS hl r μ1 ho => lv_lload_n hC.1 hC.2.1 hdg rfl (x_lv_at hl k0 hk) (k H locs ls hP hS hl r μ1 ho)
theorem s_lload (hC : x_C X Z p R s m c cc own nL cs sl n) (k0 : Nat) {i : Nat} {x : Int64} (hdg : decode cc pc = .ok (.lload i, 2)) (hk : lv[k0]? = some (i, vJ x)) (k : Sm X I A Q p l e R s m args below meth c nL cs sl (pc + 2) lv (vJ x :: st) μ o) : Sm X I A Q p l e R s m args below meth c nL cs sl pc lv st μ o := by
  exact fun H locs ls hP hS hl r μ1 ho => lv_lload hC.1 hC.2.1 hdg (x_lv_at hl k0 hk) (k H locs ls hP hS hl r μ1 ho)
theorem s_aload_n (hC : x_C X Z p R s m c cc own nL cs sl n) (k0 : Nat) {k : Fin 4} {x : Nat} (hdg : decode cc pc = .ok (.aload_n k, 1)) (hk : lv[k0]? = some ((k : Nat), vR x)) (kk : Sm X I A Q p l e R s m args below meth c nL cs sl (pc + 1) lv (vR x :: st) μ o) : Sm X I A Q p l e R s m args below meth c nL cs sl pc lv st μ o := by
  intro H locs ls hP hS hl r μ1 ho
  have h1 := x_lv_at hl k0 hk
  have h2 := kk H locs ls hP hS hl r μ1 ho
  show W p l e R s m args below meth c H locs cs sl (Q r μ1) (F0 m pc ls (x_st X st))
  have h2 : W p l e R s m args below meth c H locs cs sl (Q r μ1) (F0 m (pc + 1) ls (x_rv X x :: x_st X st)) := h2
  have h1 : ls[(k : Nat)]? = some (.val (x_rv X x)) := h1
  by_cases hx : x = 0
  · subst hx
    exact lv_aload_nN hC.1 hC.2.1 hdg rfl h1 h2
  · rw [x_rv_n X hx] at h1 h2
    exact lv_aload_n hC.1 hC.2.1 hdg rfl h1 h2
theorem s_aload (hC : x_C X Z p R s m c cc own nL cs sl n) (k0 : Nat) {i : Nat} {x : Nat} (hdg : decode cc pc = .ok (.aload i, 2)) (hk : lv[k0]? = some (i, vR x)) (kk : Sm X I A Q p l e R s m args below meth c nL cs sl (pc + 2) lv (vR x :: st) μ o) : Sm X I A Q p l e R s m args below meth c nL cs sl pc lv st μ o := by
  intro H locs ls hP hS hl r μ1 ho
  have h1 := x_lv_at hl k0 hk
  have h2 := kk H locs ls hP hS hl r μ1 ho
  show W p l e R s m args below meth c H locs cs sl (Q r μ1) (F0 m pc ls (x_st X st))
  have h2 : W p l e R s m args below meth c H locs cs sl (Q r μ1) (F0 m (pc + 2) ls (x_rv X x :: x_st X st)) := h2
  have h1 : ls[i]? = some (.val (x_rv X x)) := h1
  by_cases hx : x = 0
  · subst hx
    exact lv_aloadN hC.1 hC.2.1 hdg h1 h2
  · rw [x_rv_n X hx] at h1 h2
    exact lv_aload hC.1 hC.2.1 hdg h1 h2
def x_long : x_V → Bool
  | .inr (.inr _) => true
  | _ => false
theorem x_long_cat (X : x_X) (q : x_V) : ((x_v X q).category == 2) = x_long q := by
  rw [x_v_cat]
  rcases q with x | n | z <;> rfl
def x_put1 (lv : List (Nat × x_V)) (i : Nat) (v : x_V) : List (Nat × x_V) := (i, v) :: lv.filter (fun q => !(q.1 == i) && !(q.1 + 1 == i && x_long q.2))
def x_put2 (lv : List (Nat × x_V)) (i : Nat) (v : x_V) : List (Nat × x_V) := (i, v) :: lv.filter (fun q => !(q.1 == i) && (!(q.1 == i + 1) && !(q.1 + 1 == i && x_long q.2)))
theorem x_put1_lv (X : x_X) (lv : List (Nat × x_V)) (i : Nat) (v : x_V) : (i, x_v X v) :: (x_lv X lv).filter (fun q => !(q.1 == i) && !(q.1 + 1 == i && q.2.category == 2)) = x_lv X (x_put1 lv i v) := by
  unfold x_put1 x_lv
  rw [List.map_cons, List.filter_map]
  congr 2
  apply List.filter_congr
  intro q _
  show (!(q.1 == i) && !(q.1 + 1 == i && (x_v X q.2).category == 2)) = _
  rw [x_long_cat]
theorem x_put2_lv (X : x_X) (lv : List (Nat × x_V)) (i : Nat) (v : x_V) : (i, x_v X v) :: (x_lv X lv).filter (fun q => !(q.1 == i) && (!(q.1 == i + 1) && !(q.1 + 1 == i && q.2.category == 2))) = x_lv X (x_put2 lv i v) := by
  unfold x_put2 x_lv
  rw [List.map_cons, List.filter_map]
  congr 2
  apply List.filter_congr
  intro q _
  show (!(q.1 == i) && (!(q.1 == i + 1) && !(q.1 + 1 == i && (x_v X q.2).category == 2))) = _
  rw [x_long_cat]
theorem s_istore_n (hC : x_C X Z p R s m c cc own nL cs sl n) {k : Fin 4} {x : Int32} (hdg : decode cc pc = .ok (.istore_n k, 1)) (hn : (k : Nat) < nL) (hv : x_put1 lv k (vI x) = lv') (kk : Sm X I A Q p l e R s m args below meth c nL cs sl (pc + 1) lv' st μ o) : Sm X I A Q p l e R s m args below meth c nL cs sl pc lv (vI x :: st) μ o := by
  subst hv
  exact fun H locs ls hP hS hl r μ1 ho => lv_istore_n hC.1 hC.2.1 hdg rfl hl hn (x_put1_lv X lv k (vI x)) (fun ls2 hl2 => kk H locs ls2 hP hS hl2 r μ1 ho)
theorem s_istore (hC : x_C X Z p R s m c cc own nL cs sl n) {i : Nat} {x : Int32} (hdg : decode cc pc = .ok (.istore i, 2)) (hn : i < nL) (hv : x_put1 lv i (vI x) = lv') (kk : Sm X I A Q p l e R s m args below meth c nL cs sl (pc + 2) lv' st μ o) : Sm X I A Q p l e R s m args below meth c nL cs sl pc lv (vI x :: st) μ o := by
  subst hv
  exact fun H locs ls hP hS hl r μ1 ho => lv_istore hC.1 hC.2.1 hdg hl hn (x_put1_lv X lv i (vI x)) (fun ls2 hl2 => kk H locs ls2 hP hS hl2 r μ1 ho)
theorem s_lstore_n (hC : x_C X Z p R s m c cc own nL cs sl n) {k : Fin 4} {x : Int64} (hdg : decode cc pc = .ok (.lstore_n k, 1)) (hn : (k : Nat) + 1 < nL) (hv : x_put2 lv k (vJ x) = lv') (kk : Sm X I A Q p l e R s m args below meth c nL cs sl (pc + 1) lv' st μ o) : Sm X I A Q p l e R s m args below meth c nL cs sl pc lv (vJ x :: st) μ o := by
  subst hv
  exact fun H locs ls hP hS hl r μ1 ho => lv_lstore_n hC.1 hC.2.1 hdg rfl hl hn (x_put2_lv X lv k (vJ x)) (fun ls2 hl2 => kk H locs ls2 hP hS hl2 r μ1 ho)
theorem s_lstore (hC : x_C X Z p R s m c cc own nL cs sl n) {i : Nat} {x : Int64} (hdg : decode cc pc = .ok (.lstore i, 2)) (hn : i + 1 < nL) (hv : x_put2 lv i (vJ x) = lv') (kk : Sm X I A Q p l e R s m args below meth c nL cs sl (pc + 2) lv' st μ o) : Sm X I A Q p l e R s m args below meth c nL cs sl pc lv (vJ x :: st) μ o := by
  subst hv
  exact fun H locs ls hP hS hl r μ1 ho => lv_lstore hC.1 hC.2.1 hdg hl hn (x_put2_lv X lv i (vJ x)) (fun ls2 hl2 => kk H locs ls2 hP hS hl2 r μ1 ho)
theorem s_astore_n (hC : x_C X Z p R s m c cc own nL cs sl n) {k : Fin 4} {x : Nat} (hdg : decode cc pc = .ok (.astore_n k, 1)) (hn : (k : Nat) < nL) (hv : x_put1 lv (k : Nat) (vR x) = lv') (kk : Sm X I A Q p l e R s m args below meth c nL cs sl (pc + 1) lv' st μ o) : Sm X I A Q p l e R s m args below meth c nL cs sl pc lv (vR x :: st) μ o := by
  subst hv
  intro H locs ls hP hS hl r μ1 ho
  have he := x_put1_lv X lv (k : Nat) (vR x)
  have he : ((k : Nat), x_rv X x) :: (x_lv X lv).filter (fun q => !(q.1 == (k : Nat)) && !(q.1 + 1 == (k : Nat) && q.2.category == 2)) = x_lv X (x_put1 lv (k : Nat) (vR x)) := he
  show W p l e R s m args below meth c H locs cs sl (Q r μ1) (F0 m pc ls (x_rv X x :: x_st X st))
  by_cases hx : x = 0
  · subst hx
    exact lv_astore_nN hC.1 hC.2.1 hdg rfl hl hn he (fun ls2 hl2 => kk H locs ls2 hP hS hl2 r μ1 ho)
  · rw [x_rv_n X hx] at he ⊢
    exact lv_astore_n hC.1 hC.2.1 hdg rfl hl hn he (fun ls2 hl2 => kk H locs ls2 hP hS hl2 r μ1 ho)
theorem s_astore (hC : x_C X Z p R s m c cc own nL cs sl n) {i : Nat} {x : Nat} (hdg : decode cc pc = .ok (.astore i, 2)) (hn : i < nL) (hv : x_put1 lv i (vR x) = lv') (kk : Sm X I A Q p l e R s m args below meth c nL cs sl (pc + 2) lv' st μ o) : Sm X I A Q p l e R s m args below meth c nL cs sl pc lv (vR x :: st) μ o := by
  subst hv
  intro H locs ls hP hS hl r μ1 ho
  have he := x_put1_lv X lv i (vR x)
  have he : (i, x_rv X x) :: (x_lv X lv).filter (fun q => !(q.1 == i) && !(q.1 + 1 == i && q.2.category == 2)) = x_lv X (x_put1 lv i (vR x)) := he
  show W p l e R s m args below meth c H locs cs sl (Q r μ1) (F0 m pc ls (x_rv X x :: x_st X st))
  by_cases hx : x = 0
  · subst hx
    exact lv_astoreN hC.1 hC.2.1 hdg hl hn he (fun ls2 hl2 => kk H locs ls2 hP hS hl2 r μ1 ho)
  · rw [x_rv_n X hx] at he ⊢
    exact lv_astore hC.1 hC.2.1 hdg hl hn he (fun ls2 hl2 => kk H locs ls2 hP hS hl2 r μ1 ho)
theorem s_iinc (hC : x_C X Z p R s m c cc own nL cs sl n) (k0 : Nat) {i : Nat} {z : Int} {x w : Int32} (hdg : decode cc pc = .ok (.iinc i z, 3)) (hk : lv[k0]? = some (i, vI x)) (hz : Int32.ofInt z = w) (hn : i < nL) (hv : x_put1 lv i (vI (x + w)) = lv') (kk : Sm X I A Q p l e R s m args below meth c nL cs sl (pc + 3) lv' st μ o) : Sm X I A Q p l e R s m args below meth c nL cs sl pc lv st μ o := by
  subst hv
  subst hz
  intro H locs ls hP hS hl r μ1 ho
  refine lv_iinc hC.1 hC.2.1 hdg hl (k := k0) (x := x) ?_ rfl hn (x_put1_lv X lv i (vI (x + Int32.ofInt z))) (fun ls2 hl2 => kk H locs ls2 hP hS hl2 r μ1 ho)
  rw [List.getElem?_map, hk]
  rfl
/-- fewer locals, in another order -/
theorem s_lv (ks : List Nat) (hv : ks.filterMap (fun k => lv[k]?) = lv') (kk : Sm X I A Q p l e R s m args below meth c nL cs sl pc lv' st μ o) : Sm X I A Q p l e R s m args below meth c nL cs sl pc lv st μ o := by
  subst hv
  intro H locs ls hP hS hl r μ1 ho
  refine kk H locs ls hP hS (lv_sub hl ks ?_) r μ1 ho
  unfold lv_pick x_lv
  rw [List.map_filterMap]
  congr 1
  funext k
  rw [List.getElem?_map]
/-- names -/
theorem s_lt {γ : Type} {v : γ} {K : γ → Option (α × τ)} (kk : Sm X I A Q p l e R s m args below meth c nL cs sl pc lv st μ (K v)) : Sm X I A Q p l e R s m args below meth c nL cs sl pc lv st μ (lt v K) := kk
theorem s_ltI {v : Int32} {K : Int32 → Option (α × τ)} (kk : ∀ x : Int32, Sm X I A Q p l e R s m args below meth c nL cs sl pc lv (vI x :: st) μ (K x)) : Sm X I A Q p l e R s m args below meth c nL cs sl pc lv (vI v :: st) μ (lt v K) := kk v
theorem s_ltJ {v : Int64} {K : Int64 → Option (α × τ)} (kk : ∀ x : Int64, Sm X I A Q p l e R s m args below meth c nL cs sl pc lv (vJ x :: st) μ (K x)) : Sm X I A Q p l e R s m args below meth c nL cs sl pc lv (vJ v :: st) μ (lt v K) := kk v
theorem s_ltR {v : Nat} {K : Nat → Option (α × τ)} (kk : ∀ x : Nat, Sm X I A Q p l e R s m args below meth c nL cs sl pc lv (vR x :: st) μ (K x)) : Sm X I A Q p l e R s m args below meth c nL cs sl pc lv (vR v :: st) μ (lt v K) := kk v
theorem s_ltM {K : τ → Option (α × τ)} (kk : ∀ μ1 : τ, Sm X I A Q p l e R s m args below meth c nL cs sl pc lv st μ1 (K μ1)) : Sm X I A Q p l e R s m args below meth c nL cs sl pc lv st μ (lt μ K) := kk μ
theorem s_goto (hC : x_C X Z p R s m c cc own nL cs sl n) {off : Int} {tgt : Nat} (hdg : decode cc pc = .ok (.goto off, 3)) (ht : (pc : Int) + off = (tgt : Int)) (k : Sm X I A Q p l e R s m args below meth c nL cs sl tgt lv st μ o) : Sm X I A Q p l e R s m args below meth c nL cs sl pc lv st μ o :=
  fun H locs ls hP hS hl r μ1 ho => lv_goto hC.1 hC.2.1 hdg ht (k H locs ls hP hS hl r μ1 ho)
theorem s_if_eq (hC : x_C X Z p R s m c cc own nL cs sl n) {x : Int32} {off : Int} {tgt : Nat} {K1 K2 : Option (α × τ)} (hdg : decode cc pc = .ok (.ifCond .eq off, 3)) (ht : (pc : Int) + off = (tgt : Int)) (kt : Sm X I A Q p l e R s m args below meth c nL cs sl tgt lv st μ K1) (kf : Sm X I A Q p l e R s m args below meth c nL cs sl (pc + 3) lv st μ K2) : Sm X I A Q p l e R s m args below meth c nL cs sl pc lv (vI x :: st) μ (if x = 0 then K1 else K2) := by
  intro H locs ls hP hS hl r μ1 ho
  exact lv_if_eq hC.1 hC.2.1 hdg ht (fun h => kt H locs ls hP hS hl r μ1 (by rw [← ho, if_pos h])) (fun h => kf H locs ls hP hS hl r μ1 (by rw [← ho, if_neg h]))
theorem s_icmp_eq (hC : x_C X Z p R s m c cc own nL cs sl n) {x y : Int32} {off : Int} {tgt : Nat} {K1 K2 : Option (α × τ)} (hdg : decode cc pc = .ok (.if_icmp .eq off, 3)) (ht : (pc : Int) + off = (tgt : Int)) (kt : Sm X I A Q p l e R s m args below meth c nL cs sl tgt lv st μ K1) (kf : Sm X I A Q p l e R s m args below meth c nL cs sl (pc + 3) lv st μ K2) : Sm X I A Q p l e R s m args below meth c nL cs sl pc lv (vI y :: vI x :: st) μ (if x = y then K1 else K2) := by
  intro H locs ls hP hS hl r μ1 ho
  exact lv_icmp_eq hC.1 hC.2.1 hdg ht (fun h => kt H locs ls hP hS hl r μ1 (by rw [← ho, if_pos h])) (fun h => kf H locs ls hP hS hl r μ1 (by rw [← ho, if_neg h]))
theorem s_if_ne (hC : x_C X Z p R s m c cc own nL cs sl n) {x : Int32} {off : Int} {tgt : Nat} {K1 K2 : Option (α × τ)} (hdg : decode cc pc = .ok (.ifCond .ne off, 3)) (ht : (pc : Int) + off = (tgt : Int)) (kt : Sm X I A Q p l e R s m args below meth c nL cs sl tgt lv st μ K1) (kf : Sm X I A Q p l e R s m args below meth c nL cs sl (pc + 3) lv st μ K2) : Sm X I A Q p l e R s m args below meth c nL cs sl pc lv (vI x :: st) μ (if x = 0 then K2 else K1) := by
  intro H locs ls hP hS hl r μ1 ho
  exact lv_if_ne hC.1 hC.2.1 hdg ht (fun h => kt H locs ls hP hS hl r μ1 (by rw [← ho, if_neg h])) (fun h => kf H locs ls hP hS hl r μ1 (by rw [← ho, if_pos h]))
theorem s_icmp_ne (hC : x_C X Z p R s m c cc own nL cs sl n) {x y : Int32} {off : Int} {tgt : Nat} {K1 K2 : Option (α × τ)} (hdg : decode cc pc = .ok (.if_icmp .ne off, 3)) (ht : (pc : Int) + off = (tgt : Int)) (kt : Sm X I A Q p l e R s m args below meth c nL cs sl tgt lv st μ K1) (kf : Sm X I A Q p l e R s m args below meth c nL cs sl (pc + 3) lv st μ K2) : Sm X I A Q p l e R s m args below meth c nL cs sl pc lv (vI y :: vI x :: st) μ (if x = y then K2 else K1) := by
  intro H locs ls hP hS hl r μ1 ho
  exact lv_icmp_ne hC.1 hC.2.1 hdg ht (fun h => kt H locs ls hP hS hl r μ1 (by rw [← ho, if_neg h])) (fun h => kf H locs ls hP hS hl r μ1 (by rw [← ho, if_pos h]))
theorem s_if_lt (hC : x_C X Z p R s m c cc own nL cs sl n) {x : Int32} {off : Int} {tgt : Nat} {K1 K2 : Option (α × τ)} (hdg : decode cc pc = .ok (.ifCond .lt off, 3)) (ht : (pc : Int) + off = (tgt : Int)) (kt : Sm X I A Q p l e R s m args below meth c nL cs sl tgt lv st μ K1) (kf : Sm X I A Q p l e R s m args below meth c nL cs sl (pc + 3) lv st μ K2) : Sm X I A Q p l e R s m args below meth c nL cs sl pc lv (vI x :: st) μ (if x < 0 then K1 else K2) := by
  intro H locs ls hP hS hl r μ1 ho
  exact lv_if_lt hC.1 hC.2.1 hdg ht (fun h => kt H locs ls hP hS hl r μ1 (by rw [← ho, if_pos h])) (fun h => kf H locs ls hP hS hl r μ1 (by rw [← ho, if_neg h]))
theorem s_icmp_lt (hC : x_C X Z p R s m c cc own nL cs sl n) {x y : Int32} {off : Int} {tgt : Nat} {K1 K2 : Option (α × τ)} (hdg : decode cc pc = .ok (.if_icmp .lt off, 3)) (ht : (pc : Int) + off = (tgt : Int)) (kt : Sm X I A Q p l e R s m args below meth c nL cs sl tgt lv st μ K1) (kf : Sm X I A Q p l e R s m args below meth c nL cs sl (pc + 3) lv st μ K2) : Sm X I A Q p l e R s m args below meth c nL cs sl pc lv (vI y :: vI x :: st) μ (if x < y then K1 else K2) := by
  intro H locs ls hP hS hl r μ1 ho
  exact lv_icmp_lt hC.1 hC.2.1 hdg ht (fun h => kt H locs ls hP hS hl r μ1 (by rw [← ho, if_pos h])) (fun h => kf H locs ls hP hS hl r μ1 (by rw [← ho, if_neg h]))
theorem s_if_ge (hC : x_C X Z p R s m c cc own nL cs sl n) {x : Int32} {off : Int} {tgt : Nat} {K1 K2 : Option (α × τ)} (hdg : decode cc pc = .ok (.ifCond .ge off, 3)) (ht : (pc : Int) + off = (tgt : Int)) (kt : Sm X I A Q p l e R s m args below meth c nL cs sl tgt lv st μ K1) (kf : Sm X I A Q p l e R s m args below meth c nL cs sl (pc + 3) lv st μ K2) : Sm X I A Q p l e R s m args below meth c nL cs sl pc lv (vI x :: st) μ (if 0 ≤ x then K1 else K2) := by
  intro H locs ls hP hS hl r μ1 ho
  exact lv_if_ge hC.1 hC.2.1 hdg ht (fun h => kt H locs ls hP hS hl r μ1 (by rw [← ho, if_pos h])) (fun h => kf H locs ls hP hS hl r μ1 (by rw [← ho, if_neg h]))
theorem s_icmp_ge (hC : x_C X Z p R s m c cc own nL cs sl n) {x y : Int32} {off : Int} {tgt : Nat} {K1 K2 : Option (α × τ)} (hdg : decode cc pc = .ok (.if_icmp .ge off, 3)) (ht : (pc : Int) + off = (tgt : Int)) (kt : Sm X I A Q p l e R s m args below meth c nL cs sl tgt lv st μ K1) (kf : Sm X I A Q p l e R s m args below meth c nL cs sl (pc + 3) lv st μ K2) : Sm X I A Q p l e R s m args below meth c nL cs sl pc lv (vI y :: vI x :: st) μ (if y ≤ x then K1 else K2) := by
  intro H locs ls hP hS hl r μ1 ho
  exact lv_icmp_ge hC.1 hC.2.1 hdg ht (fun h => kt H locs ls hP hS hl r μ1 (by rw [← ho, if_pos h])) (fun h => kf H locs ls hP hS hl r μ1 (by rw [← ho, if_neg h]))
theorem s_if_gt (hC : x_C X Z p R s m c cc own nL cs sl n) {x : Int32} {off : Int} {tgt : Nat} {K1 K2 : Option (α × τ)} (hdg : decode cc pc = .ok (.ifCond .gt off, 3)) (ht : (pc : Int) + off = (tgt : Int)) (kt : Sm X I A Q p l e R s m args below meth c nL cs sl tgt lv st μ K1) (kf : Sm X I A Q p l e R s m args below meth c nL cs sl (pc + 3) lv st μ K2) : Sm X I A Q p l e R s m args below meth c nL cs sl pc lv (vI x :: st) μ (if 0 < x then K1 else K2) := by
  intro H locs ls hP hS hl r μ1 ho
  exact lv_if_gt hC.1 hC.2.1 hdg ht (fun h => kt H locs ls hP hS hl r μ1 (by rw [← ho, if_pos h])) (fun h => kf H locs ls hP hS hl r μ1 (by rw [← ho, if_neg h]))
theorem s_icmp_gt (hC : x_C X Z p R s m c cc own nL cs sl n) {x y : Int32} {off : Int} {tgt : Nat} {K1 K2 : Option (α × τ)} (hdg : decode cc pc = .ok (.if_icmp .gt off, 3)) (ht : (pc : Int) + off = (tgt : Int)) (kt : Sm X I A Q p l e R s m args below meth c nL cs sl tgt lv st μ K1) (kf : Sm X I A Q p l e R s m args below meth c nL cs sl (pc + 3) lv st μ K2) : Sm X I A Q p l e R s m args below meth c nL cs sl pc lv (vI y :: vI x :: st) μ (if y < x then K1 else K2) := by
  intro H locs ls hP hS hl r μ1 ho
  exact lv_icmp_gt hC.1 hC.2.1 hdg ht (fun h => kt H locs ls hP hS hl r μ1 (by rw [← ho, if_pos h])) (fun h => kf H locs ls hP hS hl r μ1 (by rw [← ho, if_neg h]))
theorem s_if_le (hC : x_C X Z p R s m c cc own nL cs sl n) {x : Int32} {off : Int} {tgt : Nat} {K1 K2 : Option (α × τ)} (hdg : decode cc pc = .ok (.ifCond .le off, 3)) (ht : (pc : Int) + off = (tgt : Int)) (kt : Sm X I A Q p l e R s m args below meth c nL cs sl tgt lv st μ K1) (kf : Sm X I A Q p l e R s m args below meth c nL cs sl (pc + 3) lv st μ K2) : Sm X I A Q p l e R s m args below meth c nL cs sl pc lv (vI x :: st) μ (if x ≤ 0 then K1 else K2) := by
  intro H locs ls hP hS hl r μ1 ho
  exact lv_if_le hC.1 hC.2.1 hdg ht (fun h => kt H locs ls hP hS hl r μ1 (by rw [← ho, if_pos h])) (fun h => kf H locs ls hP hS hl r μ1 (by rw [← ho, if_neg h]))
theorem s_icmp_le (hC : x_C X Z p R s m c cc own nL cs sl n) {x y : Int32} {off : Int} {tgt : Nat} {K1 K2 : Option (α × τ)} (hdg : decode cc pc = .ok (.if_icmp .le off, 3)) (ht : (pc : Int) + off = (tgt : Int)) (kt : Sm X I A Q p l e R s m args below meth c nL cs sl tgt lv st μ K1) (kf : Sm X I A Q p l e R s m args below meth c nL cs sl (pc + 3) lv st μ K2) : Sm X I A Q p l e R s m args below meth c nL cs sl pc lv (vI y :: vI x :: st) μ (if x ≤ y then K1 else K2) := by
  intro H locs ls hP hS hl r μ1 ho
  exact lv_icmp_le hC.1 hC.2.1 hdg ht (fun h => kt H locs ls hP hS hl r μ1 (by rw [← ho, if_pos h])) (fun h => kf H locs ls hP hS hl r μ1 (by rw [← ho, if_neg h]))
theorem s_ifnull (hC : x_C X Z p R s m c cc own nL cs sl n) {x : Nat} {off : Int} {tgt : Nat} {K1 K2 : Option (α × τ)} (hdg : decode cc pc = .ok (.ifnull off, 3)) (ht : (pc : Int) + off = (tgt : Int)) (kt : Sm X I A Q p l e R s m args below meth c nL cs sl tgt lv st μ K1) (kf : Sm X I A Q p l e R s m args below meth c nL cs sl (pc + 3) lv st μ K2) : Sm X I A Q p l e R s m args below meth c nL cs sl pc lv (vR x :: st) μ (if x = 0 then K1 else K2) := by
  intro H locs ls hP hS hl r μ1 ho
  show W p l e R s m args below meth c H locs cs sl (Q r μ1) (F0 m pc ls (x_rv X x :: x_st X st))
  by_cases hx : x = 0
  · subst hx
    exact lv_ifnullN hC.1 hC.2.1 hdg ht (kt H locs ls hP hS hl r μ1 (by rw [← ho, if_pos rfl]))
  · rw [x_rv_n X hx]
    exact lv_ifnull hC.1 hC.2.1 hdg (kf H locs ls hP hS hl r μ1 (by rw [← ho, if_neg hx]))
theorem s_ifnonnull (hC : x_C X Z p R s m c cc own nL cs sl n) {x : Nat} {off : Int} {tgt : Nat} {K1 K2 : Option (α × τ)} (hdg : decode cc pc = .ok (.ifnonnull off, 3)) (ht : (pc : Int) + off = (tgt : Int)) (kt : Sm X I A Q p l e R s m args below meth c nL cs sl tgt lv st μ K1) (kf : Sm X I A Q p l e R s m args below meth c nL cs sl (pc + 3) lv st μ K2) : Sm X I A Q p l e R s m args below meth c nL cs sl pc lv (vR x :: st) μ (if x = 0 then K2 else K1) := by
  intro H locs ls hP hS hl r μ1 ho
  show W p l e R s m args below meth c H locs cs sl (Q r μ1) (F0 m pc ls (x_rv X x :: x_st X st))
  by_cases hx : x = 0
  · subst hx
    exact lv_ifnonnullN hC.1 hC.2.1 hdg (kf H locs ls hP hS hl r μ1 (by rw [← ho, if_pos rfl]))
  · rw [x_rv_n X hx]
    exact lv_ifnonnull hC.1 hC.2.1 hdg ht (kt H locs ls hP hS hl r μ1 (by rw [← ho, if_neg hx]))
end ROWS
end
section
/-! ===== rows over the memory: fields, arrays, statics, switches, returns, calls ===== -/
theorem x_W.at {U : State} (h : x_W U) {w : Cond} (hw : w ∈ lw_tbl ∧ (goodWord w = true ∨ x_nest w = true)) (a : Array Value) : w.before a U = true := h w hw.1 hw.2 a
/-- a word of the tables that every state of the run keeps -/
abbrev x_in (w : Cond) : Prop := w ∈ lw_tbl ∧ (goodWord w = true ∨ x_nest w = true)
/-- a class: its place, its fields, what the tables say of them -/
def x_Cls (ci : Nat) (C : String) (T : u_T) (N : Nat) : Prop := vwCl[ci]? = some (C, T, N) ∧ ci + 1 < 20 ∧ (∀ w ∈ u_ws C T N, x_in w) ∧ (∀ k, k < N → parseFieldDescriptor (T k).2.2.1 = some (x_ty ci k)) ∧ (∀ a, a < N → ∀ b, b < N → a ≠ b → (T a).2.1 ≠ (T b).2.1) ∧ (∀ k, k < N → (T k).1 = C)
def x_fl (nest : Bool) (own : String) (idx : Nat) (C : String) (T : u_T) (k : Nat) : Cond := match nest with
  | true => .fieldLinkNest own idx C (T k).2.1 (T k).2.2.1 "LakeBooks"
  | false => .fieldLink own idx C (T k).2.1 (T k).2.2.1
theorem x_isR_int {ci k : Nat} (h : x_isR ci k = false) {X : x_X} {μ : x_M} {o : Nat} : x_f X μ ci o k = .int (μ.1 o k) := by
  unfold x_f; rw [h]; rfl
theorem x_isR_ref {ci k : Nat} (h : x_isR ci k = true) {X : x_X} {μ : x_M} {o : Nat} : x_f X μ ci o k = x_rv X (μ.2.1 o k) := by
  unfold x_f; rw [h]; rfl
section HEAP
variable {α β : Type} {X : x_X} {Z : x_Zs} {A : Nat → Prop} {Q : α → x_M → State → Prop} {p : Program} {l : Launch} {e : Env} {R : Room} {s : State} {m : MethodId} {args : Array Value} {below : List Frame} {meth : Method} {c : Code} {cc : ByteArray} {own : String} {nL cs sl n : Nat} {pc : Nat} {lv lv' : List (Nat × x_V)} {st : List x_V} {μ : x_M} {o : Option (α × x_M)}
/-- the cell of an object of a class, and its places -/
theorem x_obj {H : Heap} {x ci N : Nat} {C : String} {T : u_T} (hE : x_E X Z s s.heap) (hP : x_P X μ s H) (hcl : x_Cls ci C T N) (hx : x_kd X x = ci + 1) :
    ∃ (cell : Cell) (cC : ClassId) (kC : Class), H[x_ad X x]? = some cell ∧ cell.cls = (x_D X).1 ci ∧ cell.vm = .none ∧ (∀ k, k < N → cell.slots[(x_D X).2 ci k]? = some (x_f X μ ci x k)) ∧ (x_D X).1 ci = cC ∧ s.vm.findClass C = some cC ∧ s.vm.classes[cC]? = some kC ∧ kC.kind = .ordinary ∧ (∀ k, k < N → SlotIs s (T k).1 (T k).2.1 (T k).2.2.1 ((x_D X).2 ci k)) ∧ (∀ w ∈ u_ws C T N, w.before args s = true) := by
  obtain ⟨hc, hci, hin, -⟩ := hcl
  have hk : x_kd X x - 1 = ci := by omega
  obtain ⟨r, h1, cell, q1, q2, q3, q4⟩ := (hP x).1 (by omega) (by omega)
  rw [hk] at h1 q2 q4
  have hr : r = (C, T, N) := Option.some.inj (h1.symm.trans hc)
  subst hr
  obtain ⟨hS, hfc, kC, hkC, hkind⟩ := hE.1.1 ci _ hc
  exact ⟨cell, _, kC, q1, q2, q3, q4, rfl, hfc, hkC, hkind, hS, fun w hw => hE.2.2.at (hin w hw) _⟩
theorem s_get0 (hC : x_C X Z p R s m c cc own nL cs sl n) {ci k N idx x : Nat} {C : String} {T : u_T} {v : x_V} {nest : Bool} (hcl : x_Cls ci C T N) (hkN : k < N)
    (hlink : x_in (x_fl nest own idx C T k)) (hv : x_f X μ ci x k = x_v X v) (hdg : decode cc pc = .ok (.getfield idx, 3)) (kk : Sm X (x_PI X s) A Q p l e R s m args below meth c nL cs sl (pc + 3) lv (v :: st) μ o) : Sm X (x_PI X s) A Q p l e R s m args below meth c nL cs sl pc lv (vR x :: st) μ (ck (x_kd X x = ci + 1) o) := by
  intro H locs ls hP hS hl r μ1 ho
  unfold ck at ho
  by_cases hx : x_kd X x = ci + 1
  · rw [if_pos hx] at ho
    have h2 := kk H locs ls hP hS hl r μ1 ho
    obtain ⟨cell, cC, kC, q1, q2, q3, q4, -, hfc, hkC, hkind, hsl, hws⟩ := x_obj (args := args) hC.2.2.2.2.1 hP hcl hx
    obtain ⟨cf, kf, fi, f, hi, hsf⟩ := hsl k hkN
    have h0 : x ≠ 0 := fun z => by rw [z, hC.2.2.2.2.2.1.1] at hx; omega
    have hst := (u_facts hfc hkC (u_lays hws (fun w hw => hw) hkN) hi).1
    have h3 : W p l e R s m args below meth c H locs cs sl (Q r μ1) (F0 m (pc + 3) ls (x_f X μ ci x k :: x_st X st)) := by rw [hv]; exact h2
    show W p l e R s m args below meth c H locs cs sl (Q r μ1) (F0 m pc ls (x_rv X x :: x_st X st))
    have hW := hC.2.2.2.2.1.2.2.at hlink args
    have hT' : s.fieldFound? C (T k).2.1 (T k).2.2.1 = some (cf, kf, fi, f) := by
      have := hcl.2.2.2.2.2 k hkN
      rw [this] at hi; exact hi
    rw [x_rv_n X h0]
    cases nest with
    | false => exact W.getf hC.1 hC.2.1 hC.2.2.2.1 hW hT' hst q1 (by rw [q3]; exact fun h => by cases h) (by rw [hsf]; exact q4 k hkN) rfl rfl hdg h3
    | true => exact va_Wgetf hC.1 hC.2.1 hC.2.2.2.1 hW hT' hst q1 (by rw [q3]; exact fun h => by cases h) (by rw [hsf]; exact q4 k hkN) rfl rfl hdg h3
  · rw [if_neg hx] at ho; cases ho
theorem s_getI (hC : x_C X Z p R s m c cc own nL cs sl n) {ci k N idx x : Nat} {C : String} {T : u_T} {nest : Bool} (hcl : x_Cls ci C T N) (hkN : k < N) (hR : x_isR ci k = false)
    (hlink : x_in (x_fl nest own idx C T k)) (hdg : decode cc pc = .ok (.getfield idx, 3)) (kk : Sm X (x_PI X s) A Q p l e R s m args below meth c nL cs sl (pc + 3) lv (vI (μ.1 x k) :: st) μ o) : Sm X (x_PI X s) A Q p l e R s m args below meth c nL cs sl pc lv (vR x :: st) μ (ck (x_kd X x = ci + 1) o) := s_get0 hC hcl hkN hlink (v := vI (μ.1 x k)) (x_isR_int hR) hdg kk
theorem s_getR (hC : x_C X Z p R s m c cc own nL cs sl n) {ci k N idx x : Nat} {C : String} {T : u_T} {nest : Bool} (hcl : x_Cls ci C T N) (hkN : k < N) (hR : x_isR ci k = true)
    (hlink : x_in (x_fl nest own idx C T k)) (hdg : decode cc pc = .ok (.getfield idx, 3)) (kk : Sm X (x_PI X s) A Q p l e R s m args below meth c nL cs sl (pc + 3) lv (vR (μ.2.1 x k) :: st) μ o) : Sm X (x_PI X s) A Q p l e R s m args below meth c nL cs sl pc lv (vR x :: st) μ (ck (x_kd X x = ci + 1) o) := s_get0 hC hcl hkN hlink (v := vR (μ.2.1 x k)) (x_isR_ref hR) hdg kk
theorem s_put0 (hC : x_C X Z p R s m c cc own nL cs sl n) {ci k N idx x : Nat} {C : String} {T : u_T} {v : x_V} {nest : Bool} {μ2 : x_M} {H : Heap} {locs : List Loc} {ls : Array Slot} {r : α} {μ1 : x_M} (hcl : x_Cls ci C T N) (hkN : k < N) (hfin : (T k).2.2.2 = false)
    (hlink : x_in (x_fl nest own idx C T k)) (hx : x_kd X x = ci + 1) (hn : narrow (x_ty ci k) (x_v X v) = x_v X v) (hfit : fits (x_ty ci k) (x_v X v) = true)
    (hv : ∀ j, j < N → updV (fun j => x_f X μ ci x j) k (x_v X v) j = x_f X μ2 ci x j) (e1 : ∀ p, p ≠ x → μ2.1 p = μ.1 p) (e2 : ∀ p, p ≠ x → μ2.2.1 p = μ.2.1 p) (e3 : ∀ p, p ≠ x → μ2.2.2 p = μ.2.2 p)
    (hdg : decode cc pc = .ok (.putfield idx, 3)) (hP : x_P X μ s H) (hS : va_S (x_A X) s.heap H locs) (hl : lv_has ls nL (x_lv X lv)) (ho : o = some (r, μ1))
    (kk : Sm X (x_PI X s) (x_A X) Q p l e R s m args below meth c nL cs sl (pc + 3) lv st μ2 o) : W p l e R s m args below meth c H locs cs sl (Q r μ1) (F0 m pc ls (x_st X (v :: vR x :: st))) := by
  have hI := hC.2.2.2.2.2.1
  obtain ⟨cell, cC, kC, q1, q2, q3, q4, hcC, hfc, hkC, hkind, hsl, hws⟩ := x_obj (args := args) hC.2.2.2.2.1 hP hcl hx
  obtain ⟨cf, kf, fi, f, hi, hsf⟩ := hsl k hkN
  have h0 : x ≠ 0 := fun z => by rw [z, hI.1] at hx; omega
  have hst := (u_facts hfc hkC (u_lays hws (fun w hw => hw) hkN) hi).1
  have hap := va_apart (D := x_D X) (own := C) hws (fun w hw => hw) (x_ty ci) hcl.2.2.2.1 hcl.2.2.2.2.1 hC.2.2.2.2.1.1 hcl.1
  have hlay := hws _ (u_in_lay hkN)
  unfold u_lay at hlay
  rw [if_neg (by rw [hfin]; decide)] at hlay
  have hi' := hi
  have h6 := u_store hfc hkC hkind hlay hi (hcl.2.2.2.1 k hkN) hn hfit
  have hW := hC.2.2.2.2.1.2.2.at hlink args
  have hT' : s.fieldFound? C (T k).2.1 (T k).2.2.1 = some (cf, kf, fi, f) := by
    have := hcl.2.2.2.2.2 k hkN
    rw [this] at hi'; exact hi'
  show W p l e R s m args below meth c H locs cs sl (Q r μ1) (F0 m pc ls (x_v X v :: x_rv X x :: x_st X st))
  rw [x_rv_n X h0]
  have hci := hcl.2.1
  have fin : ∀ H' : Heap, H'[x_ad X x]? = some (cell.setSlot f.slot (x_v X v)) → H'.size = H.size → (∀ q, q ≠ x_ad X x → H'[q]? = H[q]?) → W p l e R s m args below meth c H' (locs ++ [⟨x_ad X x, f.slot⟩]) cs sl (Q r μ1) (F0 m (pc + 3) ls (x_st X st)) := by
    intro H' g1 g2 g3
    refine kk H' _ ls (x_P.put hI hP (o := x) (by omega) (by omega) ?_ g3 e1 e2 e3) (hS.put g2 g3 ⟨x, by omega, by omega, rfl⟩) hl r μ1 ho
    refine ⟨fun _ _ => ⟨(C, T, N), ?_, ?_⟩, fun z => by omega, fun z => by omega, fun z => by omega, fun z => by omega, fun z => by omega, fun z => by omega, fun z => by omega⟩
    · have hk : x_kd X x - 1 = ci := by omega
      rw [hk]; exact hcl.1
    · have hk : x_kd X x - 1 = ci := by omega
      rw [hk]
      rw [hsf] at g1
      exact t_OB.to (V := updV (fun j => x_f X μ ci x j) k (x_v X v)) ⟨_, g1, q2, q3, t_set q4 hap hkN (x_v X v)⟩ hv
  cases nest with
  | false => exact W.putK hC.1 hC.2.1 (f := f) ⟨hC.2.2.2.1, hW, ⟨_, _, _, hT'⟩, hst⟩ (by rw [q2, hcC]; exact h6) q1 q3 (by rw [hsf]; exact k2_hasslot (q4 k hkN)) rfl rfl hdg fin
  | true => exact va_WputK hC.1 hC.2.1 (f := f) hC.2.2.2.1 hW hT' hst (by rw [q2, hcC]; exact h6) q1 q3 (by rw [hsf]; exact k2_hasslot (q4 k hkN)) rfl rfl hdg fin
theorem x_f_sI {ci x k : Nat} {v : Int32} (hR : x_isR ci k = false) (j : Nat) : updV (fun j => x_f X μ ci x j) k (.int v) j = x_f X (x_sI μ x k v) ci x j := by
  unfold updV x_f x_sI
  by_cases hj : j = k
  · subst hj
    simp [hR, x_u_eq]
  · simp [hj, x_u_eq]
theorem x_f_sR {ci x k : Nat} {v : Nat} (hR : x_isR ci k = true) (j : Nat) : updV (fun j => x_f X μ ci x j) k (x_rv X v) j = x_f X (x_sR μ x k v) ci x j := by
  unfold updV x_f x_sR
  by_cases hj : j = k
  · subst hj
    simp [hR, x_u_eq]
  · simp [hj, x_u_eq]
theorem s_putI (hC : x_C X Z p R s m c cc own nL cs sl n) {ci k N idx x : Nat} {C : String} {T : u_T} {v : Int32} {nest : Bool} (hcl : x_Cls ci C T N) (hkN : k < N) (hR : x_ty ci k = .int) (hfin : (T k).2.2.2 = false)
    (hlink : x_in (x_fl nest own idx C T k)) (hdg : decode cc pc = .ok (.putfield idx, 3)) (kk : Sm X (x_PI X s) (x_A X) Q p l e R s m args below meth c nL cs sl (pc + 3) lv st (x_sI μ x k v) o) : Sm X (x_PI X s) (x_A X) Q p l e R s m args below meth c nL cs sl pc lv (vI v :: vR x :: st) μ (ck (x_kd X x = ci + 1) o) := by
  intro H locs ls hP hS hl r μ1 ho
  unfold ck at ho
  by_cases hx : x_kd X x = ci + 1
  · rw [if_pos hx] at ho
    have hR2 : x_isR ci k = false := by unfold x_isR; rw [hR]
    exact s_put0 hC (v := vI v) hcl hkN hfin hlink hx (by rw [hR]; rfl) (by rw [hR]; rfl) (fun j _ => x_f_sI hR2 j) (fun q hq => x_u_ne hq) (fun q hq => rfl) (fun q hq => rfl) hdg hP hS hl ho kk
  · rw [if_neg hx] at ho; cases ho
/-- a boolean field: 0 or 1 -/
theorem s_putZ (hC : x_C X Z p R s m c cc own nL cs sl n) {ci k N idx x : Nat} {C : String} {T : u_T} {v : Int32} {nest : Bool} (hcl : x_Cls ci C T N) (hkN : k < N) (hR : x_ty ci k = .boolean) (hfin : (T k).2.2.2 = false)
    (hlink : x_in (x_fl nest own idx C T k)) (hdg : decode cc pc = .ok (.putfield idx, 3)) (kk : Sm X (x_PI X s) (x_A X) Q p l e R s m args below meth c nL cs sl (pc + 3) lv st (x_sI μ x k v) o) : Sm X (x_PI X s) (x_A X) Q p l e R s m args below meth c nL cs sl pc lv (vI v :: vR x :: st) μ (ck (x_kd X x = ci + 1 ∧ (v = 0 ∨ v = 1)) o) := by
  intro H locs ls hP hS hl r μ1 ho
  unfold ck at ho
  by_cases hx : x_kd X x = ci + 1 ∧ (v = 0 ∨ v = 1)
  · rw [if_pos hx] at ho
    have hR2 : x_isR ci k = false := by unfold x_isR; rw [hR]
    obtain ⟨hx, hv⟩ := hx
    have hvn : narrow .boolean (.int v) = .int v ∧ fits .boolean (.int v) = true := by rcases hv with rfl | rfl <;> exact ⟨rfl, rfl⟩
    exact s_put0 hC (v := vI v) hcl hkN hfin hlink hx (by rw [hR]; exact hvn.1) (by rw [hR]; exact hvn.2) (fun j _ => x_f_sI hR2 j) (fun q hq => x_u_ne hq) (fun q hq => rfl) (fun q hq => rfl) hdg hP hS hl ho kk
  · rw [if_neg hx] at ho; cases ho
theorem s_putR (hC : x_C X Z p R s m c cc own nL cs sl n) {ci k N idx x v : Nat} {C D : String} {T : u_T} {nest : Bool} (hcl : x_Cls ci C T N) (hkN : k < N) (hR : x_ty ci k = .object D) (hfin : (T k).2.2.2 = false)
    (hlink : x_in (x_fl nest own idx C T k)) (hdg : decode cc pc = .ok (.putfield idx, 3)) (kk : Sm X (x_PI X s) (x_A X) Q p l e R s m args below meth c nL cs sl (pc + 3) lv st (x_sR μ x k v) o) : Sm X (x_PI X s) (x_A X) Q p l e R s m args below meth c nL cs sl pc lv (vR v :: vR x :: st) μ (ck (x_kd X x = ci + 1) o) := by
  intro H locs ls hP hS hl r μ1 ho
  unfold ck at ho
  by_cases hx : x_kd X x = ci + 1
  · rw [if_pos hx] at ho
    have hR2 : x_isR ci k = true := by unfold x_isR; rw [hR]
    have hvn : narrow (.object D) (x_rv X v) = x_rv X v ∧ fits (.object D) (x_rv X v) = true := by
      by_cases h0 : v = 0
      · subst h0; exact ⟨rfl, rfl⟩
      · rw [x_rv_n X h0]; exact ⟨rfl, rfl⟩
    exact s_put0 hC (v := vR v) hcl hkN hfin hlink hx (by rw [hR]; exact hvn.1) (by rw [hR]; exact hvn.2) (fun j _ => x_f_sR hR2 j) (fun q hq => rfl) (fun q hq => x_u_ne hq) (fun q hq => rfl) hdg hP hS hl ho kk
  · rw [if_neg hx] at ho; cases ho
end HEAP
end
section
/-! ===== rows over the memory: arrays, statics, switches, returns, calls ===== -/
section ARR
variable {α β : Type} {X : x_X} {Z : x_Zs} {A : Nat → Prop} {Q : α → x_M → State → Prop} {p : Program} {l : Launch} {e : Env} {R : Room} {s : State} {m : MethodId} {args : Array Value} {below : List Frame} {meth : Method} {c : Code} {cc : ByteArray} {own : String} {nL cs sl n : Nat} {pc : Nat} {lv lv' : List (Nat × x_V)} {st : List x_V} {μ : x_M} {o : Option (α × x_M)}
abbrev x_ix (i : Int32) (N : Nat) : Prop := ¬ (i < 0 ∨ N ≤ i.toNatClampNeg)
theorem x_n0 (hC : x_C X Z p R s m c cc own nL cs sl n) {a : Nat} (h : 0 < x_kd X a) : a ≠ 0 := fun z => by rw [z, hC.2.2.2.2.2.1.1] at h; omega
theorem s_iald (hC : x_C X Z p R s m c cc own nL cs sl n) {i : Int32} {a : Nat} (hdg : decode cc pc = .ok (.iaload, 1)) (kk : Sm X (x_PI X s) A Q p l e R s m args below meth c nL cs sl (pc + 1) lv (vI (μ.1 a i.toNatClampNeg) :: st) μ o) : Sm X (x_PI X s) A Q p l e R s m args below meth c nL cs sl pc lv (vI i :: vR a :: st) μ (ck ((x_kd X a = 20 ∨ x_kd X a = 40) ∧ x_ix i (x_ln X a)) o) := by
  intro H locs ls hP hS hl r μ1 ho
  unfold ck at ho
  by_cases hx : (x_kd X a = 20 ∨ x_kd X a = 40) ∧ x_ix i (x_ln X a)
  · rw [if_pos hx] at ho
    obtain ⟨hk, hi⟩ := hx
    have h0 : a ≠ 0 := x_n0 hC (by omega)
    have hlt : i.toNatClampNeg < x_ln X a := Nat.not_le.mp fun q => hi (Or.inr q)
    have h2 := kk H locs ls hP hS hl r μ1 ho
    show W p l e R s m args below meth c H locs cs sl (Q r μ1) (F0 m pc ls (.int i :: x_rv X a :: x_st X st))
    rw [x_rv_n X h0]
    rcases hk with hk | hk
    · exact W.iald (v := .int (μ.1 a i.toNatClampNeg)) hC.1 hC.2.1 ((hP a).2.1 hk) ((hC.2.2.2.2.1.1.2 0 _ rfl).1 (x_ln X a) (fun j => .int (μ.1 a j))) (fun q => by cases q) (by show ¬ (i < 0 ∨ (arrV _ _ _).slots.size ≤ _); rw [arrV_size]; exact hi) (by show (arrV _ _ _).slots[_]? = _; rw [arrV_read _ _ hlt]) rfl rfl hdg h2
    · obtain ⟨cell, h1, h2', h3, h4, h5, h6, h7⟩ := (hP a).2.2.2.2.2.1 hk
      have hin' : ¬ (i < 0 ∨ cell.slots.size ≤ i.toNatClampNeg) := by
        intro q
        rcases q with q | q
        · exact hi (Or.inl q)
        · omega
      exact W.iald (v := .int (μ.1 a i.toNatClampNeg)) hC.1 hC.2.1 h1 h2' h3 hin' (h6 _ hlt) rfl rfl hdg h2
  · rw [if_neg hx] at ho; cases ho
theorem s_bald (hC : x_C X Z p R s m c cc own nL cs sl n) {i : Int32} {a : Nat} (hdg : decode cc pc = .ok (.baload, 1)) (kk : Sm X (x_PI X s) A Q p l e R s m args below meth c nL cs sl (pc + 1) lv (vI (μ.1 a i.toNatClampNeg) :: st) μ o) : Sm X (x_PI X s) A Q p l e R s m args below meth c nL cs sl pc lv (vI i :: vR a :: st) μ (ck ((x_kd X a = 22 ∨ x_kd X a = 41) ∧ x_ix i (x_ln X a)) o) := by
  intro H locs ls hP hS hl r μ1 ho
  unfold ck at ho
  by_cases hx : (x_kd X a = 22 ∨ x_kd X a = 41) ∧ x_ix i (x_ln X a)
  · rw [if_pos hx] at ho
    obtain ⟨hk, hi⟩ := hx
    have h0 : a ≠ 0 := x_n0 hC (by omega)
    have hlt : i.toNatClampNeg < x_ln X a := Nat.not_le.mp fun q => hi (Or.inr q)
    have h2 := kk H locs ls hP hS hl r μ1 ho
    show W p l e R s m args below meth c H locs cs sl (Q r μ1) (F0 m pc ls (.int i :: x_rv X a :: x_st X st))
    rw [x_rv_n X h0]
    rcases hk with hk | hk
    · exact W.zald (v := .int (μ.1 a i.toNatClampNeg)) hC.1 hC.2.1 ((hP a).2.2.2.1 hk) ((hC.2.2.2.2.1.1.2 2 _ rfl).1 (x_ln X a) (fun j => .int (μ.1 a j))) (fun q => by cases q) (by show ¬ (i < 0 ∨ (arrV _ _ _).slots.size ≤ _); rw [arrV_size]; exact hi) (by show (arrV _ _ _).slots[_]? = _; rw [arrV_read _ _ hlt]) rfl rfl hdg h2
    · obtain ⟨cell, h1, h2', h3, h4, h5, h6, h7⟩ := (hP a).2.2.2.2.2.2.1 hk
      have hin' : ¬ (i < 0 ∨ cell.slots.size ≤ i.toNatClampNeg) := by
        intro q
        rcases q with q | q
        · exact hi (Or.inl q)
        · omega
      exact W.bald (v := .int (μ.1 a i.toNatClampNeg)) hC.1 hC.2.1 h1 h2' h3 hin' (h6 _ hlt) rfl rfl hdg h2
  · rw [if_neg hx] at ho; cases ho
theorem s_lald (hC : x_C X Z p R s m c cc own nL cs sl n) {i : Int32} {a : Nat} (hdg : decode cc pc = .ok (.laload, 1)) (kk : Sm X (x_PI X s) A Q p l e R s m args below meth c nL cs sl (pc + 1) lv (vJ (μ.2.2 a i.toNatClampNeg) :: st) μ o) : Sm X (x_PI X s) A Q p l e R s m args below meth c nL cs sl pc lv (vI i :: vR a :: st) μ (ck (x_kd X a = 21 ∧ x_ix i (x_ln X a)) o) := by
  intro H locs ls hP hS hl r μ1 ho
  unfold ck at ho
  by_cases hx : x_kd X a = 21 ∧ x_ix i (x_ln X a)
  · rw [if_pos hx] at ho
    obtain ⟨hk, hi⟩ := hx
    have h0 : a ≠ 0 := x_n0 hC (by omega)
    have hlt : i.toNatClampNeg < x_ln X a := Nat.not_le.mp fun q => hi (Or.inr q)
    have h2 := kk H locs ls hP hS hl r μ1 ho
    show W p l e R s m args below meth c H locs cs sl (Q r μ1) (F0 m pc ls (.int i :: x_rv X a :: x_st X st))
    rw [x_rv_n X h0]
    exact W.lald (v := .long (μ.2.2 a i.toNatClampNeg)) hC.1 hC.2.1 ((hP a).2.2.1 hk) ((hC.2.2.2.2.1.1.2 1 _ rfl).1 (x_ln X a) (fun j => .long (μ.2.2 a j))) (fun q => by cases q) (by show ¬ (i < 0 ∨ (arrV _ _ _).slots.size ≤ _); rw [arrV_size]; exact hi) (by show (arrV _ _ _).slots[_]? = _; rw [arrV_read _ _ hlt]) rfl rfl hdg h2
  · rw [if_neg hx] at ho; cases ho
/-- the place of an array of references among the array classes -/
def x_tk (k : Nat) : String := if k = 23 then RX0 else if k = 24 then RX4 else RX8
theorem s_aald (hC : x_C X Z p R s m c cc own nL cs sl n) {i : Int32} {a : Nat} (hdg : decode cc pc = .ok (.aaload, 1)) (kk : Sm X (x_PI X s) A Q p l e R s m args below meth c nL cs sl (pc + 1) lv (vR (μ.2.1 a i.toNatClampNeg) :: st) μ o) : Sm X (x_PI X s) A Q p l e R s m args below meth c nL cs sl pc lv (vI i :: vR a :: st) μ (ck ((x_kd X a = 23 ∨ x_kd X a = 24 ∨ x_kd X a = 25) ∧ x_ix i (x_ln X a)) o) := by
  intro H locs ls hP hS hl r μ1 ho
  unfold ck at ho
  by_cases hx : (x_kd X a = 23 ∨ x_kd X a = 24 ∨ x_kd X a = 25) ∧ x_ix i (x_ln X a)
  · rw [if_pos hx] at ho
    obtain ⟨hk, hi⟩ := hx
    have h0 : a ≠ 0 := x_n0 hC (by omega)
    have hlt : i.toNatClampNeg < x_ln X a := Nat.not_le.mp fun q => hi (Or.inr q)
    have h2 := kk H locs ls hP hS hl r μ1 ho
    have h2 : W p l e R s m args below meth c H locs cs sl (Q r μ1) (F0 m (pc + 1) ls (x_rv X (μ.2.1 a i.toNatClampNeg) :: x_st X st)) := h2
    rw [← x_rf_ro] at h2
    show W p l e R s m args below meth c H locs cs sl (Q r μ1) (F0 m pc ls (.int i :: x_rv X a :: x_st X st))
    rw [x_rv_n X h0]
    have h5 := (hP a).2.2.2.2.1 (by omega) (by omega)
    have hA : ∃ C : String, s.isArrayOf (vp_cell (x_cA X (x_kd X a)) (x_ln X a, .inr (.inr (.inr (.inr (fun i => x_ro X (μ.2.1 a i))))))) (.object C) := by
      rcases hk with hk | hk | hk <;> rw [hk]
      · exact ⟨_, (hC.2.2.2.2.1.1.2 3 _ rfl).1 (x_ln X a) (fun j => va_rf (x_ro X (μ.2.1 a j)))⟩
      · exact ⟨_, (hC.2.2.2.2.1.1.2 4 _ rfl).1 (x_ln X a) (fun j => va_rf (x_ro X (μ.2.1 a j)))⟩
      · exact ⟨_, (hC.2.2.2.2.1.1.2 5 _ rfl).1 (x_ln X a) (fun j => va_rf (x_ro X (μ.2.1 a j)))⟩
    obtain ⟨Cn, hA⟩ := hA
    exact W.aald (v := va_rf (x_ro X (μ.2.1 a i.toNatClampNeg))) (ty := .object Cn) hC.1 hC.2.1 h5 hA rfl (fun q => by cases q) (by show ¬ (i < 0 ∨ (arrV _ _ _).slots.size ≤ _); rw [arrV_size]; exact hi) (by show (arrV _ _ _).slots[_]? = _; rw [arrV_read _ _ hlt]) rfl rfl hdg h2
  · rw [if_neg hx] at ho; cases ho
theorem s_alen (hC : x_C X Z p R s m c cc own nL cs sl n) {a : Nat} (hdg : decode cc pc = .ok (.arraylength, 1)) (kk : Sm X (x_PI X s) A Q p l e R s m args below meth c nL cs sl (pc + 1) lv (vI (nI (x_ln X a)) :: st) μ o) : Sm X (x_PI X s) A Q p l e R s m args below meth c nL cs sl pc lv (vR a :: st) μ (ck (x_kd X a = 20 ∨ x_kd X a = 23 ∨ x_kd X a = 40 ∨ x_kd X a = 41) o) := by
  intro H locs ls hP hS hl r μ1 ho
  unfold ck at ho
  by_cases hx : x_kd X a = 20 ∨ x_kd X a = 23 ∨ x_kd X a = 40 ∨ x_kd X a = 41
  · rw [if_pos hx] at ho
    have h0 : a ≠ 0 := x_n0 hC (by omega)
    have h2 := kk H locs ls hP hS hl r μ1 ho
    show W p l e R s m args below meth c H locs cs sl (Q r μ1) (F0 m pc ls (x_rv X a :: x_st X st))
    rw [x_rv_n X h0]
    rcases hx with hk | hk | hk | hk
    · exact W.alen (n := Int32.ofNat (x_ln X a)) hC.1 hC.2.1 ((hP a).2.1 hk) ((hC.2.2.2.2.1.1.2 0 _ rfl).1 (x_ln X a) (fun j => .int (μ.1 a j))) (by rw [vp_cell_i, arrV_size] <;> rfl) rfl rfl hdg h2
    · have h5 := (hP a).2.2.2.2.1 (by omega) (by omega)
      rw [hk] at h5
      exact W.alen (n := Int32.ofNat (x_ln X a)) hC.1 hC.2.1 h5 ((hC.2.2.2.2.1.1.2 3 _ rfl).1 (x_ln X a) (fun j => va_rf (x_ro X (μ.2.1 a j)))) (by rw [vp_cell_q, arrV_size] <;> rfl) rfl rfl hdg h2
    · obtain ⟨cell, h1, h2', h3, h4, h5, h6, h7⟩ := (hP a).2.2.2.2.2.1 hk
      exact W.alen (n := Int32.ofNat (x_ln X a)) hC.1 hC.2.1 h1 h2' h5 rfl rfl hdg h2
    · obtain ⟨cell, h1, h2', h3, h4, h5, h6, h7⟩ := (hP a).2.2.2.2.2.2.1 hk
      exact W.alen (n := Int32.ofNat (x_ln X a)) hC.1 hC.2.1 h1 h2' h5 rfl rfl hdg h2
  · rw [if_neg hx] at ho; cases ho
theorem s_iast (hC : x_C X Z p R s m c cc own nL cs sl n) {i v : Int32} {a : Nat} (hdg : decode cc pc = .ok (.iastore, 1)) (kk : Sm X (x_PI X s) (x_A X) Q p l e R s m args below meth c nL cs sl (pc + 1) lv st (x_sI μ a i.toNatClampNeg v) o) : Sm X (x_PI X s) (x_A X) Q p l e R s m args below meth c nL cs sl pc lv (vI v :: vI i :: vR a :: st) μ (ck (x_kd X a = 20 ∧ x_ix i (x_ln X a)) o) := by
  intro H locs ls hP hS hl r μ1 ho
  unfold ck at ho
  by_cases hx : x_kd X a = 20 ∧ x_ix i (x_ln X a)
  · rw [if_pos hx] at ho
    obtain ⟨hk, hi⟩ := hx
    have h0 : a ≠ 0 := x_n0 hC (by omega)
    show W p l e R s m args below meth c H locs cs sl (Q r μ1) (F0 m pc ls (.int v :: .int i :: x_rv X a :: x_st X st))
    rw [x_rv_n X h0]
    refine W.iast hC.1 hC.2.1 ((hP a).2.1 hk) ((hC.2.2.2.2.1.1.2 0 _ rfl).1 (x_ln X a) (fun j => .int (μ.1 a j))) (fun q => by cases q) (by show ¬ (i < 0 ∨ (arrV _ _ _).slots.size ≤ _); rw [arrV_size]; exact hi) rfl rfl hdg fun H1 e1 z oq => ?_
    refine kk H1 _ ls (x_P.put hC.2.2.2.2.2.1 hP (o := a) (by omega) (by omega) ?_ oq (fun q hq => x_u_ne hq) (fun q hq => rfl) (fun q hq => rfl)) (hS.put z oq ⟨a, by omega, by omega, rfl⟩) hl r μ1 ho
    refine ⟨fun _ _ => by omega, fun _ => ?_, fun z => by omega, fun z => by omega, fun z => by omega, fun z => by omega, fun z => by omega, fun z => by omega⟩
    rw [e1, vp_cell_i, vp_cell_i, arrV_store]
    congr 2
    funext q
    show updV _ _ _ q = Value.int (x_u μ.1 a i.toNatClampNeg v a q)
    rw [x_u_eq]
    by_cases hq : q = i.toNatClampNeg
    · subst hq; simp [updV]
    · simp [updV, hq]
  · rw [if_neg hx] at ho; cases ho
theorem s_zast (hC : x_C X Z p R s m c cc own nL cs sl n) {i v : Int32} {a : Nat} (hdg : decode cc pc = .ok (.bastore, 1)) (kk : Sm X (x_PI X s) (x_A X) Q p l e R s m args below meth c nL cs sl (pc + 1) lv st (x_sI μ a i.toNatClampNeg (vp_nar .boolean v)) o) : Sm X (x_PI X s) (x_A X) Q p l e R s m args below meth c nL cs sl pc lv (vI v :: vI i :: vR a :: st) μ (ck (x_kd X a = 22 ∧ x_ix i (x_ln X a)) o) := by
  intro H locs ls hP hS hl r μ1 ho
  unfold ck at ho
  by_cases hx : x_kd X a = 22 ∧ x_ix i (x_ln X a)
  · rw [if_pos hx] at ho
    obtain ⟨hk, hi⟩ := hx
    have h0 : a ≠ 0 := x_n0 hC (by omega)
    show W p l e R s m args below meth c H locs cs sl (Q r μ1) (F0 m pc ls (.int v :: .int i :: x_rv X a :: x_st X st))
    rw [x_rv_n X h0]
    refine W.zast hC.1 hC.2.1 ((hP a).2.2.2.1 hk) ((hC.2.2.2.2.1.1.2 2 _ rfl).1 (x_ln X a) (fun j => .int (μ.1 a j))) (fun q => by cases q) (by show ¬ (i < 0 ∨ (arrV _ _ _).slots.size ≤ _); rw [arrV_size]; exact hi) rfl rfl hdg fun H1 e1 z oq => ?_
    refine kk H1 _ ls (x_P.put hC.2.2.2.2.2.1 hP (o := a) (by omega) (by omega) ?_ oq (fun q hq => x_u_ne hq) (fun q hq => rfl) (fun q hq => rfl)) (hS.put z oq ⟨a, by omega, by omega, rfl⟩) hl r μ1 ho
    refine ⟨fun _ _ => by omega, fun z => by omega, fun z => by omega, fun _ => ?_, fun z => by omega, fun z => by omega, fun z => by omega, fun z => by omega⟩
    rw [e1, vp_cell_i, vp_cell_i, arrV_store]
    congr 2
    funext q
    show updV _ _ _ q = Value.int (x_u μ.1 a i.toNatClampNeg (vp_nar .boolean v) a q)
    rw [x_u_eq]
    by_cases hq : q = i.toNatClampNeg
    · subst hq
      simp [updV, vp_nar]
      try rfl
    · simp [updV, hq]
  · rw [if_neg hx] at ho; cases ho
theorem s_last (hC : x_C X Z p R s m c cc own nL cs sl n) {i : Int32} {v : Int64} {a : Nat} (hdg : decode cc pc = .ok (.lastore, 1)) (kk : Sm X (x_PI X s) (x_A X) Q p l e R s m args below meth c nL cs sl (pc + 1) lv st (x_sJ μ a i.toNatClampNeg v) o) : Sm X (x_PI X s) (x_A X) Q p l e R s m args below meth c nL cs sl pc lv (vJ v :: vI i :: vR a :: st) μ (ck (x_kd X a = 21 ∧ x_ix i (x_ln X a)) o) := by
  intro H locs ls hP hS hl r μ1 ho
  unfold ck at ho
  by_cases hx : x_kd X a = 21 ∧ x_ix i (x_ln X a)
  · rw [if_pos hx] at ho
    obtain ⟨hk, hi⟩ := hx
    have h0 : a ≠ 0 := x_n0 hC (by omega)
    show W p l e R s m args below meth c H locs cs sl (Q r μ1) (F0 m pc ls (.long v :: .int i :: x_rv X a :: x_st X st))
    rw [x_rv_n X h0]
    refine W.last hC.1 hC.2.1 ((hP a).2.2.1 hk) ((hC.2.2.2.2.1.1.2 1 _ rfl).1 (x_ln X a) (fun j => .long (μ.2.2 a j))) (fun q => by cases q) (by show ¬ (i < 0 ∨ (arrV _ _ _).slots.size ≤ _); rw [arrV_size]; exact hi) rfl rfl hdg fun H1 e1 z oq => ?_
    refine kk H1 _ ls (x_P.put hC.2.2.2.2.2.1 hP (o := a) (by omega) (by omega) ?_ oq (fun q hq => rfl) (fun q hq => rfl) (fun q hq => x_u_ne hq)) (hS.put z oq ⟨a, by omega, by omega, rfl⟩) hl r μ1 ho
    refine ⟨fun _ _ => by omega, fun z => by omega, fun _ => ?_, fun z => by omega, fun z => by omega, fun z => by omega, fun z => by omega, fun z => by omega⟩
    rw [e1, vp_cell_l, vp_cell_l, arrV_store]
    congr 2
    funext q
    show updV _ _ _ q = Value.long (x_u μ.2.2 a i.toNatClampNeg v a q)
    rw [x_u_eq]
    by_cases hq : q = i.toNatClampNeg
    · subst hq; simp [updV]
    · simp [updV, hq]
  · rw [if_neg hx] at ho; cases ho
end ARR
end
section
/-! ===== switches, statics, constants, Math, returns, calls, a method's entry ===== -/
def x_swo {β : Type} : List Int32 → List β → β → Int32 → β
  | v :: vs, k :: ks, d, x => if x = v then k else x_swo vs ks d x
  | _, _, d, _ => d
def x_swP {β : Type} (P : Nat → β → Prop) : List (Int32 × Nat) → List β → Prop
  | [], [] => True
  | q :: r, k :: ks => P q.2 k ∧ x_swP P r ks
  | _, _ => False
def x_swt : List (Int32 × Nat) → Nat → Int32 → Nat
  | [], d, _ => d
  | q :: r, d, x => if x = q.1 then q.2 else x_swt r d x
theorem x_sw_go {β : Type} {P : Nat → β → Prop} {Kd : β} {td : Nat} {x : Int32} (hd : P td Kd) : ∀ (tags : List (Int32 × Nat)) (ks : List β), x_swP P tags ks → P (x_swt tags td x) (x_swo (tags.map (·.1)) ks Kd x)
  | [], [], _ => hd
  | q :: r, k :: ks, h => by
    show P (if x = q.1 then q.2 else x_swt r td x) (if x = q.1 then k else x_swo (r.map (·.1)) ks Kd x)
    by_cases hx : x = q.1
    · rw [if_pos hx, if_pos hx]; exact h.1
    · rw [if_neg hx, if_neg hx]; exact x_sw_go hd r ks h.2
  | [], _ :: _, h => h.elim
  | _ :: _, [], h => h.elim
def x_lkchk (pc : Nat) (dflt : Int) (ps : List (Int × Int)) (tags : List (Int32 × Nat)) (td : Nat) : Bool :=
  decide ((pc : Int) + dflt = td) && decide (ps = tags.map (fun q => (q.1.toInt, (q.2 : Int) - pc)))
theorem x_lk_ok {pc : Nat} {dflt : Int} {td : Nat} (x : Int32) (hd : (pc : Int) + dflt = td) : ∀ tags : List (Int32 × Nat), (pc : Int) + Op.lookupswitch.offset (tags.map (fun q => (q.1.toInt, (q.2 : Int) - pc))) dflt x.toInt = (x_swt tags td x : Nat)
  | [] => hd
  | q :: r => by
    show (pc : Int) + Op.lookupswitch.offset ((q.1.toInt, (q.2 : Int) - pc) :: r.map _) dflt x.toInt = ((if x = q.1 then q.2 else x_swt r td x : Nat) : Int)
    by_cases hx : x = q.1
    · rw [if_pos hx, Op.lookupswitch.offset_cons, if_pos (by rw [hx])]; omega
    · rw [if_neg hx, lv_osw hx rfl]; exact x_lk_ok x hd r
def x_tabchk (pc : Nat) (dflt lo hi : Int) (offs : Array Int) (tags : List (Int32 × Nat)) (td : Nat) : Bool :=
  decide ((pc : Int) + dflt = td) && decide (tags.length = offs.size) && decide (hi = lo + offs.size - 1) && (List.range offs.size).all (fun j => decide ((tags.map (fun q => q.1.toInt))[j]? = some (lo + j)) && decide ((tags.map (fun q => (q.2 : Int) - pc))[j]? = offs[j]?))
theorem x_swt_out {td : Nat} {x : Int32} : ∀ tags : List (Int32 × Nat), (∀ q ∈ tags, x ≠ q.1) → x_swt tags td x = td
  | [], _ => rfl
  | q :: r, h => by
    show (if x = q.1 then q.2 else x_swt r td x) = td
    rw [if_neg (h q List.mem_cons_self)]
    exact x_swt_out r (fun q hq => h q (List.mem_cons_of_mem _ hq))
theorem x_swt_in {td : Nat} {x : Int32} : ∀ (tags : List (Int32 × Nat)) (j : Nat) (q : Int32 × Nat), tags[j]? = some q → x = q.1 → (∀ i, i < j → ∀ w, tags[i]? = some w → x ≠ w.1) → x_swt tags td x = q.2
  | [], j, q, h, _, _ => by simp at h
  | w :: r, 0, q, h, hx, _ => by
    have : w = q := by simpa using h
    subst this
    exact if_pos hx
  | w :: r, j + 1, q, h, hx, hn => by
    show (if x = w.1 then w.2 else x_swt r td x) = q.2
    rw [if_neg (hn 0 (by omega) w rfl)]
    exact x_swt_in r j q (by simpa using h) hx (fun i hi u hu => hn (i + 1) (by omega) u (by simpa using hu))
section ENDS
variable {τ α β : Type} {X : x_X} {Z : x_Zs} {I : τ → Heap → Prop} {A : Nat → Prop} {Q : α → τ → State → Prop} {p : Program} {l : Launch} {e : Env} {R : Room} {s : State} {m : MethodId} {args : Array Value} {below : List Frame} {meth : Method} {c : Code} {cc : ByteArray} {own : String} {nL cs sl n : Nat} {pc : Nat} {lv lv' : List (Nat × x_V)} {st : List x_V} {μ : τ} {o : Option (α × τ)}
theorem s_lookup (hC : x_C X Z p R s m c cc own nL cs sl n) {dflt : Int} {ps : Array (Int × Int)} {len : Nat} {x : Int32} {ks : List (Option (α × τ))} {Kd : Option (α × τ)} (hdg : decode cc pc = .ok (.lookupswitch dflt ps, len)) (hp : (ps.toList.zip (ps.toList.drop 1)).all (fun (a, next) => a.1 < next.1) = true) (tags : List (Int32 × Nat)) (td : Nat) (hchk : x_lkchk pc dflt ps.toList tags td = true)
    (h : x_swP (fun t K => Sm X I A Q p l e R s m args below meth c nL cs sl t lv st μ K) tags ks) (hd : Sm X I A Q p l e R s m args below meth c nL cs sl td lv st μ Kd) : Sm X I A Q p l e R s m args below meth c nL cs sl pc lv (vI x :: st) μ (x_swo (tags.map (·.1)) ks Kd x) := by
  simp only [x_lkchk, Bool.and_eq_true, decide_eq_true_eq] at hchk
  have k := x_sw_go (x := x) hd tags ks h
  intro H locs ls hP hS hl r μ1 ho
  exact lv_lookup hC.1 hC.2.1 hdg hp rfl (by rw [hchk.2]; exact x_lk_ok x hchk.1 tags) (k H locs ls hP hS hl r μ1 ho)
theorem s_table (hC : x_C X Z p R s m c cc own nL cs sl n) {dflt lo hi : Int} {offs : Array Int} {len : Nat} {x : Int32} {ks : List (Option (α × τ))} {Kd : Option (α × τ)} (hdg : decode cc pc = .ok (.tableswitch dflt lo hi offs, len)) (tags : List (Int32 × Nat)) (td : Nat) (hchk : x_tabchk pc dflt lo hi offs tags td = true)
    (h : x_swP (fun t K => Sm X I A Q p l e R s m args below meth c nL cs sl t lv st μ K) tags ks) (hd : Sm X I A Q p l e R s m args below meth c nL cs sl td lv st μ Kd) : Sm X I A Q p l e R s m args below meth c nL cs sl pc lv (vI x :: st) μ (x_swo (tags.map (·.1)) ks Kd x) := by
  simp only [x_tabchk, Bool.and_eq_true, decide_eq_true_eq, List.all_eq_true, List.mem_range] at hchk
  obtain ⟨⟨⟨h1, h2⟩, h3⟩, h4⟩ := hchk
  have k := x_sw_go (x := x) hd tags ks h
  have tagj : ∀ (j : Nat) (w : Int32 × Nat), tags[j]? = some w → w.1.toInt = lo + j ∧ offs[j]? = some ((w.2 : Int) - pc) := by
    intro j w hw
    have hj : j < offs.size := by rw [← h2]; exact (List.getElem?_eq_some_iff.mp hw).1
    obtain ⟨a, b⟩ := h4 j hj
    rw [List.getElem?_map, hw] at a b
    exact ⟨Option.some.inj a, b.symm⟩
  intro H locs ls hP hS hl r μ1 ho
  by_cases hx : x.toInt < lo ∨ hi < x.toInt
  · have e1 : x_swt tags td x = td := by
      refine x_swt_out tags (fun q hq hxq => ?_)
      obtain ⟨j, hj⟩ := List.getElem?_of_mem hq
      have hl2 := (List.getElem?_eq_some_iff.mp hj).1
      have := (tagj j q hj).1
      rw [hxq] at hx
      omega
    rw [e1] at k
    exact lv_tableOut hC.1 hC.2.1 hdg hx h1 (k H locs ls hP hS hl r μ1 ho)
  · have hj : (x.toInt - lo).toNat < tags.length := by omega
    have hq : tags[(x.toInt - lo).toNat]? = some tags[(x.toInt - lo).toNat] := List.getElem?_eq_getElem hj
    generalize tags[(x.toInt - lo).toNat] = q at hq
    obtain ⟨a, b⟩ := tagj _ q hq
    have e1 : x_swt tags td x = q.2 := by
      refine x_swt_in tags _ q hq (Int32.toInt_inj.mp (by omega)) (fun i hi w hw hxw => ?_)
      have := (tagj i w hw).1
      rw [hxw] at hi
      omega
    rw [e1] at k
    exact lv_tableIn hC.1 hC.2.1 hdg (by omega) (by omega) b (by omega) (k H locs ls hP hS hl r μ1 ho)
theorem s_ldc (hC : x_C X Z p R s m c cc own nL cs sl n) {idx : Nat} {v : Int32} (hdg : decode cc pc = .ok (.ldc idx, 2)) (hk : x_in (.constant own idx v)) (k : Sm X I A Q p l e R s m args below meth c nL cs sl (pc + 2) lv (vI v :: st) μ o) : Sm X I A Q p l e R s m args below meth c nL cs sl pc lv st μ o :=
  fun H locs ls hP hS hl r μ1 ho => lv_ldc hC.1 hC.2.1 hC.2.2.2.1 (hC.2.2.2.2.1.2.2.at hk args) hdg (k H locs ls hP hS hl r μ1 ho)
theorem s_ldc2 (hC : x_C X Z p R s m c cc own nL cs sl n) {idx : Nat} {v : Int64} (hdg : decode cc pc = .ok (.ldc2_w idx, 3)) (hk : x_in (.constantLong own idx v)) (k : Sm X I A Q p l e R s m args below meth c nL cs sl (pc + 3) lv (vJ v :: st) μ o) : Sm X I A Q p l e R s m args below meth c nL cs sl pc lv st μ o :=
  fun H locs ls hP hS hl r μ1 ho => lv_ldc2 hC.1 hC.2.1 hC.2.2.2.1 (hC.2.2.2.2.1.2.2.at hk args) hdg (k H locs ls hP hS hl r μ1 ho)
theorem s_ldcS (hC : x_C X Z p R s m c cc own nL cs sl n) {idx id : Nat} {tx : String} (hdg : decode cc pc = .ok (.ldc idx, 2)) (hk : (own, idx, tx, id) ∈ Z.2.2) (h0 : id ≠ 0) (k : Sm X I A Q p l e R s m args below meth c nL cs sl (pc + 2) lv (vR id :: st) μ o) : Sm X I A Q p l e R s m args below meth c nL cs sl pc lv st μ o := by
  intro H locs ls hP hS hl r μ1 ho
  have h2 := k H locs ls hP hS hl r μ1 ho
  have h2 : W p l e R s m args below meth c H locs cs sl (Q r μ1) (F0 m (pc + 2) ls (x_rv X id :: x_st X st)) := h2
  rw [x_rv_n X h0] at h2
  exact va_ldcS hC.1 hC.2.1 hC.2.2.2.1 (hC.2.2.2.2.1.2.1.2 _ hk) hdg h2
theorem s_max (hC : x_C X Z p R s m c cc own nL cs sl n) {idx : Nat} {x y : Int32} (hdg : decode cc pc = .ok (.invokestatic idx, 3)) (hl1 : x_in (.methodLink own idx Lib.Math.max.name)) (hl2 : x_in (.static Lib.Math.max.name)) (hl3 : x_in (.initialized "java/lang/Math")) (hl4 : x_in (.code Lib.Math.max.name Lib.Math.max.code 2 (some .int))) (hn : 1 ≤ n) (hst : (st.map x_cat).sum ≤ 51) (k : Sm X I A Q p l e R s m args below meth c nL cs sl (pc + 3) lv (vI (if x < y then y else x) :: st) μ o) : Sm X I A Q p l e R s m args below meth c nL cs sl pc lv (vI y :: vI x :: st) μ o := by
  intro H locs ls hP hS hl r μ1 ho
  have hw := fun {w} h => hC.2.2.2.2.1.2.2.at (w := w) h args
  obtain ⟨-, -, hml, -, -, -, r1, r2, r3, r4⟩ := id hC
  exact va_mmax hC.1 hC.2.1 (hml.trans hl.1.symm) hC.2.2.2.1 (hw hl1) (hw hl2) (hw hl3) (hw hl4) (by omega) (by rw [x_st_sum]; omega) r3 r4 hdg (k H locs ls hP hS hl r μ1 ho)
theorem s_min (hC : x_C X Z p R s m c cc own nL cs sl n) {idx : Nat} {x y : Int32} (hdg : decode cc pc = .ok (.invokestatic idx, 3)) (hl1 : x_in (.methodLink own idx Lib.Math.min.name)) (hl2 : x_in (.static Lib.Math.min.name)) (hl3 : x_in (.initialized "java/lang/Math")) (hl4 : x_in (.code Lib.Math.min.name Lib.Math.min.code 2 (some .int))) (hn : 1 ≤ n) (hst : (st.map x_cat).sum ≤ 51) (k : Sm X I A Q p l e R s m args below meth c nL cs sl (pc + 3) lv (vI (if y < x then y else x) :: st) μ o) : Sm X I A Q p l e R s m args below meth c nL cs sl pc lv (vI y :: vI x :: st) μ o := by
  intro H locs ls hP hS hl r μ1 ho
  have hw := fun {w} h => hC.2.2.2.2.1.2.2.at (w := w) h args
  obtain ⟨-, -, hml, -, -, -, r1, r2, r3, r4⟩ := id hC
  exact va_mmin hC.1 hC.2.1 (hml.trans hl.1.symm) hC.2.2.2.1 (hw hl1) (hw hl2) (hw hl3) (hw hl4) (by omega) (by rw [x_st_sum]; omega) r3 r4 hdg (k H locs ls hP hS hl r μ1 ho)
end ENDS
def rkI (r : Int32) : List x_V := [vI r]
def rkJ (r : Int64) : List x_V := [vJ r]
def rkR (r : Nat) : List x_V := [vR r]
def rkV (_ : Unit) : List x_V := []
def x_Q {β : Type} (X : x_X) (rk : β → List x_V) (r : β) (μ : x_M) : Array Value → State → Outcome → State → Prop := fun _ st oc t =>
  oc = .returned (((rk r).map (x_v X)).head?) ∧ x_P X μ t t.heap ∧ va_F (x_A X) st t
/-- a method's contract: it does what o says -/
def x_Met {β : Type} (X : x_X) (Z : x_Zs) (l : Launch) (y : MethodName) (cc : ByteArray) (maxL : Nat) (ret : Option FieldType) (n : Nat) (avs : List x_V) (μ : x_M) (rk : β → List x_V) (o : Option (β × x_M)) : Prop :=
  ∀ (r : β) (μ' : x_M), o = some (r, μ') → Met l y [.code y cc maxL ret] (x_rm n) (va_Pc (avs.map (x_v X)) (x_H X Z μ)) (x_Q X rk r μ') 0 0 (x_A X)
/-- what Q is in a method -/
abbrev x_MQ {β : Type} (X : x_X) (rk : β → List x_V) (args : Array Value) (s : State) (below : List Frame) : β → x_M → State → Prop := fun r μ' => MQ below (x_Q X rk r μ') args s 0 0 (x_A X)
section CALL
variable {α β : Type} {X : x_X} {Z : x_Zs} {A : Nat → Prop} {Q : α → x_M → State → Prop} {p : Program} {l : Launch} {e : Env} {R : Room} {s : State} {m : MethodId} {args : Array Value} {below : List Frame} {meth : Method} {c : Code} {cc : ByteArray} {own : String} {nL cs sl n : Nat} {pc : Nat} {lv lv' : List (Nat × x_V)} {st : List x_V} {μ : x_M} {o : Option (α × x_M)}
theorem s_gets (hC : x_C X Z p R s m c cc own nL cs sl n) {idx id : Nat} {C nm d : String} {nest : Bool} (hdg : decode cc pc = .ok (.getstatic idx, 3)) (hz : (C, nm, d, id) ∈ Z.1) (hl : x_in (match nest with | true => Cond.fieldLinkNest own idx C nm d "LakeBooks" | false => Cond.fieldLink own idx C nm d)) (k : Sm X (x_PI X s) (x_A X) Q p l e R s m args below meth c nL cs sl (pc + 3) lv (vR id :: st) μ o) : Sm X (x_PI X s) (x_A X) Q p l e R s m args below meth c nL cs sl pc lv st μ o := by
  intro H locs ls hP hS hl' r μ1 ho
  have hw := hC.2.2.2.2.1.2.2.at hl args
  have hZ := hC.2.2.2.2.1.2.1.1.1 _ hz
  cases nest with
  | true => exact va_getsN hC.1 hC.2.1 hZ hS hC.2.2.2.1 hw (fun _ h => h) hdg (k H locs ls hP hS hl' r μ1 ho)
  | false => exact va_gets hC.1 hC.2.1 hZ hS hC.2.2.2.1 hw (fun _ h => h) hdg (k H locs ls hP hS hl' r μ1 ho)
theorem s_getsI (hC : x_C X Z p R s m c cc own nL cs sl n) {idx : Nat} {v : Int32} {C nm d : String} (hdg : decode cc pc = .ok (.getstatic idx, 3)) (hz : (C, nm, d, v) ∈ Z.2.1) (hl : x_in (.fieldLink own idx C nm d)) (k : Sm X (x_PI X s) (x_A X) Q p l e R s m args below meth c nL cs sl (pc + 3) lv (vI v :: st) μ o) : Sm X (x_PI X s) (x_A X) Q p l e R s m args below meth c nL cs sl pc lv st μ o := by
  intro H locs ls hP hS hl' r μ1 ho
  exact va_gets hC.1 hC.2.1 (hC.2.2.2.2.1.2.1.1.2 _ hz) hS hC.2.2.2.1 (hC.2.2.2.2.1.2.2.at hl args) (fun _ h => h) hdg (k H locs ls hP hS hl' r μ1 ho)
/-- behind a call -/
theorem x_back {β : Type} {rk : β → List x_V} {r : β} {μ2 : x_M} {a : Array Value} {H : Heap} {locs : List Loc} {ls : Array Slot} {st0 : List Value} {Q2 : State → Prop} (hr : va_Run p l e R s m args below meth c H locs cs sl 0 0 (F0 m pc ls st0) (x_st X st) (x_Q X rk r μ2 a) (x_A X)) (hlen : (rk r).length ≤ 1) (hS : va_S (x_A X) s.heap H locs)
    (kk : ∀ (H1 : Heap) (locs1 : List Loc), x_P X μ2 s H1 → va_S (x_A X) s.heap H1 locs1 → W p l e R s m args below meth c H1 locs1 cs sl Q2 (F0 m (pc + 3) ls (x_st X (rk r ++ st)))) : W p l e R s m args below meth c H locs cs sl Q2 (F0 m pc ls st0) := by
  intro T hT X'
  obtain ⟨v, st₀, t, T', L, h0, X2, hL, e1, e2, ⟨hv, hp, hz, hk⟩, stp⟩ := hr T hT X'
  rw [h0] at hz hk
  have hv' : v = ((rk r).map (x_v X)).head? := Outcome.returned.inj hv
  have al : s.vm.Alike t.vm := by rw [← e2]; exact X2.warmed.alike
  have k2 := kk T'.heap (locs ++ L) (by rw [e1]; exact hp.moved al.symm) ⟨Nat.le_trans hS.1 (by rw [e1]; exact hz), fun q h1 h2 => by rw [e1, hk q (Nat.lt_of_lt_of_le h1 hS.1) h2]; exact hS.2.1 q h1 h2, fun q hq => by
    rcases List.mem_append.mp hq with h | h
    · exact hS.2.2 q h
    · exact hL q h⟩ T' rfl X2
  obtain ⟨t2, a1, b1⟩ := k2
  refine ⟨t2, stp t2 ?_, b1⟩
  have hst : v.toList ++ x_st X st = x_st X (rk r ++ st) := by
    subst hv'
    match h : rk r, hlen with
    | [], _ => simp
    | [q], _ => simp
  rw [hst]
  exact a1
theorem x_pre {H : Heap} {locs : List Loc} {avs : List x_V} (hE : x_E X Z s s.heap) (hP : x_P X μ s H) (hS : va_S (x_A X) s.heap H locs) : ∀ U : State, U.heap = H → s.WarmedH U.vm → va_Pc (avs.map (x_v X)) (x_H X Z μ) (avs.map (x_v X)).toArray U :=
  fun U hU hW => ⟨rfl, by rw [hU]; exact hE.go hW (fun a h1 h2 => hS.2.1 a h1 h2), by rw [hU]; exact hP.moved hW.alike⟩
theorem x_word {y : MethodName} {cz : ByteArray} {mz : Nat} {retz : Option FieldType} (hE : x_E X Z s s.heap) (hcd : x_in (.code y cz mz retz)) : ∀ w ∈ [Cond.code y cz mz retz], ∀ (a' : Array Value) (U : State), s.WarmedH U.vm → w.before a' U = true := by
  intro w hw a' U hW
  rw [List.mem_singleton.mp hw]
  exact (hE.2.2.warm hW).at hcd a'
/-- a static method, of any class; nest: a private one of a nest mate -/
theorem s_callS {rk : β → List x_V} {K : β → x_M → Option (α × x_M)} (hC : x_C X Z p R s m c cc own nL cs sl n) {idx k mz : Nat} {y : MethodName} {cz : ByteArray} {retz : Option FieldType} {avs : List x_V} {oz : Option (β × x_M)} {nest : Bool} (hM : x_Met X Z l y cz mz retz k avs μ rk oz) (hdg : decode cc pc = .ok (.invokestatic idx, 3))
    (hl1 : x_in (match nest with | true => Cond.methodLinkNest own idx y "LakeBooks" | false => Cond.methodLink own idx y)) (hl2 : x_in (.static y)) (hl3 : x_in (.initialized y.cls)) (hl4 : x_in (.code y cz mz retz)) (hd : y.cls ≠ "java/lang/invoke/MethodHandle" ∧ y.cls ≠ "java/lang/invoke/VarHandle" ∧ (parseMethodDescriptor y.desc).map (fun d => d.parameters.length) = some avs.length) (hk : k + 1 ≤ n ∧ mz ≤ 45) (hrk : ∀ r : β, (rk r).length ≤ 1) (hst : (st.map x_cat).sum ≤ 8)
    (kk : ∀ (r : β) (μ1 : x_M), Sm X (x_PI X s) (x_A X) Q p l e R s m args below meth c nL cs sl (pc + 3) lv (rk r ++ st) μ1 (K r μ1)) : Sm X (x_PI X s) (x_A X) Q p l e R s m args below meth c nL cs sl pc lv (avs.reverse ++ st) μ (bd oz K) := by
  intro H locs ls hP hS hl r μ1 ho
  cases hoz : oz with
  | none => rw [hoz] at ho; cases ho
  | some q =>
    obtain ⟨rz, μz⟩ := q
    rw [hoz] at ho
    obtain ⟨hx, hb, hml, hown, hE, hI, r1, r2, r3, r4⟩ := id hC
    have hw := fun {w} h => hE.2.2.at (w := w) h args
    have hrun : va_Run p l e R s m args below meth c H locs cs sl 0 0 (F0 m pc ls (x_st X (avs.reverse ++ st))) (x_st X st) (x_Q X rk rz μz (avs.map (x_v X)).toArray) (x_A X) := by
      have hlen : ∀ sig, parseMethodDescriptor y.desc = some sig → avs.length = sig.parameters.length := by
        intro sig h
        have h2 := hd.2.2
        rw [h] at h2
        exact (Option.some.inj h2).symm
      cases nest with
      | true => exact va_runSN (Ts := []) (n := avs.length) ⟨hx, hb, hml, hown, fun w h => by cases h⟩ (hM rz μz hoz) ⟨⟨⟨rfl, rfl, by show k + 1 ≤ R.frames; omega, by show 8 + (mz + 11) + 64 * k ≤ R.locals; omega, x_word hE hl4, List.mem_cons_self⟩, hw hl4, hw hl3, ⟨hd.1, hd.2.1⟩, hlen, hw hl1⟩, hw hl2, trivial⟩ ⟨x_H.blind, x_pre hE hP hS⟩ rfl (by simp) hl.1 (by simp [x_st]) (by rw [show 2 * (F0 m pc ls (x_st X (avs.reverse ++ st))).monitorRoom = 0 from rfl, x_st_sum]; omega) hdg ⟨r3, r4⟩
      | false => exact va_runS (Ts := []) (n := avs.length) ⟨hx, hb, hml, hown, fun w h => by cases h⟩ (hM rz μz hoz) ⟨⟨rfl, rfl, by show k + 1 ≤ R.frames; omega, by show 8 + (mz + 11) + 64 * k ≤ R.locals; omega, x_word hE hl4, List.mem_cons_self, hw hl4, hw hl3, ⟨hd.1, hd.2.1⟩, hlen, hw hl1⟩, hw hl2⟩ ⟨x_H.blind, x_pre hE hP hS⟩ rfl (by simp) hl.1 (by simp [x_st]) (by rw [show 2 * (F0 m pc ls (x_st X (avs.reverse ++ st))).monitorRoom = 0 from rfl, x_st_sum]; omega) hdg ⟨r3, r4⟩
    exact x_back hrun (hrk rz) hS (fun H1 locs1 hP1 hS1 => kk rz μz H1 locs1 ls hP1 hS1 hl r μ1 ho)
/-- an instance method of a class of ours -/
theorem s_callV {rk : β → List x_V} {K : β → x_M → Option (α × x_M)} (hC : x_C X Z p R s m c cc own nL cs sl n) {idx k mz ci N x : Nat} {C : String} {T : u_T} {y : MethodName} {cz : ByteArray} {retz : Option FieldType} {avs : List x_V} {oz : Option (β × x_M)} {nest : Bool} (hcl : x_Cls ci C T N) (hM : x_Met X Z l y cz mz retz k (vR x :: avs) μ rk oz) (hdg : decode cc pc = .ok (.invokevirtual idx, 3))
    (hl1 : x_in (match nest with | true => Cond.methodLinkNest own idx y "LakeBooks" | false => Cond.methodLink own idx y)) (hl2 : x_in (.instanceMethod y)) (hl5 : x_in (.selects C y y)) (hl3 : x_in (.initialized y.cls)) (hl4 : x_in (.code y cz mz retz)) (hd : y.cls ≠ "java/lang/invoke/MethodHandle" ∧ y.cls ≠ "java/lang/invoke/VarHandle" ∧ (parseMethodDescriptor y.desc).map (fun d => d.parameters.length) = some avs.length) (hk : k + 1 ≤ n ∧ mz ≤ 45) (hrk : ∀ r : β, (rk r).length ≤ 1) (hst : (st.map x_cat).sum ≤ 8)
    (kk : ∀ (r : β) (μ1 : x_M), Sm X (x_PI X s) (x_A X) Q p l e R s m args below meth c nL cs sl (pc + 3) lv (rk r ++ st) μ1 (K r μ1)) : Sm X (x_PI X s) (x_A X) Q p l e R s m args below meth c nL cs sl pc lv (avs.reverse ++ vR x :: st) μ (ck (x_kd X x = ci + 1) (bd oz K)) := by
  intro H locs ls hP hS hl r μ1 ho
  unfold ck at ho
  by_cases hx0 : x_kd X x = ci + 1
  · rw [if_pos hx0] at ho
    cases hoz : oz with
    | none => rw [hoz] at ho; cases ho
    | some q =>
      obtain ⟨rz, μz⟩ := q
      rw [hoz] at ho
      obtain ⟨hx, hb, hml, hown, hE, hI, r1, r2, r3, r4⟩ := id hC
      have hw := fun {w} h => hE.2.2.at (w := w) h args
      have h0 : x ≠ 0 := fun z => by rw [z, hI.1] at hx0; omega
      obtain ⟨cell, cC, kC, q1, q2, q3, q4, q5, hfc, -⟩ := x_obj (args := args) hE hP hcl hx0
      have hM' : Met l y [.code y cz mz retz] (x_rm k) (va_Pc (((vR x :: avs).map (x_v X))) (x_H X Z μ)) (x_Q X rk rz μz) 0 0 (x_A X) := hM rz μz hoz
      have eA : (vR x :: avs).map (x_v X) = Value.ref (x_ad X x) :: avs.map (x_v X) := by
        show x_rv X x :: avs.map (x_v X) = _
        rw [x_rv_n X h0]
      have hpre : ∀ U : State, U.heap = H → s.WarmedH U.vm → va_Pc ((vR x :: avs).map (x_v X)) (x_H X Z μ) (Value.ref (x_ad X x) :: avs.map (x_v X)).toArray U := by
        rw [← eA]; exact x_pre hE hP hS
      have est : x_st X (avs.reverse ++ vR x :: st) = (avs.map (x_v X)).reverse ++ .ref (x_ad X x) :: x_st X st := by
        have : x_v X (vR x) = .ref (x_ad X x) := x_rv_n X h0
        simp [x_st, this]
      have hlen : ∀ sig, parseMethodDescriptor y.desc = some sig → avs.length = sig.parameters.length := by
        intro sig h
        have h2 := hd.2.2
        rw [h] at h2
        exact (Option.some.inj h2).symm
      have hrun : va_Run p l e R s m args below meth c H locs cs sl 0 0 (F0 m pc ls (x_st X (avs.reverse ++ vR x :: st))) (x_st X st) (x_Q X rk rz μz (Value.ref (x_ad X x) :: avs.map (x_v X)).toArray) (x_A X) := by
        cases nest with
        | true => exact va_runVN (C := C) (Ts := []) (n := avs.length) ⟨hx, hb, hml, hown, fun w h => by cases h⟩ hM' ⟨⟨⟨rfl, rfl, by show k + 1 ≤ R.frames; omega, by show 8 + (mz + 11) + 64 * k ≤ R.locals; omega, x_word hE hl4, List.mem_cons_self⟩, hw hl4, hw hl3, ⟨hd.1, hd.2.1⟩, hlen, hw hl1⟩, hw hl2, hw hl5⟩ ⟨x_H.blind, ⟨cell, q1, by rw [q3]; rfl, by rw [q2, q5]; exact hfc⟩, hpre⟩ rfl (by simp) hl.1 est (by rw [show 2 * (F0 m pc ls (x_st X (avs.reverse ++ vR x :: st))).monitorRoom = 0 from rfl, x_st_sum]; omega) hdg ⟨r3, r4⟩
        | false => exact va_runV (C := C) (Ts := []) (n := avs.length) ⟨hx, hb, hml, hown, fun w h => by cases h⟩ hM' ⟨⟨rfl, rfl, by show k + 1 ≤ R.frames; omega, by show 8 + (mz + 11) + 64 * k ≤ R.locals; omega, x_word hE hl4, List.mem_cons_self, hw hl4, hw hl3, ⟨hd.1, hd.2.1⟩, hlen, hw hl1⟩, hw hl2, hw hl5⟩ ⟨x_H.blind, ⟨cell, q1, by rw [q3]; rfl, by rw [q2, q5]; exact hfc⟩, hpre⟩ rfl (by simp) hl.1 est (by rw [show 2 * (F0 m pc ls (x_st X (avs.reverse ++ vR x :: st))).monitorRoom = 0 from rfl, x_st_sum]; omega) hdg ⟨r3, r4⟩
      exact x_back hrun (hrk rz) hS (fun H1 locs1 hP1 hS1 => kk rz μz H1 locs1 ls hP1 hS1 hl r μ1 ho)
  · rw [if_neg hx0] at ho; cases ho
end CALL
end
section
/-! ===== a method's entry and its returns ===== -/
def x_ar : Nat → List x_V → List (Nat × x_V)
  | _, [] => []
  | k, v :: vs => (k, v) :: x_ar (if x_cat v = 2 then k + 2 else k + 1) vs
theorem x_ar_lv (X : x_X) : ∀ (avs : List x_V) (k : Nat), lv_args k (avs.map (x_v X)) = x_lv X (x_ar k avs)
  | [], _ => rfl
  | v :: vs, k => by
    show (k, x_v X v) :: lv_args (if (x_v X v).category = 2 then k + 2 else k + 1) (vs.map (x_v X)) = (k, x_v X v) :: x_lv X (x_ar (if x_cat v = 2 then k + 2 else k + 1) vs)
    rw [x_v_cat, x_ar_lv X vs]
theorem x_sl_len (X : x_X) : ∀ avs : List x_V, (lg_sl (avs.map (x_v X))).length = (avs.map x_cat).sum
  | [] => rfl
  | v :: vs => by
    have ih := x_sl_len X vs
    unfold lg_sl at ih ⊢
    rw [List.map_cons, List.flatMap_cons, List.length_append, ih, List.map_cons, List.sum_cons]
    congr 1
    rw [x_v_cat]
    rcases v with x | n | z <;> rfl
theorem x_enter {β : Type} {X : x_X} {Z : x_Zs} {l : Launch} {y : MethodName} {cc : ByteArray} {maxL n : Nat} {ret : Option FieldType} {avs : List x_V} {μ : x_M} {rk : β → List x_V} {o : Option (β × x_M)} (hI : x_I X) (hy : plainName y.cls = true) (hlen : (avs.map x_cat).sum ≤ maxL)
    (h : ∀ (p : Program) (e : Env) (s : State) (m : MethodId) (args : Array Value) (below : List Frame) (meth : Method) (c : Code), x_C X Z p (x_rm n) s m c cc y.cls maxL 0 0 n → meth.sig.returnType = ret → meth.locks = false → Sm X (x_PI X s) (x_A X) (x_MQ X rk args s below) p l e (x_rm n) s m args below meth c maxL 0 0 0 (x_ar 0 avs) [] μ o) : x_Met X Z l y cc maxL ret n avs μ rk o := by
  intro r μ' ho
  refine Met.ofW (cc := cc) (maxL := maxL) (ret := ret) hy rfl ?_
  intro p e s m args below meth c s₁ B hml hv
  obtain ⟨rfl, hE, hP⟩ := hv
  have k := h p e s m (avs.map (x_v X)).toArray below meth c ⟨B.exec, B.bytes, hml, findClass_of_methodNamed B.named, hE, hI, Nat.le_refl _, Nat.le_refl _, Nat.le_refl _, Nat.le_refl _⟩ B.returns B.notSynchronized s.heap [] _ hP va_S.rf (by rw [← x_ar_lv]; exact lv_entry (avs.map (x_v X)) (by rw [x_sl_len]; exact hlen)) r μ' ho
  rw [lg_entry_eq]
  exact k
section RET
variable {X : x_X} {Z : x_Zs} {p : Program} {l : Launch} {e : Env} {R : Room} {s : State} {m : MethodId} {args : Array Value} {below : List Frame} {meth : Method} {c : Code} {cc : ByteArray} {own : String} {nL n : Nat} {pc : Nat} {lv lv' : List (Nat × x_V)} {st : List x_V} {μ : x_M}
theorem s_iret (hC : x_C X Z p R s m c cc own nL 0 0 n) (hr : meth.sig.returnType = some .int) (hlk : meth.locks = false) {v : Int32} (hdg : decode cc pc = .ok (.ireturn, 1)) : Sm X (x_PI X s) (x_A X) (x_MQ X rkI args s below) p l e R s m args below meth c nL 0 0 pc lv [vI v] μ (some (v, μ)) := by
  intro H locs ls hP hS hl r μ1 ho
  cases ho
  exact W.iret (v := v) hC.1 hC.2.1 hr (fun t ht hW => ⟨rfl, by rw [ht]; exact hP.moved hW.alike, hS.F ht⟩) hS.2.2 hdg hlk
theorem s_zret (hC : x_C X Z p R s m c cc own nL 0 0 n) (hr : meth.sig.returnType = some .boolean) (hlk : meth.locks = false) {v : Int32} (hdg : decode cc pc = .ok (.ireturn, 1)) : Sm X (x_PI X s) (x_A X) (x_MQ X rkI args s below) p l e R s m args below meth c nL 0 0 pc lv [vI v] μ (ck (v = 0 ∨ v = 1) (some (v, μ))) := by
  intro H locs ls hP hS hl r μ1 ho
  unfold ck at ho
  by_cases hv : v = 0 ∨ v = 1
  · rw [if_pos hv] at ho
    cases ho
    exact W.zret (v := v) hC.1 hC.2.1 hr (by rcases hv with rfl | rfl <;> rfl) (fun t ht hW => ⟨rfl, by rw [ht]; exact hP.moved hW.alike, hS.F ht⟩) hS.2.2 hdg hlk
  · rw [if_neg hv] at ho; cases ho
theorem s_bret (hC : x_C X Z p R s m c cc own nL 0 0 n) (hr : meth.sig.returnType = some .byte) (hlk : meth.locks = false) {v : Int32} (hdg : decode cc pc = .ok (.ireturn, 1)) : Sm X (x_PI X s) (x_A X) (x_MQ X rkI args s below) p l e R s m args below meth c nL 0 0 pc lv [vI v] μ (ck (v.toInt8.toInt32 = v) (some (v, μ))) := by
  intro H locs ls hP hS hl r μ1 ho
  unfold ck at ho
  by_cases hv : v.toInt8.toInt32 = v
  · rw [if_pos hv] at ho
    cases ho
    exact W.zret (v := v) hC.1 hC.2.1 hr (by rw [← hv]; exact pk_nb _) (fun t ht hW => ⟨rfl, by rw [ht]; exact hP.moved hW.alike, hS.F ht⟩) hS.2.2 hdg hlk
  · rw [if_neg hv] at ho; cases ho
theorem s_cret (hC : x_C X Z p R s m c cc own nL 0 0 n) (hr : meth.sig.returnType = some .char) (hlk : meth.locks = false) {v : Int32} (hdg : decode cc pc = .ok (.ireturn, 1)) : Sm X (x_PI X s) (x_A X) (x_MQ X rkI args s below) p l e R s m args below meth c nL 0 0 pc lv [vI v] μ (ck ((v.toUInt32 % 65536).toInt32 = v) (some (v, μ))) := by
  intro H locs ls hP hS hl r μ1 ho
  unfold ck at ho
  by_cases hv : (v.toUInt32 % 65536).toInt32 = v
  · rw [if_pos hv] at ho
    cases ho
    exact W.zret (v := v) hC.1 hC.2.1 hr (by rw [← hv]; exact pk_nc _) (fun t ht hW => ⟨rfl, by rw [ht]; exact hP.moved hW.alike, hS.F ht⟩) hS.2.2 hdg hlk
  · rw [if_neg hv] at ho; cases ho
theorem s_lret (hC : x_C X Z p R s m c cc own nL 0 0 n) (hr : meth.sig.returnType = some .long) (hlk : meth.locks = false) {v : Int64} (hdg : decode cc pc = .ok (.lreturn, 1)) : Sm X (x_PI X s) (x_A X) (x_MQ X rkJ args s below) p l e R s m args below meth c nL 0 0 pc lv [vJ v] μ (some (v, μ)) := by
  intro H locs ls hP hS hl r μ1 ho
  cases ho
  exact W.lret (v := v) hC.1 hC.2.1 hr (fun t ht hW => ⟨rfl, by rw [ht]; exact hP.moved hW.alike, hS.F ht⟩) hS.2.2 hdg hlk
theorem s_vret (hC : x_C X Z p R s m c cc own nL 0 0 n) (hr : meth.sig.returnType = none) (hlk : meth.locks = false) (hdg : decode cc pc = .ok (.return_, 1)) : Sm X (x_PI X s) (x_A X) (x_MQ X rkV args s below) p l e R s m args below meth c nL 0 0 pc lv [] μ (some ((), μ)) := by
  intro H locs ls hP hS hl r μ1 ho
  cases ho
  exact W.vret hC.1 hC.2.1 hr (fun t ht hW => ⟨rfl, by rw [ht]; exact hP.moved hW.alike, hS.F ht⟩) hS.2.2 hdg hlk
theorem s_aret (hC : x_C X Z p R s m c cc own nL 0 0 n) {rt : FieldType} (hr : meth.sig.returnType = some rt) (hrt : (∃ k, rt = .object k) ∨ ∃ t, rt = .array t) (hlk : meth.locks = false) {v : Nat} (hdg : decode cc pc = .ok (.areturn, 1)) : Sm X (x_PI X s) (x_A X) (x_MQ X rkR args s below) p l e R s m args below meth c nL 0 0 pc lv [vR v] μ (some (v, μ)) := by
  intro H locs ls hP hS hl r μ1 ho
  cases ho
  have hv : x_rv X v = .null ∨ ∃ a, x_rv X v = .ref a := by
    by_cases h0 : v = 0
    · exact Or.inl (by rw [h0]; rfl)
    · exact Or.inr ⟨_, x_rv_n X h0⟩
  exact W.aret (v := x_rv X v) hC.1 hC.2.1 hr hrt hv (fun t ht hW => ⟨rfl, by rw [ht]; exact hP.moved hW.alike, hS.F ht⟩) hS.2.2 hdg hlk
end RET
end
section
/-! ===== further rows; the classes ===== -/
def x_Z0 : x_Zs := ([("LakeBooks", "ABOVE", "[I", 801), ("LakeBooks$Acts", "BODIES", "[I", 802), ("jdk/internal/util/Preconditions", "SIOOBE_FORMATTER", "Ljava/util/function/BiFunction;", 803)], [("java/lang/String", "COMPACT_STRINGS", "Z", 1)], [(RX5, 53, "spring", 811), (RX5, 55, "sun", 812), (RX5, 57, "mark", 813), (RX5, 59, "floor", 814), (RX5, 61, "rate", 815), (RX5, 103, "dmlakb", 816), (RX5, 108, "<=>", 817)])
abbrev SM {α : Type} (X : x_X) (nL lev : Nat) (rk : α → List x_V) (p : Program) (l : Launch) (e : Env) (s : State) (m : MethodId) (args : Array Value) (below : List Frame) (meth : Method) (c : Code) (pc : Nat) (lv : List (Nat × x_V)) (st : List x_V) (μ : x_M) (o : Option (α × x_M)) : Prop := Sm X (x_PI X s) (x_A X) (x_MQ X rk args s below) p l e (x_rm lev) s m args below meth c nL 0 0 pc lv st μ o
section MORE
variable {τ α β : Type} {X : x_X} {Z : x_Zs} {I : τ → Heap → Prop} {A : Nat → Prop} {Q : α → τ → State → Prop} {p : Program} {l : Launch} {e : Env} {R : Room} {s : State} {m : MethodId} {args : Array Value} {below : List Frame} {meth : Method} {c : Code} {cc : ByteArray} {own : String} {nL cs sl n : Nat} {pc : Nat} {lv lv' : List (Nat × x_V)} {st : List x_V} {μ : τ} {o : Option (α × τ)}
theorem s_none : Sm X I A Q p l e R s m args below meth c nL cs sl pc lv st μ none := fun H locs ls hP hS hl r μ1 ho => by cases ho
theorem s_ltI2 {q : x_V} {v : Int32} {K : Int32 → Option (α × τ)} (kk : ∀ x : Int32, Sm X I A Q p l e R s m args below meth c nL cs sl pc lv (q :: vI x :: st) μ (K x)) : Sm X I A Q p l e R s m args below meth c nL cs sl pc lv (q :: vI v :: st) μ (lt v K) := kk v
theorem s_ldc_w (hC : x_C X Z p R s m c cc own nL cs sl n) {idx : Nat} {v : Int32} (hdg : decode cc pc = .ok (.ldc_w idx, 3)) (hk : x_in (.constant own idx v)) (k : Sm X I A Q p l e R s m args below meth c nL cs sl (pc + 3) lv (vI v :: st) μ o) : Sm X I A Q p l e R s m args below meth c nL cs sl pc lv st μ o :=
  fun H locs ls hP hS hl r μ1 ho => lv_ldcw hC.1 hC.2.1 hC.2.2.2.1 (hC.2.2.2.2.1.2.2.at hk args) hdg (k H locs ls hP hS hl r μ1 ho)
theorem s_ishr (hC : x_C X Z p R s m c cc own nL cs sl n) {x y : Int32} (hdg : decode cc pc = .ok (.ishr, 1)) (k : Sm X I A Q p l e R s m args below meth c nL cs sl (pc + 1) lv (vI (x >>> (y &&& 31)) :: st) μ o) : Sm X I A Q p l e R s m args below meth c nL cs sl pc lv (vI y :: vI x :: st) μ o :=
  fun H locs ls hP hS hl r μ1 ho => lv_ishr hC.1 hC.2.1 hdg (k H locs ls hP hS hl r μ1 ho)
theorem s_iushr (hC : x_C X Z p R s m c cc own nL cs sl n) {x y : Int32} (hdg : decode cc pc = .ok (.iushr, 1)) (k : Sm X I A Q p l e R s m args below meth c nL cs sl (pc + 1) lv (vI (x.toUInt32 >>> (y.toUInt32 &&& Int32.toUInt32 31)).toInt32 :: st) μ o) : Sm X I A Q p l e R s m args below meth c nL cs sl pc lv (vI y :: vI x :: st) μ o :=
  fun H locs ls hP hS hl r μ1 ho => lv_iushr hC.1 hC.2.1 hdg rfl (k H locs ls hP hS hl r μ1 ho)
end MORE
section STR
variable {α β : Type} {X : x_X} {Z : x_Zs} {A : Nat → Prop} {Q : α → x_M → State → Prop} {p : Program} {l : Launch} {e : Env} {R : Room} {s : State} {m : MethodId} {args : Array Value} {below : List Frame} {meth : Method} {c : Code} {cc : ByteArray} {own : String} {nL cs sl n : Nat} {pc : Nat} {lv lv' : List (Nat × x_V)} {st : List x_V} {μ : x_M} {o : Option (α × x_M)}
theorem s_gval (hC : x_C X Z p R s m c cc own nL cs sl n) {x idx : Nat} (hl1 : x_in (.fieldLink own idx "java/lang/String" "value" "[B")) (hdg : decode cc pc = .ok (.getfield idx, 3)) (kk : Sm X (x_PI X s) A Q p l e R s m args below meth c nL cs sl (pc + 3) lv (vR (μ.2.1 x 1) :: st) μ o) : Sm X (x_PI X s) A Q p l e R s m args below meth c nL cs sl pc lv (vR x :: st) μ (ck (x_kd X x = 50) o) := by
  intro H locs ls hP hS hl r μ1 ho
  unfold ck at ho
  by_cases hx : x_kd X x = 50
  · rw [if_pos hx] at ho
    have h0 : x ≠ 0 := x_n0 hC (by omega)
    have h2 := kk H locs ls hP hS hl r μ1 ho
    obtain ⟨cf, k, i, f, cell, hi, hst, hcell, hkn, hsl, -⟩ := ((hP x).2.2.2.2.2.2.2 hx).2.2
    show W p l e R s m args below meth c H locs cs sl (Q r μ1) (F0 m pc ls (x_rv X x :: x_st X st))
    rw [x_rv_n X h0]
    exact W.getf hC.1 hC.2.1 hC.2.2.2.1 (hC.2.2.2.2.1.2.2.at hl1 args) hi hst hcell hkn hsl rfl rfl hdg h2
  · rw [if_neg hx] at ho; cases ho
theorem s_gcod (hC : x_C X Z p R s m c cc own nL cs sl n) {x idx : Nat} (hl1 : x_in (.fieldLink own idx "java/lang/String" "coder" "B")) (hdg : decode cc pc = .ok (.getfield idx, 3)) (kk : Sm X (x_PI X s) A Q p l e R s m args below meth c nL cs sl (pc + 3) lv (vI (μ.1 x 0) :: st) μ o) : Sm X (x_PI X s) A Q p l e R s m args below meth c nL cs sl pc lv (vR x :: st) μ (ck (x_kd X x = 50) o) := by
  intro H locs ls hP hS hl r μ1 ho
  unfold ck at ho
  by_cases hx : x_kd X x = 50
  · rw [if_pos hx] at ho
    have h0 : x ≠ 0 := x_n0 hC (by omega)
    have h2 := kk H locs ls hP hS hl r μ1 ho
    obtain ⟨cf, k, i, f, cell, hi, hst, hcell, hkn, hsl, -⟩ := ((hP x).2.2.2.2.2.2.2 hx).2.1
    show W p l e R s m args below meth c H locs cs sl (Q r μ1) (F0 m pc ls (x_rv X x :: x_st X st))
    rw [x_rv_n X h0]
    exact W.getf hC.1 hC.2.1 hC.2.2.2.1 (hC.2.2.2.2.1.2.2.at hl1 args) hi hst hcell hkn hsl rfl rfl hdg h2
  · rw [if_neg hx] at ho; cases ho
/-- a method of String -/
theorem s_callStr {rk : β → List x_V} {K : β → x_M → Option (α × x_M)} (hC : x_C X Z p R s m c cc own nL cs sl n) {idx k mz x : Nat} {y : MethodName} {cz : ByteArray} {retz : Option FieldType} {avs : List x_V} {oz : Option (β × x_M)} {nest : Bool} (hM : x_Met X Z l y cz mz retz k (vR x :: avs) μ rk oz) (hdg : decode cc pc = .ok (.invokevirtual idx, 3))
    (hl1 : x_in (match nest with | true => Cond.methodLinkNest own idx y "LakeBooks" | false => Cond.methodLink own idx y)) (hl2 : x_in (.instanceMethod y)) (hl5 : x_in (.selects "java/lang/String" y y)) (hl3 : x_in (.initialized y.cls)) (hl4 : x_in (.code y cz mz retz)) (hd : y.cls ≠ "java/lang/invoke/MethodHandle" ∧ y.cls ≠ "java/lang/invoke/VarHandle" ∧ (parseMethodDescriptor y.desc).map (fun d => d.parameters.length) = some avs.length) (hk : k + 1 ≤ n ∧ mz ≤ 45) (hrk : ∀ r : β, (rk r).length ≤ 1) (hst : (st.map x_cat).sum ≤ 8)
    (kk : ∀ (r : β) (μ1 : x_M), Sm X (x_PI X s) (x_A X) Q p l e R s m args below meth c nL cs sl (pc + 3) lv (rk r ++ st) μ1 (K r μ1)) : Sm X (x_PI X s) (x_A X) Q p l e R s m args below meth c nL cs sl pc lv (avs.reverse ++ vR x :: st) μ (ck (x_kd X x = 50) (bd oz K)) := by
  intro H locs ls hP hS hl r μ1 ho
  unfold ck at ho
  by_cases hx0 : x_kd X x = 50
  · rw [if_pos hx0] at ho
    cases hoz : oz with
    | none => rw [hoz] at ho; cases ho
    | some q =>
      obtain ⟨rz, μz⟩ := q
      rw [hoz] at ho
      obtain ⟨hx, hb, hml, hown, hE, hI, r1, r2, r3, r4⟩ := id hC
      have hw := fun {w} h => hE.2.2.at (w := w) h args
      have h0 : x ≠ 0 := fun z => by rw [z, hI.1] at hx0; omega
      obtain ⟨cell, q1, q2, q3, -⟩ := ((hP x).2.2.2.2.2.2.2 hx0).1
      have hM' : Met l y [.code y cz mz retz] (x_rm k) (va_Pc (((vR x :: avs).map (x_v X))) (x_H X Z μ)) (x_Q X rk rz μz) 0 0 (x_A X) := hM rz μz hoz
      have eA : (vR x :: avs).map (x_v X) = Value.ref (x_ad X x) :: avs.map (x_v X) := by
        show x_rv X x :: avs.map (x_v X) = _
        rw [x_rv_n X h0]
      have hpre : ∀ U : State, U.heap = H → s.WarmedH U.vm → va_Pc ((vR x :: avs).map (x_v X)) (x_H X Z μ) (Value.ref (x_ad X x) :: avs.map (x_v X)).toArray U := by
        rw [← eA]; exact x_pre hE hP hS
      have est : x_st X (avs.reverse ++ vR x :: st) = (avs.map (x_v X)).reverse ++ .ref (x_ad X x) :: x_st X st := by
        have : x_v X (vR x) = .ref (x_ad X x) := x_rv_n X h0
        simp [x_st, this]
      have hlen : ∀ sig, parseMethodDescriptor y.desc = some sig → avs.length = sig.parameters.length := by
        intro sig h
        have h2 := hd.2.2
        rw [h] at h2
        exact (Option.some.inj h2).symm
      have hrun : va_Run p l e R s m args below meth c H locs cs sl 0 0 (F0 m pc ls (x_st X (avs.reverse ++ vR x :: st))) (x_st X st) (x_Q X rk rz μz (Value.ref (x_ad X x) :: avs.map (x_v X)).toArray) (x_A X) := by
        cases nest with
        | true => exact va_runVN (C := "java/lang/String") (Ts := []) (n := avs.length) ⟨hx, hb, hml, hown, fun w h => by cases h⟩ hM' ⟨⟨⟨rfl, rfl, by show k + 1 ≤ R.frames; omega, by show 8 + (mz + 11) + 64 * k ≤ R.locals; omega, x_word hE hl4, List.mem_cons_self⟩, hw hl4, hw hl3, ⟨hd.1, hd.2.1⟩, hlen, hw hl1⟩, hw hl2, hw hl5⟩ ⟨x_H.blind, ⟨cell, q1, q2, q3⟩, hpre⟩ rfl (by simp) hl.1 est (by rw [show 2 * (F0 m pc ls (x_st X (avs.reverse ++ vR x :: st))).monitorRoom = 0 from rfl, x_st_sum]; omega) hdg ⟨r3, r4⟩
        | false => exact va_runV (C := "java/lang/String") (Ts := []) (n := avs.length) ⟨hx, hb, hml, hown, fun w h => by cases h⟩ hM' ⟨⟨rfl, rfl, by show k + 1 ≤ R.frames; omega, by show 8 + (mz + 11) + 64 * k ≤ R.locals; omega, x_word hE hl4, List.mem_cons_self, hw hl4, hw hl3, ⟨hd.1, hd.2.1⟩, hlen, hw hl1⟩, hw hl2, hw hl5⟩ ⟨x_H.blind, ⟨cell, q1, q2, q3⟩, hpre⟩ rfl (by simp) hl.1 est (by rw [show 2 * (F0 m pc ls (x_st X (avs.reverse ++ vR x :: st))).monitorRoom = 0 from rfl, x_st_sum]; omega) hdg ⟨r3, r4⟩
      exact x_back hrun (hrk rz) hS (fun H1 locs1 hP1 hS1 => kk rz μz H1 locs1 ls hP1 hS1 hl r μ1 ho)
  · rw [if_neg hx0] at ho; cases ho
abbrev x_cpok (X : x_X) (o0 : Nat) (sp : Int32) (o1 : Nat) (dp n : Int32) : Prop := x_kd X o0 = 21 ∧ x_kd X o1 = 21 ∧ ¬ sp < 0 ∧ ¬ dp < 0 ∧ ¬ n < 0 ∧ sp.toNatClampNeg + n.toNatClampNeg ≤ x_ln X o0 ∧ dp.toNatClampNeg + n.toNatClampNeg ≤ x_ln X o1
def x_cp (μ : x_M) (o0 : Nat) (sp : Int32) (o1 : Nat) (dp n : Int32) : x_M := (μ.1, μ.2.1, fun q => if q = o1 then va_cpy (μ.2.2 o0) (μ.2.2 o1) sp.toNatClampNeg dp.toNatClampNeg n.toNatClampNeg else μ.2.2 q)
theorem s_acopy (hC : x_C X Z p R s m c cc own nL cs sl n) {idx o0 o1 : Nat} {sp dp k : Int32} (hdg : decode cc pc = .ok (.invokestatic idx, 3)) (hl1 : x_in (.methodLink own idx arraycopyName)) (hl2 : x_in (.native arraycopyName)) (hl3 : x_in (.static arraycopyName)) (hl4 : x_in (.initialized "java/lang/System")) (hn : 1 ≤ n) (hst : (st.map x_cat).sum ≤ 8)
    (kk : Sm X (x_PI X s) (x_A X) Q p l e R s m args below meth c nL cs sl (pc + 3) lv st (x_cp μ o0 sp o1 dp k) o) : Sm X (x_PI X s) (x_A X) Q p l e R s m args below meth c nL cs sl pc lv (vI k :: vI dp :: vR o1 :: vI sp :: vR o0 :: st) μ (ck (x_cpok X o0 sp o1 dp k) o) := by
  intro H locs ls hP hS hl r μ1 ho
  unfold ck at ho
  by_cases hx : x_cpok X o0 sp o1 dp k
  · rw [if_pos hx] at ho
    obtain ⟨k0, k1, h1, h2, h3, h4, h5⟩ := hx
    have z0 : o0 ≠ 0 := x_n0 hC (by omega)
    have z1 : o1 ≠ 0 := x_n0 hC (by omega)
    have hw := fun {w} h => hC.2.2.2.2.1.2.2.at (w := w) h args
    obtain ⟨hexec, hb, hml, hown, hE, hI, r1, r2, r3, r4⟩ := id hC
    show W p l e R s m args below meth c H locs cs sl (Q r μ1) (F0 m pc ls (.int k :: .int dp :: x_rv X o1 :: .int sp :: x_rv X o0 :: x_st X st))
    rw [x_rv_n X z0, x_rv_n X z1]
    have nn : ∀ z : Int32, ¬ z < 0 → z.toInt = (z.toNatClampNeg : Int) := by
      intro z hz
      have hz0 : (0 : Int) ≤ z.toInt := by
        have := Int32.not_lt.mp hz
        simpa using Int32.le_iff_toInt_le.mp this
      show z.toInt = ((z.toInt.toNat : Nat) : Int)
      omega
    intro T hT X'
    have hc0 : H[x_ad X o0]? = some (vp_cell (x_cA X 21) (x_ln X o0, .inr (.inl (μ.2.2 o0)))) := (hP o0).2.2.1 k0
    have hc1 : H[x_ad X o1]? = some (vp_cell (x_cA X 21) (x_ln X o1, .inr (.inl (μ.2.2 o1)))) := (hP o1).2.2.1 k1
    obtain ⟨-, j0, hk0, cm0, hkk0⟩ := (hE.1.2 1 _ rfl).1 (x_ln X o0) (fun j => .long (μ.2.2 o0 j))
    obtain ⟨-, j1, hk1, cm1, hkk1⟩ := (hE.1.2 1 _ rfl).1 (x_ln X o1) (fun j => .long (μ.2.2 o1 j))
    have hnf : nativeFrameWords "java/lang/System" "arraycopy" 5 ≤ 40 := by decide
    obtain ⟨vm', X2, step⟩ := X'.arraycopy hexec hown (hw hl1) (hw hl2) (hw hl3) (hw hl4) (src := x_ad X o0) (dst := x_ad X o1) (cs := vp_cell (x_cA X 21) (x_ln X o0, .inr (.inl (μ.2.2 o0)))) (cd := vp_cell (x_cA X 21) (x_ln X o1, .inr (.inl (μ.2.2 o1)))) (srcPos := sp) (destPos := dp) (n := k) (by rw [hT]; exact hc0) (by rw [hT]; exact hc1)
      (fun _ h => by cases h) (fun _ h => by cases h) (fun h => by cases h) (fun h => by cases h) hk0 hk1 hkk0 hkk1 (by simp [refKind]) h1 h2 h3
      (by rw [nn sp h1, nn k h3]; show ¬ _ > ((arrV (x_cA X 21) (x_ln X o0) (fun j => .long (μ.2.2 o0 j))).slots.size : Int); rw [arrV_size]; omega)
      (by rw [nn dp h2, nn k h3]; show ¬ _ > ((arrV (x_cA X 21) (x_ln X o1) (fun j => .long (μ.2.2 o1 j))).slots.size : Int); rw [arrV_size]; omega)
      (fun vm₁ _ i hi => by
        have e : (vp_cell (x_cA X 21) (x_ln X o0, .inr (.inl (μ.2.2 o0)))).slots.getD (sp.toNatClampNeg + i) .null = .long (μ.2.2 o0 (sp.toNatClampNeg + i)) := by
          show (arrV (x_cA X 21) (x_ln X o0) (fun j => .long (μ.2.2 o0 j))).slots.getD _ _ = _
          rw [Array.getD_eq_getD_getElem?, arrV_read _ _ (by omega)]
          rfl
        refine ⟨?_, ?_⟩
        · rw [e]
          rfl
        · rw [e]
          exact trivial)
      (g := F0 m pc ls (.int k :: .int dp :: .ref (x_ad X o1) :: .int sp :: .ref (x_ad X o0) :: x_st X st)) rfl (by rw [hml]; exact hl.1) (rest := x_st X st) rfl (by rw [hb]; exact hdg) (by omega) (by rw [show 2 * (F0 m pc ls (.int k :: .int dp :: .ref (x_ad X o1) :: .int sp :: .ref (x_ad X o0) :: x_st X st)).monitorRoom = 0 from rfl, x_st_sum]; omega)
    have e1 : copied (vp_cell (x_cA X 21) (x_ln X o0, .inr (.inl (μ.2.2 o0)))) (vp_cell (x_cA X 21) (x_ln X o1, .inr (.inl (μ.2.2 o1)))) sp dp k = vp_cell (x_cA X 21) (x_ln X o1, .inr (.inl (va_cpy (μ.2.2 o0) (μ.2.2 o1) sp.toNatClampNeg dp.toNatClampNeg k.toNatClampNeg))) := va_copied (fun z => .long z) (x_cA X 21) (x_cA X 21) (μ.2.2 o0) (μ.2.2 o1) h4
    rw [e1] at X2 step
    have hl0 : x_ad X o1 < H.size := (Array.getElem?_eq_some_iff.mp hc1).1
    have hheap : ((T.setVm vm').setCell (x_ad X o1) (vp_cell (x_cA X 21) (x_ln X o1, .inr (.inl (va_cpy (μ.2.2 o0) (μ.2.2 o1) sp.toNatClampNeg dp.toNatClampNeg k.toNatClampNeg))))).heap = H.setIfInBounds (x_ad X o1) (vp_cell (x_cA X 21) (x_ln X o1, .inr (.inl (va_cpy (μ.2.2 o0) (μ.2.2 o1) sp.toNatClampNeg dp.toNatClampNeg k.toNatClampNeg)))) := by rw [← hT]; rfl
    have oq : ∀ q : Nat, q ≠ x_ad X o1 → (H.setIfInBounds (x_ad X o1) (vp_cell (x_cA X 21) (x_ln X o1, .inr (.inl (va_cpy (μ.2.2 o0) (μ.2.2 o1) sp.toNatClampNeg dp.toNatClampNeg k.toNatClampNeg)))))[q]? = H[q]? := fun q hq => by simp [Array.getElem?_setIfInBounds, Ne.symm hq]
    have hA1 : x_A X (x_ad X o1) := ⟨o1, by omega, by omega, rfl⟩
    have hP2 : x_P X (x_cp μ o0 sp o1 dp k) s (H.setIfInBounds (x_ad X o1) (vp_cell (x_cA X 21) (x_ln X o1, .inr (.inl (va_cpy (μ.2.2 o0) (μ.2.2 o1) sp.toNatClampNeg dp.toNatClampNeg k.toNatClampNeg))))) := by
      refine x_P.put hI hP (o := o1) (by omega) (by omega) ?_ oq (fun q hq => rfl) (fun q hq => rfl) (fun q hq => by show (if q = o1 then _ else _) = _; rw [if_neg hq])
      refine ⟨fun _ _ => by omega, fun z => by omega, fun _ => ?_, fun z => by omega, fun z => by omega, fun z => by omega, fun z => by omega, fun z => by omega⟩
      show (H.setIfInBounds (x_ad X o1) _)[x_ad X o1]? = some (vp_cell (x_cA X 21) (x_ln X o1, .inr (.inl (if o1 = o1 then _ else _))))
      rw [if_pos rfl]
      simp [Array.getElem?_setIfInBounds, hl0]
    obtain ⟨t, a1, b1⟩ := kk _ _ ls hP2 ⟨by simp; exact hS.1, fun q g1 g2 => by
        rw [oq q (fun e => g2 (by rw [e]; exact hA1))]
        exact hS.2.1 q g1 g2, fun q hq => by
        rcases List.mem_append.mp hq with h | h
        · exact hS.2.2 q h
        · obtain ⟨z, -, hz⟩ := List.mem_map.mp h
          rw [← hz]
          exact hA1⟩ hl r μ1 ho _ hheap X2
    exact ⟨t, step t a1, b1⟩
  · rw [if_neg hx] at ho; cases ho
end STR
theorem x_cls_in {C : String} {T : u_T} {N : Nat} (h : (u_ws C T N).all (fun w => decide (w ∈ lw_tbl) && goodWord w) = true) : ∀ w ∈ u_ws C T N, x_in w := by
  intro w hw
  have h1 := List.all_eq_true.mp h w hw
  simp only [Bool.and_eq_true, decide_eq_true_eq] at h1
  exact ⟨h1.1, Or.inl h1.2⟩
set_option maxRecDepth 100000 in
theorem xc0 : x_Cls 0 RX0 TX0 10 := ⟨rfl, by decide, x_cls_in (by decide +kernel), tyX0_ok, nmX0, by decide +kernel⟩
set_option maxRecDepth 100000 in
theorem xc1 : x_Cls 1 RX1 TX1 2 := ⟨rfl, by decide, x_cls_in (by decide +kernel), tyX1_ok, nmX1, by decide +kernel⟩
set_option maxRecDepth 100000 in
theorem xc2 : x_Cls 2 RX2 TX2 1 := ⟨rfl, by decide, x_cls_in (by decide +kernel), tyX2_ok, nmX2, by decide +kernel⟩
set_option maxRecDepth 100000 in
theorem xc3 : x_Cls 3 RX3 TX3 1 := ⟨rfl, by decide, x_cls_in (by decide +kernel), tyX3_ok, nmX3, by decide +kernel⟩
set_option maxRecDepth 100000 in
theorem xc4 : x_Cls 4 RX4 TX4 10 := ⟨rfl, by decide, x_cls_in (by decide +kernel), tyX4_ok, nmX4, by decide +kernel⟩
set_option maxRecDepth 100000 in
theorem xc5 : x_Cls 5 RX5 TX5 3 := ⟨rfl, by decide, x_cls_in (by decide +kernel), tyX5_ok, nmX5, by decide +kernel⟩
set_option maxRecDepth 100000 in
theorem xc6 : x_Cls 6 RX6 TX6 4 := ⟨rfl, by decide, x_cls_in (by decide +kernel), tyX6_ok, nmX6, by decide +kernel⟩
set_option maxRecDepth 100000 in
theorem xc7 : x_Cls 7 RX7 TX7 12 := ⟨rfl, by decide, x_cls_in (by decide +kernel), tyX7_ok, nmX7, by decide +kernel⟩
set_option maxRecDepth 100000 in
theorem xc8 : x_Cls 8 RX8 TX8 3 := ⟨rfl, by decide, x_cls_in (by decide +kernel), tyX8_ok, nmX8, by decide +kernel⟩
set_option maxRecDepth 100000 in
theorem xc9 : x_Cls 9 RX9 TX9 9 := ⟨rfl, by decide, x_cls_in (by decide +kernel), tyX9_ok, nmX9, by decide +kernel⟩
set_option maxRecDepth 100000 in
theorem xc10 : x_Cls 10 RX10 TX10 77 := ⟨rfl, by decide, x_cls_in (by decide +kernel), tyX10_ok, nmX10, by decide +kernel⟩
end
section
theorem qm_J1_88 : x_in (.methodLink RJ1 88 yJ1_canEncode_9a6ad) := ⟨List.mem_of_getElem? (i := 641) (by decide +kernel), Or.inl (by decide +kernel)⟩
theorem qd_J1_canEncode_9a6ad : x_in (.code yJ1_canEncode_9a6ad cJ1_canEncode_9a6ad 1 (some .boolean)) := ⟨List.mem_of_getElem? (i := 643) (by decide +kernel), Or.inl (by decide +kernel)⟩
theorem qc_J1 : x_in (.initialized RJ1) := ⟨List.mem_of_getElem? (i := 93) (by decide +kernel), Or.inl (by decide +kernel)⟩
theorem qt_J1_canEncode_9a6ad : x_in (.static yJ1_canEncode_9a6ad) := ⟨List.mem_of_getElem? (i := 642) (by decide +kernel), Or.inl (by decide +kernel)⟩
theorem qm_J1_92 : x_in (.methodLink RJ1 92 Lib.Math.max.name) := ⟨List.mem_of_getElem? (i := 644) (by decide +kernel), Or.inl (by decide +kernel)⟩
theorem qt_Math_max : x_in (.static Lib.Math.max.name) := ⟨List.mem_of_getElem? (i := 416) (by decide +kernel), Or.inl (by decide +kernel)⟩
theorem qc_Math : x_in (.initialized "java/lang/Math") := ⟨List.mem_of_getElem? (i := 84) (by decide +kernel), Or.inl (by decide +kernel)⟩
theorem qd_Math_max : x_in (.code Lib.Math.max.name Lib.Math.max.code 2 (some .int)) := ⟨List.mem_of_getElem? (i := 417) (by decide +kernel), Or.inl (by decide +kernel)⟩
theorem qm_J1_38 : x_in (.methodLink RJ1 38 Lib.Math.min.name) := ⟨List.mem_of_getElem? (i := 645) (by decide +kernel), Or.inl (by decide +kernel)⟩
theorem qt_Math_min : x_in (.static Lib.Math.min.name) := ⟨List.mem_of_getElem? (i := 132) (by decide +kernel), Or.inl (by decide +kernel)⟩
theorem qd_Math_min : x_in (.code Lib.Math.min.name Lib.Math.min.code 2 (some .int)) := ⟨List.mem_of_getElem? (i := 133) (by decide +kernel), Or.inl (by decide +kernel)⟩
theorem qm_J1_95 : x_in (.methodLink RJ1 95 yJ1_indexOfChar_4cfef) := ⟨List.mem_of_getElem? (i := 646) (by decide +kernel), Or.inl (by decide +kernel)⟩
theorem qd_J1_indexOfChar_4cfef : x_in (.code yJ1_indexOfChar_4cfef cJ1_indexOfChar_4cfef 6 (some .int)) := ⟨List.mem_of_getElem? (i := 648) (by decide +kernel), Or.inl (by decide +kernel)⟩
theorem qt_J1_indexOfChar_4cfef : x_in (.static yJ1_indexOfChar_4cfef) := ⟨List.mem_of_getElem? (i := 647) (by decide +kernel), Or.inl (by decide +kernel)⟩
theorem qg_J0_1053 : x_in (Cond.fieldLink RJ0 1053 "jdk/internal/util/Preconditions" "SIOOBE_FORMATTER" "Ljava/util/function/BiFunction;") := ⟨List.mem_of_getElem? (i := 570) (by decide +kernel), Or.inl (by decide +kernel)⟩
theorem qm_J0_1059 : x_in (.methodLink RJ0 1059 yJ3_checkIndex_8e157) := ⟨List.mem_of_getElem? (i := 572) (by decide +kernel), Or.inl (by decide +kernel)⟩
theorem qd_J3_checkIndex_8e157 : x_in (.code yJ3_checkIndex_8e157 cJ3_checkIndex_8e157 3 (some .int)) := ⟨List.mem_of_getElem? (i := 574) (by decide +kernel), Or.inl (by decide +kernel)⟩
theorem qc_J3 : x_in (.initialized RJ3) := ⟨List.mem_of_getElem? (i := 94) (by decide +kernel), Or.inl (by decide +kernel)⟩
theorem qt_J3_checkIndex_8e157 : x_in (.static yJ3_checkIndex_8e157) := ⟨List.mem_of_getElem? (i := 573) (by decide +kernel), Or.inl (by decide +kernel)⟩
theorem qm_J1_9 : x_in (.methodLink RJ1 9 yJ0_checkIndex_df160) := ⟨List.mem_of_getElem? (i := 567) (by decide +kernel), Or.inl (by decide +kernel)⟩
theorem qd_J0_checkIndex_df160 : x_in (.code yJ0_checkIndex_df160 cJ0_checkIndex_df160 2 none) := ⟨List.mem_of_getElem? (i := 569) (by decide +kernel), Or.inl (by decide +kernel)⟩
theorem qc_J0 : x_in (.initialized RJ0) := ⟨List.mem_of_getElem? (i := 92) (by decide +kernel), Or.inl (by decide +kernel)⟩
theorem qt_J0_checkIndex_df160 : x_in (.static yJ0_checkIndex_df160) := ⟨List.mem_of_getElem? (i := 568) (by decide +kernel), Or.inl (by decide +kernel)⟩
theorem qg_J0_38 : x_in (Cond.fieldLink RJ0 38 "java/lang/String" "COMPACT_STRINGS" "Z") := ⟨List.mem_of_getElem? (i := 553) (by decide +kernel), Or.inl (by decide +kernel)⟩
theorem qf_J0_15 : x_in (.fieldLink RJ0 15 "java/lang/String" "coder" "B") := ⟨List.mem_of_getElem? (i := 1734) (by decide +kernel), Or.inl (by decide +kernel)⟩
theorem qf_J0_9 : x_in (.fieldLink RJ0 9 "java/lang/String" "value" "[B") := ⟨List.mem_of_getElem? (i := 1733) (by decide +kernel), Or.inl (by decide +kernel)⟩
theorem qm_J0_335 : x_in (.methodLink RJ0 335 yJ0_coder_7d493) := ⟨List.mem_of_getElem? (i := 549) (by decide +kernel), Or.inl (by decide +kernel)⟩
theorem qd_J0_coder_7d493 : x_in (.code yJ0_coder_7d493 cJ0_coder_7d493 1 (some .byte)) := ⟨List.mem_of_getElem? (i := 552) (by decide +kernel), Or.inl (by decide +kernel)⟩
theorem qi_J0_coder_7d493 : x_in (.instanceMethod yJ0_coder_7d493) := ⟨List.mem_of_getElem? (i := 550) (by decide +kernel), Or.inl (by decide +kernel)⟩
theorem qs_J0_coder_7d493 : x_in (.selects RJ0 yJ0_coder_7d493 yJ0_coder_7d493) := ⟨List.mem_of_getElem? (i := 551) (by decide +kernel), Or.inl (by decide +kernel)⟩
theorem qm_J0_492 : x_in (.methodLink RJ0 492 yJ0_isLatin1_aae02) := ⟨List.mem_of_getElem? (i := 560) (by decide +kernel), Or.inl (by decide +kernel)⟩
theorem qd_J0_isLatin1_aae02 : x_in (.code yJ0_isLatin1_aae02 cJ0_isLatin1_aae02 1 (some .boolean)) := ⟨List.mem_of_getElem? (i := 563) (by decide +kernel), Or.inl (by decide +kernel)⟩
theorem qi_J0_isLatin1_aae02 : x_in (.instanceMethod yJ0_isLatin1_aae02) := ⟨List.mem_of_getElem? (i := 561) (by decide +kernel), Or.inl (by decide +kernel)⟩
theorem qs_J0_isLatin1_aae02 : x_in (.selects RJ0 yJ0_isLatin1_aae02 yJ0_isLatin1_aae02) := ⟨List.mem_of_getElem? (i := 562) (by decide +kernel), Or.inl (by decide +kernel)⟩
theorem qm_J0_505 : x_in (.methodLink RJ0 505 yJ0_length_8abf5) := ⟨List.mem_of_getElem? (i := 637) (by decide +kernel), Or.inl (by decide +kernel)⟩
theorem qd_J0_length_8abf5 : x_in (.code yJ0_length_8abf5 cJ0_length_8abf5 1 (some .int)) := ⟨List.mem_of_getElem? (i := 548) (by decide +kernel), Or.inl (by decide +kernel)⟩
theorem qi_J0_length_8abf5 : x_in (.instanceMethod yJ0_length_8abf5) := ⟨List.mem_of_getElem? (i := 546) (by decide +kernel), Or.inl (by decide +kernel)⟩
theorem qs_J0_length_8abf5 : x_in (.selects RJ0 yJ0_length_8abf5 yJ0_length_8abf5) := ⟨List.mem_of_getElem? (i := 547) (by decide +kernel), Or.inl (by decide +kernel)⟩
theorem qm_J0_637 : x_in (.methodLink RJ0 637 yJ1_indexOf_4cfef) := ⟨List.mem_of_getElem? (i := 638) (by decide +kernel), Or.inl (by decide +kernel)⟩
theorem qd_J1_indexOf_4cfef : x_in (.code yJ1_indexOf_4cfef cJ1_indexOf_4cfef 4 (some .int)) := ⟨List.mem_of_getElem? (i := 640) (by decide +kernel), Or.inl (by decide +kernel)⟩
theorem qt_J1_indexOf_4cfef : x_in (.static yJ1_indexOf_4cfef) := ⟨List.mem_of_getElem? (i := 639) (by decide +kernel), Or.inl (by decide +kernel)⟩
theorem qm_J0_495 : x_in (.methodLink RJ0 495 yJ1_charAt_3b067) := ⟨List.mem_of_getElem? (i := 564) (by decide +kernel), Or.inl (by decide +kernel)⟩
theorem qd_J1_charAt_3b067 : x_in (.code yJ1_charAt_3b067 cJ1_charAt_3b067 2 (some .char)) := ⟨List.mem_of_getElem? (i := 566) (by decide +kernel), Or.inl (by decide +kernel)⟩
theorem qt_J1_charAt_3b067 : x_in (.static yJ1_charAt_3b067) := ⟨List.mem_of_getElem? (i := 565) (by decide +kernel), Or.inl (by decide +kernel)⟩
theorem qm_J0_633 : x_in (.methodLink RJ0 633 yJ0_indexOf_7cf53) := ⟨List.mem_of_getElem? (i := 633) (by decide +kernel), Or.inl (by decide +kernel)⟩
theorem qd_J0_indexOf_7cf53 : x_in (.code yJ0_indexOf_7cf53 cJ0_indexOf_7cf53 3 (some .int)) := ⟨List.mem_of_getElem? (i := 636) (by decide +kernel), Or.inl (by decide +kernel)⟩
theorem qi_J0_indexOf_7cf53 : x_in (.instanceMethod yJ0_indexOf_7cf53) := ⟨List.mem_of_getElem? (i := 634) (by decide +kernel), Or.inl (by decide +kernel)⟩
theorem qs_J0_indexOf_7cf53 : x_in (.selects RJ0 yJ0_indexOf_7cf53 yJ0_indexOf_7cf53) := ⟨List.mem_of_getElem? (i := 635) (by decide +kernel), Or.inl (by decide +kernel)⟩
theorem qf_X3_9 : x_in (x_fl false RX3 9 RX3 TX3 0) := ⟨List.mem_of_getElem? (i := 118) (by decide +kernel), Or.inl (by decide +kernel)⟩
theorem qm_X3_19 : x_in (.methodLink RX3 19 Lib.Math.min.name) := ⟨List.mem_of_getElem? (i := 414) (by decide +kernel), Or.inl (by decide +kernel)⟩
theorem qm_X3_25 : x_in (.methodLink RX3 25 Lib.Math.max.name) := ⟨List.mem_of_getElem? (i := 415) (by decide +kernel), Or.inl (by decide +kernel)⟩
theorem qm_X3_15 : x_in (.methodLinkNest RX3 15 yX9_at "LakeBooks") := ⟨List.mem_of_getElem? (i := 403) (by decide +kernel), Or.inr (by decide +kernel)⟩
theorem qd_X9_at : x_in (.code yX9_at cX9_at 2 (some .int)) := ⟨List.mem_of_getElem? (i := 405) (by decide +kernel), Or.inl (by decide +kernel)⟩
theorem qc_X9 : x_in (.initialized RX9) := ⟨List.mem_of_getElem? (i := 80) (by decide +kernel), Or.inl (by decide +kernel)⟩
theorem qt_X9_at : x_in (.static yX9_at) := ⟨List.mem_of_getElem? (i := 404) (by decide +kernel), Or.inl (by decide +kernel)⟩
theorem qf_X6_28 : x_in (x_fl false RX6 28 RX6 TX6 3) := ⟨List.mem_of_getElem? (i := 137) (by decide +kernel), Or.inl (by decide +kernel)⟩
theorem qf_X6_9 : x_in (x_fl false RX6 9 RX6 TX6 0) := ⟨List.mem_of_getElem? (i := 134) (by decide +kernel), Or.inl (by decide +kernel)⟩
theorem qm_X6_31 : x_in (.methodLinkNest RX6 31 yX9_at "LakeBooks") := ⟨List.mem_of_getElem? (i := 759) (by decide +kernel), Or.inr (by decide +kernel)⟩
theorem qf_X6_15 : x_in (x_fl false RX6 15 RX6 TX6 1) := ⟨List.mem_of_getElem? (i := 135) (by decide +kernel), Or.inl (by decide +kernel)⟩
theorem qf_X6_24 : x_in (x_fl false RX6 24 RX6 TX6 2) := ⟨List.mem_of_getElem? (i := 136) (by decide +kernel), Or.inl (by decide +kernel)⟩
theorem qm_X6_35 : x_in (.methodLinkNest RX6 35 yX9_within "LakeBooks") := ⟨List.mem_of_getElem? (i := 892) (by decide +kernel), Or.inr (by decide +kernel)⟩
theorem qd_X9_within : x_in (.code yX9_within cX9_within 3 (some .boolean)) := ⟨List.mem_of_getElem? (i := 398) (by decide +kernel), Or.inl (by decide +kernel)⟩
theorem qt_X9_within : x_in (.static yX9_within) := ⟨List.mem_of_getElem? (i := 397) (by decide +kernel), Or.inl (by decide +kernel)⟩
theorem qf_X8_15 : x_in (x_fl false RX8 15 RX8 TX8 1) := ⟨List.mem_of_getElem? (i := 352) (by decide +kernel), Or.inl (by decide +kernel)⟩
theorem qm_X8_19 : x_in (.methodLink RX8 19 Lib.Math.min.name) := ⟨List.mem_of_getElem? (i := 1068) (by decide +kernel), Or.inl (by decide +kernel)⟩
theorem qm_X8_25 : x_in (.methodLink RX8 25 Lib.Math.max.name) := ⟨List.mem_of_getElem? (i := 1069) (by decide +kernel), Or.inl (by decide +kernel)⟩
theorem qf_X8_28 : x_in (x_fl false RX8 28 RX8 TX8 2) := ⟨List.mem_of_getElem? (i := 354) (by decide +kernel), Or.inl (by decide +kernel)⟩
theorem qf_X8_9 : x_in (x_fl false RX8 9 RX8 TX8 0) := ⟨List.mem_of_getElem? (i := 351) (by decide +kernel), Or.inl (by decide +kernel)⟩
theorem qk_X8_35 : x_in (.constantLong RX8 35 (-9223372036854775808)) := ⟨List.mem_of_getElem? (i := 989) (by decide +kernel), Or.inl (by decide +kernel)⟩
theorem qm_X8_37 : x_in (.methodLink RX8 37 arraycopyName) := ⟨List.mem_of_getElem? (i := 1094) (by decide +kernel), Or.inl (by decide +kernel)⟩
theorem qn_arraycopy : x_in (.native arraycopyName) := ⟨List.mem_of_getElem? (i := 1096) (by decide +kernel), Or.inl (by decide +kernel)⟩
theorem qt_arraycopy : x_in (.static arraycopyName) := ⟨List.mem_of_getElem? (i := 1095) (by decide +kernel), Or.inl (by decide +kernel)⟩
theorem qc_System : x_in (.initialized "java/lang/System") := ⟨List.mem_of_getElem? (i := 97) (by decide +kernel), Or.inl (by decide +kernel)⟩
theorem qm_X8_31 : x_in (.methodLink RX8 31 yX8_cut) := ⟨List.mem_of_getElem? (i := 1078) (by decide +kernel), Or.inl (by decide +kernel)⟩
theorem qd_X8_cut : x_in (.code yX8_cut cX8_cut 3 (some .long)) := ⟨List.mem_of_getElem? (i := 1081) (by decide +kernel), Or.inl (by decide +kernel)⟩
theorem qc_X8 : x_in (.initialized RX8) := ⟨List.mem_of_getElem? (i := 90) (by decide +kernel), Or.inl (by decide +kernel)⟩
theorem qi_X8_cut : x_in (.instanceMethod yX8_cut) := ⟨List.mem_of_getElem? (i := 1080) (by decide +kernel), Or.inl (by decide +kernel)⟩
theorem qs_X8_cut : x_in (.selects RX8 yX8_cut yX8_cut) := ⟨List.mem_of_getElem? (i := 22) (by decide +kernel), Or.inl (by decide +kernel)⟩
theorem qf_X0_19 : x_in (x_fl false RX0 19 RX0 TX0 2) := ⟨List.mem_of_getElem? (i := 203) (by decide +kernel), Or.inl (by decide +kernel)⟩
theorem qf_X0_23 : x_in (x_fl false RX0 23 RX0 TX0 3) := ⟨List.mem_of_getElem? (i := 206) (by decide +kernel), Or.inl (by decide +kernel)⟩
theorem qf_X0_26 : x_in (x_fl false RX0 26 RX0 TX0 4) := ⟨List.mem_of_getElem? (i := 210) (by decide +kernel), Or.inl (by decide +kernel)⟩
theorem qf_X0_29 : x_in (x_fl false RX0 29 RX0 TX0 6) := ⟨List.mem_of_getElem? (i := 217) (by decide +kernel), Or.inl (by decide +kernel)⟩
theorem qf_X0_32 : x_in (x_fl false RX0 32 RX0 TX0 5) := ⟨List.mem_of_getElem? (i := 213) (by decide +kernel), Or.inl (by decide +kernel)⟩
theorem qf_X0_35 : x_in (x_fl false RX0 35 RX0 TX0 7) := ⟨List.mem_of_getElem? (i := 220) (by decide +kernel), Or.inl (by decide +kernel)⟩
theorem qf_X0_9 : x_in (x_fl false RX0 9 RX0 TX0 1) := ⟨List.mem_of_getElem? (i := 202) (by decide +kernel), Or.inl (by decide +kernel)⟩
theorem qm_X0_51 : x_in (.methodLink RX0 51 Lib.Math.min.name) := ⟨List.mem_of_getElem? (i := 734) (by decide +kernel), Or.inl (by decide +kernel)⟩
theorem qm_X0_42 : x_in (.methodLink RX0 42 Lib.Math.max.name) := ⟨List.mem_of_getElem? (i := 459) (by decide +kernel), Or.inl (by decide +kernel)⟩
theorem qm_X0_38 : x_in (.methodLinkNest RX0 38 yX9_at "LakeBooks") := ⟨List.mem_of_getElem? (i := 463) (by decide +kernel), Or.inr (by decide +kernel)⟩
theorem qm_X0_48 : x_in (.methodLink RX0 48 yJ9_floorMod_7cf53) := ⟨List.mem_of_getElem? (i := 460) (by decide +kernel), Or.inl (by decide +kernel)⟩
theorem qd_J9_floorMod_7cf53 : x_in (.code yJ9_floorMod_7cf53 cJ9_floorMod_7cf53 3 (some .int)) := ⟨List.mem_of_getElem? (i := 462) (by decide +kernel), Or.inl (by decide +kernel)⟩
theorem qc_J9 : x_in (.initialized RJ9) := ⟨List.mem_of_getElem? (i := 84) (by decide +kernel), Or.inl (by decide +kernel)⟩
theorem qt_J9_floorMod_7cf53 : x_in (.static yJ9_floorMod_7cf53) := ⟨List.mem_of_getElem? (i := 461) (by decide +kernel), Or.inl (by decide +kernel)⟩
theorem qf_X1_15 : x_in (x_fl false RX1 15 RX1 TX1 1) := ⟨List.mem_of_getElem? (i := 339) (by decide +kernel), Or.inl (by decide +kernel)⟩
theorem qf_X1_9 : x_in (x_fl false RX1 9 RX1 TX1 0) := ⟨List.mem_of_getElem? (i := 338) (by decide +kernel), Or.inl (by decide +kernel)⟩
theorem qg_X1_56 : x_in (Cond.fieldLink RX1 56 "LakeBooks$Acts" "BODIES" "[I") := ⟨List.mem_of_getElem? (i := 1017) (by decide +kernel), Or.inl (by decide +kernel)⟩
theorem qm_X1_59 : x_in (.methodLinkNest RX1 59 yX9_at "LakeBooks") := ⟨List.mem_of_getElem? (i := 1019) (by decide +kernel), Or.inr (by decide +kernel)⟩
theorem qg_X9_316 : x_in (Cond.fieldLink RX9 316 "LakeBooks" "ABOVE" "[I") := ⟨List.mem_of_getElem? (i := 1023) (by decide +kernel), Or.inl (by decide +kernel)⟩
theorem qg_X1_32 : x_in (Cond.fieldLinkNest RX1 32 "LakeBooks" "ABOVE" "[I" "LakeBooks") := ⟨List.mem_of_getElem? (i := 1012) (by decide +kernel), Or.inr (by decide +kernel)⟩
theorem qm_X1_35 : x_in (.methodLink RX1 35 yX1_bodyOf) := ⟨List.mem_of_getElem? (i := 1014) (by decide +kernel), Or.inl (by decide +kernel)⟩
theorem qd_X1_bodyOf : x_in (.code yX1_bodyOf cX1_bodyOf 2 (some .int)) := ⟨List.mem_of_getElem? (i := 1016) (by decide +kernel), Or.inl (by decide +kernel)⟩
theorem qc_X1 : x_in (.initialized RX1) := ⟨List.mem_of_getElem? (i := 89) (by decide +kernel), Or.inl (by decide +kernel)⟩
theorem qt_X1_bodyOf : x_in (.static yX1_bodyOf) := ⟨List.mem_of_getElem? (i := 1015) (by decide +kernel), Or.inl (by decide +kernel)⟩
theorem qm_X1_39 : x_in (.methodLinkNest RX1 39 yX9_kindAbove "LakeBooks") := ⟨List.mem_of_getElem? (i := 1020) (by decide +kernel), Or.inr (by decide +kernel)⟩
theorem qd_X9_kindAbove : x_in (.code yX9_kindAbove cX9_kindAbove 1 (some .int)) := ⟨List.mem_of_getElem? (i := 1022) (by decide +kernel), Or.inl (by decide +kernel)⟩
theorem qt_X9_kindAbove : x_in (.static yX9_kindAbove) := ⟨List.mem_of_getElem? (i := 1021) (by decide +kernel), Or.inl (by decide +kernel)⟩
theorem qm_X1_43 : x_in (.methodLink RX1 43 yX1_note) := ⟨List.mem_of_getElem? (i := 1024) (by decide +kernel), Or.inl (by decide +kernel)⟩
theorem qd_X1_note : x_in (.code yX1_note cX1_note 2 none) := ⟨List.mem_of_getElem? (i := 1027) (by decide +kernel), Or.inl (by decide +kernel)⟩
theorem qi_X1_note : x_in (.instanceMethod yX1_note) := ⟨List.mem_of_getElem? (i := 1026) (by decide +kernel), Or.inl (by decide +kernel)⟩
theorem qs_X1_note : x_in (.selects RX1 yX1_note yX1_note) := ⟨List.mem_of_getElem? (i := 20) (by decide +kernel), Or.inl (by decide +kernel)⟩
theorem qm_X1_47 : x_in (.methodLink RX1 47 yX1_runBody) := ⟨List.mem_of_getElem? (i := 1028) (by decide +kernel), Or.inl (by decide +kernel)⟩
theorem qd_X1_runBody : x_in (.code yX1_runBody cX1_runBody 7 (some .int)) := ⟨List.mem_of_getElem? (i := 1031) (by decide +kernel), Or.inl (by decide +kernel)⟩
theorem qi_X1_runBody : x_in (.instanceMethod yX1_runBody) := ⟨List.mem_of_getElem? (i := 1030) (by decide +kernel), Or.inl (by decide +kernel)⟩
theorem qs_X1_runBody : x_in (.selects RX1 yX1_runBody yX1_runBody) := ⟨List.mem_of_getElem? (i := 21) (by decide +kernel), Or.inl (by decide +kernel)⟩
theorem qf_X1_23 : x_in (x_fl true RX1 23 RX0 TX0 3) := ⟨List.mem_of_getElem? (i := 207) (by decide +kernel), Or.inr (by decide +kernel)⟩
theorem qf_X1_50 : x_in (x_fl true RX1 50 RX0 TX0 0) := ⟨List.mem_of_getElem? (i := 200) (by decide +kernel), Or.inr (by decide +kernel)⟩
theorem qm_X1_28 : x_in (.methodLink RX1 28 yX1_run) := ⟨List.mem_of_getElem? (i := 1008) (by decide +kernel), Or.inl (by decide +kernel)⟩
theorem qd_X1_run : x_in (.code yX1_run cX1_run 8 (some .int)) := ⟨List.mem_of_getElem? (i := 1011) (by decide +kernel), Or.inl (by decide +kernel)⟩
theorem qi_X1_run : x_in (.instanceMethod yX1_run) := ⟨List.mem_of_getElem? (i := 1010) (by decide +kernel), Or.inl (by decide +kernel)⟩
theorem qs_X1_run : x_in (.selects RX1 yX1_run yX1_run) := ⟨List.mem_of_getElem? (i := 19) (by decide +kernel), Or.inl (by decide +kernel)⟩
theorem qf_X1_53 : x_in (x_fl true RX1 53 RX0 TX0 4) := ⟨List.mem_of_getElem? (i := 212) (by decide +kernel), Or.inr (by decide +kernel)⟩
theorem qm_X1_19 : x_in (.methodLinkNest RX1 19 yX9_within "LakeBooks") := ⟨List.mem_of_getElem? (i := 1007) (by decide +kernel), Or.inr (by decide +kernel)⟩
theorem qf_X4_30 : x_in (x_fl false RX4 30 RX4 TX4 5) := ⟨List.mem_of_getElem? (i := 162) (by decide +kernel), Or.inl (by decide +kernel)⟩
theorem qf_X4_34 : x_in (x_fl false RX4 34 RX4 TX4 6) := ⟨List.mem_of_getElem? (i := 163) (by decide +kernel), Or.inl (by decide +kernel)⟩
theorem qf_X4_37 : x_in (x_fl false RX4 37 RX4 TX4 7) := ⟨List.mem_of_getElem? (i := 164) (by decide +kernel), Or.inl (by decide +kernel)⟩
theorem qf_X4_40 : x_in (x_fl false RX4 40 RX4 TX4 8) := ⟨List.mem_of_getElem? (i := 167) (by decide +kernel), Or.inl (by decide +kernel)⟩
theorem qf_X4_43 : x_in (x_fl false RX4 43 RX4 TX4 9) := ⟨List.mem_of_getElem? (i := 170) (by decide +kernel), Or.inl (by decide +kernel)⟩
theorem qf_X4_24 : x_in (x_fl false RX4 24 RX4 TX4 4) := ⟨List.mem_of_getElem? (i := 161) (by decide +kernel), Or.inl (by decide +kernel)⟩
theorem qm_X4_46 : x_in (.methodLink RX4 46 Lib.Math.min.name) := ⟨List.mem_of_getElem? (i := 476) (by decide +kernel), Or.inl (by decide +kernel)⟩
theorem qf_X4_64 : x_in (x_fl true RX4 64 RX0 TX0 0) := ⟨List.mem_of_getElem? (i := 201) (by decide +kernel), Or.inr (by decide +kernel)⟩
theorem qf_X4_69 : x_in (x_fl true RX4 69 RX0 TX0 3) := ⟨List.mem_of_getElem? (i := 209) (by decide +kernel), Or.inr (by decide +kernel)⟩
theorem qf_X4_72 : x_in (x_fl true RX4 72 RX0 TX0 5) := ⟨List.mem_of_getElem? (i := 216) (by decide +kernel), Or.inr (by decide +kernel)⟩
theorem qm_X4_75 : x_in (.methodLink RX4 75 Lib.Math.max.name) := ⟨List.mem_of_getElem? (i := 481) (by decide +kernel), Or.inl (by decide +kernel)⟩
theorem qf_X4_21 : x_in (x_fl false RX4 21 RX4 TX4 3) := ⟨List.mem_of_getElem? (i := 160) (by decide +kernel), Or.inl (by decide +kernel)⟩
theorem qm_X4_80 : x_in (.methodLinkNest RX4 80 yX9_at "LakeBooks") := ⟨List.mem_of_getElem? (i := 483) (by decide +kernel), Or.inr (by decide +kernel)⟩
theorem qk_X4_78 : x_in (.constantLong RX4 78 (-2)) := ⟨List.mem_of_getElem? (i := 482) (by decide +kernel), Or.inl (by decide +kernel)⟩
theorem qm_X4_52 : x_in (.methodLinkNest RX4 52 yX9_within "LakeBooks") := ⟨List.mem_of_getElem? (i := 619) (by decide +kernel), Or.inr (by decide +kernel)⟩
theorem qf_X4_9 : x_in (x_fl false RX4 9 RX4 TX4 0) := ⟨List.mem_of_getElem? (i := 157) (by decide +kernel), Or.inl (by decide +kernel)⟩
theorem qf_X4_15 : x_in (x_fl false RX4 15 RX4 TX4 1) := ⟨List.mem_of_getElem? (i := 158) (by decide +kernel), Or.inl (by decide +kernel)⟩
theorem qf_X4_18 : x_in (x_fl false RX4 18 RX4 TX4 2) := ⟨List.mem_of_getElem? (i := 159) (by decide +kernel), Or.inl (by decide +kernel)⟩
theorem qm_X4_56 : x_in (.methodLink RX4 56 yX4_tellValues) := ⟨List.mem_of_getElem? (i := 472) (by decide +kernel), Or.inl (by decide +kernel)⟩
theorem qd_X4_tellValues : x_in (.code yX4_tellValues cX4_tellValues 5 none) := ⟨List.mem_of_getElem? (i := 475) (by decide +kernel), Or.inl (by decide +kernel)⟩
theorem qc_X4 : x_in (.initialized RX4) := ⟨List.mem_of_getElem? (i := 85) (by decide +kernel), Or.inl (by decide +kernel)⟩
theorem qi_X4_tellValues : x_in (.instanceMethod yX4_tellValues) := ⟨List.mem_of_getElem? (i := 474) (by decide +kernel), Or.inl (by decide +kernel)⟩
theorem qs_X4_tellValues : x_in (.selects RX4 yX4_tellValues yX4_tellValues) := ⟨List.mem_of_getElem? (i := 0) (by decide +kernel), Or.inl (by decide +kernel)⟩
theorem qm_X4_60 : x_in (.methodLink RX4 60 yX4_holds) := ⟨List.mem_of_getElem? (i := 477) (by decide +kernel), Or.inl (by decide +kernel)⟩
theorem qd_X4_holds : x_in (.code yX4_holds cX4_holds 11 (some .boolean)) := ⟨List.mem_of_getElem? (i := 480) (by decide +kernel), Or.inl (by decide +kernel)⟩
theorem qi_X4_holds : x_in (.instanceMethod yX4_holds) := ⟨List.mem_of_getElem? (i := 479) (by decide +kernel), Or.inl (by decide +kernel)⟩
theorem qs_X4_holds : x_in (.selects RX4 yX4_holds yX4_holds) := ⟨List.mem_of_getElem? (i := 1) (by decide +kernel), Or.inl (by decide +kernel)⟩
theorem qf_X5_15 : x_in (x_fl false RX5 15 RX5 TX5 1) := ⟨List.mem_of_getElem? (i := 319) (by decide +kernel), Or.inl (by decide +kernel)⟩
theorem qf_X5_23 : x_in (x_fl false RX5 23 RX5 TX5 2) := ⟨List.mem_of_getElem? (i := 320) (by decide +kernel), Or.inl (by decide +kernel)⟩
theorem qf_X5_9 : x_in (x_fl false RX5 9 RX5 TX5 0) := ⟨List.mem_of_getElem? (i := 318) (by decide +kernel), Or.inl (by decide +kernel)⟩
theorem qm_X5_19 : x_in (.methodLinkNest RX5 19 yX9_within "LakeBooks") := ⟨List.mem_of_getElem? (i := 515) (by decide +kernel), Or.inr (by decide +kernel)⟩
theorem qm_X5_81 : x_in (.methodLinkNest RX5 81 yX9_at "LakeBooks") := ⟨List.mem_of_getElem? (i := 555) (by decide +kernel), Or.inr (by decide +kernel)⟩
theorem qm_X5_75 : x_in (.methodLink RX5 75 Lib.Math.max.name) := ⟨List.mem_of_getElem? (i := 594) (by decide +kernel), Or.inl (by decide +kernel)⟩
theorem qm_X5_71 : x_in (.methodLink RX5 71 yJ0_length_8abf5) := ⟨List.mem_of_getElem? (i := 545) (by decide +kernel), Or.inl (by decide +kernel)⟩
theorem qm_X5_85 : x_in (.methodLink RX5 85 yJ0_charAt_5068e) := ⟨List.mem_of_getElem? (i := 556) (by decide +kernel), Or.inl (by decide +kernel)⟩
theorem qd_J0_charAt_5068e : x_in (.code yJ0_charAt_5068e cJ0_charAt_5068e 2 (some .char)) := ⟨List.mem_of_getElem? (i := 559) (by decide +kernel), Or.inl (by decide +kernel)⟩
theorem qi_J0_charAt_5068e : x_in (.instanceMethod yJ0_charAt_5068e) := ⟨List.mem_of_getElem? (i := 557) (by decide +kernel), Or.inl (by decide +kernel)⟩
theorem qs_J0_charAt_5068e : x_in (.selects RJ0 yJ0_charAt_5068e yJ0_charAt_5068e) := ⟨List.mem_of_getElem? (i := 558) (by decide +kernel), Or.inl (by decide +kernel)⟩
theorem qm_X5_110 : x_in (.methodLink RX5 110 yJ0_indexOf_0f7a4) := ⟨List.mem_of_getElem? (i := 629) (by decide +kernel), Or.inl (by decide +kernel)⟩
theorem qd_J0_indexOf_0f7a4 : x_in (.code yJ0_indexOf_0f7a4 cJ0_indexOf_0f7a4 2 (some .int)) := ⟨List.mem_of_getElem? (i := 632) (by decide +kernel), Or.inl (by decide +kernel)⟩
theorem qi_J0_indexOf_0f7a4 : x_in (.instanceMethod yJ0_indexOf_0f7a4) := ⟨List.mem_of_getElem? (i := 630) (by decide +kernel), Or.inl (by decide +kernel)⟩
theorem qs_J0_indexOf_0f7a4 : x_in (.selects RJ0 yJ0_indexOf_0f7a4 yJ0_indexOf_0f7a4) := ⟨List.mem_of_getElem? (i := 631) (by decide +kernel), Or.inl (by decide +kernel)⟩
theorem qm_X5_63 : x_in (.methodLink RX5 63 yX5_wordOf) := ⟨List.mem_of_getElem? (i := 533) (by decide +kernel), Or.inl (by decide +kernel)⟩
theorem qd_X5_wordOf : x_in (.code yX5_wordOf cX5_wordOf 1 (some (.object "java/lang/String"))) := ⟨List.mem_of_getElem? (i := 535) (by decide +kernel), Or.inl (by decide +kernel)⟩
theorem qc_X5 : x_in (.initialized RX5) := ⟨List.mem_of_getElem? (i := 88) (by decide +kernel), Or.inl (by decide +kernel)⟩
theorem qt_X5_wordOf : x_in (.static yX5_wordOf) := ⟨List.mem_of_getElem? (i := 534) (by decide +kernel), Or.inl (by decide +kernel)⟩
theorem qm_X5_67 : x_in (.methodLink RX5 67 yX5_sameSigns) := ⟨List.mem_of_getElem? (i := 541) (by decide +kernel), Or.inl (by decide +kernel)⟩
theorem qd_X5_sameSigns : x_in (.code yX5_sameSigns cX5_sameSigns 3 (some .int)) := ⟨List.mem_of_getElem? (i := 544) (by decide +kernel), Or.inl (by decide +kernel)⟩
theorem qi_X5_sameSigns : x_in (.instanceMethod yX5_sameSigns) := ⟨List.mem_of_getElem? (i := 543) (by decide +kernel), Or.inl (by decide +kernel)⟩
theorem qs_X5_sameSigns : x_in (.selects RX5 yX5_sameSigns yX5_sameSigns) := ⟨List.mem_of_getElem? (i := 4) (by decide +kernel), Or.inl (by decide +kernel)⟩
theorem qm_X5_105 : x_in (.methodLink RX5 105 yX5_takeOneOf) := ⟨List.mem_of_getElem? (i := 625) (by decide +kernel), Or.inl (by decide +kernel)⟩
theorem qd_X5_takeOneOf : x_in (.code yX5_takeOneOf cX5_takeOneOf 3 (some .int)) := ⟨List.mem_of_getElem? (i := 628) (by decide +kernel), Or.inl (by decide +kernel)⟩
theorem qi_X5_takeOneOf : x_in (.instanceMethod yX5_takeOneOf) := ⟨List.mem_of_getElem? (i := 627) (by decide +kernel), Or.inl (by decide +kernel)⟩
theorem qs_X5_takeOneOf : x_in (.selects RX5 yX5_takeOneOf yX5_takeOneOf) := ⟨List.mem_of_getElem? (i := 10) (by decide +kernel), Or.inl (by decide +kernel)⟩
theorem qm_X5_92 : x_in (.methodLink RX5 92 yX4_put) := ⟨List.mem_of_getElem? (i := 615) (by decide +kernel), Or.inl (by decide +kernel)⟩
theorem qd_X4_put : x_in (.code yX4_put cX4_put 2 none) := ⟨List.mem_of_getElem? (i := 618) (by decide +kernel), Or.inl (by decide +kernel)⟩
theorem qi_X4_put : x_in (.instanceMethod yX4_put) := ⟨List.mem_of_getElem? (i := 616) (by decide +kernel), Or.inl (by decide +kernel)⟩
theorem qs_X4_put : x_in (.selects RX4 yX4_put yX4_put) := ⟨List.mem_of_getElem? (i := 617) (by decide +kernel), Or.inl (by decide +kernel)⟩
theorem qm_X5_39 : x_in (.methodLink RX5 39 yX5_takeNumber) := ⟨List.mem_of_getElem? (i := 595) (by decide +kernel), Or.inl (by decide +kernel)⟩
theorem qd_X5_takeNumber : x_in (.code yX5_takeNumber cX5_takeNumber 4 (some .int)) := ⟨List.mem_of_getElem? (i := 598) (by decide +kernel), Or.inl (by decide +kernel)⟩
theorem qi_X5_takeNumber : x_in (.instanceMethod yX5_takeNumber) := ⟨List.mem_of_getElem? (i := 597) (by decide +kernel), Or.inl (by decide +kernel)⟩
theorem qs_X5_takeNumber : x_in (.selects RX5 yX5_takeNumber yX5_takeNumber) := ⟨List.mem_of_getElem? (i := 5) (by decide +kernel), Or.inl (by decide +kernel)⟩
theorem qm_X5_89 : x_in (.methodLink RX5 89 yX5_takeBoth) := ⟨List.mem_of_getElem? (i := 607) (by decide +kernel), Or.inl (by decide +kernel)⟩
theorem qd_X5_takeBoth : x_in (.code yX5_takeBoth cX5_takeBoth 4 (some .boolean)) := ⟨List.mem_of_getElem? (i := 610) (by decide +kernel), Or.inl (by decide +kernel)⟩
theorem qi_X5_takeBoth : x_in (.instanceMethod yX5_takeBoth) := ⟨List.mem_of_getElem? (i := 609) (by decide +kernel), Or.inl (by decide +kernel)⟩
theorem qs_X5_takeBoth : x_in (.selects RX5 yX5_takeBoth yX5_takeBoth) := ⟨List.mem_of_getElem? (i := 7) (by decide +kernel), Or.inl (by decide +kernel)⟩
theorem qm_X5_31 : x_in (.methodLink RX5 31 yX5_take) := ⟨List.mem_of_getElem? (i := 525) (by decide +kernel), Or.inl (by decide +kernel)⟩
theorem qd_X5_take : x_in (.code yX5_take cX5_take 2 (some .boolean)) := ⟨List.mem_of_getElem? (i := 528) (by decide +kernel), Or.inl (by decide +kernel)⟩
theorem qi_X5_take : x_in (.instanceMethod yX5_take) := ⟨List.mem_of_getElem? (i := 527) (by decide +kernel), Or.inl (by decide +kernel)⟩
theorem qs_X5_take : x_in (.selects RX5 yX5_take yX5_take) := ⟨List.mem_of_getElem? (i := 2) (by decide +kernel), Or.inl (by decide +kernel)⟩
theorem qm_X5_96 : x_in (.methodLink RX5 96 yX5_takeFactor) := ⟨List.mem_of_getElem? (i := 611) (by decide +kernel), Or.inl (by decide +kernel)⟩
theorem qd_X5_takeFactor : x_in (.code yX5_takeFactor cX5_takeFactor 3 (some .boolean)) := ⟨List.mem_of_getElem? (i := 614) (by decide +kernel), Or.inl (by decide +kernel)⟩
theorem qi_X5_takeFactor : x_in (.instanceMethod yX5_takeFactor) := ⟨List.mem_of_getElem? (i := 613) (by decide +kernel), Or.inl (by decide +kernel)⟩
theorem qs_X5_takeFactor : x_in (.selects RX5 yX5_takeFactor yX5_takeFactor) := ⟨List.mem_of_getElem? (i := 8) (by decide +kernel), Or.inl (by decide +kernel)⟩
theorem qm_X5_99 : x_in (.methodLink RX5 99 yX5_takeTest) := ⟨List.mem_of_getElem? (i := 620) (by decide +kernel), Or.inl (by decide +kernel)⟩
theorem qd_X5_takeTest : x_in (.code yX5_takeTest cX5_takeTest 5 (some .boolean)) := ⟨List.mem_of_getElem? (i := 623) (by decide +kernel), Or.inl (by decide +kernel)⟩
theorem qi_X5_takeTest : x_in (.instanceMethod yX5_takeTest) := ⟨List.mem_of_getElem? (i := 622) (by decide +kernel), Or.inl (by decide +kernel)⟩
theorem qs_X5_takeTest : x_in (.selects RX5 yX5_takeTest yX5_takeTest) := ⟨List.mem_of_getElem? (i := 9) (by decide +kernel), Or.inl (by decide +kernel)⟩
theorem qm_X5_46 : x_in (.methodLink RX5 46 yX5_takeEither) := ⟨List.mem_of_getElem? (i := 603) (by decide +kernel), Or.inl (by decide +kernel)⟩
theorem qd_X5_takeEither : x_in (.code yX5_takeEither cX5_takeEither 4 (some .boolean)) := ⟨List.mem_of_getElem? (i := 606) (by decide +kernel), Or.inl (by decide +kernel)⟩
theorem qi_X5_takeEither : x_in (.instanceMethod yX5_takeEither) := ⟨List.mem_of_getElem? (i := 605) (by decide +kernel), Or.inl (by decide +kernel)⟩
theorem qs_X5_takeEither : x_in (.selects RX5 yX5_takeEither yX5_takeEither) := ⟨List.mem_of_getElem? (i := 6) (by decide +kernel), Or.inl (by decide +kernel)⟩
theorem qm_X5_26 : x_in (.methodLink RX5 26 yX4_clear) := ⟨List.mem_of_getElem? (i := 524) (by decide +kernel), Or.inl (by decide +kernel)⟩
theorem qd_X4_clear : x_in (.code yX4_clear cX4_clear 1 none) := ⟨List.mem_of_getElem? (i := 156) (by decide +kernel), Or.inl (by decide +kernel)⟩
theorem qi_X4_clear : x_in (.instanceMethod yX4_clear) := ⟨List.mem_of_getElem? (i := 154) (by decide +kernel), Or.inl (by decide +kernel)⟩
theorem qs_X4_clear : x_in (.selects RX4 yX4_clear yX4_clear) := ⟨List.mem_of_getElem? (i := 155) (by decide +kernel), Or.inl (by decide +kernel)⟩
theorem qm_X5_35 : x_in (.methodLink RX5 35 yX5_takeWord) := ⟨List.mem_of_getElem? (i := 529) (by decide +kernel), Or.inl (by decide +kernel)⟩
theorem qd_X5_takeWord : x_in (.code yX5_takeWord cX5_takeWord 5 (some .int)) := ⟨List.mem_of_getElem? (i := 532) (by decide +kernel), Or.inl (by decide +kernel)⟩
theorem qi_X5_takeWord : x_in (.instanceMethod yX5_takeWord) := ⟨List.mem_of_getElem? (i := 531) (by decide +kernel), Or.inl (by decide +kernel)⟩
theorem qs_X5_takeWord : x_in (.selects RX5 yX5_takeWord yX5_takeWord) := ⟨List.mem_of_getElem? (i := 3) (by decide +kernel), Or.inl (by decide +kernel)⟩
theorem qm_X5_42 : x_in (.methodLink RX5 42 yX4_tell) := ⟨List.mem_of_getElem? (i := 599) (by decide +kernel), Or.inl (by decide +kernel)⟩
theorem qd_X4_tell : x_in (.code yX4_tell cX4_tell 3 none) := ⟨List.mem_of_getElem? (i := 602) (by decide +kernel), Or.inl (by decide +kernel)⟩
theorem qi_X4_tell : x_in (.instanceMethod yX4_tell) := ⟨List.mem_of_getElem? (i := 600) (by decide +kernel), Or.inl (by decide +kernel)⟩
theorem qs_X4_tell : x_in (.selects RX4 yX4_tell yX4_tell) := ⟨List.mem_of_getElem? (i := 601) (by decide +kernel), Or.inl (by decide +kernel)⟩
theorem qm_X5_50 : x_in (.methodLink RX5 50 yX4_close) := ⟨List.mem_of_getElem? (i := 685) (by decide +kernel), Or.inl (by decide +kernel)⟩
theorem qd_X4_close : x_in (.code yX4_close cX4_close 3 none) := ⟨List.mem_of_getElem? (i := 688) (by decide +kernel), Or.inl (by decide +kernel)⟩
theorem qi_X4_close : x_in (.instanceMethod yX4_close) := ⟨List.mem_of_getElem? (i := 686) (by decide +kernel), Or.inl (by decide +kernel)⟩
theorem qs_X4_close : x_in (.selects RX4 yX4_close yX4_close) := ⟨List.mem_of_getElem? (i := 687) (by decide +kernel), Or.inl (by decide +kernel)⟩
theorem qf_X7_46 : x_in (x_fl false RX7 46 RX7 TX7 7) := ⟨List.mem_of_getElem? (i := 263) (by decide +kernel), Or.inl (by decide +kernel)⟩
theorem qm_X7_130 : x_in (.methodLink RX7 130 Lib.Math.max.name) := ⟨List.mem_of_getElem? (i := 723) (by decide +kernel), Or.inl (by decide +kernel)⟩
theorem qf_X7_116 : x_in (x_fl true RX7 116 RX0 TX0 8) := ⟨List.mem_of_getElem? (i := 223) (by decide +kernel), Or.inr (by decide +kernel)⟩
theorem qf_X7_69 : x_in (x_fl true RX7 69 RX0 TX0 5) := ⟨List.mem_of_getElem? (i := 214) (by decide +kernel), Or.inr (by decide +kernel)⟩
theorem qk_X7_145 : x_in (.constant RX7 145 (99999)) := ⟨List.mem_of_getElem? (i := 728) (by decide +kernel), Or.inl (by decide +kernel)⟩
theorem qf_X7_146 : x_in (x_fl false RX7 146 RX7 TX7 8) := ⟨List.mem_of_getElem? (i := 267) (by decide +kernel), Or.inl (by decide +kernel)⟩
theorem qm_X7_149 : x_in (.methodLink RX7 149 Lib.Math.min.name) := ⟨List.mem_of_getElem? (i := 729) (by decide +kernel), Or.inl (by decide +kernel)⟩
theorem qf_X7_54 : x_in (x_fl false RX7 54 RX7 TX7 6) := ⟨List.mem_of_getElem? (i := 260) (by decide +kernel), Or.inl (by decide +kernel)⟩
theorem qf_X7_20 : x_in (x_fl false RX7 20 RX7 TX7 1) := ⟨List.mem_of_getElem? (i := 249) (by decide +kernel), Or.inl (by decide +kernel)⟩
theorem qf_X7_103 : x_in (x_fl true RX7 103 RX0 TX0 9) := ⟨List.mem_of_getElem? (i := 224) (by decide +kernel), Or.inr (by decide +kernel)⟩
theorem qf_X7_12 : x_in (x_fl false RX7 12 RX7 TX7 0) := ⟨List.mem_of_getElem? (i := 247) (by decide +kernel), Or.inl (by decide +kernel)⟩
theorem qm_X7_76 : x_in (.methodLink RX7 76 yX3_levelOf) := ⟨List.mem_of_getElem? (i := 451) (by decide +kernel), Or.inl (by decide +kernel)⟩
theorem qd_X3_levelOf : x_in (.code yX3_levelOf cX3_levelOf 8 (some .int)) := ⟨List.mem_of_getElem? (i := 454) (by decide +kernel), Or.inl (by decide +kernel)⟩
theorem qc_X3 : x_in (.initialized RX3) := ⟨List.mem_of_getElem? (i := 82) (by decide +kernel), Or.inl (by decide +kernel)⟩
theorem qi_X3_levelOf : x_in (.instanceMethod yX3_levelOf) := ⟨List.mem_of_getElem? (i := 452) (by decide +kernel), Or.inl (by decide +kernel)⟩
theorem qs_X3_levelOf : x_in (.selects RX3 yX3_levelOf yX3_levelOf) := ⟨List.mem_of_getElem? (i := 453) (by decide +kernel), Or.inl (by decide +kernel)⟩
theorem qm_X7_72 : x_in (.methodLink RX7 72 yX0_lifts) := ⟨List.mem_of_getElem? (i := 450) (by decide +kernel), Or.inl (by decide +kernel)⟩
theorem qd_X0_lifts : x_in (.code yX0_lifts cX0_lifts 1 (some .int)) := ⟨List.mem_of_getElem? (i := 445) (by decide +kernel), Or.inl (by decide +kernel)⟩
theorem qc_X0 : x_in (.initialized RX0) := ⟨List.mem_of_getElem? (i := 86) (by decide +kernel), Or.inl (by decide +kernel)⟩
theorem qi_X0_lifts : x_in (.instanceMethod yX0_lifts) := ⟨List.mem_of_getElem? (i := 443) (by decide +kernel), Or.inl (by decide +kernel)⟩
theorem qs_X0_lifts : x_in (.selects RX0 yX0_lifts yX0_lifts) := ⟨List.mem_of_getElem? (i := 444) (by decide +kernel), Or.inl (by decide +kernel)⟩
theorem qm_X7_65 : x_in (.methodLink RX7 65 yX7_find) := ⟨List.mem_of_getElem? (i := 765) (by decide +kernel), Or.inl (by decide +kernel)⟩
theorem qd_X7_find : x_in (.code yX7_find cX7_find 2 (some (.object "LakeBooks$Account"))) := ⟨List.mem_of_getElem? (i := 441) (by decide +kernel), Or.inl (by decide +kernel)⟩
theorem qc_X7 : x_in (.initialized RX7) := ⟨List.mem_of_getElem? (i := 81) (by decide +kernel), Or.inl (by decide +kernel)⟩
theorem qi_X7_find : x_in (.instanceMethod yX7_find) := ⟨List.mem_of_getElem? (i := 439) (by decide +kernel), Or.inl (by decide +kernel)⟩
theorem qs_X7_find : x_in (.selects RX7 yX7_find yX7_find) := ⟨List.mem_of_getElem? (i := 440) (by decide +kernel), Or.inl (by decide +kernel)⟩
theorem qm_X7_57 : x_in (.methodLinkNest RX7 57 yX9_within "LakeBooks") := ⟨List.mem_of_getElem? (i := 429) (by decide +kernel), Or.inr (by decide +kernel)⟩
theorem qm_X7_61 : x_in (.methodLink RX7 61 yX0_open) := ⟨List.mem_of_getElem? (i := 430) (by decide +kernel), Or.inl (by decide +kernel)⟩
theorem qd_X0_open : x_in (.code yX0_open cX0_open 5 none) := ⟨List.mem_of_getElem? (i := 433) (by decide +kernel), Or.inl (by decide +kernel)⟩
theorem qi_X0_open : x_in (.instanceMethod yX0_open) := ⟨List.mem_of_getElem? (i := 431) (by decide +kernel), Or.inl (by decide +kernel)⟩
theorem qs_X0_open : x_in (.selects RX0 yX0_open yX0_open) := ⟨List.mem_of_getElem? (i := 432) (by decide +kernel), Or.inl (by decide +kernel)⟩
theorem qm_X7_152 : x_in (.methodLink RX7 152 yX3_copyFrom) := ⟨List.mem_of_getElem? (i := 747) (by decide +kernel), Or.inl (by decide +kernel)⟩
theorem qd_X3_copyFrom : x_in (.code yX3_copyFrom cX3_copyFrom 3 none) := ⟨List.mem_of_getElem? (i := 750) (by decide +kernel), Or.inl (by decide +kernel)⟩
theorem qi_X3_copyFrom : x_in (.instanceMethod yX3_copyFrom) := ⟨List.mem_of_getElem? (i := 748) (by decide +kernel), Or.inl (by decide +kernel)⟩
theorem qs_X3_copyFrom : x_in (.selects RX3 yX3_copyFrom yX3_copyFrom) := ⟨List.mem_of_getElem? (i := 749) (by decide +kernel), Or.inl (by decide +kernel)⟩
theorem qm_X7_156 : x_in (.methodLink RX7 156 yX0_copyFrom) := ⟨List.mem_of_getElem? (i := 751) (by decide +kernel), Or.inl (by decide +kernel)⟩
theorem qd_X0_copyFrom : x_in (.code yX0_copyFrom cX0_copyFrom 3 none) := ⟨List.mem_of_getElem? (i := 754) (by decide +kernel), Or.inl (by decide +kernel)⟩
theorem qi_X0_copyFrom : x_in (.instanceMethod yX0_copyFrom) := ⟨List.mem_of_getElem? (i := 752) (by decide +kernel), Or.inl (by decide +kernel)⟩
theorem qs_X0_copyFrom : x_in (.selects RX0 yX0_copyFrom yX0_copyFrom) := ⟨List.mem_of_getElem? (i := 753) (by decide +kernel), Or.inl (by decide +kernel)⟩
theorem qf_X7_29 : x_in (x_fl false RX7 29 RX7 TX7 2) := ⟨List.mem_of_getElem? (i := 250) (by decide +kernel), Or.inl (by decide +kernel)⟩
theorem qm_X7_159 : x_in (.methodLink RX7 159 yX6_copyFrom) := ⟨List.mem_of_getElem? (i := 755) (by decide +kernel), Or.inl (by decide +kernel)⟩
theorem qd_X6_copyFrom : x_in (.code yX6_copyFrom cX6_copyFrom 3 none) := ⟨List.mem_of_getElem? (i := 758) (by decide +kernel), Or.inl (by decide +kernel)⟩
theorem qc_X6 : x_in (.initialized RX6) := ⟨List.mem_of_getElem? (i := 83) (by decide +kernel), Or.inl (by decide +kernel)⟩
theorem qi_X6_copyFrom : x_in (.instanceMethod yX6_copyFrom) := ⟨List.mem_of_getElem? (i := 756) (by decide +kernel), Or.inl (by decide +kernel)⟩
theorem qs_X6_copyFrom : x_in (.selects RX6 yX6_copyFrom yX6_copyFrom) := ⟨List.mem_of_getElem? (i := 757) (by decide +kernel), Or.inl (by decide +kernel)⟩
theorem qf_X7_33 : x_in (x_fl false RX7 33 RX7 TX7 3) := ⟨List.mem_of_getElem? (i := 253) (by decide +kernel), Or.inl (by decide +kernel)⟩
theorem qf_X7_36 : x_in (x_fl false RX7 36 RX7 TX7 4) := ⟨List.mem_of_getElem? (i := 256) (by decide +kernel), Or.inl (by decide +kernel)⟩
theorem qf_X7_42 : x_in (x_fl false RX7 42 RX7 TX7 5) := ⟨List.mem_of_getElem? (i := 258) (by decide +kernel), Or.inl (by decide +kernel)⟩
theorem qf_X7_80 : x_in (x_fl false RX7 80 RX7 TX7 9) := ⟨List.mem_of_getElem? (i := 269) (by decide +kernel), Or.inl (by decide +kernel)⟩
theorem qf_X7_83 : x_in (x_fl false RX7 83 RX7 TX7 10) := ⟨List.mem_of_getElem? (i := 271) (by decide +kernel), Or.inl (by decide +kernel)⟩
theorem qf_X7_50 : x_in (x_fl false RX7 50 RX7 TX7 11) := ⟨List.mem_of_getElem? (i := 273) (by decide +kernel), Or.inl (by decide +kernel)⟩
theorem qm_X7_94 : x_in (.methodLink RX7 94 yX7_level) := ⟨List.mem_of_getElem? (i := 714) (by decide +kernel), Or.inl (by decide +kernel)⟩
theorem qd_X7_level : x_in (.code yX7_level cX7_level 6 (some .int)) := ⟨List.mem_of_getElem? (i := 449) (by decide +kernel), Or.inl (by decide +kernel)⟩
theorem qi_X7_level : x_in (.instanceMethod yX7_level) := ⟨List.mem_of_getElem? (i := 447) (by decide +kernel), Or.inl (by decide +kernel)⟩
theorem qs_X7_level : x_in (.selects RX7 yX7_level yX7_level) := ⟨List.mem_of_getElem? (i := 448) (by decide +kernel), Or.inl (by decide +kernel)⟩
theorem qf_X7_97 : x_in (x_fl true RX7 97 RX4 TX4 8) := ⟨List.mem_of_getElem? (i := 168) (by decide +kernel), Or.inr (by decide +kernel)⟩
theorem qm_X7_100 : x_in (.methodLink RX7 100 yX7_bucketsOf) := ⟨List.mem_of_getElem? (i := 799) (by decide +kernel), Or.inl (by decide +kernel)⟩
theorem qd_X7_bucketsOf : x_in (.code yX7_bucketsOf cX7_bucketsOf 3 (some .int)) := ⟨List.mem_of_getElem? (i := 764) (by decide +kernel), Or.inl (by decide +kernel)⟩
theorem qi_X7_bucketsOf : x_in (.instanceMethod yX7_bucketsOf) := ⟨List.mem_of_getElem? (i := 762) (by decide +kernel), Or.inl (by decide +kernel)⟩
theorem qs_X7_bucketsOf : x_in (.selects RX7 yX7_bucketsOf yX7_bucketsOf) := ⟨List.mem_of_getElem? (i := 763) (by decide +kernel), Or.inl (by decide +kernel)⟩
theorem qm_X7_86 : x_in (.methodLink RX7 86 yX4_together) := ⟨List.mem_of_getElem? (i := 468) (by decide +kernel), Or.inl (by decide +kernel)⟩
theorem qd_X4_together : x_in (.code yX4_together cX4_together 8 (some .int)) := ⟨List.mem_of_getElem? (i := 471) (by decide +kernel), Or.inl (by decide +kernel)⟩
theorem qi_X4_together : x_in (.instanceMethod yX4_together) := ⟨List.mem_of_getElem? (i := 469) (by decide +kernel), Or.inl (by decide +kernel)⟩
theorem qs_X4_together : x_in (.selects RX4 yX4_together yX4_together) := ⟨List.mem_of_getElem? (i := 470) (by decide +kernel), Or.inl (by decide +kernel)⟩
theorem qf_X7_90 : x_in (x_fl true RX7 90 RX0 TX0 2) := ⟨List.mem_of_getElem? (i := 204) (by decide +kernel), Or.inr (by decide +kernel)⟩
theorem qm_X7_106 : x_in (.methodLink RX7 106 yX7_spring) := ⟨List.mem_of_getElem? (i := 715) (by decide +kernel), Or.inl (by decide +kernel)⟩
theorem qd_X7_spring : x_in (.code yX7_spring cX7_spring 2 (some .int)) := ⟨List.mem_of_getElem? (i := 701) (by decide +kernel), Or.inl (by decide +kernel)⟩
theorem qi_X7_spring : x_in (.instanceMethod yX7_spring) := ⟨List.mem_of_getElem? (i := 699) (by decide +kernel), Or.inl (by decide +kernel)⟩
theorem qs_X7_spring : x_in (.selects RX7 yX7_spring yX7_spring) := ⟨List.mem_of_getElem? (i := 700) (by decide +kernel), Or.inl (by decide +kernel)⟩
theorem qf_X7_109 : x_in (x_fl true RX7 109 RX4 TX4 9) := ⟨List.mem_of_getElem? (i := 172) (by decide +kernel), Or.inr (by decide +kernel)⟩
theorem qm_X7_112 : x_in (.methodLink RX7 112 yX0_pours) := ⟨List.mem_of_getElem? (i := 716) (by decide +kernel), Or.inl (by decide +kernel)⟩
theorem qd_X0_pours : x_in (.code yX0_pours cX0_pours 4 (some .int)) := ⟨List.mem_of_getElem? (i := 458) (by decide +kernel), Or.inl (by decide +kernel)⟩
theorem qi_X0_pours : x_in (.instanceMethod yX0_pours) := ⟨List.mem_of_getElem? (i := 456) (by decide +kernel), Or.inl (by decide +kernel)⟩
theorem qs_X0_pours : x_in (.selects RX0 yX0_pours yX0_pours) := ⟨List.mem_of_getElem? (i := 457) (by decide +kernel), Or.inl (by decide +kernel)⟩
theorem qm_X7_119 : x_in (.methodLink RX7 119 yX7_sunOf) := ⟨List.mem_of_getElem? (i := 717) (by decide +kernel), Or.inl (by decide +kernel)⟩
theorem qd_X7_sunOf : x_in (.code yX7_sunOf cX7_sunOf 3 (some .int)) := ⟨List.mem_of_getElem? (i := 467) (by decide +kernel), Or.inl (by decide +kernel)⟩
theorem qi_X7_sunOf : x_in (.instanceMethod yX7_sunOf) := ⟨List.mem_of_getElem? (i := 465) (by decide +kernel), Or.inl (by decide +kernel)⟩
theorem qs_X7_sunOf : x_in (.selects RX7 yX7_sunOf yX7_sunOf) := ⟨List.mem_of_getElem? (i := 466) (by decide +kernel), Or.inl (by decide +kernel)⟩
theorem qm_X7_123 : x_in (.methodLink RX7 123 yX3_volumeOf) := ⟨List.mem_of_getElem? (i := 718) (by decide +kernel), Or.inl (by decide +kernel)⟩
theorem qd_X3_volumeOf : x_in (.code yX3_volumeOf cX3_volumeOf 9 (some .int)) := ⟨List.mem_of_getElem? (i := 413) (by decide +kernel), Or.inl (by decide +kernel)⟩
theorem qi_X3_volumeOf : x_in (.instanceMethod yX3_volumeOf) := ⟨List.mem_of_getElem? (i := 411) (by decide +kernel), Or.inl (by decide +kernel)⟩
theorem qs_X3_volumeOf : x_in (.selects RX3 yX3_volumeOf yX3_volumeOf) := ⟨List.mem_of_getElem? (i := 412) (by decide +kernel), Or.inl (by decide +kernel)⟩
theorem qm_X7_126 : x_in (.methodLink RX7 126 yX7_pourBy) := ⟨List.mem_of_getElem? (i := 719) (by decide +kernel), Or.inl (by decide +kernel)⟩
theorem qd_X7_pourBy : x_in (.code yX7_pourBy cX7_pourBy 5 none) := ⟨List.mem_of_getElem? (i := 722) (by decide +kernel), Or.inl (by decide +kernel)⟩
theorem qi_X7_pourBy : x_in (.instanceMethod yX7_pourBy) := ⟨List.mem_of_getElem? (i := 721) (by decide +kernel), Or.inl (by decide +kernel)⟩
theorem qs_X7_pourBy : x_in (.selects RX7 yX7_pourBy yX7_pourBy) := ⟨List.mem_of_getElem? (i := 11) (by decide +kernel), Or.inl (by decide +kernel)⟩
theorem qf_X7_136 : x_in (x_fl true RX7 136 RX4 TX4 7) := ⟨List.mem_of_getElem? (i := 166) (by decide +kernel), Or.inr (by decide +kernel)⟩
theorem qm_X7_139 : x_in (.methodLink RX7 139 yX7_spillTo) := ⟨List.mem_of_getElem? (i := 724) (by decide +kernel), Or.inl (by decide +kernel)⟩
theorem qd_X7_spillTo : x_in (.code yX7_spillTo cX7_spillTo 2 none) := ⟨List.mem_of_getElem? (i := 727) (by decide +kernel), Or.inl (by decide +kernel)⟩
theorem qi_X7_spillTo : x_in (.instanceMethod yX7_spillTo) := ⟨List.mem_of_getElem? (i := 726) (by decide +kernel), Or.inl (by decide +kernel)⟩
theorem qs_X7_spillTo : x_in (.selects RX7 yX7_spillTo yX7_spillTo) := ⟨List.mem_of_getElem? (i := 12) (by decide +kernel), Or.inl (by decide +kernel)⟩
theorem qm_X7_142 : x_in (.methodLink RX7 142 yX0_holdBuckets) := ⟨List.mem_of_getElem? (i := 730) (by decide +kernel), Or.inl (by decide +kernel)⟩
theorem qd_X0_holdBuckets : x_in (.code yX0_holdBuckets cX0_holdBuckets 1 none) := ⟨List.mem_of_getElem? (i := 733) (by decide +kernel), Or.inl (by decide +kernel)⟩
theorem qi_X0_holdBuckets : x_in (.instanceMethod yX0_holdBuckets) := ⟨List.mem_of_getElem? (i := 731) (by decide +kernel), Or.inl (by decide +kernel)⟩
theorem qs_X0_holdBuckets : x_in (.selects RX0 yX0_holdBuckets yX0_holdBuckets) := ⟨List.mem_of_getElem? (i := 732) (by decide +kernel), Or.inl (by decide +kernel)⟩
theorem qf_X2_12 : x_in (x_fl false RX2 12 RX2 TX2 0) := ⟨List.mem_of_getElem? (i := 308) (by decide +kernel), Or.inl (by decide +kernel)⟩
theorem qf_X2_118 : x_in (x_fl true RX2 118 RX7 TX7 2) := ⟨List.mem_of_getElem? (i := 251) (by decide +kernel), Or.inr (by decide +kernel)⟩
theorem qm_X2_29 : x_in (.methodLink RX2 29 yX6_size) := ⟨List.mem_of_getElem? (i := 909) (by decide +kernel), Or.inl (by decide +kernel)⟩
theorem qd_X6_size : x_in (.code yX6_size cX6_size 1 (some .int)) := ⟨List.mem_of_getElem? (i := 912) (by decide +kernel), Or.inl (by decide +kernel)⟩
theorem qi_X6_size : x_in (.instanceMethod yX6_size) := ⟨List.mem_of_getElem? (i := 910) (by decide +kernel), Or.inl (by decide +kernel)⟩
theorem qs_X6_size : x_in (.selects RX6 yX6_size yX6_size) := ⟨List.mem_of_getElem? (i := 911) (by decide +kernel), Or.inl (by decide +kernel)⟩
theorem qm_X2_35 : x_in (.methodLink RX2 35 yX6_first) := ⟨List.mem_of_getElem? (i := 913) (by decide +kernel), Or.inl (by decide +kernel)⟩
theorem qd_X6_first : x_in (.code yX6_first cX6_first 2 (some .int)) := ⟨List.mem_of_getElem? (i := 916) (by decide +kernel), Or.inl (by decide +kernel)⟩
theorem qi_X6_first : x_in (.instanceMethod yX6_first) := ⟨List.mem_of_getElem? (i := 914) (by decide +kernel), Or.inl (by decide +kernel)⟩
theorem qs_X6_first : x_in (.selects RX6 yX6_first yX6_first) := ⟨List.mem_of_getElem? (i := 915) (by decide +kernel), Or.inl (by decide +kernel)⟩
theorem qm_X2_121 : x_in (.methodLink RX2 121 Lib.Math.max.name) := ⟨List.mem_of_getElem? (i := 917) (by decide +kernel), Or.inl (by decide +kernel)⟩
theorem qm_X2_43 : x_in (.methodLink RX2 43 yX6_second) := ⟨List.mem_of_getElem? (i := 922) (by decide +kernel), Or.inl (by decide +kernel)⟩
theorem qd_X6_second : x_in (.code yX6_second cX6_second 2 (some .int)) := ⟨List.mem_of_getElem? (i := 925) (by decide +kernel), Or.inl (by decide +kernel)⟩
theorem qi_X6_second : x_in (.instanceMethod yX6_second) := ⟨List.mem_of_getElem? (i := 923) (by decide +kernel), Or.inl (by decide +kernel)⟩
theorem qs_X6_second : x_in (.selects RX6 yX6_second yX6_second) := ⟨List.mem_of_getElem? (i := 924) (by decide +kernel), Or.inl (by decide +kernel)⟩
theorem qm_X2_56 : x_in (.methodLink RX2 56 yX7_level) := ⟨List.mem_of_getElem? (i := 786) (by decide +kernel), Or.inl (by decide +kernel)⟩
theorem qm_X2_18 : x_in (.methodLink RX2 18 yX7_copyFrom) := ⟨List.mem_of_getElem? (i := 743) (by decide +kernel), Or.inl (by decide +kernel)⟩
theorem qd_X7_copyFrom : x_in (.code yX7_copyFrom cX7_copyFrom 3 none) := ⟨List.mem_of_getElem? (i := 746) (by decide +kernel), Or.inl (by decide +kernel)⟩
theorem qi_X7_copyFrom : x_in (.instanceMethod yX7_copyFrom) := ⟨List.mem_of_getElem? (i := 744) (by decide +kernel), Or.inl (by decide +kernel)⟩
theorem qs_X7_copyFrom : x_in (.selects RX7 yX7_copyFrom yX7_copyFrom) := ⟨List.mem_of_getElem? (i := 745) (by decide +kernel), Or.inl (by decide +kernel)⟩
theorem qm_X2_39 : x_in (.methodLink RX2 39 yX7_find) := ⟨List.mem_of_getElem? (i := 808) (by decide +kernel), Or.inl (by decide +kernel)⟩
theorem qf_X2_108 : x_in (x_fl true RX2 108 RX0 TX0 2) := ⟨List.mem_of_getElem? (i := 205) (by decide +kernel), Or.inr (by decide +kernel)⟩
theorem qm_X2_22 : x_in (.methodLink RX2 22 yX7_pass) := ⟨List.mem_of_getElem? (i := 760) (by decide +kernel), Or.inl (by decide +kernel)⟩
theorem qd_X7_pass : x_in (.code yX7_pass cX7_pass 8 none) := ⟨List.mem_of_getElem? (i := 713) (by decide +kernel), Or.inl (by decide +kernel)⟩
theorem qi_X7_pass : x_in (.instanceMethod yX7_pass) := ⟨List.mem_of_getElem? (i := 711) (by decide +kernel), Or.inl (by decide +kernel)⟩
theorem qs_X7_pass : x_in (.selects RX7 yX7_pass yX7_pass) := ⟨List.mem_of_getElem? (i := 712) (by decide +kernel), Or.inl (by decide +kernel)⟩
theorem qf_X2_25 : x_in (x_fl true RX2 25 RX7 TX7 3) := ⟨List.mem_of_getElem? (i := 254) (by decide +kernel), Or.inr (by decide +kernel)⟩
theorem qf_X2_46 : x_in (x_fl true RX2 46 RX0 TX0 6) := ⟨List.mem_of_getElem? (i := 218) (by decide +kernel), Or.inr (by decide +kernel)⟩
theorem qm_X2_52 : x_in (.methodLink RX2 52 yX7_isDry) := ⟨List.mem_of_getElem? (i := 774) (by decide +kernel), Or.inl (by decide +kernel)⟩
theorem qd_X7_isDry : x_in (.code yX7_isDry cX7_isDry 1 (some .boolean)) := ⟨List.mem_of_getElem? (i := 777) (by decide +kernel), Or.inl (by decide +kernel)⟩
theorem qi_X7_isDry : x_in (.instanceMethod yX7_isDry) := ⟨List.mem_of_getElem? (i := 775) (by decide +kernel), Or.inl (by decide +kernel)⟩
theorem qs_X7_isDry : x_in (.selects RX7 yX7_isDry yX7_isDry) := ⟨List.mem_of_getElem? (i := 776) (by decide +kernel), Or.inl (by decide +kernel)⟩
theorem qm_X2_59 : x_in (.methodLink RX2 59 yX7_firstBelow) := ⟨List.mem_of_getElem? (i := 795) (by decide +kernel), Or.inl (by decide +kernel)⟩
theorem qd_X7_firstBelow : x_in (.code yX7_firstBelow cX7_firstBelow 3 (some .int)) := ⟨List.mem_of_getElem? (i := 798) (by decide +kernel), Or.inl (by decide +kernel)⟩
theorem qi_X7_firstBelow : x_in (.instanceMethod yX7_firstBelow) := ⟨List.mem_of_getElem? (i := 796) (by decide +kernel), Or.inl (by decide +kernel)⟩
theorem qs_X7_firstBelow : x_in (.selects RX7 yX7_firstBelow yX7_firstBelow) := ⟨List.mem_of_getElem? (i := 797) (by decide +kernel), Or.inl (by decide +kernel)⟩
theorem qm_X2_66 : x_in (.methodLink RX2 66 yX7_bucketsOf) := ⟨List.mem_of_getElem? (i := 821) (by decide +kernel), Or.inl (by decide +kernel)⟩
theorem qm_X9_323 : x_in (.methodLink RX9 323 yX9_commonDivisor) := ⟨List.mem_of_getElem? (i := 869) (by decide +kernel), Or.inl (by decide +kernel)⟩
theorem qd_X9_commonDivisor : x_in (.code yX9_commonDivisor cX9_commonDivisor 11 (some .long)) := ⟨List.mem_of_getElem? (i := 871) (by decide +kernel), Or.inl (by decide +kernel)⟩
theorem qt_X9_commonDivisor : x_in (.static yX9_commonDivisor) := ⟨List.mem_of_getElem? (i := 870) (by decide +kernel), Or.inl (by decide +kernel)⟩
theorem qk_X9_209 : x_in (.constantLong RX9 209 (-9223372036854775808)) := ⟨List.mem_of_getElem? (i := 857) (by decide +kernel), Or.inl (by decide +kernel)⟩
theorem qm_X2_89 : x_in (.methodLinkNest RX2 89 yX9_lowestTerms "LakeBooks") := ⟨List.mem_of_getElem? (i := 866) (by decide +kernel), Or.inr (by decide +kernel)⟩
theorem qd_X9_lowestTerms : x_in (.code yX9_lowestTerms cX9_lowestTerms 7 (some .long)) := ⟨List.mem_of_getElem? (i := 868) (by decide +kernel), Or.inl (by decide +kernel)⟩
theorem qt_X9_lowestTerms : x_in (.static yX9_lowestTerms) := ⟨List.mem_of_getElem? (i := 867) (by decide +kernel), Or.inl (by decide +kernel)⟩
theorem qf_X2_83 : x_in (x_fl true RX2 83 RX0 TX0 9) := ⟨List.mem_of_getElem? (i := 225) (by decide +kernel), Or.inr (by decide +kernel)⟩
theorem qm_X2_86 : x_in (.methodLink RX2 86 yX7_sunOfDay) := ⟨List.mem_of_getElem? (i := 862) (by decide +kernel), Or.inl (by decide +kernel)⟩
theorem qd_X7_sunOfDay : x_in (.code yX7_sunOfDay cX7_sunOfDay 6 (some .int)) := ⟨List.mem_of_getElem? (i := 865) (by decide +kernel), Or.inl (by decide +kernel)⟩
theorem qi_X7_sunOfDay : x_in (.instanceMethod yX7_sunOfDay) := ⟨List.mem_of_getElem? (i := 863) (by decide +kernel), Or.inl (by decide +kernel)⟩
theorem qs_X7_sunOfDay : x_in (.selects RX7 yX7_sunOfDay yX7_sunOfDay) := ⟨List.mem_of_getElem? (i := 864) (by decide +kernel), Or.inl (by decide +kernel)⟩
theorem qm_X2_112 : x_in (.methodLink RX2 112 yX2_lastSeen) := ⟨List.mem_of_getElem? (i := 905) (by decide +kernel), Or.inl (by decide +kernel)⟩
theorem qd_X2_lastSeen : x_in (.code yX2_lastSeen cX2_lastSeen 3 (some .int)) := ⟨List.mem_of_getElem? (i := 908) (by decide +kernel), Or.inl (by decide +kernel)⟩
theorem qc_X2 : x_in (.initialized RX2) := ⟨List.mem_of_getElem? (i := 87) (by decide +kernel), Or.inl (by decide +kernel)⟩
theorem qi_X2_lastSeen : x_in (.instanceMethod yX2_lastSeen) := ⟨List.mem_of_getElem? (i := 907) (by decide +kernel), Or.inl (by decide +kernel)⟩
theorem qs_X2_lastSeen : x_in (.selects RX2 yX2_lastSeen yX2_lastSeen) := ⟨List.mem_of_getElem? (i := 16) (by decide +kernel), Or.inl (by decide +kernel)⟩
theorem qm_X2_115 : x_in (.methodLink RX2 115 yX2_isAsSeenOn) := ⟨List.mem_of_getElem? (i := 918) (by decide +kernel), Or.inl (by decide +kernel)⟩
theorem qd_X2_isAsSeenOn : x_in (.code yX2_isAsSeenOn cX2_isAsSeenOn 3 (some .boolean)) := ⟨List.mem_of_getElem? (i := 921) (by decide +kernel), Or.inl (by decide +kernel)⟩
theorem qi_X2_isAsSeenOn : x_in (.instanceMethod yX2_isAsSeenOn) := ⟨List.mem_of_getElem? (i := 920) (by decide +kernel), Or.inl (by decide +kernel)⟩
theorem qs_X2_isAsSeenOn : x_in (.selects RX2 yX2_isAsSeenOn yX2_isAsSeenOn) := ⟨List.mem_of_getElem? (i := 17) (by decide +kernel), Or.inl (by decide +kernel)⟩
theorem qm_X2_62 : x_in (.methodLink RX2 62 yX2_staysWet) := ⟨List.mem_of_getElem? (i := 809) (by decide +kernel), Or.inl (by decide +kernel)⟩
theorem qd_X2_staysWet : x_in (.code yX2_staysWet cX2_staysWet 3 (some .boolean)) := ⟨List.mem_of_getElem? (i := 812) (by decide +kernel), Or.inl (by decide +kernel)⟩
theorem qi_X2_staysWet : x_in (.instanceMethod yX2_staysWet) := ⟨List.mem_of_getElem? (i := 811) (by decide +kernel), Or.inl (by decide +kernel)⟩
theorem qs_X2_staysWet : x_in (.selects RX2 yX2_staysWet yX2_staysWet) := ⟨List.mem_of_getElem? (i := 13) (by decide +kernel), Or.inl (by decide +kernel)⟩
theorem qm_X2_69 : x_in (.methodLink RX2 69 yX2_after) := ⟨List.mem_of_getElem? (i := 836) (by decide +kernel), Or.inl (by decide +kernel)⟩
theorem qd_X2_after : x_in (.code yX2_after cX2_after 4 (some (.object "LakeBooks$State"))) := ⟨List.mem_of_getElem? (i := 742) (by decide +kernel), Or.inl (by decide +kernel)⟩
theorem qi_X2_after : x_in (.instanceMethod yX2_after) := ⟨List.mem_of_getElem? (i := 740) (by decide +kernel), Or.inl (by decide +kernel)⟩
theorem qs_X2_after : x_in (.selects RX2 yX2_after yX2_after) := ⟨List.mem_of_getElem? (i := 741) (by decide +kernel), Or.inl (by decide +kernel)⟩
theorem qf_X2_73 : x_in (x_fl true RX2 73 RX7 TX7 7) := ⟨List.mem_of_getElem? (i := 265) (by decide +kernel), Or.inr (by decide +kernel)⟩
theorem qm_X2_76 : x_in (.methodLink RX2 76 yX2_beginWithout) := ⟨List.mem_of_getElem? (i := 837) (by decide +kernel), Or.inl (by decide +kernel)⟩
theorem qd_X2_beginWithout : x_in (.code yX2_beginWithout cX2_beginWithout 4 none) := ⟨List.mem_of_getElem? (i := 840) (by decide +kernel), Or.inl (by decide +kernel)⟩
theorem qi_X2_beginWithout : x_in (.instanceMethod yX2_beginWithout) := ⟨List.mem_of_getElem? (i := 839) (by decide +kernel), Or.inl (by decide +kernel)⟩
theorem qs_X2_beginWithout : x_in (.selects RX2 yX2_beginWithout yX2_beginWithout) := ⟨List.mem_of_getElem? (i := 14) (by decide +kernel), Or.inl (by decide +kernel)⟩
theorem qf_X2_80 : x_in (x_fl true RX2 80 RX7 TX7 10) := ⟨List.mem_of_getElem? (i := 272) (by decide +kernel), Or.inr (by decide +kernel)⟩
theorem qm_X2_96 : x_in (.methodLink RX2 96 yX2_goesAsSeen) := ⟨List.mem_of_getElem? (i := 901) (by decide +kernel), Or.inl (by decide +kernel)⟩
theorem qd_X2_goesAsSeen : x_in (.code yX2_goesAsSeen cX2_goesAsSeen 3 (some .boolean)) := ⟨List.mem_of_getElem? (i := 904) (by decide +kernel), Or.inl (by decide +kernel)⟩
theorem qi_X2_goesAsSeen : x_in (.instanceMethod yX2_goesAsSeen) := ⟨List.mem_of_getElem? (i := 903) (by decide +kernel), Or.inl (by decide +kernel)⟩
theorem qs_X2_goesAsSeen : x_in (.selects RX2 yX2_goesAsSeen yX2_goesAsSeen) := ⟨List.mem_of_getElem? (i := 15) (by decide +kernel), Or.inl (by decide +kernel)⟩
theorem qf_X2_93 : x_in (x_fl true RX2 93 RX0 TX0 7) := ⟨List.mem_of_getElem? (i := 222) (by decide +kernel), Or.inr (by decide +kernel)⟩
theorem qf_X2_99 : x_in (x_fl true RX2 99 RX7 TX7 6) := ⟨List.mem_of_getElem? (i := 261) (by decide +kernel), Or.inr (by decide +kernel)⟩
theorem qf_X2_102 : x_in (x_fl true RX2 102 RX7 TX7 9) := ⟨List.mem_of_getElem? (i := 270) (by decide +kernel), Or.inr (by decide +kernel)⟩
theorem qf_X2_105 : x_in (x_fl true RX2 105 RX7 TX7 11) := ⟨List.mem_of_getElem? (i := 274) (by decide +kernel), Or.inr (by decide +kernel)⟩
theorem qm_X9_56 : x_in (.methodLink RX9 56 yX9_within) := ⟨List.mem_of_getElem? (i := 396) (by decide +kernel), Or.inl (by decide +kernel)⟩
theorem qf_X9_12 : x_in (x_fl false RX9 12 RX9 TX9 0) := ⟨List.mem_of_getElem? (i := 364) (by decide +kernel), Or.inl (by decide +kernel)⟩
theorem qf_X9_60 : x_in (x_fl true RX9 60 RX7 TX7 0) := ⟨List.mem_of_getElem? (i := 248) (by decide +kernel), Or.inr (by decide +kernel)⟩
theorem qm_X9_70 : x_in (.methodLink RX9 70 yX3_volumeOf) := ⟨List.mem_of_getElem? (i := 410) (by decide +kernel), Or.inl (by decide +kernel)⟩
theorem qf_X9_136 : x_in (x_fl true RX9 136 RX7 TX7 7) := ⟨List.mem_of_getElem? (i := 264) (by decide +kernel), Or.inr (by decide +kernel)⟩
theorem qf_X9_43 : x_in (x_fl false RX9 43 RX9 TX9 5) := ⟨List.mem_of_getElem? (i := 369) (by decide +kernel), Or.inl (by decide +kernel)⟩
theorem qf_X9_50 : x_in (x_fl false RX9 50 RX9 TX9 6) := ⟨List.mem_of_getElem? (i := 370) (by decide +kernel), Or.inl (by decide +kernel)⟩
theorem qm_X9_293 : x_in (.methodLink RX9 293 yX1_bodyAt) := ⟨List.mem_of_getElem? (i := 1036) (by decide +kernel), Or.inl (by decide +kernel)⟩
theorem qd_X1_bodyAt : x_in (.code yX1_bodyAt cX1_bodyAt 2 (some .int)) := ⟨List.mem_of_getElem? (i := 1039) (by decide +kernel), Or.inl (by decide +kernel)⟩
theorem qi_X1_bodyAt : x_in (.instanceMethod yX1_bodyAt) := ⟨List.mem_of_getElem? (i := 1037) (by decide +kernel), Or.inl (by decide +kernel)⟩
theorem qs_X1_bodyAt : x_in (.selects RX1 yX1_bodyAt yX1_bodyAt) := ⟨List.mem_of_getElem? (i := 1038) (by decide +kernel), Or.inl (by decide +kernel)⟩
theorem qm_X9_320 : x_in (.methodLink RX9 320 yX9_kindAbove) := ⟨List.mem_of_getElem? (i := 1047) (by decide +kernel), Or.inl (by decide +kernel)⟩
theorem qf_X9_272 : x_in (x_fl true RX9 272 RX7 TX7 6) := ⟨List.mem_of_getElem? (i := 262) (by decide +kernel), Or.inr (by decide +kernel)⟩
theorem qf_X9_142 : x_in (x_fl false RX9 142 RX9 TX9 8) := ⟨List.mem_of_getElem? (i := 372) (by decide +kernel), Or.inl (by decide +kernel)⟩
theorem qf_X9_218 : x_in (x_fl true RX9 218 RX7 TX7 2) := ⟨List.mem_of_getElem? (i := 252) (by decide +kernel), Or.inr (by decide +kernel)⟩
theorem qm_X9_252 : x_in (.methodLink RX9 252 yX6_size) := ⟨List.mem_of_getElem? (i := 970) (by decide +kernel), Or.inl (by decide +kernel)⟩
theorem qf_X9_242 : x_in (x_fl true RX9 242 RX7 TX7 3) := ⟨List.mem_of_getElem? (i := 255) (by decide +kernel), Or.inr (by decide +kernel)⟩
theorem qf_X9_249 : x_in (x_fl true RX9 249 RX7 TX7 4) := ⟨List.mem_of_getElem? (i := 257) (by decide +kernel), Or.inr (by decide +kernel)⟩
theorem qf_X9_31 : x_in (x_fl false RX9 31 RX9 TX9 3) := ⟨List.mem_of_getElem? (i := 367) (by decide +kernel), Or.inl (by decide +kernel)⟩
theorem qm_X9_299 : x_in (.methodLink RX9 299 yX5_length) := ⟨List.mem_of_getElem? (i := 1052) (by decide +kernel), Or.inl (by decide +kernel)⟩
theorem qd_X5_length : x_in (.code yX5_length cX5_length 1 (some .int)) := ⟨List.mem_of_getElem? (i := 1055) (by decide +kernel), Or.inl (by decide +kernel)⟩
theorem qi_X5_length : x_in (.instanceMethod yX5_length) := ⟨List.mem_of_getElem? (i := 1053) (by decide +kernel), Or.inl (by decide +kernel)⟩
theorem qs_X5_length : x_in (.selects RX5 yX5_length yX5_length) := ⟨List.mem_of_getElem? (i := 1054) (by decide +kernel), Or.inl (by decide +kernel)⟩
theorem qm_X9_302 : x_in (.methodLink RX9 302 yX1_ran) := ⟨List.mem_of_getElem? (i := 1056) (by decide +kernel), Or.inl (by decide +kernel)⟩
theorem qd_X1_ran : x_in (.code yX1_ran cX1_ran 1 (some .int)) := ⟨List.mem_of_getElem? (i := 1059) (by decide +kernel), Or.inl (by decide +kernel)⟩
theorem qi_X1_ran : x_in (.instanceMethod yX1_ran) := ⟨List.mem_of_getElem? (i := 1057) (by decide +kernel), Or.inl (by decide +kernel)⟩
theorem qs_X1_ran : x_in (.selects RX1 yX1_ran yX1_ran) := ⟨List.mem_of_getElem? (i := 1058) (by decide +kernel), Or.inl (by decide +kernel)⟩
theorem qm_X9_64 : x_in (.methodLink RX9 64 yX3_change) := ⟨List.mem_of_getElem? (i := 399) (by decide +kernel), Or.inl (by decide +kernel)⟩
theorem qd_X3_change : x_in (.code yX3_change cX3_change 4 (some .int)) := ⟨List.mem_of_getElem? (i := 402) (by decide +kernel), Or.inl (by decide +kernel)⟩
theorem qi_X3_change : x_in (.instanceMethod yX3_change) := ⟨List.mem_of_getElem? (i := 400) (by decide +kernel), Or.inl (by decide +kernel)⟩
theorem qs_X3_change : x_in (.selects RX3 yX3_change yX3_change) := ⟨List.mem_of_getElem? (i := 401) (by decide +kernel), Or.inl (by decide +kernel)⟩
theorem qm_X9_74 : x_in (.methodLink RX9 74 yX9_isDaily) := ⟨List.mem_of_getElem? (i := 422) (by decide +kernel), Or.inl (by decide +kernel)⟩
theorem qd_X9_isDaily : x_in (.code yX9_isDaily cX9_isDaily 1 (some .boolean)) := ⟨List.mem_of_getElem? (i := 424) (by decide +kernel), Or.inl (by decide +kernel)⟩
theorem qt_X9_isDaily : x_in (.static yX9_isDaily) := ⟨List.mem_of_getElem? (i := 423) (by decide +kernel), Or.inl (by decide +kernel)⟩
theorem qm_X9_78 : x_in (.methodLink RX9 78 yX7_open) := ⟨List.mem_of_getElem? (i := 425) (by decide +kernel), Or.inl (by decide +kernel)⟩
theorem qd_X7_open : x_in (.code yX7_open cX7_open 4 (some .int)) := ⟨List.mem_of_getElem? (i := 428) (by decide +kernel), Or.inl (by decide +kernel)⟩
theorem qi_X7_open : x_in (.instanceMethod yX7_open) := ⟨List.mem_of_getElem? (i := 426) (by decide +kernel), Or.inl (by decide +kernel)⟩
theorem qs_X7_open : x_in (.selects RX7 yX7_open yX7_open) := ⟨List.mem_of_getElem? (i := 427) (by decide +kernel), Or.inl (by decide +kernel)⟩
theorem qm_X9_82 : x_in (.methodLink RX9 82 yX7_find) := ⟨List.mem_of_getElem? (i := 438) (by decide +kernel), Or.inl (by decide +kernel)⟩
theorem qf_X9_86 : x_in (x_fl true RX9 86 RX0 TX0 3) := ⟨List.mem_of_getElem? (i := 208) (by decide +kernel), Or.inr (by decide +kernel)⟩
theorem qm_X9_133 : x_in (.methodLink RX9 133 yX0_changeRow) := ⟨List.mem_of_getElem? (i := 499) (by decide +kernel), Or.inl (by decide +kernel)⟩
theorem qd_X0_changeRow : x_in (.code yX0_changeRow cX0_changeRow 4 (some .int)) := ⟨List.mem_of_getElem? (i := 502) (by decide +kernel), Or.inl (by decide +kernel)⟩
theorem qi_X0_changeRow : x_in (.instanceMethod yX0_changeRow) := ⟨List.mem_of_getElem? (i := 500) (by decide +kernel), Or.inl (by decide +kernel)⟩
theorem qs_X0_changeRow : x_in (.selects RX0 yX0_changeRow yX0_changeRow) := ⟨List.mem_of_getElem? (i := 501) (by decide +kernel), Or.inl (by decide +kernel)⟩
theorem qm_X9_139 : x_in (.methodLink RX9 139 yX5_add) := ⟨List.mem_of_getElem? (i := 511) (by decide +kernel), Or.inl (by decide +kernel)⟩
theorem qd_X5_add : x_in (.code yX5_add cX5_add 2 (some .int)) := ⟨List.mem_of_getElem? (i := 514) (by decide +kernel), Or.inl (by decide +kernel)⟩
theorem qi_X5_add : x_in (.instanceMethod yX5_add) := ⟨List.mem_of_getElem? (i := 512) (by decide +kernel), Or.inl (by decide +kernel)⟩
theorem qs_X5_add : x_in (.selects RX5 yX5_add yX5_add) := ⟨List.mem_of_getElem? (i := 513) (by decide +kernel), Or.inl (by decide +kernel)⟩
theorem qm_X9_108 : x_in (.methodLink RX9 108 yX7_level) := ⟨List.mem_of_getElem? (i := 446) (by decide +kernel), Or.inl (by decide +kernel)⟩
theorem qm_X9_195 : x_in (.methodLink RX9 195 yX3_levelOf) := ⟨List.mem_of_getElem? (i := 826) (by decide +kernel), Or.inl (by decide +kernel)⟩
theorem qm_X9_226 : x_in (.methodLink RX9 226 yX6_add) := ⟨List.mem_of_getElem? (i := 888) (by decide +kernel), Or.inl (by decide +kernel)⟩
theorem qd_X6_add : x_in (.code yX6_add cX6_add 3 (some .int)) := ⟨List.mem_of_getElem? (i := 891) (by decide +kernel), Or.inl (by decide +kernel)⟩
theorem qi_X6_add : x_in (.instanceMethod yX6_add) := ⟨List.mem_of_getElem? (i := 889) (by decide +kernel), Or.inl (by decide +kernel)⟩
theorem qs_X6_add : x_in (.selects RX6 yX6_add yX6_add) := ⟨List.mem_of_getElem? (i := 890) (by decide +kernel), Or.inl (by decide +kernel)⟩
theorem qm_X9_222 : x_in (.methodLink RX9 222 yX6_clear) := ⟨List.mem_of_getElem? (i := 884) (by decide +kernel), Or.inl (by decide +kernel)⟩
theorem qd_X6_clear : x_in (.code yX6_clear cX6_clear 1 (some .int)) := ⟨List.mem_of_getElem? (i := 887) (by decide +kernel), Or.inl (by decide +kernel)⟩
theorem qi_X6_clear : x_in (.instanceMethod yX6_clear) := ⟨List.mem_of_getElem? (i := 885) (by decide +kernel), Or.inl (by decide +kernel)⟩
theorem qs_X6_clear : x_in (.selects RX6 yX6_clear yX6_clear) := ⟨List.mem_of_getElem? (i := 886) (by decide +kernel), Or.inl (by decide +kernel)⟩
theorem qm_X9_255 : x_in (.methodLink RX9 255 yX6_first) := ⟨List.mem_of_getElem? (i := 971) (by decide +kernel), Or.inl (by decide +kernel)⟩
theorem qm_X9_174 : x_in (.methodLink RX9 174 yX7_bucketsOf) := ⟨List.mem_of_getElem? (i := 761) (by decide +kernel), Or.inl (by decide +kernel)⟩
theorem qm_X9_258 : x_in (.methodLink RX9 258 yX6_second) := ⟨List.mem_of_getElem? (i := 972) (by decide +kernel), Or.inl (by decide +kernel)⟩
theorem qm_X9_261 : x_in (.methodLink RX9 261 yX9_findTape) := ⟨List.mem_of_getElem? (i := 977) (by decide +kernel), Or.inl (by decide +kernel)⟩
theorem qd_X9_findTape : x_in (.code yX9_findTape cX9_findTape 2 (some (.object "LakeBooks$Tape"))) := ⟨List.mem_of_getElem? (i := 980) (by decide +kernel), Or.inl (by decide +kernel)⟩
theorem qi_X9_findTape : x_in (.instanceMethod yX9_findTape) := ⟨List.mem_of_getElem? (i := 979) (by decide +kernel), Or.inl (by decide +kernel)⟩
theorem qs_X9_findTape : x_in (.selects RX9 yX9_findTape yX9_findTape) := ⟨List.mem_of_getElem? (i := 18) (by decide +kernel), Or.inl (by decide +kernel)⟩
theorem qm_X9_265 : x_in (.methodLink RX9 265 yX8_isEmpty) := ⟨List.mem_of_getElem? (i := 981) (by decide +kernel), Or.inl (by decide +kernel)⟩
theorem qd_X8_isEmpty : x_in (.code yX8_isEmpty cX8_isEmpty 1 (some .boolean)) := ⟨List.mem_of_getElem? (i := 984) (by decide +kernel), Or.inl (by decide +kernel)⟩
theorem qi_X8_isEmpty : x_in (.instanceMethod yX8_isEmpty) := ⟨List.mem_of_getElem? (i := 982) (by decide +kernel), Or.inl (by decide +kernel)⟩
theorem qs_X8_isEmpty : x_in (.selects RX8 yX8_isEmpty yX8_isEmpty) := ⟨List.mem_of_getElem? (i := 983) (by decide +kernel), Or.inl (by decide +kernel)⟩
theorem qf_X9_275 : x_in (x_fl true RX9 275 RX8 TX8 2) := ⟨List.mem_of_getElem? (i := 355) (by decide +kernel), Or.inr (by decide +kernel)⟩
theorem qm_X9_277 : x_in (.methodLink RX9 277 yX8_get) := ⟨List.mem_of_getElem? (i := 985) (by decide +kernel), Or.inl (by decide +kernel)⟩
theorem qd_X8_get : x_in (.code yX8_get cX8_get 2 (some .long)) := ⟨List.mem_of_getElem? (i := 988) (by decide +kernel), Or.inl (by decide +kernel)⟩
theorem qi_X8_get : x_in (.instanceMethod yX8_get) := ⟨List.mem_of_getElem? (i := 986) (by decide +kernel), Or.inl (by decide +kernel)⟩
theorem qs_X8_get : x_in (.selects RX8 yX8_get yX8_get) := ⟨List.mem_of_getElem? (i := 987) (by decide +kernel), Or.inl (by decide +kernel)⟩
theorem qf_X9_269 : x_in (x_fl true RX9 269 RX8 TX8 1) := ⟨List.mem_of_getElem? (i := 353) (by decide +kernel), Or.inr (by decide +kernel)⟩
theorem qm_X9_296 : x_in (.methodLink RX9 296 yX9_isOrUnder) := ⟨List.mem_of_getElem? (i := 1044) (by decide +kernel), Or.inl (by decide +kernel)⟩
theorem qd_X9_isOrUnder : x_in (.code yX9_isOrUnder cX9_isOrUnder 4 (some .boolean)) := ⟨List.mem_of_getElem? (i := 1046) (by decide +kernel), Or.inl (by decide +kernel)⟩
theorem qt_X9_isOrUnder : x_in (.static yX9_isOrUnder) := ⟨List.mem_of_getElem? (i := 1045) (by decide +kernel), Or.inl (by decide +kernel)⟩
theorem qm_X9_305 : x_in (.methodLink RX9 305 yX8_become) := ⟨List.mem_of_getElem? (i := 1064) (by decide +kernel), Or.inl (by decide +kernel)⟩
theorem qd_X8_become : x_in (.code yX8_become cX8_become 4 (some .int)) := ⟨List.mem_of_getElem? (i := 1067) (by decide +kernel), Or.inl (by decide +kernel)⟩
theorem qi_X8_become : x_in (.instanceMethod yX8_become) := ⟨List.mem_of_getElem? (i := 1065) (by decide +kernel), Or.inl (by decide +kernel)⟩
theorem qs_X8_become : x_in (.selects RX8 yX8_become yX8_become) := ⟨List.mem_of_getElem? (i := 1066) (by decide +kernel), Or.inl (by decide +kernel)⟩
theorem qm_X9_308 : x_in (.methodLink RX9 308 yX8_put) := ⟨List.mem_of_getElem? (i := 1074) (by decide +kernel), Or.inl (by decide +kernel)⟩
theorem qd_X8_put : x_in (.code yX8_put cX8_put 4 (some .boolean)) := ⟨List.mem_of_getElem? (i := 1077) (by decide +kernel), Or.inl (by decide +kernel)⟩
theorem qi_X8_put : x_in (.instanceMethod yX8_put) := ⟨List.mem_of_getElem? (i := 1075) (by decide +kernel), Or.inl (by decide +kernel)⟩
theorem qs_X8_put : x_in (.selects RX8 yX8_put yX8_put) := ⟨List.mem_of_getElem? (i := 1076) (by decide +kernel), Or.inl (by decide +kernel)⟩
theorem qm_X9_312 : x_in (.methodLink RX9 312 yX8_takeFrom) := ⟨List.mem_of_getElem? (i := 1090) (by decide +kernel), Or.inl (by decide +kernel)⟩
theorem qd_X8_takeFrom : x_in (.code yX8_takeFrom cX8_takeFrom 5 (some .boolean)) := ⟨List.mem_of_getElem? (i := 1093) (by decide +kernel), Or.inl (by decide +kernel)⟩
theorem qi_X8_takeFrom : x_in (.instanceMethod yX8_takeFrom) := ⟨List.mem_of_getElem? (i := 1091) (by decide +kernel), Or.inl (by decide +kernel)⟩
theorem qs_X8_takeFrom : x_in (.selects RX8 yX8_takeFrom yX8_takeFrom) := ⟨List.mem_of_getElem? (i := 1092) (by decide +kernel), Or.inl (by decide +kernel)⟩
theorem qm_X9_128 : x_in (.methodLink RX9 128 yX9_maySet) := ⟨List.mem_of_getElem? (i := 488) (by decide +kernel), Or.inl (by decide +kernel)⟩
theorem qd_X9_maySet : x_in (.code yX9_maySet cX9_maySet 2 (some .boolean)) := ⟨List.mem_of_getElem? (i := 490) (by decide +kernel), Or.inl (by decide +kernel)⟩
theorem qt_X9_maySet : x_in (.static yX9_maySet) := ⟨List.mem_of_getElem? (i := 489) (by decide +kernel), Or.inl (by decide +kernel)⟩
theorem qm_X9_132 : x_in (.methodLink RX9 132 yX0_change) := ⟨List.mem_of_getElem? (i := 491) (by decide +kernel), Or.inl (by decide +kernel)⟩
theorem qd_X0_change : x_in (.code yX0_change cX0_change 4 (some .int)) := ⟨List.mem_of_getElem? (i := 494) (by decide +kernel), Or.inl (by decide +kernel)⟩
theorem qi_X0_change : x_in (.instanceMethod yX0_change) := ⟨List.mem_of_getElem? (i := 492) (by decide +kernel), Or.inl (by decide +kernel)⟩
theorem qs_X0_change : x_in (.selects RX0 yX0_change yX0_change) := ⟨List.mem_of_getElem? (i := 493) (by decide +kernel), Or.inl (by decide +kernel)⟩
theorem qf_X9_18 : x_in (x_fl false RX9 18 RX9 TX9 1) := ⟨List.mem_of_getElem? (i := 365) (by decide +kernel), Or.inl (by decide +kernel)⟩
theorem qm_X9_281 : x_in (.methodLink RX9 281 yX7_copyFrom) := ⟨List.mem_of_getElem? (i := 994) (by decide +kernel), Or.inl (by decide +kernel)⟩
theorem qf_X9_285 : x_in (x_fl false RX9 285 RX9 TX9 7) := ⟨List.mem_of_getElem? (i := 371) (by decide +kernel), Or.inl (by decide +kernel)⟩
theorem qf_X9_92 : x_in (x_fl true RX9 92 RX0 TX0 4) := ⟨List.mem_of_getElem? (i := 211) (by decide +kernel), Or.inr (by decide +kernel)⟩
theorem qf_X9_95 : x_in (x_fl true RX9 95 RX0 TX0 5) := ⟨List.mem_of_getElem? (i := 215) (by decide +kernel), Or.inr (by decide +kernel)⟩
theorem qf_X9_98 : x_in (x_fl true RX9 98 RX0 TX0 6) := ⟨List.mem_of_getElem? (i := 219) (by decide +kernel), Or.inr (by decide +kernel)⟩
theorem qf_X9_101 : x_in (x_fl true RX9 101 RX0 TX0 7) := ⟨List.mem_of_getElem? (i := 221) (by decide +kernel), Or.inr (by decide +kernel)⟩
theorem qm_X9_104 : x_in (.methodLink RX9 104 yX0_lifts) := ⟨List.mem_of_getElem? (i := 442) (by decide +kernel), Or.inl (by decide +kernel)⟩
theorem qf_X9_111 : x_in (x_fl true RX9 111 RX7 TX7 5) := ⟨List.mem_of_getElem? (i := 259) (by decide +kernel), Or.inr (by decide +kernel)⟩
theorem qf_X9_115 : x_in (x_fl true RX9 115 RX4 TX4 9) := ⟨List.mem_of_getElem? (i := 171) (by decide +kernel), Or.inr (by decide +kernel)⟩
theorem qf_X9_118 : x_in (x_fl true RX9 118 RX7 TX7 9) := ⟨List.mem_of_getElem? (i := 268) (by decide +kernel), Or.inr (by decide +kernel)⟩
theorem qm_X9_121 : x_in (.methodLink RX9 121 yX0_pours) := ⟨List.mem_of_getElem? (i := 455) (by decide +kernel), Or.inl (by decide +kernel)⟩
theorem qm_X9_124 : x_in (.methodLink RX9 124 yX7_sunOf) := ⟨List.mem_of_getElem? (i := 464) (by decide +kernel), Or.inl (by decide +kernel)⟩
theorem qf_X9_152 : x_in (x_fl true RX9 152 RX7 TX7 8) := ⟨List.mem_of_getElem? (i := 266) (by decide +kernel), Or.inr (by decide +kernel)⟩
theorem qf_X9_155 : x_in (x_fl true RX9 155 RX4 TX4 7) := ⟨List.mem_of_getElem? (i := 165) (by decide +kernel), Or.inr (by decide +kernel)⟩
theorem qf_X9_158 : x_in (x_fl true RX9 158 RX4 TX4 8) := ⟨List.mem_of_getElem? (i := 169) (by decide +kernel), Or.inr (by decide +kernel)⟩
theorem qm_X9_161 : x_in (.methodLink RX9 161 yX7_spring) := ⟨List.mem_of_getElem? (i := 698) (by decide +kernel), Or.inl (by decide +kernel)⟩
theorem qm_X9_164 : x_in (.methodLink RX9 164 yX3_areaOf) := ⟨List.mem_of_getElem? (i := 702) (by decide +kernel), Or.inl (by decide +kernel)⟩
theorem qd_X3_areaOf : x_in (.code yX3_areaOf cX3_areaOf 2 (some .int)) := ⟨List.mem_of_getElem? (i := 705) (by decide +kernel), Or.inl (by decide +kernel)⟩
theorem qi_X3_areaOf : x_in (.instanceMethod yX3_areaOf) := ⟨List.mem_of_getElem? (i := 703) (by decide +kernel), Or.inl (by decide +kernel)⟩
theorem qs_X3_areaOf : x_in (.selects RX3 yX3_areaOf yX3_areaOf) := ⟨List.mem_of_getElem? (i := 704) (by decide +kernel), Or.inl (by decide +kernel)⟩
theorem qm_X9_167 : x_in (.methodLink RX9 167 yX7_pass) := ⟨List.mem_of_getElem? (i := 710) (by decide +kernel), Or.inl (by decide +kernel)⟩
theorem qf_X9_24 : x_in (x_fl false RX9 24 RX9 TX9 2) := ⟨List.mem_of_getElem? (i := 366) (by decide +kernel), Or.inl (by decide +kernel)⟩
theorem qm_X9_170 : x_in (.methodLink RX9 170 yX2_after) := ⟨List.mem_of_getElem? (i := 739) (by decide +kernel), Or.inl (by decide +kernel)⟩
theorem qm_X9_177 : x_in (.methodLink RX9 177 yX2_daysTillDry) := ⟨List.mem_of_getElem? (i := 770) (by decide +kernel), Or.inl (by decide +kernel)⟩
theorem qd_X2_daysTillDry : x_in (.code yX2_daysTillDry cX2_daysTillDry 3 (some .int)) := ⟨List.mem_of_getElem? (i := 773) (by decide +kernel), Or.inl (by decide +kernel)⟩
theorem qi_X2_daysTillDry : x_in (.instanceMethod yX2_daysTillDry) := ⟨List.mem_of_getElem? (i := 771) (by decide +kernel), Or.inl (by decide +kernel)⟩
theorem qs_X2_daysTillDry : x_in (.selects RX2 yX2_daysTillDry yX2_daysTillDry) := ⟨List.mem_of_getElem? (i := 772) (by decide +kernel), Or.inl (by decide +kernel)⟩
theorem qm_X9_181 : x_in (.methodLink RX9 181 yX2_daysTillLowest) := ⟨List.mem_of_getElem? (i := 782) (by decide +kernel), Or.inl (by decide +kernel)⟩
theorem qd_X2_daysTillLowest : x_in (.code yX2_daysTillLowest cX2_daysTillLowest 6 (some .int)) := ⟨List.mem_of_getElem? (i := 785) (by decide +kernel), Or.inl (by decide +kernel)⟩
theorem qi_X2_daysTillLowest : x_in (.instanceMethod yX2_daysTillLowest) := ⟨List.mem_of_getElem? (i := 783) (by decide +kernel), Or.inl (by decide +kernel)⟩
theorem qs_X2_daysTillLowest : x_in (.selects RX2 yX2_daysTillLowest yX2_daysTillLowest) := ⟨List.mem_of_getElem? (i := 784) (by decide +kernel), Or.inl (by decide +kernel)⟩
theorem qm_X9_185 : x_in (.methodLink RX9 185 yX2_firstBelow) := ⟨List.mem_of_getElem? (i := 791) (by decide +kernel), Or.inl (by decide +kernel)⟩
theorem qd_X2_firstBelow : x_in (.code yX2_firstBelow cX2_firstBelow 5 (some .int)) := ⟨List.mem_of_getElem? (i := 794) (by decide +kernel), Or.inl (by decide +kernel)⟩
theorem qi_X2_firstBelow : x_in (.instanceMethod yX2_firstBelow) := ⟨List.mem_of_getElem? (i := 792) (by decide +kernel), Or.inl (by decide +kernel)⟩
theorem qs_X2_firstBelow : x_in (.selects RX2 yX2_firstBelow yX2_firstBelow) := ⟨List.mem_of_getElem? (i := 793) (by decide +kernel), Or.inl (by decide +kernel)⟩
theorem qm_X9_192 : x_in (.methodLink RX9 192 yX2_daysTillEnough) := ⟨List.mem_of_getElem? (i := 817) (by decide +kernel), Or.inl (by decide +kernel)⟩
theorem qd_X2_daysTillEnough : x_in (.code yX2_daysTillEnough cX2_daysTillEnough 5 (some .int)) := ⟨List.mem_of_getElem? (i := 820) (by decide +kernel), Or.inl (by decide +kernel)⟩
theorem qi_X2_daysTillEnough : x_in (.instanceMethod yX2_daysTillEnough) := ⟨List.mem_of_getElem? (i := 818) (by decide +kernel), Or.inl (by decide +kernel)⟩
theorem qs_X2_daysTillEnough : x_in (.selects RX2 yX2_daysTillEnough yX2_daysTillEnough) := ⟨List.mem_of_getElem? (i := 819) (by decide +kernel), Or.inl (by decide +kernel)⟩
theorem qm_X9_206 : x_in (.methodLink RX9 206 yX9_isPart) := ⟨List.mem_of_getElem? (i := 854) (by decide +kernel), Or.inl (by decide +kernel)⟩
theorem qd_X9_isPart : x_in (.code yX9_isPart cX9_isPart 1 (some .boolean)) := ⟨List.mem_of_getElem? (i := 856) (by decide +kernel), Or.inl (by decide +kernel)⟩
theorem qt_X9_isPart : x_in (.static yX9_isPart) := ⟨List.mem_of_getElem? (i := 855) (by decide +kernel), Or.inl (by decide +kernel)⟩
theorem qm_X9_211 : x_in (.methodLink RX9 211 yX2_sunShare) := ⟨List.mem_of_getElem? (i := 858) (by decide +kernel), Or.inl (by decide +kernel)⟩
theorem qd_X2_sunShare : x_in (.code yX2_sunShare cX2_sunShare 11 (some .long)) := ⟨List.mem_of_getElem? (i := 861) (by decide +kernel), Or.inl (by decide +kernel)⟩
theorem qi_X2_sunShare : x_in (.instanceMethod yX2_sunShare) := ⟨List.mem_of_getElem? (i := 859) (by decide +kernel), Or.inl (by decide +kernel)⟩
theorem qs_X2_sunShare : x_in (.selects RX2 yX2_sunShare yX2_sunShare) := ⟨List.mem_of_getElem? (i := 860) (by decide +kernel), Or.inl (by decide +kernel)⟩
theorem qm_X9_215 : x_in (.methodLink RX9 215 yX7_richestNow) := ⟨List.mem_of_getElem? (i := 876) (by decide +kernel), Or.inl (by decide +kernel)⟩
theorem qd_X7_richestNow : x_in (.code yX7_richestNow cX7_richestNow 3 (some .int)) := ⟨List.mem_of_getElem? (i := 879) (by decide +kernel), Or.inl (by decide +kernel)⟩
theorem qi_X7_richestNow : x_in (.instanceMethod yX7_richestNow) := ⟨List.mem_of_getElem? (i := 877) (by decide +kernel), Or.inl (by decide +kernel)⟩
theorem qs_X7_richestNow : x_in (.selects RX7 yX7_richestNow yX7_richestNow) := ⟨List.mem_of_getElem? (i := 878) (by decide +kernel), Or.inl (by decide +kernel)⟩
theorem qm_X9_239 : x_in (.methodLink RX9 239 yX2_meanLevel) := ⟨List.mem_of_getElem? (i := 946) (by decide +kernel), Or.inl (by decide +kernel)⟩
theorem qd_X2_meanLevel : x_in (.code yX2_meanLevel cX2_meanLevel 7 (some .long)) := ⟨List.mem_of_getElem? (i := 949) (by decide +kernel), Or.inl (by decide +kernel)⟩
theorem qi_X2_meanLevel : x_in (.instanceMethod yX2_meanLevel) := ⟨List.mem_of_getElem? (i := 947) (by decide +kernel), Or.inl (by decide +kernel)⟩
theorem qs_X2_meanLevel : x_in (.selects RX2 yX2_meanLevel yX2_meanLevel) := ⟨List.mem_of_getElem? (i := 948) (by decide +kernel), Or.inl (by decide +kernel)⟩
theorem qm_X9_245 : x_in (.methodLink RX9 245 yX2_afterPlan) := ⟨List.mem_of_getElem? (i := 958) (by decide +kernel), Or.inl (by decide +kernel)⟩
theorem qd_X2_afterPlan : x_in (.code yX2_afterPlan cX2_afterPlan 4 (some (.object "LakeBooks$State"))) := ⟨List.mem_of_getElem? (i := 961) (by decide +kernel), Or.inl (by decide +kernel)⟩
theorem qi_X2_afterPlan : x_in (.instanceMethod yX2_afterPlan) := ⟨List.mem_of_getElem? (i := 959) (by decide +kernel), Or.inl (by decide +kernel)⟩
theorem qs_X2_afterPlan : x_in (.selects RX2 yX2_afterPlan yX2_afterPlan) := ⟨List.mem_of_getElem? (i := 960) (by decide +kernel), Or.inl (by decide +kernel)⟩
theorem qm_X9_188 : x_in (.methodLink RX9 188 yX2_leastDaily) := ⟨List.mem_of_getElem? (i := 804) (by decide +kernel), Or.inl (by decide +kernel)⟩
theorem qd_X2_leastDaily : x_in (.code yX2_leastDaily cX2_leastDaily 6 (some .int)) := ⟨List.mem_of_getElem? (i := 807) (by decide +kernel), Or.inl (by decide +kernel)⟩
theorem qi_X2_leastDaily : x_in (.instanceMethod yX2_leastDaily) := ⟨List.mem_of_getElem? (i := 805) (by decide +kernel), Or.inl (by decide +kernel)⟩
theorem qs_X2_leastDaily : x_in (.selects RX2 yX2_leastDaily yX2_leastDaily) := ⟨List.mem_of_getElem? (i := 806) (by decide +kernel), Or.inl (by decide +kernel)⟩
theorem qk_X9_202 : x_in (.constant RX9 202 (-100002)) := ⟨List.mem_of_getElem? (i := 841) (by decide +kernel), Or.inl (by decide +kernel)⟩
theorem qm_X9_199 : x_in (.methodLink RX9 199 yX2_waterBy) := ⟨List.mem_of_getElem? (i := 832) (by decide +kernel), Or.inl (by decide +kernel)⟩
theorem qd_X2_waterBy : x_in (.code yX2_waterBy cX2_waterBy 6 (some .int)) := ⟨List.mem_of_getElem? (i := 835) (by decide +kernel), Or.inl (by decide +kernel)⟩
theorem qi_X2_waterBy : x_in (.instanceMethod yX2_waterBy) := ⟨List.mem_of_getElem? (i := 833) (by decide +kernel), Or.inl (by decide +kernel)⟩
theorem qs_X2_waterBy : x_in (.selects RX2 yX2_waterBy yX2_waterBy) := ⟨List.mem_of_getElem? (i := 834) (by decide +kernel), Or.inl (by decide +kernel)⟩
theorem qk_X9_198 : x_in (.constant RX9 198 (-100001)) := ⟨List.mem_of_getElem? (i := 831) (by decide +kernel), Or.inl (by decide +kernel)⟩
theorem qm_X9_203 : x_in (.methodLink RX9 203 yX2_leastWell) := ⟨List.mem_of_getElem? (i := 846) (by decide +kernel), Or.inl (by decide +kernel)⟩
theorem qd_X2_leastWell : x_in (.code yX2_leastWell cX2_leastWell 4 (some .int)) := ⟨List.mem_of_getElem? (i := 849) (by decide +kernel), Or.inl (by decide +kernel)⟩
theorem qi_X2_leastWell : x_in (.instanceMethod yX2_leastWell) := ⟨List.mem_of_getElem? (i := 847) (by decide +kernel), Or.inl (by decide +kernel)⟩
theorem qs_X2_leastWell : x_in (.selects RX2 yX2_leastWell yX2_leastWell) := ⟨List.mem_of_getElem? (i := 848) (by decide +kernel), Or.inl (by decide +kernel)⟩
theorem qm_X9_228 : x_in (.methodLink RX9 228 yX2_isAsSeenWith) := ⟨List.mem_of_getElem? (i := 897) (by decide +kernel), Or.inl (by decide +kernel)⟩
theorem qd_X2_isAsSeenWith : x_in (.code yX2_isAsSeenWith cX2_isAsSeenWith 5 (some .boolean)) := ⟨List.mem_of_getElem? (i := 900) (by decide +kernel), Or.inl (by decide +kernel)⟩
theorem qi_X2_isAsSeenWith : x_in (.instanceMethod yX2_isAsSeenWith) := ⟨List.mem_of_getElem? (i := 898) (by decide +kernel), Or.inl (by decide +kernel)⟩
theorem qs_X2_isAsSeenWith : x_in (.selects RX2 yX2_isAsSeenWith yX2_isAsSeenWith) := ⟨List.mem_of_getElem? (i := 899) (by decide +kernel), Or.inl (by decide +kernel)⟩
theorem qm_X9_232 : x_in (.methodLink RX9 232 yX2_absencesAsSeen) := ⟨List.mem_of_getElem? (i := 930) (by decide +kernel), Or.inl (by decide +kernel)⟩
theorem qd_X2_absencesAsSeen : x_in (.code yX2_absencesAsSeen cX2_absencesAsSeen 4 (some .int)) := ⟨List.mem_of_getElem? (i := 933) (by decide +kernel), Or.inl (by decide +kernel)⟩
theorem qi_X2_absencesAsSeen : x_in (.instanceMethod yX2_absencesAsSeen) := ⟨List.mem_of_getElem? (i := 931) (by decide +kernel), Or.inl (by decide +kernel)⟩
theorem qs_X2_absencesAsSeen : x_in (.selects RX2 yX2_absencesAsSeen yX2_absencesAsSeen) := ⟨List.mem_of_getElem? (i := 932) (by decide +kernel), Or.inl (by decide +kernel)⟩
theorem qm_X9_235 : x_in (.methodLink RX9 235 yX2_springlessOdds) := ⟨List.mem_of_getElem? (i := 938) (by decide +kernel), Or.inl (by decide +kernel)⟩
theorem qd_X2_springlessOdds : x_in (.code yX2_springlessOdds cX2_springlessOdds 6 (some .long)) := ⟨List.mem_of_getElem? (i := 941) (by decide +kernel), Or.inl (by decide +kernel)⟩
theorem qi_X2_springlessOdds : x_in (.instanceMethod yX2_springlessOdds) := ⟨List.mem_of_getElem? (i := 939) (by decide +kernel), Or.inl (by decide +kernel)⟩
theorem qs_X2_springlessOdds : x_in (.selects RX2 yX2_springlessOdds yX2_springlessOdds) := ⟨List.mem_of_getElem? (i := 940) (by decide +kernel), Or.inl (by decide +kernel)⟩
theorem qm_X9_289 : x_in (.methodLink RX9 289 yX1_perform) := ⟨List.mem_of_getElem? (i := 1003) (by decide +kernel), Or.inl (by decide +kernel)⟩
theorem qd_X1_perform : x_in (.code yX1_perform cX1_perform 4 (some .int)) := ⟨List.mem_of_getElem? (i := 1006) (by decide +kernel), Or.inl (by decide +kernel)⟩
theorem qi_X1_perform : x_in (.instanceMethod yX1_perform) := ⟨List.mem_of_getElem? (i := 1004) (by decide +kernel), Or.inl (by decide +kernel)⟩
theorem qs_X1_perform : x_in (.selects RX1 yX1_perform yX1_perform) := ⟨List.mem_of_getElem? (i := 1005) (by decide +kernel), Or.inl (by decide +kernel)⟩
theorem qf_X9_37 : x_in (x_fl false RX9 37 RX9 TX9 4) := ⟨List.mem_of_getElem? (i := 368) (by decide +kernel), Or.inl (by decide +kernel)⟩
theorem qm_X9_145 : x_in (.methodLink RX9 145 yX5_parse) := ⟨List.mem_of_getElem? (i := 520) (by decide +kernel), Or.inl (by decide +kernel)⟩
theorem qd_X5_parse : x_in (.code yX5_parse cX5_parse 5 (some .int)) := ⟨List.mem_of_getElem? (i := 523) (by decide +kernel), Or.inl (by decide +kernel)⟩
theorem qi_X5_parse : x_in (.instanceMethod yX5_parse) := ⟨List.mem_of_getElem? (i := 521) (by decide +kernel), Or.inl (by decide +kernel)⟩
theorem qs_X5_parse : x_in (.selects RX5 yX5_parse yX5_parse) := ⟨List.mem_of_getElem? (i := 522) (by decide +kernel), Or.inl (by decide +kernel)⟩
theorem qm_X9_149 : x_in (.methodLink RX9 149 yX5_clear) := ⟨List.mem_of_getElem? (i := 689) (by decide +kernel), Or.inl (by decide +kernel)⟩
theorem qd_X5_clear : x_in (.code yX5_clear cX5_clear 1 none) := ⟨List.mem_of_getElem? (i := 692) (by decide +kernel), Or.inl (by decide +kernel)⟩
theorem qi_X5_clear : x_in (.instanceMethod yX5_clear) := ⟨List.mem_of_getElem? (i := 690) (by decide +kernel), Or.inl (by decide +kernel)⟩
theorem qs_X5_clear : x_in (.selects RX5 yX5_clear yX5_clear) := ⟨List.mem_of_getElem? (i := 691) (by decide +kernel), Or.inl (by decide +kernel)⟩
theorem qf_X10_22 : x_in (x_fl false RX10 22 RX10 TX10 4) := ⟨List.mem_of_getElem? (i := 1107) (by decide +kernel), Or.inl (by decide +kernel)⟩
theorem qf_X10_53 : x_in (x_fl false RX10 53 RX10 TX10 14) := ⟨List.mem_of_getElem? (i := 1117) (by decide +kernel), Or.inl (by decide +kernel)⟩
theorem qf_X10_50 : x_in (x_fl false RX10 50 RX10 TX10 13) := ⟨List.mem_of_getElem? (i := 1116) (by decide +kernel), Or.inl (by decide +kernel)⟩
theorem qf_X10_59 : x_in (x_fl false RX10 59 RX10 TX10 16) := ⟨List.mem_of_getElem? (i := 1119) (by decide +kernel), Or.inl (by decide +kernel)⟩
theorem qf_X10_77 : x_in (x_fl false RX10 77 RX10 TX10 22) := ⟨List.mem_of_getElem? (i := 1125) (by decide +kernel), Or.inl (by decide +kernel)⟩
theorem qf_X10_83 : x_in (x_fl false RX10 83 RX10 TX10 24) := ⟨List.mem_of_getElem? (i := 1127) (by decide +kernel), Or.inl (by decide +kernel)⟩
theorem qf_X10_47 : x_in (x_fl false RX10 47 RX10 TX10 12) := ⟨List.mem_of_getElem? (i := 1115) (by decide +kernel), Or.inl (by decide +kernel)⟩
theorem qf_X10_62 : x_in (x_fl false RX10 62 RX10 TX10 17) := ⟨List.mem_of_getElem? (i := 1120) (by decide +kernel), Or.inl (by decide +kernel)⟩
theorem qf_X10_13 : x_in (x_fl false RX10 13 RX10 TX10 1) := ⟨List.mem_of_getElem? (i := 1104) (by decide +kernel), Or.inl (by decide +kernel)⟩
theorem qf_X10_99 : x_in (x_fl false RX10 99 RX10 TX10 29) := ⟨List.mem_of_getElem? (i := 1132) (by decide +kernel), Or.inl (by decide +kernel)⟩
theorem qf_X10_26 : x_in (x_fl false RX10 26 RX10 TX10 5) := ⟨List.mem_of_getElem? (i := 1108) (by decide +kernel), Or.inl (by decide +kernel)⟩
theorem qf_X10_32 : x_in (x_fl false RX10 32 RX10 TX10 7) := ⟨List.mem_of_getElem? (i := 1110) (by decide +kernel), Or.inl (by decide +kernel)⟩
theorem qf_X10_102 : x_in (x_fl false RX10 102 RX10 TX10 30) := ⟨List.mem_of_getElem? (i := 1133) (by decide +kernel), Or.inl (by decide +kernel)⟩
theorem qf_X10_29 : x_in (x_fl false RX10 29 RX10 TX10 6) := ⟨List.mem_of_getElem? (i := 1109) (by decide +kernel), Or.inl (by decide +kernel)⟩
theorem qf_X10_38 : x_in (x_fl false RX10 38 RX10 TX10 9) := ⟨List.mem_of_getElem? (i := 1112) (by decide +kernel), Or.inl (by decide +kernel)⟩
theorem qf_X10_117 : x_in (x_fl false RX10 117 RX10 TX10 35) := ⟨List.mem_of_getElem? (i := 1138) (by decide +kernel), Or.inl (by decide +kernel)⟩
theorem qf_X10_16 : x_in (x_fl false RX10 16 RX10 TX10 2) := ⟨List.mem_of_getElem? (i := 1105) (by decide +kernel), Or.inl (by decide +kernel)⟩
theorem qf_X10_120 : x_in (x_fl false RX10 120 RX10 TX10 36) := ⟨List.mem_of_getElem? (i := 1139) (by decide +kernel), Or.inl (by decide +kernel)⟩
theorem qf_X10_19 : x_in (x_fl false RX10 19 RX10 TX10 3) := ⟨List.mem_of_getElem? (i := 1106) (by decide +kernel), Or.inl (by decide +kernel)⟩
theorem qf_X10_123 : x_in (x_fl false RX10 123 RX10 TX10 37) := ⟨List.mem_of_getElem? (i := 1140) (by decide +kernel), Or.inl (by decide +kernel)⟩
theorem qf_X10_126 : x_in (x_fl false RX10 126 RX10 TX10 38) := ⟨List.mem_of_getElem? (i := 1141) (by decide +kernel), Or.inl (by decide +kernel)⟩
theorem qf_X10_129 : x_in (x_fl false RX10 129 RX10 TX10 39) := ⟨List.mem_of_getElem? (i := 1142) (by decide +kernel), Or.inl (by decide +kernel)⟩
theorem qf_X10_35 : x_in (x_fl false RX10 35 RX10 TX10 8) := ⟨List.mem_of_getElem? (i := 1111) (by decide +kernel), Or.inl (by decide +kernel)⟩
theorem qf_X10_7 : x_in (x_fl false RX10 7 RX10 TX10 0) := ⟨List.mem_of_getElem? (i := 1103) (by decide +kernel), Or.inl (by decide +kernel)⟩
theorem qf_X10_144 : x_in (x_fl false RX10 144 RX10 TX10 44) := ⟨List.mem_of_getElem? (i := 1147) (by decide +kernel), Or.inl (by decide +kernel)⟩
theorem qf_X10_153 : x_in (x_fl false RX10 153 RX10 TX10 47) := ⟨List.mem_of_getElem? (i := 1150) (by decide +kernel), Or.inl (by decide +kernel)⟩
theorem qf_X10_156 : x_in (x_fl false RX10 156 RX10 TX10 48) := ⟨List.mem_of_getElem? (i := 1151) (by decide +kernel), Or.inl (by decide +kernel)⟩
theorem qf_X10_159 : x_in (x_fl false RX10 159 RX10 TX10 49) := ⟨List.mem_of_getElem? (i := 1152) (by decide +kernel), Or.inl (by decide +kernel)⟩
theorem qf_X10_163 : x_in (x_fl false RX10 163 RX10 TX10 50) := ⟨List.mem_of_getElem? (i := 1153) (by decide +kernel), Or.inl (by decide +kernel)⟩
theorem qf_X10_166 : x_in (x_fl false RX10 166 RX10 TX10 51) := ⟨List.mem_of_getElem? (i := 1154) (by decide +kernel), Or.inl (by decide +kernel)⟩
theorem qf_X10_169 : x_in (x_fl false RX10 169 RX10 TX10 52) := ⟨List.mem_of_getElem? (i := 1155) (by decide +kernel), Or.inl (by decide +kernel)⟩
theorem qf_X10_172 : x_in (x_fl false RX10 172 RX10 TX10 53) := ⟨List.mem_of_getElem? (i := 1156) (by decide +kernel), Or.inl (by decide +kernel)⟩
theorem qf_X10_175 : x_in (x_fl false RX10 175 RX10 TX10 54) := ⟨List.mem_of_getElem? (i := 1157) (by decide +kernel), Or.inl (by decide +kernel)⟩
theorem qf_X10_132 : x_in (x_fl false RX10 132 RX10 TX10 40) := ⟨List.mem_of_getElem? (i := 1143) (by decide +kernel), Or.inl (by decide +kernel)⟩
theorem qf_X10_178 : x_in (x_fl false RX10 178 RX10 TX10 55) := ⟨List.mem_of_getElem? (i := 1158) (by decide +kernel), Or.inl (by decide +kernel)⟩
theorem qf_X10_141 : x_in (x_fl false RX10 141 RX10 TX10 43) := ⟨List.mem_of_getElem? (i := 1146) (by decide +kernel), Or.inl (by decide +kernel)⟩
theorem qf_X10_181 : x_in (x_fl false RX10 181 RX10 TX10 56) := ⟨List.mem_of_getElem? (i := 1159) (by decide +kernel), Or.inl (by decide +kernel)⟩
theorem qf_X10_184 : x_in (x_fl false RX10 184 RX10 TX10 57) := ⟨List.mem_of_getElem? (i := 1160) (by decide +kernel), Or.inl (by decide +kernel)⟩
theorem qf_X10_187 : x_in (x_fl false RX10 187 RX10 TX10 58) := ⟨List.mem_of_getElem? (i := 1161) (by decide +kernel), Or.inl (by decide +kernel)⟩
theorem qf_X10_190 : x_in (x_fl false RX10 190 RX10 TX10 59) := ⟨List.mem_of_getElem? (i := 1162) (by decide +kernel), Or.inl (by decide +kernel)⟩
theorem qf_X10_193 : x_in (x_fl false RX10 193 RX10 TX10 60) := ⟨List.mem_of_getElem? (i := 1163) (by decide +kernel), Or.inl (by decide +kernel)⟩
theorem qf_X10_196 : x_in (x_fl false RX10 196 RX10 TX10 61) := ⟨List.mem_of_getElem? (i := 1164) (by decide +kernel), Or.inl (by decide +kernel)⟩
theorem qf_X10_199 : x_in (x_fl false RX10 199 RX10 TX10 62) := ⟨List.mem_of_getElem? (i := 1165) (by decide +kernel), Or.inl (by decide +kernel)⟩
theorem qf_X10_202 : x_in (x_fl false RX10 202 RX10 TX10 63) := ⟨List.mem_of_getElem? (i := 1166) (by decide +kernel), Or.inl (by decide +kernel)⟩
theorem qf_X10_205 : x_in (x_fl false RX10 205 RX10 TX10 64) := ⟨List.mem_of_getElem? (i := 1167) (by decide +kernel), Or.inl (by decide +kernel)⟩
theorem qf_X10_41 : x_in (x_fl false RX10 41 RX10 TX10 10) := ⟨List.mem_of_getElem? (i := 1113) (by decide +kernel), Or.inl (by decide +kernel)⟩
theorem qf_X10_208 : x_in (x_fl false RX10 208 RX10 TX10 65) := ⟨List.mem_of_getElem? (i := 1168) (by decide +kernel), Or.inl (by decide +kernel)⟩
theorem qf_X10_135 : x_in (x_fl false RX10 135 RX10 TX10 41) := ⟨List.mem_of_getElem? (i := 1144) (by decide +kernel), Or.inl (by decide +kernel)⟩
theorem qf_X10_211 : x_in (x_fl false RX10 211 RX10 TX10 66) := ⟨List.mem_of_getElem? (i := 1169) (by decide +kernel), Or.inl (by decide +kernel)⟩
theorem qf_X10_138 : x_in (x_fl false RX10 138 RX10 TX10 42) := ⟨List.mem_of_getElem? (i := 1145) (by decide +kernel), Or.inl (by decide +kernel)⟩
theorem qf_X10_214 : x_in (x_fl false RX10 214 RX10 TX10 67) := ⟨List.mem_of_getElem? (i := 1170) (by decide +kernel), Or.inl (by decide +kernel)⟩
theorem qf_X10_147 : x_in (x_fl false RX10 147 RX10 TX10 45) := ⟨List.mem_of_getElem? (i := 1148) (by decide +kernel), Or.inl (by decide +kernel)⟩
theorem qf_X10_217 : x_in (x_fl false RX10 217 RX10 TX10 68) := ⟨List.mem_of_getElem? (i := 1171) (by decide +kernel), Or.inl (by decide +kernel)⟩
theorem qf_X10_150 : x_in (x_fl false RX10 150 RX10 TX10 46) := ⟨List.mem_of_getElem? (i := 1149) (by decide +kernel), Or.inl (by decide +kernel)⟩
theorem qf_X10_220 : x_in (x_fl false RX10 220 RX10 TX10 69) := ⟨List.mem_of_getElem? (i := 1172) (by decide +kernel), Or.inl (by decide +kernel)⟩
theorem qf_X10_223 : x_in (x_fl false RX10 223 RX10 TX10 70) := ⟨List.mem_of_getElem? (i := 1173) (by decide +kernel), Or.inl (by decide +kernel)⟩
theorem qf_X10_226 : x_in (x_fl false RX10 226 RX10 TX10 71) := ⟨List.mem_of_getElem? (i := 1174) (by decide +kernel), Or.inl (by decide +kernel)⟩
theorem qf_X10_229 : x_in (x_fl false RX10 229 RX10 TX10 72) := ⟨List.mem_of_getElem? (i := 1175) (by decide +kernel), Or.inl (by decide +kernel)⟩
theorem qf_X10_44 : x_in (x_fl false RX10 44 RX10 TX10 11) := ⟨List.mem_of_getElem? (i := 1114) (by decide +kernel), Or.inl (by decide +kernel)⟩
theorem qm_X10_245 : x_in (.methodLink RX10 245 yX10_in) := ⟨List.mem_of_getElem? (i := 1340) (by decide +kernel), Or.inl (by decide +kernel)⟩
theorem qd_X10_in : x_in (.code yX10_in cX10_in 4 (some .boolean)) := ⟨List.mem_of_getElem? (i := 1343) (by decide +kernel), Or.inl (by decide +kernel)⟩
theorem qc_X10 : x_in (.initialized RX10) := ⟨List.mem_of_getElem? (i := 91) (by decide +kernel), Or.inl (by decide +kernel)⟩
theorem qi_X10_in : x_in (.instanceMethod yX10_in) := ⟨List.mem_of_getElem? (i := 1342) (by decide +kernel), Or.inl (by decide +kernel)⟩
theorem qs_X10_in : x_in (.selects RX10 yX10_in yX10_in) := ⟨List.mem_of_getElem? (i := 23) (by decide +kernel), Or.inl (by decide +kernel)⟩
theorem qm_X10_249 : x_in (.methodLink RX10 249 yX10_volumeOf) := ⟨List.mem_of_getElem? (i := 1348) (by decide +kernel), Or.inl (by decide +kernel)⟩
theorem qd_X10_volumeOf : x_in (.code yX10_volumeOf cX10_volumeOf 4 (some .int)) := ⟨List.mem_of_getElem? (i := 1351) (by decide +kernel), Or.inl (by decide +kernel)⟩
theorem qi_X10_volumeOf : x_in (.instanceMethod yX10_volumeOf) := ⟨List.mem_of_getElem? (i := 1350) (by decide +kernel), Or.inl (by decide +kernel)⟩
theorem qs_X10_volumeOf : x_in (.selects RX10 yX10_volumeOf yX10_volumeOf) := ⟨List.mem_of_getElem? (i := 24) (by decide +kernel), Or.inl (by decide +kernel)⟩
theorem qm_X10_260 : x_in (.methodLink RX10 260 yX10_next) := ⟨List.mem_of_getElem? (i := 1396) (by decide +kernel), Or.inl (by decide +kernel)⟩
theorem qd_X10_next : x_in (.code yX10_next cX10_next 1 (some .int)) := ⟨List.mem_of_getElem? (i := 1399) (by decide +kernel), Or.inl (by decide +kernel)⟩
theorem qi_X10_next : x_in (.instanceMethod yX10_next) := ⟨List.mem_of_getElem? (i := 1398) (by decide +kernel), Or.inl (by decide +kernel)⟩
theorem qs_X10_next : x_in (.selects RX10 yX10_next yX10_next) := ⟨List.mem_of_getElem? (i := 30) (by decide +kernel), Or.inl (by decide +kernel)⟩
theorem qf_X10_86 : x_in (x_fl false RX10 86 RX10 TX10 25) := ⟨List.mem_of_getElem? (i := 1128) (by decide +kernel), Or.inl (by decide +kernel)⟩
theorem qf_X10_80 : x_in (x_fl false RX10 80 RX10 TX10 23) := ⟨List.mem_of_getElem? (i := 1126) (by decide +kernel), Or.inl (by decide +kernel)⟩
theorem qm_X10_271 : x_in (.methodLink RX10 271 yX10_emits) := ⟨List.mem_of_getElem? (i := 1432) (by decide +kernel), Or.inl (by decide +kernel)⟩
theorem qd_X10_emits : x_in (.code yX10_emits cX10_emits 2 none) := ⟨List.mem_of_getElem? (i := 1435) (by decide +kernel), Or.inl (by decide +kernel)⟩
theorem qi_X10_emits : x_in (.instanceMethod yX10_emits) := ⟨List.mem_of_getElem? (i := 1434) (by decide +kernel), Or.inl (by decide +kernel)⟩
theorem qs_X10_emits : x_in (.selects RX10 yX10_emits yX10_emits) := ⟨List.mem_of_getElem? (i := 39) (by decide +kernel), Or.inl (by decide +kernel)⟩
theorem qf_X10_89 : x_in (x_fl false RX10 89 RX10 TX10 26) := ⟨List.mem_of_getElem? (i := 1129) (by decide +kernel), Or.inl (by decide +kernel)⟩
theorem qm_X10_309 : x_in (.methodLink RX10 309 yX10_begin) := ⟨List.mem_of_getElem? (i := 1460) (by decide +kernel), Or.inl (by decide +kernel)⟩
theorem qd_X10_begin : x_in (.code yX10_begin cX10_begin 1 (some .int)) := ⟨List.mem_of_getElem? (i := 1463) (by decide +kernel), Or.inl (by decide +kernel)⟩
theorem qi_X10_begin : x_in (.instanceMethod yX10_begin) := ⟨List.mem_of_getElem? (i := 1462) (by decide +kernel), Or.inl (by decide +kernel)⟩
theorem qs_X10_begin : x_in (.selects RX10 yX10_begin yX10_begin) := ⟨List.mem_of_getElem? (i := 45) (by decide +kernel), Or.inl (by decide +kernel)⟩
theorem qm_X10_312 : x_in (.methodLink RX10 312 yX10_behind) := ⟨List.mem_of_getElem? (i := 1464) (by decide +kernel), Or.inl (by decide +kernel)⟩
theorem qd_X10_behind : x_in (.code yX10_behind cX10_behind 1 (some .int)) := ⟨List.mem_of_getElem? (i := 1467) (by decide +kernel), Or.inl (by decide +kernel)⟩
theorem qi_X10_behind : x_in (.instanceMethod yX10_behind) := ⟨List.mem_of_getElem? (i := 1466) (by decide +kernel), Or.inl (by decide +kernel)⟩
theorem qs_X10_behind : x_in (.selects RX10 yX10_behind yX10_behind) := ⟨List.mem_of_getElem? (i := 46) (by decide +kernel), Or.inl (by decide +kernel)⟩
theorem qf_X10_65 : x_in (x_fl false RX10 65 RX10 TX10 18) := ⟨List.mem_of_getElem? (i := 1121) (by decide +kernel), Or.inl (by decide +kernel)⟩
theorem qf_X10_68 : x_in (x_fl false RX10 68 RX10 TX10 19) := ⟨List.mem_of_getElem? (i := 1122) (by decide +kernel), Or.inl (by decide +kernel)⟩
theorem qf_X10_71 : x_in (x_fl false RX10 71 RX10 TX10 20) := ⟨List.mem_of_getElem? (i := 1123) (by decide +kernel), Or.inl (by decide +kernel)⟩
theorem qf_X10_74 : x_in (x_fl false RX10 74 RX10 TX10 21) := ⟨List.mem_of_getElem? (i := 1124) (by decide +kernel), Or.inl (by decide +kernel)⟩
theorem qf_X10_95 : x_in (x_fl false RX10 95 RX10 TX10 28) := ⟨List.mem_of_getElem? (i := 1131) (by decide +kernel), Or.inl (by decide +kernel)⟩
theorem qm_X10_319 : x_in (.methodLink RX10 319 yX10_factOf) := ⟨List.mem_of_getElem? (i := 1488) (by decide +kernel), Or.inl (by decide +kernel)⟩
theorem qd_X10_factOf : x_in (.code yX10_factOf cX10_factOf 3 (some .int)) := ⟨List.mem_of_getElem? (i := 1491) (by decide +kernel), Or.inl (by decide +kernel)⟩
theorem qi_X10_factOf : x_in (.instanceMethod yX10_factOf) := ⟨List.mem_of_getElem? (i := 1490) (by decide +kernel), Or.inl (by decide +kernel)⟩
theorem qs_X10_factOf : x_in (.selects RX10 yX10_factOf yX10_factOf) := ⟨List.mem_of_getElem? (i := 52) (by decide +kernel), Or.inl (by decide +kernel)⟩
theorem qm_X10_325 : x_in (.methodLink RX10 325 yX10_levelOf) := ⟨List.mem_of_getElem? (i := 1472) (by decide +kernel), Or.inl (by decide +kernel)⟩
theorem qd_X10_levelOf : x_in (.code yX10_levelOf cX10_levelOf 4 (some .int)) := ⟨List.mem_of_getElem? (i := 1475) (by decide +kernel), Or.inl (by decide +kernel)⟩
theorem qi_X10_levelOf : x_in (.instanceMethod yX10_levelOf) := ⟨List.mem_of_getElem? (i := 1474) (by decide +kernel), Or.inl (by decide +kernel)⟩
theorem qs_X10_levelOf : x_in (.selects RX10 yX10_levelOf yX10_levelOf) := ⟨List.mem_of_getElem? (i := 48) (by decide +kernel), Or.inl (by decide +kernel)⟩
theorem qm_X10_322 : x_in (.methodLink RX10 322 yX10_liftsOf) := ⟨List.mem_of_getElem? (i := 1448) (by decide +kernel), Or.inl (by decide +kernel)⟩
theorem qd_X10_liftsOf : x_in (.code yX10_liftsOf cX10_liftsOf 2 (some .int)) := ⟨List.mem_of_getElem? (i := 1451) (by decide +kernel), Or.inl (by decide +kernel)⟩
theorem qi_X10_liftsOf : x_in (.instanceMethod yX10_liftsOf) := ⟨List.mem_of_getElem? (i := 1450) (by decide +kernel), Or.inl (by decide +kernel)⟩
theorem qs_X10_liftsOf : x_in (.selects RX10 yX10_liftsOf yX10_liftsOf) := ⟨List.mem_of_getElem? (i := 42) (by decide +kernel), Or.inl (by decide +kernel)⟩
theorem qm_X10_386 : x_in (.methodLink RX10 386 yX10_divisor) := ⟨List.mem_of_getElem? (i := 1600) (by decide +kernel), Or.inl (by decide +kernel)⟩
theorem qd_X10_divisor : x_in (.code yX10_divisor cX10_divisor 6 (some .int)) := ⟨List.mem_of_getElem? (i := 1603) (by decide +kernel), Or.inl (by decide +kernel)⟩
theorem qi_X10_divisor : x_in (.instanceMethod yX10_divisor) := ⟨List.mem_of_getElem? (i := 1602) (by decide +kernel), Or.inl (by decide +kernel)⟩
theorem qs_X10_divisor : x_in (.selects RX10 yX10_divisor yX10_divisor) := ⟨List.mem_of_getElem? (i := 67) (by decide +kernel), Or.inl (by decide +kernel)⟩
theorem qm_X10_401 : x_in (.methodLink RX10 401 yX10_body) := ⟨List.mem_of_getElem? (i := 1672) (by decide +kernel), Or.inl (by decide +kernel)⟩
theorem qd_X10_body : x_in (.code yX10_body cX10_body 2 none) := ⟨List.mem_of_getElem? (i := 1675) (by decide +kernel), Or.inl (by decide +kernel)⟩
theorem qi_X10_body : x_in (.instanceMethod yX10_body) := ⟨List.mem_of_getElem? (i := 1674) (by decide +kernel), Or.inl (by decide +kernel)⟩
theorem qs_X10_body : x_in (.selects RX10 yX10_body yX10_body) := ⟨List.mem_of_getElem? (i := 71) (by decide +kernel), Or.inl (by decide +kernel)⟩
theorem qm_X10_253 : x_in (.methodLink RX10 253 yX10_isDaily) := ⟨List.mem_of_getElem? (i := 1356) (by decide +kernel), Or.inl (by decide +kernel)⟩
theorem qd_X10_isDaily : x_in (.code yX10_isDaily cX10_isDaily 2 (some .boolean)) := ⟨List.mem_of_getElem? (i := 1359) (by decide +kernel), Or.inl (by decide +kernel)⟩
theorem qi_X10_isDaily : x_in (.instanceMethod yX10_isDaily) := ⟨List.mem_of_getElem? (i := 1358) (by decide +kernel), Or.inl (by decide +kernel)⟩
theorem qs_X10_isDaily : x_in (.selects RX10 yX10_isDaily yX10_isDaily) := ⟨List.mem_of_getElem? (i := 25) (by decide +kernel), Or.inl (by decide +kernel)⟩
theorem qm_X10_257 : x_in (.methodLink RX10 257 yX10_isAccount) := ⟨List.mem_of_getElem? (i := 1364) (by decide +kernel), Or.inl (by decide +kernel)⟩
theorem qd_X10_isAccount : x_in (.code yX10_isAccount cX10_isAccount 2 (some .boolean)) := ⟨List.mem_of_getElem? (i := 1367) (by decide +kernel), Or.inl (by decide +kernel)⟩
theorem qi_X10_isAccount : x_in (.instanceMethod yX10_isAccount) := ⟨List.mem_of_getElem? (i := 1366) (by decide +kernel), Or.inl (by decide +kernel)⟩
theorem qs_X10_isAccount : x_in (.selects RX10 yX10_isAccount yX10_isAccount) := ⟨List.mem_of_getElem? (i := 26) (by decide +kernel), Or.inl (by decide +kernel)⟩
theorem qm_X10_264 : x_in (.methodLink RX10 264 yX10_takes) := ⟨List.mem_of_getElem? (i := 1404) (by decide +kernel), Or.inl (by decide +kernel)⟩
theorem qd_X10_takes : x_in (.code yX10_takes cX10_takes 2 (some .boolean)) := ⟨List.mem_of_getElem? (i := 1407) (by decide +kernel), Or.inl (by decide +kernel)⟩
theorem qi_X10_takes : x_in (.instanceMethod yX10_takes) := ⟨List.mem_of_getElem? (i := 1406) (by decide +kernel), Or.inl (by decide +kernel)⟩
theorem qs_X10_takes : x_in (.selects RX10 yX10_takes yX10_takes) := ⟨List.mem_of_getElem? (i := 32) (by decide +kernel), Or.inl (by decide +kernel)⟩
theorem qf_X10_92 : x_in (x_fl false RX10 92 RX10 TX10 27) := ⟨List.mem_of_getElem? (i := 1130) (by decide +kernel), Or.inl (by decide +kernel)⟩
theorem qm_X10_267 : x_in (.methodLink RX10 267 yX10_isDigit) := ⟨List.mem_of_getElem? (i := 1416) (by decide +kernel), Or.inl (by decide +kernel)⟩
theorem qd_X10_isDigit : x_in (.code yX10_isDigit cX10_isDigit 1 (some .boolean)) := ⟨List.mem_of_getElem? (i := 1419) (by decide +kernel), Or.inl (by decide +kernel)⟩
theorem qi_X10_isDigit : x_in (.instanceMethod yX10_isDigit) := ⟨List.mem_of_getElem? (i := 1418) (by decide +kernel), Or.inl (by decide +kernel)⟩
theorem qs_X10_isDigit : x_in (.selects RX10 yX10_isDigit yX10_isDigit) := ⟨List.mem_of_getElem? (i := 35) (by decide +kernel), Or.inl (by decide +kernel)⟩
theorem qf_X10_56 : x_in (x_fl false RX10 56 RX10 TX10 15) := ⟨List.mem_of_getElem? (i := 1118) (by decide +kernel), Or.inl (by decide +kernel)⟩
theorem qm_X10_315 : x_in (.methodLink RX10 315 yX10_lastOf) := ⟨List.mem_of_getElem? (i := 1456) (by decide +kernel), Or.inl (by decide +kernel)⟩
theorem qd_X10_lastOf : x_in (.code yX10_lastOf cX10_lastOf 5 (some .int)) := ⟨List.mem_of_getElem? (i := 1459) (by decide +kernel), Or.inl (by decide +kernel)⟩
theorem qi_X10_lastOf : x_in (.instanceMethod yX10_lastOf) := ⟨List.mem_of_getElem? (i := 1458) (by decide +kernel), Or.inl (by decide +kernel)⟩
theorem qs_X10_lastOf : x_in (.selects RX10 yX10_lastOf yX10_lastOf) := ⟨List.mem_of_getElem? (i := 44) (by decide +kernel), Or.inl (by decide +kernel)⟩
theorem qm_X10_328 : x_in (.methodLink RX10 328 yX10_level) := ⟨List.mem_of_getElem? (i := 1468) (by decide +kernel), Or.inl (by decide +kernel)⟩
theorem qd_X10_level : x_in (.code yX10_level cX10_level 3 (some .int)) := ⟨List.mem_of_getElem? (i := 1471) (by decide +kernel), Or.inl (by decide +kernel)⟩
theorem qi_X10_level : x_in (.instanceMethod yX10_level) := ⟨List.mem_of_getElem? (i := 1470) (by decide +kernel), Or.inl (by decide +kernel)⟩
theorem qs_X10_level : x_in (.selects RX10 yX10_level yX10_level) := ⟨List.mem_of_getElem? (i := 47) (by decide +kernel), Or.inl (by decide +kernel)⟩
theorem qm_X10_331 : x_in (.methodLink RX10 331 yX10_holds) := ⟨List.mem_of_getElem? (i := 1484) (by decide +kernel), Or.inl (by decide +kernel)⟩
theorem qd_X10_holds : x_in (.code yX10_holds cX10_holds 8 (some .boolean)) := ⟨List.mem_of_getElem? (i := 1487) (by decide +kernel), Or.inl (by decide +kernel)⟩
theorem qi_X10_holds : x_in (.instanceMethod yX10_holds) := ⟨List.mem_of_getElem? (i := 1486) (by decide +kernel), Or.inl (by decide +kernel)⟩
theorem qs_X10_holds : x_in (.selects RX10 yX10_holds yX10_holds) := ⟨List.mem_of_getElem? (i := 51) (by decide +kernel), Or.inl (by decide +kernel)⟩
theorem qm_X10_398 : x_in (.methodLink RX10 398 yX10_isTape) := ⟨List.mem_of_getElem? (i := 1652) (by decide +kernel), Or.inl (by decide +kernel)⟩
theorem qd_X10_isTape : x_in (.code yX10_isTape cX10_isTape 2 (some .boolean)) := ⟨List.mem_of_getElem? (i := 1655) (by decide +kernel), Or.inl (by decide +kernel)⟩
theorem qi_X10_isTape : x_in (.instanceMethod yX10_isTape) := ⟨List.mem_of_getElem? (i := 1654) (by decide +kernel), Or.inl (by decide +kernel)⟩
theorem qs_X10_isTape : x_in (.selects RX10 yX10_isTape yX10_isTape) := ⟨List.mem_of_getElem? (i := 69) (by decide +kernel), Or.inl (by decide +kernel)⟩
theorem qf_X10_232 : x_in (x_fl false RX10 232 RX10 TX10 73) := ⟨List.mem_of_getElem? (i := 1176) (by decide +kernel), Or.inl (by decide +kernel)⟩
theorem qf_X10_235 : x_in (x_fl false RX10 235 RX10 TX10 74) := ⟨List.mem_of_getElem? (i := 1177) (by decide +kernel), Or.inl (by decide +kernel)⟩
theorem qf_X10_238 : x_in (x_fl false RX10 238 RX10 TX10 75) := ⟨List.mem_of_getElem? (i := 1178) (by decide +kernel), Or.inl (by decide +kernel)⟩
theorem qm_X10_404 : x_in (.methodLink RX10 404 yX10_accountKeeps) := ⟨List.mem_of_getElem? (i := 1676) (by decide +kernel), Or.inl (by decide +kernel)⟩
theorem qd_X10_accountKeeps : x_in (.code yX10_accountKeeps cX10_accountKeeps 3 (some .int)) := ⟨List.mem_of_getElem? (i := 1679) (by decide +kernel), Or.inl (by decide +kernel)⟩
theorem qi_X10_accountKeeps : x_in (.instanceMethod yX10_accountKeeps) := ⟨List.mem_of_getElem? (i := 1678) (by decide +kernel), Or.inl (by decide +kernel)⟩
theorem qs_X10_accountKeeps : x_in (.selects RX10 yX10_accountKeeps yX10_accountKeeps) := ⟨List.mem_of_getElem? (i := 72) (by decide +kernel), Or.inl (by decide +kernel)⟩
theorem qm_X10_425 : x_in (.methodLink RX10 425 yX10_narrow) := ⟨List.mem_of_getElem? (i := 1720) (by decide +kernel), Or.inl (by decide +kernel)⟩
theorem qd_X10_narrow : x_in (.code yX10_narrow cX10_narrow 4 (some .long)) := ⟨List.mem_of_getElem? (i := 1723) (by decide +kernel), Or.inl (by decide +kernel)⟩
theorem qi_X10_narrow : x_in (.instanceMethod yX10_narrow) := ⟨List.mem_of_getElem? (i := 1722) (by decide +kernel), Or.inl (by decide +kernel)⟩
theorem qs_X10_narrow : x_in (.selects RX10 yX10_narrow yX10_narrow) := ⟨List.mem_of_getElem? (i := 78) (by decide +kernel), Or.inl (by decide +kernel)⟩
theorem qk_X10_389 : x_in (.constantLong RX10 389 (-9223372036854775808)) := ⟨List.mem_of_getElem? (i := 1595) (by decide +kernel), Or.inl (by decide +kernel)⟩
theorem qf_X10_242 : x_in (x_fl false RX10 242 RX10 TX10 76) := ⟨List.mem_of_getElem? (i := 1179) (by decide +kernel), Or.inl (by decide +kernel)⟩
theorem qm_X10_275 : x_in (.methodLink RX10 275 yX10_place) := ⟨List.mem_of_getElem? (i := 1428) (by decide +kernel), Or.inl (by decide +kernel)⟩
theorem qd_X10_place : x_in (.code yX10_place cX10_place 2 (some .int)) := ⟨List.mem_of_getElem? (i := 1431) (by decide +kernel), Or.inl (by decide +kernel)⟩
theorem qi_X10_place : x_in (.instanceMethod yX10_place) := ⟨List.mem_of_getElem? (i := 1430) (by decide +kernel), Or.inl (by decide +kernel)⟩
theorem qs_X10_place : x_in (.selects RX10 yX10_place yX10_place) := ⟨List.mem_of_getElem? (i := 38) (by decide +kernel), Or.inl (by decide +kernel)⟩
theorem qm_X10_278 : x_in (.methodLink RX10 278 yX10_takesNumber) := ⟨List.mem_of_getElem? (i := 1412) (by decide +kernel), Or.inl (by decide +kernel)⟩
theorem qd_X10_takesNumber : x_in (.code yX10_takesNumber cX10_takesNumber 2 (some .boolean)) := ⟨List.mem_of_getElem? (i := 1415) (by decide +kernel), Or.inl (by decide +kernel)⟩
theorem qi_X10_takesNumber : x_in (.instanceMethod yX10_takesNumber) := ⟨List.mem_of_getElem? (i := 1414) (by decide +kernel), Or.inl (by decide +kernel)⟩
theorem qs_X10_takesNumber : x_in (.selects RX10 yX10_takesNumber yX10_takesNumber) := ⟨List.mem_of_getElem? (i := 34) (by decide +kernel), Or.inl (by decide +kernel)⟩
theorem qm_X10_281 : x_in (.methodLink RX10 281 yX10_whole) := ⟨List.mem_of_getElem? (i := 1436) (by decide +kernel), Or.inl (by decide +kernel)⟩
theorem qd_X10_whole : x_in (.code yX10_whole cX10_whole 1 none) := ⟨List.mem_of_getElem? (i := 1439) (by decide +kernel), Or.inl (by decide +kernel)⟩
theorem qi_X10_whole : x_in (.instanceMethod yX10_whole) := ⟨List.mem_of_getElem? (i := 1438) (by decide +kernel), Or.inl (by decide +kernel)⟩
theorem qs_X10_whole : x_in (.selects RX10 yX10_whole yX10_whole) := ⟨List.mem_of_getElem? (i := 40) (by decide +kernel), Or.inl (by decide +kernel)⟩
theorem qm_X10_290 : x_in (.methodLink RX10 290 yX10_takesWord) := ⟨List.mem_of_getElem? (i := 1400) (by decide +kernel), Or.inl (by decide +kernel)⟩
theorem qd_X10_takesWord : x_in (.code yX10_takesWord cX10_takesWord 4 (some .boolean)) := ⟨List.mem_of_getElem? (i := 1403) (by decide +kernel), Or.inl (by decide +kernel)⟩
theorem qi_X10_takesWord : x_in (.instanceMethod yX10_takesWord) := ⟨List.mem_of_getElem? (i := 1402) (by decide +kernel), Or.inl (by decide +kernel)⟩
theorem qs_X10_takesWord : x_in (.selects RX10 yX10_takesWord yX10_takesWord) := ⟨List.mem_of_getElem? (i := 31) (by decide +kernel), Or.inl (by decide +kernel)⟩
theorem qm_X10_294 : x_in (.methodLink RX10 294 yX10_second) := ⟨List.mem_of_getElem? (i := 1408) (by decide +kernel), Or.inl (by decide +kernel)⟩
theorem qd_X10_second : x_in (.code yX10_second cX10_second 1 (some .int)) := ⟨List.mem_of_getElem? (i := 1411) (by decide +kernel), Or.inl (by decide +kernel)⟩
theorem qi_X10_second : x_in (.instanceMethod yX10_second) := ⟨List.mem_of_getElem? (i := 1410) (by decide +kernel), Or.inl (by decide +kernel)⟩
theorem qs_X10_second : x_in (.selects RX10 yX10_second yX10_second) := ⟨List.mem_of_getElem? (i := 33) (by decide +kernel), Or.inl (by decide +kernel)⟩
theorem qf_X10_108 : x_in (x_fl false RX10 108 RX10 TX10 32) := ⟨List.mem_of_getElem? (i := 1135) (by decide +kernel), Or.inl (by decide +kernel)⟩
theorem qm_X10_334 : x_in (.methodLink RX10 334 yX10_sumOf) := ⟨List.mem_of_getElem? (i := 1480) (by decide +kernel), Or.inl (by decide +kernel)⟩
theorem qd_X10_sumOf : x_in (.code yX10_sumOf cX10_sumOf 5 (some .int)) := ⟨List.mem_of_getElem? (i := 1483) (by decide +kernel), Or.inl (by decide +kernel)⟩
theorem qi_X10_sumOf : x_in (.instanceMethod yX10_sumOf) := ⟨List.mem_of_getElem? (i := 1482) (by decide +kernel), Or.inl (by decide +kernel)⟩
theorem qs_X10_sumOf : x_in (.selects RX10 yX10_sumOf yX10_sumOf) := ⟨List.mem_of_getElem? (i := 50) (by decide +kernel), Or.inl (by decide +kernel)⟩
theorem qf_X10_105 : x_in (x_fl false RX10 105 RX10 TX10 31) := ⟨List.mem_of_getElem? (i := 1134) (by decide +kernel), Or.inl (by decide +kernel)⟩
theorem qm_X10_346 : x_in (.methodLink RX10 346 yX10_floor) := ⟨List.mem_of_getElem? (i := 1500) (by decide +kernel), Or.inl (by decide +kernel)⟩
theorem qd_X10_floor : x_in (.code yX10_floor cX10_floor 2 (some .int)) := ⟨List.mem_of_getElem? (i := 1503) (by decide +kernel), Or.inl (by decide +kernel)⟩
theorem qi_X10_floor : x_in (.instanceMethod yX10_floor) := ⟨List.mem_of_getElem? (i := 1502) (by decide +kernel), Or.inl (by decide +kernel)⟩
theorem qs_X10_floor : x_in (.selects RX10 yX10_floor yX10_floor) := ⟨List.mem_of_getElem? (i := 54) (by decide +kernel), Or.inl (by decide +kernel)⟩
theorem qm_X10_407 : x_in (.methodLink RX10 407 yX10_keepsAct) := ⟨List.mem_of_getElem? (i := 1668) (by decide +kernel), Or.inl (by decide +kernel)⟩
theorem qd_X10_keepsAct : x_in (.code yX10_keepsAct cX10_keepsAct 3 (some .int)) := ⟨List.mem_of_getElem? (i := 1671) (by decide +kernel), Or.inl (by decide +kernel)⟩
theorem qi_X10_keepsAct : x_in (.instanceMethod yX10_keepsAct) := ⟨List.mem_of_getElem? (i := 1670) (by decide +kernel), Or.inl (by decide +kernel)⟩
theorem qs_X10_keepsAct : x_in (.selects RX10 yX10_keepsAct yX10_keepsAct) := ⟨List.mem_of_getElem? (i := 70) (by decide +kernel), Or.inl (by decide +kernel)⟩
theorem qm_X10_287 : x_in (.methodLink RX10 287 yX10_settle) := ⟨List.mem_of_getElem? (i := 1440) (by decide +kernel), Or.inl (by decide +kernel)⟩
theorem qd_X10_settle : x_in (.code yX10_settle cX10_settle 2 none) := ⟨List.mem_of_getElem? (i := 1443) (by decide +kernel), Or.inl (by decide +kernel)⟩
theorem qi_X10_settle : x_in (.instanceMethod yX10_settle) := ⟨List.mem_of_getElem? (i := 1442) (by decide +kernel), Or.inl (by decide +kernel)⟩
theorem qs_X10_settle : x_in (.selects RX10 yX10_settle yX10_settle) := ⟨List.mem_of_getElem? (i := 41) (by decide +kernel), Or.inl (by decide +kernel)⟩
theorem qm_X10_284 : x_in (.methodLink RX10 284 yX10_takesTest) := ⟨List.mem_of_getElem? (i := 1424) (by decide +kernel), Or.inl (by decide +kernel)⟩
theorem qd_X10_takesTest : x_in (.code yX10_takesTest cX10_takesTest 3 (some .boolean)) := ⟨List.mem_of_getElem? (i := 1427) (by decide +kernel), Or.inl (by decide +kernel)⟩
theorem qi_X10_takesTest : x_in (.instanceMethod yX10_takesTest) := ⟨List.mem_of_getElem? (i := 1426) (by decide +kernel), Or.inl (by decide +kernel)⟩
theorem qs_X10_takesTest : x_in (.selects RX10 yX10_takesTest yX10_takesTest) := ⟨List.mem_of_getElem? (i := 37) (by decide +kernel), Or.inl (by decide +kernel)⟩
theorem qm_X10_337 : x_in (.methodLink RX10 337 yX10_poursOf) := ⟨List.mem_of_getElem? (i := 1452) (by decide +kernel), Or.inl (by decide +kernel)⟩
theorem qd_X10_poursOf : x_in (.code yX10_poursOf cX10_poursOf 3 (some .int)) := ⟨List.mem_of_getElem? (i := 1455) (by decide +kernel), Or.inl (by decide +kernel)⟩
theorem qi_X10_poursOf : x_in (.instanceMethod yX10_poursOf) := ⟨List.mem_of_getElem? (i := 1454) (by decide +kernel), Or.inl (by decide +kernel)⟩
theorem qs_X10_poursOf : x_in (.selects RX10 yX10_poursOf yX10_poursOf) := ⟨List.mem_of_getElem? (i := 43) (by decide +kernel), Or.inl (by decide +kernel)⟩
theorem qm_X10_340 : x_in (.methodLink RX10 340 yX10_sunOf) := ⟨List.mem_of_getElem? (i := 1476) (by decide +kernel), Or.inl (by decide +kernel)⟩
theorem qd_X10_sunOf : x_in (.code yX10_sunOf cX10_sunOf 2 (some .int)) := ⟨List.mem_of_getElem? (i := 1479) (by decide +kernel), Or.inl (by decide +kernel)⟩
theorem qi_X10_sunOf : x_in (.instanceMethod yX10_sunOf) := ⟨List.mem_of_getElem? (i := 1478) (by decide +kernel), Or.inl (by decide +kernel)⟩
theorem qs_X10_sunOf : x_in (.selects RX10 yX10_sunOf yX10_sunOf) := ⟨List.mem_of_getElem? (i := 49) (by decide +kernel), Or.inl (by decide +kernel)⟩
theorem qm_X10_343 : x_in (.methodLink RX10 343 yX10_mark) := ⟨List.mem_of_getElem? (i := 1496) (by decide +kernel), Or.inl (by decide +kernel)⟩
theorem qd_X10_mark : x_in (.code yX10_mark cX10_mark 2 (some .int)) := ⟨List.mem_of_getElem? (i := 1499) (by decide +kernel), Or.inl (by decide +kernel)⟩
theorem qi_X10_mark : x_in (.instanceMethod yX10_mark) := ⟨List.mem_of_getElem? (i := 1498) (by decide +kernel), Or.inl (by decide +kernel)⟩
theorem qs_X10_mark : x_in (.selects RX10 yX10_mark yX10_mark) := ⟨List.mem_of_getElem? (i := 53) (by decide +kernel), Or.inl (by decide +kernel)⟩
theorem qm_X10_349 : x_in (.methodLink RX10 349 yX10_spring) := ⟨List.mem_of_getElem? (i := 1504) (by decide +kernel), Or.inl (by decide +kernel)⟩
theorem qd_X10_spring : x_in (.code yX10_spring cX10_spring 1 (some .int)) := ⟨List.mem_of_getElem? (i := 1507) (by decide +kernel), Or.inl (by decide +kernel)⟩
theorem qi_X10_spring : x_in (.instanceMethod yX10_spring) := ⟨List.mem_of_getElem? (i := 1506) (by decide +kernel), Or.inl (by decide +kernel)⟩
theorem qs_X10_spring : x_in (.selects RX10 yX10_spring yX10_spring) := ⟨List.mem_of_getElem? (i := 55) (by decide +kernel), Or.inl (by decide +kernel)⟩
theorem qf_X10_111 : x_in (x_fl false RX10 111 RX10 TX10 33) := ⟨List.mem_of_getElem? (i := 1136) (by decide +kernel), Or.inl (by decide +kernel)⟩
theorem qf_X10_114 : x_in (x_fl false RX10 114 RX10 TX10 34) := ⟨List.mem_of_getElem? (i := 1137) (by decide +kernel), Or.inl (by decide +kernel)⟩
theorem qm_X10_352 : x_in (.methodLink RX10 352 yX10_pours) := ⟨List.mem_of_getElem? (i := 1516) (by decide +kernel), Or.inl (by decide +kernel)⟩
theorem qd_X10_pours : x_in (.code yX10_pours cX10_pours 5 none) := ⟨List.mem_of_getElem? (i := 1519) (by decide +kernel), Or.inl (by decide +kernel)⟩
theorem qi_X10_pours : x_in (.instanceMethod yX10_pours) := ⟨List.mem_of_getElem? (i := 1518) (by decide +kernel), Or.inl (by decide +kernel)⟩
theorem qs_X10_pours : x_in (.selects RX10 yX10_pours yX10_pours) := ⟨List.mem_of_getElem? (i := 57) (by decide +kernel), Or.inl (by decide +kernel)⟩
theorem qm_X10_357 : x_in (.methodLink RX10 357 yX10_held) := ⟨List.mem_of_getElem? (i := 1521) (by decide +kernel), Or.inl (by decide +kernel)⟩
theorem qd_X10_held : x_in (.code yX10_held cX10_held 2 (some .int)) := ⟨List.mem_of_getElem? (i := 1524) (by decide +kernel), Or.inl (by decide +kernel)⟩
theorem qi_X10_held : x_in (.instanceMethod yX10_held) := ⟨List.mem_of_getElem? (i := 1523) (by decide +kernel), Or.inl (by decide +kernel)⟩
theorem qs_X10_held : x_in (.selects RX10 yX10_held yX10_held) := ⟨List.mem_of_getElem? (i := 58) (by decide +kernel), Or.inl (by decide +kernel)⟩
theorem qk_X10_356 : x_in (.constant RX10 356 (99999)) := ⟨List.mem_of_getElem? (i := 1520) (by decide +kernel), Or.inl (by decide +kernel)⟩
theorem qm_X10_410 : x_in (.methodLink RX10 410 yX10_accountPours) := ⟨List.mem_of_getElem? (i := 1688) (by decide +kernel), Or.inl (by decide +kernel)⟩
theorem qd_X10_accountPours : x_in (.code yX10_accountPours cX10_accountPours 3 (some .int)) := ⟨List.mem_of_getElem? (i := 1691) (by decide +kernel), Or.inl (by decide +kernel)⟩
theorem qi_X10_accountPours : x_in (.instanceMethod yX10_accountPours) := ⟨List.mem_of_getElem? (i := 1690) (by decide +kernel), Or.inl (by decide +kernel)⟩
theorem qs_X10_accountPours : x_in (.selects RX10 yX10_accountPours yX10_accountPours) := ⟨List.mem_of_getElem? (i := 75) (by decide +kernel), Or.inl (by decide +kernel)⟩
theorem qm_X10_297 : x_in (.methodLink RX10 297 yX10_takesHead) := ⟨List.mem_of_getElem? (i := 1392) (by decide +kernel), Or.inl (by decide +kernel)⟩
theorem qd_X10_takesHead : x_in (.code yX10_takesHead cX10_takesHead 2 (some .boolean)) := ⟨List.mem_of_getElem? (i := 1395) (by decide +kernel), Or.inl (by decide +kernel)⟩
theorem qi_X10_takesHead : x_in (.instanceMethod yX10_takesHead) := ⟨List.mem_of_getElem? (i := 1394) (by decide +kernel), Or.inl (by decide +kernel)⟩
theorem qs_X10_takesHead : x_in (.selects RX10 yX10_takesHead yX10_takesHead) := ⟨List.mem_of_getElem? (i := 29) (by decide +kernel), Or.inl (by decide +kernel)⟩
theorem qm_X10_300 : x_in (.methodLink RX10 300 yX10_takesE) := ⟨List.mem_of_getElem? (i := 1420) (by decide +kernel), Or.inl (by decide +kernel)⟩
theorem qd_X10_takesE : x_in (.code yX10_takesE cX10_takesE 4 (some .boolean)) := ⟨List.mem_of_getElem? (i := 1423) (by decide +kernel), Or.inl (by decide +kernel)⟩
theorem qi_X10_takesE : x_in (.instanceMethod yX10_takesE) := ⟨List.mem_of_getElem? (i := 1422) (by decide +kernel), Or.inl (by decide +kernel)⟩
theorem qs_X10_takesE : x_in (.selects RX10 yX10_takesE yX10_takesE) := ⟨List.mem_of_getElem? (i := 36) (by decide +kernel), Or.inl (by decide +kernel)⟩
theorem qm_X10_360 : x_in (.methodLink RX10 360 yX10_goDay) := ⟨List.mem_of_getElem? (i := 1512) (by decide +kernel), Or.inl (by decide +kernel)⟩
theorem qd_X10_goDay : x_in (.code yX10_goDay cX10_goDay 4 none) := ⟨List.mem_of_getElem? (i := 1515) (by decide +kernel), Or.inl (by decide +kernel)⟩
theorem qi_X10_goDay : x_in (.instanceMethod yX10_goDay) := ⟨List.mem_of_getElem? (i := 1514) (by decide +kernel), Or.inl (by decide +kernel)⟩
theorem qs_X10_goDay : x_in (.selects RX10 yX10_goDay yX10_goDay) := ⟨List.mem_of_getElem? (i := 56) (by decide +kernel), Or.inl (by decide +kernel)⟩
theorem qm_X10_366 : x_in (.methodLink RX10 366 yX10_save) := ⟨List.mem_of_getElem? (i := 1533) (by decide +kernel), Or.inl (by decide +kernel)⟩
theorem qd_X10_save : x_in (.code yX10_save cX10_save 2 none) := ⟨List.mem_of_getElem? (i := 1536) (by decide +kernel), Or.inl (by decide +kernel)⟩
theorem qi_X10_save : x_in (.instanceMethod yX10_save) := ⟨List.mem_of_getElem? (i := 1535) (by decide +kernel), Or.inl (by decide +kernel)⟩
theorem qs_X10_save : x_in (.selects RX10 yX10_save yX10_save) := ⟨List.mem_of_getElem? (i := 60) (by decide +kernel), Or.inl (by decide +kernel)⟩
theorem qm_X10_372 : x_in (.methodLink RX10 372 yX10_putBack) := ⟨List.mem_of_getElem? (i := 1541) (by decide +kernel), Or.inl (by decide +kernel)⟩
theorem qd_X10_putBack : x_in (.code yX10_putBack cX10_putBack 2 none) := ⟨List.mem_of_getElem? (i := 1544) (by decide +kernel), Or.inl (by decide +kernel)⟩
theorem qi_X10_putBack : x_in (.instanceMethod yX10_putBack) := ⟨List.mem_of_getElem? (i := 1543) (by decide +kernel), Or.inl (by decide +kernel)⟩
theorem qs_X10_putBack : x_in (.selects RX10 yX10_putBack yX10_putBack) := ⟨List.mem_of_getElem? (i := 62) (by decide +kernel), Or.inl (by decide +kernel)⟩
theorem qm_X10_363 : x_in (.methodLink RX10 363 yX10_isDays) := ⟨List.mem_of_getElem? (i := 1529) (by decide +kernel), Or.inl (by decide +kernel)⟩
theorem qd_X10_isDays : x_in (.code yX10_isDays cX10_isDays 2 (some .boolean)) := ⟨List.mem_of_getElem? (i := 1532) (by decide +kernel), Or.inl (by decide +kernel)⟩
theorem qi_X10_isDays : x_in (.instanceMethod yX10_isDays) := ⟨List.mem_of_getElem? (i := 1531) (by decide +kernel), Or.inl (by decide +kernel)⟩
theorem qs_X10_isDays : x_in (.selects RX10 yX10_isDays yX10_isDays) := ⟨List.mem_of_getElem? (i := 59) (by decide +kernel), Or.inl (by decide +kernel)⟩
theorem qm_X10_375 : x_in (.methodLink RX10 375 yX10_below) := ⟨List.mem_of_getElem? (i := 1557) (by decide +kernel), Or.inl (by decide +kernel)⟩
theorem qd_X10_below : x_in (.code yX10_below cX10_below 3 (some .int)) := ⟨List.mem_of_getElem? (i := 1560) (by decide +kernel), Or.inl (by decide +kernel)⟩
theorem qi_X10_below : x_in (.instanceMethod yX10_below) := ⟨List.mem_of_getElem? (i := 1559) (by decide +kernel), Or.inl (by decide +kernel)⟩
theorem qs_X10_below : x_in (.selects RX10 yX10_below yX10_below) := ⟨List.mem_of_getElem? (i := 63) (by decide +kernel), Or.inl (by decide +kernel)⟩
theorem qm_X10_391 : x_in (.methodLink RX10 391 yX10_lowestTerms) := ⟨List.mem_of_getElem? (i := 1596) (by decide +kernel), Or.inl (by decide +kernel)⟩
theorem qd_X10_lowestTerms : x_in (.code yX10_lowestTerms cX10_lowestTerms 5 (some .long)) := ⟨List.mem_of_getElem? (i := 1599) (by decide +kernel), Or.inl (by decide +kernel)⟩
theorem qi_X10_lowestTerms : x_in (.instanceMethod yX10_lowestTerms) := ⟨List.mem_of_getElem? (i := 1598) (by decide +kernel), Or.inl (by decide +kernel)⟩
theorem qs_X10_lowestTerms : x_in (.selects RX10 yX10_lowestTerms yX10_lowestTerms) := ⟨List.mem_of_getElem? (i := 66) (by decide +kernel), Or.inl (by decide +kernel)⟩
theorem qm_X10_413 : x_in (.methodLink RX10 413 yX10_savingPours) := ⟨List.mem_of_getElem? (i := 1684) (by decide +kernel), Or.inl (by decide +kernel)⟩
theorem qd_X10_savingPours : x_in (.code yX10_savingPours cX10_savingPours 3 (some .int)) := ⟨List.mem_of_getElem? (i := 1687) (by decide +kernel), Or.inl (by decide +kernel)⟩
theorem qi_X10_savingPours : x_in (.instanceMethod yX10_savingPours) := ⟨List.mem_of_getElem? (i := 1686) (by decide +kernel), Or.inl (by decide +kernel)⟩
theorem qs_X10_savingPours : x_in (.selects RX10 yX10_savingPours yX10_savingPours) := ⟨List.mem_of_getElem? (i := 74) (by decide +kernel), Or.inl (by decide +kernel)⟩
theorem qm_X10_303 : x_in (.methodLink RX10 303 yX10_takesClause) := ⟨List.mem_of_getElem? (i := 1388) (by decide +kernel), Or.inl (by decide +kernel)⟩
theorem qd_X10_takesClause : x_in (.code yX10_takesClause cX10_takesClause 2 (some .boolean)) := ⟨List.mem_of_getElem? (i := 1391) (by decide +kernel), Or.inl (by decide +kernel)⟩
theorem qi_X10_takesClause : x_in (.instanceMethod yX10_takesClause) := ⟨List.mem_of_getElem? (i := 1390) (by decide +kernel), Or.inl (by decide +kernel)⟩
theorem qs_X10_takesClause : x_in (.selects RX10 yX10_takesClause yX10_takesClause) := ⟨List.mem_of_getElem? (i := 28) (by decide +kernel), Or.inl (by decide +kernel)⟩
theorem qm_X10_369 : x_in (.methodLink RX10 369 yX10_goDays) := ⟨List.mem_of_getElem? (i := 1537) (by decide +kernel), Or.inl (by decide +kernel)⟩
theorem qd_X10_goDays : x_in (.code yX10_goDays cX10_goDays 3 none) := ⟨List.mem_of_getElem? (i := 1540) (by decide +kernel), Or.inl (by decide +kernel)⟩
theorem qi_X10_goDays : x_in (.instanceMethod yX10_goDays) := ⟨List.mem_of_getElem? (i := 1539) (by decide +kernel), Or.inl (by decide +kernel)⟩
theorem qs_X10_goDays : x_in (.selects RX10 yX10_goDays yX10_goDays) := ⟨List.mem_of_getElem? (i := 61) (by decide +kernel), Or.inl (by decide +kernel)⟩
theorem qm_X10_378 : x_in (.methodLink RX10 378 yX10_isAbove) := ⟨List.mem_of_getElem? (i := 1565) (by decide +kernel), Or.inl (by decide +kernel)⟩
theorem qd_X10_isAbove : x_in (.code yX10_isAbove cX10_isAbove 4 (some .boolean)) := ⟨List.mem_of_getElem? (i := 1568) (by decide +kernel), Or.inl (by decide +kernel)⟩
theorem qi_X10_isAbove : x_in (.instanceMethod yX10_isAbove) := ⟨List.mem_of_getElem? (i := 1567) (by decide +kernel), Or.inl (by decide +kernel)⟩
theorem qs_X10_isAbove : x_in (.selects RX10 yX10_isAbove yX10_isAbove) := ⟨List.mem_of_getElem? (i := 64) (by decide +kernel), Or.inl (by decide +kernel)⟩
theorem qm_X10_416 : x_in (.methodLink RX10 416 yX10_poursAct) := ⟨List.mem_of_getElem? (i := 1680) (by decide +kernel), Or.inl (by decide +kernel)⟩
theorem qd_X10_poursAct : x_in (.code yX10_poursAct cX10_poursAct 4 (some .int)) := ⟨List.mem_of_getElem? (i := 1683) (by decide +kernel), Or.inl (by decide +kernel)⟩
theorem qi_X10_poursAct : x_in (.instanceMethod yX10_poursAct) := ⟨List.mem_of_getElem? (i := 1682) (by decide +kernel), Or.inl (by decide +kernel)⟩
theorem qs_X10_poursAct : x_in (.selects RX10 yX10_poursAct yX10_poursAct) := ⟨List.mem_of_getElem? (i := 73) (by decide +kernel), Or.inl (by decide +kernel)⟩
theorem qm_X10_306 : x_in (.methodLink RX10 306 yX10_goesText) := ⟨List.mem_of_getElem? (i := 1384) (by decide +kernel), Or.inl (by decide +kernel)⟩
theorem qd_X10_goesText : x_in (.code yX10_goesText cX10_goesText 3 (some .boolean)) := ⟨List.mem_of_getElem? (i := 1387) (by decide +kernel), Or.inl (by decide +kernel)⟩
theorem qi_X10_goesText : x_in (.instanceMethod yX10_goesText) := ⟨List.mem_of_getElem? (i := 1386) (by decide +kernel), Or.inl (by decide +kernel)⟩
theorem qs_X10_goesText : x_in (.selects RX10 yX10_goesText yX10_goesText) := ⟨List.mem_of_getElem? (i := 27) (by decide +kernel), Or.inl (by decide +kernel)⟩
theorem qm_X10_383 : x_in (.methodLink RX10 383 yX10_waterBehind) := ⟨List.mem_of_getElem? (i := 1583) (by decide +kernel), Or.inl (by decide +kernel)⟩
theorem qd_X10_waterBehind : x_in (.code yX10_waterBehind cX10_waterBehind 3 (some .int)) := ⟨List.mem_of_getElem? (i := 1586) (by decide +kernel), Or.inl (by decide +kernel)⟩
theorem qi_X10_waterBehind : x_in (.instanceMethod yX10_waterBehind) := ⟨List.mem_of_getElem? (i := 1585) (by decide +kernel), Or.inl (by decide +kernel)⟩
theorem qs_X10_waterBehind : x_in (.selects RX10 yX10_waterBehind yX10_waterBehind) := ⟨List.mem_of_getElem? (i := 65) (by decide +kernel), Or.inl (by decide +kernel)⟩
theorem qk_X10_382 : x_in (.constant RX10 382 (-100002)) := ⟨List.mem_of_getElem? (i := 1582) (by decide +kernel), Or.inl (by decide +kernel)⟩
theorem qk_X10_381 : x_in (.constant RX10 381 (-100001)) := ⟨List.mem_of_getElem? (i := 1581) (by decide +kernel), Or.inl (by decide +kernel)⟩
theorem qm_X10_395 : x_in (.methodLink RX10 395 yX10_isSeen) := ⟨List.mem_of_getElem? (i := 1616) (by decide +kernel), Or.inl (by decide +kernel)⟩
theorem qd_X10_isSeen : x_in (.code yX10_isSeen cX10_isSeen 3 (some .boolean)) := ⟨List.mem_of_getElem? (i := 1619) (by decide +kernel), Or.inl (by decide +kernel)⟩
theorem qi_X10_isSeen : x_in (.instanceMethod yX10_isSeen) := ⟨List.mem_of_getElem? (i := 1618) (by decide +kernel), Or.inl (by decide +kernel)⟩
theorem qs_X10_isSeen : x_in (.selects RX10 yX10_isSeen yX10_isSeen) := ⟨List.mem_of_getElem? (i := 68) (by decide +kernel), Or.inl (by decide +kernel)⟩
theorem qm_X10_419 : x_in (.methodLink RX10 419 yX10_accountTells) := ⟨List.mem_of_getElem? (i := 1696) (by decide +kernel), Or.inl (by decide +kernel)⟩
theorem qd_X10_accountTells : x_in (.code yX10_accountTells cX10_accountTells 3 (some .int)) := ⟨List.mem_of_getElem? (i := 1699) (by decide +kernel), Or.inl (by decide +kernel)⟩
theorem qi_X10_accountTells : x_in (.instanceMethod yX10_accountTells) := ⟨List.mem_of_getElem? (i := 1698) (by decide +kernel), Or.inl (by decide +kernel)⟩
theorem qs_X10_accountTells : x_in (.selects RX10 yX10_accountTells yX10_accountTells) := ⟨List.mem_of_getElem? (i := 77) (by decide +kernel), Or.inl (by decide +kernel)⟩
theorem qm_X10_422 : x_in (.methodLink RX10 422 yX10_tellsAct) := ⟨List.mem_of_getElem? (i := 1692) (by decide +kernel), Or.inl (by decide +kernel)⟩
theorem qd_X10_tellsAct : x_in (.code yX10_tellsAct cX10_tellsAct 4 (some .int)) := ⟨List.mem_of_getElem? (i := 1695) (by decide +kernel), Or.inl (by decide +kernel)⟩
theorem qi_X10_tellsAct : x_in (.instanceMethod yX10_tellsAct) := ⟨List.mem_of_getElem? (i := 1694) (by decide +kernel), Or.inl (by decide +kernel)⟩
theorem qs_X10_tellsAct : x_in (.selects RX10 yX10_tellsAct yX10_tellsAct) := ⟨List.mem_of_getElem? (i := 76) (by decide +kernel), Or.inl (by decide +kernel)⟩
theorem qh_J1_canEncode_9a6ad : yJ1_canEncode_9a6ad.cls ≠ "java/lang/invoke/MethodHandle" ∧ yJ1_canEncode_9a6ad.cls ≠ "java/lang/invoke/VarHandle" ∧ (parseMethodDescriptor yJ1_canEncode_9a6ad.desc).map (fun d => d.parameters.length) = some 1 := by decide +kernel
theorem qh_J1_indexOfChar_4cfef : yJ1_indexOfChar_4cfef.cls ≠ "java/lang/invoke/MethodHandle" ∧ yJ1_indexOfChar_4cfef.cls ≠ "java/lang/invoke/VarHandle" ∧ (parseMethodDescriptor yJ1_indexOfChar_4cfef.desc).map (fun d => d.parameters.length) = some 4 := by decide +kernel
theorem qh_J3_checkIndex_8e157 : yJ3_checkIndex_8e157.cls ≠ "java/lang/invoke/MethodHandle" ∧ yJ3_checkIndex_8e157.cls ≠ "java/lang/invoke/VarHandle" ∧ (parseMethodDescriptor yJ3_checkIndex_8e157.desc).map (fun d => d.parameters.length) = some 3 := by decide +kernel
theorem qh_J0_checkIndex_df160 : yJ0_checkIndex_df160.cls ≠ "java/lang/invoke/MethodHandle" ∧ yJ0_checkIndex_df160.cls ≠ "java/lang/invoke/VarHandle" ∧ (parseMethodDescriptor yJ0_checkIndex_df160.desc).map (fun d => d.parameters.length) = some 2 := by decide +kernel
theorem qh_J0_coder_7d493 : yJ0_coder_7d493.cls ≠ "java/lang/invoke/MethodHandle" ∧ yJ0_coder_7d493.cls ≠ "java/lang/invoke/VarHandle" ∧ (parseMethodDescriptor yJ0_coder_7d493.desc).map (fun d => d.parameters.length) = some 0 := by decide +kernel
theorem qh_J0_isLatin1_aae02 : yJ0_isLatin1_aae02.cls ≠ "java/lang/invoke/MethodHandle" ∧ yJ0_isLatin1_aae02.cls ≠ "java/lang/invoke/VarHandle" ∧ (parseMethodDescriptor yJ0_isLatin1_aae02.desc).map (fun d => d.parameters.length) = some 0 := by decide +kernel
theorem qh_J0_length_8abf5 : yJ0_length_8abf5.cls ≠ "java/lang/invoke/MethodHandle" ∧ yJ0_length_8abf5.cls ≠ "java/lang/invoke/VarHandle" ∧ (parseMethodDescriptor yJ0_length_8abf5.desc).map (fun d => d.parameters.length) = some 0 := by decide +kernel
theorem qh_J1_indexOf_4cfef : yJ1_indexOf_4cfef.cls ≠ "java/lang/invoke/MethodHandle" ∧ yJ1_indexOf_4cfef.cls ≠ "java/lang/invoke/VarHandle" ∧ (parseMethodDescriptor yJ1_indexOf_4cfef.desc).map (fun d => d.parameters.length) = some 4 := by decide +kernel
theorem qh_J1_charAt_3b067 : yJ1_charAt_3b067.cls ≠ "java/lang/invoke/MethodHandle" ∧ yJ1_charAt_3b067.cls ≠ "java/lang/invoke/VarHandle" ∧ (parseMethodDescriptor yJ1_charAt_3b067.desc).map (fun d => d.parameters.length) = some 2 := by decide +kernel
theorem qh_J0_indexOf_7cf53 : yJ0_indexOf_7cf53.cls ≠ "java/lang/invoke/MethodHandle" ∧ yJ0_indexOf_7cf53.cls ≠ "java/lang/invoke/VarHandle" ∧ (parseMethodDescriptor yJ0_indexOf_7cf53.desc).map (fun d => d.parameters.length) = some 2 := by decide +kernel
theorem qh_X9_at : yX9_at.cls ≠ "java/lang/invoke/MethodHandle" ∧ yX9_at.cls ≠ "java/lang/invoke/VarHandle" ∧ (parseMethodDescriptor yX9_at.desc).map (fun d => d.parameters.length) = some 2 := by decide +kernel
theorem qh_X9_within : yX9_within.cls ≠ "java/lang/invoke/MethodHandle" ∧ yX9_within.cls ≠ "java/lang/invoke/VarHandle" ∧ (parseMethodDescriptor yX9_within.desc).map (fun d => d.parameters.length) = some 3 := by decide +kernel
theorem qh_X8_cut : yX8_cut.cls ≠ "java/lang/invoke/MethodHandle" ∧ yX8_cut.cls ≠ "java/lang/invoke/VarHandle" ∧ (parseMethodDescriptor yX8_cut.desc).map (fun d => d.parameters.length) = some 1 := by decide +kernel
theorem qh_J9_floorMod_7cf53 : yJ9_floorMod_7cf53.cls ≠ "java/lang/invoke/MethodHandle" ∧ yJ9_floorMod_7cf53.cls ≠ "java/lang/invoke/VarHandle" ∧ (parseMethodDescriptor yJ9_floorMod_7cf53.desc).map (fun d => d.parameters.length) = some 2 := by decide +kernel
theorem qh_X1_bodyOf : yX1_bodyOf.cls ≠ "java/lang/invoke/MethodHandle" ∧ yX1_bodyOf.cls ≠ "java/lang/invoke/VarHandle" ∧ (parseMethodDescriptor yX1_bodyOf.desc).map (fun d => d.parameters.length) = some 2 := by decide +kernel
theorem qh_X9_kindAbove : yX9_kindAbove.cls ≠ "java/lang/invoke/MethodHandle" ∧ yX9_kindAbove.cls ≠ "java/lang/invoke/VarHandle" ∧ (parseMethodDescriptor yX9_kindAbove.desc).map (fun d => d.parameters.length) = some 1 := by decide +kernel
theorem qh_X1_note : yX1_note.cls ≠ "java/lang/invoke/MethodHandle" ∧ yX1_note.cls ≠ "java/lang/invoke/VarHandle" ∧ (parseMethodDescriptor yX1_note.desc).map (fun d => d.parameters.length) = some 1 := by decide +kernel
theorem qh_X1_runBody : yX1_runBody.cls ≠ "java/lang/invoke/MethodHandle" ∧ yX1_runBody.cls ≠ "java/lang/invoke/VarHandle" ∧ (parseMethodDescriptor yX1_runBody.desc).map (fun d => d.parameters.length) = some 5 := by decide +kernel
theorem qh_X1_run : yX1_run.cls ≠ "java/lang/invoke/MethodHandle" ∧ yX1_run.cls ≠ "java/lang/invoke/VarHandle" ∧ (parseMethodDescriptor yX1_run.desc).map (fun d => d.parameters.length) = some 5 := by decide +kernel
theorem qh_X4_tellValues : yX4_tellValues.cls ≠ "java/lang/invoke/MethodHandle" ∧ yX4_tellValues.cls ≠ "java/lang/invoke/VarHandle" ∧ (parseMethodDescriptor yX4_tellValues.desc).map (fun d => d.parameters.length) = some 3 := by decide +kernel
theorem qh_X4_holds : yX4_holds.cls ≠ "java/lang/invoke/MethodHandle" ∧ yX4_holds.cls ≠ "java/lang/invoke/VarHandle" ∧ (parseMethodDescriptor yX4_holds.desc).map (fun d => d.parameters.length) = some 2 := by decide +kernel
theorem qh_J0_charAt_5068e : yJ0_charAt_5068e.cls ≠ "java/lang/invoke/MethodHandle" ∧ yJ0_charAt_5068e.cls ≠ "java/lang/invoke/VarHandle" ∧ (parseMethodDescriptor yJ0_charAt_5068e.desc).map (fun d => d.parameters.length) = some 1 := by decide +kernel
theorem qh_J0_indexOf_0f7a4 : yJ0_indexOf_0f7a4.cls ≠ "java/lang/invoke/MethodHandle" ∧ yJ0_indexOf_0f7a4.cls ≠ "java/lang/invoke/VarHandle" ∧ (parseMethodDescriptor yJ0_indexOf_0f7a4.desc).map (fun d => d.parameters.length) = some 1 := by decide +kernel
theorem qh_X5_wordOf : yX5_wordOf.cls ≠ "java/lang/invoke/MethodHandle" ∧ yX5_wordOf.cls ≠ "java/lang/invoke/VarHandle" ∧ (parseMethodDescriptor yX5_wordOf.desc).map (fun d => d.parameters.length) = some 1 := by decide +kernel
theorem qh_X5_sameSigns : yX5_sameSigns.cls ≠ "java/lang/invoke/MethodHandle" ∧ yX5_sameSigns.cls ≠ "java/lang/invoke/VarHandle" ∧ (parseMethodDescriptor yX5_sameSigns.desc).map (fun d => d.parameters.length) = some 1 := by decide +kernel
theorem qh_X5_takeOneOf : yX5_takeOneOf.cls ≠ "java/lang/invoke/MethodHandle" ∧ yX5_takeOneOf.cls ≠ "java/lang/invoke/VarHandle" ∧ (parseMethodDescriptor yX5_takeOneOf.desc).map (fun d => d.parameters.length) = some 1 := by decide +kernel
theorem qh_X4_put : yX4_put.cls ≠ "java/lang/invoke/MethodHandle" ∧ yX4_put.cls ≠ "java/lang/invoke/VarHandle" ∧ (parseMethodDescriptor yX4_put.desc).map (fun d => d.parameters.length) = some 1 := by decide +kernel
theorem qh_X5_takeNumber : yX5_takeNumber.cls ≠ "java/lang/invoke/MethodHandle" ∧ yX5_takeNumber.cls ≠ "java/lang/invoke/VarHandle" ∧ (parseMethodDescriptor yX5_takeNumber.desc).map (fun d => d.parameters.length) = some 0 := by decide +kernel
theorem qh_X5_takeBoth : yX5_takeBoth.cls ≠ "java/lang/invoke/MethodHandle" ∧ yX5_takeBoth.cls ≠ "java/lang/invoke/VarHandle" ∧ (parseMethodDescriptor yX5_takeBoth.desc).map (fun d => d.parameters.length) = some 2 := by decide +kernel
theorem qh_X5_take : yX5_take.cls ≠ "java/lang/invoke/MethodHandle" ∧ yX5_take.cls ≠ "java/lang/invoke/VarHandle" ∧ (parseMethodDescriptor yX5_take.desc).map (fun d => d.parameters.length) = some 1 := by decide +kernel
theorem qh_X5_takeFactor : yX5_takeFactor.cls ≠ "java/lang/invoke/MethodHandle" ∧ yX5_takeFactor.cls ≠ "java/lang/invoke/VarHandle" ∧ (parseMethodDescriptor yX5_takeFactor.desc).map (fun d => d.parameters.length) = some 2 := by decide +kernel
theorem qh_X5_takeTest : yX5_takeTest.cls ≠ "java/lang/invoke/MethodHandle" ∧ yX5_takeTest.cls ≠ "java/lang/invoke/VarHandle" ∧ (parseMethodDescriptor yX5_takeTest.desc).map (fun d => d.parameters.length) = some 1 := by decide +kernel
theorem qh_X5_takeEither : yX5_takeEither.cls ≠ "java/lang/invoke/MethodHandle" ∧ yX5_takeEither.cls ≠ "java/lang/invoke/VarHandle" ∧ (parseMethodDescriptor yX5_takeEither.desc).map (fun d => d.parameters.length) = some 2 := by decide +kernel
theorem qh_X4_clear : yX4_clear.cls ≠ "java/lang/invoke/MethodHandle" ∧ yX4_clear.cls ≠ "java/lang/invoke/VarHandle" ∧ (parseMethodDescriptor yX4_clear.desc).map (fun d => d.parameters.length) = some 0 := by decide +kernel
theorem qh_X5_takeWord : yX5_takeWord.cls ≠ "java/lang/invoke/MethodHandle" ∧ yX5_takeWord.cls ≠ "java/lang/invoke/VarHandle" ∧ (parseMethodDescriptor yX5_takeWord.desc).map (fun d => d.parameters.length) = some 0 := by decide +kernel
theorem qh_X4_tell : yX4_tell.cls ≠ "java/lang/invoke/MethodHandle" ∧ yX4_tell.cls ≠ "java/lang/invoke/VarHandle" ∧ (parseMethodDescriptor yX4_tell.desc).map (fun d => d.parameters.length) = some 2 := by decide +kernel
theorem qh_X4_close : yX4_close.cls ≠ "java/lang/invoke/MethodHandle" ∧ yX4_close.cls ≠ "java/lang/invoke/VarHandle" ∧ (parseMethodDescriptor yX4_close.desc).map (fun d => d.parameters.length) = some 2 := by decide +kernel
theorem qh_X3_levelOf : yX3_levelOf.cls ≠ "java/lang/invoke/MethodHandle" ∧ yX3_levelOf.cls ≠ "java/lang/invoke/VarHandle" ∧ (parseMethodDescriptor yX3_levelOf.desc).map (fun d => d.parameters.length) = some 1 := by decide +kernel
theorem qh_X0_lifts : yX0_lifts.cls ≠ "java/lang/invoke/MethodHandle" ∧ yX0_lifts.cls ≠ "java/lang/invoke/VarHandle" ∧ (parseMethodDescriptor yX0_lifts.desc).map (fun d => d.parameters.length) = some 0 := by decide +kernel
theorem qh_X7_find : yX7_find.cls ≠ "java/lang/invoke/MethodHandle" ∧ yX7_find.cls ≠ "java/lang/invoke/VarHandle" ∧ (parseMethodDescriptor yX7_find.desc).map (fun d => d.parameters.length) = some 1 := by decide +kernel
theorem qh_X0_open : yX0_open.cls ≠ "java/lang/invoke/MethodHandle" ∧ yX0_open.cls ≠ "java/lang/invoke/VarHandle" ∧ (parseMethodDescriptor yX0_open.desc).map (fun d => d.parameters.length) = some 3 := by decide +kernel
theorem qh_X3_copyFrom : yX3_copyFrom.cls ≠ "java/lang/invoke/MethodHandle" ∧ yX3_copyFrom.cls ≠ "java/lang/invoke/VarHandle" ∧ (parseMethodDescriptor yX3_copyFrom.desc).map (fun d => d.parameters.length) = some 1 := by decide +kernel
theorem qh_X0_copyFrom : yX0_copyFrom.cls ≠ "java/lang/invoke/MethodHandle" ∧ yX0_copyFrom.cls ≠ "java/lang/invoke/VarHandle" ∧ (parseMethodDescriptor yX0_copyFrom.desc).map (fun d => d.parameters.length) = some 1 := by decide +kernel
theorem qh_X6_copyFrom : yX6_copyFrom.cls ≠ "java/lang/invoke/MethodHandle" ∧ yX6_copyFrom.cls ≠ "java/lang/invoke/VarHandle" ∧ (parseMethodDescriptor yX6_copyFrom.desc).map (fun d => d.parameters.length) = some 1 := by decide +kernel
theorem qh_X7_level : yX7_level.cls ≠ "java/lang/invoke/MethodHandle" ∧ yX7_level.cls ≠ "java/lang/invoke/VarHandle" ∧ (parseMethodDescriptor yX7_level.desc).map (fun d => d.parameters.length) = some 0 := by decide +kernel
theorem qh_X7_bucketsOf : yX7_bucketsOf.cls ≠ "java/lang/invoke/MethodHandle" ∧ yX7_bucketsOf.cls ≠ "java/lang/invoke/VarHandle" ∧ (parseMethodDescriptor yX7_bucketsOf.desc).map (fun d => d.parameters.length) = some 1 := by decide +kernel
theorem qh_X4_together : yX4_together.cls ≠ "java/lang/invoke/MethodHandle" ∧ yX4_together.cls ≠ "java/lang/invoke/VarHandle" ∧ (parseMethodDescriptor yX4_together.desc).map (fun d => d.parameters.length) = some 4 := by decide +kernel
theorem qh_X7_spring : yX7_spring.cls ≠ "java/lang/invoke/MethodHandle" ∧ yX7_spring.cls ≠ "java/lang/invoke/VarHandle" ∧ (parseMethodDescriptor yX7_spring.desc).map (fun d => d.parameters.length) = some 1 := by decide +kernel
theorem qh_X0_pours : yX0_pours.cls ≠ "java/lang/invoke/MethodHandle" ∧ yX0_pours.cls ≠ "java/lang/invoke/VarHandle" ∧ (parseMethodDescriptor yX0_pours.desc).map (fun d => d.parameters.length) = some 3 := by decide +kernel
theorem qh_X7_sunOf : yX7_sunOf.cls ≠ "java/lang/invoke/MethodHandle" ∧ yX7_sunOf.cls ≠ "java/lang/invoke/VarHandle" ∧ (parseMethodDescriptor yX7_sunOf.desc).map (fun d => d.parameters.length) = some 2 := by decide +kernel
theorem qh_X3_volumeOf : yX3_volumeOf.cls ≠ "java/lang/invoke/MethodHandle" ∧ yX3_volumeOf.cls ≠ "java/lang/invoke/VarHandle" ∧ (parseMethodDescriptor yX3_volumeOf.desc).map (fun d => d.parameters.length) = some 1 := by decide +kernel
theorem qh_X7_pourBy : yX7_pourBy.cls ≠ "java/lang/invoke/MethodHandle" ∧ yX7_pourBy.cls ≠ "java/lang/invoke/VarHandle" ∧ (parseMethodDescriptor yX7_pourBy.desc).map (fun d => d.parameters.length) = some 2 := by decide +kernel
theorem qh_X7_spillTo : yX7_spillTo.cls ≠ "java/lang/invoke/MethodHandle" ∧ yX7_spillTo.cls ≠ "java/lang/invoke/VarHandle" ∧ (parseMethodDescriptor yX7_spillTo.desc).map (fun d => d.parameters.length) = some 1 := by decide +kernel
theorem qh_X0_holdBuckets : yX0_holdBuckets.cls ≠ "java/lang/invoke/MethodHandle" ∧ yX0_holdBuckets.cls ≠ "java/lang/invoke/VarHandle" ∧ (parseMethodDescriptor yX0_holdBuckets.desc).map (fun d => d.parameters.length) = some 0 := by decide +kernel
theorem qh_X6_size : yX6_size.cls ≠ "java/lang/invoke/MethodHandle" ∧ yX6_size.cls ≠ "java/lang/invoke/VarHandle" ∧ (parseMethodDescriptor yX6_size.desc).map (fun d => d.parameters.length) = some 0 := by decide +kernel
theorem qh_X6_first : yX6_first.cls ≠ "java/lang/invoke/MethodHandle" ∧ yX6_first.cls ≠ "java/lang/invoke/VarHandle" ∧ (parseMethodDescriptor yX6_first.desc).map (fun d => d.parameters.length) = some 1 := by decide +kernel
theorem qh_X6_second : yX6_second.cls ≠ "java/lang/invoke/MethodHandle" ∧ yX6_second.cls ≠ "java/lang/invoke/VarHandle" ∧ (parseMethodDescriptor yX6_second.desc).map (fun d => d.parameters.length) = some 1 := by decide +kernel
theorem qh_X7_copyFrom : yX7_copyFrom.cls ≠ "java/lang/invoke/MethodHandle" ∧ yX7_copyFrom.cls ≠ "java/lang/invoke/VarHandle" ∧ (parseMethodDescriptor yX7_copyFrom.desc).map (fun d => d.parameters.length) = some 1 := by decide +kernel
theorem qh_X7_pass : yX7_pass.cls ≠ "java/lang/invoke/MethodHandle" ∧ yX7_pass.cls ≠ "java/lang/invoke/VarHandle" ∧ (parseMethodDescriptor yX7_pass.desc).map (fun d => d.parameters.length) = some 0 := by decide +kernel
theorem qh_X7_isDry : yX7_isDry.cls ≠ "java/lang/invoke/MethodHandle" ∧ yX7_isDry.cls ≠ "java/lang/invoke/VarHandle" ∧ (parseMethodDescriptor yX7_isDry.desc).map (fun d => d.parameters.length) = some 0 := by decide +kernel
theorem qh_X7_firstBelow : yX7_firstBelow.cls ≠ "java/lang/invoke/MethodHandle" ∧ yX7_firstBelow.cls ≠ "java/lang/invoke/VarHandle" ∧ (parseMethodDescriptor yX7_firstBelow.desc).map (fun d => d.parameters.length) = some 1 := by decide +kernel
theorem qh_X9_commonDivisor : yX9_commonDivisor.cls ≠ "java/lang/invoke/MethodHandle" ∧ yX9_commonDivisor.cls ≠ "java/lang/invoke/VarHandle" ∧ (parseMethodDescriptor yX9_commonDivisor.desc).map (fun d => d.parameters.length) = some 2 := by decide +kernel
theorem qh_X9_lowestTerms : yX9_lowestTerms.cls ≠ "java/lang/invoke/MethodHandle" ∧ yX9_lowestTerms.cls ≠ "java/lang/invoke/VarHandle" ∧ (parseMethodDescriptor yX9_lowestTerms.desc).map (fun d => d.parameters.length) = some 3 := by decide +kernel
theorem qh_X7_sunOfDay : yX7_sunOfDay.cls ≠ "java/lang/invoke/MethodHandle" ∧ yX7_sunOfDay.cls ≠ "java/lang/invoke/VarHandle" ∧ (parseMethodDescriptor yX7_sunOfDay.desc).map (fun d => d.parameters.length) = some 0 := by decide +kernel
theorem qh_X2_lastSeen : yX2_lastSeen.cls ≠ "java/lang/invoke/MethodHandle" ∧ yX2_lastSeen.cls ≠ "java/lang/invoke/VarHandle" ∧ (parseMethodDescriptor yX2_lastSeen.desc).map (fun d => d.parameters.length) = some 0 := by decide +kernel
theorem qh_X2_isAsSeenOn : yX2_isAsSeenOn.cls ≠ "java/lang/invoke/MethodHandle" ∧ yX2_isAsSeenOn.cls ≠ "java/lang/invoke/VarHandle" ∧ (parseMethodDescriptor yX2_isAsSeenOn.desc).map (fun d => d.parameters.length) = some 1 := by decide +kernel
theorem qh_X2_staysWet : yX2_staysWet.cls ≠ "java/lang/invoke/MethodHandle" ∧ yX2_staysWet.cls ≠ "java/lang/invoke/VarHandle" ∧ (parseMethodDescriptor yX2_staysWet.desc).map (fun d => d.parameters.length) = some 1 := by decide +kernel
theorem qh_X2_after : yX2_after.cls ≠ "java/lang/invoke/MethodHandle" ∧ yX2_after.cls ≠ "java/lang/invoke/VarHandle" ∧ (parseMethodDescriptor yX2_after.desc).map (fun d => d.parameters.length) = some 2 := by decide +kernel
theorem qh_X2_beginWithout : yX2_beginWithout.cls ≠ "java/lang/invoke/MethodHandle" ∧ yX2_beginWithout.cls ≠ "java/lang/invoke/VarHandle" ∧ (parseMethodDescriptor yX2_beginWithout.desc).map (fun d => d.parameters.length) = some 2 := by decide +kernel
theorem qh_X2_goesAsSeen : yX2_goesAsSeen.cls ≠ "java/lang/invoke/MethodHandle" ∧ yX2_goesAsSeen.cls ≠ "java/lang/invoke/VarHandle" ∧ (parseMethodDescriptor yX2_goesAsSeen.desc).map (fun d => d.parameters.length) = some 0 := by decide +kernel
theorem qh_X1_bodyAt : yX1_bodyAt.cls ≠ "java/lang/invoke/MethodHandle" ∧ yX1_bodyAt.cls ≠ "java/lang/invoke/VarHandle" ∧ (parseMethodDescriptor yX1_bodyAt.desc).map (fun d => d.parameters.length) = some 1 := by decide +kernel
theorem qh_X5_length : yX5_length.cls ≠ "java/lang/invoke/MethodHandle" ∧ yX5_length.cls ≠ "java/lang/invoke/VarHandle" ∧ (parseMethodDescriptor yX5_length.desc).map (fun d => d.parameters.length) = some 0 := by decide +kernel
theorem qh_X1_ran : yX1_ran.cls ≠ "java/lang/invoke/MethodHandle" ∧ yX1_ran.cls ≠ "java/lang/invoke/VarHandle" ∧ (parseMethodDescriptor yX1_ran.desc).map (fun d => d.parameters.length) = some 0 := by decide +kernel
theorem qh_X3_change : yX3_change.cls ≠ "java/lang/invoke/MethodHandle" ∧ yX3_change.cls ≠ "java/lang/invoke/VarHandle" ∧ (parseMethodDescriptor yX3_change.desc).map (fun d => d.parameters.length) = some 2 := by decide +kernel
theorem qh_X9_isDaily : yX9_isDaily.cls ≠ "java/lang/invoke/MethodHandle" ∧ yX9_isDaily.cls ≠ "java/lang/invoke/VarHandle" ∧ (parseMethodDescriptor yX9_isDaily.desc).map (fun d => d.parameters.length) = some 1 := by decide +kernel
theorem qh_X7_open : yX7_open.cls ≠ "java/lang/invoke/MethodHandle" ∧ yX7_open.cls ≠ "java/lang/invoke/VarHandle" ∧ (parseMethodDescriptor yX7_open.desc).map (fun d => d.parameters.length) = some 3 := by decide +kernel
theorem qh_X0_changeRow : yX0_changeRow.cls ≠ "java/lang/invoke/MethodHandle" ∧ yX0_changeRow.cls ≠ "java/lang/invoke/VarHandle" ∧ (parseMethodDescriptor yX0_changeRow.desc).map (fun d => d.parameters.length) = some 2 := by decide +kernel
theorem qh_X5_add : yX5_add.cls ≠ "java/lang/invoke/MethodHandle" ∧ yX5_add.cls ≠ "java/lang/invoke/VarHandle" ∧ (parseMethodDescriptor yX5_add.desc).map (fun d => d.parameters.length) = some 1 := by decide +kernel
theorem qh_X6_add : yX6_add.cls ≠ "java/lang/invoke/MethodHandle" ∧ yX6_add.cls ≠ "java/lang/invoke/VarHandle" ∧ (parseMethodDescriptor yX6_add.desc).map (fun d => d.parameters.length) = some 2 := by decide +kernel
theorem qh_X6_clear : yX6_clear.cls ≠ "java/lang/invoke/MethodHandle" ∧ yX6_clear.cls ≠ "java/lang/invoke/VarHandle" ∧ (parseMethodDescriptor yX6_clear.desc).map (fun d => d.parameters.length) = some 0 := by decide +kernel
theorem qh_X9_findTape : yX9_findTape.cls ≠ "java/lang/invoke/MethodHandle" ∧ yX9_findTape.cls ≠ "java/lang/invoke/VarHandle" ∧ (parseMethodDescriptor yX9_findTape.desc).map (fun d => d.parameters.length) = some 1 := by decide +kernel
theorem qh_X8_isEmpty : yX8_isEmpty.cls ≠ "java/lang/invoke/MethodHandle" ∧ yX8_isEmpty.cls ≠ "java/lang/invoke/VarHandle" ∧ (parseMethodDescriptor yX8_isEmpty.desc).map (fun d => d.parameters.length) = some 0 := by decide +kernel
theorem qh_X8_get : yX8_get.cls ≠ "java/lang/invoke/MethodHandle" ∧ yX8_get.cls ≠ "java/lang/invoke/VarHandle" ∧ (parseMethodDescriptor yX8_get.desc).map (fun d => d.parameters.length) = some 1 := by decide +kernel
theorem qh_X9_isOrUnder : yX9_isOrUnder.cls ≠ "java/lang/invoke/MethodHandle" ∧ yX9_isOrUnder.cls ≠ "java/lang/invoke/VarHandle" ∧ (parseMethodDescriptor yX9_isOrUnder.desc).map (fun d => d.parameters.length) = some 2 := by decide +kernel
theorem qh_X8_become : yX8_become.cls ≠ "java/lang/invoke/MethodHandle" ∧ yX8_become.cls ≠ "java/lang/invoke/VarHandle" ∧ (parseMethodDescriptor yX8_become.desc).map (fun d => d.parameters.length) = some 2 := by decide +kernel
theorem qh_X8_put : yX8_put.cls ≠ "java/lang/invoke/MethodHandle" ∧ yX8_put.cls ≠ "java/lang/invoke/VarHandle" ∧ (parseMethodDescriptor yX8_put.desc).map (fun d => d.parameters.length) = some 2 := by decide +kernel
theorem qh_X8_takeFrom : yX8_takeFrom.cls ≠ "java/lang/invoke/MethodHandle" ∧ yX8_takeFrom.cls ≠ "java/lang/invoke/VarHandle" ∧ (parseMethodDescriptor yX8_takeFrom.desc).map (fun d => d.parameters.length) = some 4 := by decide +kernel
theorem qh_X9_maySet : yX9_maySet.cls ≠ "java/lang/invoke/MethodHandle" ∧ yX9_maySet.cls ≠ "java/lang/invoke/VarHandle" ∧ (parseMethodDescriptor yX9_maySet.desc).map (fun d => d.parameters.length) = some 2 := by decide +kernel
theorem qh_X0_change : yX0_change.cls ≠ "java/lang/invoke/MethodHandle" ∧ yX0_change.cls ≠ "java/lang/invoke/VarHandle" ∧ (parseMethodDescriptor yX0_change.desc).map (fun d => d.parameters.length) = some 2 := by decide +kernel
theorem qh_X3_areaOf : yX3_areaOf.cls ≠ "java/lang/invoke/MethodHandle" ∧ yX3_areaOf.cls ≠ "java/lang/invoke/VarHandle" ∧ (parseMethodDescriptor yX3_areaOf.desc).map (fun d => d.parameters.length) = some 1 := by decide +kernel
theorem qh_X2_daysTillDry : yX2_daysTillDry.cls ≠ "java/lang/invoke/MethodHandle" ∧ yX2_daysTillDry.cls ≠ "java/lang/invoke/VarHandle" ∧ (parseMethodDescriptor yX2_daysTillDry.desc).map (fun d => d.parameters.length) = some 1 := by decide +kernel
theorem qh_X2_daysTillLowest : yX2_daysTillLowest.cls ≠ "java/lang/invoke/MethodHandle" ∧ yX2_daysTillLowest.cls ≠ "java/lang/invoke/VarHandle" ∧ (parseMethodDescriptor yX2_daysTillLowest.desc).map (fun d => d.parameters.length) = some 2 := by decide +kernel
theorem qh_X2_firstBelow : yX2_firstBelow.cls ≠ "java/lang/invoke/MethodHandle" ∧ yX2_firstBelow.cls ≠ "java/lang/invoke/VarHandle" ∧ (parseMethodDescriptor yX2_firstBelow.desc).map (fun d => d.parameters.length) = some 2 := by decide +kernel
theorem qh_X2_daysTillEnough : yX2_daysTillEnough.cls ≠ "java/lang/invoke/MethodHandle" ∧ yX2_daysTillEnough.cls ≠ "java/lang/invoke/VarHandle" ∧ (parseMethodDescriptor yX2_daysTillEnough.desc).map (fun d => d.parameters.length) = some 3 := by decide +kernel
theorem qh_X9_isPart : yX9_isPart.cls ≠ "java/lang/invoke/MethodHandle" ∧ yX9_isPart.cls ≠ "java/lang/invoke/VarHandle" ∧ (parseMethodDescriptor yX9_isPart.desc).map (fun d => d.parameters.length) = some 1 := by decide +kernel
theorem qh_X2_sunShare : yX2_sunShare.cls ≠ "java/lang/invoke/MethodHandle" ∧ yX2_sunShare.cls ≠ "java/lang/invoke/VarHandle" ∧ (parseMethodDescriptor yX2_sunShare.desc).map (fun d => d.parameters.length) = some 4 := by decide +kernel
theorem qh_X7_richestNow : yX7_richestNow.cls ≠ "java/lang/invoke/MethodHandle" ∧ yX7_richestNow.cls ≠ "java/lang/invoke/VarHandle" ∧ (parseMethodDescriptor yX7_richestNow.desc).map (fun d => d.parameters.length) = some 0 := by decide +kernel
theorem qh_X2_meanLevel : yX2_meanLevel.cls ≠ "java/lang/invoke/MethodHandle" ∧ yX2_meanLevel.cls ≠ "java/lang/invoke/VarHandle" ∧ (parseMethodDescriptor yX2_meanLevel.desc).map (fun d => d.parameters.length) = some 3 := by decide +kernel
theorem qh_X2_afterPlan : yX2_afterPlan.cls ≠ "java/lang/invoke/MethodHandle" ∧ yX2_afterPlan.cls ≠ "java/lang/invoke/VarHandle" ∧ (parseMethodDescriptor yX2_afterPlan.desc).map (fun d => d.parameters.length) = some 1 := by decide +kernel
theorem qh_X2_leastDaily : yX2_leastDaily.cls ≠ "java/lang/invoke/MethodHandle" ∧ yX2_leastDaily.cls ≠ "java/lang/invoke/VarHandle" ∧ (parseMethodDescriptor yX2_leastDaily.desc).map (fun d => d.parameters.length) = some 3 := by decide +kernel
theorem qh_X2_waterBy : yX2_waterBy.cls ≠ "java/lang/invoke/MethodHandle" ∧ yX2_waterBy.cls ≠ "java/lang/invoke/VarHandle" ∧ (parseMethodDescriptor yX2_waterBy.desc).map (fun d => d.parameters.length) = some 3 := by decide +kernel
theorem qh_X2_leastWell : yX2_leastWell.cls ≠ "java/lang/invoke/MethodHandle" ∧ yX2_leastWell.cls ≠ "java/lang/invoke/VarHandle" ∧ (parseMethodDescriptor yX2_leastWell.desc).map (fun d => d.parameters.length) = some 2 := by decide +kernel
theorem qh_X2_isAsSeenWith : yX2_isAsSeenWith.cls ≠ "java/lang/invoke/MethodHandle" ∧ yX2_isAsSeenWith.cls ≠ "java/lang/invoke/VarHandle" ∧ (parseMethodDescriptor yX2_isAsSeenWith.desc).map (fun d => d.parameters.length) = some 3 := by decide +kernel
theorem qh_X2_absencesAsSeen : yX2_absencesAsSeen.cls ≠ "java/lang/invoke/MethodHandle" ∧ yX2_absencesAsSeen.cls ≠ "java/lang/invoke/VarHandle" ∧ (parseMethodDescriptor yX2_absencesAsSeen.desc).map (fun d => d.parameters.length) = some 1 := by decide +kernel
theorem qh_X2_springlessOdds : yX2_springlessOdds.cls ≠ "java/lang/invoke/MethodHandle" ∧ yX2_springlessOdds.cls ≠ "java/lang/invoke/VarHandle" ∧ (parseMethodDescriptor yX2_springlessOdds.desc).map (fun d => d.parameters.length) = some 3 := by decide +kernel
theorem qh_X1_perform : yX1_perform.cls ≠ "java/lang/invoke/MethodHandle" ∧ yX1_perform.cls ≠ "java/lang/invoke/VarHandle" ∧ (parseMethodDescriptor yX1_perform.desc).map (fun d => d.parameters.length) = some 3 := by decide +kernel
theorem qh_X5_parse : yX5_parse.cls ≠ "java/lang/invoke/MethodHandle" ∧ yX5_parse.cls ≠ "java/lang/invoke/VarHandle" ∧ (parseMethodDescriptor yX5_parse.desc).map (fun d => d.parameters.length) = some 1 := by decide +kernel
theorem qh_X5_clear : yX5_clear.cls ≠ "java/lang/invoke/MethodHandle" ∧ yX5_clear.cls ≠ "java/lang/invoke/VarHandle" ∧ (parseMethodDescriptor yX5_clear.desc).map (fun d => d.parameters.length) = some 0 := by decide +kernel
theorem qh_X10_in : yX10_in.cls ≠ "java/lang/invoke/MethodHandle" ∧ yX10_in.cls ≠ "java/lang/invoke/VarHandle" ∧ (parseMethodDescriptor yX10_in.desc).map (fun d => d.parameters.length) = some 3 := by decide +kernel
theorem qh_X10_volumeOf : yX10_volumeOf.cls ≠ "java/lang/invoke/MethodHandle" ∧ yX10_volumeOf.cls ≠ "java/lang/invoke/VarHandle" ∧ (parseMethodDescriptor yX10_volumeOf.desc).map (fun d => d.parameters.length) = some 1 := by decide +kernel
theorem qh_X10_next : yX10_next.cls ≠ "java/lang/invoke/MethodHandle" ∧ yX10_next.cls ≠ "java/lang/invoke/VarHandle" ∧ (parseMethodDescriptor yX10_next.desc).map (fun d => d.parameters.length) = some 0 := by decide +kernel
theorem qh_X10_emits : yX10_emits.cls ≠ "java/lang/invoke/MethodHandle" ∧ yX10_emits.cls ≠ "java/lang/invoke/VarHandle" ∧ (parseMethodDescriptor yX10_emits.desc).map (fun d => d.parameters.length) = some 1 := by decide +kernel
theorem qh_X10_begin : yX10_begin.cls ≠ "java/lang/invoke/MethodHandle" ∧ yX10_begin.cls ≠ "java/lang/invoke/VarHandle" ∧ (parseMethodDescriptor yX10_begin.desc).map (fun d => d.parameters.length) = some 0 := by decide +kernel
theorem qh_X10_behind : yX10_behind.cls ≠ "java/lang/invoke/MethodHandle" ∧ yX10_behind.cls ≠ "java/lang/invoke/VarHandle" ∧ (parseMethodDescriptor yX10_behind.desc).map (fun d => d.parameters.length) = some 0 := by decide +kernel
theorem qh_X10_factOf : yX10_factOf.cls ≠ "java/lang/invoke/MethodHandle" ∧ yX10_factOf.cls ≠ "java/lang/invoke/VarHandle" ∧ (parseMethodDescriptor yX10_factOf.desc).map (fun d => d.parameters.length) = some 2 := by decide +kernel
theorem qh_X10_levelOf : yX10_levelOf.cls ≠ "java/lang/invoke/MethodHandle" ∧ yX10_levelOf.cls ≠ "java/lang/invoke/VarHandle" ∧ (parseMethodDescriptor yX10_levelOf.desc).map (fun d => d.parameters.length) = some 1 := by decide +kernel
theorem qh_X10_liftsOf : yX10_liftsOf.cls ≠ "java/lang/invoke/MethodHandle" ∧ yX10_liftsOf.cls ≠ "java/lang/invoke/VarHandle" ∧ (parseMethodDescriptor yX10_liftsOf.desc).map (fun d => d.parameters.length) = some 1 := by decide +kernel
theorem qh_X10_divisor : yX10_divisor.cls ≠ "java/lang/invoke/MethodHandle" ∧ yX10_divisor.cls ≠ "java/lang/invoke/VarHandle" ∧ (parseMethodDescriptor yX10_divisor.desc).map (fun d => d.parameters.length) = some 2 := by decide +kernel
theorem qh_X10_body : yX10_body.cls ≠ "java/lang/invoke/MethodHandle" ∧ yX10_body.cls ≠ "java/lang/invoke/VarHandle" ∧ (parseMethodDescriptor yX10_body.desc).map (fun d => d.parameters.length) = some 1 := by decide +kernel
theorem qh_X10_isDaily : yX10_isDaily.cls ≠ "java/lang/invoke/MethodHandle" ∧ yX10_isDaily.cls ≠ "java/lang/invoke/VarHandle" ∧ (parseMethodDescriptor yX10_isDaily.desc).map (fun d => d.parameters.length) = some 1 := by decide +kernel
theorem qh_X10_isAccount : yX10_isAccount.cls ≠ "java/lang/invoke/MethodHandle" ∧ yX10_isAccount.cls ≠ "java/lang/invoke/VarHandle" ∧ (parseMethodDescriptor yX10_isAccount.desc).map (fun d => d.parameters.length) = some 1 := by decide +kernel
theorem qh_X10_takes : yX10_takes.cls ≠ "java/lang/invoke/MethodHandle" ∧ yX10_takes.cls ≠ "java/lang/invoke/VarHandle" ∧ (parseMethodDescriptor yX10_takes.desc).map (fun d => d.parameters.length) = some 1 := by decide +kernel
theorem qh_X10_isDigit : yX10_isDigit.cls ≠ "java/lang/invoke/MethodHandle" ∧ yX10_isDigit.cls ≠ "java/lang/invoke/VarHandle" ∧ (parseMethodDescriptor yX10_isDigit.desc).map (fun d => d.parameters.length) = some 0 := by decide +kernel
theorem qh_X10_lastOf : yX10_lastOf.cls ≠ "java/lang/invoke/MethodHandle" ∧ yX10_lastOf.cls ≠ "java/lang/invoke/VarHandle" ∧ (parseMethodDescriptor yX10_lastOf.desc).map (fun d => d.parameters.length) = some 2 := by decide +kernel
theorem qh_X10_level : yX10_level.cls ≠ "java/lang/invoke/MethodHandle" ∧ yX10_level.cls ≠ "java/lang/invoke/VarHandle" ∧ (parseMethodDescriptor yX10_level.desc).map (fun d => d.parameters.length) = some 0 := by decide +kernel
theorem qh_X10_holds : yX10_holds.cls ≠ "java/lang/invoke/MethodHandle" ∧ yX10_holds.cls ≠ "java/lang/invoke/VarHandle" ∧ (parseMethodDescriptor yX10_holds.desc).map (fun d => d.parameters.length) = some 2 := by decide +kernel
theorem qh_X10_isTape : yX10_isTape.cls ≠ "java/lang/invoke/MethodHandle" ∧ yX10_isTape.cls ≠ "java/lang/invoke/VarHandle" ∧ (parseMethodDescriptor yX10_isTape.desc).map (fun d => d.parameters.length) = some 1 := by decide +kernel
theorem qh_X10_accountKeeps : yX10_accountKeeps.cls ≠ "java/lang/invoke/MethodHandle" ∧ yX10_accountKeeps.cls ≠ "java/lang/invoke/VarHandle" ∧ (parseMethodDescriptor yX10_accountKeeps.desc).map (fun d => d.parameters.length) = some 2 := by decide +kernel
theorem qh_X10_narrow : yX10_narrow.cls ≠ "java/lang/invoke/MethodHandle" ∧ yX10_narrow.cls ≠ "java/lang/invoke/VarHandle" ∧ (parseMethodDescriptor yX10_narrow.desc).map (fun d => d.parameters.length) = some 2 := by decide +kernel
theorem qh_X10_place : yX10_place.cls ≠ "java/lang/invoke/MethodHandle" ∧ yX10_place.cls ≠ "java/lang/invoke/VarHandle" ∧ (parseMethodDescriptor yX10_place.desc).map (fun d => d.parameters.length) = some 1 := by decide +kernel
theorem qh_X10_takesNumber : yX10_takesNumber.cls ≠ "java/lang/invoke/MethodHandle" ∧ yX10_takesNumber.cls ≠ "java/lang/invoke/VarHandle" ∧ (parseMethodDescriptor yX10_takesNumber.desc).map (fun d => d.parameters.length) = some 0 := by decide +kernel
theorem qh_X10_whole : yX10_whole.cls ≠ "java/lang/invoke/MethodHandle" ∧ yX10_whole.cls ≠ "java/lang/invoke/VarHandle" ∧ (parseMethodDescriptor yX10_whole.desc).map (fun d => d.parameters.length) = some 0 := by decide +kernel
theorem qh_X10_takesWord : yX10_takesWord.cls ≠ "java/lang/invoke/MethodHandle" ∧ yX10_takesWord.cls ≠ "java/lang/invoke/VarHandle" ∧ (parseMethodDescriptor yX10_takesWord.desc).map (fun d => d.parameters.length) = some 2 := by decide +kernel
theorem qh_X10_second : yX10_second.cls ≠ "java/lang/invoke/MethodHandle" ∧ yX10_second.cls ≠ "java/lang/invoke/VarHandle" ∧ (parseMethodDescriptor yX10_second.desc).map (fun d => d.parameters.length) = some 0 := by decide +kernel
theorem qh_X10_sumOf : yX10_sumOf.cls ≠ "java/lang/invoke/MethodHandle" ∧ yX10_sumOf.cls ≠ "java/lang/invoke/VarHandle" ∧ (parseMethodDescriptor yX10_sumOf.desc).map (fun d => d.parameters.length) = some 2 := by decide +kernel
theorem qh_X10_floor : yX10_floor.cls ≠ "java/lang/invoke/MethodHandle" ∧ yX10_floor.cls ≠ "java/lang/invoke/VarHandle" ∧ (parseMethodDescriptor yX10_floor.desc).map (fun d => d.parameters.length) = some 0 := by decide +kernel
theorem qh_X10_keepsAct : yX10_keepsAct.cls ≠ "java/lang/invoke/MethodHandle" ∧ yX10_keepsAct.cls ≠ "java/lang/invoke/VarHandle" ∧ (parseMethodDescriptor yX10_keepsAct.desc).map (fun d => d.parameters.length) = some 2 := by decide +kernel
theorem qh_X10_settle : yX10_settle.cls ≠ "java/lang/invoke/MethodHandle" ∧ yX10_settle.cls ≠ "java/lang/invoke/VarHandle" ∧ (parseMethodDescriptor yX10_settle.desc).map (fun d => d.parameters.length) = some 1 := by decide +kernel
theorem qh_X10_takesTest : yX10_takesTest.cls ≠ "java/lang/invoke/MethodHandle" ∧ yX10_takesTest.cls ≠ "java/lang/invoke/VarHandle" ∧ (parseMethodDescriptor yX10_takesTest.desc).map (fun d => d.parameters.length) = some 0 := by decide +kernel
theorem qh_X10_poursOf : yX10_poursOf.cls ≠ "java/lang/invoke/MethodHandle" ∧ yX10_poursOf.cls ≠ "java/lang/invoke/VarHandle" ∧ (parseMethodDescriptor yX10_poursOf.desc).map (fun d => d.parameters.length) = some 1 := by decide +kernel
theorem qh_X10_sunOf : yX10_sunOf.cls ≠ "java/lang/invoke/MethodHandle" ∧ yX10_sunOf.cls ≠ "java/lang/invoke/VarHandle" ∧ (parseMethodDescriptor yX10_sunOf.desc).map (fun d => d.parameters.length) = some 1 := by decide +kernel
theorem qh_X10_mark : yX10_mark.cls ≠ "java/lang/invoke/MethodHandle" ∧ yX10_mark.cls ≠ "java/lang/invoke/VarHandle" ∧ (parseMethodDescriptor yX10_mark.desc).map (fun d => d.parameters.length) = some 0 := by decide +kernel
theorem qh_X10_spring : yX10_spring.cls ≠ "java/lang/invoke/MethodHandle" ∧ yX10_spring.cls ≠ "java/lang/invoke/VarHandle" ∧ (parseMethodDescriptor yX10_spring.desc).map (fun d => d.parameters.length) = some 0 := by decide +kernel
theorem qh_X10_pours : yX10_pours.cls ≠ "java/lang/invoke/MethodHandle" ∧ yX10_pours.cls ≠ "java/lang/invoke/VarHandle" ∧ (parseMethodDescriptor yX10_pours.desc).map (fun d => d.parameters.length) = some 2 := by decide +kernel
theorem qh_X10_held : yX10_held.cls ≠ "java/lang/invoke/MethodHandle" ∧ yX10_held.cls ≠ "java/lang/invoke/VarHandle" ∧ (parseMethodDescriptor yX10_held.desc).map (fun d => d.parameters.length) = some 1 := by decide +kernel
theorem qh_X10_accountPours : yX10_accountPours.cls ≠ "java/lang/invoke/MethodHandle" ∧ yX10_accountPours.cls ≠ "java/lang/invoke/VarHandle" ∧ (parseMethodDescriptor yX10_accountPours.desc).map (fun d => d.parameters.length) = some 2 := by decide +kernel
theorem qh_X10_takesHead : yX10_takesHead.cls ≠ "java/lang/invoke/MethodHandle" ∧ yX10_takesHead.cls ≠ "java/lang/invoke/VarHandle" ∧ (parseMethodDescriptor yX10_takesHead.desc).map (fun d => d.parameters.length) = some 1 := by decide +kernel
theorem qh_X10_takesE : yX10_takesE.cls ≠ "java/lang/invoke/MethodHandle" ∧ yX10_takesE.cls ≠ "java/lang/invoke/VarHandle" ∧ (parseMethodDescriptor yX10_takesE.desc).map (fun d => d.parameters.length) = some 1 := by decide +kernel
theorem qh_X10_goDay : yX10_goDay.cls ≠ "java/lang/invoke/MethodHandle" ∧ yX10_goDay.cls ≠ "java/lang/invoke/VarHandle" ∧ (parseMethodDescriptor yX10_goDay.desc).map (fun d => d.parameters.length) = some 0 := by decide +kernel
theorem qh_X10_save : yX10_save.cls ≠ "java/lang/invoke/MethodHandle" ∧ yX10_save.cls ≠ "java/lang/invoke/VarHandle" ∧ (parseMethodDescriptor yX10_save.desc).map (fun d => d.parameters.length) = some 0 := by decide +kernel
theorem qh_X10_putBack : yX10_putBack.cls ≠ "java/lang/invoke/MethodHandle" ∧ yX10_putBack.cls ≠ "java/lang/invoke/VarHandle" ∧ (parseMethodDescriptor yX10_putBack.desc).map (fun d => d.parameters.length) = some 0 := by decide +kernel
theorem qh_X10_isDays : yX10_isDays.cls ≠ "java/lang/invoke/MethodHandle" ∧ yX10_isDays.cls ≠ "java/lang/invoke/VarHandle" ∧ (parseMethodDescriptor yX10_isDays.desc).map (fun d => d.parameters.length) = some 1 := by decide +kernel
theorem qh_X10_below : yX10_below.cls ≠ "java/lang/invoke/MethodHandle" ∧ yX10_below.cls ≠ "java/lang/invoke/VarHandle" ∧ (parseMethodDescriptor yX10_below.desc).map (fun d => d.parameters.length) = some 1 := by decide +kernel
theorem qh_X10_lowestTerms : yX10_lowestTerms.cls ≠ "java/lang/invoke/MethodHandle" ∧ yX10_lowestTerms.cls ≠ "java/lang/invoke/VarHandle" ∧ (parseMethodDescriptor yX10_lowestTerms.desc).map (fun d => d.parameters.length) = some 3 := by decide +kernel
theorem qh_X10_savingPours : yX10_savingPours.cls ≠ "java/lang/invoke/MethodHandle" ∧ yX10_savingPours.cls ≠ "java/lang/invoke/VarHandle" ∧ (parseMethodDescriptor yX10_savingPours.desc).map (fun d => d.parameters.length) = some 2 := by decide +kernel
theorem qh_X10_takesClause : yX10_takesClause.cls ≠ "java/lang/invoke/MethodHandle" ∧ yX10_takesClause.cls ≠ "java/lang/invoke/VarHandle" ∧ (parseMethodDescriptor yX10_takesClause.desc).map (fun d => d.parameters.length) = some 1 := by decide +kernel
theorem qh_X10_goDays : yX10_goDays.cls ≠ "java/lang/invoke/MethodHandle" ∧ yX10_goDays.cls ≠ "java/lang/invoke/VarHandle" ∧ (parseMethodDescriptor yX10_goDays.desc).map (fun d => d.parameters.length) = some 1 := by decide +kernel
theorem qh_X10_isAbove : yX10_isAbove.cls ≠ "java/lang/invoke/MethodHandle" ∧ yX10_isAbove.cls ≠ "java/lang/invoke/VarHandle" ∧ (parseMethodDescriptor yX10_isAbove.desc).map (fun d => d.parameters.length) = some 1 := by decide +kernel
theorem qh_X10_poursAct : yX10_poursAct.cls ≠ "java/lang/invoke/MethodHandle" ∧ yX10_poursAct.cls ≠ "java/lang/invoke/VarHandle" ∧ (parseMethodDescriptor yX10_poursAct.desc).map (fun d => d.parameters.length) = some 2 := by decide +kernel
theorem qh_X10_goesText : yX10_goesText.cls ≠ "java/lang/invoke/MethodHandle" ∧ yX10_goesText.cls ≠ "java/lang/invoke/VarHandle" ∧ (parseMethodDescriptor yX10_goesText.desc).map (fun d => d.parameters.length) = some 1 := by decide +kernel
theorem qh_X10_waterBehind : yX10_waterBehind.cls ≠ "java/lang/invoke/MethodHandle" ∧ yX10_waterBehind.cls ≠ "java/lang/invoke/VarHandle" ∧ (parseMethodDescriptor yX10_waterBehind.desc).map (fun d => d.parameters.length) = some 1 := by decide +kernel
theorem qh_X10_isSeen : yX10_isSeen.cls ≠ "java/lang/invoke/MethodHandle" ∧ yX10_isSeen.cls ≠ "java/lang/invoke/VarHandle" ∧ (parseMethodDescriptor yX10_isSeen.desc).map (fun d => d.parameters.length) = some 0 := by decide +kernel
theorem qh_X10_accountTells : yX10_accountTells.cls ≠ "java/lang/invoke/MethodHandle" ∧ yX10_accountTells.cls ≠ "java/lang/invoke/VarHandle" ∧ (parseMethodDescriptor yX10_accountTells.desc).map (fun d => d.parameters.length) = some 2 := by decide +kernel
theorem qh_X10_tellsAct : yX10_tellsAct.cls ≠ "java/lang/invoke/MethodHandle" ∧ yX10_tellsAct.cls ≠ "java/lang/invoke/VarHandle" ∧ (parseMethodDescriptor yX10_tellsAct.desc).map (fun d => d.parameters.length) = some 2 := by decide +kernel
end
