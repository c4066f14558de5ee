section
-- ===== PART A: goes FIRST, ahead of the names: the tables' words, and 'selects' of the private methods out of them =====
/-- a private method of a class that the tables say can be made, by its rows of tables_1 -/
def lw_okq (q : MethodName × Nat) : Prop := (q.1.cls ≠ "java/lang/invoke/MethodHandle" ∧ q.1.cls ≠ "java/lang/invoke/VarHandle") ∧ Cond.instantiable q.1.cls q.2 ∈ tables_1 ∧ Cond.privateMethod q.1 ∈ tables_1 ∧ Cond.instanceMethod q.1 ∈ tables_1
theorem lw_p0 : lw_okq (⟨"LakeBooks$Law", "tellValues", "(LLakeBooks$Account;II)V"⟩, 10) := ⟨⟨by decide +kernel, by decide +kernel⟩, List.mem_of_getElem? (i := 69) (by decide +kernel), List.mem_of_getElem? (i := 394) (by decide +kernel), List.mem_of_getElem? (i := 395) (by decide +kernel)⟩
theorem lw_p1 : lw_okq (⟨"LakeBooks$Law", "holds", "(II)Z"⟩, 10) := ⟨⟨by decide +kernel, by decide +kernel⟩, List.mem_of_getElem? (i := 69) (by decide +kernel), List.mem_of_getElem? (i := 399) (by decide +kernel), List.mem_of_getElem? (i := 400) (by decide +kernel)⟩
theorem lw_p2 : lw_okq (⟨"LakeBooks$Reader", "take", "(I)Z"⟩, 3) := ⟨⟨by decide +kernel, by decide +kernel⟩, List.mem_of_getElem? (i := 234) (by decide +kernel), List.mem_of_getElem? (i := 447) (by decide +kernel), List.mem_of_getElem? (i := 448) (by decide +kernel)⟩
theorem lw_p3 : lw_okq (⟨"LakeBooks$Reader", "takeWord", "()I"⟩, 3) := ⟨⟨by decide +kernel, by decide +kernel⟩, List.mem_of_getElem? (i := 234) (by decide +kernel), List.mem_of_getElem? (i := 451) (by decide +kernel), List.mem_of_getElem? (i := 452) (by decide +kernel)⟩
theorem lw_p4 : lw_okq (⟨"LakeBooks$Reader", "sameSigns", "(Ljava/lang/String;)I"⟩, 3) := ⟨⟨by decide +kernel, by decide +kernel⟩, List.mem_of_getElem? (i := 234) (by decide +kernel), List.mem_of_getElem? (i := 463) (by decide +kernel), List.mem_of_getElem? (i := 464) (by decide +kernel)⟩
theorem lw_p5 : lw_okq (⟨"LakeBooks$Reader", "takeNumber", "()I"⟩, 3) := ⟨⟨by decide +kernel, by decide +kernel⟩, List.mem_of_getElem? (i := 234) (by decide +kernel), List.mem_of_getElem? (i := 517) (by decide +kernel), List.mem_of_getElem? (i := 518) (by decide +kernel)⟩
theorem lw_p6 : lw_okq (⟨"LakeBooks$Reader", "takeEither", "(LLakeBooks$Law;I)Z"⟩, 3) := ⟨⟨by decide +kernel, by decide +kernel⟩, List.mem_of_getElem? (i := 234) (by decide +kernel), List.mem_of_getElem? (i := 525) (by decide +kernel), List.mem_of_getElem? (i := 526) (by decide +kernel)⟩
theorem lw_p7 : lw_okq (⟨"LakeBooks$Reader", "takeBoth", "(LLakeBooks$Law;I)Z"⟩, 3) := ⟨⟨by decide +kernel, by decide +kernel⟩, List.mem_of_getElem? (i := 234) (by decide +kernel), List.mem_of_getElem? (i := 529) (by decide +kernel), List.mem_of_getElem? (i := 530) (by decide +kernel)⟩
theorem lw_p8 : lw_okq (⟨"LakeBooks$Reader", "takeFactor", "(LLakeBooks$Law;I)Z"⟩, 3) := ⟨⟨by decide +kernel, by decide +kernel⟩, List.mem_of_getElem? (i := 234) (by decide +kernel), List.mem_of_getElem? (i := 533) (by decide +kernel), List.mem_of_getElem? (i := 534) (by decide +kernel)⟩
theorem lw_p9 : lw_okq (⟨"LakeBooks$Reader", "takeTest", "(LLakeBooks$Law;)Z"⟩, 3) := ⟨⟨by decide +kernel, by decide +kernel⟩, List.mem_of_getElem? (i := 234) (by decide +kernel), List.mem_of_getElem? (i := 542) (by decide +kernel), List.mem_of_getElem? (i := 543) (by decide +kernel)⟩
theorem lw_p10 : lw_okq (⟨"LakeBooks$Reader", "takeOneOf", "(Ljava/lang/String;)I"⟩, 3) := ⟨⟨by decide +kernel, by decide +kernel⟩, List.mem_of_getElem? (i := 234) (by decide +kernel), List.mem_of_getElem? (i := 547) (by decide +kernel), List.mem_of_getElem? (i := 548) (by decide +kernel)⟩
theorem lw_p11 : lw_okq (⟨"LakeBooks$State", "pourBy", "(LLakeBooks$Account;I)V"⟩, 12) := ⟨⟨by decide +kernel, by decide +kernel⟩, List.mem_of_getElem? (i := 28) (by decide +kernel), List.mem_of_getElem? (i := 641) (by decide +kernel), List.mem_of_getElem? (i := 642) (by decide +kernel)⟩
theorem lw_p12 : lw_okq (⟨"LakeBooks$State", "spillTo", "(I)V"⟩, 12) := ⟨⟨by decide +kernel, by decide +kernel⟩, List.mem_of_getElem? (i := 28) (by decide +kernel), List.mem_of_getElem? (i := 646) (by decide +kernel), List.mem_of_getElem? (i := 647) (by decide +kernel)⟩
theorem lw_p13 : lw_okq (⟨"LakeBooks$Asked", "staysWet", "(I)Z"⟩, 1) := ⟨⟨by decide +kernel, by decide +kernel⟩, List.mem_of_getElem? (i := 222) (by decide +kernel), List.mem_of_getElem? (i := 731) (by decide +kernel), List.mem_of_getElem? (i := 732) (by decide +kernel)⟩
theorem lw_p14 : lw_okq (⟨"LakeBooks$Asked", "beginWithout", "(LLakeBooks$State;I)V"⟩, 1) := ⟨⟨by decide +kernel, by decide +kernel⟩, List.mem_of_getElem? (i := 222) (by decide +kernel), List.mem_of_getElem? (i := 759) (by decide +kernel), List.mem_of_getElem? (i := 760) (by decide +kernel)⟩
theorem lw_p15 : lw_okq (⟨"LakeBooks$Asked", "goesAsSeen", "()Z"⟩, 1) := ⟨⟨by decide +kernel, by decide +kernel⟩, List.mem_of_getElem? (i := 222) (by decide +kernel), List.mem_of_getElem? (i := 823) (by decide +kernel), List.mem_of_getElem? (i := 824) (by decide +kernel)⟩
def lw_privs_1 : List (MethodName × Nat) := [(⟨"LakeBooks$Law", "tellValues", "(LLakeBooks$Account;II)V"⟩, 10), (⟨"LakeBooks$Law", "holds", "(II)Z"⟩, 10), (⟨"LakeBooks$Reader", "take", "(I)Z"⟩, 3), (⟨"LakeBooks$Reader", "takeWord", "()I"⟩, 3), (⟨"LakeBooks$Reader", "sameSigns", "(Ljava/lang/String;)I"⟩, 3), (⟨"LakeBooks$Reader", "takeNumber", "()I"⟩, 3), (⟨"LakeBooks$Reader", "takeEither", "(LLakeBooks$Law;I)Z"⟩, 3), (⟨"LakeBooks$Reader", "takeBoth", "(LLakeBooks$Law;I)Z"⟩, 3), (⟨"LakeBooks$Reader", "takeFactor", "(LLakeBooks$Law;I)Z"⟩, 3), (⟨"LakeBooks$Reader", "takeTest", "(LLakeBooks$Law;)Z"⟩, 3), (⟨"LakeBooks$Reader", "takeOneOf", "(Ljava/lang/String;)I"⟩, 3), (⟨"LakeBooks$State", "pourBy", "(LLakeBooks$Account;I)V"⟩, 12), (⟨"LakeBooks$State", "spillTo", "(I)V"⟩, 12), (⟨"LakeBooks$Asked", "staysWet", "(I)Z"⟩, 1), (⟨"LakeBooks$Asked", "beginWithout", "(LLakeBooks$State;I)V"⟩, 1), (⟨"LakeBooks$Asked", "goesAsSeen", "()Z"⟩, 1)]
theorem lw_r1 : ∀ q ∈ lw_privs_1, lw_okq q := List.forall_mem_cons.mpr ⟨lw_p0, List.forall_mem_cons.mpr ⟨lw_p1, List.forall_mem_cons.mpr ⟨lw_p2, List.forall_mem_cons.mpr ⟨lw_p3, List.forall_mem_cons.mpr ⟨lw_p4, List.forall_mem_cons.mpr ⟨lw_p5, List.forall_mem_cons.mpr ⟨lw_p6, List.forall_mem_cons.mpr ⟨lw_p7, List.forall_mem_cons.mpr ⟨lw_p8, List.forall_mem_cons.mpr ⟨lw_p9, List.forall_mem_cons.mpr ⟨lw_p10, List.forall_mem_cons.mpr ⟨lw_p11, List.forall_mem_cons.mpr ⟨lw_p12, List.forall_mem_cons.mpr ⟨lw_p13, List.forall_mem_cons.mpr ⟨lw_p14, List.forall_mem_cons.mpr ⟨lw_p15, fun _ h => absurd h List.not_mem_nil⟩⟩⟩⟩⟩⟩⟩⟩⟩⟩⟩⟩⟩⟩⟩⟩
theorem lw_p16 : lw_okq (⟨"LakeBooks$Asked", "lastSeen", "()I"⟩, 1) := ⟨⟨by decide +kernel, by decide +kernel⟩, List.mem_of_getElem? (i := 222) (by decide +kernel), List.mem_of_getElem? (i := 827) (by decide +kernel), List.mem_of_getElem? (i := 828) (by decide +kernel)⟩
theorem lw_p17 : lw_okq (⟨"LakeBooks$Asked", "isAsSeenOn", "(I)Z"⟩, 1) := ⟨⟨by decide +kernel, by decide +kernel⟩, List.mem_of_getElem? (i := 222) (by decide +kernel), List.mem_of_getElem? (i := 840) (by decide +kernel), List.mem_of_getElem? (i := 841) (by decide +kernel)⟩
theorem lw_p18 : lw_okq (⟨"LakeBooks", "findTape", "(I)LLakeBooks$Tape;"⟩, 9) := ⟨⟨by decide +kernel, by decide +kernel⟩, List.mem_of_getElem? (i := 20) (by decide +kernel), List.mem_of_getElem? (i := 899) (by decide +kernel), List.mem_of_getElem? (i := 900) (by decide +kernel)⟩
theorem lw_p19 : lw_okq (⟨"LakeBooks$Acts", "run", "(LLakeBooks$Account;IIII)I"⟩, 2) := ⟨⟨by decide +kernel, by decide +kernel⟩, List.mem_of_getElem? (i := 254) (by decide +kernel), List.mem_of_getElem? (i := 930) (by decide +kernel), List.mem_of_getElem? (i := 931) (by decide +kernel)⟩
theorem lw_p20 : lw_okq (⟨"LakeBooks$Acts", "note", "(I)V"⟩, 2) := ⟨⟨by decide +kernel, by decide +kernel⟩, List.mem_of_getElem? (i := 254) (by decide +kernel), List.mem_of_getElem? (i := 946) (by decide +kernel), List.mem_of_getElem? (i := 947) (by decide +kernel)⟩
theorem lw_p21 : lw_okq (⟨"LakeBooks$Acts", "runBody", "(LLakeBooks$Account;IIII)I"⟩, 2) := ⟨⟨by decide +kernel, by decide +kernel⟩, List.mem_of_getElem? (i := 254) (by decide +kernel), List.mem_of_getElem? (i := 950) (by decide +kernel), List.mem_of_getElem? (i := 951) (by decide +kernel)⟩
theorem lw_p22 : lw_okq (⟨"LakeBooks$Tape", "cut", "(J)J"⟩, 3) := ⟨⟨by decide +kernel, by decide +kernel⟩, List.mem_of_getElem? (i := 267) (by decide +kernel), List.mem_of_getElem? (i := 1000) (by decide +kernel), List.mem_of_getElem? (i := 1001) (by decide +kernel)⟩
theorem lw_p23 : lw_okq (⟨"LakeBooksModel", "in", "(III)Z"⟩, 77) := ⟨⟨by decide +kernel, by decide +kernel⟩, List.mem_of_getElem? (i := 1019) (by decide +kernel), List.mem_of_getElem? (i := 1262) (by decide +kernel), List.mem_of_getElem? (i := 1263) (by decide +kernel)⟩
theorem lw_p24 : lw_okq (⟨"LakeBooksModel", "volumeOf", "(I)I"⟩, 77) := ⟨⟨by decide +kernel, by decide +kernel⟩, List.mem_of_getElem? (i := 1019) (by decide +kernel), List.mem_of_getElem? (i := 1270) (by decide +kernel), List.mem_of_getElem? (i := 1271) (by decide +kernel)⟩
theorem lw_p25 : lw_okq (⟨"LakeBooksModel", "isDaily", "(I)Z"⟩, 77) := ⟨⟨by decide +kernel, by decide +kernel⟩, List.mem_of_getElem? (i := 1019) (by decide +kernel), List.mem_of_getElem? (i := 1278) (by decide +kernel), List.mem_of_getElem? (i := 1279) (by decide +kernel)⟩
theorem lw_p26 : lw_okq (⟨"LakeBooksModel", "isAccount", "(I)Z"⟩, 77) := ⟨⟨by decide +kernel, by decide +kernel⟩, List.mem_of_getElem? (i := 1019) (by decide +kernel), List.mem_of_getElem? (i := 1286) (by decide +kernel), List.mem_of_getElem? (i := 1287) (by decide +kernel)⟩
theorem lw_p27 : lw_okq (⟨"LakeBooksModel", "goesText", "(I)Z"⟩, 77) := ⟨⟨by decide +kernel, by decide +kernel⟩, List.mem_of_getElem? (i := 1019) (by decide +kernel), List.mem_of_getElem? (i := 1306) (by decide +kernel), List.mem_of_getElem? (i := 1307) (by decide +kernel)⟩
theorem lw_p28 : lw_okq (⟨"LakeBooksModel", "takesClause", "(I)Z"⟩, 77) := ⟨⟨by decide +kernel, by decide +kernel⟩, List.mem_of_getElem? (i := 1019) (by decide +kernel), List.mem_of_getElem? (i := 1310) (by decide +kernel), List.mem_of_getElem? (i := 1311) (by decide +kernel)⟩
theorem lw_p29 : lw_okq (⟨"LakeBooksModel", "takesHead", "(I)Z"⟩, 77) := ⟨⟨by decide +kernel, by decide +kernel⟩, List.mem_of_getElem? (i := 1019) (by decide +kernel), List.mem_of_getElem? (i := 1314) (by decide +kernel), List.mem_of_getElem? (i := 1315) (by decide +kernel)⟩
theorem lw_p30 : lw_okq (⟨"LakeBooksModel", "next", "()I"⟩, 77) := ⟨⟨by decide +kernel, by decide +kernel⟩, List.mem_of_getElem? (i := 1019) (by decide +kernel), List.mem_of_getElem? (i := 1318) (by decide +kernel), List.mem_of_getElem? (i := 1319) (by decide +kernel)⟩
theorem lw_p31 : lw_okq (⟨"LakeBooksModel", "takesWord", "(II)Z"⟩, 77) := ⟨⟨by decide +kernel, by decide +kernel⟩, List.mem_of_getElem? (i := 1019) (by decide +kernel), List.mem_of_getElem? (i := 1322) (by decide +kernel), List.mem_of_getElem? (i := 1323) (by decide +kernel)⟩
def lw_privs_2 : List (MethodName × Nat) := [(⟨"LakeBooks$Asked", "lastSeen", "()I"⟩, 1), (⟨"LakeBooks$Asked", "isAsSeenOn", "(I)Z"⟩, 1), (⟨"LakeBooks", "findTape", "(I)LLakeBooks$Tape;"⟩, 9), (⟨"LakeBooks$Acts", "run", "(LLakeBooks$Account;IIII)I"⟩, 2), (⟨"LakeBooks$Acts", "note", "(I)V"⟩, 2), (⟨"LakeBooks$Acts", "runBody", "(LLakeBooks$Account;IIII)I"⟩, 2), (⟨"LakeBooks$Tape", "cut", "(J)J"⟩, 3), (⟨"LakeBooksModel", "in", "(III)Z"⟩, 77), (⟨"LakeBooksModel", "volumeOf", "(I)I"⟩, 77), (⟨"LakeBooksModel", "isDaily", "(I)Z"⟩, 77), (⟨"LakeBooksModel", "isAccount", "(I)Z"⟩, 77), (⟨"LakeBooksModel", "goesText", "(I)Z"⟩, 77), (⟨"LakeBooksModel", "takesClause", "(I)Z"⟩, 77), (⟨"LakeBooksModel", "takesHead", "(I)Z"⟩, 77), (⟨"LakeBooksModel", "next", "()I"⟩, 77), (⟨"LakeBooksModel", "takesWord", "(II)Z"⟩, 77)]
theorem lw_r2 : ∀ q ∈ lw_privs_2, lw_okq q := List.forall_mem_cons.mpr ⟨lw_p16, List.forall_mem_cons.mpr ⟨lw_p17, List.forall_mem_cons.mpr ⟨lw_p18, List.forall_mem_cons.mpr ⟨lw_p19, List.forall_mem_cons.mpr ⟨lw_p20, List.forall_mem_cons.mpr ⟨lw_p21, List.forall_mem_cons.mpr ⟨lw_p22, List.forall_mem_cons.mpr ⟨lw_p23, List.forall_mem_cons.mpr ⟨lw_p24, List.forall_mem_cons.mpr ⟨lw_p25, List.forall_mem_cons.mpr ⟨lw_p26, List.forall_mem_cons.mpr ⟨lw_p27, List.forall_mem_cons.mpr ⟨lw_p28, List.forall_mem_cons.mpr ⟨lw_p29, List.forall_mem_cons.mpr ⟨lw_p30, List.forall_mem_cons.mpr ⟨lw_p31, fun _ h => absurd h List.not_mem_nil⟩⟩⟩⟩⟩⟩⟩⟩⟩⟩⟩⟩⟩⟩⟩⟩
theorem lw_p32 : lw_okq (⟨"LakeBooksModel", "takes", "(I)Z"⟩, 77) := ⟨⟨by decide +kernel, by decide +kernel⟩, List.mem_of_getElem? (i := 1019) (by decide +kernel), List.mem_of_getElem? (i := 1326) (by decide +kernel), List.mem_of_getElem? (i := 1327) (by decide +kernel)⟩
theorem lw_p33 : lw_okq (⟨"LakeBooksModel", "second", "()I"⟩, 77) := ⟨⟨by decide +kernel, by decide +kernel⟩, List.mem_of_getElem? (i := 1019) (by decide +kernel), List.mem_of_getElem? (i := 1330) (by decide +kernel), List.mem_of_getElem? (i := 1331) (by decide +kernel)⟩
theorem lw_p34 : lw_okq (⟨"LakeBooksModel", "takesNumber", "()Z"⟩, 77) := ⟨⟨by decide +kernel, by decide +kernel⟩, List.mem_of_getElem? (i := 1019) (by decide +kernel), List.mem_of_getElem? (i := 1334) (by decide +kernel), List.mem_of_getElem? (i := 1335) (by decide +kernel)⟩
theorem lw_p35 : lw_okq (⟨"LakeBooksModel", "isDigit", "()Z"⟩, 77) := ⟨⟨by decide +kernel, by decide +kernel⟩, List.mem_of_getElem? (i := 1019) (by decide +kernel), List.mem_of_getElem? (i := 1338) (by decide +kernel), List.mem_of_getElem? (i := 1339) (by decide +kernel)⟩
theorem lw_p36 : lw_okq (⟨"LakeBooksModel", "takesE", "(I)Z"⟩, 77) := ⟨⟨by decide +kernel, by decide +kernel⟩, List.mem_of_getElem? (i := 1019) (by decide +kernel), List.mem_of_getElem? (i := 1342) (by decide +kernel), List.mem_of_getElem? (i := 1343) (by decide +kernel)⟩
theorem lw_p37 : lw_okq (⟨"LakeBooksModel", "takesTest", "()Z"⟩, 77) := ⟨⟨by decide +kernel, by decide +kernel⟩, List.mem_of_getElem? (i := 1019) (by decide +kernel), List.mem_of_getElem? (i := 1346) (by decide +kernel), List.mem_of_getElem? (i := 1347) (by decide +kernel)⟩
theorem lw_p38 : lw_okq (⟨"LakeBooksModel", "place", "(I)I"⟩, 77) := ⟨⟨by decide +kernel, by decide +kernel⟩, List.mem_of_getElem? (i := 1019) (by decide +kernel), List.mem_of_getElem? (i := 1350) (by decide +kernel), List.mem_of_getElem? (i := 1351) (by decide +kernel)⟩
theorem lw_p39 : lw_okq (⟨"LakeBooksModel", "emits", "(I)V"⟩, 77) := ⟨⟨by decide +kernel, by decide +kernel⟩, List.mem_of_getElem? (i := 1019) (by decide +kernel), List.mem_of_getElem? (i := 1354) (by decide +kernel), List.mem_of_getElem? (i := 1355) (by decide +kernel)⟩
theorem lw_p40 : lw_okq (⟨"LakeBooksModel", "whole", "()V"⟩, 77) := ⟨⟨by decide +kernel, by decide +kernel⟩, List.mem_of_getElem? (i := 1019) (by decide +kernel), List.mem_of_getElem? (i := 1358) (by decide +kernel), List.mem_of_getElem? (i := 1359) (by decide +kernel)⟩
theorem lw_p41 : lw_okq (⟨"LakeBooksModel", "settle", "(I)V"⟩, 77) := ⟨⟨by decide +kernel, by decide +kernel⟩, List.mem_of_getElem? (i := 1019) (by decide +kernel), List.mem_of_getElem? (i := 1362) (by decide +kernel), List.mem_of_getElem? (i := 1363) (by decide +kernel)⟩
theorem lw_p42 : lw_okq (⟨"LakeBooksModel", "liftsOf", "(I)I"⟩, 77) := ⟨⟨by decide +kernel, by decide +kernel⟩, List.mem_of_getElem? (i := 1019) (by decide +kernel), List.mem_of_getElem? (i := 1370) (by decide +kernel), List.mem_of_getElem? (i := 1371) (by decide +kernel)⟩
theorem lw_p43 : lw_okq (⟨"LakeBooksModel", "poursOf", "(I)I"⟩, 77) := ⟨⟨by decide +kernel, by decide +kernel⟩, List.mem_of_getElem? (i := 1019) (by decide +kernel), List.mem_of_getElem? (i := 1374) (by decide +kernel), List.mem_of_getElem? (i := 1375) (by decide +kernel)⟩
theorem lw_p44 : lw_okq (⟨"LakeBooksModel", "lastOf", "(II)I"⟩, 77) := ⟨⟨by decide +kernel, by decide +kernel⟩, List.mem_of_getElem? (i := 1019) (by decide +kernel), List.mem_of_getElem? (i := 1378) (by decide +kernel), List.mem_of_getElem? (i := 1379) (by decide +kernel)⟩
theorem lw_p45 : lw_okq (⟨"LakeBooksModel", "begin", "()I"⟩, 77) := ⟨⟨by decide +kernel, by decide +kernel⟩, List.mem_of_getElem? (i := 1019) (by decide +kernel), List.mem_of_getElem? (i := 1382) (by decide +kernel), List.mem_of_getElem? (i := 1383) (by decide +kernel)⟩
theorem lw_p46 : lw_okq (⟨"LakeBooksModel", "behind", "()I"⟩, 77) := ⟨⟨by decide +kernel, by decide +kernel⟩, List.mem_of_getElem? (i := 1019) (by decide +kernel), List.mem_of_getElem? (i := 1386) (by decide +kernel), List.mem_of_getElem? (i := 1387) (by decide +kernel)⟩
theorem lw_p47 : lw_okq (⟨"LakeBooksModel", "level", "()I"⟩, 77) := ⟨⟨by decide +kernel, by decide +kernel⟩, List.mem_of_getElem? (i := 1019) (by decide +kernel), List.mem_of_getElem? (i := 1390) (by decide +kernel), List.mem_of_getElem? (i := 1391) (by decide +kernel)⟩
def lw_privs_3 : List (MethodName × Nat) := [(⟨"LakeBooksModel", "takes", "(I)Z"⟩, 77), (⟨"LakeBooksModel", "second", "()I"⟩, 77), (⟨"LakeBooksModel", "takesNumber", "()Z"⟩, 77), (⟨"LakeBooksModel", "isDigit", "()Z"⟩, 77), (⟨"LakeBooksModel", "takesE", "(I)Z"⟩, 77), (⟨"LakeBooksModel", "takesTest", "()Z"⟩, 77), (⟨"LakeBooksModel", "place", "(I)I"⟩, 77), (⟨"LakeBooksModel", "emits", "(I)V"⟩, 77), (⟨"LakeBooksModel", "whole", "()V"⟩, 77), (⟨"LakeBooksModel", "settle", "(I)V"⟩, 77), (⟨"LakeBooksModel", "liftsOf", "(I)I"⟩, 77), (⟨"LakeBooksModel", "poursOf", "(I)I"⟩, 77), (⟨"LakeBooksModel", "lastOf", "(II)I"⟩, 77), (⟨"LakeBooksModel", "begin", "()I"⟩, 77), (⟨"LakeBooksModel", "behind", "()I"⟩, 77), (⟨"LakeBooksModel", "level", "()I"⟩, 77)]
theorem lw_r3 : ∀ q ∈ lw_privs_3, lw_okq q := List.forall_mem_cons.mpr ⟨lw_p32, List.forall_mem_cons.mpr ⟨lw_p33, List.forall_mem_cons.mpr ⟨lw_p34, List.forall_mem_cons.mpr ⟨lw_p35, List.forall_mem_cons.mpr ⟨lw_p36, List.forall_mem_cons.mpr ⟨lw_p37, List.forall_mem_cons.mpr ⟨lw_p38, List.forall_mem_cons.mpr ⟨lw_p39, List.forall_mem_cons.mpr ⟨lw_p40, List.forall_mem_cons.mpr ⟨lw_p41, List.forall_mem_cons.mpr ⟨lw_p42, List.forall_mem_cons.mpr ⟨lw_p43, List.forall_mem_cons.mpr ⟨lw_p44, List.forall_mem_cons.mpr ⟨lw_p45, List.forall_mem_cons.mpr ⟨lw_p46, List.forall_mem_cons.mpr ⟨lw_p47, fun _ h => absurd h List.not_mem_nil⟩⟩⟩⟩⟩⟩⟩⟩⟩⟩⟩⟩⟩⟩⟩⟩
theorem lw_p48 : lw_okq (⟨"LakeBooksModel", "levelOf", "(I)I"⟩, 77) := ⟨⟨by decide +kernel, by decide +kernel⟩, List.mem_of_getElem? (i := 1019) (by decide +kernel), List.mem_of_getElem? (i := 1394) (by decide +kernel), List.mem_of_getElem? (i := 1395) (by decide +kernel)⟩
theorem lw_p49 : lw_okq (⟨"LakeBooksModel", "sunOf", "(I)I"⟩, 77) := ⟨⟨by decide +kernel, by decide +kernel⟩, List.mem_of_getElem? (i := 1019) (by decide +kernel), List.mem_of_getElem? (i := 1398) (by decide +kernel), List.mem_of_getElem? (i := 1399) (by decide +kernel)⟩
theorem lw_p50 : lw_okq (⟨"LakeBooksModel", "sumOf", "(II)I"⟩, 77) := ⟨⟨by decide +kernel, by decide +kernel⟩, List.mem_of_getElem? (i := 1019) (by decide +kernel), List.mem_of_getElem? (i := 1402) (by decide +kernel), List.mem_of_getElem? (i := 1403) (by decide +kernel)⟩
theorem lw_p51 : lw_okq (⟨"LakeBooksModel", "holds", "(II)Z"⟩, 77) := ⟨⟨by decide +kernel, by decide +kernel⟩, List.mem_of_getElem? (i := 1019) (by decide +kernel), List.mem_of_getElem? (i := 1406) (by decide +kernel), List.mem_of_getElem? (i := 1407) (by decide +kernel)⟩
theorem lw_p52 : lw_okq (⟨"LakeBooksModel", "factOf", "(II)I"⟩, 77) := ⟨⟨by decide +kernel, by decide +kernel⟩, List.mem_of_getElem? (i := 1019) (by decide +kernel), List.mem_of_getElem? (i := 1410) (by decide +kernel), List.mem_of_getElem? (i := 1411) (by decide +kernel)⟩
theorem lw_p53 : lw_okq (⟨"LakeBooksModel", "mark", "()I"⟩, 77) := ⟨⟨by decide +kernel, by decide +kernel⟩, List.mem_of_getElem? (i := 1019) (by decide +kernel), List.mem_of_getElem? (i := 1418) (by decide +kernel), List.mem_of_getElem? (i := 1419) (by decide +kernel)⟩
theorem lw_p54 : lw_okq (⟨"LakeBooksModel", "floor", "()I"⟩, 77) := ⟨⟨by decide +kernel, by decide +kernel⟩, List.mem_of_getElem? (i := 1019) (by decide +kernel), List.mem_of_getElem? (i := 1422) (by decide +kernel), List.mem_of_getElem? (i := 1423) (by decide +kernel)⟩
theorem lw_p55 : lw_okq (⟨"LakeBooksModel", "spring", "()I"⟩, 77) := ⟨⟨by decide +kernel, by decide +kernel⟩, List.mem_of_getElem? (i := 1019) (by decide +kernel), List.mem_of_getElem? (i := 1426) (by decide +kernel), List.mem_of_getElem? (i := 1427) (by decide +kernel)⟩
theorem lw_p56 : lw_okq (⟨"LakeBooksModel", "goDay", "()V"⟩, 77) := ⟨⟨by decide +kernel, by decide +kernel⟩, List.mem_of_getElem? (i := 1019) (by decide +kernel), List.mem_of_getElem? (i := 1434) (by decide +kernel), List.mem_of_getElem? (i := 1435) (by decide +kernel)⟩
theorem lw_p57 : lw_okq (⟨"LakeBooksModel", "pours", "(II)V"⟩, 77) := ⟨⟨by decide +kernel, by decide +kernel⟩, List.mem_of_getElem? (i := 1019) (by decide +kernel), List.mem_of_getElem? (i := 1438) (by decide +kernel), List.mem_of_getElem? (i := 1439) (by decide +kernel)⟩
theorem lw_p58 : lw_okq (⟨"LakeBooksModel", "held", "(I)I"⟩, 77) := ⟨⟨by decide +kernel, by decide +kernel⟩, List.mem_of_getElem? (i := 1019) (by decide +kernel), List.mem_of_getElem? (i := 1443) (by decide +kernel), List.mem_of_getElem? (i := 1444) (by decide +kernel)⟩
theorem lw_p59 : lw_okq (⟨"LakeBooksModel", "isDays", "(I)Z"⟩, 77) := ⟨⟨by decide +kernel, by decide +kernel⟩, List.mem_of_getElem? (i := 1019) (by decide +kernel), List.mem_of_getElem? (i := 1451) (by decide +kernel), List.mem_of_getElem? (i := 1452) (by decide +kernel)⟩
theorem lw_p60 : lw_okq (⟨"LakeBooksModel", "save", "()V"⟩, 77) := ⟨⟨by decide +kernel, by decide +kernel⟩, List.mem_of_getElem? (i := 1019) (by decide +kernel), List.mem_of_getElem? (i := 1455) (by decide +kernel), List.mem_of_getElem? (i := 1456) (by decide +kernel)⟩
theorem lw_p61 : lw_okq (⟨"LakeBooksModel", "goDays", "(I)V"⟩, 77) := ⟨⟨by decide +kernel, by decide +kernel⟩, List.mem_of_getElem? (i := 1019) (by decide +kernel), List.mem_of_getElem? (i := 1459) (by decide +kernel), List.mem_of_getElem? (i := 1460) (by decide +kernel)⟩
theorem lw_p62 : lw_okq (⟨"LakeBooksModel", "putBack", "()V"⟩, 77) := ⟨⟨by decide +kernel, by decide +kernel⟩, List.mem_of_getElem? (i := 1019) (by decide +kernel), List.mem_of_getElem? (i := 1463) (by decide +kernel), List.mem_of_getElem? (i := 1464) (by decide +kernel)⟩
theorem lw_p63 : lw_okq (⟨"LakeBooksModel", "below", "(I)I"⟩, 77) := ⟨⟨by decide +kernel, by decide +kernel⟩, List.mem_of_getElem? (i := 1019) (by decide +kernel), List.mem_of_getElem? (i := 1479) (by decide +kernel), List.mem_of_getElem? (i := 1480) (by decide +kernel)⟩
def lw_privs_4 : List (MethodName × Nat) := [(⟨"LakeBooksModel", "levelOf", "(I)I"⟩, 77), (⟨"LakeBooksModel", "sunOf", "(I)I"⟩, 77), (⟨"LakeBooksModel", "sumOf", "(II)I"⟩, 77), (⟨"LakeBooksModel", "holds", "(II)Z"⟩, 77), (⟨"LakeBooksModel", "factOf", "(II)I"⟩, 77), (⟨"LakeBooksModel", "mark", "()I"⟩, 77), (⟨"LakeBooksModel", "floor", "()I"⟩, 77), (⟨"LakeBooksModel", "spring", "()I"⟩, 77), (⟨"LakeBooksModel", "goDay", "()V"⟩, 77), (⟨"LakeBooksModel", "pours", "(II)V"⟩, 77), (⟨"LakeBooksModel", "held", "(I)I"⟩, 77), (⟨"LakeBooksModel", "isDays", "(I)Z"⟩, 77), (⟨"LakeBooksModel", "save", "()V"⟩, 77), (⟨"LakeBooksModel", "goDays", "(I)V"⟩, 77), (⟨"LakeBooksModel", "putBack", "()V"⟩, 77), (⟨"LakeBooksModel", "below", "(I)I"⟩, 77)]
theorem lw_r4 : ∀ q ∈ lw_privs_4, lw_okq q := List.forall_mem_cons.mpr ⟨lw_p48, List.forall_mem_cons.mpr ⟨lw_p49, List.forall_mem_cons.mpr ⟨lw_p50, List.forall_mem_cons.mpr ⟨lw_p51, List.forall_mem_cons.mpr ⟨lw_p52, List.forall_mem_cons.mpr ⟨lw_p53, List.forall_mem_cons.mpr ⟨lw_p54, List.forall_mem_cons.mpr ⟨lw_p55, List.forall_mem_cons.mpr ⟨lw_p56, List.forall_mem_cons.mpr ⟨lw_p57, List.forall_mem_cons.mpr ⟨lw_p58, List.forall_mem_cons.mpr ⟨lw_p59, List.forall_mem_cons.mpr ⟨lw_p60, List.forall_mem_cons.mpr ⟨lw_p61, List.forall_mem_cons.mpr ⟨lw_p62, List.forall_mem_cons.mpr ⟨lw_p63, fun _ h => absurd h List.not_mem_nil⟩⟩⟩⟩⟩⟩⟩⟩⟩⟩⟩⟩⟩⟩⟩⟩
theorem lw_p64 : lw_okq (⟨"LakeBooksModel", "isAbove", "(I)Z"⟩, 77) := ⟨⟨by decide +kernel, by decide +kernel⟩, List.mem_of_getElem? (i := 1019) (by decide +kernel), List.mem_of_getElem? (i := 1487) (by decide +kernel), List.mem_of_getElem? (i := 1488) (by decide +kernel)⟩
theorem lw_p65 : lw_okq (⟨"LakeBooksModel", "waterBehind", "(I)I"⟩, 77) := ⟨⟨by decide +kernel, by decide +kernel⟩, List.mem_of_getElem? (i := 1019) (by decide +kernel), List.mem_of_getElem? (i := 1505) (by decide +kernel), List.mem_of_getElem? (i := 1506) (by decide +kernel)⟩
theorem lw_p66 : lw_okq (⟨"LakeBooksModel", "lowestTerms", "(III)J"⟩, 77) := ⟨⟨by decide +kernel, by decide +kernel⟩, List.mem_of_getElem? (i := 1019) (by decide +kernel), List.mem_of_getElem? (i := 1518) (by decide +kernel), List.mem_of_getElem? (i := 1519) (by decide +kernel)⟩
theorem lw_p67 : lw_okq (⟨"LakeBooksModel", "divisor", "(II)I"⟩, 77) := ⟨⟨by decide +kernel, by decide +kernel⟩, List.mem_of_getElem? (i := 1019) (by decide +kernel), List.mem_of_getElem? (i := 1522) (by decide +kernel), List.mem_of_getElem? (i := 1523) (by decide +kernel)⟩
theorem lw_p68 : lw_okq (⟨"LakeBooksModel", "isSeen", "()Z"⟩, 77) := ⟨⟨by decide +kernel, by decide +kernel⟩, List.mem_of_getElem? (i := 1019) (by decide +kernel), List.mem_of_getElem? (i := 1538) (by decide +kernel), List.mem_of_getElem? (i := 1539) (by decide +kernel)⟩
theorem lw_p69 : lw_okq (⟨"LakeBooksModel", "isTape", "(I)Z"⟩, 77) := ⟨⟨by decide +kernel, by decide +kernel⟩, List.mem_of_getElem? (i := 1019) (by decide +kernel), List.mem_of_getElem? (i := 1574) (by decide +kernel), List.mem_of_getElem? (i := 1575) (by decide +kernel)⟩
theorem lw_p70 : lw_okq (⟨"LakeBooksModel", "keepsAct", "(II)I"⟩, 77) := ⟨⟨by decide +kernel, by decide +kernel⟩, List.mem_of_getElem? (i := 1019) (by decide +kernel), List.mem_of_getElem? (i := 1590) (by decide +kernel), List.mem_of_getElem? (i := 1591) (by decide +kernel)⟩
theorem lw_p71 : lw_okq (⟨"LakeBooksModel", "body", "(I)V"⟩, 77) := ⟨⟨by decide +kernel, by decide +kernel⟩, List.mem_of_getElem? (i := 1019) (by decide +kernel), List.mem_of_getElem? (i := 1594) (by decide +kernel), List.mem_of_getElem? (i := 1595) (by decide +kernel)⟩
theorem lw_p72 : lw_okq (⟨"LakeBooksModel", "accountKeeps", "(II)I"⟩, 77) := ⟨⟨by decide +kernel, by decide +kernel⟩, List.mem_of_getElem? (i := 1019) (by decide +kernel), List.mem_of_getElem? (i := 1598) (by decide +kernel), List.mem_of_getElem? (i := 1599) (by decide +kernel)⟩
theorem lw_p73 : lw_okq (⟨"LakeBooksModel", "poursAct", "(II)I"⟩, 77) := ⟨⟨by decide +kernel, by decide +kernel⟩, List.mem_of_getElem? (i := 1019) (by decide +kernel), List.mem_of_getElem? (i := 1602) (by decide +kernel), List.mem_of_getElem? (i := 1603) (by decide +kernel)⟩
theorem lw_p74 : lw_okq (⟨"LakeBooksModel", "savingPours", "(II)I"⟩, 77) := ⟨⟨by decide +kernel, by decide +kernel⟩, List.mem_of_getElem? (i := 1019) (by decide +kernel), List.mem_of_getElem? (i := 1606) (by decide +kernel), List.mem_of_getElem? (i := 1607) (by decide +kernel)⟩
theorem lw_p75 : lw_okq (⟨"LakeBooksModel", "accountPours", "(II)I"⟩, 77) := ⟨⟨by decide +kernel, by decide +kernel⟩, List.mem_of_getElem? (i := 1019) (by decide +kernel), List.mem_of_getElem? (i := 1610) (by decide +kernel), List.mem_of_getElem? (i := 1611) (by decide +kernel)⟩
theorem lw_p76 : lw_okq (⟨"LakeBooksModel", "tellsAct", "(II)I"⟩, 77) := ⟨⟨by decide +kernel, by decide +kernel⟩, List.mem_of_getElem? (i := 1019) (by decide +kernel), List.mem_of_getElem? (i := 1614) (by decide +kernel), List.mem_of_getElem? (i := 1615) (by decide +kernel)⟩
theorem lw_p77 : lw_okq (⟨"LakeBooksModel", "accountTells", "(II)I"⟩, 77) := ⟨⟨by decide +kernel, by decide +kernel⟩, List.mem_of_getElem? (i := 1019) (by decide +kernel), List.mem_of_getElem? (i := 1618) (by decide +kernel), List.mem_of_getElem? (i := 1619) (by decide +kernel)⟩
theorem lw_p78 : lw_okq (⟨"LakeBooksModel", "narrow", "(IJ)J"⟩, 77) := ⟨⟨by decide +kernel, by decide +kernel⟩, List.mem_of_getElem? (i := 1019) (by decide +kernel), List.mem_of_getElem? (i := 1642) (by decide +kernel), List.mem_of_getElem? (i := 1643) (by decide +kernel)⟩
def lw_privs_5 : List (MethodName × Nat) := [(⟨"LakeBooksModel", "isAbove", "(I)Z"⟩, 77), (⟨"LakeBooksModel", "waterBehind", "(I)I"⟩, 77), (⟨"LakeBooksModel", "lowestTerms", "(III)J"⟩, 77), (⟨"LakeBooksModel", "divisor", "(II)I"⟩, 77), (⟨"LakeBooksModel", "isSeen", "()Z"⟩, 77), (⟨"LakeBooksModel", "isTape", "(I)Z"⟩, 77), (⟨"LakeBooksModel", "keepsAct", "(II)I"⟩, 77), (⟨"LakeBooksModel", "body", "(I)V"⟩, 77), (⟨"LakeBooksModel", "accountKeeps", "(II)I"⟩, 77), (⟨"LakeBooksModel", "poursAct", "(II)I"⟩, 77), (⟨"LakeBooksModel", "savingPours", "(II)I"⟩, 77), (⟨"LakeBooksModel", "accountPours", "(II)I"⟩, 77), (⟨"LakeBooksModel", "tellsAct", "(II)I"⟩, 77), (⟨"LakeBooksModel", "accountTells", "(II)I"⟩, 77), (⟨"LakeBooksModel", "narrow", "(IJ)J"⟩, 77)]
theorem lw_r5 : ∀ q ∈ lw_privs_5, lw_okq q := List.forall_mem_cons.mpr ⟨lw_p64, List.forall_mem_cons.mpr ⟨lw_p65, List.forall_mem_cons.mpr ⟨lw_p66, List.forall_mem_cons.mpr ⟨lw_p67, List.forall_mem_cons.mpr ⟨lw_p68, List.forall_mem_cons.mpr ⟨lw_p69, List.forall_mem_cons.mpr ⟨lw_p70, List.forall_mem_cons.mpr ⟨lw_p71, List.forall_mem_cons.mpr ⟨lw_p72, List.forall_mem_cons.mpr ⟨lw_p73, List.forall_mem_cons.mpr ⟨lw_p74, List.forall_mem_cons.mpr ⟨lw_p75, List.forall_mem_cons.mpr ⟨lw_p76, List.forall_mem_cons.mpr ⟨lw_p77, List.forall_mem_cons.mpr ⟨lw_p78, fun _ h => absurd h List.not_mem_nil⟩⟩⟩⟩⟩⟩⟩⟩⟩⟩⟩⟩⟩⟩⟩
def lw_privs : List (MethodName × Nat) := lw_privs_1 ++ (lw_privs_2 ++ (lw_privs_3 ++ (lw_privs_4 ++ (lw_privs_5))))
def lw_tbl : List Cond := k2_sels lw_privs ++ tables_1
theorem lw_privs_ok : ∀ q ∈ lw_privs, lw_okq q := by
  show ∀ q ∈ lw_privs_1 ++ (lw_privs_2 ++ (lw_privs_3 ++ (lw_privs_4 ++ (lw_privs_5)))), lw_okq q
  exact List.forall_mem_append.mpr ⟨lw_r1, List.forall_mem_append.mpr ⟨lw_r2, List.forall_mem_append.mpr ⟨lw_r3, List.forall_mem_append.mpr ⟨lw_r4, lw_r5⟩⟩⟩⟩
end
section
/-! ===== BEGIN printed: names, fields, word lists, decode rows ===== -/
def RX0 : String := "LakeBooks$Account"
def TX0 : u_T := fun k => match k with
  | 0 => ("LakeBooks$Account", "number", "I", true)
  | 1 => ("LakeBooks$Account", "row", "[I", true)
  | 2 => ("LakeBooks$Account", "here", "Z", false)
  | 3 => ("LakeBooks$Account", "kind", "I", false)
  | 4 => ("LakeBooks$Account", "v", "I", false)
  | 5 => ("LakeBooks$Account", "buckets", "I", false)
  | 6 => ("LakeBooks$Account", "daily", "I", false)
  | 7 => ("LakeBooks$Account", "stones", "I", false)
  | 8 => ("LakeBooks$Account", "dayPours", "I", false)
  | _ => ("LakeBooks$Account", "daySun", "I", false)
def tyX0 : Nat → FieldType := fun k => match k with
  | 0 => .int
  | 1 => .array .int
  | 2 => .boolean
  | 3 => .int
  | 4 => .int
  | 5 => .int
  | 6 => .int
  | 7 => .int
  | 8 => .int
  | _ => .int
abbrev wsX00 : List Cond := u_ws RX0 TX0 10
theorem nmX0 : ∀ a, a < 10 → ∀ b, b < 10 → a ≠ b → (TX0 a).2.1 ≠ (TX0 b).2.1 := by decide +kernel
theorem tyX0_ok : ∀ k, k < 10 → parseFieldDescriptor (TX0 k).2.2.1 = some (tyX0 k) := by decide +kernel
abbrev cX0_init : ByteArray := prog_2_method_1_code
def yX0_init : MethodName := ⟨RX0, "<init>", "(I)V"⟩
abbrev cX0_open : ByteArray := prog_2_method_2_code
def yX0_open : MethodName := ⟨RX0, "open", "(III)V"⟩
abbrev cX0_change : ByteArray := prog_2_method_3_code
def yX0_change : MethodName := ⟨RX0, "change", "(II)I"⟩
abbrev cX0_changeRow : ByteArray := prog_2_method_4_code
def yX0_changeRow : MethodName := ⟨RX0, "changeRow", "(II)I"⟩
abbrev cX0_lifts : ByteArray := prog_2_method_5_code
def yX0_lifts : MethodName := ⟨RX0, "lifts", "()I"⟩
abbrev cX0_pours : ByteArray := prog_2_method_6_code
def yX0_pours : MethodName := ⟨RX0, "pours", "(III)I"⟩
abbrev cX0_holdBuckets : ByteArray := prog_2_method_7_code
def yX0_holdBuckets : MethodName := ⟨RX0, "holdBuckets", "()V"⟩
abbrev cX0_copyFrom : ByteArray := prog_2_method_8_code
def yX0_copyFrom : MethodName := ⟨RX0, "copyFrom", "(LLakeBooks$Account;)V"⟩
def RX1 : String := "LakeBooks$Acts"
def TX1 : u_T := fun k => match k with
  | 0 => ("LakeBooks$Acts", "bodies", "[I", true)
  | _ => ("LakeBooks$Acts", "ran", "I", false)
def tyX1 : Nat → FieldType := fun k => match k with
  | 0 => .array .int
  | _ => .int
abbrev wsX10 : List Cond := u_ws RX1 TX1 2
theorem nmX1 : ∀ a, a < 2 → ∀ b, b < 2 → a ≠ b → (TX1 a).2.1 ≠ (TX1 b).2.1 := by decide +kernel
theorem tyX1_ok : ∀ k, k < 2 → parseFieldDescriptor (TX1 k).2.2.1 = some (tyX1 k) := by decide +kernel
abbrev cX1_init : ByteArray := prog_3_method_1_code
def yX1_init : MethodName := ⟨RX1, "<init>", "()V"⟩
abbrev cX1_ran : ByteArray := prog_3_method_2_code
def yX1_ran : MethodName := ⟨RX1, "ran", "()I"⟩
abbrev cX1_bodyAt : ByteArray := prog_3_method_3_code
def yX1_bodyAt : MethodName := ⟨RX1, "bodyAt", "(I)I"⟩
abbrev cX1_perform : ByteArray := prog_3_method_4_code
def yX1_perform : MethodName := ⟨RX1, "perform", "(LLakeBooks$Account;II)I"⟩
abbrev cX1_run : ByteArray := prog_3_method_5_code
def yX1_run : MethodName := ⟨RX1, "run", "(LLakeBooks$Account;IIII)I"⟩
abbrev cX1_runBody : ByteArray := prog_3_method_6_code
def yX1_runBody : MethodName := ⟨RX1, "runBody", "(LLakeBooks$Account;IIII)I"⟩
abbrev cX1_bodyOf : ByteArray := prog_3_method_7_code
def yX1_bodyOf : MethodName := ⟨RX1, "bodyOf", "(II)I"⟩
abbrev cX1_note : ByteArray := prog_3_method_8_code
def yX1_note : MethodName := ⟨RX1, "note", "(I)V"⟩
def RX2 : String := "LakeBooks$Asked"
def TX2 : u_T := fun k => match k with
  | _ => ("LakeBooks$Asked", "later", "LLakeBooks$State;", true)
def tyX2 : Nat → FieldType := fun k => match k with
  | _ => .object "LakeBooks$State"
abbrev wsX20 : List Cond := u_ws RX2 TX2 1
theorem nmX2 : ∀ a, a < 1 → ∀ b, b < 1 → a ≠ b → (TX2 a).2.1 ≠ (TX2 b).2.1 := by decide +kernel
theorem tyX2_ok : ∀ k, k < 1 → parseFieldDescriptor (TX2 k).2.2.1 = some (tyX2 k) := by decide +kernel
abbrev cX2_init : ByteArray := prog_4_method_1_code
def yX2_init : MethodName := ⟨RX2, "<init>", "()V"⟩
abbrev cX2_after : ByteArray := prog_4_method_2_code
def yX2_after : MethodName := ⟨RX2, "after", "(LLakeBooks$State;I)LLakeBooks$State;"⟩
abbrev cX2_afterPlan : ByteArray := prog_4_method_3_code
def yX2_afterPlan : MethodName := ⟨RX2, "afterPlan", "(LLakeBooks$State;)LLakeBooks$State;"⟩
abbrev cX2_daysTillDry : ByteArray := prog_4_method_4_code
def yX2_daysTillDry : MethodName := ⟨RX2, "daysTillDry", "(LLakeBooks$State;)I"⟩
abbrev cX2_daysTillLowest : ByteArray := prog_4_method_5_code
def yX2_daysTillLowest : MethodName := ⟨RX2, "daysTillLowest", "(LLakeBooks$State;I)I"⟩
abbrev cX2_firstBelow : ByteArray := prog_4_method_6_code
def yX2_firstBelow : MethodName := ⟨RX2, "firstBelow", "(LLakeBooks$State;I)I"⟩
abbrev cX2_leastDaily : ByteArray := prog_4_method_7_code
def yX2_leastDaily : MethodName := ⟨RX2, "leastDaily", "(LLakeBooks$State;II)I"⟩
abbrev cX2_daysTillEnough : ByteArray := prog_4_method_8_code
def yX2_daysTillEnough : MethodName := ⟨RX2, "daysTillEnough", "(LLakeBooks$State;II)I"⟩
abbrev cX2_waterBy : ByteArray := prog_4_method_9_code
def yX2_waterBy : MethodName := ⟨RX2, "waterBy", "(LLakeBooks$State;II)I"⟩
abbrev cX2_leastWell : ByteArray := prog_4_method_10_code
def yX2_leastWell : MethodName := ⟨RX2, "leastWell", "(LLakeBooks$State;I)I"⟩
abbrev cX2_sunShare : ByteArray := prog_4_method_11_code
def yX2_sunShare : MethodName := ⟨RX2, "sunShare", "(LLakeBooks$State;III)J"⟩
abbrev cX2_isAsSeenWith : ByteArray := prog_4_method_12_code
def yX2_isAsSeenWith : MethodName := ⟨RX2, "isAsSeenWith", "(LLakeBooks$State;II)Z"⟩
abbrev cX2_absencesAsSeen : ByteArray := prog_4_method_13_code
def yX2_absencesAsSeen : MethodName := ⟨RX2, "absencesAsSeen", "(LLakeBooks$State;)I"⟩
abbrev cX2_springlessOdds : ByteArray := prog_4_method_14_code
def yX2_springlessOdds : MethodName := ⟨RX2, "springlessOdds", "(LLakeBooks$State;II)J"⟩
abbrev cX2_meanLevel : ByteArray := prog_4_method_15_code
def yX2_meanLevel : MethodName := ⟨RX2, "meanLevel", "(LLakeBooks$State;II)J"⟩
abbrev cX2_beginWithout : ByteArray := prog_4_method_16_code
def yX2_beginWithout : MethodName := ⟨RX2, "beginWithout", "(LLakeBooks$State;I)V"⟩
abbrev cX2_staysWet : ByteArray := prog_4_method_17_code
def yX2_staysWet : MethodName := ⟨RX2, "staysWet", "(I)Z"⟩
abbrev cX2_goesAsSeen : ByteArray := prog_4_method_18_code
def yX2_goesAsSeen : MethodName := ⟨RX2, "goesAsSeen", "()Z"⟩
abbrev cX2_lastSeen : ByteArray := prog_4_method_19_code
def yX2_lastSeen : MethodName := ⟨RX2, "lastSeen", "()I"⟩
abbrev cX2_isAsSeenOn : ByteArray := prog_4_method_20_code
def yX2_isAsSeenOn : MethodName := ⟨RX2, "isAsSeenOn", "(I)Z"⟩
def RX3 : String := "LakeBooks$Lake"
def TX3 : u_T := fun k => match k with
  | _ => ("LakeBooks$Lake", "areas", "[I", true)
def tyX3 : Nat → FieldType := fun k => match k with
  | _ => .array .int
abbrev wsX30 : List Cond := u_ws RX3 TX3 1
theorem nmX3 : ∀ a, a < 1 → ∀ b, b < 1 → a ≠ b → (TX3 a).2.1 ≠ (TX3 b).2.1 := by decide +kernel
theorem tyX3_ok : ∀ k, k < 1 → parseFieldDescriptor (TX3 k).2.2.1 = some (tyX3 k) := by decide +kernel
abbrev cX3_init : ByteArray := prog_5_method_1_code
def yX3_init : MethodName := ⟨RX3, "<init>", "()V"⟩
abbrev cX3_areaOf : ByteArray := prog_5_method_2_code
def yX3_areaOf : MethodName := ⟨RX3, "areaOf", "(I)I"⟩
abbrev cX3_change : ByteArray := prog_5_method_3_code
def yX3_change : MethodName := ⟨RX3, "change", "(II)I"⟩
abbrev cX3_volumeOf : ByteArray := prog_5_method_4_code
def yX3_volumeOf : MethodName := ⟨RX3, "volumeOf", "(I)I"⟩
abbrev cX3_levelOf : ByteArray := prog_5_method_5_code
def yX3_levelOf : MethodName := ⟨RX3, "levelOf", "(I)I"⟩
abbrev cX3_copyFrom : ByteArray := prog_5_method_6_code
def yX3_copyFrom : MethodName := ⟨RX3, "copyFrom", "(LLakeBooks$Lake;)V"⟩
def RX4 : String := "LakeBooks$Law"
def TX4 : u_T := fun k => match k with
  | 0 => ("LakeBooks$Law", "words", "[I", true)
  | 1 => ("LakeBooks$Law", "numbers", "[I", true)
  | 2 => ("LakeBooks$Law", "ends", "[I", true)
  | 3 => ("LakeBooks$Law", "code", "[I", true)
  | 4 => ("LakeBooks$Law", "values", "[I", true)
  | 5 => ("LakeBooks$Law", "clauses", "I", false)
  | 6 => ("LakeBooks$Law", "codes", "I", false)
  | 7 => ("LakeBooks$Law", "mark", "I", false)
  | 8 => ("LakeBooks$Law", "floor", "I", false)
  | _ => ("LakeBooks$Law", "rate", "I", false)
def tyX4 : Nat → FieldType := fun k => match k with
  | 0 => .array .int
  | 1 => .array .int
  | 2 => .array .int
  | 3 => .array .int
  | 4 => .array .int
  | 5 => .int
  | 6 => .int
  | 7 => .int
  | 8 => .int
  | _ => .int
abbrev wsX40 : List Cond := u_ws RX4 TX4 10
theorem nmX4 : ∀ a, a < 10 → ∀ b, b < 10 → a ≠ b → (TX4 a).2.1 ≠ (TX4 b).2.1 := by decide +kernel
theorem tyX4_ok : ∀ k, k < 10 → parseFieldDescriptor (TX4 k).2.2.1 = some (tyX4 k) := by decide +kernel
abbrev cX4_init : ByteArray := prog_6_method_1_code
def yX4_init : MethodName := ⟨RX4, "<init>", "()V"⟩
abbrev cX4_clear : ByteArray := prog_6_method_2_code
def yX4_clear : MethodName := ⟨RX4, "clear", "()V"⟩
abbrev cX4_tell : ByteArray := prog_6_method_3_code
def yX4_tell : MethodName := ⟨RX4, "tell", "(II)V"⟩
abbrev cX4_put : ByteArray := prog_6_method_4_code
def yX4_put : MethodName := ⟨RX4, "put", "(I)V"⟩
abbrev cX4_close : ByteArray := prog_6_method_5_code
def yX4_close : MethodName := ⟨RX4, "close", "(II)V"⟩
abbrev cX4_together : ByteArray := prog_6_method_6_code
def yX4_together : MethodName := ⟨RX4, "together", "(ILLakeBooks$Account;II)I"⟩
abbrev cX4_tellValues : ByteArray := prog_6_method_7_code
def yX4_tellValues : MethodName := ⟨RX4, "tellValues", "(LLakeBooks$Account;II)V"⟩
abbrev cX4_holds : ByteArray := prog_6_method_8_code
def yX4_holds : MethodName := ⟨RX4, "holds", "(II)Z"⟩
def RX5 : String := "LakeBooks$Reader"
def TX5 : u_T := fun k => match k with
  | 0 => ("LakeBooks$Reader", "text", "[I", true)
  | 1 => ("LakeBooks$Reader", "length", "I", false)
  | _ => ("LakeBooks$Reader", "place", "I", false)
def tyX5 : Nat → FieldType := fun k => match k with
  | 0 => .array .int
  | 1 => .int
  | _ => .int
abbrev wsX50 : List Cond := u_ws RX5 TX5 3
theorem nmX5 : ∀ a, a < 3 → ∀ b, b < 3 → a ≠ b → (TX5 a).2.1 ≠ (TX5 b).2.1 := by decide +kernel
theorem tyX5_ok : ∀ k, k < 3 → parseFieldDescriptor (TX5 k).2.2.1 = some (tyX5 k) := by decide +kernel
abbrev cX5_init : ByteArray := prog_7_method_1_code
def yX5_init : MethodName := ⟨RX5, "<init>", "()V"⟩
abbrev cX5_length : ByteArray := prog_7_method_2_code
def yX5_length : MethodName := ⟨RX5, "length", "()I"⟩
abbrev cX5_add : ByteArray := prog_7_method_3_code
def yX5_add : MethodName := ⟨RX5, "add", "(I)I"⟩
abbrev cX5_clear : ByteArray := prog_7_method_4_code
def yX5_clear : MethodName := ⟨RX5, "clear", "()V"⟩
abbrev cX5_parse : ByteArray := prog_7_method_5_code
def yX5_parse : MethodName := ⟨RX5, "parse", "(LLakeBooks$Law;)I"⟩
abbrev cX5_wordOf : ByteArray := prog_7_method_6_code
def yX5_wordOf : MethodName := ⟨RX5, "wordOf", "(I)Ljava/lang/String;"⟩
abbrev cX5_take : ByteArray := prog_7_method_7_code
def yX5_take : MethodName := ⟨RX5, "take", "(I)Z"⟩
abbrev cX5_takeWord : ByteArray := prog_7_method_8_code
def yX5_takeWord : MethodName := ⟨RX5, "takeWord", "()I"⟩
abbrev cX5_sameSigns : ByteArray := prog_7_method_9_code
def yX5_sameSigns : MethodName := ⟨RX5, "sameSigns", "(Ljava/lang/String;)I"⟩
abbrev cX5_takeNumber : ByteArray := prog_7_method_10_code
def yX5_takeNumber : MethodName := ⟨RX5, "takeNumber", "()I"⟩
abbrev cX5_takeEither : ByteArray := prog_7_method_11_code
def yX5_takeEither : MethodName := ⟨RX5, "takeEither", "(LLakeBooks$Law;I)Z"⟩
abbrev cX5_takeBoth : ByteArray := prog_7_method_12_code
def yX5_takeBoth : MethodName := ⟨RX5, "takeBoth", "(LLakeBooks$Law;I)Z"⟩
abbrev cX5_takeFactor : ByteArray := prog_7_method_13_code
def yX5_takeFactor : MethodName := ⟨RX5, "takeFactor", "(LLakeBooks$Law;I)Z"⟩
abbrev cX5_takeTest : ByteArray := prog_7_method_14_code
def yX5_takeTest : MethodName := ⟨RX5, "takeTest", "(LLakeBooks$Law;)Z"⟩
abbrev cX5_takeOneOf : ByteArray := prog_7_method_15_code
def yX5_takeOneOf : MethodName := ⟨RX5, "takeOneOf", "(Ljava/lang/String;)I"⟩
def RX6 : String := "LakeBooks$Rows"
def TX6 : u_T := fun k => match k with
  | 0 => ("LakeBooks$Rows", "firsts", "[I", true)
  | 1 => ("LakeBooks$Rows", "seconds", "[I", true)
  | 2 => ("LakeBooks$Rows", "most", "I", true)
  | _ => ("LakeBooks$Rows", "used", "I", false)
def tyX6 : Nat → FieldType := fun k => match k with
  | 0 => .array .int
  | 1 => .array .int
  | 2 => .int
  | _ => .int
abbrev wsX60 : List Cond := u_ws RX6 TX6 4
theorem nmX6 : ∀ a, a < 4 → ∀ b, b < 4 → a ≠ b → (TX6 a).2.1 ≠ (TX6 b).2.1 := by decide +kernel
theorem tyX6_ok : ∀ k, k < 4 → parseFieldDescriptor (TX6 k).2.2.1 = some (tyX6 k) := by decide +kernel
abbrev cX6_init : ByteArray := prog_8_method_1_code
def yX6_init : MethodName := ⟨RX6, "<init>", "(I)V"⟩
abbrev cX6_size : ByteArray := prog_8_method_2_code
def yX6_size : MethodName := ⟨RX6, "size", "()I"⟩
abbrev cX6_first : ByteArray := prog_8_method_3_code
def yX6_first : MethodName := ⟨RX6, "first", "(I)I"⟩
abbrev cX6_second : ByteArray := prog_8_method_4_code
def yX6_second : MethodName := ⟨RX6, "second", "(I)I"⟩
abbrev cX6_clear : ByteArray := prog_8_method_5_code
def yX6_clear : MethodName := ⟨RX6, "clear", "()I"⟩
abbrev cX6_add : ByteArray := prog_8_method_6_code
def yX6_add : MethodName := ⟨RX6, "add", "(II)I"⟩
abbrev cX6_copyFrom : ByteArray := prog_8_method_7_code
def yX6_copyFrom : MethodName := ⟨RX6, "copyFrom", "(LLakeBooks$Rows;)V"⟩
def RX7 : String := "LakeBooks$State"
def TX7 : u_T := fun k => match k with
  | 0 => ("LakeBooks$State", "lake", "LLakeBooks$Lake;", true)
  | 1 => ("LakeBooks$State", "accounts", "[LLakeBooks$Account;", true)
  | 2 => ("LakeBooks$State", "seen", "LLakeBooks$Rows;", true)
  | 3 => ("LakeBooks$State", "plan", "LLakeBooks$Rows;", true)
  | 4 => ("LakeBooks$State", "book", "LLakeBooks$Rows;", true)
  | 5 => ("LakeBooks$State", "law", "LLakeBooks$Law;", false)
  | 6 => ("LakeBooks$State", "accountCount", "I", false)
  | 7 => ("LakeBooks$State", "water", "I", false)
  | 8 => ("LakeBooks$State", "town", "I", false)
  | 9 => ("LakeBooks$State", "day", "I", false)
  | 10 => ("LakeBooks$State", "moreSpring", "I", false)
  | _ => ("LakeBooks$State", "springlessDay", "I", false)
def tyX7 : Nat → FieldType := fun k => match k with
  | 0 => .object "LakeBooks$Lake"
  | 1 => .array (.object "LakeBooks$Account")
  | 2 => .object "LakeBooks$Rows"
  | 3 => .object "LakeBooks$Rows"
  | 4 => .object "LakeBooks$Rows"
  | 5 => .object "LakeBooks$Law"
  | 6 => .int
  | 7 => .int
  | 8 => .int
  | 9 => .int
  | 10 => .int
  | _ => .int
abbrev wsX70 : List Cond := u_ws RX7 TX7 12
theorem nmX7 : ∀ a, a < 12 → ∀ b, b < 12 → a ≠ b → (TX7 a).2.1 ≠ (TX7 b).2.1 := by decide +kernel
theorem tyX7_ok : ∀ k, k < 12 → parseFieldDescriptor (TX7 k).2.2.1 = some (tyX7 k) := by decide +kernel
abbrev cX7_init : ByteArray := prog_9_method_1_code
def yX7_init : MethodName := ⟨RX7, "<init>", "()V"⟩
abbrev cX7_find : ByteArray := prog_9_method_2_code
def yX7_find : MethodName := ⟨RX7, "find", "(I)LLakeBooks$Account;"⟩
abbrev cX7_open : ByteArray := prog_9_method_3_code
def yX7_open : MethodName := ⟨RX7, "open", "(III)I"⟩
abbrev cX7_bucketsOf : ByteArray := prog_9_method_4_code
def yX7_bucketsOf : MethodName := ⟨RX7, "bucketsOf", "(I)I"⟩
abbrev cX7_level : ByteArray := prog_9_method_5_code
def yX7_level : MethodName := ⟨RX7, "level", "()I"⟩
abbrev cX7_spring : ByteArray := prog_9_method_6_code
def yX7_spring : MethodName := ⟨RX7, "spring", "(I)I"⟩
abbrev cX7_sunOf : ByteArray := prog_9_method_7_code
def yX7_sunOf : MethodName := ⟨RX7, "sunOf", "(LLakeBooks$Account;I)I"⟩
abbrev cX7_isDry : ByteArray := prog_9_method_8_code
def yX7_isDry : MethodName := ⟨RX7, "isDry", "()Z"⟩
abbrev cX7_firstBelow : ByteArray := prog_9_method_9_code
def yX7_firstBelow : MethodName := ⟨RX7, "firstBelow", "(I)I"⟩
abbrev cX7_richestNow : ByteArray := prog_9_method_10_code
def yX7_richestNow : MethodName := ⟨RX7, "richestNow", "()I"⟩
abbrev cX7_sunOfDay : ByteArray := prog_9_method_11_code
def yX7_sunOfDay : MethodName := ⟨RX7, "sunOfDay", "()I"⟩
abbrev cX7_pass : ByteArray := prog_9_method_12_code
def yX7_pass : MethodName := ⟨RX7, "pass", "()V"⟩
abbrev cX7_pourBy : ByteArray := prog_9_method_13_code
def yX7_pourBy : MethodName := ⟨RX7, "pourBy", "(LLakeBooks$Account;I)V"⟩
abbrev cX7_spillTo : ByteArray := prog_9_method_14_code
def yX7_spillTo : MethodName := ⟨RX7, "spillTo", "(I)V"⟩
abbrev cX7_copyFrom : ByteArray := prog_9_method_15_code
def yX7_copyFrom : MethodName := ⟨RX7, "copyFrom", "(LLakeBooks$State;)V"⟩
def RX8 : String := "LakeBooks$Tape"
def TX8 : u_T := fun k => match k with
  | 0 => ("LakeBooks$Tape", "items", "[J", true)
  | 1 => ("LakeBooks$Tape", "sort", "I", false)
  | _ => ("LakeBooks$Tape", "size", "I", false)
def tyX8 : Nat → FieldType := fun k => match k with
  | 0 => .array .long
  | 1 => .int
  | _ => .int
abbrev wsX80 : List Cond := u_ws RX8 TX8 3
theorem nmX8 : ∀ a, a < 3 → ∀ b, b < 3 → a ≠ b → (TX8 a).2.1 ≠ (TX8 b).2.1 := by decide +kernel
theorem tyX8_ok : ∀ k, k < 3 → parseFieldDescriptor (TX8 k).2.2.1 = some (tyX8 k) := by decide +kernel
abbrev cX8_init : ByteArray := prog_10_method_1_code
def yX8_init : MethodName := ⟨RX8, "<init>", "()V"⟩
abbrev cX8_isEmpty : ByteArray := prog_10_method_2_code
def yX8_isEmpty : MethodName := ⟨RX8, "isEmpty", "()Z"⟩
abbrev cX8_become : ByteArray := prog_10_method_3_code
def yX8_become : MethodName := ⟨RX8, "become", "(II)I"⟩
abbrev cX8_put : ByteArray := prog_10_method_4_code
def yX8_put : MethodName := ⟨RX8, "put", "(IJ)Z"⟩
abbrev cX8_get : ByteArray := prog_10_method_5_code
def yX8_get : MethodName := ⟨RX8, "get", "(I)J"⟩
abbrev cX8_takeFrom : ByteArray := prog_10_method_6_code
def yX8_takeFrom : MethodName := ⟨RX8, "takeFrom", "(LLakeBooks$Tape;III)Z"⟩
abbrev cX8_cut : ByteArray := prog_10_method_7_code
def yX8_cut : MethodName := ⟨RX8, "cut", "(J)J"⟩
def RX9 : String := "LakeBooks"
def TX9 : u_T := fun k => match k with
  | 0 => ("LakeBooks", "now", "LLakeBooks$State;", true)
  | 1 => ("LakeBooks", "image", "LLakeBooks$State;", true)
  | 2 => ("LakeBooks", "asked", "LLakeBooks$Asked;", true)
  | 3 => ("LakeBooks", "reader", "LLakeBooks$Reader;", true)
  | 4 => ("LakeBooks", "laws", "[LLakeBooks$Law;", true)
  | 5 => ("LakeBooks", "tapes", "[LLakeBooks$Tape;", true)
  | 6 => ("LakeBooks", "acts", "LLakeBooks$Acts;", true)
  | 7 => ("LakeBooks", "imaged", "Z", false)
  | _ => ("LakeBooks", "lawCount", "I", false)
def tyX9 : Nat → FieldType := fun k => match k with
  | 0 => .object "LakeBooks$State"
  | 1 => .object "LakeBooks$State"
  | 2 => .object "LakeBooks$Asked"
  | 3 => .object "LakeBooks$Reader"
  | 4 => .array (.object "LakeBooks$Law")
  | 5 => .array (.object "LakeBooks$Tape")
  | 6 => .object "LakeBooks$Acts"
  | 7 => .boolean
  | _ => .int
abbrev wsX90 : List Cond := u_ws RX9 TX9 9
theorem nmX9 : ∀ a, a < 9 → ∀ b, b < 9 → a ≠ b → (TX9 a).2.1 ≠ (TX9 b).2.1 := by decide +kernel
theorem tyX9_ok : ∀ k, k < 9 → parseFieldDescriptor (TX9 k).2.2.1 = some (tyX9 k) := by decide +kernel
abbrev cX9_init : ByteArray := prog_1_method_1_code
def yX9_init : MethodName := ⟨RX9, "<init>", "()V"⟩
abbrev cX9_area : ByteArray := prog_1_method_2_code
def yX9_area : MethodName := ⟨RX9, "area", "(II)I"⟩
abbrev cX9_volume : ByteArray := prog_1_method_3_code
def yX9_volume : MethodName := ⟨RX9, "volume", "(I)I"⟩
abbrev cX9_account : ByteArray := prog_1_method_4_code
def yX9_account : MethodName := ⟨RX9, "account", "(III)I"⟩
abbrev cX9_of : ByteArray := prog_1_method_5_code
def yX9_of : MethodName := ⟨RX9, "of", "(II)I"⟩
abbrev cX9_set : ByteArray := prog_1_method_6_code
def yX9_set : MethodName := ⟨RX9, "set", "(III)I"⟩
abbrev cX9_row : ByteArray := prog_1_method_7_code
def yX9_row : MethodName := ⟨RX9, "row", "(III)I"⟩
abbrev cX9_water : ByteArray := prog_1_method_8_code
def yX9_water : MethodName := ⟨RX9, "water", "(I)I"⟩
abbrev cX9_feed : ByteArray := prog_1_method_9_code
def yX9_feed : MethodName := ⟨RX9, "feed", "(I)I"⟩
abbrev cX9_law : ByteArray := prog_1_method_10_code
def yX9_law : MethodName := ⟨RX9, "law", "()I"⟩
abbrev cX9_told : ByteArray := prog_1_method_11_code
def yX9_told : MethodName := ⟨RX9, "told", "(I)I"⟩
abbrev cX9_day : ByteArray := prog_1_method_12_code
def yX9_day : MethodName := ⟨RX9, "day", "()I"⟩
abbrev cX9_on : ByteArray := prog_1_method_13_code
def yX9_on : MethodName := ⟨RX9, "on", "(II)I"⟩
abbrev cX9_dry : ByteArray := prog_1_method_14_code
def yX9_dry : MethodName := ⟨RX9, "dry", "()I"⟩
abbrev cX9_lowest : ByteArray := prog_1_method_15_code
def yX9_lowest : MethodName := ⟨RX9, "lowest", "(I)I"⟩
abbrev cX9_ruined : ByteArray := prog_1_method_16_code
def yX9_ruined : MethodName := ⟨RX9, "ruined", "(I)I"⟩
abbrev cX9_may : ByteArray := prog_1_method_17_code
def yX9_may : MethodName := ⟨RX9, "may", "(II)I"⟩
abbrev cX9_enough : ByteArray := prog_1_method_18_code
def yX9_enough : MethodName := ⟨RX9, "enough", "(II)I"⟩
abbrev cX9_lifted : ByteArray := prog_1_method_19_code
def yX9_lifted : MethodName := ⟨RX9, "lifted", "()I"⟩
abbrev cX9_without : ByteArray := prog_1_method_20_code
def yX9_without : MethodName := ⟨RX9, "without", "(II)I"⟩
abbrev cX9_wells : ByteArray := prog_1_method_21_code
def yX9_wells : MethodName := ⟨RX9, "wells", "(I)I"⟩
abbrev cX9_share : ByteArray := prog_1_method_22_code
def yX9_share : MethodName := ⟨RX9, "share", "(III)J"⟩
abbrev cX9_richest : ByteArray := prog_1_method_23_code
def yX9_richest : MethodName := ⟨RX9, "richest", "(I)I"⟩
abbrev cX9_see : ByteArray := prog_1_method_24_code
def yX9_see : MethodName := ⟨RX9, "see", "(II)I"⟩
abbrev cX9_hidden : ByteArray := prog_1_method_25_code
def yX9_hidden : MethodName := ⟨RX9, "hidden", "(II)I"⟩
abbrev cX9_whose : ByteArray := prog_1_method_26_code
def yX9_whose : MethodName := ⟨RX9, "whose", "()I"⟩
abbrev cX9_odds : ByteArray := prog_1_method_27_code
def yX9_odds : MethodName := ⟨RX9, "odds", "(II)J"⟩
abbrev cX9_mean : ByteArray := prog_1_method_28_code
def yX9_mean : MethodName := ⟨RX9, "mean", "(II)J"⟩
abbrev cX9_plan : ByteArray := prog_1_method_29_code
def yX9_plan : MethodName := ⟨RX9, "plan", "(II)I"⟩
abbrev cX9_planned : ByteArray := prog_1_method_30_code
def yX9_planned : MethodName := ⟨RX9, "planned", "(I)I"⟩
abbrev cX9_book : ByteArray := prog_1_method_31_code
def yX9_book : MethodName := ⟨RX9, "book", "(II)I"⟩
abbrev cX9_looked : ByteArray := prog_1_method_32_code
def yX9_looked : MethodName := ⟨RX9, "looked", "()I"⟩
abbrev cX9_judge : ByteArray := prog_1_method_33_code
def yX9_judge : MethodName := ⟨RX9, "judge", "(II)I"⟩
abbrev cX9_image : ByteArray := prog_1_method_34_code
def yX9_image : MethodName := ⟨RX9, "image", "()I"⟩
abbrev cX9_undo : ByteArray := prog_1_method_35_code
def yX9_undo : MethodName := ⟨RX9, "undo", "()I"⟩
abbrev cX9_act : ByteArray := prog_1_method_36_code
def yX9_act : MethodName := ⟨RX9, "act", "(III)I"⟩
abbrev cX9_trace : ByteArray := prog_1_method_37_code
def yX9_trace : MethodName := ⟨RX9, "trace", "(I)I"⟩
abbrev cX9_taken : ByteArray := prog_1_method_38_code
def yX9_taken : MethodName := ⟨RX9, "taken", "(II)I"⟩
abbrev cX9_count : ByteArray := prog_1_method_39_code
def yX9_count : MethodName := ⟨RX9, "count", "(I)I"⟩
abbrev cX9_tape : ByteArray := prog_1_method_40_code
def yX9_tape : MethodName := ⟨RX9, "tape", "(III)I"⟩
abbrev cX9_item : ByteArray := prog_1_method_41_code
def yX9_item : MethodName := ⟨RX9, "item", "(IIJ)I"⟩
abbrev cX9_read : ByteArray := prog_1_method_42_code
def yX9_read : MethodName := ⟨RX9, "read", "(II)J"⟩
abbrev cX9_shift : ByteArray := prog_1_method_43_code
def yX9_shift : MethodName := ⟨RX9, "shift", "(IIIII)I"⟩
abbrev cX9_within : ByteArray := prog_1_method_44_code
def yX9_within : MethodName := ⟨RX9, "within", "(III)Z"⟩
abbrev cX9_isDaily : ByteArray := prog_1_method_45_code
def yX9_isDaily : MethodName := ⟨RX9, "isDaily", "(I)Z"⟩
abbrev cX9_isPart : ByteArray := prog_1_method_46_code
def yX9_isPart : MethodName := ⟨RX9, "isPart", "(I)Z"⟩
abbrev cX9_maySet : ByteArray := prog_1_method_47_code
def yX9_maySet : MethodName := ⟨RX9, "maySet", "(II)Z"⟩
abbrev cX9_findTape : ByteArray := prog_1_method_48_code
def yX9_findTape : MethodName := ⟨RX9, "findTape", "(I)LLakeBooks$Tape;"⟩
abbrev cX9_at : ByteArray := prog_1_method_49_code
def yX9_at : MethodName := ⟨RX9, "at", "([II)I"⟩
abbrev cX9_kindAbove : ByteArray := prog_1_method_50_code
def yX9_kindAbove : MethodName := ⟨RX9, "kindAbove", "(I)I"⟩
abbrev cX9_isOrUnder : ByteArray := prog_1_method_51_code
def yX9_isOrUnder : MethodName := ⟨RX9, "isOrUnder", "(II)Z"⟩
abbrev cX9_lowestTerms : ByteArray := prog_1_method_52_code
def yX9_lowestTerms : MethodName := ⟨RX9, "lowestTerms", "(JJI)J"⟩
abbrev cX9_commonDivisor : ByteArray := prog_1_method_53_code
def yX9_commonDivisor : MethodName := ⟨RX9, "commonDivisor", "(JJ)J"⟩
def RX10 : String := "LakeBooksModel"
def TX10 : u_T := fun k => match k with
  | 0 => ("LakeBooksModel", "accounts", "I", false)
  | 1 => ("LakeBooksModel", "days", "I", false)
  | 2 => ("LakeBooksModel", "wet", "I", false)
  | 3 => ("LakeBooksModel", "town", "I", false)
  | 4 => ("LakeBooksModel", "areas", "[I", true)
  | 5 => ("LakeBooksModel", "kind", "[I", true)
  | 6 => ("LakeBooksModel", "v", "[I", true)
  | 7 => ("LakeBooksModel", "buckets", "[I", true)
  | 8 => ("LakeBooksModel", "daily", "[I", true)
  | 9 => ("LakeBooksModel", "stones", "[I", true)
  | 10 => ("LakeBooksModel", "rows", "[I", true)
  | 11 => ("LakeBooksModel", "laws", "I", false)
  | 12 => ("LakeBooksModel", "the", "I", false)
  | 13 => ("LakeBooksModel", "fed", "I", false)
  | 14 => ("LakeBooksModel", "at", "I", false)
  | 15 => ("LakeBooksModel", "digits", "I", false)
  | 16 => ("LakeBooksModel", "text", "[I", true)
  | 17 => ("LakeBooksModel", "clauses", "[I", true)
  | 18 => ("LakeBooksModel", "word", "[I", true)
  | 19 => ("LakeBooksModel", "number", "[I", true)
  | 20 => ("LakeBooksModel", "from", "[I", true)
  | 21 => ("LakeBooksModel", "to", "[I", true)
  | 22 => ("LakeBooksModel", "sign", "[I", true)
  | 23 => ("LakeBooksModel", "waits", "[I", true)
  | 24 => ("LakeBooksModel", "signs", "I", false)
  | 25 => ("LakeBooksModel", "waiting", "I", false)
  | 26 => ("LakeBooksModel", "open", "I", false)
  | 27 => ("LakeBooksModel", "letters", "[I", true)
  | 28 => ("LakeBooksModel", "pile", "[Z", true)
  | 29 => ("LakeBooksModel", "levelSeen", "I", false)
  | 30 => ("LakeBooksModel", "gone", "I", false)
  | 31 => ("LakeBooksModel", "wells", "I", false)
  | 32 => ("LakeBooksModel", "dryDay", "I", false)
  | 33 => ("LakeBooksModel", "pouring", "[I", true)
  | 34 => ("LakeBooksModel", "sunning", "[I", true)
  | 35 => ("LakeBooksModel", "keptDays", "I", false)
  | 36 => ("LakeBooksModel", "keptWet", "I", false)
  | 37 => ("LakeBooksModel", "keptTown", "I", false)
  | 38 => ("LakeBooksModel", "keptBuckets", "[I", true)
  | 39 => ("LakeBooksModel", "keptDaily", "[I", true)
  | 40 => ("LakeBooksModel", "seen", "I", false)
  | 41 => ("LakeBooksModel", "seenWhen", "[I", true)
  | 42 => ("LakeBooksModel", "seenLevel", "[I", true)
  | 43 => ("LakeBooksModel", "plans", "I", false)
  | 44 => ("LakeBooksModel", "books", "I", false)
  | 45 => ("LakeBooksModel", "planWho", "[I", true)
  | 46 => ("LakeBooksModel", "planDaily", "[I", true)
  | 47 => ("LakeBooksModel", "bookWho", "[I", true)
  | 48 => ("LakeBooksModel", "bookMany", "[I", true)
  | 49 => ("LakeBooksModel", "hasImage", "Z", false)
  | 50 => ("LakeBooksModel", "imageThe", "I", false)
  | 51 => ("LakeBooksModel", "imageAccounts", "I", false)
  | 52 => ("LakeBooksModel", "imageDays", "I", false)
  | 53 => ("LakeBooksModel", "imageWet", "I", false)
  | 54 => ("LakeBooksModel", "imageTown", "I", false)
  | 55 => ("LakeBooksModel", "imageSeen", "I", false)
  | 56 => ("LakeBooksModel", "imagePlans", "I", false)
  | 57 => ("LakeBooksModel", "imageBooks", "I", false)
  | 58 => ("LakeBooksModel", "imageAreas", "[I", true)
  | 59 => ("LakeBooksModel", "imageKind", "[I", true)
  | 60 => ("LakeBooksModel", "imageV", "[I", true)
  | 61 => ("LakeBooksModel", "imageBuckets", "[I", true)
  | 62 => ("LakeBooksModel", "imageDaily", "[I", true)
  | 63 => ("LakeBooksModel", "imageStones", "[I", true)
  | 64 => ("LakeBooksModel", "imageRows", "[I", true)
  | 65 => ("LakeBooksModel", "imageWhen", "[I", true)
  | 66 => ("LakeBooksModel", "imageLevel", "[I", true)
  | 67 => ("LakeBooksModel", "imagePlanWho", "[I", true)
  | 68 => ("LakeBooksModel", "imagePlanDaily", "[I", true)
  | 69 => ("LakeBooksModel", "imageBookWho", "[I", true)
  | 70 => ("LakeBooksModel", "imageBookMany", "[I", true)
  | 71 => ("LakeBooksModel", "ran", "I", false)
  | 72 => ("LakeBooksModel", "bodies", "[I", true)
  | 73 => ("LakeBooksModel", "sort", "[I", true)
  | 74 => ("LakeBooksModel", "length", "[I", true)
  | 75 => ("LakeBooksModel", "item", "[J", true)
  | _ => ("LakeBooksModel", "aside", "[J", true)
def tyX10 : Nat → FieldType := fun k => match k with
  | 0 => .int
  | 1 => .int
  | 2 => .int
  | 3 => .int
  | 4 => .array .int
  | 5 => .array .int
  | 6 => .array .int
  | 7 => .array .int
  | 8 => .array .int
  | 9 => .array .int
  | 10 => .array .int
  | 11 => .int
  | 12 => .int
  | 13 => .int
  | 14 => .int
  | 15 => .int
  | 16 => .array .int
  | 17 => .array .int
  | 18 => .array .int
  | 19 => .array .int
  | 20 => .array .int
  | 21 => .array .int
  | 22 => .array .int
  | 23 => .array .int
  | 24 => .int
  | 25 => .int
  | 26 => .int
  | 27 => .array .int
  | 28 => .array .boolean
  | 29 => .int
  | 30 => .int
  | 31 => .int
  | 32 => .int
  | 33 => .array .int
  | 34 => .array .int
  | 35 => .int
  | 36 => .int
  | 37 => .int
  | 38 => .array .int
  | 39 => .array .int
  | 40 => .int
  | 41 => .array .int
  | 42 => .array .int
  | 43 => .int
  | 44 => .int
  | 45 => .array .int
  | 46 => .array .int
  | 47 => .array .int
  | 48 => .array .int
  | 49 => .boolean
  | 50 => .int
  | 51 => .int
  | 52 => .int
  | 53 => .int
  | 54 => .int
  | 55 => .int
  | 56 => .int
  | 57 => .int
  | 58 => .array .int
  | 59 => .array .int
  | 60 => .array .int
  | 61 => .array .int
  | 62 => .array .int
  | 63 => .array .int
  | 64 => .array .int
  | 65 => .array .int
  | 66 => .array .int
  | 67 => .array .int
  | 68 => .array .int
  | 69 => .array .int
  | 70 => .array .int
  | 71 => .int
  | 72 => .array .int
  | 73 => .array .int
  | 74 => .array .int
  | 75 => .array .long
  | _ => .array .long
abbrev wsX100 : List Cond := u_ws RX10 TX10 77
theorem nmX10 : ∀ a, a < 77 → ∀ b, b < 77 → a ≠ b → (TX10 a).2.1 ≠ (TX10 b).2.1 := by decide +kernel
theorem tyX10_ok : ∀ k, k < 77 → parseFieldDescriptor (TX10 k).2.2.1 = some (tyX10 k) := by decide +kernel
abbrev cX10_init : ByteArray := prog_12_method_1_code
def yX10_init : MethodName := ⟨RX10, "<init>", "()V"⟩
abbrev cX10_in : ByteArray := prog_12_method_2_code
def yX10_in : MethodName := ⟨RX10, "in", "(III)Z"⟩
abbrev cX10_isAccount : ByteArray := prog_12_method_3_code
def yX10_isAccount : MethodName := ⟨RX10, "isAccount", "(I)Z"⟩
abbrev cX10_isDaily : ByteArray := prog_12_method_4_code
def yX10_isDaily : MethodName := ⟨RX10, "isDaily", "(I)Z"⟩
abbrev cX10_area : ByteArray := prog_12_method_5_code
def yX10_area : MethodName := ⟨RX10, "area", "(II)I"⟩
abbrev cX10_volumeOf : ByteArray := prog_12_method_6_code
def yX10_volumeOf : MethodName := ⟨RX10, "volumeOf", "(I)I"⟩
abbrev cX10_volume : ByteArray := prog_12_method_7_code
def yX10_volume : MethodName := ⟨RX10, "volume", "(I)I"⟩
abbrev cX10_levelOf : ByteArray := prog_12_method_8_code
def yX10_levelOf : MethodName := ⟨RX10, "levelOf", "(I)I"⟩
abbrev cX10_account : ByteArray := prog_12_method_9_code
def yX10_account : MethodName := ⟨RX10, "account", "(III)I"⟩
abbrev cX10_row : ByteArray := prog_12_method_10_code
def yX10_row : MethodName := ⟨RX10, "row", "(III)I"⟩
abbrev cX10_water : ByteArray := prog_12_method_11_code
def yX10_water : MethodName := ⟨RX10, "water", "(I)I"⟩
abbrev cX10_set : ByteArray := prog_12_method_12_code
def yX10_set : MethodName := ⟨RX10, "set", "(III)I"⟩
abbrev cX10_feed : ByteArray := prog_12_method_13_code
def yX10_feed : MethodName := ⟨RX10, "feed", "(I)I"⟩
abbrev cX10_next : ByteArray := prog_12_method_14_code
def yX10_next : MethodName := ⟨RX10, "next", "()I"⟩
abbrev cX10_second : ByteArray := prog_12_method_15_code
def yX10_second : MethodName := ⟨RX10, "second", "()I"⟩
abbrev cX10_takes : ByteArray := prog_12_method_16_code
def yX10_takes : MethodName := ⟨RX10, "takes", "(I)Z"⟩
abbrev cX10_takesWord : ByteArray := prog_12_method_17_code
def yX10_takesWord : MethodName := ⟨RX10, "takesWord", "(II)Z"⟩
abbrev cX10_isDigit : ByteArray := prog_12_method_18_code
def yX10_isDigit : MethodName := ⟨RX10, "isDigit", "()Z"⟩
abbrev cX10_takesNumber : ByteArray := prog_12_method_19_code
def yX10_takesNumber : MethodName := ⟨RX10, "takesNumber", "()Z"⟩
abbrev cX10_emits : ByteArray := prog_12_method_20_code
def yX10_emits : MethodName := ⟨RX10, "emits", "(I)V"⟩
abbrev cX10_whole : ByteArray := prog_12_method_21_code
def yX10_whole : MethodName := ⟨RX10, "whole", "()V"⟩
abbrev cX10_settle : ByteArray := prog_12_method_22_code
def yX10_settle : MethodName := ⟨RX10, "settle", "(I)V"⟩
abbrev cX10_place : ByteArray := prog_12_method_23_code
def yX10_place : MethodName := ⟨RX10, "place", "(I)I"⟩
abbrev cX10_takesTest : ByteArray := prog_12_method_24_code
def yX10_takesTest : MethodName := ⟨RX10, "takesTest", "()Z"⟩
abbrev cX10_takesE : ByteArray := prog_12_method_25_code
def yX10_takesE : MethodName := ⟨RX10, "takesE", "(I)Z"⟩
abbrev cX10_takesHead : ByteArray := prog_12_method_26_code
def yX10_takesHead : MethodName := ⟨RX10, "takesHead", "(I)Z"⟩
abbrev cX10_takesClause : ByteArray := prog_12_method_27_code
def yX10_takesClause : MethodName := ⟨RX10, "takesClause", "(I)Z"⟩
abbrev cX10_goesText : ByteArray := prog_12_method_28_code
def yX10_goesText : MethodName := ⟨RX10, "goesText", "(I)Z"⟩
abbrev cX10_law : ByteArray := prog_12_method_29_code
def yX10_law : MethodName := ⟨RX10, "law", "()I"⟩
abbrev cX10_begin : ByteArray := prog_12_method_30_code
def yX10_begin : MethodName := ⟨RX10, "begin", "()I"⟩
abbrev cX10_behind : ByteArray := prog_12_method_31_code
def yX10_behind : MethodName := ⟨RX10, "behind", "()I"⟩
abbrev cX10_lastOf : ByteArray := prog_12_method_32_code
def yX10_lastOf : MethodName := ⟨RX10, "lastOf", "(II)I"⟩
abbrev cX10_mark : ByteArray := prog_12_method_33_code
def yX10_mark : MethodName := ⟨RX10, "mark", "()I"⟩
abbrev cX10_floor : ByteArray := prog_12_method_34_code
def yX10_floor : MethodName := ⟨RX10, "floor", "()I"⟩
abbrev cX10_factOf : ByteArray := prog_12_method_35_code
def yX10_factOf : MethodName := ⟨RX10, "factOf", "(II)I"⟩
abbrev cX10_holds : ByteArray := prog_12_method_36_code
def yX10_holds : MethodName := ⟨RX10, "holds", "(II)Z"⟩
abbrev cX10_liftsOf : ByteArray := prog_12_method_37_code
def yX10_liftsOf : MethodName := ⟨RX10, "liftsOf", "(I)I"⟩
abbrev cX10_level : ByteArray := prog_12_method_38_code
def yX10_level : MethodName := ⟨RX10, "level", "()I"⟩
abbrev cX10_sumOf : ByteArray := prog_12_method_39_code
def yX10_sumOf : MethodName := ⟨RX10, "sumOf", "(II)I"⟩
abbrev cX10_spring : ByteArray := prog_12_method_40_code
def yX10_spring : MethodName := ⟨RX10, "spring", "()I"⟩
abbrev cX10_sunOf : ByteArray := prog_12_method_41_code
def yX10_sunOf : MethodName := ⟨RX10, "sunOf", "(I)I"⟩
abbrev cX10_poursOf : ByteArray := prog_12_method_42_code
def yX10_poursOf : MethodName := ⟨RX10, "poursOf", "(I)I"⟩
abbrev cX10_of : ByteArray := prog_12_method_43_code
def yX10_of : MethodName := ⟨RX10, "of", "(II)I"⟩
abbrev cX10_told : ByteArray := prog_12_method_44_code
def yX10_told : MethodName := ⟨RX10, "told", "(I)I"⟩
abbrev cX10_held : ByteArray := prog_12_method_45_code
def yX10_held : MethodName := ⟨RX10, "held", "(I)I"⟩
abbrev cX10_pours : ByteArray := prog_12_method_46_code
def yX10_pours : MethodName := ⟨RX10, "pours", "(II)V"⟩
abbrev cX10_goDay : ByteArray := prog_12_method_47_code
def yX10_goDay : MethodName := ⟨RX10, "goDay", "()V"⟩
abbrev cX10_day : ByteArray := prog_12_method_48_code
def yX10_day : MethodName := ⟨RX10, "day", "()I"⟩
abbrev cX10_save : ByteArray := prog_12_method_49_code
def yX10_save : MethodName := ⟨RX10, "save", "()V"⟩
abbrev cX10_putBack : ByteArray := prog_12_method_50_code
def yX10_putBack : MethodName := ⟨RX10, "putBack", "()V"⟩
abbrev cX10_isDays : ByteArray := prog_12_method_51_code
def yX10_isDays : MethodName := ⟨RX10, "isDays", "(I)Z"⟩
abbrev cX10_goDays : ByteArray := prog_12_method_52_code
def yX10_goDays : MethodName := ⟨RX10, "goDays", "(I)V"⟩
abbrev cX10_on : ByteArray := prog_12_method_53_code
def yX10_on : MethodName := ⟨RX10, "on", "(II)I"⟩
abbrev cX10_dry : ByteArray := prog_12_method_54_code
def yX10_dry : MethodName := ⟨RX10, "dry", "()I"⟩
abbrev cX10_lowest : ByteArray := prog_12_method_55_code
def yX10_lowest : MethodName := ⟨RX10, "lowest", "(I)I"⟩
abbrev cX10_below : ByteArray := prog_12_method_56_code
def yX10_below : MethodName := ⟨RX10, "below", "(I)I"⟩
abbrev cX10_ruined : ByteArray := prog_12_method_57_code
def yX10_ruined : MethodName := ⟨RX10, "ruined", "(I)I"⟩
abbrev cX10_isAbove : ByteArray := prog_12_method_58_code
def yX10_isAbove : MethodName := ⟨RX10, "isAbove", "(I)Z"⟩
abbrev cX10_may : ByteArray := prog_12_method_59_code
def yX10_may : MethodName := ⟨RX10, "may", "(II)I"⟩
abbrev cX10_enough : ByteArray := prog_12_method_60_code
def yX10_enough : MethodName := ⟨RX10, "enough", "(II)I"⟩
abbrev cX10_lifted : ByteArray := prog_12_method_61_code
def yX10_lifted : MethodName := ⟨RX10, "lifted", "()I"⟩
abbrev cX10_waterBehind : ByteArray := prog_12_method_62_code
def yX10_waterBehind : MethodName := ⟨RX10, "waterBehind", "(I)I"⟩
abbrev cX10_without : ByteArray := prog_12_method_63_code
def yX10_without : MethodName := ⟨RX10, "without", "(II)I"⟩
abbrev cX10_wells : ByteArray := prog_12_method_64_code
def yX10_wells : MethodName := ⟨RX10, "wells", "(I)I"⟩
abbrev cX10_divisor : ByteArray := prog_12_method_65_code
def yX10_divisor : MethodName := ⟨RX10, "divisor", "(II)I"⟩
abbrev cX10_lowestTerms : ByteArray := prog_12_method_66_code
def yX10_lowestTerms : MethodName := ⟨RX10, "lowestTerms", "(III)J"⟩
abbrev cX10_share : ByteArray := prog_12_method_67_code
def yX10_share : MethodName := ⟨RX10, "share", "(III)J"⟩
abbrev cX10_richest : ByteArray := prog_12_method_68_code
def yX10_richest : MethodName := ⟨RX10, "richest", "(I)I"⟩
abbrev cX10_see : ByteArray := prog_12_method_69_code
def yX10_see : MethodName := ⟨RX10, "see", "(II)I"⟩
abbrev cX10_isSeen : ByteArray := prog_12_method_70_code
def yX10_isSeen : MethodName := ⟨RX10, "isSeen", "()Z"⟩
abbrev cX10_hidden : ByteArray := prog_12_method_71_code
def yX10_hidden : MethodName := ⟨RX10, "hidden", "(II)I"⟩
abbrev cX10_whose : ByteArray := prog_12_method_72_code
def yX10_whose : MethodName := ⟨RX10, "whose", "()I"⟩
abbrev cX10_odds : ByteArray := prog_12_method_73_code
def yX10_odds : MethodName := ⟨RX10, "odds", "(II)J"⟩
abbrev cX10_mean : ByteArray := prog_12_method_74_code
def yX10_mean : MethodName := ⟨RX10, "mean", "(II)J"⟩
abbrev cX10_plan : ByteArray := prog_12_method_75_code
def yX10_plan : MethodName := ⟨RX10, "plan", "(II)I"⟩
abbrev cX10_planned : ByteArray := prog_12_method_76_code
def yX10_planned : MethodName := ⟨RX10, "planned", "(I)I"⟩
abbrev cX10_book : ByteArray := prog_12_method_77_code
def yX10_book : MethodName := ⟨RX10, "book", "(II)I"⟩
abbrev cX10_looked : ByteArray := prog_12_method_78_code
def yX10_looked : MethodName := ⟨RX10, "looked", "()I"⟩
abbrev cX10_judge : ByteArray := prog_12_method_79_code
def yX10_judge : MethodName := ⟨RX10, "judge", "(II)I"⟩
abbrev cX10_image : ByteArray := prog_12_method_80_code
def yX10_image : MethodName := ⟨RX10, "image", "()I"⟩
abbrev cX10_undo : ByteArray := prog_12_method_81_code
def yX10_undo : MethodName := ⟨RX10, "undo", "()I"⟩
abbrev cX10_body : ByteArray := prog_12_method_82_code
def yX10_body : MethodName := ⟨RX10, "body", "(I)V"⟩
abbrev cX10_accountKeeps : ByteArray := prog_12_method_83_code
def yX10_accountKeeps : MethodName := ⟨RX10, "accountKeeps", "(II)I"⟩
abbrev cX10_keepsAct : ByteArray := prog_12_method_84_code
def yX10_keepsAct : MethodName := ⟨RX10, "keepsAct", "(II)I"⟩
abbrev cX10_accountPours : ByteArray := prog_12_method_85_code
def yX10_accountPours : MethodName := ⟨RX10, "accountPours", "(II)I"⟩
abbrev cX10_savingPours : ByteArray := prog_12_method_86_code
def yX10_savingPours : MethodName := ⟨RX10, "savingPours", "(II)I"⟩
abbrev cX10_poursAct : ByteArray := prog_12_method_87_code
def yX10_poursAct : MethodName := ⟨RX10, "poursAct", "(II)I"⟩
abbrev cX10_accountTells : ByteArray := prog_12_method_88_code
def yX10_accountTells : MethodName := ⟨RX10, "accountTells", "(II)I"⟩
abbrev cX10_tellsAct : ByteArray := prog_12_method_89_code
def yX10_tellsAct : MethodName := ⟨RX10, "tellsAct", "(II)I"⟩
abbrev cX10_act : ByteArray := prog_12_method_90_code
def yX10_act : MethodName := ⟨RX10, "act", "(III)I"⟩
abbrev cX10_trace : ByteArray := prog_12_method_91_code
def yX10_trace : MethodName := ⟨RX10, "trace", "(I)I"⟩
abbrev cX10_taken : ByteArray := prog_12_method_92_code
def yX10_taken : MethodName := ⟨RX10, "taken", "(II)I"⟩
abbrev cX10_count : ByteArray := prog_12_method_93_code
def yX10_count : MethodName := ⟨RX10, "count", "(I)I"⟩
abbrev cX10_isTape : ByteArray := prog_12_method_94_code
def yX10_isTape : MethodName := ⟨RX10, "isTape", "(I)Z"⟩
abbrev cX10_tape : ByteArray := prog_12_method_95_code
def yX10_tape : MethodName := ⟨RX10, "tape", "(III)I"⟩
abbrev cX10_narrow : ByteArray := prog_12_method_96_code
def yX10_narrow : MethodName := ⟨RX10, "narrow", "(IJ)J"⟩
abbrev cX10_item : ByteArray := prog_12_method_97_code
def yX10_item : MethodName := ⟨RX10, "item", "(IIJ)I"⟩
abbrev cX10_read : ByteArray := prog_12_method_98_code
def yX10_read : MethodName := ⟨RX10, "read", "(II)J"⟩
abbrev cX10_shift : ByteArray := prog_12_method_99_code
def yX10_shift : MethodName := ⟨RX10, "shift", "(IIIII)I"⟩
def RJ11 : String := "java/lang/Character"
def TJ11 : u_T := fun k => match k with
  | _ => ("", "", "", false)
def tyJ11 : Nat → FieldType := fun k => match k with
  | _ => .int
abbrev wsJ110 : List Cond := u_ws RJ11 TJ11 0
theorem nmJ11 : ∀ a, a < 0 → ∀ b, b < 0 → a ≠ b → (TJ11 a).2.1 ≠ (TJ11 b).2.1 := by decide +kernel
theorem tyJ11_ok : ∀ k, k < 0 → parseFieldDescriptor (TJ11 k).2.2.1 = some (tyJ11 k) := by decide +kernel
abbrev cJ11_isValidCodePoint_9a6ad : ByteArray := prog_13_method_11_code
def yJ11_isValidCodePoint_9a6ad : MethodName := ⟨RJ11, "isValidCodePoint", "(I)Z"⟩
abbrev cJ11_highSurrogate_5068e : ByteArray := prog_13_method_28_code
def yJ11_highSurrogate_5068e : MethodName := ⟨RJ11, "highSurrogate", "(I)C"⟩
abbrev cJ11_lowSurrogate_5068e : ByteArray := prog_13_method_29_code
def yJ11_lowSurrogate_5068e : MethodName := ⟨RJ11, "lowSurrogate", "(I)C"⟩
def RJ9 : String := "java/lang/Math"
def TJ9 : u_T := fun k => match k with
  | _ => ("", "", "", false)
def tyJ9 : Nat → FieldType := fun k => match k with
  | _ => .int
abbrev wsJ90 : List Cond := u_ws RJ9 TJ9 0
theorem nmJ9 : ∀ a, a < 0 → ∀ b, b < 0 → a ≠ b → (TJ9 a).2.1 ≠ (TJ9 b).2.1 := by decide +kernel
theorem tyJ9_ok : ∀ k, k < 0 → parseFieldDescriptor (TJ9 k).2.2.1 = some (tyJ9 k) := by decide +kernel
abbrev cJ9_floorMod_7cf53 : ByteArray := prog_14_method_50_code
def yJ9_floorMod_7cf53 : MethodName := ⟨RJ9, "floorMod", "(II)I"⟩
abbrev cJ9_max_7cf53 : ByteArray := prog_14_method_65_code
def yJ9_max_7cf53 : MethodName := ⟨RJ9, "max", "(II)I"⟩
abbrev cJ9_min_7cf53 : ByteArray := prog_14_method_69_code
def yJ9_min_7cf53 : MethodName := ⟨RJ9, "min", "(II)I"⟩
def RJ0 : String := "java/lang/String"
def TJ0 : u_T := fun k => match k with
  | _ => ("", "", "", false)
def tyJ0 : Nat → FieldType := fun k => match k with
  | _ => .int
abbrev wsJ00 : List Cond := u_ws RJ0 TJ0 0
theorem nmJ0 : ∀ a, a < 0 → ∀ b, b < 0 → a ≠ b → (TJ0 a).2.1 ≠ (TJ0 b).2.1 := by decide +kernel
theorem tyJ0_ok : ∀ k, k < 0 → parseFieldDescriptor (TJ0 k).2.2.1 = some (tyJ0 k) := by decide +kernel
abbrev cJ0_length_8abf5 : ByteArray := prog_15_method_54_code
def yJ0_length_8abf5 : MethodName := ⟨RJ0, "length", "()I"⟩
abbrev cJ0_charAt_5068e : ByteArray := prog_15_method_56_code
def yJ0_charAt_5068e : MethodName := ⟨RJ0, "charAt", "(I)C"⟩
abbrev cJ0_indexOf_0f7a4 : ByteArray := prog_15_method_79_code
def yJ0_indexOf_0f7a4 : MethodName := ⟨RJ0, "indexOf", "(I)I"⟩
abbrev cJ0_indexOf_7cf53 : ByteArray := prog_15_method_80_code
def yJ0_indexOf_7cf53 : MethodName := ⟨RJ0, "indexOf", "(II)I"⟩
abbrev cJ0_coder_7d493 : ByteArray := prog_15_method_152_code
def yJ0_coder_7d493 : MethodName := ⟨RJ0, "coder", "()B"⟩
abbrev cJ0_isLatin1_aae02 : ByteArray := prog_15_method_154_code
def yJ0_isLatin1_aae02 : MethodName := ⟨RJ0, "isLatin1", "()Z"⟩
abbrev cJ0_checkIndex_df160 : ByteArray := prog_15_method_155_code
def yJ0_checkIndex_df160 : MethodName := ⟨RJ0, "checkIndex", "(II)V"⟩
abbrev cJ0_checkBoundsBeginEnd_23922 : ByteArray := prog_15_method_158_code
def yJ0_checkBoundsBeginEnd_23922 : MethodName := ⟨RJ0, "checkBoundsBeginEnd", "(III)V"⟩
def RJ1 : String := "java/lang/StringLatin1"
def TJ1 : u_T := fun k => match k with
  | _ => ("", "", "", false)
def tyJ1 : Nat → FieldType := fun k => match k with
  | _ => .int
abbrev wsJ10 : List Cond := u_ws RJ1 TJ1 0
theorem nmJ1 : ∀ a, a < 0 → ∀ b, b < 0 → a ≠ b → (TJ1 a).2.1 ≠ (TJ1 b).2.1 := by decide +kernel
theorem tyJ1_ok : ∀ k, k < 0 → parseFieldDescriptor (TJ1 k).2.2.1 = some (tyJ1 k) := by decide +kernel
abbrev cJ1_charAt_3b067 : ByteArray := prog_16_method_2_code
def yJ1_charAt_3b067 : MethodName := ⟨RJ1, "charAt", "([BI)C"⟩
abbrev cJ1_canEncode_9a6ad : ByteArray := prog_16_method_4_code
def yJ1_canEncode_9a6ad : MethodName := ⟨RJ1, "canEncode", "(I)Z"⟩
abbrev cJ1_indexOf_4cfef : ByteArray := prog_16_method_22_code
def yJ1_indexOf_4cfef : MethodName := ⟨RJ1, "indexOf", "([BIII)I"⟩
abbrev cJ1_indexOfChar_4cfef : ByteArray := prog_16_method_23_code
def yJ1_indexOfChar_4cfef : MethodName := ⟨RJ1, "indexOfChar", "([BIII)I"⟩
def RJ2 : String := "java/lang/StringUTF16"
def TJ2 : u_T := fun k => match k with
  | _ => ("", "", "", false)
def tyJ2 : Nat → FieldType := fun k => match k with
  | _ => .int
abbrev wsJ20 : List Cond := u_ws RJ2 TJ2 0
theorem nmJ2 : ∀ a, a < 0 → ∀ b, b < 0 → a ≠ b → (TJ2 a).2.1 ≠ (TJ2 b).2.1 := by decide +kernel
theorem tyJ2_ok : ∀ k, k < 0 → parseFieldDescriptor (TJ2 k).2.2.1 = some (tyJ2 k) := by decide +kernel
abbrev cJ2_getChar_3b067 : ByteArray := prog_17_method_5_code
def yJ2_getChar_3b067 : MethodName := ⟨RJ2, "getChar", "([BI)C"⟩
abbrev cJ2_length_9d52b : ByteArray := prog_17_method_6_code
def yJ2_length_9d52b : MethodName := ⟨RJ2, "length", "([B)I"⟩
abbrev cJ2_indexOf_4cfef : ByteArray := prog_17_method_40_code
def yJ2_indexOf_4cfef : MethodName := ⟨RJ2, "indexOf", "([BIII)I"⟩
abbrev cJ2_indexOfChar_4cfef : ByteArray := prog_17_method_47_code
def yJ2_indexOfChar_4cfef : MethodName := ⟨RJ2, "indexOfChar", "([BIII)I"⟩
abbrev cJ2_indexOfCharUnsafe_4cfef : ByteArray := prog_17_method_48_code
def yJ2_indexOfCharUnsafe_4cfef : MethodName := ⟨RJ2, "indexOfCharUnsafe", "([BIII)I"⟩
abbrev cJ2_indexOfSupplementary_4cfef : ByteArray := prog_17_method_49_code
def yJ2_indexOfSupplementary_4cfef : MethodName := ⟨RJ2, "indexOfSupplementary", "([BIII)I"⟩
abbrev cJ2_charAt_3b067 : ByteArray := prog_17_method_83_code
def yJ2_charAt_3b067 : MethodName := ⟨RJ2, "charAt", "([BI)C"⟩
abbrev cJ2_checkIndex_2214a : ByteArray := prog_17_method_91_code
def yJ2_checkIndex_2214a : MethodName := ⟨RJ2, "checkIndex", "(I[B)V"⟩
abbrev cJ2_checkBoundsBeginEnd_d044e : ByteArray := prog_17_method_93_code
def yJ2_checkBoundsBeginEnd_d044e : MethodName := ⟨RJ2, "checkBoundsBeginEnd", "(II[B)V"⟩
def RJ10 : String := "java/lang/System"
def TJ10 : u_T := fun k => match k with
  | _ => ("", "", "", false)
def tyJ10 : Nat → FieldType := fun k => match k with
  | _ => .int
abbrev wsJ100 : List Cond := u_ws RJ10 TJ10 0
theorem nmJ10 : ∀ a, a < 0 → ∀ b, b < 0 → a ≠ b → (TJ10 a).2.1 ≠ (TJ10 b).2.1 := by decide +kernel
theorem tyJ10_ok : ∀ k, k < 0 → parseFieldDescriptor (TJ10 k).2.2.1 = some (tyJ10 k) := by decide +kernel
def RJ3 : String := "jdk/internal/util/Preconditions"
def TJ3 : u_T := fun k => match k with
  | _ => ("", "", "", false)
def tyJ3 : Nat → FieldType := fun k => match k with
  | _ => .int
abbrev wsJ30 : List Cond := u_ws RJ3 TJ3 0
theorem nmJ3 : ∀ a, a < 0 → ∀ b, b < 0 → a ≠ b → (TJ3 a).2.1 ≠ (TJ3 b).2.1 := by decide +kernel
theorem tyJ3_ok : ∀ k, k < 0 → parseFieldDescriptor (TJ3 k).2.2.1 = some (tyJ3 k) := by decide +kernel
abbrev cJ3_checkIndex_8e157 : ByteArray := prog_19_method_11_code
def yJ3_checkIndex_8e157 : MethodName := ⟨RJ3, "checkIndex", "(IILjava/util/function/BiFunction;)I"⟩
abbrev cJ3_checkFromToIndex_8c36e : ByteArray := prog_19_method_12_code
def yJ3_checkFromToIndex_8c36e : MethodName := ⟨RJ3, "checkFromToIndex", "(IIILjava/util/function/BiFunction;)I"⟩
def RL : String := "LakeBooksLaw"
abbrev cL_law : ByteArray := code
def yL_law : MethodName := ⟨RL, "law", "([I)Z"⟩
abbrev vwCl : List vw_C := [(RX0, TX0, 10), (RX1, TX1, 2), (RX2, TX2, 1), (RX3, TX3, 1), (RX4, TX4, 10), (RX5, TX5, 3), (RX6, TX6, 4), (RX7, TX7, 12), (RX8, TX8, 3), (RX9, TX9, 9), (RX10, TX10, 77)]
end
section
/-! ===== the memory of a world, by object ids: ints and booleans, references (ids, 0 is null), longs ===== -/
abbrev x_M : Type := (Nat → Nat → Int32) × (Nat → Nat → Nat) × (Nat → Nat → Int64)
/-- a world: kinds of ids, their lengths, their addresses, the classes, the array classes by kind -/
abbrev x_X : Type := (Nat → Nat) × (Nat → Nat) × (Nat → Nat) × va_G × (Nat → ClassId)
abbrev x_kd (X : x_X) : Nat → Nat := X.1
abbrev x_ln (X : x_X) : Nat → Nat := X.2.1
abbrev x_ad (X : x_X) : Nat → Nat := X.2.2.1
abbrev x_D (X : x_X) : va_G := X.2.2.2.1
abbrev x_cA (X : x_X) : Nat → ClassId := X.2.2.2.2
def x_rv (X : x_X) (n : Nat) : Value := if n = 0 then .null else .ref (x_ad X n)
def x_ro (X : x_X) (n : Nat) : Option Nat := if n = 0 then none else some (x_ad X n)
theorem x_rf_ro (X : x_X) (n : Nat) : va_rf (x_ro X n) = x_rv X n := by
  unfold x_ro x_rv
  by_cases h : n = 0
  · rw [if_pos h, if_pos h]; rfl
  · rw [if_neg h, if_neg h]; rfl
theorem x_rv_0 (X : x_X) : x_rv X 0 = .null := rfl
theorem x_rv_n (X : x_X) {n : Nat} (h : n ≠ 0) : x_rv X n = .ref (x_ad X n) := if_neg h
theorem x_rv_cat (X : x_X) (n : Nat) : (x_rv X n).category = 1 := by
  unfold x_rv
  by_cases h : n = 0
  · rw [if_pos h]; rfl
  · rw [if_neg h]; rfl
def x_ty (ci : Nat) : Nat → FieldType := match ci with
  | 0 => tyX0
  | 1 => tyX1
  | 2 => tyX2
  | 3 => tyX3
  | 4 => tyX4
  | 5 => tyX5
  | 6 => tyX6
  | 7 => tyX7
  | 8 => tyX8
  | 9 => tyX9
  | _ => tyX10
def x_isR (ci k : Nat) : Bool := match x_ty ci k with
  | .object _ => true
  | .array _ => true
  | _ => false
def x_f (X : x_X) (μ : x_M) (ci o k : Nat) : Value := if x_isR ci k = true then x_rv X (μ.2.1 o k) else .int (μ.1 o k)
/-- writable cells -/
def x_A (X : x_X) : Nat → Prop := fun q => ∃ o, 0 < x_kd X o ∧ x_kd X o < 40 ∧ x_ad X o = q
def x_at (X : x_X) (μ : x_M) (U : State) (H : Heap) (o : Nat) : Prop :=
  (0 < x_kd X o → x_kd X o < 20 → ∃ r : vw_C, vwCl[x_kd X o - 1]? = some r ∧ t_OB (x_ad X o) ((x_D X).1 (x_kd X o - 1)) r.2.2 ((x_D X).2 (x_kd X o - 1)) H (fun k => x_f X μ (x_kd X o - 1) o k)) ∧
  (x_kd X o = 20 → H[x_ad X o]? = some (vp_cell (x_cA X 20) (x_ln X o, .inl (μ.1 o)))) ∧
  (x_kd X o = 21 → H[x_ad X o]? = some (vp_cell (x_cA X 21) (x_ln X o, .inr (.inl (μ.2.2 o))))) ∧
  (x_kd X o = 22 → H[x_ad X o]? = some (vp_cell (x_cA X 22) (x_ln X o, .inl (μ.1 o)))) ∧
  (22 < x_kd X o → x_kd X o < 40 → H[x_ad X o]? = some (vp_cell (x_cA X (x_kd X o)) (x_ln X o, .inr (.inr (.inr (.inr (fun i => x_ro X (μ.2.1 o i)))))))) ∧
  (x_kd X o = 40 → va_T .int (x_ad X o) (x_ln X o) (fun j => .int (μ.1 o j)) (x_A X) U H) ∧
  (x_kd X o = 41 → va_T .byte (x_ad X o) (x_ln X o) (fun j => .int (μ.1 o j)) (x_A X) U H) ∧
  (x_kd X o = 50 → va_O "java/lang/String" (x_ad X o) (x_A X) U H ∧ va_OF "java/lang/String" "coder" "B" (.int (μ.1 o 0)) (x_ad X o) (x_A X) U H ∧ va_OF "java/lang/String" "value" "[B" (x_rv X (μ.2.1 o 1)) (x_ad X o) (x_A X) U H)
def x_P (X : x_X) (μ : x_M) (U : State) (H : Heap) : Prop := ∀ o, x_at X μ U H o
/-- ids of writable cells have addresses of their own -/
def x_I (X : x_X) : Prop := x_kd X 0 = 0 ∧ ∀ o o', 0 < x_kd X o → x_kd X o < 40 → 0 < x_kd X o' → x_kd X o' < 40 → x_ad X o = x_ad X o' → o = o'
theorem x_at.moved {X : x_X} {μ : x_M} {u U : State} {H : Heap} {o : Nat} (hvm : u.vm.Alike U.vm) (h : x_at X μ u H o) : x_at X μ U H o :=
  ⟨h.1, h.2.1, h.2.2.1, h.2.2.2.1, h.2.2.2.2.1, fun z => (h.2.2.2.2.2.1 z).moved hvm, fun z => (h.2.2.2.2.2.2.1 z).moved hvm, fun z => ⟨va_O.moved hvm (h.2.2.2.2.2.2.2 z).1, va_OF.moved hvm (h.2.2.2.2.2.2.2 z).2.1, va_OF.moved hvm (h.2.2.2.2.2.2.2 z).2.2⟩⟩
theorem x_P.moved {X : x_X} {μ : x_M} {u U : State} {H : Heap} (hvm : u.vm.Alike U.vm) (h : x_P X μ u H) : x_P X μ U H := fun o => (h o).moved hvm
/-- a write at one id, what it holds there afterwards being given -/
theorem x_P.put {X : x_X} {μ μ' : x_M} {U : State} {H H1 : Heap} {o : Nat} (hI : x_I X) (h : x_P X μ U H) (h0 : 0 < x_kd X o) (h4 : x_kd X o < 40) (ho : x_at X μ' U H1 o) (oq : ∀ q : Nat, q ≠ x_ad X o → H1[q]? = H[q]?)
    (e1 : ∀ p, p ≠ o → μ'.1 p = μ.1 p) (e2 : ∀ p, p ≠ o → μ'.2.1 p = μ.2.1 p) (e3 : ∀ p, p ≠ o → μ'.2.2 p = μ.2.2 p) : x_P X μ' U H1 := by
  intro p
  by_cases hp : p = o
  · subst hp; exact ho
  · obtain ⟨a1, a2, a3, a4, a5, a6, a7, a8⟩ := h p
    have ne : 0 < x_kd X p → x_kd X p < 40 → H1[x_ad X p]? = H[x_ad X p]? := fun z1 z2 => oq _ (fun e => hp (hI.2 p o z1 z2 h0 h4 e))
    have hq : ∀ a : Nat, a < H.size → ¬ x_A X a → H1[a]? = H[a]? := fun a _ hA => oq a (fun e => hA ⟨o, h0, h4, e.symm⟩)
    have f1 := e1 p hp
    have f2 := e2 p hp
    have f3 := e3 p hp
    refine ⟨fun z1 z2 => ?_, fun z => ?_, fun z => ?_, fun z => ?_, fun z1 z2 => ?_, fun z => ?_, fun z => ?_, fun z => ?_⟩
    · obtain ⟨r, b1, b2⟩ := a1 z1 z2
      refine ⟨r, b1, ((b2.kept (ne z1 (by omega))).to (fun k _ => ?_))⟩
      unfold x_f
      rw [f1, f2]
    · rw [ne (by omega) (by omega), f1]; exact a2 z
    · rw [ne (by omega) (by omega), f3]; exact a3 z
    · rw [ne (by omega) (by omega), f1]; exact a4 z
    · rw [ne (by omega) (by omega), f2]; exact a5 z1 z2
    · rw [f1]; exact (a6 z).kept hq
    · rw [f1]; exact (a7 z).kept hq
    · rw [f1, f2]; exact ⟨va_O.kept (a8 z).1 hq, va_OF.kept (a8 z).2.1 hq, va_OF.kept (a8 z).2.2 hq⟩
/-- setting one place of one id -/
def x_u {α : Type} (f : Nat → Nat → α) (o k : Nat) (v : α) : Nat → Nat → α := fun p j => if p = o then (if j = k then v else f p j) else f p j
theorem x_u_ne {α : Type} {f : Nat → Nat → α} {o k : Nat} {v : α} {p : Nat} (h : p ≠ o) : x_u f o k v p = f p := by funext j; simp [x_u, h]
theorem x_u_eq {α : Type} {f : Nat → Nat → α} {o k : Nat} {v : α} : x_u f o k v o = fun j => if j = k then v else f o j := by funext j; simp [x_u]
def x_sI (μ : x_M) (o k : Nat) (v : Int32) : x_M := (x_u μ.1 o k v, μ.2.1, μ.2.2)
def x_sR (μ : x_M) (o k : Nat) (v : Nat) : x_M := (μ.1, x_u μ.2.1 o k v, μ.2.2)
def x_sJ (μ : x_M) (o k : Nat) (v : Int64) : x_M := (μ.1, μ.2.1, x_u μ.2.2 o k v)
abbrev x_tys (X : x_X) : List (ClassId × FieldType) := [(x_cA X 20, .int), (x_cA X 21, .long), (x_cA X 22, .boolean), (x_cA X 23, .object RX0), (x_cA X 24, .object RX4), (x_cA X 25, .object RX8)]
def x_K (X : x_X) (U : State) : Prop := va_K (x_D X) vwCl (x_tys X) U
/-- the statics: class, name, descriptor, id that it refers to; or a number -/
abbrev x_Zs : Type := List (String × String × String × Nat) × List (String × String × String × Int32) × List (String × Nat × String × Nat)
def x_Z (X : x_X) (Z : x_Zs) (U : State) (H : Heap) : Prop := (∀ q ∈ Z.1, va_Z q.1 q.2.1 q.2.2.1 (x_rv X q.2.2.2) (x_A X) U H) ∧ ∀ q ∈ Z.2.1, va_Z q.1 q.2.1 q.2.2.1 (.int q.2.2.2) (x_A X) U H
/-- the string constants: class, entry, text, id -/
def x_L (X : x_X) (Z : x_Zs) (U : State) : Prop := ∀ q ∈ Z.2.2, vk_R q.1 q.2.1 q.2.2.1 (x_ad X q.2.2.2) U
/-- words of the tables, at any arguments -/
def x_nest : Cond → Bool
  | .fieldLinkNest _ _ _ _ _ _ => true
  | .methodLinkNest _ _ _ _ => true
  | _ => false
def x_W (U : State) : Prop := ∀ w ∈ lw_tbl, (goodWord w = true ∨ x_nest w = true) → ∀ a : Array Value, w.before a U = true
theorem x_W.warm {s U : State} (hW : s.WarmedH U.vm) (h : x_W s) : x_W U := by
  intro w hw hg a
  rcases hg with hg | hg
  · exact word_at hW (good_of_word hg) (h w hw (Or.inl hg) #[])
  · cases w with
    | fieldLinkNest a1 i b n d hh => exact va_Nw.use rfl (va_Nw.warmF hW (va_Nw.of rfl (h _ hw (Or.inr rfl) #[])))
    | methodLinkNest a1 i x hh => exact va_Nw.use rfl (va_Nw.warmM hW (va_Nw.of rfl (h _ hw (Or.inr rfl) #[])))
    | _ => cases hg
def x_E (X : x_X) (Z : x_Zs) (U : State) (H : Heap) : Prop := x_K X U ∧ (x_Z X Z U H ∧ x_L X Z U) ∧ x_W U
/-- what a method finds -/
def x_H (X : x_X) (Z : x_Zs) (μ : x_M) (U : State) : Prop := x_E X Z U U.heap ∧ x_P X μ U U.heap
theorem x_Z.go {X : x_X} {Z : x_Zs} {u U : State} {H H1 : Heap} (hvm : u.vm.Alike U.vm) (hq : ∀ a : Nat, a < H.size → ¬ x_A X a → H1[a]? = H[a]?) (h : x_Z X Z u H) : x_Z X Z U H1 :=
  ⟨fun q hh => va_Z.kept (va_Z.moved hvm (h.1 q hh)) hq, fun q hh => va_Z.kept (va_Z.moved hvm (h.2 q hh)) hq⟩
theorem x_E.go {X : x_X} {Z : x_Zs} {s U : State} {H H1 : Heap} (hW : s.WarmedH U.vm) (hq : ∀ a : Nat, a < H.size → ¬ x_A X a → H1[a]? = H[a]?) (h : x_E X Z s H) : x_E X Z U H1 :=
  ⟨va_K.moved hW.alike h.1, ⟨h.2.1.1.go hW.alike hq, fun q hh => vk_R.warm hW (h.2.1.2 q hh)⟩, h.2.2.warm hW⟩
theorem x_H.blind {X : x_X} {Z : x_Zs} {μ : x_M} {avs : List Value} : FrameBlind (va_Pc avs (x_H X Z μ)) := by
  intro a U g mk h
  obtain ⟨h1, ⟨k1, ⟨k2, k4⟩, k3⟩, h3⟩ := h
  have hv : (U.calling g mk a).vm = U.vm := rfl
  have al : U.vm.Alike (U.calling g mk a).vm := Vm.Alike.refl U.vm
  exact ⟨h1, ⟨va_K.moved al k1, ⟨x_Z.go al (fun _ _ _ => rfl) k2, fun q hh => vk_R.same (u := U) (U := U.calling g mk a) rfl (k4 q hh)⟩, x_W.warm (s := U) (U := U.calling g mk a) (State.WarmedH.refl U) k3⟩, h3.moved al⟩
end
section
/-! ===== typed values, and the judgement: the machine at pc does what the function o says ===== -/
abbrev x_V : Type := Int32 ⊕ (Nat ⊕ Int64)
abbrev vI (x : Int32) : x_V := .inl x
abbrev vR (n : Nat) : x_V := .inr (.inl n)
abbrev vJ (z : Int64) : x_V := .inr (.inr z)
def x_v (X : x_X) : x_V → Value
  | .inl x => .int x
  | .inr (.inl n) => x_rv X n
  | .inr (.inr z) => .long z
def x_cat : x_V → Nat
  | .inl _ => 1
  | .inr (.inl _) => 1
  | .inr (.inr _) => 2
theorem x_v_cat (X : x_X) (q : x_V) : (x_v X q).category = x_cat q := by
  rcases q with x | n | z
  · rfl
  · exact x_rv_cat X n
  · rfl
abbrev x_lv (X : x_X) (lv : List (Nat × x_V)) : List (Nat × Value) := lv.map (fun q => (q.1, x_v X q.2))
abbrev x_st (X : x_X) (st : List x_V) : List Value := st.map (x_v X)
theorem x_st_sum (X : x_X) (st : List x_V) : ((x_st X st).map fun v => v.category).sum = (st.map x_cat).sum := by
  simp only [x_st, List.map_map]
  congr 1
  exact List.map_congr_left (fun q _ => x_v_cat X q)
theorem x_lv_at {X : x_X} {ls : Array Slot} {nL : Nat} {lv : List (Nat × x_V)} (h : lv_has ls nL (x_lv X lv)) (k : Nat) {i : Nat} {v : x_V} (hk : lv[k]? = some (i, v)) : ls[i]? = some (.val (x_v X v)) := by
  refine lv_at h k (i := i) (v := x_v X v) ?_
  rw [List.getElem?_map, hk]
  rfl
def x_rm (n : Nat) : Room := { frames := n, cells := 0, slots := 0, locals := 64 * n }
def ck {β : Type} (c : Prop) [Decidable c] (k : Option β) : Option β := if c then k else none
def bd {β γ τ : Type} (o : Option (β × τ)) (k : β → τ → Option γ) : Option γ := match o with
  | none => none
  | some (r, μ) => k r μ
def lt {β γ : Type} (v : β) (k : β → γ) : γ := k v
/-- what stays the same in a method's run -/
def x_C (X : x_X) (Z : x_Zs) (p : Program) (R : Room) (s : State) (m : MethodId) (c : Code) (cc : ByteArray) (own : String) (nL cs sl n : Nat) : Prop :=
  p.tables.exec = Jvm.exec ∧ c.code = cc ∧ c.maxLocals = nL ∧ s.vm.findClass own = some m.cls ∧ x_E X Z s s.heap ∧ x_I X ∧ n ≤ R.frames ∧ 64 * n ≤ R.locals ∧ cs ≤ R.cells ∧ sl ≤ R.slots
def Sm {τ α : Type} (X : x_X) (I : τ → Heap → Prop) (A : Nat → Prop) (Q : α → τ → State → Prop) (p : Program) (l : Launch) (e : Env) (R : Room) (s : State) (m : MethodId) (args : Array Value) (below : List Frame) (meth : Method) (c : Code) (nL cs sl : Nat) (pc : Nat) (lv : List (Nat × x_V)) (st : List x_V) (μ : τ) (o : Option (α × τ)) : Prop :=
  ∀ (H : Heap) (locs : List Loc) (ls : Array Slot), I μ H → va_S A s.heap H locs → lv_has ls nL (x_lv X lv) → ∀ (r : α) (μ' : τ), o = some (r, μ') → W p l e R s m args below meth c H locs cs sl (Q r μ') (F0 m pc ls (x_st X st))
abbrev x_PI (X : x_X) (s : State) : x_M → Heap → Prop := fun μ H => x_P X μ s H
section ROWS
variable {τ α β : Type} {X : x_X} {Z : x_Zs} {I : τ → Heap → Prop} {A : Nat → Prop} {Q : α → τ → State → Prop} {p : Program} {l : Launch} {e : Env} {R : Room} {s : State} {m : MethodId} {args : Array Value} {below : List Frame} {meth : Method} {c : Code} {cc : ByteArray} {own : String} {nL cs sl n : Nat} {pc : Nat} {lv lv' : List (Nat × x_V)} {st : List x_V} {μ : τ} {o : Option (α × τ)}
theorem s_iconst (hC : x_C X Z p R s m c cc own nL cs sl n) {i : Int} {v : Int32} (hdg : decode cc pc = .ok (.iconst i, 1)) (hv : Int32.ofInt i = v) (k : Sm X I A Q p l e R s m args below meth c nL cs sl (pc + 1) lv (vI v :: st) μ o) : Sm X I A Q p l e R s m args below meth c nL cs sl pc lv st μ o := by
  exact fun H locs ls hP hS hl r μ1 ho => lv_iconst hC.1 hC.2.1 hdg hv (k H locs ls hP hS hl r μ1 ho)
theorem s_bipush (hC : x_C X Z p R s m c cc own nL cs sl n) {i : Int} {v : Int32} (hdg : decode cc pc = .ok (.bipush i, 2)) (hv : (Int8.ofInt i).toInt32 = v) (k : Sm X I A Q p l e R s m args below meth c nL cs sl (pc + 2) lv (vI v :: st) μ o) : Sm X I A Q p l e R s m args below meth c nL cs sl pc lv st μ o := by
  exact fun H locs ls hP hS hl r μ1 ho => lv_bipush hC.1 hC.2.1 hdg hv (k H locs ls hP hS hl r μ1 ho)
theorem s_sipush (hC : x_C X Z p R s m c cc own nL cs sl n) {i : Int} {v : Int32} (hdg : decode cc pc = .ok (.sipush i, 3)) (hv : (Int16.ofInt i).toInt32 = v) (k : Sm X I A Q p l e R s m args below meth c nL cs sl (pc + 3) lv (vI v :: st) μ o) : Sm X I A Q p l e R s m args below meth c nL cs sl pc lv st μ o := by
  exact fun H locs ls hP hS hl r μ1 ho => lv_sipush hC.1 hC.2.1 hdg hv (k H locs ls hP hS hl r μ1 ho)
theorem s_lconst (hC : x_C X Z p R s m c cc own nL cs sl n) {i : Fin 2} {v : Int64} (hdg : decode cc pc = .ok (.lconst i, 1)) (hv : Int64.ofNat (i : Nat) = v) (k : Sm X I A Q p l e R s m args below meth c nL cs sl (pc + 1) lv (vJ v :: st) μ o) : Sm X I A Q p l e R s m args below meth c nL cs sl pc lv st μ o := by
  exact fun H locs ls hP hS hl r μ1 ho => lv_lconst hC.1 hC.2.1 hdg hv (k H locs ls hP hS hl r μ1 ho)
theorem s_null (hC : x_C X Z p R s m c cc own nL cs sl n)  (hdg : decode cc pc = .ok (.aconst_null, 1))  (k : Sm X I A Q p l e R s m args below meth c nL cs sl (pc + 1) lv (vR 0 :: st) μ o) : Sm X I A Q p l e R s m args below meth c nL cs sl pc lv st μ o := by
  exact fun H locs ls hP hS hl r μ1 ho => lv_null hC.1 hC.2.1 hdg (k H locs ls hP hS hl r μ1 ho)
theorem s_iadd (hC : x_C X Z p R s m c cc own nL cs sl n) {x y : Int32} (hdg : decode cc pc = .ok (.iadd, 1))  (k : Sm X I A Q p l e R s m args below meth c nL cs sl (pc + 1) lv (vI (x + y) :: st) μ o) : Sm X I A Q p l e R s m args below meth c nL cs sl pc lv (vI y :: vI x :: st) μ o := by
  exact fun H locs ls hP hS hl r μ1 ho => lv_iadd hC.1 hC.2.1 hdg (k H locs ls hP hS hl r μ1 ho)
theorem s_isub (hC : x_C X Z p R s m c cc own nL cs sl n) {x y : Int32} (hdg : decode cc pc = .ok (.isub, 1))  (k : Sm X I A Q p l e R s m args below meth c nL cs sl (pc + 1) lv (vI (x - y) :: st) μ o) : Sm X I A Q p l e R s m args below meth c nL cs sl pc lv (vI y :: vI x :: st) μ o := by
  exact fun H locs ls hP hS hl r μ1 ho => lv_isub hC.1 hC.2.1 hdg (k H locs ls hP hS hl r μ1 ho)
theorem s_imul (hC : x_C X Z p R s m c cc own nL cs sl n) {x y : Int32} (hdg : decode cc pc = .ok (.imul, 1))  (k : Sm X I A Q p l e R s m args below meth c nL cs sl (pc + 1) lv (vI (x * y) :: st) μ o) : Sm X I A Q p l e R s m args below meth c nL cs sl pc lv (vI y :: vI x :: st) μ o := by
  exact fun H locs ls hP hS hl r μ1 ho => lv_imul hC.1 hC.2.1 hdg (k H locs ls hP hS hl r μ1 ho)
theorem s_iand (hC : x_C X Z p R s m c cc own nL cs sl n) {x y : Int32} (hdg : decode cc pc = .ok (.iand, 1))  (k : Sm X I A Q p l e R s m args below meth c nL cs sl (pc + 1) lv (vI (x &&& y) :: st) μ o) : Sm X I A Q p l e R s m args below meth c nL cs sl pc lv (vI y :: vI x :: st) μ o := by
  exact fun H locs ls hP hS hl r μ1 ho => lv_iand hC.1 hC.2.1 hdg (k H locs ls hP hS hl r μ1 ho)
theorem s_ior (hC : x_C X Z p R s m c cc own nL cs sl n) {x y : Int32} (hdg : decode cc pc = .ok (.ior, 1))  (k : Sm X I A Q p l e R s m args below meth c nL cs sl (pc + 1) lv (vI (x ||| y) :: st) μ o) : Sm X I A Q p l e R s m args below meth c nL cs sl pc lv (vI y :: vI x :: st) μ o := by
  exact fun H locs ls hP hS hl r μ1 ho => lv_ior hC.1 hC.2.1 hdg (k H locs ls hP hS hl r μ1 ho)
theorem s_ixor (hC : x_C X Z p R s m c cc own nL cs sl n) {x y : Int32} (hdg : decode cc pc = .ok (.ixor, 1))  (k : Sm X I A Q p l e R s m args below meth c nL cs sl (pc + 1) lv (vI (x ^^^ y) :: st) μ o) : Sm X I A Q p l e R s m args below meth c nL cs sl pc lv (vI y :: vI x :: st) μ o := by
  exact fun H locs ls hP hS hl r μ1 ho => lv_ixor hC.1 hC.2.1 hdg (k H locs ls hP hS hl r μ1 ho)
theorem s_ishl (hC : x_C X Z p R s m c cc own nL cs sl n) {x y : Int32} (hdg : decode cc pc = .ok (.ishl, 1))  (k : Sm X I A Q p l e R s m args below meth c nL cs sl (pc + 1) lv (vI (x <<< (y &&& 31)) :: st) μ o) : Sm X I A Q p l e R s m args below meth c nL cs sl pc lv (vI y :: vI x :: st) μ o := by
  exact fun H locs ls hP hS hl r μ1 ho => lv_ishl hC.1 hC.2.1 hdg (k H locs ls hP hS hl r μ1 ho)
theorem s_ineg (hC : x_C X Z p R s m c cc own nL cs sl n) {x : Int32} (hdg : decode cc pc = .ok (.ineg, 1))  (k : Sm X I A Q p l e R s m args below meth c nL cs sl (pc + 1) lv (vI (-x) :: st) μ o) : Sm X I A Q p l e R s m args below meth c nL cs sl pc lv (vI x :: st) μ o := by
  exact fun H locs ls hP hS hl r μ1 ho => lv_ineg hC.1 hC.2.1 hdg (k H locs ls hP hS hl r μ1 ho)
theorem s_idiv (hC : x_C X Z p R s m c cc own nL cs sl n) {x y : Int32} (hdg : decode cc pc = .ok (.idiv, 1))  (k : Sm X I A Q p l e R s m args below meth c nL cs sl (pc + 1) lv (vI (x / y) :: st) μ o) : Sm X I A Q p l e R s m args below meth c nL cs sl pc lv (vI y :: vI x :: st) μ (ck (¬ y = 0) o) := by
  intro H locs ls hP hS hl r μ1 ho
  unfold ck at ho
  by_cases hc : ¬ y = 0
  · rw [if_pos hc] at ho
    exact lv_idiv hC.1 hC.2.1 hdg hc (k H locs ls hP hS hl r μ1 ho)
  · rw [if_neg hc] at ho; cases ho
theorem s_irem (hC : x_C X Z p R s m c cc own nL cs sl n) {x y : Int32} (hdg : decode cc pc = .ok (.irem, 1))  (k : Sm X I A Q p l e R s m args below meth c nL cs sl (pc + 1) lv (vI (x - x / y * y) :: st) μ o) : Sm X I A Q p l e R s m args below meth c nL cs sl pc lv (vI y :: vI x :: st) μ (ck (¬ y = 0) o) := by
  intro H locs ls hP hS hl r μ1 ho
  unfold ck at ho
  by_cases hc : ¬ y = 0
  · rw [if_pos hc] at ho
    exact lv_irem hC.1 hC.2.1 hdg hc (k H locs ls hP hS hl r μ1 ho)
  · rw [if_neg hc] at ho; cases ho
theorem s_ladd (hC : x_C X Z p R s m c cc own nL cs sl n) {x y : Int64} (hdg : decode cc pc = .ok (.ladd, 1))  (k : Sm X I A Q p l e R s m args below meth c nL cs sl (pc + 1) lv (vJ (x + y) :: st) μ o) : Sm X I A Q p l e R s m args below meth c nL cs sl pc lv (vJ y :: vJ x :: st) μ o := by
  exact fun H locs ls hP hS hl r μ1 ho => lv_ladd hC.1 hC.2.1 hdg (k H locs ls hP hS hl r μ1 ho)
theorem s_land (hC : x_C X Z p R s m c cc own nL cs sl n) {x y : Int64} (hdg : decode cc pc = .ok (.land, 1))  (k : Sm X I A Q p l e R s m args below meth c nL cs sl (pc + 1) lv (vJ (x &&& y) :: st) μ o) : Sm X I A Q p l e R s m args below meth c nL cs sl pc lv (vJ y :: vJ x :: st) μ o := by
  exact fun H locs ls hP hS hl r μ1 ho => lv_land hC.1 hC.2.1 hdg (k H locs ls hP hS hl r μ1 ho)
theorem s_lor (hC : x_C X Z p R s m c cc own nL cs sl n) {x y : Int64} (hdg : decode cc pc = .ok (.lor, 1))  (k : Sm X I A Q p l e R s m args below meth c nL cs sl (pc + 1) lv (vJ (x ||| y) :: st) μ o) : Sm X I A Q p l e R s m args below meth c nL cs sl pc lv (vJ y :: vJ x :: st) μ o := by
  exact fun H locs ls hP hS hl r μ1 ho => lv_lor hC.1 hC.2.1 hdg (k H locs ls hP hS hl r μ1 ho)
theorem s_lxor (hC : x_C X Z p R s m c cc own nL cs sl n) {x y : Int64} (hdg : decode cc pc = .ok (.lxor, 1))  (k : Sm X I A Q p l e R s m args below meth c nL cs sl (pc + 1) lv (vJ (x ^^^ y) :: st) μ o) : Sm X I A Q p l e R s m args below meth c nL cs sl pc lv (vJ y :: vJ x :: st) μ o := by
  exact fun H locs ls hP hS hl r μ1 ho => lv_lxor hC.1 hC.2.1 hdg (k H locs ls hP hS hl r μ1 ho)
theorem s_ldiv (hC : x_C X Z p R s m c cc own nL cs sl n) {x y : Int64} (hdg : decode cc pc = .ok (.ldiv, 1))  (k : Sm X I A Q p l e R s m args below meth c nL cs sl (pc + 1) lv (vJ (x / y) :: st) μ o) : Sm X I A Q p l e R s m args below meth c nL cs sl pc lv (vJ y :: vJ x :: st) μ (ck (¬ y = 0) o) := by
  intro H locs ls hP hS hl r μ1 ho
  unfold ck at ho
  by_cases hc : ¬ y = 0
  · rw [if_pos hc] at ho
    exact lv_ldiv hC.1 hC.2.1 hdg hc (k H locs ls hP hS hl r μ1 ho)
  · rw [if_neg hc] at ho; cases ho
theorem s_lrem (hC : x_C X Z p R s m c cc own nL cs sl n) {x y : Int64} (hdg : decode cc pc = .ok (.lrem, 1))  (k : Sm X I A Q p l e R s m args below meth c nL cs sl (pc + 1) lv (vJ (x - x / y * y) :: st) μ o) : Sm X I A Q p l e R s m args below meth c nL cs sl pc lv (vJ y :: vJ x :: st) μ (ck (¬ y = 0) o) := by
  intro H locs ls hP hS hl r μ1 ho
  unfold ck at ho
  by_cases hc : ¬ y = 0
  · rw [if_pos hc] at ho
    exact lv_lrem hC.1 hC.2.1 hdg hc (k H locs ls hP hS hl r μ1 ho)
  · rw [if_neg hc] at ho; cases ho
theorem s_lshl (hC : x_C X Z p R s m c cc own nL cs sl n) {x : Int64} {y : Int32} (hdg : decode cc pc = .ok (.lshl, 1))  (k : Sm X I A Q p l e R s m args below meth c nL cs sl (pc + 1) lv (vJ (x <<< (y.toInt64 &&& 63)) :: st) μ o) : Sm X I A Q p l e R s m args below meth c nL cs sl pc lv (vI y :: vJ x :: st) μ o := by
  exact fun H locs ls hP hS hl r μ1 ho => lv_lshl hC.1 hC.2.1 hdg rfl (k H locs ls hP hS hl r μ1 ho)
theorem s_lushr (hC : x_C X Z p R s m c cc own nL cs sl n) {x : Int64} {y : Int32} (hdg : decode cc pc = .ok (.lushr, 1))  (k : Sm X I A Q p l e R s m args below meth c nL cs sl (pc + 1) lv (vJ (x.toUInt64 >>> (y.toInt64.toUInt64 &&& Int64.toUInt64 63)).toInt64 :: st) μ o) : Sm X I A Q p l e R s m args below meth c nL cs sl pc lv (vI y :: vJ x :: st) μ o := by
  exact fun H locs ls hP hS hl r μ1 ho => lv_lushr hC.1 hC.2.1 hdg rfl (k H locs ls hP hS hl r μ1 ho)
theorem s_i2l (hC : x_C X Z p R s m c cc own nL cs sl n) {x : Int32} (hdg : decode cc pc = .ok (.i2l, 1))  (k : Sm X I A Q p l e R s m args below meth c nL cs sl (pc + 1) lv (vJ x.toInt64 :: st) μ o) : Sm X I A Q p l e R s m args below meth c nL cs sl pc lv (vI x :: st) μ o := by
  exact fun H locs ls hP hS hl r μ1 ho => lv_i2l hC.1 hC.2.1 hdg rfl (k H locs ls hP hS hl r μ1 ho)
theorem s_l2i (hC : x_C X Z p R s m c cc own nL cs sl n) {x : Int64} (hdg : decode cc pc = .ok (.l2i, 1))  (k : Sm X I A Q p l e R s m args below meth c nL cs sl (pc + 1) lv (vI x.toInt32 :: st) μ o) : Sm X I A Q p l e R s m args below meth c nL cs sl pc lv (vJ x :: st) μ o := by
  exact fun H locs ls hP hS hl r μ1 ho => lv_l2i hC.1 hC.2.1 hdg rfl (k H locs ls hP hS hl r μ1 ho)
theorem s_i2b (hC : x_C X Z p R s m c cc own nL cs sl n) {x : Int32} (hdg : decode cc pc = .ok (.i2b, 1))  (k : Sm X I A Q p l e R s m args below meth c nL cs sl (pc + 1) lv (vI x.toInt8.toInt32 :: st) μ o) : Sm X I A Q p l e R s m args below meth c nL cs sl pc lv (vI x :: st) μ o := by
  exact fun H locs ls hP hS hl r μ1 ho => lv_i2b hC.1 hC.2.1 hdg rfl (k H locs ls hP hS hl r μ1 ho)
theorem s_i2s (hC : x_C X Z p R s m c cc own nL cs sl n) {x : Int32} (hdg : decode cc pc = .ok (.i2s, 1))  (k : Sm X I A Q p l e R s m args below meth c nL cs sl (pc + 1) lv (vI x.toInt16.toInt32 :: st) μ o) : Sm X I A Q p l e R s m args below meth c nL cs sl pc lv (vI x :: st) μ o := by
  exact fun H locs ls hP hS hl r μ1 ho => lv_i2s hC.1 hC.2.1 hdg rfl (k H locs ls hP hS hl r μ1 ho)
theorem s_i2c (hC : x_C X Z p R s m c cc own nL cs sl n) {x : Int32} (hdg : decode cc pc = .ok (.i2c, 1))  (k : Sm X I A Q p l e R s m args below meth c nL cs sl (pc + 1) lv (vI (x.toUInt32 % 65536).toInt32 :: st) μ o) : Sm X I A Q p l e R s m args below meth c nL cs sl pc lv (vI x :: st) μ o := by
  exact fun H locs ls hP hS hl r μ1 ho => lv_i2c hC.1 hC.2.1 hdg rfl (k H locs ls hP hS hl r μ1 ho)
theorem s_lcmp (hC : x_C X Z p R s m c cc own nL cs sl n) {x y : Int64} (hdg : decode cc pc = .ok (.lcmp, 1))  (k : Sm X I A Q p l e R s m args below meth c nL cs sl (pc + 1) lv (vI (lg_cmp x y) :: st) μ o) : Sm X I A Q p l e R s m args below meth c nL cs sl pc lv (vJ y :: vJ x :: st) μ o := by
  exact fun H locs ls hP hS hl r μ1 ho => W.lcmp hC.1 hC.2.1 hdg (k H locs ls hP hS hl r μ1 ho)
theorem s_dupI (hC : x_C X Z p R s m c cc own nL cs sl n) {x : Int32} (hdg : decode cc pc = .ok (.dup, 1))  (k : Sm X I A Q p l e R s m args below meth c nL cs sl (pc + 1) lv (vI x :: vI x :: st) μ o) : Sm X I A Q p l e R s m args below meth c nL cs sl pc lv (vI x :: st) μ o := by
  exact fun H locs ls hP hS hl r μ1 ho => lv_dup hC.1 hC.2.1 hdg rfl (k H locs ls hP hS hl r μ1 ho)
theorem s_dupR (hC : x_C X Z p R s m c cc own nL cs sl n) {x : Nat} (hdg : decode cc pc = .ok (.dup, 1))  (k : Sm X I A Q p l e R s m args below meth c nL cs sl (pc + 1) lv (vR x :: vR x :: st) μ o) : Sm X I A Q p l e R s m args below meth c nL cs sl pc lv (vR x :: st) μ o := by
  exact fun H locs ls hP hS hl r μ1 ho => lv_dup hC.1 hC.2.1 hdg (x_rv_cat X x) (k H locs ls hP hS hl r μ1 ho)
theorem s_dup2 (hC : x_C X Z p R s m c cc own nL cs sl n) {x : Int32} {a : Nat} (hdg : decode cc pc = .ok (.dup2, 1))  (k : Sm X I A Q p l e R s m args below meth c nL cs sl (pc + 1) lv (vI x :: vR a :: vI x :: vR a :: st) μ o) : Sm X I A Q p l e R s m args below meth c nL cs sl pc lv (vI x :: vR a :: st) μ o := by
  exact fun H locs ls hP hS hl r μ1 ho => lv_dup2_11 hC.1 hC.2.1 hdg rfl (x_rv_cat X a) (k H locs ls hP hS hl r μ1 ho)
theorem s_dup2J (hC : x_C X Z p R s m c cc own nL cs sl n) {x : Int64} (hdg : decode cc pc = .ok (.dup2, 1))  (k : Sm X I A Q p l e R s m args below meth c nL cs sl (pc + 1) lv (vJ x :: vJ x :: st) μ o) : Sm X I A Q p l e R s m args below meth c nL cs sl pc lv (vJ x :: st) μ o := by
  exact fun H locs ls hP hS hl r μ1 ho => lv_dup2_2 hC.1 hC.2.1 hdg rfl (k H locs ls hP hS hl r μ1 ho)
theorem s_pop (hC : x_C X Z p R s m c cc own nL cs sl n) {q : x_V} (hdg : decode cc pc = .ok (.pop, 1)) (hq : x_cat q = 1) (k : Sm X I A Q p l e R s m args below meth c nL cs sl (pc + 1) lv st μ o) : Sm X I A Q p l e R s m args below meth c nL cs sl pc lv (q :: st) μ o := by
  exact fun H locs ls hP hS hl r μ1 ho => lv_pop hC.1 hC.2.1 hdg ((x_v_cat X q).trans hq) (k H locs ls hP hS hl r μ1 ho)
theorem s_dup_x1 (hC : x_C X Z p R s m c cc own nL cs sl n) {q w : x_V} (hdg : decode cc pc = .ok (.dup_x1, 1)) (hq : x_cat q = 1) (hr : x_cat w = 1) (k : Sm X I A Q p l e R s m args below meth c nL cs sl (pc + 1) lv (q :: w :: q :: st) μ o) : Sm X I A Q p l e R s m args below meth c nL cs sl pc lv (q :: w :: st) μ o := by
  exact fun H locs ls hP hS hl r μ1 ho => lv_dup_x1 hC.1 hC.2.1 hdg ((x_v_cat X q).trans hq) ((x_v_cat X w).trans hr) (k H locs ls hP hS hl r μ1 ho)
theorem s_iload_n (hC : x_C X Z p R s m c cc own nL cs sl n) (k0 : Nat) {k : Fin 4} {x : Int32} (hdg : decode cc pc = .ok (.iload_n k, 1)) (hk : lv[k0]? = some ((k : Nat), vI x)) (k : Sm X I A Q p l e R s m args below meth c nL cs sl (pc + 1) lv (vI x :: st) μ o) : Sm X I A Q p l e R s m args below meth c nL cs sl pc lv st μ o := by
  exact fun H locs ls hP hS hl r μ1 ho => lv_iload_n hC.1 hC.2.1 hdg rfl (x_lv_at hl k0 hk) (k H locs ls hP hS hl r μ1 ho)
theorem s_iload (hC : x_C X Z p R s m c cc own nL cs sl n) (k0 : Nat) {i : Nat} {x : Int32} (hdg : decode cc pc = .ok (.iload i, 2)) (hk : lv[k0]? = some (i, vI x)) (k : Sm X I A Q p l e R s m args below meth c nL cs sl (pc + 2) lv (vI x :: st) μ o) : Sm X I A Q p l e R s m args below meth c nL cs sl pc lv st μ o := by
  exact fun H locs ls hP hS hl r μ1 ho => lv_iload hC.1 hC.2.1 hdg (x_lv_at hl k0 hk) (k H locs ls hP hS hl r μ1 ho)
theorem s_lload_n (hC : x_C X Z p R s m c cc own nL cs sl n) (k0 : Nat) {k : Fin 4} {x : Int64} (hdg : decode cc pc = .ok (.lload_n k, 1)) (hk : lv[k0]? = some ((k : Nat), vJ x)) (k : Sm X I A Q p l e R s m args below meth c nL cs sl (pc + 1) lv (vJ x :: st) μ o) : Sm X I A Q p l e R s m args below meth c nL cs sl pc lv st μ o := by
  exact fun H locs ls hP hS hl r μ1 ho => lv_lload_n hC.1 hC.2.1 hdg rfl (x_lv_at hl k0 hk) (k H locs ls hP hS hl r μ1 ho)
theorem s_lload (hC : x_C X Z p R s m c cc own nL cs sl n) (k0 : Nat) {i : Nat} {x : Int64} (hdg : decode cc pc = .ok (.lload i, 2)) (hk : lv[k0]? = some (i, vJ x)) (k : Sm X I A Q p l e R s m args below meth c nL cs sl (pc + 2) lv (vJ x :: st) μ o) : Sm X I A Q p l e R s m args below meth c nL cs sl pc lv st μ o := by
  exact fun H locs ls hP hS hl r μ1 ho => lv_lload hC.1 hC.2.1 hdg (x_lv_at hl k0 hk) (k H locs ls hP hS hl r μ1 ho)
theorem s_aload_n (hC : x_C X Z p R s m c cc own nL cs sl n) (k0 : Nat) {k : Fin 4} {x : Nat} (hdg : decode cc pc = .ok (.aload_n k, 1)) (hk : lv[k0]? = some ((k : Nat), vR x)) (kk : Sm X I A Q p l e R s m args below meth c nL cs sl (pc + 1) lv (vR x :: st) μ o) : Sm X I A Q p l e R s m args below meth c nL cs sl pc lv st μ o := by
  intro H locs ls hP hS hl r μ1 ho
  have h1 := x_lv_at hl k0 hk
  have h2 := kk H locs ls hP hS hl r μ1 ho
  show W p l e R s m args below meth c H locs cs sl (Q r μ1) (F0 m pc ls (x_st X st))
  have h2 : W p l e R s m args below meth c H locs cs sl (Q r μ1) (F0 m (pc + 1) ls (x_rv X x :: x_st X st)) := h2
  have h1 : ls[(k : Nat)]? = some (.val (x_rv X x)) := h1
  by_cases hx : x = 0
  · subst hx
    exact lv_aload_nN hC.1 hC.2.1 hdg rfl h1 h2
  · rw [x_rv_n X hx] at h1 h2
    exact lv_aload_n hC.1 hC.2.1 hdg rfl h1 h2
theorem s_aload (hC : x_C X Z p R s m c cc own nL cs sl n) (k0 : Nat) {i : Nat} {x : Nat} (hdg : decode cc pc = .ok (.aload i, 2)) (hk : lv[k0]? = some (i, vR x)) (kk : Sm X I A Q p l e R s m args below meth c nL cs sl (pc + 2) lv (vR x :: st) μ o) : Sm X I A Q p l e R s m args below meth c nL cs sl pc lv st μ o := by
  intro H locs ls hP hS hl r μ1 ho
  have h1 := x_lv_at hl k0 hk
  have h2 := kk H locs ls hP hS hl r μ1 ho
  show W p l e R s m args below meth c H locs cs sl (Q r μ1) (F0 m pc ls (x_st X st))
  have h2 : W p l e R s m args below meth c H locs cs sl (Q r μ1) (F0 m (pc + 2) ls (x_rv X x :: x_st X st)) := h2
  have h1 : ls[i]? = some (.val (x_rv X x)) := h1
  by_cases hx : x = 0
  · subst hx
    exact lv_aloadN hC.1 hC.2.1 hdg h1 h2
  · rw [x_rv_n X hx] at h1 h2
    exact lv_aload hC.1 hC.2.1 hdg h1 h2
def x_long : x_V → Bool
  | .inr (.inr _) => true
  | _ => false
theorem x_long_cat (X : x_X) (q : x_V) : ((x_v X q).category == 2) = x_long q := by
  rw [x_v_cat]
  rcases q with x | n | z <;> rfl
def x_put1 (lv : List (Nat × x_V)) (i : Nat) (v : x_V) : List (Nat × x_V) := (i, v) :: lv.filter (fun q => !(q.1 == i) && !(q.1 + 1 == i && x_long q.2))
def x_put2 (lv : List (Nat × x_V)) (i : Nat) (v : x_V) : List (Nat × x_V) := (i, v) :: lv.filter (fun q => !(q.1 == i) && (!(q.1 == i + 1) && !(q.1 + 1 == i && x_long q.2)))
theorem x_put1_lv (X : x_X) (lv : List (Nat × x_V)) (i : Nat) (v : x_V) : (i, x_v X v) :: (x_lv X lv).filter (fun q => !(q.1 == i) && !(q.1 + 1 == i && q.2.category == 2)) = x_lv X (x_put1 lv i v) := by
  unfold x_put1 x_lv
  rw [List.map_cons, List.filter_map]
  congr 2
  apply List.filter_congr
  intro q _
  show (!(q.1 == i) && !(q.1 + 1 == i && (x_v X q.2).category == 2)) = _
  rw [x_long_cat]
theorem x_put2_lv (X : x_X) (lv : List (Nat × x_V)) (i : Nat) (v : x_V) : (i, x_v X v) :: (x_lv X lv).filter (fun q => !(q.1 == i) && (!(q.1 == i + 1) && !(q.1 + 1 == i && q.2.category == 2))) = x_lv X (x_put2 lv i v) := by
  unfold x_put2 x_lv
  rw [List.map_cons, List.filter_map]
  congr 2
  apply List.filter_congr
  intro q _
  show (!(q.1 == i) && (!(q.1 == i + 1) && !(q.1 + 1 == i && (x_v X q.2).category == 2))) = _
  rw [x_long_cat]
theorem s_istore_n (hC : x_C X Z p R s m c cc own nL cs sl n) {k : Fin 4} {x : Int32} (hdg : decode cc pc = .ok (.istore_n k, 1)) (hn : (k : Nat) < nL) (hv : x_put1 lv k (vI x) = lv') (kk : Sm X I A Q p l e R s m args below meth c nL cs sl (pc + 1) lv' st μ o) : Sm X I A Q p l e R s m args below meth c nL cs sl pc lv (vI x :: st) μ o := by
  subst hv
  exact fun H locs ls hP hS hl r μ1 ho => lv_istore_n hC.1 hC.2.1 hdg rfl hl hn (x_put1_lv X lv k (vI x)) (fun ls2 hl2 => kk H locs ls2 hP hS hl2 r μ1 ho)
theorem s_istore (hC : x_C X Z p R s m c cc own nL cs sl n) {i : Nat} {x : Int32} (hdg : decode cc pc = .ok (.istore i, 2)) (hn : i < nL) (hv : x_put1 lv i (vI x) = lv') (kk : Sm X I A Q p l e R s m args below meth c nL cs sl (pc + 2) lv' st μ o) : Sm X I A Q p l e R s m args below meth c nL cs sl pc lv (vI x :: st) μ o := by
  subst hv
  exact fun H locs ls hP hS hl r μ1 ho => lv_istore hC.1 hC.2.1 hdg hl hn (x_put1_lv X lv i (vI x)) (fun ls2 hl2 => kk H locs ls2 hP hS hl2 r μ1 ho)
theorem s_lstore_n (hC : x_C X Z p R s m c cc own nL cs sl n) {k : Fin 4} {x : Int64} (hdg : decode cc pc = .ok (.lstore_n k, 1)) (hn : (k : Nat) + 1 < nL) (hv : x_put2 lv k (vJ x) = lv') (kk : Sm X I A Q p l e R s m args below meth c nL cs sl (pc + 1) lv' st μ o) : Sm X I A Q p l e R s m args below meth c nL cs sl pc lv (vJ x :: st) μ o := by
  subst hv
  exact fun H locs ls hP hS hl r μ1 ho => lv_lstore_n hC.1 hC.2.1 hdg rfl hl hn (x_put2_lv X lv k (vJ x)) (fun ls2 hl2 => kk H locs ls2 hP hS hl2 r μ1 ho)
theorem s_lstore (hC : x_C X Z p R s m c cc own nL cs sl n) {i : Nat} {x : Int64} (hdg : decode cc pc = .ok (.lstore i, 2)) (hn : i + 1 < nL) (hv : x_put2 lv i (vJ x) = lv') (kk : Sm X I A Q p l e R s m args below meth c nL cs sl (pc + 2) lv' st μ o) : Sm X I A Q p l e R s m args below meth c nL cs sl pc lv (vJ x :: st) μ o := by
  subst hv
  exact fun H locs ls hP hS hl r μ1 ho => lv_lstore hC.1 hC.2.1 hdg hl hn (x_put2_lv X lv i (vJ x)) (fun ls2 hl2 => kk H locs ls2 hP hS hl2 r μ1 ho)
theorem s_astore_n (hC : x_C X Z p R s m c cc own nL cs sl n) {k : Fin 4} {x : Nat} (hdg : decode cc pc = .ok (.astore_n k, 1)) (hn : (k : Nat) < nL) (hv : x_put1 lv (k : Nat) (vR x) = lv') (kk : Sm X I A Q p l e R s m args below meth c nL cs sl (pc + 1) lv' st μ o) : Sm X I A Q p l e R s m args below meth c nL cs sl pc lv (vR x :: st) μ o := by
  subst hv
  intro H locs ls hP hS hl r μ1 ho
  have he := x_put1_lv X lv (k : Nat) (vR x)
  have he : ((k : Nat), x_rv X x) :: (x_lv X lv).filter (fun q => !(q.1 == (k : Nat)) && !(q.1 + 1 == (k : Nat) && q.2.category == 2)) = x_lv X (x_put1 lv (k : Nat) (vR x)) := he
  show W p l e R s m args below meth c H locs cs sl (Q r μ1) (F0 m pc ls (x_rv X x :: x_st X st))
  by_cases hx : x = 0
  · subst hx
    exact lv_astore_nN hC.1 hC.2.1 hdg rfl hl hn he (fun ls2 hl2 => kk H locs ls2 hP hS hl2 r μ1 ho)
  · rw [x_rv_n X hx] at he ⊢
    exact lv_astore_n hC.1 hC.2.1 hdg rfl hl hn he (fun ls2 hl2 => kk H locs ls2 hP hS hl2 r μ1 ho)
theorem s_astore (hC : x_C X Z p R s m c cc own nL cs sl n) {i : Nat} {x : Nat} (hdg : decode cc pc = .ok (.astore i, 2)) (hn : i < nL) (hv : x_put1 lv i (vR x) = lv') (kk : Sm X I A Q p l e R s m args below meth c nL cs sl (pc + 2) lv' st μ o) : Sm X I A Q p l e R s m args below meth c nL cs sl pc lv (vR x :: st) μ o := by
  subst hv
  intro H locs ls hP hS hl r μ1 ho
  have he := x_put1_lv X lv i (vR x)
  have he : (i, x_rv X x) :: (x_lv X lv).filter (fun q => !(q.1 == i) && !(q.1 + 1 == i && q.2.category == 2)) = x_lv X (x_put1 lv i (vR x)) := he
  show W p l e R s m args below meth c H locs cs sl (Q r μ1) (F0 m pc ls (x_rv X x :: x_st X st))
  by_cases hx : x = 0
  · subst hx
    exact lv_astoreN hC.1 hC.2.1 hdg hl hn he (fun ls2 hl2 => kk H locs ls2 hP hS hl2 r μ1 ho)
  · rw [x_rv_n X hx] at he ⊢
    exact lv_astore hC.1 hC.2.1 hdg hl hn he (fun ls2 hl2 => kk H locs ls2 hP hS hl2 r μ1 ho)
theorem s_iinc (hC : x_C X Z p R s m c cc own nL cs sl n) (k0 : Nat) {i : Nat} {z : Int} {x w : Int32} (hdg : decode cc pc = .ok (.iinc i z, 3)) (hk : lv[k0]? = some (i, vI x)) (hz : Int32.ofInt z = w) (hn : i < nL) (hv : x_put1 lv i (vI (x + w)) = lv') (kk : Sm X I A Q p l e R s m args below meth c nL cs sl (pc + 3) lv' st μ o) : Sm X I A Q p l e R s m args below meth c nL cs sl pc lv st μ o := by
  subst hv
  subst hz
  intro H locs ls hP hS hl r μ1 ho
  refine lv_iinc hC.1 hC.2.1 hdg hl (k := k0) (x := x) ?_ rfl hn (x_put1_lv X lv i (vI (x + Int32.ofInt z))) (fun ls2 hl2 => kk H locs ls2 hP hS hl2 r μ1 ho)
  rw [List.getElem?_map, hk]
  rfl
/-- fewer locals, in another order -/
theorem s_lv (ks : List Nat) (hv : ks.filterMap (fun k => lv[k]?) = lv') (kk : Sm X I A Q p l e R s m args below meth c nL cs sl pc lv' st μ o) : Sm X I A Q p l e R s m args below meth c nL cs sl pc lv st μ o := by
  subst hv
  intro H locs ls hP hS hl r μ1 ho
  refine kk H locs ls hP hS (lv_sub hl ks ?_) r μ1 ho
  unfold lv_pick x_lv
  rw [List.map_filterMap]
  congr 1
  funext k
  rw [List.getElem?_map]
/-- names -/
theorem s_lt {γ : Type} {v : γ} {K : γ → Option (α × τ)} (kk : Sm X I A Q p l e R s m args below meth c nL cs sl pc lv st μ (K v)) : Sm X I A Q p l e R s m args below meth c nL cs sl pc lv st μ (lt v K) := kk
theorem s_ltI {v : Int32} {K : Int32 → Option (α × τ)} (kk : ∀ x : Int32, Sm X I A Q p l e R s m args below meth c nL cs sl pc lv (vI x :: st) μ (K x)) : Sm X I A Q p l e R s m args below meth c nL cs sl pc lv (vI v :: st) μ (lt v K) := kk v
theorem s_ltJ {v : Int64} {K : Int64 → Option (α × τ)} (kk : ∀ x : Int64, Sm X I A Q p l e R s m args below meth c nL cs sl pc lv (vJ x :: st) μ (K x)) : Sm X I A Q p l e R s m args below meth c nL cs sl pc lv (vJ v :: st) μ (lt v K) := kk v
theorem s_ltR {v : Nat} {K : Nat → Option (α × τ)} (kk : ∀ x : Nat, Sm X I A Q p l e R s m args below meth c nL cs sl pc lv (vR x :: st) μ (K x)) : Sm X I A Q p l e R s m args below meth c nL cs sl pc lv (vR v :: st) μ (lt v K) := kk v
theorem s_ltM {K : τ → Option (α × τ)} (kk : ∀ μ1 : τ, Sm X I A Q p l e R s m args below meth c nL cs sl pc lv st μ1 (K μ1)) : Sm X I A Q p l e R s m args below meth c nL cs sl pc lv st μ (lt μ K) := kk μ
theorem s_goto (hC : x_C X Z p R s m c cc own nL cs sl n) {off : Int} {tgt : Nat} (hdg : decode cc pc = .ok (.goto off, 3)) (ht : (pc : Int) + off = (tgt : Int)) (k : Sm X I A Q p l e R s m args below meth c nL cs sl tgt lv st μ o) : Sm X I A Q p l e R s m args below meth c nL cs sl pc lv st μ o :=
  fun H locs ls hP hS hl r μ1 ho => lv_goto hC.1 hC.2.1 hdg ht (k H locs ls hP hS hl r μ1 ho)
theorem s_if_eq (hC : x_C X Z p R s m c cc own nL cs sl n) {x : Int32} {off : Int} {tgt : Nat} {K1 K2 : Option (α × τ)} (hdg : decode cc pc = .ok (.ifCond .eq off, 3)) (ht : (pc : Int) + off = (tgt : Int)) (kt : Sm X I A Q p l e R s m args below meth c nL cs sl tgt lv st μ K1) (kf : Sm X I A Q p l e R s m args below meth c nL cs sl (pc + 3) lv st μ K2) : Sm X I A Q p l e R s m args below meth c nL cs sl pc lv (vI x :: st) μ (if x = 0 then K1 else K2) := by
  intro H locs ls hP hS hl r μ1 ho
  exact lv_if_eq hC.1 hC.2.1 hdg ht (fun h => kt H locs ls hP hS hl r μ1 (by rw [← ho, if_pos h])) (fun h => kf H locs ls hP hS hl r μ1 (by rw [← ho, if_neg h]))
theorem s_icmp_eq (hC : x_C X Z p R s m c cc own nL cs sl n) {x y : Int32} {off : Int} {tgt : Nat} {K1 K2 : Option (α × τ)} (hdg : decode cc pc = .ok (.if_icmp .eq off, 3)) (ht : (pc : Int) + off = (tgt : Int)) (kt : Sm X I A Q p l e R s m args below meth c nL cs sl tgt lv st μ K1) (kf : Sm X I A Q p l e R s m args below meth c nL cs sl (pc + 3) lv st μ K2) : Sm X I A Q p l e R s m args below meth c nL cs sl pc lv (vI y :: vI x :: st) μ (if x = y then K1 else K2) := by
  intro H locs ls hP hS hl r μ1 ho
  exact lv_icmp_eq hC.1 hC.2.1 hdg ht (fun h => kt H locs ls hP hS hl r μ1 (by rw [← ho, if_pos h])) (fun h => kf H locs ls hP hS hl r μ1 (by rw [← ho, if_neg h]))
theorem s_if_ne (hC : x_C X Z p R s m c cc own nL cs sl n) {x : Int32} {off : Int} {tgt : Nat} {K1 K2 : Option (α × τ)} (hdg : decode cc pc = .ok (.ifCond .ne off, 3)) (ht : (pc : Int) + off = (tgt : Int)) (kt : Sm X I A Q p l e R s m args below meth c nL cs sl tgt lv st μ K1) (kf : Sm X I A Q p l e R s m args below meth c nL cs sl (pc + 3) lv st μ K2) : Sm X I A Q p l e R s m args below meth c nL cs sl pc lv (vI x :: st) μ (if x = 0 then K2 else K1) := by
  intro H locs ls hP hS hl r μ1 ho
  exact lv_if_ne hC.1 hC.2.1 hdg ht (fun h => kt H locs ls hP hS hl r μ1 (by rw [← ho, if_neg h])) (fun h => kf H locs ls hP hS hl r μ1 (by rw [← ho, if_pos h]))
theorem s_icmp_ne (hC : x_C X Z p R s m c cc own nL cs sl n) {x y : Int32} {off : Int} {tgt : Nat} {K1 K2 : Option (α × τ)} (hdg : decode cc pc = .ok (.if_icmp .ne off, 3)) (ht : (pc : Int) + off = (tgt : Int)) (kt : Sm X I A Q p l e R s m args below meth c nL cs sl tgt lv st μ K1) (kf : Sm X I A Q p l e R s m args below meth c nL cs sl (pc + 3) lv st μ K2) : Sm X I A Q p l e R s m args below meth c nL cs sl pc lv (vI y :: vI x :: st) μ (if x = y then K2 else K1) := by
  intro H locs ls hP hS hl r μ1 ho
  exact lv_icmp_ne hC.1 hC.2.1 hdg ht (fun h => kt H locs ls hP hS hl r μ1 (by rw [← ho, if_neg h])) (fun h => kf H locs ls hP hS hl r μ1 (by rw [← ho, if_pos h]))
theorem s_if_lt (hC : x_C X Z p R s m c cc own nL cs sl n) {x : Int32} {off : Int} {tgt : Nat} {K1 K2 : Option (α × τ)} (hdg : decode cc pc = .ok (.ifCond .lt off, 3)) (ht : (pc : Int) + off = (tgt : Int)) (kt : Sm X I A Q p l e R s m args below meth c nL cs sl tgt lv st μ K1) (kf : Sm X I A Q p l e R s m args below meth c nL cs sl (pc + 3) lv st μ K2) : Sm X I A Q p l e R s m args below meth c nL cs sl pc lv (vI x :: st) μ (if x < 0 then K1 else K2) := by
  intro H locs ls hP hS hl r μ1 ho
  exact lv_if_lt hC.1 hC.2.1 hdg ht (fun h => kt H locs ls hP hS hl r μ1 (by rw [← ho, if_pos h])) (fun h => kf H locs ls hP hS hl r μ1 (by rw [← ho, if_neg h]))
theorem s_icmp_lt (hC : x_C X Z p R s m c cc own nL cs sl n) {x y : Int32} {off : Int} {tgt : Nat} {K1 K2 : Option (α × τ)} (hdg : decode cc pc = .ok (.if_icmp .lt off, 3)) (ht : (pc : Int) + off = (tgt : Int)) (kt : Sm X I A Q p l e R s m args below meth c nL cs sl tgt lv st μ K1) (kf : Sm X I A Q p l e R s m args below meth c nL cs sl (pc + 3) lv st μ K2) : Sm X I A Q p l e R s m args below meth c nL cs sl pc lv (vI y :: vI x :: st) μ (if x < y then K1 else K2) := by
  intro H locs ls hP hS hl r μ1 ho
  exact lv_icmp_lt hC.1 hC.2.1 hdg ht (fun h => kt H locs ls hP hS hl r μ1 (by rw [← ho, if_pos h])) (fun h => kf H locs ls hP hS hl r μ1 (by rw [← ho, if_neg h]))
theorem s_if_ge (hC : x_C X Z p R s m c cc own nL cs sl n) {x : Int32} {off : Int} {tgt : Nat} {K1 K2 : Option (α × τ)} (hdg : decode cc pc = .ok (.ifCond .ge off, 3)) (ht : (pc : Int) + off = (tgt : Int)) (kt : Sm X I A Q p l e R s m args below meth c nL cs sl tgt lv st μ K1) (kf : Sm X I A Q p l e R s m args below meth c nL cs sl (pc + 3) lv st μ K2) : Sm X I A Q p l e R s m args below meth c nL cs sl pc lv (vI x :: st) μ (if 0 ≤ x then K1 else K2) := by
  intro H locs ls hP hS hl r μ1 ho
  exact lv_if_ge hC.1 hC.2.1 hdg ht (fun h => kt H locs ls hP hS hl r μ1 (by rw [← ho, if_pos h])) (fun h => kf H locs ls hP hS hl r μ1 (by rw [← ho, if_neg h]))
theorem s_icmp_ge (hC : x_C X Z p R s m c cc own nL cs sl n) {x y : Int32} {off : Int} {tgt : Nat} {K1 K2 : Option (α × τ)} (hdg : decode cc pc = .ok (.if_icmp .ge off, 3)) (ht : (pc : Int) + off = (tgt : Int)) (kt : Sm X I A Q p l e R s m args below meth c nL cs sl tgt lv st μ K1) (kf : Sm X I A Q p l e R s m args below meth c nL cs sl (pc + 3) lv st μ K2) : Sm X I A Q p l e R s m args below meth c nL cs sl pc lv (vI y :: vI x :: st) μ (if y ≤ x then K1 else K2) := by
  intro H locs ls hP hS hl r μ1 ho
  exact lv_icmp_ge hC.1 hC.2.1 hdg ht (fun h => kt H locs ls hP hS hl r μ1 (by rw [← ho, if_pos h])) (fun h => kf H locs ls hP hS hl r μ1 (by rw [← ho, if_neg h]))
theorem s_if_gt (hC : x_C X Z p R s m c cc own nL cs sl n) {x : Int32} {off : Int} {tgt : Nat} {K1 K2 : Option (α × τ)} (hdg : decode cc pc = .ok (.ifCond .gt off, 3)) (ht : (pc : Int) + off = (tgt : Int)) (kt : Sm X I A Q p l e R s m args below meth c nL cs sl tgt lv st μ K1) (kf : Sm X I A Q p l e R s m args below meth c nL cs sl (pc + 3) lv st μ K2) : Sm X I A Q p l e R s m args below meth c nL cs sl pc lv (vI x :: st) μ (if 0 < x then K1 else K2) := by
  intro H locs ls hP hS hl r μ1 ho
  exact lv_if_gt hC.1 hC.2.1 hdg ht (fun h => kt H locs ls hP hS hl r μ1 (by rw [← ho, if_pos h])) (fun h => kf H locs ls hP hS hl r μ1 (by rw [← ho, if_neg h]))
theorem s_icmp_gt (hC : x_C X Z p R s m c cc own nL cs sl n) {x y : Int32} {off : Int} {tgt : Nat} {K1 K2 : Option (α × τ)} (hdg : decode cc pc = .ok (.if_icmp .gt off, 3)) (ht : (pc : Int) + off = (tgt : Int)) (kt : Sm X I A Q p l e R s m args below meth c nL cs sl tgt lv st μ K1) (kf : Sm X I A Q p l e R s m args below meth c nL cs sl (pc + 3) lv st μ K2) : Sm X I A Q p l e R s m args below meth c nL cs sl pc lv (vI y :: vI x :: st) μ (if y < x then K1 else K2) := by
  intro H locs ls hP hS hl r μ1 ho
  exact lv_icmp_gt hC.1 hC.2.1 hdg ht (fun h => kt H locs ls hP hS hl r μ1 (by rw [← ho, if_pos h])) (fun h => kf H locs ls hP hS hl r μ1 (by rw [← ho, if_neg h]))
theorem s_if_le (hC : x_C X Z p R s m c cc own nL cs sl n) {x : Int32} {off : Int} {tgt : Nat} {K1 K2 : Option (α × τ)} (hdg : decode cc pc = .ok (.ifCond .le off, 3)) (ht : (pc : Int) + off = (tgt : Int)) (kt : Sm X I A Q p l e R s m args below meth c nL cs sl tgt lv st μ K1) (kf : Sm X I A Q p l e R s m args below meth c nL cs sl (pc + 3) lv st μ K2) : Sm X I A Q p l e R s m args below meth c nL cs sl pc lv (vI x :: st) μ (if x ≤ 0 then K1 else K2) := by
  intro H locs ls hP hS hl r μ1 ho
  exact lv_if_le hC.1 hC.2.1 hdg ht (fun h => kt H locs ls hP hS hl r μ1 (by rw [← ho, if_pos h])) (fun h => kf H locs ls hP hS hl r μ1 (by rw [← ho, if_neg h]))
theorem s_icmp_le (hC : x_C X Z p R s m c cc own nL cs sl n) {x y : Int32} {off : Int} {tgt : Nat} {K1 K2 : Option (α × τ)} (hdg : decode cc pc = .ok (.if_icmp .le off, 3)) (ht : (pc : Int) + off = (tgt : Int)) (kt : Sm X I A Q p l e R s m args below meth c nL cs sl tgt lv st μ K1) (kf : Sm X I A Q p l e R s m args below meth c nL cs sl (pc + 3) lv st μ K2) : Sm X I A Q p l e R s m args below meth c nL cs sl pc lv (vI y :: vI x :: st) μ (if x ≤ y then K1 else K2) := by
  intro H locs ls hP hS hl r μ1 ho
  exact lv_icmp_le hC.1 hC.2.1 hdg ht (fun h => kt H locs ls hP hS hl r μ1 (by rw [← ho, if_pos h])) (fun h => kf H locs ls hP hS hl r μ1 (by rw [← ho, if_neg h]))
theorem s_ifnull (hC : x_C X Z p R s m c cc own nL cs sl n) {x : Nat} {off : Int} {tgt : Nat} {K1 K2 : Option (α × τ)} (hdg : decode cc pc = .ok (.ifnull off, 3)) (ht : (pc : Int) + off = (tgt : Int)) (kt : Sm X I A Q p l e R s m args below meth c nL cs sl tgt lv st μ K1) (kf : Sm X I A Q p l e R s m args below meth c nL cs sl (pc + 3) lv st μ K2) : Sm X I A Q p l e R s m args below meth c nL cs sl pc lv (vR x :: st) μ (if x = 0 then K1 else K2) := by
  intro H locs ls hP hS hl r μ1 ho
  show W p l e R s m args below meth c H locs cs sl (Q r μ1) (F0 m pc ls (x_rv X x :: x_st X st))
  by_cases hx : x = 0
  · subst hx
    exact lv_ifnullN hC.1 hC.2.1 hdg ht (kt H locs ls hP hS hl r μ1 (by rw [← ho, if_pos rfl]))
  · rw [x_rv_n X hx]
    exact lv_ifnull hC.1 hC.2.1 hdg (kf H locs ls hP hS hl r μ1 (by rw [← ho, if_neg hx]))
theorem s_ifnonnull (hC : x_C X Z p R s m c cc own nL cs sl n) {x : Nat} {off : Int} {tgt : Nat} {K1 K2 : Option (α × τ)} (hdg : decode cc pc = .ok (.ifnonnull off, 3)) (ht : (pc : Int) + off = (tgt : Int)) (kt : Sm X I A Q p l e R s m args below meth c nL cs sl tgt lv st μ K1) (kf : Sm X I A Q p l e R s m args below meth c nL cs sl (pc + 3) lv st μ K2) : Sm X I A Q p l e R s m args below meth c nL cs sl pc lv (vR x :: st) μ (if x = 0 then K2 else K1) := by
  intro H locs ls hP hS hl r μ1 ho
  show W p l e R s m args below meth c H locs cs sl (Q r μ1) (F0 m pc ls (x_rv X x :: x_st X st))
  by_cases hx : x = 0
  · subst hx
    exact lv_ifnonnullN hC.1 hC.2.1 hdg (kf H locs ls hP hS hl r μ1 (by rw [← ho, if_pos rfl]))
  · rw [x_rv_n X hx]
    exact lv_ifnonnull hC.1 hC.2.1 hdg ht (kt H locs ls hP hS hl r μ1 (by rw [← ho, if_neg hx]))
end ROWS
end
section
/-! ===== rows over the memory: fields, arrays, statics, switches, returns, calls ===== -/
theorem x_W.at {U : State} (h : x_W U) {w : Cond} (hw : w ∈ lw_tbl ∧ (goodWord w = true ∨ x_nest w = true)) (a : Array Value) : w.before a U = true := h w hw.1 hw.2 a
/-- a word of the tables that every state of the run keeps -/
abbrev x_in (w : Cond) : Prop := w ∈ lw_tbl ∧ (goodWord w = true ∨ x_nest w = true)
/-- a class: its place, its fields, what the tables say of them -/
def x_Cls (ci : Nat) (C : String) (T : u_T) (N : Nat) : Prop := vwCl[ci]? = some (C, T, N) ∧ ci + 1 < 20 ∧ (∀ w ∈ u_ws C T N, x_in w) ∧ (∀ k, k < N → parseFieldDescriptor (T k).2.2.1 = some (x_ty ci k)) ∧ (∀ a, a < N → ∀ b, b < N → a ≠ b → (T a).2.1 ≠ (T b).2.1) ∧ (∀ k, k < N → (T k).1 = C)
def x_fl (nest : Bool) (own : String) (idx : Nat) (C : String) (T : u_T) (k : Nat) : Cond := match nest with
  | true => .fieldLinkNest own idx C (T k).2.1 (T k).2.2.1 "LakeBooks"
  | false => .fieldLink own idx C (T k).2.1 (T k).2.2.1
theorem x_isR_int {ci k : Nat} (h : x_isR ci k = false) {X : x_X} {μ : x_M} {o : Nat} : x_f X μ ci o k = .int (μ.1 o k) := by
  unfold x_f; rw [h]; rfl
theorem x_isR_ref {ci k : Nat} (h : x_isR ci k = true) {X : x_X} {μ : x_M} {o : Nat} : x_f X μ ci o k = x_rv X (μ.2.1 o k) := by
  unfold x_f; rw [h]; rfl
section HEAP
variable {α β : Type} {X : x_X} {Z : x_Zs} {A : Nat → Prop} {Q : α → x_M → State → Prop} {p : Program} {l : Launch} {e : Env} {R : Room} {s : State} {m : MethodId} {args : Array Value} {below : List Frame} {meth : Method} {c : Code} {cc : ByteArray} {own : String} {nL cs sl n : Nat} {pc : Nat} {lv lv' : List (Nat × x_V)} {st : List x_V} {μ : x_M} {o : Option (α × x_M)}
/-- the cell of an object of a class, and its places -/
theorem x_obj {H : Heap} {x ci N : Nat} {C : String} {T : u_T} (hE : x_E X Z s s.heap) (hP : x_P X μ s H) (hcl : x_Cls ci C T N) (hx : x_kd X x = ci + 1) :
    ∃ (cell : Cell) (cC : ClassId) (kC : Class), H[x_ad X x]? = some cell ∧ cell.cls = (x_D X).1 ci ∧ cell.vm = .none ∧ (∀ k, k < N → cell.slots[(x_D X).2 ci k]? = some (x_f X μ ci x k)) ∧ (x_D X).1 ci = cC ∧ s.vm.findClass C = some cC ∧ s.vm.classes[cC]? = some kC ∧ kC.kind = .ordinary ∧ (∀ k, k < N → SlotIs s (T k).1 (T k).2.1 (T k).2.2.1 ((x_D X).2 ci k)) ∧ (∀ w ∈ u_ws C T N, w.before args s = true) := by
  obtain ⟨hc, hci, hin, -⟩ := hcl
  have hk : x_kd X x - 1 = ci := by omega
  obtain ⟨r, h1, cell, q1, q2, q3, q4⟩ := (hP x).1 (by omega) (by omega)
  rw [hk] at h1 q2 q4
  have hr : r = (C, T, N) := Option.some.inj (h1.symm.trans hc)
  subst hr
  obtain ⟨hS, hfc, kC, hkC, hkind⟩ := hE.1.1 ci _ hc
  exact ⟨cell, _, kC, q1, q2, q3, q4, rfl, hfc, hkC, hkind, hS, fun w hw => hE.2.2.at (hin w hw) _⟩
theorem s_get0 (hC : x_C X Z p R s m c cc own nL cs sl n) {ci k N idx x : Nat} {C : String} {T : u_T} {v : x_V} {nest : Bool} (hcl : x_Cls ci C T N) (hkN : k < N)
    (hlink : x_in (x_fl nest own idx C T k)) (hv : x_f X μ ci x k = x_v X v) (hdg : decode cc pc = .ok (.getfield idx, 3)) (kk : Sm X (x_PI X s) A Q p l e R s m args below meth c nL cs sl (pc + 3) lv (v :: st) μ o) : Sm X (x_PI X s) A Q p l e R s m args below meth c nL cs sl pc lv (vR x :: st) μ (ck (x_kd X x = ci + 1) o) := by
  intro H locs ls hP hS hl r μ1 ho
  unfold ck at ho
  by_cases hx : x_kd X x = ci + 1
  · rw [if_pos hx] at ho
    have h2 := kk H locs ls hP hS hl r μ1 ho
    obtain ⟨cell, cC, kC, q1, q2, q3, q4, -, hfc, hkC, hkind, hsl, hws⟩ := x_obj (args := args) hC.2.2.2.2.1 hP hcl hx
    obtain ⟨cf, kf, fi, f, hi, hsf⟩ := hsl k hkN
    have h0 : x ≠ 0 := fun z => by rw [z, hC.2.2.2.2.2.1.1] at hx; omega
    have hst := (u_facts hfc hkC (u_lays hws (fun w hw => hw) hkN) hi).1
    have h3 : W p l e R s m args below meth c H locs cs sl (Q r μ1) (F0 m (pc + 3) ls (x_f X μ ci x k :: x_st X st)) := by rw [hv]; exact h2
    show W p l e R s m args below meth c H locs cs sl (Q r μ1) (F0 m pc ls (x_rv X x :: x_st X st))
    have hW := hC.2.2.2.2.1.2.2.at hlink args
    have hT' : s.fieldFound? C (T k).2.1 (T k).2.2.1 = some (cf, kf, fi, f) := by
      have := hcl.2.2.2.2.2 k hkN
      rw [this] at hi; exact hi
    rw [x_rv_n X h0]
    cases nest with
    | false => exact W.getf hC.1 hC.2.1 hC.2.2.2.1 hW hT' hst q1 (by rw [q3]; exact fun h => by cases h) (by rw [hsf]; exact q4 k hkN) rfl rfl hdg h3
    | true => exact va_Wgetf hC.1 hC.2.1 hC.2.2.2.1 hW hT' hst q1 (by rw [q3]; exact fun h => by cases h) (by rw [hsf]; exact q4 k hkN) rfl rfl hdg h3
  · rw [if_neg hx] at ho; cases ho
theorem s_getI (hC : x_C X Z p R s m c cc own nL cs sl n) {ci k N idx x : Nat} {C : String} {T : u_T} {nest : Bool} (hcl : x_Cls ci C T N) (hkN : k < N) (hR : x_isR ci k = false)
    (hlink : x_in (x_fl nest own idx C T k)) (hdg : decode cc pc = .ok (.getfield idx, 3)) (kk : Sm X (x_PI X s) A Q p l e R s m args below meth c nL cs sl (pc + 3) lv (vI (μ.1 x k) :: st) μ o) : Sm X (x_PI X s) A Q p l e R s m args below meth c nL cs sl pc lv (vR x :: st) μ (ck (x_kd X x = ci + 1) o) := s_get0 hC hcl hkN hlink (v := vI (μ.1 x k)) (x_isR_int hR) hdg kk
theorem s_getR (hC : x_C X Z p R s m c cc own nL cs sl n) {ci k N idx x : Nat} {C : String} {T : u_T} {nest : Bool} (hcl : x_Cls ci C T N) (hkN : k < N) (hR : x_isR ci k = true)
    (hlink : x_in (x_fl nest own idx C T k)) (hdg : decode cc pc = .ok (.getfield idx, 3)) (kk : Sm X (x_PI X s) A Q p l e R s m args below meth c nL cs sl (pc + 3) lv (vR (μ.2.1 x k) :: st) μ o) : Sm X (x_PI X s) A Q p l e R s m args below meth c nL cs sl pc lv (vR x :: st) μ (ck (x_kd X x = ci + 1) o) := s_get0 hC hcl hkN hlink (v := vR (μ.2.1 x k)) (x_isR_ref hR) hdg kk
theorem s_put0 (hC : x_C X Z p R s m c cc own nL cs sl n) {ci k N idx x : Nat} {C : String} {T : u_T} {v : x_V} {nest : Bool} {μ2 : x_M} {H : Heap} {locs : List Loc} {ls : Array Slot} {r : α} {μ1 : x_M} (hcl : x_Cls ci C T N) (hkN : k < N) (hfin : (T k).2.2.2 = false)
    (hlink : x_in (x_fl nest own idx C T k)) (hx : x_kd X x = ci + 1) (hn : narrow (x_ty ci k) (x_v X v) = x_v X v) (hfit : fits (x_ty ci k) (x_v X v) = true)
    (hv : ∀ j, j < N → updV (fun j => x_f X μ ci x j) k (x_v X v) j = x_f X μ2 ci x j) (e1 : ∀ p, p ≠ x → μ2.1 p = μ.1 p) (e2 : ∀ p, p ≠ x → μ2.2.1 p = μ.2.1 p) (e3 : ∀ p, p ≠ x → μ2.2.2 p = μ.2.2 p)
    (hdg : decode cc pc = .ok (.putfield idx, 3)) (hP : x_P X μ s H) (hS : va_S (x_A X) s.heap H locs) (hl : lv_has ls nL (x_lv X lv)) (ho : o = some (r, μ1))
    (kk : Sm X (x_PI X s) (x_A X) Q p l e R s m args below meth c nL cs sl (pc + 3) lv st μ2 o) : W p l e R s m args below meth c H locs cs sl (Q r μ1) (F0 m pc ls (x_st X (v :: vR x :: st))) := by
  have hI := hC.2.2.2.2.2.1
  obtain ⟨cell, cC, kC, q1, q2, q3, q4, hcC, hfc, hkC, hkind, hsl, hws⟩ := x_obj (args := args) hC.2.2.2.2.1 hP hcl hx
  obtain ⟨cf, kf, fi, f, hi, hsf⟩ := hsl k hkN
  have h0 : x ≠ 0 := fun z => by rw [z, hI.1] at hx; omega
  have hst := (u_facts hfc hkC (u_lays hws (fun w hw => hw) hkN) hi).1
  have hap := va_apart (D := x_D X) (own := C) hws (fun w hw => hw) (x_ty ci) hcl.2.2.2.1 hcl.2.2.2.2.1 hC.2.2.2.2.1.1 hcl.1
  have hlay := hws _ (u_in_lay hkN)
  unfold u_lay at hlay
  rw [if_neg (by rw [hfin]; decide)] at hlay
  have hi' := hi
  have h6 := u_store hfc hkC hkind hlay hi (hcl.2.2.2.1 k hkN) hn hfit
  have hW := hC.2.2.2.2.1.2.2.at hlink args
  have hT' : s.fieldFound? C (T k).2.1 (T k).2.2.1 = some (cf, kf, fi, f) := by
    have := hcl.2.2.2.2.2 k hkN
    rw [this] at hi'; exact hi'
  show W p l e R s m args below meth c H locs cs sl (Q r μ1) (F0 m pc ls (x_v X v :: x_rv X x :: x_st X st))
  rw [x_rv_n X h0]
  have hci := hcl.2.1
  have fin : ∀ H' : Heap, H'[x_ad X x]? = some (cell.setSlot f.slot (x_v X v)) → H'.size = H.size → (∀ q, q ≠ x_ad X x → H'[q]? = H[q]?) → W p l e R s m args below meth c H' (locs ++ [⟨x_ad X x, f.slot⟩]) cs sl (Q r μ1) (F0 m (pc + 3) ls (x_st X st)) := by
    intro H' g1 g2 g3
    refine kk H' _ ls (x_P.put hI hP (o := x) (by omega) (by omega) ?_ g3 e1 e2 e3) (hS.put g2 g3 ⟨x, by omega, by omega, rfl⟩) hl r μ1 ho
    refine ⟨fun _ _ => ⟨(C, T, N), ?_, ?_⟩, fun z => by omega, fun z => by omega, fun z => by omega, fun z => by omega, fun z => by omega, fun z => by omega, fun z => by omega⟩
    · have hk : x_kd X x - 1 = ci := by omega
      rw [hk]; exact hcl.1
    · have hk : x_kd X x - 1 = ci := by omega
      rw [hk]
      rw [hsf] at g1
      exact t_OB.to (V := updV (fun j => x_f X μ ci x j) k (x_v X v)) ⟨_, g1, q2, q3, t_set q4 hap hkN (x_v X v)⟩ hv
  cases nest with
  | false => exact W.putK hC.1 hC.2.1 (f := f) ⟨hC.2.2.2.1, hW, ⟨_, _, _, hT'⟩, hst⟩ (by rw [q2, hcC]; exact h6) q1 q3 (by rw [hsf]; exact k2_hasslot (q4 k hkN)) rfl rfl hdg fin
  | true => exact va_WputK hC.1 hC.2.1 (f := f) hC.2.2.2.1 hW hT' hst (by rw [q2, hcC]; exact h6) q1 q3 (by rw [hsf]; exact k2_hasslot (q4 k hkN)) rfl rfl hdg fin
theorem x_f_sI {ci x k : Nat} {v : Int32} (hR : x_isR ci k = false) (j : Nat) : updV (fun j => x_f X μ ci x j) k (.int v) j = x_f X (x_sI μ x k v) ci x j := by
  unfold updV x_f x_sI
  by_cases hj : j = k
  · subst hj
    simp [hR, x_u_eq]
  · simp [hj, x_u_eq]
theorem x_f_sR {ci x k : Nat} {v : Nat} (hR : x_isR ci k = true) (j : Nat) : updV (fun j => x_f X μ ci x j) k (x_rv X v) j = x_f X (x_sR μ x k v) ci x j := by
  unfold updV x_f x_sR
  by_cases hj : j = k
  · subst hj
    simp [hR, x_u_eq]
  · simp [hj, x_u_eq]
theorem s_putI (hC : x_C X Z p R s m c cc own nL cs sl n) {ci k N idx x : Nat} {C : String} {T : u_T} {v : Int32} {nest : Bool} (hcl : x_Cls ci C T N) (hkN : k < N) (hR : x_ty ci k = .int) (hfin : (T k).2.2.2 = false)
    (hlink : x_in (x_fl nest own idx C T k)) (hdg : decode cc pc = .ok (.putfield idx, 3)) (kk : Sm X (x_PI X s) (x_A X) Q p l e R s m args below meth c nL cs sl (pc + 3) lv st (x_sI μ x k v) o) : Sm X (x_PI X s) (x_A X) Q p l e R s m args below meth c nL cs sl pc lv (vI v :: vR x :: st) μ (ck (x_kd X x = ci + 1) o) := by
  intro H locs ls hP hS hl r μ1 ho
  unfold ck at ho
  by_cases hx : x_kd X x = ci + 1
  · rw [if_pos hx] at ho
    have hR2 : x_isR ci k = false := by unfold x_isR; rw [hR]
    exact s_put0 hC (v := vI v) hcl hkN hfin hlink hx (by rw [hR]; rfl) (by rw [hR]; rfl) (fun j _ => x_f_sI hR2 j) (fun q hq => x_u_ne hq) (fun q hq => rfl) (fun q hq => rfl) hdg hP hS hl ho kk
  · rw [if_neg hx] at ho; cases ho
/-- a boolean field: 0 or 1 -/
theorem s_putZ (hC : x_C X Z p R s m c cc own nL cs sl n) {ci k N idx x : Nat} {C : String} {T : u_T} {v : Int32} {nest : Bool} (hcl : x_Cls ci C T N) (hkN : k < N) (hR : x_ty ci k = .boolean) (hfin : (T k).2.2.2 = false)
    (hlink : x_in (x_fl nest own idx C T k)) (hdg : decode cc pc = .ok (.putfield idx, 3)) (kk : Sm X (x_PI X s) (x_A X) Q p l e R s m args below meth c nL cs sl (pc + 3) lv st (x_sI μ x k v) o) : Sm X (x_PI X s) (x_A X) Q p l e R s m args below meth c nL cs sl pc lv (vI v :: vR x :: st) μ (ck (x_kd X x = ci + 1 ∧ (v = 0 ∨ v = 1)) o) := by
  intro H locs ls hP hS hl r μ1 ho
  unfold ck at ho
  by_cases hx : x_kd X x = ci + 1 ∧ (v = 0 ∨ v = 1)
  · rw [if_pos hx] at ho
    have hR2 : x_isR ci k = false := by unfold x_isR; rw [hR]
    obtain ⟨hx, hv⟩ := hx
    have hvn : narrow .boolean (.int v) = .int v ∧ fits .boolean (.int v) = true := by rcases hv with rfl | rfl <;> exact ⟨rfl, rfl⟩
    exact s_put0 hC (v := vI v) hcl hkN hfin hlink hx (by rw [hR]; exact hvn.1) (by rw [hR]; exact hvn.2) (fun j _ => x_f_sI hR2 j) (fun q hq => x_u_ne hq) (fun q hq => rfl) (fun q hq => rfl) hdg hP hS hl ho kk
  · rw [if_neg hx] at ho; cases ho
theorem s_putR (hC : x_C X Z p R s m c cc own nL cs sl n) {ci k N idx x v : Nat} {C D : String} {T : u_T} {nest : Bool} (hcl : x_Cls ci C T N) (hkN : k < N) (hR : x_ty ci k = .object D) (hfin : (T k).2.2.2 = false)
    (hlink : x_in (x_fl nest own idx C T k)) (hdg : decode cc pc = .ok (.putfield idx, 3)) (kk : Sm X (x_PI X s) (x_A X) Q p l e R s m args below meth c nL cs sl (pc + 3) lv st (x_sR μ x k v) o) : Sm X (x_PI X s) (x_A X) Q p l e R s m args below meth c nL cs sl pc lv (vR v :: vR x :: st) μ (ck (x_kd X x = ci + 1) o) := by
  intro H locs ls hP hS hl r μ1 ho
  unfold ck at ho
  by_cases hx : x_kd X x = ci + 1
  · rw [if_pos hx] at ho
    have hR2 : x_isR ci k = true := by unfold x_isR; rw [hR]
    have hvn : narrow (.object D) (x_rv X v) = x_rv X v ∧ fits (.object D) (x_rv X v) = true := by
      by_cases h0 : v = 0
      · subst h0; exact ⟨rfl, rfl⟩
      · rw [x_rv_n X h0]; exact ⟨rfl, rfl⟩
    exact s_put0 hC (v := vR v) hcl hkN hfin hlink hx (by rw [hR]; exact hvn.1) (by rw [hR]; exact hvn.2) (fun j _ => x_f_sR hR2 j) (fun q hq => rfl) (fun q hq => x_u_ne hq) (fun q hq => rfl) hdg hP hS hl ho kk
  · rw [if_neg hx] at ho; cases ho
end HEAP
end
section
/-! ===== rows over the memory: arrays, statics, switches, returns, calls ===== -/
section ARR
variable {α β : Type} {X : x_X} {Z : x_Zs} {A : Nat → Prop} {Q : α → x_M → State → Prop} {p : Program} {l : Launch} {e : Env} {R : Room} {s : State} {m : MethodId} {args : Array Value} {below : List Frame} {meth : Method} {c : Code} {cc : ByteArray} {own : String} {nL cs sl n : Nat} {pc : Nat} {lv lv' : List (Nat × x_V)} {st : List x_V} {μ : x_M} {o : Option (α × x_M)}
abbrev x_ix (i : Int32) (N : Nat) : Prop := ¬ (i < 0 ∨ N ≤ i.toNatClampNeg)
theorem x_n0 (hC : x_C X Z p R s m c cc own nL cs sl n) {a : Nat} (h : 0 < x_kd X a) : a ≠ 0 := fun z => by rw [z, hC.2.2.2.2.2.1.1] at h; omega
theorem s_iald (hC : x_C X Z p R s m c cc own nL cs sl n) {i : Int32} {a : Nat} (hdg : decode cc pc = .ok (.iaload, 1)) (kk : Sm X (x_PI X s) A Q p l e R s m args below meth c nL cs sl (pc + 1) lv (vI (μ.1 a i.toNatClampNeg) :: st) μ o) : Sm X (x_PI X s) A Q p l e R s m args below meth c nL cs sl pc lv (vI i :: vR a :: st) μ (ck ((x_kd X a = 20 ∨ x_kd X a = 40) ∧ x_ix i (x_ln X a)) o) := by
  intro H locs ls hP hS hl r μ1 ho
  unfold ck at ho
  by_cases hx : (x_kd X a = 20 ∨ x_kd X a = 40) ∧ x_ix i (x_ln X a)
  · rw [if_pos hx] at ho
    obtain ⟨hk, hi⟩ := hx
    have h0 : a ≠ 0 := x_n0 hC (by omega)
    have hlt : i.toNatClampNeg < x_ln X a := Nat.not_le.mp fun q => hi (Or.inr q)
    have h2 := kk H locs ls hP hS hl r μ1 ho
    show W p l e R s m args below meth c H locs cs sl (Q r μ1) (F0 m pc ls (.int i :: x_rv X a :: x_st X st))
    rw [x_rv_n X h0]
    rcases hk with hk | hk
    · exact W.iald (v := .int (μ.1 a i.toNatClampNeg)) hC.1 hC.2.1 ((hP a).2.1 hk) ((hC.2.2.2.2.1.1.2 0 _ rfl).1 (x_ln X a) (fun j => .int (μ.1 a j))) (fun q => by cases q) (by show ¬ (i < 0 ∨ (arrV _ _ _).slots.size ≤ _); rw [arrV_size]; exact hi) (by show (arrV _ _ _).slots[_]? = _; rw [arrV_read _ _ hlt]) rfl rfl hdg h2
    · obtain ⟨cell, h1, h2', h3, h4, h5, h6, h7⟩ := (hP a).2.2.2.2.2.1 hk
      have hin' : ¬ (i < 0 ∨ cell.slots.size ≤ i.toNatClampNeg) := by
        intro q
        rcases q with q | q
        · exact hi (Or.inl q)
        · omega
      exact W.iald (v := .int (μ.1 a i.toNatClampNeg)) hC.1 hC.2.1 h1 h2' h3 hin' (h6 _ hlt) rfl rfl hdg h2
  · rw [if_neg hx] at ho; cases ho
theorem s_bald (hC : x_C X Z p R s m c cc own nL cs sl n) {i : Int32} {a : Nat} (hdg : decode cc pc = .ok (.baload, 1)) (kk : Sm X (x_PI X s) A Q p l e R s m args below meth c nL cs sl (pc + 1) lv (vI (μ.1 a i.toNatClampNeg) :: st) μ o) : Sm X (x_PI X s) A Q p l e R s m args below meth c nL cs sl pc lv (vI i :: vR a :: st) μ (ck ((x_kd X a = 22 ∨ x_kd X a = 41) ∧ x_ix i (x_ln X a)) o) := by
  intro H locs ls hP hS hl r μ1 ho
  unfold ck at ho
  by_cases hx : (x_kd X a = 22 ∨ x_kd X a = 41) ∧ x_ix i (x_ln X a)
  · rw [if_pos hx] at ho
    obtain ⟨hk, hi⟩ := hx
    have h0 : a ≠ 0 := x_n0 hC (by omega)
    have hlt : i.toNatClampNeg < x_ln X a := Nat.not_le.mp fun q => hi (Or.inr q)
    have h2 := kk H locs ls hP hS hl r μ1 ho
    show W p l e R s m args below meth c H locs cs sl (Q r μ1) (F0 m pc ls (.int i :: x_rv X a :: x_st X st))
    rw [x_rv_n X h0]
    rcases hk with hk | hk
    · exact W.zald (v := .int (μ.1 a i.toNatClampNeg)) hC.1 hC.2.1 ((hP a).2.2.2.1 hk) ((hC.2.2.2.2.1.1.2 2 _ rfl).1 (x_ln X a) (fun j => .int (μ.1 a j))) (fun q => by cases q) (by show ¬ (i < 0 ∨ (arrV _ _ _).slots.size ≤ _); rw [arrV_size]; exact hi) (by show (arrV _ _ _).slots[_]? = _; rw [arrV_read _ _ hlt]) rfl rfl hdg h2
    · obtain ⟨cell, h1, h2', h3, h4, h5, h6, h7⟩ := (hP a).2.2.2.2.2.2.1 hk
      have hin' : ¬ (i < 0 ∨ cell.slots.size ≤ i.toNatClampNeg) := by
        intro q
        rcases q with q | q
        · exact hi (Or.inl q)
        · omega
      exact W.bald (v := .int (μ.1 a i.toNatClampNeg)) hC.1 hC.2.1 h1 h2' h3 hin' (h6 _ hlt) rfl rfl hdg h2
  · rw [if_neg hx] at ho; cases ho
theorem s_lald (hC : x_C X Z p R s m c cc own nL cs sl n) {i : Int32} {a : Nat} (hdg : decode cc pc = .ok (.laload, 1)) (kk : Sm X (x_PI X s) A Q p l e R s m args below meth c nL cs sl (pc + 1) lv (vJ (μ.2.2 a i.toNatClampNeg) :: st) μ o) : Sm X (x_PI X s) A Q p l e R s m args below meth c nL cs sl pc lv (vI i :: vR a :: st) μ (ck (x_kd X a = 21 ∧ x_ix i (x_ln X a)) o) := by
  intro H locs ls hP hS hl r μ1 ho
  unfold ck at ho
  by_cases hx : x_kd X a = 21 ∧ x_ix i (x_ln X a)
  · rw [if_pos hx] at ho
    obtain ⟨hk, hi⟩ := hx
    have h0 : a ≠ 0 := x_n0 hC (by omega)
    have hlt : i.toNatClampNeg < x_ln X a := Nat.not_le.mp fun q => hi (Or.inr q)
    have h2 := kk H locs ls hP hS hl r μ1 ho
    show W p l e R s m args below meth c H locs cs sl (Q r μ1) (F0 m pc ls (.int i :: x_rv X a :: x_st X st))
    rw [x_rv_n X h0]
    exact W.lald (v := .long (μ.2.2 a i.toNatClampNeg)) hC.1 hC.2.1 ((hP a).2.2.1 hk) ((hC.2.2.2.2.1.1.2 1 _ rfl).1 (x_ln X a) (fun j => .long (μ.2.2 a j))) (fun q => by cases q) (by show ¬ (i < 0 ∨ (arrV _ _ _).slots.size ≤ _); rw [arrV_size]; exact hi) (by show (arrV _ _ _).slots[_]? = _; rw [arrV_read _ _ hlt]) rfl rfl hdg h2
  · rw [if_neg hx] at ho; cases ho
/-- the place of an array of references among the array classes -/
def x_tk (k : Nat) : String := if k = 23 then RX0 else if k = 24 then RX4 else RX8
theorem s_aald (hC : x_C X Z p R s m c cc own nL cs sl n) {i : Int32} {a : Nat} (hdg : decode cc pc = .ok (.aaload, 1)) (kk : Sm X (x_PI X s) A Q p l e R s m args below meth c nL cs sl (pc + 1) lv (vR (μ.2.1 a i.toNatClampNeg) :: st) μ o) : Sm X (x_PI X s) A Q p l e R s m args below meth c nL cs sl pc lv (vI i :: vR a :: st) μ (ck ((x_kd X a = 23 ∨ x_kd X a = 24 ∨ x_kd X a = 25) ∧ x_ix i (x_ln X a)) o) := by
  intro H locs ls hP hS hl r μ1 ho
  unfold ck at ho
  by_cases hx : (x_kd X a = 23 ∨ x_kd X a = 24 ∨ x_kd X a = 25) ∧ x_ix i (x_ln X a)
  · rw [if_pos hx] at ho
    obtain ⟨hk, hi⟩ := hx
    have h0 : a ≠ 0 := x_n0 hC (by omega)
    have hlt : i.toNatClampNeg < x_ln X a := Nat.not_le.mp fun q => hi (Or.inr q)
    have h2 := kk H locs ls hP hS hl r μ1 ho
    have h2 : W p l e R s m args below meth c H locs cs sl (Q r μ1) (F0 m (pc + 1) ls (x_rv X (μ.2.1 a i.toNatClampNeg) :: x_st X st)) := h2
    rw [← x_rf_ro] at h2
    show W p l e R s m args below meth c H locs cs sl (Q r μ1) (F0 m pc ls (.int i :: x_rv X a :: x_st X st))
    rw [x_rv_n X h0]
    have h5 := (hP a).2.2.2.2.1 (by omega) (by omega)
    have hA : ∃ C : String, s.isArrayOf (vp_cell (x_cA X (x_kd X a)) (x_ln X a, .inr (.inr (.inr (.inr (fun i => x_ro X (μ.2.1 a i))))))) (.object C) := by
      rcases hk with hk | hk | hk <;> rw [hk]
      · exact ⟨_, (hC.2.2.2.2.1.1.2 3 _ rfl).1 (x_ln X a) (fun j => va_rf (x_ro X (μ.2.1 a j)))⟩
      · exact ⟨_, (hC.2.2.2.2.1.1.2 4 _ rfl).1 (x_ln X a) (fun j => va_rf (x_ro X (μ.2.1 a j)))⟩
      · exact ⟨_, (hC.2.2.2.2.1.1.2 5 _ rfl).1 (x_ln X a) (fun j => va_rf (x_ro X (μ.2.1 a j)))⟩
    obtain ⟨Cn, hA⟩ := hA
    exact W.aald (v := va_rf (x_ro X (μ.2.1 a i.toNatClampNeg))) (ty := .object Cn) hC.1 hC.2.1 h5 hA rfl (fun q => by cases q) (by show ¬ (i < 0 ∨ (arrV _ _ _).slots.size ≤ _); rw [arrV_size]; exact hi) (by show (arrV _ _ _).slots[_]? = _; rw [arrV_read _ _ hlt]) rfl rfl hdg h2
  · rw [if_neg hx] at ho; cases ho
theorem s_alen (hC : x_C X Z p R s m c cc own nL cs sl n) {a : Nat} (hdg : decode cc pc = .ok (.arraylength, 1)) (kk : Sm X (x_PI X s) A Q p l e R s m args below meth c nL cs sl (pc + 1) lv (vI (nI (x_ln X a)) :: st) μ o) : Sm X (x_PI X s) A Q p l e R s m args below meth c nL cs sl pc lv (vR a :: st) μ (ck (x_kd X a = 20 ∨ x_kd X a = 23 ∨ x_kd X a = 40 ∨ x_kd X a = 41) o) := by
  intro H locs ls hP hS hl r μ1 ho
  unfold ck at ho
  by_cases hx : x_kd X a = 20 ∨ x_kd X a = 23 ∨ x_kd X a = 40 ∨ x_kd X a = 41
  · rw [if_pos hx] at ho
    have h0 : a ≠ 0 := x_n0 hC (by omega)
    have h2 := kk H locs ls hP hS hl r μ1 ho
    show W p l e R s m args below meth c H locs cs sl (Q r μ1) (F0 m pc ls (x_rv X a :: x_st X st))
    rw [x_rv_n X h0]
    rcases hx with hk | hk | hk | hk
    · exact W.alen (n := Int32.ofNat (x_ln X a)) hC.1 hC.2.1 ((hP a).2.1 hk) ((hC.2.2.2.2.1.1.2 0 _ rfl).1 (x_ln X a) (fun j => .int (μ.1 a j))) (by rw [vp_cell_i, arrV_size] <;> rfl) rfl rfl hdg h2
    · have h5 := (hP a).2.2.2.2.1 (by omega) (by omega)
      rw [hk] at h5
      exact W.alen (n := Int32.ofNat (x_ln X a)) hC.1 hC.2.1 h5 ((hC.2.2.2.2.1.1.2 3 _ rfl).1 (x_ln X a) (fun j => va_rf (x_ro X (μ.2.1 a j)))) (by rw [vp_cell_q, arrV_size] <;> rfl) rfl rfl hdg h2
    · obtain ⟨cell, h1, h2', h3, h4, h5, h6, h7⟩ := (hP a).2.2.2.2.2.1 hk
      exact W.alen (n := Int32.ofNat (x_ln X a)) hC.1 hC.2.1 h1 h2' h5 rfl rfl hdg h2
    · obtain ⟨cell, h1, h2', h3, h4, h5, h6, h7⟩ := (hP a).2.2.2.2.2.2.1 hk
      exact W.alen (n := Int32.ofNat (x_ln X a)) hC.1 hC.2.1 h1 h2' h5 rfl rfl hdg h2
  · rw [if_neg hx] at ho; cases ho
theorem s_iast (hC : x_C X Z p R s m c cc own nL cs sl n) {i v : Int32} {a : Nat} (hdg : decode cc pc = .ok (.iastore, 1)) (kk : Sm X (x_PI X s) (x_A X) Q p l e R s m args below meth c nL cs sl (pc + 1) lv st (x_sI μ a i.toNatClampNeg v) o) : Sm X (x_PI X s) (x_A X) Q p l e R s m args below meth c nL cs sl pc lv (vI v :: vI i :: vR a :: st) μ (ck (x_kd X a = 20 ∧ x_ix i (x_ln X a)) o) := by
  intro H locs ls hP hS hl r μ1 ho
  unfold ck at ho
  by_cases hx : x_kd X a = 20 ∧ x_ix i (x_ln X a)
  · rw [if_pos hx] at ho
    obtain ⟨hk, hi⟩ := hx
    have h0 : a ≠ 0 := x_n0 hC (by omega)
    show W p l e R s m args below meth c H locs cs sl (Q r μ1) (F0 m pc ls (.int v :: .int i :: x_rv X a :: x_st X st))
    rw [x_rv_n X h0]
    refine W.iast hC.1 hC.2.1 ((hP a).2.1 hk) ((hC.2.2.2.2.1.1.2 0 _ rfl).1 (x_ln X a) (fun j => .int (μ.1 a j))) (fun q => by cases q) (by show ¬ (i < 0 ∨ (arrV _ _ _).slots.size ≤ _); rw [arrV_size]; exact hi) rfl rfl hdg fun H1 e1 z oq => ?_
    refine kk H1 _ ls (x_P.put hC.2.2.2.2.2.1 hP (o := a) (by omega) (by omega) ?_ oq (fun q hq => x_u_ne hq) (fun q hq => rfl) (fun q hq => rfl)) (hS.put z oq ⟨a, by omega, by omega, rfl⟩) hl r μ1 ho
    refine ⟨fun _ _ => by omega, fun _ => ?_, fun z => by omega, fun z => by omega, fun z => by omega, fun z => by omega, fun z => by omega, fun z => by omega⟩
    rw [e1, vp_cell_i, vp_cell_i, arrV_store]
    congr 2
    funext q
    show updV _ _ _ q = Value.int (x_u μ.1 a i.toNatClampNeg v a q)
    rw [x_u_eq]
    by_cases hq : q = i.toNatClampNeg
    · subst hq; simp [updV]
    · simp [updV, hq]
  · rw [if_neg hx] at ho; cases ho
theorem s_zast (hC : x_C X Z p R s m c cc own nL cs sl n) {i v : Int32} {a : Nat} (hdg : decode cc pc = .ok (.bastore, 1)) (kk : Sm X (x_PI X s) (x_A X) Q p l e R s m args below meth c nL cs sl (pc + 1) lv st (x_sI μ a i.toNatClampNeg (vp_nar .boolean v)) o) : Sm X (x_PI X s) (x_A X) Q p l e R s m args below meth c nL cs sl pc lv (vI v :: vI i :: vR a :: st) μ (ck (x_kd X a = 22 ∧ x_ix i (x_ln X a)) o) := by
  intro H locs ls hP hS hl r μ1 ho
  unfold ck at ho
  by_cases hx : x_kd X a = 22 ∧ x_ix i (x_ln X a)
  · rw [if_pos hx] at ho
    obtain ⟨hk, hi⟩ := hx
    have h0 : a ≠ 0 := x_n0 hC (by omega)
    show W p l e R s m args below meth c H locs cs sl (Q r μ1) (F0 m pc ls (.int v :: .int i :: x_rv X a :: x_st X st))
    rw [x_rv_n X h0]
    refine W.zast hC.1 hC.2.1 ((hP a).2.2.2.1 hk) ((hC.2.2.2.2.1.1.2 2 _ rfl).1 (x_ln X a) (fun j => .int (μ.1 a j))) (fun q => by cases q) (by show ¬ (i < 0 ∨ (arrV _ _ _).slots.size ≤ _); rw [arrV_size]; exact hi) rfl rfl hdg fun H1 e1 z oq => ?_
    refine kk H1 _ ls (x_P.put hC.2.2.2.2.2.1 hP (o := a) (by omega) (by omega) ?_ oq (fun q hq => x_u_ne hq) (fun q hq => rfl) (fun q hq => rfl)) (hS.put z oq ⟨a, by omega, by omega, rfl⟩) hl r μ1 ho
    refine ⟨fun _ _ => by omega, fun z => by omega, fun z => by omega, fun _ => ?_, fun z => by omega, fun z => by omega, fun z => by omega, fun z => by omega⟩
    rw [e1, vp_cell_i, vp_cell_i, arrV_store]
    congr 2
    funext q
    show updV _ _ _ q = Value.int (x_u μ.1 a i.toNatClampNeg (vp_nar .boolean v) a q)
    rw [x_u_eq]
    by_cases hq : q = i.toNatClampNeg
    · subst hq
      simp [updV, vp_nar]
      try rfl
    · simp [updV, hq]
  · rw [if_neg hx] at ho; cases ho
theorem s_last (hC : x_C X Z p R s m c cc own nL cs sl n) {i : Int32} {v : Int64} {a : Nat} (hdg : decode cc pc = .ok (.lastore, 1)) (kk : Sm X (x_PI X s) (x_A X) Q p l e R s m args below meth c nL cs sl (pc + 1) lv st (x_sJ μ a i.toNatClampNeg v) o) : Sm X (x_PI X s) (x_A X) Q p l e R s m args below meth c nL cs sl pc lv (vJ v :: vI i :: vR a :: st) μ (ck (x_kd X a = 21 ∧ x_ix i (x_ln X a)) o) := by
  intro H locs ls hP hS hl r μ1 ho
  unfold ck at ho
  by_cases hx : x_kd X a = 21 ∧ x_ix i (x_ln X a)
  · rw [if_pos hx] at ho
    obtain ⟨hk, hi⟩ := hx
    have h0 : a ≠ 0 := x_n0 hC (by omega)
    show W p l e R s m args below meth c H locs cs sl (Q r μ1) (F0 m pc ls (.long v :: .int i :: x_rv X a :: x_st X st))
    rw [x_rv_n X h0]
    refine W.last hC.1 hC.2.1 ((hP a).2.2.1 hk) ((hC.2.2.2.2.1.1.2 1 _ rfl).1 (x_ln X a) (fun j => .long (μ.2.2 a j))) (fun q => by cases q) (by show ¬ (i < 0 ∨ (arrV _ _ _).slots.size ≤ _); rw [arrV_size]; exact hi) rfl rfl hdg fun H1 e1 z oq => ?_
    refine kk H1 _ ls (x_P.put hC.2.2.2.2.2.1 hP (o := a) (by omega) (by omega) ?_ oq (fun q hq => rfl) (fun q hq => rfl) (fun q hq => x_u_ne hq)) (hS.put z oq ⟨a, by omega, by omega, rfl⟩) hl r μ1 ho
    refine ⟨fun _ _ => by omega, fun z => by omega, fun _ => ?_, fun z => by omega, fun z => by omega, fun z => by omega, fun z => by omega, fun z => by omega⟩
    rw [e1, vp_cell_l, vp_cell_l, arrV_store]
    congr 2
    funext q
    show updV _ _ _ q = Value.long (x_u μ.2.2 a i.toNatClampNeg v a q)
    rw [x_u_eq]
    by_cases hq : q = i.toNatClampNeg
    · subst hq; simp [updV]
    · simp [updV, hq]
  · rw [if_neg hx] at ho; cases ho
end ARR
end
section
/-! ===== switches, statics, constants, Math, returns, calls, a method's entry ===== -/
def x_swo {β : Type} : List Int32 → List β → β → Int32 → β
  | v :: vs, k :: ks, d, x => if x = v then k else x_swo vs ks d x
  | _, _, d, _ => d
def x_swP {β : Type} (P : Nat → β → Prop) : List (Int32 × Nat) → List β → Prop
  | [], [] => True
  | q :: r, k :: ks => P q.2 k ∧ x_swP P r ks
  | _, _ => False
def x_swt : List (Int32 × Nat) → Nat → Int32 → Nat
  | [], d, _ => d
  | q :: r, d, x => if x = q.1 then q.2 else x_swt r d x
theorem x_sw_go {β : Type} {P : Nat → β → Prop} {Kd : β} {td : Nat} {x : Int32} (hd : P td Kd) : ∀ (tags : List (Int32 × Nat)) (ks : List β), x_swP P tags ks → P (x_swt tags td x) (x_swo (tags.map (·.1)) ks Kd x)
  | [], [], _ => hd
  | q :: r, k :: ks, h => by
    show P (if x = q.1 then q.2 else x_swt r td x) (if x = q.1 then k else x_swo (r.map (·.1)) ks Kd x)
    by_cases hx : x = q.1
    · rw [if_pos hx, if_pos hx]; exact h.1
    · rw [if_neg hx, if_neg hx]; exact x_sw_go hd r ks h.2
  | [], _ :: _, h => h.elim
  | _ :: _, [], h => h.elim
def x_lkchk (pc : Nat) (dflt : Int) (ps : List (Int × Int)) (tags : List (Int32 × Nat)) (td : Nat) : Bool :=
  decide ((pc : Int) + dflt = td) && decide (ps = tags.map (fun q => (q.1.toInt, (q.2 : Int) - pc)))
theorem x_lk_ok {pc : Nat} {dflt : Int} {td : Nat} (x : Int32) (hd : (pc : Int) + dflt = td) : ∀ tags : List (Int32 × Nat), (pc : Int) + Op.lookupswitch.offset (tags.map (fun q => (q.1.toInt, (q.2 : Int) - pc))) dflt x.toInt = (x_swt tags td x : Nat)
  | [] => hd
  | q :: r => by
    show (pc : Int) + Op.lookupswitch.offset ((q.1.toInt, (q.2 : Int) - pc) :: r.map _) dflt x.toInt = ((if x = q.1 then q.2 else x_swt r td x : Nat) : Int)
    by_cases hx : x = q.1
    · rw [if_pos hx, Op.lookupswitch.offset_cons, if_pos (by rw [hx])]; omega
    · rw [if_neg hx, lv_osw hx rfl]; exact x_lk_ok x hd r
def x_tabchk (pc : Nat) (dflt lo hi : Int) (offs : Array Int) (tags : List (Int32 × Nat)) (td : Nat) : Bool :=
  decide ((pc : Int) + dflt = td) && decide (tags.length = offs.size) && decide (hi = lo + offs.size - 1) && (List.range offs.size).all (fun j => decide ((tags.map (fun q => q.1.toInt))[j]? = some (lo + j)) && decide ((tags.map (fun q => (q.2 : Int) - pc))[j]? = offs[j]?))
theorem x_swt_out {td : Nat} {x : Int32} : ∀ tags : List (Int32 × Nat), (∀ q ∈ tags, x ≠ q.1) → x_swt tags td x = td
  | [], _ => rfl
  | q :: r, h => by
    show (if x = q.1 then q.2 else x_swt r td x) = td
    rw [if_neg (h q List.mem_cons_self)]
    exact x_swt_out r (fun q hq => h q (List.mem_cons_of_mem _ hq))
theorem x_swt_in {td : Nat} {x : Int32} : ∀ (tags : List (Int32 × Nat)) (j : Nat) (q : Int32 × Nat), tags[j]? = some q → x = q.1 → (∀ i, i < j → ∀ w, tags[i]? = some w → x ≠ w.1) → x_swt tags td x = q.2
  | [], j, q, h, _, _ => by simp at h
  | w :: r, 0, q, h, hx, _ => by
    have : w = q := by simpa using h
    subst this
    exact if_pos hx
  | w :: r, j + 1, q, h, hx, hn => by
    show (if x = w.1 then w.2 else x_swt r td x) = q.2
    rw [if_neg (hn 0 (by omega) w rfl)]
    exact x_swt_in r j q (by simpa using h) hx (fun i hi u hu => hn (i + 1) (by omega) u (by simpa using hu))
section ENDS
variable {τ α β : Type} {X : x_X} {Z : x_Zs} {I : τ → Heap → Prop} {A : Nat → Prop} {Q : α → τ → State → Prop} {p : Program} {l : Launch} {e : Env} {R : Room} {s : State} {m : MethodId} {args : Array Value} {below : List Frame} {meth : Method} {c : Code} {cc : ByteArray} {own : String} {nL cs sl n : Nat} {pc : Nat} {lv lv' : List (Nat × x_V)} {st : List x_V} {μ : τ} {o : Option (α × τ)}
theorem s_lookup (hC : x_C X Z p R s m c cc own nL cs sl n) {dflt : Int} {ps : Array (Int × Int)} {len : Nat} {x : Int32} {ks : List (Option (α × τ))} {Kd : Option (α × τ)} (hdg : decode cc pc = .ok (.lookupswitch dflt ps, len)) (hp : (ps.toList.zip (ps.toList.drop 1)).all (fun (a, next) => a.1 < next.1) = true) (tags : List (Int32 × Nat)) (td : Nat) (hchk : x_lkchk pc dflt ps.toList tags td = true)
    (h : x_swP (fun t K => Sm X I A Q p l e R s m args below meth c nL cs sl t lv st μ K) tags ks) (hd : Sm X I A Q p l e R s m args below meth c nL cs sl td lv st μ Kd) : Sm X I A Q p l e R s m args below meth c nL cs sl pc lv (vI x :: st) μ (x_swo (tags.map (·.1)) ks Kd x) := by
  simp only [x_lkchk, Bool.and_eq_true, decide_eq_true_eq] at hchk
  have k := x_sw_go (x := x) hd tags ks h
  intro H locs ls hP hS hl r μ1 ho
  exact lv_lookup hC.1 hC.2.1 hdg hp rfl (by rw [hchk.2]; exact x_lk_ok x hchk.1 tags) (k H locs ls hP hS hl r μ1 ho)
theorem s_table (hC : x_C X Z p R s m c cc own nL cs sl n) {dflt lo hi : Int} {offs : Array Int} {len : Nat} {x : Int32} {ks : List (Option (α × τ))} {Kd : Option (α × τ)} (hdg : decode cc pc = .ok (.tableswitch dflt lo hi offs, len)) (tags : List (Int32 × Nat)) (td : Nat) (hchk : x_tabchk pc dflt lo hi offs tags td = true)
    (h : x_swP (fun t K => Sm X I A Q p l e R s m args below meth c nL cs sl t lv st μ K) tags ks) (hd : Sm X I A Q p l e R s m args below meth c nL cs sl td lv st μ Kd) : Sm X I A Q p l e R s m args below meth c nL cs sl pc lv (vI x :: st) μ (x_swo (tags.map (·.1)) ks Kd x) := by
  simp only [x_tabchk, Bool.and_eq_true, decide_eq_true_eq, List.all_eq_true, List.mem_range] at hchk
  obtain ⟨⟨⟨h1, h2⟩, h3⟩, h4⟩ := hchk
  have k := x_sw_go (x := x) hd tags ks h
  have tagj : ∀ (j : Nat) (w : Int32 × Nat), tags[j]? = some w → w.1.toInt = lo + j ∧ offs[j]? = some ((w.2 : Int) - pc) := by
    intro j w hw
    have hj : j < offs.size := by rw [← h2]; exact (List.getElem?_eq_some_iff.mp hw).1
    obtain ⟨a, b⟩ := h4 j hj
    rw [List.getElem?_map, hw] at a b
    exact ⟨Option.some.inj a, b.symm⟩
  intro H locs ls hP hS hl r μ1 ho
  by_cases hx : x.toInt < lo ∨ hi < x.toInt
  · have e1 : x_swt tags td x = td := by
      refine x_swt_out tags (fun q hq hxq => ?_)
      obtain ⟨j, hj⟩ := List.getElem?_of_mem hq
      have hl2 := (List.getElem?_eq_some_iff.mp hj).1
      have := (tagj j q hj).1
      rw [hxq] at hx
      omega
    rw [e1] at k
    exact lv_tableOut hC.1 hC.2.1 hdg hx h1 (k H locs ls hP hS hl r μ1 ho)
  · have hj : (x.toInt - lo).toNat < tags.length := by omega
    have hq : tags[(x.toInt - lo).toNat]? = some tags[(x.toInt - lo).toNat] := List.getElem?_eq_getElem hj
    generalize tags[(x.toInt - lo).toNat] = q at hq
    obtain ⟨a, b⟩ := tagj _ q hq
    have e1 : x_swt tags td x = q.2 := by
      refine x_swt_in tags _ q hq (Int32.toInt_inj.mp (by omega)) (fun i hi w hw hxw => ?_)
      have := (tagj i w hw).1
      rw [hxw] at hi
      omega
    rw [e1] at k
    exact lv_tableIn hC.1 hC.2.1 hdg (by omega) (by omega) b (by omega) (k H locs ls hP hS hl r μ1 ho)
theorem s_ldc (hC : x_C X Z p R s m c cc own nL cs sl n) {idx : Nat} {v : Int32} (hdg : decode cc pc = .ok (.ldc idx, 2)) (hk : x_in (.constant own idx v)) (k : Sm X I A Q p l e R s m args below meth c nL cs sl (pc + 2) lv (vI v :: st) μ o) : Sm X I A Q p l e R s m args below meth c nL cs sl pc lv st μ o :=
  fun H locs ls hP hS hl r μ1 ho => lv_ldc hC.1 hC.2.1 hC.2.2.2.1 (hC.2.2.2.2.1.2.2.at hk args) hdg (k H locs ls hP hS hl r μ1 ho)
theorem s_ldc2 (hC : x_C X Z p R s m c cc own nL cs sl n) {idx : Nat} {v : Int64} (hdg : decode cc pc = .ok (.ldc2_w idx, 3)) (hk : x_in (.constantLong own idx v)) (k : Sm X I A Q p l e R s m args below meth c nL cs sl (pc + 3) lv (vJ v :: st) μ o) : Sm X I A Q p l e R s m args below meth c nL cs sl pc lv st μ o :=
  fun H locs ls hP hS hl r μ1 ho => lv_ldc2 hC.1 hC.2.1 hC.2.2.2.1 (hC.2.2.2.2.1.2.2.at hk args) hdg (k H locs ls hP hS hl r μ1 ho)
theorem s_ldcS (hC : x_C X Z p R s m c cc own nL cs sl n) {idx id : Nat} {tx : String} (hdg : decode cc pc = .ok (.ldc idx, 2)) (hk : (own, idx, tx, id) ∈ Z.2.2) (h0 : id ≠ 0) (k : Sm X I A Q p l e R s m args below meth c nL cs sl (pc + 2) lv (vR id :: st) μ o) : Sm X I A Q p l e R s m args below meth c nL cs sl pc lv st μ o := by
  intro H locs ls hP hS hl r μ1 ho
  have h2 := k H locs ls hP hS hl r μ1 ho
  have h2 : W p l e R s m args below meth c H locs cs sl (Q r μ1) (F0 m (pc + 2) ls (x_rv X id :: x_st X st)) := h2
  rw [x_rv_n X h0] at h2
  exact va_ldcS hC.1 hC.2.1 hC.2.2.2.1 (hC.2.2.2.2.1.2.1.2 _ hk) hdg h2
theorem s_max (hC : x_C X Z p R s m c cc own nL cs sl n) {idx : Nat} {x y : Int32} (hdg : decode cc pc = .ok (.invokestatic idx, 3)) (hl1 : x_in (.methodLink own idx Lib.Math.max.name)) (hl2 : x_in (.static Lib.Math.max.name)) (hl3 : x_in (.initialized "java/lang/Math")) (hl4 : x_in (.code Lib.Math.max.name Lib.Math.max.code 2 (some .int))) (hn : 1 ≤ n) (hst : (st.map x_cat).sum ≤ 51) (k : Sm X I A Q p l e R s m args below meth c nL cs sl (pc + 3) lv (vI (if x < y then y else x) :: st) μ o) : Sm X I A Q p l e R s m args below meth c nL cs sl pc lv (vI y :: vI x :: st) μ o := by
  intro H locs ls hP hS hl r μ1 ho
  have hw := fun {w} h => hC.2.2.2.2.1.2.2.at (w := w) h args
  obtain ⟨-, -, hml, -, -, -, r1, r2, r3, r4⟩ := id hC
  exact va_mmax hC.1 hC.2.1 (hml.trans hl.1.symm) hC.2.2.2.1 (hw hl1) (hw hl2) (hw hl3) (hw hl4) (by omega) (by rw [x_st_sum]; omega) r3 r4 hdg (k H locs ls hP hS hl r μ1 ho)
theorem s_min (hC : x_C X Z p R s m c cc own nL cs sl n) {idx : Nat} {x y : Int32} (hdg : decode cc pc = .ok (.invokestatic idx, 3)) (hl1 : x_in (.methodLink own idx Lib.Math.min.name)) (hl2 : x_in (.static Lib.Math.min.name)) (hl3 : x_in (.initialized "java/lang/Math")) (hl4 : x_in (.code Lib.Math.min.name Lib.Math.min.code 2 (some .int))) (hn : 1 ≤ n) (hst : (st.map x_cat).sum ≤ 51) (k : Sm X I A Q p l e R s m args below meth c nL cs sl (pc + 3) lv (vI (if y < x then y else x) :: st) μ o) : Sm X I A Q p l e R s m args below meth c nL cs sl pc lv (vI y :: vI x :: st) μ o := by
  intro H locs ls hP hS hl r μ1 ho
  have hw := fun {w} h => hC.2.2.2.2.1.2.2.at (w := w) h args
  obtain ⟨-, -, hml, -, -, -, r1, r2, r3, r4⟩ := id hC
  exact va_mmin hC.1 hC.2.1 (hml.trans hl.1.symm) hC.2.2.2.1 (hw hl1) (hw hl2) (hw hl3) (hw hl4) (by omega) (by rw [x_st_sum]; omega) r3 r4 hdg (k H locs ls hP hS hl r μ1 ho)
end ENDS
def rkI (r : Int32) : List x_V := [vI r]
def rkJ (r : Int64) : List x_V := [vJ r]
def rkR (r : Nat) : List x_V := [vR r]
def rkV (_ : Unit) : List x_V := []
def x_Q {β : Type} (X : x_X) (rk : β → List x_V) (r : β) (μ : x_M) : Array Value → State → Outcome → State → Prop := fun _ st oc t =>
  oc = .returned (((rk r).map (x_v X)).head?) ∧ x_P X μ t t.heap ∧ va_F (x_A X) st t
/-- a method's contract: it does what o says -/
def x_Met {β : Type} (X : x_X) (Z : x_Zs) (l : Launch) (y : MethodName) (cc : ByteArray) (maxL : Nat) (ret : Option FieldType) (n : Nat) (avs : List x_V) (μ : x_M) (rk : β → List x_V) (o : Option (β × x_M)) : Prop :=
  ∀ (r : β) (μ' : x_M), o = some (r, μ') → Met l y [.code y cc maxL ret] (x_rm n) (va_Pc (avs.map (x_v X)) (x_H X Z μ)) (x_Q X rk r μ') 0 0 (x_A X)
/-- what Q is in a method -/
abbrev x_MQ {β : Type} (X : x_X) (rk : β → List x_V) (args : Array Value) (s : State) (below : List Frame) : β → x_M → State → Prop := fun r μ' => MQ below (x_Q X rk r μ') args s 0 0 (x_A X)
section CALL
variable {α β : Type} {X : x_X} {Z : x_Zs} {A : Nat → Prop} {Q : α → x_M → State → Prop} {p : Program} {l : Launch} {e : Env} {R : Room} {s : State} {m : MethodId} {args : Array Value} {below : List Frame} {meth : Method} {c : Code} {cc : ByteArray} {own : String} {nL cs sl n : Nat} {pc : Nat} {lv lv' : List (Nat × x_V)} {st : List x_V} {μ : x_M} {o : Option (α × x_M)}
theorem s_gets (hC : x_C X Z p R s m c cc own nL cs sl n) {idx id : Nat} {C nm d : String} {nest : Bool} (hdg : decode cc pc = .ok (.getstatic idx, 3)) (hz : (C, nm, d, id) ∈ Z.1) (hl : x_in (match nest with | true => Cond.fieldLinkNest own idx C nm d "LakeBooks" | false => Cond.fieldLink own idx C nm d)) (k : Sm X (x_PI X s) (x_A X) Q p l e R s m args below meth c nL cs sl (pc + 3) lv (vR id :: st) μ o) : Sm X (x_PI X s) (x_A X) Q p l e R s m args below meth c nL cs sl pc lv st μ o := by
  intro H locs ls hP hS hl' r μ1 ho
  have hw := hC.2.2.2.2.1.2.2.at hl args
  have hZ := hC.2.2.2.2.1.2.1.1.1 _ hz
  cases nest with
  | true => exact va_getsN hC.1 hC.2.1 hZ hS hC.2.2.2.1 hw (fun _ h => h) hdg (k H locs ls hP hS hl' r μ1 ho)
  | false => exact va_gets hC.1 hC.2.1 hZ hS hC.2.2.2.1 hw (fun _ h => h) hdg (k H locs ls hP hS hl' r μ1 ho)
theorem s_getsI (hC : x_C X Z p R s m c cc own nL cs sl n) {idx : Nat} {v : Int32} {C nm d : String} (hdg : decode cc pc = .ok (.getstatic idx, 3)) (hz : (C, nm, d, v) ∈ Z.2.1) (hl : x_in (.fieldLink own idx C nm d)) (k : Sm X (x_PI X s) (x_A X) Q p l e R s m args below meth c nL cs sl (pc + 3) lv (vI v :: st) μ o) : Sm X (x_PI X s) (x_A X) Q p l e R s m args below meth c nL cs sl pc lv st μ o := by
  intro H locs ls hP hS hl' r μ1 ho
  exact va_gets hC.1 hC.2.1 (hC.2.2.2.2.1.2.1.1.2 _ hz) hS hC.2.2.2.1 (hC.2.2.2.2.1.2.2.at hl args) (fun _ h => h) hdg (k H locs ls hP hS hl' r μ1 ho)
/-- behind a call -/
theorem x_back {β : Type} {rk : β → List x_V} {r : β} {μ2 : x_M} {a : Array Value} {H : Heap} {locs : List Loc} {ls : Array Slot} {st0 : List Value} {Q2 : State → Prop} (hr : va_Run p l e R s m args below meth c H locs cs sl 0 0 (F0 m pc ls st0) (x_st X st) (x_Q X rk r μ2 a) (x_A X)) (hlen : (rk r).length ≤ 1) (hS : va_S (x_A X) s.heap H locs)
    (kk : ∀ (H1 : Heap) (locs1 : List Loc), x_P X μ2 s H1 → va_S (x_A X) s.heap H1 locs1 → W p l e R s m args below meth c H1 locs1 cs sl Q2 (F0 m (pc + 3) ls (x_st X (rk r ++ st)))) : W p l e R s m args below meth c H locs cs sl Q2 (F0 m pc ls st0) := by
  intro T hT X'
  obtain ⟨v, st₀, t, T', L, h0, X2, hL, e1, e2, ⟨hv, hp, hz, hk⟩, stp⟩ := hr T hT X'
  rw [h0] at hz hk
  have hv' : v = ((rk r).map (x_v X)).head? := Outcome.returned.inj hv
  have al : s.vm.Alike t.vm := by rw [← e2]; exact X2.warmed.alike
  have k2 := kk T'.heap (locs ++ L) (by rw [e1]; exact hp.moved al.symm) ⟨Nat.le_trans hS.1 (by rw [e1]; exact hz), fun q h1 h2 => by rw [e1, hk q (Nat.lt_of_lt_of_le h1 hS.1) h2]; exact hS.2.1 q h1 h2, fun q hq => by
    rcases List.mem_append.mp hq with h | h
    · exact hS.2.2 q h
    · exact hL q h⟩ T' rfl X2
  obtain ⟨t2, a1, b1⟩ := k2
  refine ⟨t2, stp t2 ?_, b1⟩
  have hst : v.toList ++ x_st X st = x_st X (rk r ++ st) := by
    subst hv'
    match h : rk r, hlen with
    | [], _ => simp
    | [q], _ => simp
  rw [hst]
  exact a1
theorem x_pre {H : Heap} {locs : List Loc} {avs : List x_V} (hE : x_E X Z s s.heap) (hP : x_P X μ s H) (hS : va_S (x_A X) s.heap H locs) : ∀ U : State, U.heap = H → s.WarmedH U.vm → va_Pc (avs.map (x_v X)) (x_H X Z μ) (avs.map (x_v X)).toArray U :=
  fun U hU hW => ⟨rfl, by rw [hU]; exact hE.go hW (fun a h1 h2 => hS.2.1 a h1 h2), by rw [hU]; exact hP.moved hW.alike⟩
theorem x_word {y : MethodName} {cz : ByteArray} {mz : Nat} {retz : Option FieldType} (hE : x_E X Z s s.heap) (hcd : x_in (.code y cz mz retz)) : ∀ w ∈ [Cond.code y cz mz retz], ∀ (a' : Array Value) (U : State), s.WarmedH U.vm → w.before a' U = true := by
  intro w hw a' U hW
  rw [List.mem_singleton.mp hw]
  exact (hE.2.2.warm hW).at hcd a'
/-- a static method, of any class; nest: a private one of a nest mate -/
theorem s_callS {rk : β → List x_V} {K : β → x_M → Option (α × x_M)} (hC : x_C X Z p R s m c cc own nL cs sl n) {idx k mz : Nat} {y : MethodName} {cz : ByteArray} {retz : Option FieldType} {avs : List x_V} {oz : Option (β × x_M)} {nest : Bool} (hM : x_Met X Z l y cz mz retz k avs μ rk oz) (hdg : decode cc pc = .ok (.invokestatic idx, 3))
    (hl1 : x_in (match nest with | true => Cond.methodLinkNest own idx y "LakeBooks" | false => Cond.methodLink own idx y)) (hl2 : x_in (.static y)) (hl3 : x_in (.initialized y.cls)) (hl4 : x_in (.code y cz mz retz)) (hd : y.cls ≠ "java/lang/invoke/MethodHandle" ∧ y.cls ≠ "java/lang/invoke/VarHandle" ∧ (parseMethodDescriptor y.desc).map (fun d => d.parameters.length) = some avs.length) (hk : k + 1 ≤ n ∧ mz ≤ 45) (hrk : ∀ r : β, (rk r).length ≤ 1) (hst : (st.map x_cat).sum ≤ 8)
    (kk : ∀ (r : β) (μ1 : x_M), Sm X (x_PI X s) (x_A X) Q p l e R s m args below meth c nL cs sl (pc + 3) lv (rk r ++ st) μ1 (K r μ1)) : Sm X (x_PI X s) (x_A X) Q p l e R s m args below meth c nL cs sl pc lv (avs.reverse ++ st) μ (bd oz K) := by
  intro H locs ls hP hS hl r μ1 ho
  cases hoz : oz with
  | none => rw [hoz] at ho; cases ho
  | some q =>
    obtain ⟨rz, μz⟩ := q
    rw [hoz] at ho
    obtain ⟨hx, hb, hml, hown, hE, hI, r1, r2, r3, r4⟩ := id hC
    have hw := fun {w} h => hE.2.2.at (w := w) h args
    have hrun : va_Run p l e R s m args below meth c H locs cs sl 0 0 (F0 m pc ls (x_st X (avs.reverse ++ st))) (x_st X st) (x_Q X rk rz μz (avs.map (x_v X)).toArray) (x_A X) := by
      have hlen : ∀ sig, parseMethodDescriptor y.desc = some sig → avs.length = sig.parameters.length := by
        intro sig h
        have h2 := hd.2.2
        rw [h] at h2
        exact (Option.some.inj h2).symm
      cases nest with
      | true => exact va_runSN (Ts := []) (n := avs.length) ⟨hx, hb, hml, hown, fun w h => by cases h⟩ (hM rz μz hoz) ⟨⟨⟨rfl, rfl, by show k + 1 ≤ R.frames; omega, by show 8 + (mz + 11) + 64 * k ≤ R.locals; omega, x_word hE hl4, List.mem_cons_self⟩, hw hl4, hw hl3, ⟨hd.1, hd.2.1⟩, hlen, hw hl1⟩, hw hl2, trivial⟩ ⟨x_H.blind, x_pre hE hP hS⟩ rfl (by simp) hl.1 (by simp [x_st]) (by rw [show 2 * (F0 m pc ls (x_st X (avs.reverse ++ st))).monitorRoom = 0 from rfl, x_st_sum]; omega) hdg ⟨r3, r4⟩
      | false => exact va_runS (Ts := []) (n := avs.length) ⟨hx, hb, hml, hown, fun w h => by cases h⟩ (hM rz μz hoz) ⟨⟨rfl, rfl, by show k + 1 ≤ R.frames; omega, by show 8 + (mz + 11) + 64 * k ≤ R.locals; omega, x_word hE hl4, List.mem_cons_self, hw hl4, hw hl3, ⟨hd.1, hd.2.1⟩, hlen, hw hl1⟩, hw hl2⟩ ⟨x_H.blind, x_pre hE hP hS⟩ rfl (by simp) hl.1 (by simp [x_st]) (by rw [show 2 * (F0 m pc ls (x_st X (avs.reverse ++ st))).monitorRoom = 0 from rfl, x_st_sum]; omega) hdg ⟨r3, r4⟩
    exact x_back hrun (hrk rz) hS (fun H1 locs1 hP1 hS1 => kk rz μz H1 locs1 ls hP1 hS1 hl r μ1 ho)
/-- an instance method of a class of ours -/
theorem s_callV {rk : β → List x_V} {K : β → x_M → Option (α × x_M)} (hC : x_C X Z p R s m c cc own nL cs sl n) {idx k mz ci N x : Nat} {C : String} {T : u_T} {y : MethodName} {cz : ByteArray} {retz : Option FieldType} {avs : List x_V} {oz : Option (β × x_M)} {nest : Bool} (hcl : x_Cls ci C T N) (hM : x_Met X Z l y cz mz retz k (vR x :: avs) μ rk oz) (hdg : decode cc pc = .ok (.invokevirtual idx, 3))
    (hl1 : x_in (match nest with | true => Cond.methodLinkNest own idx y "LakeBooks" | false => Cond.methodLink own idx y)) (hl2 : x_in (.instanceMethod y)) (hl5 : x_in (.selects C y y)) (hl3 : x_in (.initialized y.cls)) (hl4 : x_in (.code y cz mz retz)) (hd : y.cls ≠ "java/lang/invoke/MethodHandle" ∧ y.cls ≠ "java/lang/invoke/VarHandle" ∧ (parseMethodDescriptor y.desc).map (fun d => d.parameters.length) = some avs.length) (hk : k + 1 ≤ n ∧ mz ≤ 45) (hrk : ∀ r : β, (rk r).length ≤ 1) (hst : (st.map x_cat).sum ≤ 8)
    (kk : ∀ (r : β) (μ1 : x_M), Sm X (x_PI X s) (x_A X) Q p l e R s m args below meth c nL cs sl (pc + 3) lv (rk r ++ st) μ1 (K r μ1)) : Sm X (x_PI X s) (x_A X) Q p l e R s m args below meth c nL cs sl pc lv (avs.reverse ++ vR x :: st) μ (ck (x_kd X x = ci + 1) (bd oz K)) := by
  intro H locs ls hP hS hl r μ1 ho
  unfold ck at ho
  by_cases hx0 : x_kd X x = ci + 1
  · rw [if_pos hx0] at ho
    cases hoz : oz with
    | none => rw [hoz] at ho; cases ho
    | some q =>
      obtain ⟨rz, μz⟩ := q
      rw [hoz] at ho
      obtain ⟨hx, hb, hml, hown, hE, hI, r1, r2, r3, r4⟩ := id hC
      have hw := fun {w} h => hE.2.2.at (w := w) h args
      have h0 : x ≠ 0 := fun z => by rw [z, hI.1] at hx0; omega
      obtain ⟨cell, cC, kC, q1, q2, q3, q4, q5, hfc, -⟩ := x_obj (args := args) hE hP hcl hx0
      have hM' : Met l y [.code y cz mz retz] (x_rm k) (va_Pc (((vR x :: avs).map (x_v X))) (x_H X Z μ)) (x_Q X rk rz μz) 0 0 (x_A X) := hM rz μz hoz
      have eA : (vR x :: avs).map (x_v X) = Value.ref (x_ad X x) :: avs.map (x_v X) := by
        show x_rv X x :: avs.map (x_v X) = _
        rw [x_rv_n X h0]
      have hpre : ∀ U : State, U.heap = H → s.WarmedH U.vm → va_Pc ((vR x :: avs).map (x_v X)) (x_H X Z μ) (Value.ref (x_ad X x) :: avs.map (x_v X)).toArray U := by
        rw [← eA]; exact x_pre hE hP hS
      have est : x_st X (avs.reverse ++ vR x :: st) = (avs.map (x_v X)).reverse ++ .ref (x_ad X x) :: x_st X st := by
        have : x_v X (vR x) = .ref (x_ad X x) := x_rv_n X h0
        simp [x_st, this]
      have hlen : ∀ sig, parseMethodDescriptor y.desc = some sig → avs.length = sig.parameters.length := by
        intro sig h
        have h2 := hd.2.2
        rw [h] at h2
        exact (Option.some.inj h2).symm
      have hrun : va_Run p l e R s m args below meth c H locs cs sl 0 0 (F0 m pc ls (x_st X (avs.reverse ++ vR x :: st))) (x_st X st) (x_Q X rk rz μz (Value.ref (x_ad X x) :: avs.map (x_v X)).toArray) (x_A X) := by
        cases nest with
        | true => exact va_runVN (C := C) (Ts := []) (n := avs.length) ⟨hx, hb, hml, hown, fun w h => by cases h⟩ hM' ⟨⟨⟨rfl, rfl, by show k + 1 ≤ R.frames; omega, by show 8 + (mz + 11) + 64 * k ≤ R.locals; omega, x_word hE hl4, List.mem_cons_self⟩, hw hl4, hw hl3, ⟨hd.1, hd.2.1⟩, hlen, hw hl1⟩, hw hl2, hw hl5⟩ ⟨x_H.blind, ⟨cell, q1, by rw [q3]; rfl, by rw [q2, q5]; exact hfc⟩, hpre⟩ rfl (by simp) hl.1 est (by rw [show 2 * (F0 m pc ls (x_st X (avs.reverse ++ vR x :: st))).monitorRoom = 0 from rfl, x_st_sum]; omega) hdg ⟨r3, r4⟩
        | false => exact va_runV (C := C) (Ts := []) (n := avs.length) ⟨hx, hb, hml, hown, fun w h => by cases h⟩ hM' ⟨⟨rfl, rfl, by show k + 1 ≤ R.frames; omega, by show 8 + (mz + 11) + 64 * k ≤ R.locals; omega, x_word hE hl4, List.mem_cons_self, hw hl4, hw hl3, ⟨hd.1, hd.2.1⟩, hlen, hw hl1⟩, hw hl2, hw hl5⟩ ⟨x_H.blind, ⟨cell, q1, by rw [q3]; rfl, by rw [q2, q5]; exact hfc⟩, hpre⟩ rfl (by simp) hl.1 est (by rw [show 2 * (F0 m pc ls (x_st X (avs.reverse ++ vR x :: st))).monitorRoom = 0 from rfl, x_st_sum]; omega) hdg ⟨r3, r4⟩
      exact x_back hrun (hrk rz) hS (fun H1 locs1 hP1 hS1 => kk rz μz H1 locs1 ls hP1 hS1 hl r μ1 ho)
  · rw [if_neg hx0] at ho; cases ho
end CALL
end
section
/-! ===== a method's entry and its returns ===== -/
def x_ar : Nat → List x_V → List (Nat × x_V)
  | _, [] => []
  | k, v :: vs => (k, v) :: x_ar (if x_cat v = 2 then k + 2 else k + 1) vs
theorem x_ar_lv (X : x_X) : ∀ (avs : List x_V) (k : Nat), lv_args k (avs.map (x_v X)) = x_lv X (x_ar k avs)
  | [], _ => rfl
  | v :: vs, k => by
    show (k, x_v X v) :: lv_args (if (x_v X v).category = 2 then k + 2 else k + 1) (vs.map (x_v X)) = (k, x_v X v) :: x_lv X (x_ar (if x_cat v = 2 then k + 2 else k + 1) vs)
    rw [x_v_cat, x_ar_lv X vs]
theorem x_sl_len (X : x_X) : ∀ avs : List x_V, (lg_sl (avs.map (x_v X))).length = (avs.map x_cat).sum
  | [] => rfl
  | v :: vs => by
    have ih := x_sl_len X vs
    unfold lg_sl at ih ⊢
    rw [List.map_cons, List.flatMap_cons, List.length_append, ih, List.map_cons, List.sum_cons]
    congr 1
    rw [x_v_cat]
    rcases v with x | n | z <;> rfl
/-- a body gives a contract, also where the class has other methods that the machine runs itself -/
theorem x_ofW {l : Launch} {y : MethodName} {ws ws' : List Cond} {rm : Room} {Pc : Array Value → State → Prop} {Qc : Array Value → State → Outcome → State → Prop} {mc ms : Nat} {free : Addr → Prop} {cc : ByteArray} {maxL : Nat} {ret : Option FieldType}
    (hy : plainFor y = true) (hw : ws = Cond.code y cc maxL ret :: ws')
    (body : ∀ p e s m args below meth c s₁, BodyLoose p l y (headSpec ws rm) cc maxL ret e s m args below meth c s₁ → c.maxLocals = maxL → Pc args s →
      W p l e (headSpec ws rm).room s m args below meth c s.heap [] 0 0 (MQ below Qc args s mc ms free) (entryFrame m args maxL)) : Met l y ws rm Pc Qc mc ms free := by
  refine MetFree.of_bodySF (code := cc) (maxLocals := maxL) (ret := ret) hy ?_ ?_
  · intro args s m h hn
    obtain ⟨meth, c, h1, h2, h3, h4, h5, h6, -, -⟩ := Cond.code_spec hn (atoms_spec (ws := ws) h _ (by rw [hw]; exact List.mem_cons_self))
    exact ⟨meth, c, h1, h2, h3, h4, h5, h6⟩
  · intro p e s m args below meth c s₁ B hml hP _
    have hh0 : s₁.heap = s.heap := by rw [B.state]; rfl
    obtain ⟨t, a1, o, b1, b2, b3⟩ := body p e s m args below meth c s₁ B hml hP s₁ hh0 (Stand.of_body B)
    exact ⟨t, o, a1, b1, b2, ⟨b3.1, b3.2⟩⟩
theorem x_enter {β : Type} {X : x_X} {Z : x_Zs} {l : Launch} {y : MethodName} {cc : ByteArray} {maxL n : Nat} {ret : Option FieldType} {avs : List x_V} {μ : x_M} {rk : β → List x_V} {o : Option (β × x_M)} (hI : x_I X) (hy : plainFor y = true) (hlen : (avs.map x_cat).sum ≤ maxL)
    (h : ∀ (p : Program) (e : Env) (s : State) (m : MethodId) (args : Array Value) (below : List Frame) (meth : Method) (c : Code), x_C X Z p (x_rm n) s m c cc y.cls maxL 0 0 n → meth.sig.returnType = ret → meth.locks = false → Sm X (x_PI X s) (x_A X) (x_MQ X rk args s below) p l e (x_rm n) s m args below meth c maxL 0 0 0 (x_ar 0 avs) [] μ o) : x_Met X Z l y cc maxL ret n avs μ rk o := by
  intro r μ' ho
  refine x_ofW (cc := cc) (maxL := maxL) (ret := ret) hy rfl ?_
  intro p e s m args below meth c s₁ B hml hv
  obtain ⟨rfl, hE, hP⟩ := hv
  have k := h p e s m (avs.map (x_v X)).toArray below meth c ⟨B.exec, B.bytes, hml, findClass_of_methodNamed B.named, hE, hI, Nat.le_refl _, Nat.le_refl _, Nat.le_refl _, Nat.le_refl _⟩ B.returns B.notSynchronized s.heap [] _ hP va_S.rf (by rw [← x_ar_lv]; exact lv_entry (avs.map (x_v X)) (by rw [x_sl_len]; exact hlen)) r μ' ho
  rw [lg_entry_eq]
  exact k
section RET
variable {X : x_X} {Z : x_Zs} {p : Program} {l : Launch} {e : Env} {R : Room} {s : State} {m : MethodId} {args : Array Value} {below : List Frame} {meth : Method} {c : Code} {cc : ByteArray} {own : String} {nL n : Nat} {pc : Nat} {lv lv' : List (Nat × x_V)} {st : List x_V} {μ : x_M}
theorem s_iret (hC : x_C X Z p R s m c cc own nL 0 0 n) (hr : meth.sig.returnType = some .int) (hlk : meth.locks = false) {v : Int32} (hdg : decode cc pc = .ok (.ireturn, 1)) : Sm X (x_PI X s) (x_A X) (x_MQ X rkI args s below) p l e R s m args below meth c nL 0 0 pc lv [vI v] μ (some (v, μ)) := by
  intro H locs ls hP hS hl r μ1 ho
  cases ho
  exact W.iret (v := v) hC.1 hC.2.1 hr (fun t ht hW => ⟨rfl, by rw [ht]; exact hP.moved hW.alike, hS.F ht⟩) hS.2.2 hdg hlk
theorem s_zret (hC : x_C X Z p R s m c cc own nL 0 0 n) (hr : meth.sig.returnType = some .boolean) (hlk : meth.locks = false) {v : Int32} (hdg : decode cc pc = .ok (.ireturn, 1)) : Sm X (x_PI X s) (x_A X) (x_MQ X rkI args s below) p l e R s m args below meth c nL 0 0 pc lv [vI v] μ (ck (v = 0 ∨ v = 1) (some (v, μ))) := by
  intro H locs ls hP hS hl r μ1 ho
  unfold ck at ho
  by_cases hv : v = 0 ∨ v = 1
  · rw [if_pos hv] at ho
    cases ho
    exact W.zret (v := v) hC.1 hC.2.1 hr (by rcases hv with rfl | rfl <;> rfl) (fun t ht hW => ⟨rfl, by rw [ht]; exact hP.moved hW.alike, hS.F ht⟩) hS.2.2 hdg hlk
  · rw [if_neg hv] at ho; cases ho
theorem s_bret (hC : x_C X Z p R s m c cc own nL 0 0 n) (hr : meth.sig.returnType = some .byte) (hlk : meth.locks = false) {v : Int32} (hdg : decode cc pc = .ok (.ireturn, 1)) : Sm X (x_PI X s) (x_A X) (x_MQ X rkI args s below) p l e R s m args below meth c nL 0 0 pc lv [vI v] μ (ck (v.toInt8.toInt32 = v) (some (v, μ))) := by
  intro H locs ls hP hS hl r μ1 ho
  unfold ck at ho
  by_cases hv : v.toInt8.toInt32 = v
  · rw [if_pos hv] at ho
    cases ho
    exact W.zret (v := v) hC.1 hC.2.1 hr (by rw [← hv]; exact pk_nb _) (fun t ht hW => ⟨rfl, by rw [ht]; exact hP.moved hW.alike, hS.F ht⟩) hS.2.2 hdg hlk
  · rw [if_neg hv] at ho; cases ho
theorem s_cret (hC : x_C X Z p R s m c cc own nL 0 0 n) (hr : meth.sig.returnType = some .char) (hlk : meth.locks = false) {v : Int32} (hdg : decode cc pc = .ok (.ireturn, 1)) : Sm X (x_PI X s) (x_A X) (x_MQ X rkI args s below) p l e R s m args below meth c nL 0 0 pc lv [vI v] μ (ck ((v.toUInt32 % 65536).toInt32 = v) (some (v, μ))) := by
  intro H locs ls hP hS hl r μ1 ho
  unfold ck at ho
  by_cases hv : (v.toUInt32 % 65536).toInt32 = v
  · rw [if_pos hv] at ho
    cases ho
    exact W.zret (v := v) hC.1 hC.2.1 hr (by rw [← hv]; exact pk_nc _) (fun t ht hW => ⟨rfl, by rw [ht]; exact hP.moved hW.alike, hS.F ht⟩) hS.2.2 hdg hlk
  · rw [if_neg hv] at ho; cases ho
theorem s_lret (hC : x_C X Z p R s m c cc own nL 0 0 n) (hr : meth.sig.returnType = some .long) (hlk : meth.locks = false) {v : Int64} (hdg : decode cc pc = .ok (.lreturn, 1)) : Sm X (x_PI X s) (x_A X) (x_MQ X rkJ args s below) p l e R s m args below meth c nL 0 0 pc lv [vJ v] μ (some (v, μ)) := by
  intro H locs ls hP hS hl r μ1 ho
  cases ho
  exact W.lret (v := v) hC.1 hC.2.1 hr (fun t ht hW => ⟨rfl, by rw [ht]; exact hP.moved hW.alike, hS.F ht⟩) hS.2.2 hdg hlk
theorem s_vret (hC : x_C X Z p R s m c cc own nL 0 0 n) (hr : meth.sig.returnType = none) (hlk : meth.locks = false) (hdg : decode cc pc = .ok (.return_, 1)) : Sm X (x_PI X s) (x_A X) (x_MQ X rkV args s below) p l e R s m args below meth c nL 0 0 pc lv [] μ (some ((), μ)) := by
  intro H locs ls hP hS hl r μ1 ho
  cases ho
  exact W.vret hC.1 hC.2.1 hr (fun t ht hW => ⟨rfl, by rw [ht]; exact hP.moved hW.alike, hS.F ht⟩) hS.2.2 hdg hlk
theorem s_aret (hC : x_C X Z p R s m c cc own nL 0 0 n) {rt : FieldType} (hr : meth.sig.returnType = some rt) (hrt : (∃ k, rt = .object k) ∨ ∃ t, rt = .array t) (hlk : meth.locks = false) {v : Nat} (hdg : decode cc pc = .ok (.areturn, 1)) : Sm X (x_PI X s) (x_A X) (x_MQ X rkR args s below) p l e R s m args below meth c nL 0 0 pc lv [vR v] μ (some (v, μ)) := by
  intro H locs ls hP hS hl r μ1 ho
  cases ho
  have hv : x_rv X v = .null ∨ ∃ a, x_rv X v = .ref a := by
    by_cases h0 : v = 0
    · exact Or.inl (by rw [h0]; rfl)
    · exact Or.inr ⟨_, x_rv_n X h0⟩
  exact W.aret (v := x_rv X v) hC.1 hC.2.1 hr hrt hv (fun t ht hW => ⟨rfl, by rw [ht]; exact hP.moved hW.alike, hS.F ht⟩) hS.2.2 hdg hlk
end RET
end
section
/-! ===== further rows; the classes ===== -/
def x_Z0 : x_Zs := ([("LakeBooks", "ABOVE", "[I", 801), ("LakeBooks$Acts", "BODIES", "[I", 802), ("jdk/internal/util/Preconditions", "SIOOBE_FORMATTER", "Ljava/util/function/BiFunction;", 803)], [("java/lang/String", "COMPACT_STRINGS", "Z", 1)], [(RX5, 53, "spring", 811), (RX5, 55, "sun", 812), (RX5, 57, "mark", 813), (RX5, 59, "floor", 814), (RX5, 61, "rate", 815), (RX5, 103, "dmlakb", 816), (RX5, 108, "<=>", 817)])
abbrev SM {α : Type} (X : x_X) (nL lev : Nat) (rk : α → List x_V) (p : Program) (l : Launch) (e : Env) (s : State) (m : MethodId) (args : Array Value) (below : List Frame) (meth : Method) (c : Code) (pc : Nat) (lv : List (Nat × x_V)) (st : List x_V) (μ : x_M) (o : Option (α × x_M)) : Prop := Sm X (x_PI X s) (x_A X) (x_MQ X rk args s below) p l e (x_rm lev) s m args below meth c nL 0 0 pc lv st μ o
section MORE
variable {τ α β : Type} {X : x_X} {Z : x_Zs} {I : τ → Heap → Prop} {A : Nat → Prop} {Q : α → τ → State → Prop} {p : Program} {l : Launch} {e : Env} {R : Room} {s : State} {m : MethodId} {args : Array Value} {below : List Frame} {meth : Method} {c : Code} {cc : ByteArray} {own : String} {nL cs sl n : Nat} {pc : Nat} {lv lv' : List (Nat × x_V)} {st : List x_V} {μ : τ} {o : Option (α × τ)}
theorem s_none : Sm X I A Q p l e R s m args below meth c nL cs sl pc lv st μ none := fun H locs ls hP hS hl r μ1 ho => by cases ho
theorem s_ltI2 {q : x_V} {v : Int32} {K : Int32 → Option (α × τ)} (kk : ∀ x : Int32, Sm X I A Q p l e R s m args below meth c nL cs sl pc lv (q :: vI x :: st) μ (K x)) : Sm X I A Q p l e R s m args below meth c nL cs sl pc lv (q :: vI v :: st) μ (lt v K) := kk v
theorem s_ldc_w (hC : x_C X Z p R s m c cc own nL cs sl n) {idx : Nat} {v : Int32} (hdg : decode cc pc = .ok (.ldc_w idx, 3)) (hk : x_in (.constant own idx v)) (k : Sm X I A Q p l e R s m args below meth c nL cs sl (pc + 3) lv (vI v :: st) μ o) : Sm X I A Q p l e R s m args below meth c nL cs sl pc lv st μ o :=
  fun H locs ls hP hS hl r μ1 ho => lv_ldcw hC.1 hC.2.1 hC.2.2.2.1 (hC.2.2.2.2.1.2.2.at hk args) hdg (k H locs ls hP hS hl r μ1 ho)
theorem s_ishr (hC : x_C X Z p R s m c cc own nL cs sl n) {x y : Int32} (hdg : decode cc pc = .ok (.ishr, 1)) (k : Sm X I A Q p l e R s m args below meth c nL cs sl (pc + 1) lv (vI (x >>> (y &&& 31)) :: st) μ o) : Sm X I A Q p l e R s m args below meth c nL cs sl pc lv (vI y :: vI x :: st) μ o :=
  fun H locs ls hP hS hl r μ1 ho => lv_ishr hC.1 hC.2.1 hdg (k H locs ls hP hS hl r μ1 ho)
theorem s_iushr (hC : x_C X Z p R s m c cc own nL cs sl n) {x y : Int32} (hdg : decode cc pc = .ok (.iushr, 1)) (k : Sm X I A Q p l e R s m args below meth c nL cs sl (pc + 1) lv (vI (x.toUInt32 >>> (y.toUInt32 &&& Int32.toUInt32 31)).toInt32 :: st) μ o) : Sm X I A Q p l e R s m args below meth c nL cs sl pc lv (vI y :: vI x :: st) μ o :=
  fun H locs ls hP hS hl r μ1 ho => lv_iushr hC.1 hC.2.1 hdg rfl (k H locs ls hP hS hl r μ1 ho)
end MORE
section STR
variable {α β : Type} {X : x_X} {Z : x_Zs} {A : Nat → Prop} {Q : α → x_M → State → Prop} {p : Program} {l : Launch} {e : Env} {R : Room} {s : State} {m : MethodId} {args : Array Value} {below : List Frame} {meth : Method} {c : Code} {cc : ByteArray} {own : String} {nL cs sl n : Nat} {pc : Nat} {lv lv' : List (Nat × x_V)} {st : List x_V} {μ : x_M} {o : Option (α × x_M)}
theorem s_gval (hC : x_C X Z p R s m c cc own nL cs sl n) {x idx : Nat} (hl1 : x_in (.fieldLink own idx "java/lang/String" "value" "[B")) (hdg : decode cc pc = .ok (.getfield idx, 3)) (kk : Sm X (x_PI X s) A Q p l e R s m args below meth c nL cs sl (pc + 3) lv (vR (μ.2.1 x 1) :: st) μ o) : Sm X (x_PI X s) A Q p l e R s m args below meth c nL cs sl pc lv (vR x :: st) μ (ck (x_kd X x = 50) o) := by
  intro H locs ls hP hS hl r μ1 ho
  unfold ck at ho
  by_cases hx : x_kd X x = 50
  · rw [if_pos hx] at ho
    have h0 : x ≠ 0 := x_n0 hC (by omega)
    have h2 := kk H locs ls hP hS hl r μ1 ho
    obtain ⟨cf, k, i, f, cell, hi, hst, hcell, hkn, hsl, -⟩ := ((hP x).2.2.2.2.2.2.2 hx).2.2
    show W p l e R s m args below meth c H locs cs sl (Q r μ1) (F0 m pc ls (x_rv X x :: x_st X st))
    rw [x_rv_n X h0]
    exact W.getf hC.1 hC.2.1 hC.2.2.2.1 (hC.2.2.2.2.1.2.2.at hl1 args) hi hst hcell hkn hsl rfl rfl hdg h2
  · rw [if_neg hx] at ho; cases ho
theorem s_gcod (hC : x_C X Z p R s m c cc own nL cs sl n) {x idx : Nat} (hl1 : x_in (.fieldLink own idx "java/lang/String" "coder" "B")) (hdg : decode cc pc = .ok (.getfield idx, 3)) (kk : Sm X (x_PI X s) A Q p l e R s m args below meth c nL cs sl (pc + 3) lv (vI (μ.1 x 0) :: st) μ o) : Sm X (x_PI X s) A Q p l e R s m args below meth c nL cs sl pc lv (vR x :: st) μ (ck (x_kd X x = 50) o) := by
  intro H locs ls hP hS hl r μ1 ho
  unfold ck at ho
  by_cases hx : x_kd X x = 50
  · rw [if_pos hx] at ho
    have h0 : x ≠ 0 := x_n0 hC (by omega)
    have h2 := kk H locs ls hP hS hl r μ1 ho
    obtain ⟨cf, k, i, f, cell, hi, hst, hcell, hkn, hsl, -⟩ := ((hP x).2.2.2.2.2.2.2 hx).2.1
    show W p l e R s m args below meth c H locs cs sl (Q r μ1) (F0 m pc ls (x_rv X x :: x_st X st))
    rw [x_rv_n X h0]
    exact W.getf hC.1 hC.2.1 hC.2.2.2.1 (hC.2.2.2.2.1.2.2.at hl1 args) hi hst hcell hkn hsl rfl rfl hdg h2
  · rw [if_neg hx] at ho; cases ho
/-- a method of String -/
theorem s_callStr {rk : β → List x_V} {K : β → x_M → Option (α × x_M)} (hC : x_C X Z p R s m c cc own nL cs sl n) {idx k mz x : Nat} {y : MethodName} {cz : ByteArray} {retz : Option FieldType} {avs : List x_V} {oz : Option (β × x_M)} {nest : Bool} (hM : x_Met X Z l y cz mz retz k (vR x :: avs) μ rk oz) (hdg : decode cc pc = .ok (.invokevirtual idx, 3))
    (hl1 : x_in (match nest with | true => Cond.methodLinkNest own idx y "LakeBooks" | false => Cond.methodLink own idx y)) (hl2 : x_in (.instanceMethod y)) (hl5 : x_in (.selects "java/lang/String" y y)) (hl3 : x_in (.initialized y.cls)) (hl4 : x_in (.code y cz mz retz)) (hd : y.cls ≠ "java/lang/invoke/MethodHandle" ∧ y.cls ≠ "java/lang/invoke/VarHandle" ∧ (parseMethodDescriptor y.desc).map (fun d => d.parameters.length) = some avs.length) (hk : k + 1 ≤ n ∧ mz ≤ 45) (hrk : ∀ r : β, (rk r).length ≤ 1) (hst : (st.map x_cat).sum ≤ 8)
    (kk : ∀ (r : β) (μ1 : x_M), Sm X (x_PI X s) (x_A X) Q p l e R s m args below meth c nL cs sl (pc + 3) lv (rk r ++ st) μ1 (K r μ1)) : Sm X (x_PI X s) (x_A X) Q p l e R s m args below meth c nL cs sl pc lv (avs.reverse ++ vR x :: st) μ (ck (x_kd X x = 50) (bd oz K)) := by
  intro H locs ls hP hS hl r μ1 ho
  unfold ck at ho
  by_cases hx0 : x_kd X x = 50
  · rw [if_pos hx0] at ho
    cases hoz : oz with
    | none => rw [hoz] at ho; cases ho
    | some q =>
      obtain ⟨rz, μz⟩ := q
      rw [hoz] at ho
      obtain ⟨hx, hb, hml, hown, hE, hI, r1, r2, r3, r4⟩ := id hC
      have hw := fun {w} h => hE.2.2.at (w := w) h args
      have h0 : x ≠ 0 := fun z => by rw [z, hI.1] at hx0; omega
      obtain ⟨cell, q1, q2, q3, -⟩ := ((hP x).2.2.2.2.2.2.2 hx0).1
      have hM' : Met l y [.code y cz mz retz] (x_rm k) (va_Pc (((vR x :: avs).map (x_v X))) (x_H X Z μ)) (x_Q X rk rz μz) 0 0 (x_A X) := hM rz μz hoz
      have eA : (vR x :: avs).map (x_v X) = Value.ref (x_ad X x) :: avs.map (x_v X) := by
        show x_rv X x :: avs.map (x_v X) = _
        rw [x_rv_n X h0]
      have hpre : ∀ U : State, U.heap = H → s.WarmedH U.vm → va_Pc ((vR x :: avs).map (x_v X)) (x_H X Z μ) (Value.ref (x_ad X x) :: avs.map (x_v X)).toArray U := by
        rw [← eA]; exact x_pre hE hP hS
      have est : x_st X (avs.reverse ++ vR x :: st) = (avs.map (x_v X)).reverse ++ .ref (x_ad X x) :: x_st X st := by
        have : x_v X (vR x) = .ref (x_ad X x) := x_rv_n X h0
        simp [x_st, this]
      have hlen : ∀ sig, parseMethodDescriptor y.desc = some sig → avs.length = sig.parameters.length := by
        intro sig h
        have h2 := hd.2.2
        rw [h] at h2
        exact (Option.some.inj h2).symm
      have hrun : va_Run p l e R s m args below meth c H locs cs sl 0 0 (F0 m pc ls (x_st X (avs.reverse ++ vR x :: st))) (x_st X st) (x_Q X rk rz μz (Value.ref (x_ad X x) :: avs.map (x_v X)).toArray) (x_A X) := by
        cases nest with
        | true => exact va_runVN (C := "java/lang/String") (Ts := []) (n := avs.length) ⟨hx, hb, hml, hown, fun w h => by cases h⟩ hM' ⟨⟨⟨rfl, rfl, by show k + 1 ≤ R.frames; omega, by show 8 + (mz + 11) + 64 * k ≤ R.locals; omega, x_word hE hl4, List.mem_cons_self⟩, hw hl4, hw hl3, ⟨hd.1, hd.2.1⟩, hlen, hw hl1⟩, hw hl2, hw hl5⟩ ⟨x_H.blind, ⟨cell, q1, q2, q3⟩, hpre⟩ rfl (by simp) hl.1 est (by rw [show 2 * (F0 m pc ls (x_st X (avs.reverse ++ vR x :: st))).monitorRoom = 0 from rfl, x_st_sum]; omega) hdg ⟨r3, r4⟩
        | false => exact va_runV (C := "java/lang/String") (Ts := []) (n := avs.length) ⟨hx, hb, hml, hown, fun w h => by cases h⟩ hM' ⟨⟨rfl, rfl, by show k + 1 ≤ R.frames; omega, by show 8 + (mz + 11) + 64 * k ≤ R.locals; omega, x_word hE hl4, List.mem_cons_self, hw hl4, hw hl3, ⟨hd.1, hd.2.1⟩, hlen, hw hl1⟩, hw hl2, hw hl5⟩ ⟨x_H.blind, ⟨cell, q1, q2, q3⟩, hpre⟩ rfl (by simp) hl.1 est (by rw [show 2 * (F0 m pc ls (x_st X (avs.reverse ++ vR x :: st))).monitorRoom = 0 from rfl, x_st_sum]; omega) hdg ⟨r3, r4⟩
      exact x_back hrun (hrk rz) hS (fun H1 locs1 hP1 hS1 => kk rz μz H1 locs1 ls hP1 hS1 hl r μ1 ho)
  · rw [if_neg hx0] at ho; cases ho
abbrev x_cpok (X : x_X) (o0 : Nat) (sp : Int32) (o1 : Nat) (dp n : Int32) : Prop := x_kd X o0 = 21 ∧ x_kd X o1 = 21 ∧ ¬ sp < 0 ∧ ¬ dp < 0 ∧ ¬ n < 0 ∧ sp.toNatClampNeg + n.toNatClampNeg ≤ x_ln X o0 ∧ dp.toNatClampNeg + n.toNatClampNeg ≤ x_ln X o1
def x_cp (μ : x_M) (o0 : Nat) (sp : Int32) (o1 : Nat) (dp n : Int32) : x_M := (μ.1, μ.2.1, fun q => if q = o1 then va_cpy (μ.2.2 o0) (μ.2.2 o1) sp.toNatClampNeg dp.toNatClampNeg n.toNatClampNeg else μ.2.2 q)
theorem s_acopy (hC : x_C X Z p R s m c cc own nL cs sl n) {idx o0 o1 : Nat} {sp dp k : Int32} (hdg : decode cc pc = .ok (.invokestatic idx, 3)) (hl1 : x_in (.methodLink own idx arraycopyName)) (hl2 : x_in (.native arraycopyName)) (hl3 : x_in (.static arraycopyName)) (hl4 : x_in (.initialized "java/lang/System")) (hn : 1 ≤ n) (hst : (st.map x_cat).sum ≤ 8)
    (kk : Sm X (x_PI X s) (x_A X) Q p l e R s m args below meth c nL cs sl (pc + 3) lv st (x_cp μ o0 sp o1 dp k) o) : Sm X (x_PI X s) (x_A X) Q p l e R s m args below meth c nL cs sl pc lv (vI k :: vI dp :: vR o1 :: vI sp :: vR o0 :: st) μ (ck (x_cpok X o0 sp o1 dp k) o) := by
  intro H locs ls hP hS hl r μ1 ho
  unfold ck at ho
  by_cases hx : x_cpok X o0 sp o1 dp k
  · rw [if_pos hx] at ho
    obtain ⟨k0, k1, h1, h2, h3, h4, h5⟩ := hx
    have z0 : o0 ≠ 0 := x_n0 hC (by omega)
    have z1 : o1 ≠ 0 := x_n0 hC (by omega)
    have hw := fun {w} h => hC.2.2.2.2.1.2.2.at (w := w) h args
    obtain ⟨hexec, hb, hml, hown, hE, hI, r1, r2, r3, r4⟩ := id hC
    show W p l e R s m args below meth c H locs cs sl (Q r μ1) (F0 m pc ls (.int k :: .int dp :: x_rv X o1 :: .int sp :: x_rv X o0 :: x_st X st))
    rw [x_rv_n X z0, x_rv_n X z1]
    have nn : ∀ z : Int32, ¬ z < 0 → z.toInt = (z.toNatClampNeg : Int) := by
      intro z hz
      have hz0 : (0 : Int) ≤ z.toInt := by
        have := Int32.not_lt.mp hz
        simpa using Int32.le_iff_toInt_le.mp this
      show z.toInt = ((z.toInt.toNat : Nat) : Int)
      omega
    intro T hT X'
    have hc0 : H[x_ad X o0]? = some (vp_cell (x_cA X 21) (x_ln X o0, .inr (.inl (μ.2.2 o0)))) := (hP o0).2.2.1 k0
    have hc1 : H[x_ad X o1]? = some (vp_cell (x_cA X 21) (x_ln X o1, .inr (.inl (μ.2.2 o1)))) := (hP o1).2.2.1 k1
    obtain ⟨-, j0, hk0, cm0, hkk0⟩ := (hE.1.2 1 _ rfl).1 (x_ln X o0) (fun j => .long (μ.2.2 o0 j))
    obtain ⟨-, j1, hk1, cm1, hkk1⟩ := (hE.1.2 1 _ rfl).1 (x_ln X o1) (fun j => .long (μ.2.2 o1 j))
    have hnf : nativeFrameWords "java/lang/System" "arraycopy" 5 ≤ 40 := by decide
    obtain ⟨vm', X2, step⟩ := X'.arraycopy hexec hown (hw hl1) (hw hl2) (hw hl3) (hw hl4) (src := x_ad X o0) (dst := x_ad X o1) (cs := vp_cell (x_cA X 21) (x_ln X o0, .inr (.inl (μ.2.2 o0)))) (cd := vp_cell (x_cA X 21) (x_ln X o1, .inr (.inl (μ.2.2 o1)))) (srcPos := sp) (destPos := dp) (n := k) (by rw [hT]; exact hc0) (by rw [hT]; exact hc1)
      (fun _ h => by cases h) (fun _ h => by cases h) (fun h => by cases h) (fun h => by cases h) hk0 hk1 hkk0 hkk1 (by simp [refKind]) h1 h2 h3
      (by rw [nn sp h1, nn k h3]; show ¬ _ > ((arrV (x_cA X 21) (x_ln X o0) (fun j => .long (μ.2.2 o0 j))).slots.size : Int); rw [arrV_size]; omega)
      (by rw [nn dp h2, nn k h3]; show ¬ _ > ((arrV (x_cA X 21) (x_ln X o1) (fun j => .long (μ.2.2 o1 j))).slots.size : Int); rw [arrV_size]; omega)
      (fun vm₁ _ i hi => by
        have e : (vp_cell (x_cA X 21) (x_ln X o0, .inr (.inl (μ.2.2 o0)))).slots.getD (sp.toNatClampNeg + i) .null = .long (μ.2.2 o0 (sp.toNatClampNeg + i)) := by
          show (arrV (x_cA X 21) (x_ln X o0) (fun j => .long (μ.2.2 o0 j))).slots.getD _ _ = _
          rw [Array.getD_eq_getD_getElem?, arrV_read _ _ (by omega)]
          rfl
        refine ⟨?_, ?_⟩
        · rw [e]
          rfl
        · rw [e]
          exact trivial)
      (g := F0 m pc ls (.int k :: .int dp :: .ref (x_ad X o1) :: .int sp :: .ref (x_ad X o0) :: x_st X st)) rfl (by rw [hml]; exact hl.1) (rest := x_st X st) rfl (by rw [hb]; exact hdg) (by omega) (by rw [show 2 * (F0 m pc ls (.int k :: .int dp :: .ref (x_ad X o1) :: .int sp :: .ref (x_ad X o0) :: x_st X st)).monitorRoom = 0 from rfl, x_st_sum]; omega)
    have e1 : copied (vp_cell (x_cA X 21) (x_ln X o0, .inr (.inl (μ.2.2 o0)))) (vp_cell (x_cA X 21) (x_ln X o1, .inr (.inl (μ.2.2 o1)))) sp dp k = vp_cell (x_cA X 21) (x_ln X o1, .inr (.inl (va_cpy (μ.2.2 o0) (μ.2.2 o1) sp.toNatClampNeg dp.toNatClampNeg k.toNatClampNeg))) := va_copied (fun z => .long z) (x_cA X 21) (x_cA X 21) (μ.2.2 o0) (μ.2.2 o1) h4
    rw [e1] at X2 step
    have hl0 : x_ad X o1 < H.size := (Array.getElem?_eq_some_iff.mp hc1).1
    have hheap : ((T.setVm vm').setCell (x_ad X o1) (vp_cell (x_cA X 21) (x_ln X o1, .inr (.inl (va_cpy (μ.2.2 o0) (μ.2.2 o1) sp.toNatClampNeg dp.toNatClampNeg k.toNatClampNeg))))).heap = H.setIfInBounds (x_ad X o1) (vp_cell (x_cA X 21) (x_ln X o1, .inr (.inl (va_cpy (μ.2.2 o0) (μ.2.2 o1) sp.toNatClampNeg dp.toNatClampNeg k.toNatClampNeg)))) := by rw [← hT]; rfl
    have oq : ∀ q : Nat, q ≠ x_ad X o1 → (H.setIfInBounds (x_ad X o1) (vp_cell (x_cA X 21) (x_ln X o1, .inr (.inl (va_cpy (μ.2.2 o0) (μ.2.2 o1) sp.toNatClampNeg dp.toNatClampNeg k.toNatClampNeg)))))[q]? = H[q]? := fun q hq => by simp [Array.getElem?_setIfInBounds, Ne.symm hq]
    have hA1 : x_A X (x_ad X o1) := ⟨o1, by omega, by omega, rfl⟩
    have hP2 : x_P X (x_cp μ o0 sp o1 dp k) s (H.setIfInBounds (x_ad X o1) (vp_cell (x_cA X 21) (x_ln X o1, .inr (.inl (va_cpy (μ.2.2 o0) (μ.2.2 o1) sp.toNatClampNeg dp.toNatClampNeg k.toNatClampNeg))))) := by
      refine x_P.put hI hP (o := o1) (by omega) (by omega) ?_ oq (fun q hq => rfl) (fun q hq => rfl) (fun q hq => by show (if q = o1 then _ else _) = _; rw [if_neg hq])
      refine ⟨fun _ _ => by omega, fun z => by omega, fun _ => ?_, fun z => by omega, fun z => by omega, fun z => by omega, fun z => by omega, fun z => by omega⟩
      show (H.setIfInBounds (x_ad X o1) _)[x_ad X o1]? = some (vp_cell (x_cA X 21) (x_ln X o1, .inr (.inl (if o1 = o1 then _ else _))))
      rw [if_pos rfl]
      simp [Array.getElem?_setIfInBounds, hl0]
    obtain ⟨t, a1, b1⟩ := kk _ _ ls hP2 ⟨by simp; exact hS.1, fun q g1 g2 => by
        rw [oq q (fun e => g2 (by rw [e]; exact hA1))]
        exact hS.2.1 q g1 g2, fun q hq => by
        rcases List.mem_append.mp hq with h | h
        · exact hS.2.2 q h
        · obtain ⟨z, -, hz⟩ := List.mem_map.mp h
          rw [← hz]
          exact hA1⟩ hl r μ1 ho _ hheap X2
    exact ⟨t, step t a1, b1⟩
  · rw [if_neg hx] at ho; cases ho
end STR
theorem x_cls_in {C : String} {T : u_T} {N : Nat} (h : (u_ws C T N).all (fun w => decide (w ∈ lw_tbl) && goodWord w) = true) : ∀ w ∈ u_ws C T N, x_in w := by
  intro w hw
  have h1 := List.all_eq_true.mp h w hw
  simp only [Bool.and_eq_true, decide_eq_true_eq] at h1
  exact ⟨h1.1, Or.inl h1.2⟩
set_option maxRecDepth 100000 in
theorem xc0 : x_Cls 0 RX0 TX0 10 := ⟨rfl, by decide, x_cls_in (by decide +kernel), tyX0_ok, nmX0, by decide +kernel⟩
set_option maxRecDepth 100000 in
theorem xc1 : x_Cls 1 RX1 TX1 2 := ⟨rfl, by decide, x_cls_in (by decide +kernel), tyX1_ok, nmX1, by decide +kernel⟩
set_option maxRecDepth 100000 in
theorem xc2 : x_Cls 2 RX2 TX2 1 := ⟨rfl, by decide, x_cls_in (by decide +kernel), tyX2_ok, nmX2, by decide +kernel⟩
set_option maxRecDepth 100000 in
theorem xc3 : x_Cls 3 RX3 TX3 1 := ⟨rfl, by decide, x_cls_in (by decide +kernel), tyX3_ok, nmX3, by decide +kernel⟩
set_option maxRecDepth 100000 in
theorem xc4 : x_Cls 4 RX4 TX4 10 := ⟨rfl, by decide, x_cls_in (by decide +kernel), tyX4_ok, nmX4, by decide +kernel⟩
set_option maxRecDepth 100000 in
theorem xc5 : x_Cls 5 RX5 TX5 3 := ⟨rfl, by decide, x_cls_in (by decide +kernel), tyX5_ok, nmX5, by decide +kernel⟩
set_option maxRecDepth 100000 in
theorem xc6 : x_Cls 6 RX6 TX6 4 := ⟨rfl, by decide, x_cls_in (by decide +kernel), tyX6_ok, nmX6, by decide +kernel⟩
set_option maxRecDepth 100000 in
theorem xc7 : x_Cls 7 RX7 TX7 12 := ⟨rfl, by decide, x_cls_in (by decide +kernel), tyX7_ok, nmX7, by decide +kernel⟩
set_option maxRecDepth 100000 in
theorem xc8 : x_Cls 8 RX8 TX8 3 := ⟨rfl, by decide, x_cls_in (by decide +kernel), tyX8_ok, nmX8, by decide +kernel⟩
set_option maxRecDepth 100000 in
theorem xc9 : x_Cls 9 RX9 TX9 9 := ⟨rfl, by decide, x_cls_in (by decide +kernel), tyX9_ok, nmX9, by decide +kernel⟩
set_option maxRecDepth 100000 in
theorem xc10 : x_Cls 10 RX10 TX10 77 := ⟨rfl, by decide, x_cls_in (by decide +kernel), tyX10_ok, nmX10, by decide +kernel⟩
end
section
theorem qm_J1_88 : x_in (.methodLink RJ1 88 yJ1_canEncode_9a6ad) := ⟨List.mem_of_getElem? (i := 641) (by decide +kernel), Or.inl (by decide +kernel)⟩
theorem qd_J1_canEncode_9a6ad : x_in (.code yJ1_canEncode_9a6ad cJ1_canEncode_9a6ad 1 (some .boolean)) := ⟨List.mem_of_getElem? (i := 643) (by decide +kernel), Or.inl (by decide +kernel)⟩
theorem qc_J1 : x_in (.initialized RJ1) := ⟨List.mem_of_getElem? (i := 93) (by decide +kernel), Or.inl (by decide +kernel)⟩
theorem qt_J1_canEncode_9a6ad : x_in (.static yJ1_canEncode_9a6ad) := ⟨List.mem_of_getElem? (i := 642) (by decide +kernel), Or.inl (by decide +kernel)⟩
theorem qm_J1_92 : x_in (.methodLink RJ1 92 Lib.Math.max.name) := ⟨List.mem_of_getElem? (i := 644) (by decide +kernel), Or.inl (by decide +kernel)⟩
theorem qt_Math_max : x_in (.static Lib.Math.max.name) := ⟨List.mem_of_getElem? (i := 416) (by decide +kernel), Or.inl (by decide +kernel)⟩
theorem qc_Math : x_in (.initialized "java/lang/Math") := ⟨List.mem_of_getElem? (i := 84) (by decide +kernel), Or.inl (by decide +kernel)⟩
theorem qd_Math_max : x_in (.code Lib.Math.max.name Lib.Math.max.code 2 (some .int)) := ⟨List.mem_of_getElem? (i := 417) (by decide +kernel), Or.inl (by decide +kernel)⟩
theorem qm_J1_38 : x_in (.methodLink RJ1 38 Lib.Math.min.name) := ⟨List.mem_of_getElem? (i := 645) (by decide +kernel), Or.inl (by decide +kernel)⟩
theorem qt_Math_min : x_in (.static Lib.Math.min.name) := ⟨List.mem_of_getElem? (i := 132) (by decide +kernel), Or.inl (by decide +kernel)⟩
theorem qd_Math_min : x_in (.code Lib.Math.min.name Lib.Math.min.code 2 (some .int)) := ⟨List.mem_of_getElem? (i := 133) (by decide +kernel), Or.inl (by decide +kernel)⟩
theorem qm_J1_95 : x_in (.methodLink RJ1 95 yJ1_indexOfChar_4cfef) := ⟨List.mem_of_getElem? (i := 646) (by decide +kernel), Or.inl (by decide +kernel)⟩
theorem qd_J1_indexOfChar_4cfef : x_in (.code yJ1_indexOfChar_4cfef cJ1_indexOfChar_4cfef 6 (some .int)) := ⟨List.mem_of_getElem? (i := 648) (by decide +kernel), Or.inl (by decide +kernel)⟩
theorem qt_J1_indexOfChar_4cfef : x_in (.static yJ1_indexOfChar_4cfef) := ⟨List.mem_of_getElem? (i := 647) (by decide +kernel), Or.inl (by decide +kernel)⟩
theorem qg_J0_1053 : x_in (Cond.fieldLink RJ0 1053 "jdk/internal/util/Preconditions" "SIOOBE_FORMATTER" "Ljava/util/function/BiFunction;") := ⟨List.mem_of_getElem? (i := 570) (by decide +kernel), Or.inl (by decide +kernel)⟩
theorem qm_J0_1059 : x_in (.methodLink RJ0 1059 yJ3_checkIndex_8e157) := ⟨List.mem_of_getElem? (i := 572) (by decide +kernel), Or.inl (by decide +kernel)⟩
theorem qd_J3_checkIndex_8e157 : x_in (.code yJ3_checkIndex_8e157 cJ3_checkIndex_8e157 3 (some .int)) := ⟨List.mem_of_getElem? (i := 574) (by decide +kernel), Or.inl (by decide +kernel)⟩
theorem qc_J3 : x_in (.initialized RJ3) := ⟨List.mem_of_getElem? (i := 94) (by decide +kernel), Or.inl (by decide +kernel)⟩
theorem qt_J3_checkIndex_8e157 : x_in (.static yJ3_checkIndex_8e157) := ⟨List.mem_of_getElem? (i := 573) (by decide +kernel), Or.inl (by decide +kernel)⟩
theorem qm_J1_9 : x_in (.methodLink RJ1 9 yJ0_checkIndex_df160) := ⟨List.mem_of_getElem? (i := 567) (by decide +kernel), Or.inl (by decide +kernel)⟩
theorem qd_J0_checkIndex_df160 : x_in (.code yJ0_checkIndex_df160 cJ0_checkIndex_df160 2 none) := ⟨List.mem_of_getElem? (i := 569) (by decide +kernel), Or.inl (by decide +kernel)⟩
theorem qc_J0 : x_in (.initialized RJ0) := ⟨List.mem_of_getElem? (i := 92) (by decide +kernel), Or.inl (by decide +kernel)⟩
theorem qt_J0_checkIndex_df160 : x_in (.static yJ0_checkIndex_df160) := ⟨List.mem_of_getElem? (i := 568) (by decide +kernel), Or.inl (by decide +kernel)⟩
theorem qg_J0_38 : x_in (Cond.fieldLink RJ0 38 "java/lang/String" "COMPACT_STRINGS" "Z") := ⟨List.mem_of_getElem? (i := 553) (by decide +kernel), Or.inl (by decide +kernel)⟩
theorem qf_J0_15 : x_in (.fieldLink RJ0 15 "java/lang/String" "coder" "B") := ⟨List.mem_of_getElem? (i := 1734) (by decide +kernel), Or.inl (by decide +kernel)⟩
theorem qf_J0_9 : x_in (.fieldLink RJ0 9 "java/lang/String" "value" "[B") := ⟨List.mem_of_getElem? (i := 1733) (by decide +kernel), Or.inl (by decide +kernel)⟩
theorem qm_J0_335 : x_in (.methodLink RJ0 335 yJ0_coder_7d493) := ⟨List.mem_of_getElem? (i := 549) (by decide +kernel), Or.inl (by decide +kernel)⟩
theorem qd_J0_coder_7d493 : x_in (.code yJ0_coder_7d493 cJ0_coder_7d493 1 (some .byte)) := ⟨List.mem_of_getElem? (i := 552) (by decide +kernel), Or.inl (by decide +kernel)⟩
theorem qi_J0_coder_7d493 : x_in (.instanceMethod yJ0_coder_7d493) := ⟨List.mem_of_getElem? (i := 550) (by decide +kernel), Or.inl (by decide +kernel)⟩
theorem qs_J0_coder_7d493 : x_in (.selects RJ0 yJ0_coder_7d493 yJ0_coder_7d493) := ⟨List.mem_of_getElem? (i := 551) (by decide +kernel), Or.inl (by decide +kernel)⟩
theorem qm_J0_492 : x_in (.methodLink RJ0 492 yJ0_isLatin1_aae02) := ⟨List.mem_of_getElem? (i := 560) (by decide +kernel), Or.inl (by decide +kernel)⟩
theorem qd_J0_isLatin1_aae02 : x_in (.code yJ0_isLatin1_aae02 cJ0_isLatin1_aae02 1 (some .boolean)) := ⟨List.mem_of_getElem? (i := 563) (by decide +kernel), Or.inl (by decide +kernel)⟩
theorem qi_J0_isLatin1_aae02 : x_in (.instanceMethod yJ0_isLatin1_aae02) := ⟨List.mem_of_getElem? (i := 561) (by decide +kernel), Or.inl (by decide +kernel)⟩
theorem qs_J0_isLatin1_aae02 : x_in (.selects RJ0 yJ0_isLatin1_aae02 yJ0_isLatin1_aae02) := ⟨List.mem_of_getElem? (i := 562) (by decide +kernel), Or.inl (by decide +kernel)⟩
theorem qm_J0_505 : x_in (.methodLink RJ0 505 yJ0_length_8abf5) := ⟨List.mem_of_getElem? (i := 637) (by decide +kernel), Or.inl (by decide +kernel)⟩
theorem qd_J0_length_8abf5 : x_in (.code yJ0_length_8abf5 cJ0_length_8abf5 1 (some .int)) := ⟨List.mem_of_getElem? (i := 548) (by decide +kernel), Or.inl (by decide +kernel)⟩
theorem qi_J0_length_8abf5 : x_in (.instanceMethod yJ0_length_8abf5) := ⟨List.mem_of_getElem? (i := 546) (by decide +kernel), Or.inl (by decide +kernel)⟩
theorem qs_J0_length_8abf5 : x_in (.selects RJ0 yJ0_length_8abf5 yJ0_length_8abf5) := ⟨List.mem_of_getElem? (i := 547) (by decide +kernel), Or.inl (by decide +kernel)⟩
theorem qm_J0_637 : x_in (.methodLink RJ0 637 yJ1_indexOf_4cfef) := ⟨List.mem_of_getElem? (i := 638) (by decide +kernel), Or.inl (by decide +kernel)⟩
theorem qd_J1_indexOf_4cfef : x_in (.code yJ1_indexOf_4cfef cJ1_indexOf_4cfef 4 (some .int)) := ⟨List.mem_of_getElem? (i := 640) (by decide +kernel), Or.inl (by decide +kernel)⟩
theorem qt_J1_indexOf_4cfef : x_in (.static yJ1_indexOf_4cfef) := ⟨List.mem_of_getElem? (i := 639) (by decide +kernel), Or.inl (by decide +kernel)⟩
theorem qm_J0_495 : x_in (.methodLink RJ0 495 yJ1_charAt_3b067) := ⟨List.mem_of_getElem? (i := 564) (by decide +kernel), Or.inl (by decide +kernel)⟩
theorem qd_J1_charAt_3b067 : x_in (.code yJ1_charAt_3b067 cJ1_charAt_3b067 2 (some .char)) := ⟨List.mem_of_getElem? (i := 566) (by decide +kernel), Or.inl (by decide +kernel)⟩
theorem qt_J1_charAt_3b067 : x_in (.static yJ1_charAt_3b067) := ⟨List.mem_of_getElem? (i := 565) (by decide +kernel), Or.inl (by decide +kernel)⟩
theorem qm_J0_633 : x_in (.methodLink RJ0 633 yJ0_indexOf_7cf53) := ⟨List.mem_of_getElem? (i := 633) (by decide +kernel), Or.inl (by decide +kernel)⟩
theorem qd_J0_indexOf_7cf53 : x_in (.code yJ0_indexOf_7cf53 cJ0_indexOf_7cf53 3 (some .int)) := ⟨List.mem_of_getElem? (i := 636) (by decide +kernel), Or.inl (by decide +kernel)⟩
theorem qi_J0_indexOf_7cf53 : x_in (.instanceMethod yJ0_indexOf_7cf53) := ⟨List.mem_of_getElem? (i := 634) (by decide +kernel), Or.inl (by decide +kernel)⟩
theorem qs_J0_indexOf_7cf53 : x_in (.selects RJ0 yJ0_indexOf_7cf53 yJ0_indexOf_7cf53) := ⟨List.mem_of_getElem? (i := 635) (by decide +kernel), Or.inl (by decide +kernel)⟩
theorem qf_X3_9 : x_in (x_fl false RX3 9 RX3 TX3 0) := ⟨List.mem_of_getElem? (i := 118) (by decide +kernel), Or.inl (by decide +kernel)⟩
theorem qm_X3_19 : x_in (.methodLink RX3 19 Lib.Math.min.name) := ⟨List.mem_of_getElem? (i := 414) (by decide +kernel), Or.inl (by decide +kernel)⟩
theorem qm_X3_25 : x_in (.methodLink RX3 25 Lib.Math.max.name) := ⟨List.mem_of_getElem? (i := 415) (by decide +kernel), Or.inl (by decide +kernel)⟩
theorem qm_X3_15 : x_in (.methodLinkNest RX3 15 yX9_at "LakeBooks") := ⟨List.mem_of_getElem? (i := 403) (by decide +kernel), Or.inr (by decide +kernel)⟩
theorem qd_X9_at : x_in (.code yX9_at cX9_at 2 (some .int)) := ⟨List.mem_of_getElem? (i := 405) (by decide +kernel), Or.inl (by decide +kernel)⟩
theorem qc_X9 : x_in (.initialized RX9) := ⟨List.mem_of_getElem? (i := 80) (by decide +kernel), Or.inl (by decide +kernel)⟩
theorem qt_X9_at : x_in (.static yX9_at) := ⟨List.mem_of_getElem? (i := 404) (by decide +kernel), Or.inl (by decide +kernel)⟩
theorem qf_X6_28 : x_in (x_fl false RX6 28 RX6 TX6 3) := ⟨List.mem_of_getElem? (i := 137) (by decide +kernel), Or.inl (by decide +kernel)⟩
theorem qf_X6_9 : x_in (x_fl false RX6 9 RX6 TX6 0) := ⟨List.mem_of_getElem? (i := 134) (by decide +kernel), Or.inl (by decide +kernel)⟩
theorem qm_X6_31 : x_in (.methodLinkNest RX6 31 yX9_at "LakeBooks") := ⟨List.mem_of_getElem? (i := 759) (by decide +kernel), Or.inr (by decide +kernel)⟩
theorem qf_X6_15 : x_in (x_fl false RX6 15 RX6 TX6 1) := ⟨List.mem_of_getElem? (i := 135) (by decide +kernel), Or.inl (by decide +kernel)⟩
theorem qf_X6_24 : x_in (x_fl false RX6 24 RX6 TX6 2) := ⟨List.mem_of_getElem? (i := 136) (by decide +kernel), Or.inl (by decide +kernel)⟩
theorem qm_X6_35 : x_in (.methodLinkNest RX6 35 yX9_within "LakeBooks") := ⟨List.mem_of_getElem? (i := 892) (by decide +kernel), Or.inr (by decide +kernel)⟩
theorem qd_X9_within : x_in (.code yX9_within cX9_within 3 (some .boolean)) := ⟨List.mem_of_getElem? (i := 398) (by decide +kernel), Or.inl (by decide +kernel)⟩
theorem qt_X9_within : x_in (.static yX9_within) := ⟨List.mem_of_getElem? (i := 397) (by decide +kernel), Or.inl (by decide +kernel)⟩
theorem qf_X8_15 : x_in (x_fl false RX8 15 RX8 TX8 1) := ⟨List.mem_of_getElem? (i := 352) (by decide +kernel), Or.inl (by decide +kernel)⟩
theorem qm_X8_19 : x_in (.methodLink RX8 19 Lib.Math.min.name) := ⟨List.mem_of_getElem? (i := 1068) (by decide +kernel), Or.inl (by decide +kernel)⟩
theorem qm_X8_25 : x_in (.methodLink RX8 25 Lib.Math.max.name) := ⟨List.mem_of_getElem? (i := 1069) (by decide +kernel), Or.inl (by decide +kernel)⟩
theorem qf_X8_28 : x_in (x_fl false RX8 28 RX8 TX8 2) := ⟨List.mem_of_getElem? (i := 354) (by decide +kernel), Or.inl (by decide +kernel)⟩
theorem qf_X8_9 : x_in (x_fl false RX8 9 RX8 TX8 0) := ⟨List.mem_of_getElem? (i := 351) (by decide +kernel), Or.inl (by decide +kernel)⟩
theorem qk_X8_35 : x_in (.constantLong RX8 35 (-9223372036854775808)) := ⟨List.mem_of_getElem? (i := 989) (by decide +kernel), Or.inl (by decide +kernel)⟩
theorem qm_X8_37 : x_in (.methodLink RX8 37 arraycopyName) := ⟨List.mem_of_getElem? (i := 1094) (by decide +kernel), Or.inl (by decide +kernel)⟩
theorem qn_arraycopy : x_in (.native arraycopyName) := ⟨List.mem_of_getElem? (i := 1096) (by decide +kernel), Or.inl (by decide +kernel)⟩
theorem qt_arraycopy : x_in (.static arraycopyName) := ⟨List.mem_of_getElem? (i := 1095) (by decide +kernel), Or.inl (by decide +kernel)⟩
theorem qc_System : x_in (.initialized "java/lang/System") := ⟨List.mem_of_getElem? (i := 97) (by decide +kernel), Or.inl (by decide +kernel)⟩
theorem qm_X8_31 : x_in (.methodLink RX8 31 yX8_cut) := ⟨List.mem_of_getElem? (i := 1078) (by decide +kernel), Or.inl (by decide +kernel)⟩
theorem qd_X8_cut : x_in (.code yX8_cut cX8_cut 3 (some .long)) := ⟨List.mem_of_getElem? (i := 1081) (by decide +kernel), Or.inl (by decide +kernel)⟩
theorem qc_X8 : x_in (.initialized RX8) := ⟨List.mem_of_getElem? (i := 90) (by decide +kernel), Or.inl (by decide +kernel)⟩
theorem qi_X8_cut : x_in (.instanceMethod yX8_cut) := ⟨List.mem_of_getElem? (i := 1080) (by decide +kernel), Or.inl (by decide +kernel)⟩
theorem qs_X8_cut : x_in (.selects RX8 yX8_cut yX8_cut) := ⟨List.mem_of_getElem? (i := 22) (by decide +kernel), Or.inl (by decide +kernel)⟩
theorem qf_X0_19 : x_in (x_fl false RX0 19 RX0 TX0 2) := ⟨List.mem_of_getElem? (i := 203) (by decide +kernel), Or.inl (by decide +kernel)⟩
theorem qf_X0_23 : x_in (x_fl false RX0 23 RX0 TX0 3) := ⟨List.mem_of_getElem? (i := 206) (by decide +kernel), Or.inl (by decide +kernel)⟩
theorem qf_X0_26 : x_in (x_fl false RX0 26 RX0 TX0 4) := ⟨List.mem_of_getElem? (i := 210) (by decide +kernel), Or.inl (by decide +kernel)⟩
theorem qf_X0_29 : x_in (x_fl false RX0 29 RX0 TX0 6) := ⟨List.mem_of_getElem? (i := 217) (by decide +kernel), Or.inl (by decide +kernel)⟩
theorem qf_X0_32 : x_in (x_fl false RX0 32 RX0 TX0 5) := ⟨List.mem_of_getElem? (i := 213) (by decide +kernel), Or.inl (by decide +kernel)⟩
theorem qf_X0_35 : x_in (x_fl false RX0 35 RX0 TX0 7) := ⟨List.mem_of_getElem? (i := 220) (by decide +kernel), Or.inl (by decide +kernel)⟩
theorem qf_X0_9 : x_in (x_fl false RX0 9 RX0 TX0 1) := ⟨List.mem_of_getElem? (i := 202) (by decide +kernel), Or.inl (by decide +kernel)⟩
theorem qm_X0_51 : x_in (.methodLink RX0 51 Lib.Math.min.name) := ⟨List.mem_of_getElem? (i := 734) (by decide +kernel), Or.inl (by decide +kernel)⟩
theorem qm_X0_42 : x_in (.methodLink RX0 42 Lib.Math.max.name) := ⟨List.mem_of_getElem? (i := 459) (by decide +kernel), Or.inl (by decide +kernel)⟩
theorem qm_X0_38 : x_in (.methodLinkNest RX0 38 yX9_at "LakeBooks") := ⟨List.mem_of_getElem? (i := 463) (by decide +kernel), Or.inr (by decide +kernel)⟩
theorem qm_X0_48 : x_in (.methodLink RX0 48 yJ9_floorMod_7cf53) := ⟨List.mem_of_getElem? (i := 460) (by decide +kernel), Or.inl (by decide +kernel)⟩
theorem qd_J9_floorMod_7cf53 : x_in (.code yJ9_floorMod_7cf53 cJ9_floorMod_7cf53 3 (some .int)) := ⟨List.mem_of_getElem? (i := 462) (by decide +kernel), Or.inl (by decide +kernel)⟩
theorem qc_J9 : x_in (.initialized RJ9) := ⟨List.mem_of_getElem? (i := 84) (by decide +kernel), Or.inl (by decide +kernel)⟩
theorem qt_J9_floorMod_7cf53 : x_in (.static yJ9_floorMod_7cf53) := ⟨List.mem_of_getElem? (i := 461) (by decide +kernel), Or.inl (by decide +kernel)⟩
theorem qf_X1_15 : x_in (x_fl false RX1 15 RX1 TX1 1) := ⟨List.mem_of_getElem? (i := 339) (by decide +kernel), Or.inl (by decide +kernel)⟩
theorem qf_X1_9 : x_in (x_fl false RX1 9 RX1 TX1 0) := ⟨List.mem_of_getElem? (i := 338) (by decide +kernel), Or.inl (by decide +kernel)⟩
theorem qg_X1_56 : x_in (Cond.fieldLink RX1 56 "LakeBooks$Acts" "BODIES" "[I") := ⟨List.mem_of_getElem? (i := 1017) (by decide +kernel), Or.inl (by decide +kernel)⟩
theorem qm_X1_59 : x_in (.methodLinkNest RX1 59 yX9_at "LakeBooks") := ⟨List.mem_of_getElem? (i := 1019) (by decide +kernel), Or.inr (by decide +kernel)⟩
theorem qg_X9_316 : x_in (Cond.fieldLink RX9 316 "LakeBooks" "ABOVE" "[I") := ⟨List.mem_of_getElem? (i := 1023) (by decide +kernel), Or.inl (by decide +kernel)⟩
theorem qg_X1_32 : x_in (Cond.fieldLinkNest RX1 32 "LakeBooks" "ABOVE" "[I" "LakeBooks") := ⟨List.mem_of_getElem? (i := 1012) (by decide +kernel), Or.inr (by decide +kernel)⟩
theorem qm_X1_35 : x_in (.methodLink RX1 35 yX1_bodyOf) := ⟨List.mem_of_getElem? (i := 1014) (by decide +kernel), Or.inl (by decide +kernel)⟩
theorem qd_X1_bodyOf : x_in (.code yX1_bodyOf cX1_bodyOf 2 (some .int)) := ⟨List.mem_of_getElem? (i := 1016) (by decide +kernel), Or.inl (by decide +kernel)⟩
theorem qc_X1 : x_in (.initialized RX1) := ⟨List.mem_of_getElem? (i := 89) (by decide +kernel), Or.inl (by decide +kernel)⟩
theorem qt_X1_bodyOf : x_in (.static yX1_bodyOf) := ⟨List.mem_of_getElem? (i := 1015) (by decide +kernel), Or.inl (by decide +kernel)⟩
theorem qm_X1_39 : x_in (.methodLinkNest RX1 39 yX9_kindAbove "LakeBooks") := ⟨List.mem_of_getElem? (i := 1020) (by decide +kernel), Or.inr (by decide +kernel)⟩
theorem qd_X9_kindAbove : x_in (.code yX9_kindAbove cX9_kindAbove 1 (some .int)) := ⟨List.mem_of_getElem? (i := 1022) (by decide +kernel), Or.inl (by decide +kernel)⟩
theorem qt_X9_kindAbove : x_in (.static yX9_kindAbove) := ⟨List.mem_of_getElem? (i := 1021) (by decide +kernel), Or.inl (by decide +kernel)⟩
theorem qm_X1_43 : x_in (.methodLink RX1 43 yX1_note) := ⟨List.mem_of_getElem? (i := 1024) (by decide +kernel), Or.inl (by decide +kernel)⟩
theorem qd_X1_note : x_in (.code yX1_note cX1_note 2 none) := ⟨List.mem_of_getElem? (i := 1027) (by decide +kernel), Or.inl (by decide +kernel)⟩
theorem qi_X1_note : x_in (.instanceMethod yX1_note) := ⟨List.mem_of_getElem? (i := 1026) (by decide +kernel), Or.inl (by decide +kernel)⟩
theorem qs_X1_note : x_in (.selects RX1 yX1_note yX1_note) := ⟨List.mem_of_getElem? (i := 20) (by decide +kernel), Or.inl (by decide +kernel)⟩
theorem qm_X1_47 : x_in (.methodLink RX1 47 yX1_runBody) := ⟨List.mem_of_getElem? (i := 1028) (by decide +kernel), Or.inl (by decide +kernel)⟩
theorem qd_X1_runBody : x_in (.code yX1_runBody cX1_runBody 7 (some .int)) := ⟨List.mem_of_getElem? (i := 1031) (by decide +kernel), Or.inl (by decide +kernel)⟩
theorem qi_X1_runBody : x_in (.instanceMethod yX1_runBody) := ⟨List.mem_of_getElem? (i := 1030) (by decide +kernel), Or.inl (by decide +kernel)⟩
theorem qs_X1_runBody : x_in (.selects RX1 yX1_runBody yX1_runBody) := ⟨List.mem_of_getElem? (i := 21) (by decide +kernel), Or.inl (by decide +kernel)⟩
theorem qf_X1_23 : x_in (x_fl true RX1 23 RX0 TX0 3) := ⟨List.mem_of_getElem? (i := 207) (by decide +kernel), Or.inr (by decide +kernel)⟩
theorem qf_X1_50 : x_in (x_fl true RX1 50 RX0 TX0 0) := ⟨List.mem_of_getElem? (i := 200) (by decide +kernel), Or.inr (by decide +kernel)⟩
theorem qm_X1_28 : x_in (.methodLink RX1 28 yX1_run) := ⟨List.mem_of_getElem? (i := 1008) (by decide +kernel), Or.inl (by decide +kernel)⟩
theorem qd_X1_run : x_in (.code yX1_run cX1_run 8 (some .int)) := ⟨List.mem_of_getElem? (i := 1011) (by decide +kernel), Or.inl (by decide +kernel)⟩
theorem qi_X1_run : x_in (.instanceMethod yX1_run) := ⟨List.mem_of_getElem? (i := 1010) (by decide +kernel), Or.inl (by decide +kernel)⟩
theorem qs_X1_run : x_in (.selects RX1 yX1_run yX1_run) := ⟨List.mem_of_getElem? (i := 19) (by decide +kernel), Or.inl (by decide +kernel)⟩
theorem qf_X1_53 : x_in (x_fl true RX1 53 RX0 TX0 4) := ⟨List.mem_of_getElem? (i := 212) (by decide +kernel), Or.inr (by decide +kernel)⟩
theorem qm_X1_19 : x_in (.methodLinkNest RX1 19 yX9_within "LakeBooks") := ⟨List.mem_of_getElem? (i := 1007) (by decide +kernel), Or.inr (by decide +kernel)⟩
theorem qf_X4_30 : x_in (x_fl false RX4 30 RX4 TX4 5) := ⟨List.mem_of_getElem? (i := 162) (by decide +kernel), Or.inl (by decide +kernel)⟩
theorem qf_X4_34 : x_in (x_fl false RX4 34 RX4 TX4 6) := ⟨List.mem_of_getElem? (i := 163) (by decide +kernel), Or.inl (by decide +kernel)⟩
theorem qf_X4_37 : x_in (x_fl false RX4 37 RX4 TX4 7) := ⟨List.mem_of_getElem? (i := 164) (by decide +kernel), Or.inl (by decide +kernel)⟩
theorem qf_X4_40 : x_in (x_fl false RX4 40 RX4 TX4 8) := ⟨List.mem_of_getElem? (i := 167) (by decide +kernel), Or.inl (by decide +kernel)⟩
theorem qf_X4_43 : x_in (x_fl false RX4 43 RX4 TX4 9) := ⟨List.mem_of_getElem? (i := 170) (by decide +kernel), Or.inl (by decide +kernel)⟩
theorem qf_X4_24 : x_in (x_fl false RX4 24 RX4 TX4 4) := ⟨List.mem_of_getElem? (i := 161) (by decide +kernel), Or.inl (by decide +kernel)⟩
theorem qm_X4_46 : x_in (.methodLink RX4 46 Lib.Math.min.name) := ⟨List.mem_of_getElem? (i := 476) (by decide +kernel), Or.inl (by decide +kernel)⟩
theorem qf_X4_64 : x_in (x_fl true RX4 64 RX0 TX0 0) := ⟨List.mem_of_getElem? (i := 201) (by decide +kernel), Or.inr (by decide +kernel)⟩
theorem qf_X4_69 : x_in (x_fl true RX4 69 RX0 TX0 3) := ⟨List.mem_of_getElem? (i := 209) (by decide +kernel), Or.inr (by decide +kernel)⟩
theorem qf_X4_72 : x_in (x_fl true RX4 72 RX0 TX0 5) := ⟨List.mem_of_getElem? (i := 216) (by decide +kernel), Or.inr (by decide +kernel)⟩
theorem qm_X4_75 : x_in (.methodLink RX4 75 Lib.Math.max.name) := ⟨List.mem_of_getElem? (i := 481) (by decide +kernel), Or.inl (by decide +kernel)⟩
theorem qf_X4_21 : x_in (x_fl false RX4 21 RX4 TX4 3) := ⟨List.mem_of_getElem? (i := 160) (by decide +kernel), Or.inl (by decide +kernel)⟩
theorem qm_X4_80 : x_in (.methodLinkNest RX4 80 yX9_at "LakeBooks") := ⟨List.mem_of_getElem? (i := 483) (by decide +kernel), Or.inr (by decide +kernel)⟩
theorem qk_X4_78 : x_in (.constantLong RX4 78 (-2)) := ⟨List.mem_of_getElem? (i := 482) (by decide +kernel), Or.inl (by decide +kernel)⟩
theorem qm_X4_52 : x_in (.methodLinkNest RX4 52 yX9_within "LakeBooks") := ⟨List.mem_of_getElem? (i := 619) (by decide +kernel), Or.inr (by decide +kernel)⟩
theorem qf_X4_9 : x_in (x_fl false RX4 9 RX4 TX4 0) := ⟨List.mem_of_getElem? (i := 157) (by decide +kernel), Or.inl (by decide +kernel)⟩
theorem qf_X4_15 : x_in (x_fl false RX4 15 RX4 TX4 1) := ⟨List.mem_of_getElem? (i := 158) (by decide +kernel), Or.inl (by decide +kernel)⟩
theorem qf_X4_18 : x_in (x_fl false RX4 18 RX4 TX4 2) := ⟨List.mem_of_getElem? (i := 159) (by decide +kernel), Or.inl (by decide +kernel)⟩
theorem qm_X4_56 : x_in (.methodLink RX4 56 yX4_tellValues) := ⟨List.mem_of_getElem? (i := 472) (by decide +kernel), Or.inl (by decide +kernel)⟩
theorem qd_X4_tellValues : x_in (.code yX4_tellValues cX4_tellValues 5 none) := ⟨List.mem_of_getElem? (i := 475) (by decide +kernel), Or.inl (by decide +kernel)⟩
theorem qc_X4 : x_in (.initialized RX4) := ⟨List.mem_of_getElem? (i := 85) (by decide +kernel), Or.inl (by decide +kernel)⟩
theorem qi_X4_tellValues : x_in (.instanceMethod yX4_tellValues) := ⟨List.mem_of_getElem? (i := 474) (by decide +kernel), Or.inl (by decide +kernel)⟩
theorem qs_X4_tellValues : x_in (.selects RX4 yX4_tellValues yX4_tellValues) := ⟨List.mem_of_getElem? (i := 0) (by decide +kernel), Or.inl (by decide +kernel)⟩
theorem qm_X4_60 : x_in (.methodLink RX4 60 yX4_holds) := ⟨List.mem_of_getElem? (i := 477) (by decide +kernel), Or.inl (by decide +kernel)⟩
theorem qd_X4_holds : x_in (.code yX4_holds cX4_holds 11 (some .boolean)) := ⟨List.mem_of_getElem? (i := 480) (by decide +kernel), Or.inl (by decide +kernel)⟩
theorem qi_X4_holds : x_in (.instanceMethod yX4_holds) := ⟨List.mem_of_getElem? (i := 479) (by decide +kernel), Or.inl (by decide +kernel)⟩
theorem qs_X4_holds : x_in (.selects RX4 yX4_holds yX4_holds) := ⟨List.mem_of_getElem? (i := 1) (by decide +kernel), Or.inl (by decide +kernel)⟩
theorem qf_X5_15 : x_in (x_fl false RX5 15 RX5 TX5 1) := ⟨List.mem_of_getElem? (i := 319) (by decide +kernel), Or.inl (by decide +kernel)⟩
theorem qf_X5_23 : x_in (x_fl false RX5 23 RX5 TX5 2) := ⟨List.mem_of_getElem? (i := 320) (by decide +kernel), Or.inl (by decide +kernel)⟩
theorem qf_X5_9 : x_in (x_fl false RX5 9 RX5 TX5 0) := ⟨List.mem_of_getElem? (i := 318) (by decide +kernel), Or.inl (by decide +kernel)⟩
theorem qm_X5_19 : x_in (.methodLinkNest RX5 19 yX9_within "LakeBooks") := ⟨List.mem_of_getElem? (i := 515) (by decide +kernel), Or.inr (by decide +kernel)⟩
theorem qm_X5_81 : x_in (.methodLinkNest RX5 81 yX9_at "LakeBooks") := ⟨List.mem_of_getElem? (i := 555) (by decide +kernel), Or.inr (by decide +kernel)⟩
theorem qm_X5_75 : x_in (.methodLink RX5 75 Lib.Math.max.name) := ⟨List.mem_of_getElem? (i := 594) (by decide +kernel), Or.inl (by decide +kernel)⟩
theorem qm_X5_71 : x_in (.methodLink RX5 71 yJ0_length_8abf5) := ⟨List.mem_of_getElem? (i := 545) (by decide +kernel), Or.inl (by decide +kernel)⟩
theorem qm_X5_85 : x_in (.methodLink RX5 85 yJ0_charAt_5068e) := ⟨List.mem_of_getElem? (i := 556) (by decide +kernel), Or.inl (by decide +kernel)⟩
theorem qd_J0_charAt_5068e : x_in (.code yJ0_charAt_5068e cJ0_charAt_5068e 2 (some .char)) := ⟨List.mem_of_getElem? (i := 559) (by decide +kernel), Or.inl (by decide +kernel)⟩
theorem qi_J0_charAt_5068e : x_in (.instanceMethod yJ0_charAt_5068e) := ⟨List.mem_of_getElem? (i := 557) (by decide +kernel), Or.inl (by decide +kernel)⟩
theorem qs_J0_charAt_5068e : x_in (.selects RJ0 yJ0_charAt_5068e yJ0_charAt_5068e) := ⟨List.mem_of_getElem? (i := 558) (by decide +kernel), Or.inl (by decide +kernel)⟩
theorem qm_X5_110 : x_in (.methodLink RX5 110 yJ0_indexOf_0f7a4) := ⟨List.mem_of_getElem? (i := 629) (by decide +kernel), Or.inl (by decide +kernel)⟩
theorem qd_J0_indexOf_0f7a4 : x_in (.code yJ0_indexOf_0f7a4 cJ0_indexOf_0f7a4 2 (some .int)) := ⟨List.mem_of_getElem? (i := 632) (by decide +kernel), Or.inl (by decide +kernel)⟩
theorem qi_J0_indexOf_0f7a4 : x_in (.instanceMethod yJ0_indexOf_0f7a4) := ⟨List.mem_of_getElem? (i := 630) (by decide +kernel), Or.inl (by decide +kernel)⟩
theorem qs_J0_indexOf_0f7a4 : x_in (.selects RJ0 yJ0_indexOf_0f7a4 yJ0_indexOf_0f7a4) := ⟨List.mem_of_getElem? (i := 631) (by decide +kernel), Or.inl (by decide +kernel)⟩
theorem qm_X5_63 : x_in (.methodLink RX5 63 yX5_wordOf) := ⟨List.mem_of_getElem? (i := 533) (by decide +kernel), Or.inl (by decide +kernel)⟩
theorem qd_X5_wordOf : x_in (.code yX5_wordOf cX5_wordOf 1 (some (.object "java/lang/String"))) := ⟨List.mem_of_getElem? (i := 535) (by decide +kernel), Or.inl (by decide +kernel)⟩
theorem qc_X5 : x_in (.initialized RX5) := ⟨List.mem_of_getElem? (i := 88) (by decide +kernel), Or.inl (by decide +kernel)⟩
theorem qt_X5_wordOf : x_in (.static yX5_wordOf) := ⟨List.mem_of_getElem? (i := 534) (by decide +kernel), Or.inl (by decide +kernel)⟩
theorem qm_X5_67 : x_in (.methodLink RX5 67 yX5_sameSigns) := ⟨List.mem_of_getElem? (i := 541) (by decide +kernel), Or.inl (by decide +kernel)⟩
theorem qd_X5_sameSigns : x_in (.code yX5_sameSigns cX5_sameSigns 3 (some .int)) := ⟨List.mem_of_getElem? (i := 544) (by decide +kernel), Or.inl (by decide +kernel)⟩
theorem qi_X5_sameSigns : x_in (.instanceMethod yX5_sameSigns) := ⟨List.mem_of_getElem? (i := 543) (by decide +kernel), Or.inl (by decide +kernel)⟩
theorem qs_X5_sameSigns : x_in (.selects RX5 yX5_sameSigns yX5_sameSigns) := ⟨List.mem_of_getElem? (i := 4) (by decide +kernel), Or.inl (by decide +kernel)⟩
theorem qm_X5_105 : x_in (.methodLink RX5 105 yX5_takeOneOf) := ⟨List.mem_of_getElem? (i := 625) (by decide +kernel), Or.inl (by decide +kernel)⟩
theorem qd_X5_takeOneOf : x_in (.code yX5_takeOneOf cX5_takeOneOf 3 (some .int)) := ⟨List.mem_of_getElem? (i := 628) (by decide +kernel), Or.inl (by decide +kernel)⟩
theorem qi_X5_takeOneOf : x_in (.instanceMethod yX5_takeOneOf) := ⟨List.mem_of_getElem? (i := 627) (by decide +kernel), Or.inl (by decide +kernel)⟩
theorem qs_X5_takeOneOf : x_in (.selects RX5 yX5_takeOneOf yX5_takeOneOf) := ⟨List.mem_of_getElem? (i := 10) (by decide +kernel), Or.inl (by decide +kernel)⟩
theorem qm_X5_92 : x_in (.methodLink RX5 92 yX4_put) := ⟨List.mem_of_getElem? (i := 615) (by decide +kernel), Or.inl (by decide +kernel)⟩
theorem qd_X4_put : x_in (.code yX4_put cX4_put 2 none) := ⟨List.mem_of_getElem? (i := 618) (by decide +kernel), Or.inl (by decide +kernel)⟩
theorem qi_X4_put : x_in (.instanceMethod yX4_put) := ⟨List.mem_of_getElem? (i := 616) (by decide +kernel), Or.inl (by decide +kernel)⟩
theorem qs_X4_put : x_in (.selects RX4 yX4_put yX4_put) := ⟨List.mem_of_getElem? (i := 617) (by decide +kernel), Or.inl (by decide +kernel)⟩
theorem qm_X5_39 : x_in (.methodLink RX5 39 yX5_takeNumber) := ⟨List.mem_of_getElem? (i := 595) (by decide +kernel), Or.inl (by decide +kernel)⟩
theorem qd_X5_takeNumber : x_in (.code yX5_takeNumber cX5_takeNumber 4 (some .int)) := ⟨List.mem_of_getElem? (i := 598) (by decide +kernel), Or.inl (by decide +kernel)⟩
theorem qi_X5_takeNumber : x_in (.instanceMethod yX5_takeNumber) := ⟨List.mem_of_getElem? (i := 597) (by decide +kernel), Or.inl (by decide +kernel)⟩
theorem qs_X5_takeNumber : x_in (.selects RX5 yX5_takeNumber yX5_takeNumber) := ⟨List.mem_of_getElem? (i := 5) (by decide +kernel), Or.inl (by decide +kernel)⟩
theorem qm_X5_89 : x_in (.methodLink RX5 89 yX5_takeBoth) := ⟨List.mem_of_getElem? (i := 607) (by decide +kernel), Or.inl (by decide +kernel)⟩
theorem qd_X5_takeBoth : x_in (.code yX5_takeBoth cX5_takeBoth 4 (some .boolean)) := ⟨List.mem_of_getElem? (i := 610) (by decide +kernel), Or.inl (by decide +kernel)⟩
theorem qi_X5_takeBoth : x_in (.instanceMethod yX5_takeBoth) := ⟨List.mem_of_getElem? (i := 609) (by decide +kernel), Or.inl (by decide +kernel)⟩
theorem qs_X5_takeBoth : x_in (.selects RX5 yX5_takeBoth yX5_takeBoth) := ⟨List.mem_of_getElem? (i := 7) (by decide +kernel), Or.inl (by decide +kernel)⟩
theorem qm_X5_31 : x_in (.methodLink RX5 31 yX5_take) := ⟨List.mem_of_getElem? (i := 525) (by decide +kernel), Or.inl (by decide +kernel)⟩
theorem qd_X5_take : x_in (.code yX5_take cX5_take 2 (some .boolean)) := ⟨List.mem_of_getElem? (i := 528) (by decide +kernel), Or.inl (by decide +kernel)⟩
theorem qi_X5_take : x_in (.instanceMethod yX5_take) := ⟨List.mem_of_getElem? (i := 527) (by decide +kernel), Or.inl (by decide +kernel)⟩
theorem qs_X5_take : x_in (.selects RX5 yX5_take yX5_take) := ⟨List.mem_of_getElem? (i := 2) (by decide +kernel), Or.inl (by decide +kernel)⟩
theorem qm_X5_96 : x_in (.methodLink RX5 96 yX5_takeFactor) := ⟨List.mem_of_getElem? (i := 611) (by decide +kernel), Or.inl (by decide +kernel)⟩
theorem qd_X5_takeFactor : x_in (.code yX5_takeFactor cX5_takeFactor 3 (some .boolean)) := ⟨List.mem_of_getElem? (i := 614) (by decide +kernel), Or.inl (by decide +kernel)⟩
theorem qi_X5_takeFactor : x_in (.instanceMethod yX5_takeFactor) := ⟨List.mem_of_getElem? (i := 613) (by decide +kernel), Or.inl (by decide +kernel)⟩
theorem qs_X5_takeFactor : x_in (.selects RX5 yX5_takeFactor yX5_takeFactor) := ⟨List.mem_of_getElem? (i := 8) (by decide +kernel), Or.inl (by decide +kernel)⟩
theorem qm_X5_99 : x_in (.methodLink RX5 99 yX5_takeTest) := ⟨List.mem_of_getElem? (i := 620) (by decide +kernel), Or.inl (by decide +kernel)⟩
theorem qd_X5_takeTest : x_in (.code yX5_takeTest cX5_takeTest 5 (some .boolean)) := ⟨List.mem_of_getElem? (i := 623) (by decide +kernel), Or.inl (by decide +kernel)⟩
theorem qi_X5_takeTest : x_in (.instanceMethod yX5_takeTest) := ⟨List.mem_of_getElem? (i := 622) (by decide +kernel), Or.inl (by decide +kernel)⟩
theorem qs_X5_takeTest : x_in (.selects RX5 yX5_takeTest yX5_takeTest) := ⟨List.mem_of_getElem? (i := 9) (by decide +kernel), Or.inl (by decide +kernel)⟩
theorem qm_X5_46 : x_in (.methodLink RX5 46 yX5_takeEither) := ⟨List.mem_of_getElem? (i := 603) (by decide +kernel), Or.inl (by decide +kernel)⟩
theorem qd_X5_takeEither : x_in (.code yX5_takeEither cX5_takeEither 4 (some .boolean)) := ⟨List.mem_of_getElem? (i := 606) (by decide +kernel), Or.inl (by decide +kernel)⟩
theorem qi_X5_takeEither : x_in (.instanceMethod yX5_takeEither) := ⟨List.mem_of_getElem? (i := 605) (by decide +kernel), Or.inl (by decide +kernel)⟩
theorem qs_X5_takeEither : x_in (.selects RX5 yX5_takeEither yX5_takeEither) := ⟨List.mem_of_getElem? (i := 6) (by decide +kernel), Or.inl (by decide +kernel)⟩
theorem qm_X5_26 : x_in (.methodLink RX5 26 yX4_clear) := ⟨List.mem_of_getElem? (i := 524) (by decide +kernel), Or.inl (by decide +kernel)⟩
theorem qd_X4_clear : x_in (.code yX4_clear cX4_clear 1 none) := ⟨List.mem_of_getElem? (i := 156) (by decide +kernel), Or.inl (by decide +kernel)⟩
theorem qi_X4_clear : x_in (.instanceMethod yX4_clear) := ⟨List.mem_of_getElem? (i := 154) (by decide +kernel), Or.inl (by decide +kernel)⟩
theorem qs_X4_clear : x_in (.selects RX4 yX4_clear yX4_clear) := ⟨List.mem_of_getElem? (i := 155) (by decide +kernel), Or.inl (by decide +kernel)⟩
theorem qm_X5_35 : x_in (.methodLink RX5 35 yX5_takeWord) := ⟨List.mem_of_getElem? (i := 529) (by decide +kernel), Or.inl (by decide +kernel)⟩
theorem qd_X5_takeWord : x_in (.code yX5_takeWord cX5_takeWord 5 (some .int)) := ⟨List.mem_of_getElem? (i := 532) (by decide +kernel), Or.inl (by decide +kernel)⟩
theorem qi_X5_takeWord : x_in (.instanceMethod yX5_takeWord) := ⟨List.mem_of_getElem? (i := 531) (by decide +kernel), Or.inl (by decide +kernel)⟩
theorem qs_X5_takeWord : x_in (.selects RX5 yX5_takeWord yX5_takeWord) := ⟨List.mem_of_getElem? (i := 3) (by decide +kernel), Or.inl (by decide +kernel)⟩
theorem qm_X5_42 : x_in (.methodLink RX5 42 yX4_tell) := ⟨List.mem_of_getElem? (i := 599) (by decide +kernel), Or.inl (by decide +kernel)⟩
theorem qd_X4_tell : x_in (.code yX4_tell cX4_tell 3 none) := ⟨List.mem_of_getElem? (i := 602) (by decide +kernel), Or.inl (by decide +kernel)⟩
theorem qi_X4_tell : x_in (.instanceMethod yX4_tell) := ⟨List.mem_of_getElem? (i := 600) (by decide +kernel), Or.inl (by decide +kernel)⟩
theorem qs_X4_tell : x_in (.selects RX4 yX4_tell yX4_tell) := ⟨List.mem_of_getElem? (i := 601) (by decide +kernel), Or.inl (by decide +kernel)⟩
theorem qm_X5_50 : x_in (.methodLink RX5 50 yX4_close) := ⟨List.mem_of_getElem? (i := 685) (by decide +kernel), Or.inl (by decide +kernel)⟩
theorem qd_X4_close : x_in (.code yX4_close cX4_close 3 none) := ⟨List.mem_of_getElem? (i := 688) (by decide +kernel), Or.inl (by decide +kernel)⟩
theorem qi_X4_close : x_in (.instanceMethod yX4_close) := ⟨List.mem_of_getElem? (i := 686) (by decide +kernel), Or.inl (by decide +kernel)⟩
theorem qs_X4_close : x_in (.selects RX4 yX4_close yX4_close) := ⟨List.mem_of_getElem? (i := 687) (by decide +kernel), Or.inl (by decide +kernel)⟩
theorem qf_X7_46 : x_in (x_fl false RX7 46 RX7 TX7 7) := ⟨List.mem_of_getElem? (i := 263) (by decide +kernel), Or.inl (by decide +kernel)⟩
theorem qm_X7_130 : x_in (.methodLink RX7 130 Lib.Math.max.name) := ⟨List.mem_of_getElem? (i := 723) (by decide +kernel), Or.inl (by decide +kernel)⟩
theorem qf_X7_116 : x_in (x_fl true RX7 116 RX0 TX0 8) := ⟨List.mem_of_getElem? (i := 223) (by decide +kernel), Or.inr (by decide +kernel)⟩
theorem qf_X7_69 : x_in (x_fl true RX7 69 RX0 TX0 5) := ⟨List.mem_of_getElem? (i := 214) (by decide +kernel), Or.inr (by decide +kernel)⟩
theorem qk_X7_145 : x_in (.constant RX7 145 (99999)) := ⟨List.mem_of_getElem? (i := 728) (by decide +kernel), Or.inl (by decide +kernel)⟩
theorem qf_X7_146 : x_in (x_fl false RX7 146 RX7 TX7 8) := ⟨List.mem_of_getElem? (i := 267) (by decide +kernel), Or.inl (by decide +kernel)⟩
theorem qm_X7_149 : x_in (.methodLink RX7 149 Lib.Math.min.name) := ⟨List.mem_of_getElem? (i := 729) (by decide +kernel), Or.inl (by decide +kernel)⟩
theorem qf_X7_54 : x_in (x_fl false RX7 54 RX7 TX7 6) := ⟨List.mem_of_getElem? (i := 260) (by decide +kernel), Or.inl (by decide +kernel)⟩
theorem qf_X7_20 : x_in (x_fl false RX7 20 RX7 TX7 1) := ⟨List.mem_of_getElem? (i := 249) (by decide +kernel), Or.inl (by decide +kernel)⟩
theorem qf_X7_103 : x_in (x_fl true RX7 103 RX0 TX0 9) := ⟨List.mem_of_getElem? (i := 224) (by decide +kernel), Or.inr (by decide +kernel)⟩
theorem qf_X7_12 : x_in (x_fl false RX7 12 RX7 TX7 0) := ⟨List.mem_of_getElem? (i := 247) (by decide +kernel), Or.inl (by decide +kernel)⟩
theorem qm_X7_76 : x_in (.methodLink RX7 76 yX3_levelOf) := ⟨List.mem_of_getElem? (i := 451) (by decide +kernel), Or.inl (by decide +kernel)⟩
theorem qd_X3_levelOf : x_in (.code yX3_levelOf cX3_levelOf 8 (some .int)) := ⟨List.mem_of_getElem? (i := 454) (by decide +kernel), Or.inl (by decide +kernel)⟩
theorem qc_X3 : x_in (.initialized RX3) := ⟨List.mem_of_getElem? (i := 82) (by decide +kernel), Or.inl (by decide +kernel)⟩
theorem qi_X3_levelOf : x_in (.instanceMethod yX3_levelOf) := ⟨List.mem_of_getElem? (i := 452) (by decide +kernel), Or.inl (by decide +kernel)⟩
theorem qs_X3_levelOf : x_in (.selects RX3 yX3_levelOf yX3_levelOf) := ⟨List.mem_of_getElem? (i := 453) (by decide +kernel), Or.inl (by decide +kernel)⟩
theorem qm_X7_72 : x_in (.methodLink RX7 72 yX0_lifts) := ⟨List.mem_of_getElem? (i := 450) (by decide +kernel), Or.inl (by decide +kernel)⟩
theorem qd_X0_lifts : x_in (.code yX0_lifts cX0_lifts 1 (some .int)) := ⟨List.mem_of_getElem? (i := 445) (by decide +kernel), Or.inl (by decide +kernel)⟩
theorem qc_X0 : x_in (.initialized RX0) := ⟨List.mem_of_getElem? (i := 86) (by decide +kernel), Or.inl (by decide +kernel)⟩
theorem qi_X0_lifts : x_in (.instanceMethod yX0_lifts) := ⟨List.mem_of_getElem? (i := 443) (by decide +kernel), Or.inl (by decide +kernel)⟩
theorem qs_X0_lifts : x_in (.selects RX0 yX0_lifts yX0_lifts) := ⟨List.mem_of_getElem? (i := 444) (by decide +kernel), Or.inl (by decide +kernel)⟩
theorem qm_X7_65 : x_in (.methodLink RX7 65 yX7_find) := ⟨List.mem_of_getElem? (i := 765) (by decide +kernel), Or.inl (by decide +kernel)⟩
theorem qd_X7_find : x_in (.code yX7_find cX7_find 2 (some (.object "LakeBooks$Account"))) := ⟨List.mem_of_getElem? (i := 441) (by decide +kernel), Or.inl (by decide +kernel)⟩
theorem qc_X7 : x_in (.initialized RX7) := ⟨List.mem_of_getElem? (i := 81) (by decide +kernel), Or.inl (by decide +kernel)⟩
theorem qi_X7_find : x_in (.instanceMethod yX7_find) := ⟨List.mem_of_getElem? (i := 439) (by decide +kernel), Or.inl (by decide +kernel)⟩
theorem qs_X7_find : x_in (.selects RX7 yX7_find yX7_find) := ⟨List.mem_of_getElem? (i := 440) (by decide +kernel), Or.inl (by decide +kernel)⟩
theorem qm_X7_57 : x_in (.methodLinkNest RX7 57 yX9_within "LakeBooks") := ⟨List.mem_of_getElem? (i := 429) (by decide +kernel), Or.inr (by decide +kernel)⟩
theorem qm_X7_61 : x_in (.methodLink RX7 61 yX0_open) := ⟨List.mem_of_getElem? (i := 430) (by decide +kernel), Or.inl (by decide +kernel)⟩
theorem qd_X0_open : x_in (.code yX0_open cX0_open 5 none) := ⟨List.mem_of_getElem? (i := 433) (by decide +kernel), Or.inl (by decide +kernel)⟩
theorem qi_X0_open : x_in (.instanceMethod yX0_open) := ⟨List.mem_of_getElem? (i := 431) (by decide +kernel), Or.inl (by decide +kernel)⟩
theorem qs_X0_open : x_in (.selects RX0 yX0_open yX0_open) := ⟨List.mem_of_getElem? (i := 432) (by decide +kernel), Or.inl (by decide +kernel)⟩
theorem qm_X7_152 : x_in (.methodLink RX7 152 yX3_copyFrom) := ⟨List.mem_of_getElem? (i := 747) (by decide +kernel), Or.inl (by decide +kernel)⟩
theorem qd_X3_copyFrom : x_in (.code yX3_copyFrom cX3_copyFrom 3 none) := ⟨List.mem_of_getElem? (i := 750) (by decide +kernel), Or.inl (by decide +kernel)⟩
theorem qi_X3_copyFrom : x_in (.instanceMethod yX3_copyFrom) := ⟨List.mem_of_getElem? (i := 748) (by decide +kernel), Or.inl (by decide +kernel)⟩
theorem qs_X3_copyFrom : x_in (.selects RX3 yX3_copyFrom yX3_copyFrom) := ⟨List.mem_of_getElem? (i := 749) (by decide +kernel), Or.inl (by decide +kernel)⟩
theorem qm_X7_156 : x_in (.methodLink RX7 156 yX0_copyFrom) := ⟨List.mem_of_getElem? (i := 751) (by decide +kernel), Or.inl (by decide +kernel)⟩
theorem qd_X0_copyFrom : x_in (.code yX0_copyFrom cX0_copyFrom 3 none) := ⟨List.mem_of_getElem? (i := 754) (by decide +kernel), Or.inl (by decide +kernel)⟩
theorem qi_X0_copyFrom : x_in (.instanceMethod yX0_copyFrom) := ⟨List.mem_of_getElem? (i := 752) (by decide +kernel), Or.inl (by decide +kernel)⟩
theorem qs_X0_copyFrom : x_in (.selects RX0 yX0_copyFrom yX0_copyFrom) := ⟨List.mem_of_getElem? (i := 753) (by decide +kernel), Or.inl (by decide +kernel)⟩
theorem qf_X7_29 : x_in (x_fl false RX7 29 RX7 TX7 2) := ⟨List.mem_of_getElem? (i := 250) (by decide +kernel), Or.inl (by decide +kernel)⟩
theorem qm_X7_159 : x_in (.methodLink RX7 159 yX6_copyFrom) := ⟨List.mem_of_getElem? (i := 755) (by decide +kernel), Or.inl (by decide +kernel)⟩
theorem qd_X6_copyFrom : x_in (.code yX6_copyFrom cX6_copyFrom 3 none) := ⟨List.mem_of_getElem? (i := 758) (by decide +kernel), Or.inl (by decide +kernel)⟩
theorem qc_X6 : x_in (.initialized RX6) := ⟨List.mem_of_getElem? (i := 83) (by decide +kernel), Or.inl (by decide +kernel)⟩
theorem qi_X6_copyFrom : x_in (.instanceMethod yX6_copyFrom) := ⟨List.mem_of_getElem? (i := 756) (by decide +kernel), Or.inl (by decide +kernel)⟩
theorem qs_X6_copyFrom : x_in (.selects RX6 yX6_copyFrom yX6_copyFrom) := ⟨List.mem_of_getElem? (i := 757) (by decide +kernel), Or.inl (by decide +kernel)⟩
theorem qf_X7_33 : x_in (x_fl false RX7 33 RX7 TX7 3) := ⟨List.mem_of_getElem? (i := 253) (by decide +kernel), Or.inl (by decide +kernel)⟩
theorem qf_X7_36 : x_in (x_fl false RX7 36 RX7 TX7 4) := ⟨List.mem_of_getElem? (i := 256) (by decide +kernel), Or.inl (by decide +kernel)⟩
theorem qf_X7_42 : x_in (x_fl false RX7 42 RX7 TX7 5) := ⟨List.mem_of_getElem? (i := 258) (by decide +kernel), Or.inl (by decide +kernel)⟩
theorem qf_X7_80 : x_in (x_fl false RX7 80 RX7 TX7 9) := ⟨List.mem_of_getElem? (i := 269) (by decide +kernel), Or.inl (by decide +kernel)⟩
theorem qf_X7_83 : x_in (x_fl false RX7 83 RX7 TX7 10) := ⟨List.mem_of_getElem? (i := 271) (by decide +kernel), Or.inl (by decide +kernel)⟩
theorem qf_X7_50 : x_in (x_fl false RX7 50 RX7 TX7 11) := ⟨List.mem_of_getElem? (i := 273) (by decide +kernel), Or.inl (by decide +kernel)⟩
theorem qm_X7_94 : x_in (.methodLink RX7 94 yX7_level) := ⟨List.mem_of_getElem? (i := 714) (by decide +kernel), Or.inl (by decide +kernel)⟩
theorem qd_X7_level : x_in (.code yX7_level cX7_level 6 (some .int)) := ⟨List.mem_of_getElem? (i := 449) (by decide +kernel), Or.inl (by decide +kernel)⟩
theorem qi_X7_level : x_in (.instanceMethod yX7_level) := ⟨List.mem_of_getElem? (i := 447) (by decide +kernel), Or.inl (by decide +kernel)⟩
theorem qs_X7_level : x_in (.selects RX7 yX7_level yX7_level) := ⟨List.mem_of_getElem? (i := 448) (by decide +kernel), Or.inl (by decide +kernel)⟩
theorem qf_X7_97 : x_in (x_fl true RX7 97 RX4 TX4 8) := ⟨List.mem_of_getElem? (i := 168) (by decide +kernel), Or.inr (by decide +kernel)⟩
theorem qm_X7_100 : x_in (.methodLink RX7 100 yX7_bucketsOf) := ⟨List.mem_of_getElem? (i := 799) (by decide +kernel), Or.inl (by decide +kernel)⟩
theorem qd_X7_bucketsOf : x_in (.code yX7_bucketsOf cX7_bucketsOf 3 (some .int)) := ⟨List.mem_of_getElem? (i := 764) (by decide +kernel), Or.inl (by decide +kernel)⟩
theorem qi_X7_bucketsOf : x_in (.instanceMethod yX7_bucketsOf) := ⟨List.mem_of_getElem? (i := 762) (by decide +kernel), Or.inl (by decide +kernel)⟩
theorem qs_X7_bucketsOf : x_in (.selects RX7 yX7_bucketsOf yX7_bucketsOf) := ⟨List.mem_of_getElem? (i := 763) (by decide +kernel), Or.inl (by decide +kernel)⟩
theorem qm_X7_86 : x_in (.methodLink RX7 86 yX4_together) := ⟨List.mem_of_getElem? (i := 468) (by decide +kernel), Or.inl (by decide +kernel)⟩
theorem qd_X4_together : x_in (.code yX4_together cX4_together 8 (some .int)) := ⟨List.mem_of_getElem? (i := 471) (by decide +kernel), Or.inl (by decide +kernel)⟩
theorem qi_X4_together : x_in (.instanceMethod yX4_together) := ⟨List.mem_of_getElem? (i := 469) (by decide +kernel), Or.inl (by decide +kernel)⟩
theorem qs_X4_together : x_in (.selects RX4 yX4_together yX4_together) := ⟨List.mem_of_getElem? (i := 470) (by decide +kernel), Or.inl (by decide +kernel)⟩
theorem qf_X7_90 : x_in (x_fl true RX7 90 RX0 TX0 2) := ⟨List.mem_of_getElem? (i := 204) (by decide +kernel), Or.inr (by decide +kernel)⟩
theorem qm_X7_106 : x_in (.methodLink RX7 106 yX7_spring) := ⟨List.mem_of_getElem? (i := 715) (by decide +kernel), Or.inl (by decide +kernel)⟩
theorem qd_X7_spring : x_in (.code yX7_spring cX7_spring 2 (some .int)) := ⟨List.mem_of_getElem? (i := 701) (by decide +kernel), Or.inl (by decide +kernel)⟩
theorem qi_X7_spring : x_in (.instanceMethod yX7_spring) := ⟨List.mem_of_getElem? (i := 699) (by decide +kernel), Or.inl (by decide +kernel)⟩
theorem qs_X7_spring : x_in (.selects RX7 yX7_spring yX7_spring) := ⟨List.mem_of_getElem? (i := 700) (by decide +kernel), Or.inl (by decide +kernel)⟩
theorem qf_X7_109 : x_in (x_fl true RX7 109 RX4 TX4 9) := ⟨List.mem_of_getElem? (i := 172) (by decide +kernel), Or.inr (by decide +kernel)⟩
theorem qm_X7_112 : x_in (.methodLink RX7 112 yX0_pours) := ⟨List.mem_of_getElem? (i := 716) (by decide +kernel), Or.inl (by decide +kernel)⟩
theorem qd_X0_pours : x_in (.code yX0_pours cX0_pours 4 (some .int)) := ⟨List.mem_of_getElem? (i := 458) (by decide +kernel), Or.inl (by decide +kernel)⟩
theorem qi_X0_pours : x_in (.instanceMethod yX0_pours) := ⟨List.mem_of_getElem? (i := 456) (by decide +kernel), Or.inl (by decide +kernel)⟩
theorem qs_X0_pours : x_in (.selects RX0 yX0_pours yX0_pours) := ⟨List.mem_of_getElem? (i := 457) (by decide +kernel), Or.inl (by decide +kernel)⟩
theorem qm_X7_119 : x_in (.methodLink RX7 119 yX7_sunOf) := ⟨List.mem_of_getElem? (i := 717) (by decide +kernel), Or.inl (by decide +kernel)⟩
theorem qd_X7_sunOf : x_in (.code yX7_sunOf cX7_sunOf 3 (some .int)) := ⟨List.mem_of_getElem? (i := 467) (by decide +kernel), Or.inl (by decide +kernel)⟩
theorem qi_X7_sunOf : x_in (.instanceMethod yX7_sunOf) := ⟨List.mem_of_getElem? (i := 465) (by decide +kernel), Or.inl (by decide +kernel)⟩
theorem qs_X7_sunOf : x_in (.selects RX7 yX7_sunOf yX7_sunOf) := ⟨List.mem_of_getElem? (i := 466) (by decide +kernel), Or.inl (by decide +kernel)⟩
theorem qm_X7_123 : x_in (.methodLink RX7 123 yX3_volumeOf) := ⟨List.mem_of_getElem? (i := 718) (by decide +kernel), Or.inl (by decide +kernel)⟩
theorem qd_X3_volumeOf : x_in (.code yX3_volumeOf cX3_volumeOf 9 (some .int)) := ⟨List.mem_of_getElem? (i := 413) (by decide +kernel), Or.inl (by decide +kernel)⟩
theorem qi_X3_volumeOf : x_in (.instanceMethod yX3_volumeOf) := ⟨List.mem_of_getElem? (i := 411) (by decide +kernel), Or.inl (by decide +kernel)⟩
theorem qs_X3_volumeOf : x_in (.selects RX3 yX3_volumeOf yX3_volumeOf) := ⟨List.mem_of_getElem? (i := 412) (by decide +kernel), Or.inl (by decide +kernel)⟩
theorem qm_X7_126 : x_in (.methodLink RX7 126 yX7_pourBy) := ⟨List.mem_of_getElem? (i := 719) (by decide +kernel), Or.inl (by decide +kernel)⟩
theorem qd_X7_pourBy : x_in (.code yX7_pourBy cX7_pourBy 5 none) := ⟨List.mem_of_getElem? (i := 722) (by decide +kernel), Or.inl (by decide +kernel)⟩
theorem qi_X7_pourBy : x_in (.instanceMethod yX7_pourBy) := ⟨List.mem_of_getElem? (i := 721) (by decide +kernel), Or.inl (by decide +kernel)⟩
theorem qs_X7_pourBy : x_in (.selects RX7 yX7_pourBy yX7_pourBy) := ⟨List.mem_of_getElem? (i := 11) (by decide +kernel), Or.inl (by decide +kernel)⟩
theorem qf_X7_136 : x_in (x_fl true RX7 136 RX4 TX4 7) := ⟨List.mem_of_getElem? (i := 166) (by decide +kernel), Or.inr (by decide +kernel)⟩
theorem qm_X7_139 : x_in (.methodLink RX7 139 yX7_spillTo) := ⟨List.mem_of_getElem? (i := 724) (by decide +kernel), Or.inl (by decide +kernel)⟩
theorem qd_X7_spillTo : x_in (.code yX7_spillTo cX7_spillTo 2 none) := ⟨List.mem_of_getElem? (i := 727) (by decide +kernel), Or.inl (by decide +kernel)⟩
theorem qi_X7_spillTo : x_in (.instanceMethod yX7_spillTo) := ⟨List.mem_of_getElem? (i := 726) (by decide +kernel), Or.inl (by decide +kernel)⟩
theorem qs_X7_spillTo : x_in (.selects RX7 yX7_spillTo yX7_spillTo) := ⟨List.mem_of_getElem? (i := 12) (by decide +kernel), Or.inl (by decide +kernel)⟩
theorem qm_X7_142 : x_in (.methodLink RX7 142 yX0_holdBuckets) := ⟨List.mem_of_getElem? (i := 730) (by decide +kernel), Or.inl (by decide +kernel)⟩
theorem qd_X0_holdBuckets : x_in (.code yX0_holdBuckets cX0_holdBuckets 1 none) := ⟨List.mem_of_getElem? (i := 733) (by decide +kernel), Or.inl (by decide +kernel)⟩
theorem qi_X0_holdBuckets : x_in (.instanceMethod yX0_holdBuckets) := ⟨List.mem_of_getElem? (i := 731) (by decide +kernel), Or.inl (by decide +kernel)⟩
theorem qs_X0_holdBuckets : x_in (.selects RX0 yX0_holdBuckets yX0_holdBuckets) := ⟨List.mem_of_getElem? (i := 732) (by decide +kernel), Or.inl (by decide +kernel)⟩
theorem qf_X2_12 : x_in (x_fl false RX2 12 RX2 TX2 0) := ⟨List.mem_of_getElem? (i := 308) (by decide +kernel), Or.inl (by decide +kernel)⟩
theorem qf_X2_118 : x_in (x_fl true RX2 118 RX7 TX7 2) := ⟨List.mem_of_getElem? (i := 251) (by decide +kernel), Or.inr (by decide +kernel)⟩
theorem qm_X2_29 : x_in (.methodLink RX2 29 yX6_size) := ⟨List.mem_of_getElem? (i := 909) (by decide +kernel), Or.inl (by decide +kernel)⟩
theorem qd_X6_size : x_in (.code yX6_size cX6_size 1 (some .int)) := ⟨List.mem_of_getElem? (i := 912) (by decide +kernel), Or.inl (by decide +kernel)⟩
theorem qi_X6_size : x_in (.instanceMethod yX6_size) := ⟨List.mem_of_getElem? (i := 910) (by decide +kernel), Or.inl (by decide +kernel)⟩
theorem qs_X6_size : x_in (.selects RX6 yX6_size yX6_size) := ⟨List.mem_of_getElem? (i := 911) (by decide +kernel), Or.inl (by decide +kernel)⟩
theorem qm_X2_35 : x_in (.methodLink RX2 35 yX6_first) := ⟨List.mem_of_getElem? (i := 913) (by decide +kernel), Or.inl (by decide +kernel)⟩
theorem qd_X6_first : x_in (.code yX6_first cX6_first 2 (some .int)) := ⟨List.mem_of_getElem? (i := 916) (by decide +kernel), Or.inl (by decide +kernel)⟩
theorem qi_X6_first : x_in (.instanceMethod yX6_first) := ⟨List.mem_of_getElem? (i := 914) (by decide +kernel), Or.inl (by decide +kernel)⟩
theorem qs_X6_first : x_in (.selects RX6 yX6_first yX6_first) := ⟨List.mem_of_getElem? (i := 915) (by decide +kernel), Or.inl (by decide +kernel)⟩
theorem qm_X2_121 : x_in (.methodLink RX2 121 Lib.Math.max.name) := ⟨List.mem_of_getElem? (i := 917) (by decide +kernel), Or.inl (by decide +kernel)⟩
theorem qm_X2_43 : x_in (.methodLink RX2 43 yX6_second) := ⟨List.mem_of_getElem? (i := 922) (by decide +kernel), Or.inl (by decide +kernel)⟩
theorem qd_X6_second : x_in (.code yX6_second cX6_second 2 (some .int)) := ⟨List.mem_of_getElem? (i := 925) (by decide +kernel), Or.inl (by decide +kernel)⟩
theorem qi_X6_second : x_in (.instanceMethod yX6_second) := ⟨List.mem_of_getElem? (i := 923) (by decide +kernel), Or.inl (by decide +kernel)⟩
theorem qs_X6_second : x_in (.selects RX6 yX6_second yX6_second) := ⟨List.mem_of_getElem? (i := 924) (by decide +kernel), Or.inl (by decide +kernel)⟩
theorem qm_X2_56 : x_in (.methodLink RX2 56 yX7_level) := ⟨List.mem_of_getElem? (i := 786) (by decide +kernel), Or.inl (by decide +kernel)⟩
theorem qm_X2_18 : x_in (.methodLink RX2 18 yX7_copyFrom) := ⟨List.mem_of_getElem? (i := 743) (by decide +kernel), Or.inl (by decide +kernel)⟩
theorem qd_X7_copyFrom : x_in (.code yX7_copyFrom cX7_copyFrom 3 none) := ⟨List.mem_of_getElem? (i := 746) (by decide +kernel), Or.inl (by decide +kernel)⟩
theorem qi_X7_copyFrom : x_in (.instanceMethod yX7_copyFrom) := ⟨List.mem_of_getElem? (i := 744) (by decide +kernel), Or.inl (by decide +kernel)⟩
theorem qs_X7_copyFrom : x_in (.selects RX7 yX7_copyFrom yX7_copyFrom) := ⟨List.mem_of_getElem? (i := 745) (by decide +kernel), Or.inl (by decide +kernel)⟩
theorem qm_X2_39 : x_in (.methodLink RX2 39 yX7_find) := ⟨List.mem_of_getElem? (i := 808) (by decide +kernel), Or.inl (by decide +kernel)⟩
theorem qf_X2_108 : x_in (x_fl true RX2 108 RX0 TX0 2) := ⟨List.mem_of_getElem? (i := 205) (by decide +kernel), Or.inr (by decide +kernel)⟩
theorem qm_X2_22 : x_in (.methodLink RX2 22 yX7_pass) := ⟨List.mem_of_getElem? (i := 760) (by decide +kernel), Or.inl (by decide +kernel)⟩
theorem qd_X7_pass : x_in (.code yX7_pass cX7_pass 8 none) := ⟨List.mem_of_getElem? (i := 713) (by decide +kernel), Or.inl (by decide +kernel)⟩
theorem qi_X7_pass : x_in (.instanceMethod yX7_pass) := ⟨List.mem_of_getElem? (i := 711) (by decide +kernel), Or.inl (by decide +kernel)⟩
theorem qs_X7_pass : x_in (.selects RX7 yX7_pass yX7_pass) := ⟨List.mem_of_getElem? (i := 712) (by decide +kernel), Or.inl (by decide +kernel)⟩
theorem qf_X2_25 : x_in (x_fl true RX2 25 RX7 TX7 3) := ⟨List.mem_of_getElem? (i := 254) (by decide +kernel), Or.inr (by decide +kernel)⟩
theorem qf_X2_46 : x_in (x_fl true RX2 46 RX0 TX0 6) := ⟨List.mem_of_getElem? (i := 218) (by decide +kernel), Or.inr (by decide +kernel)⟩
theorem qm_X2_52 : x_in (.methodLink RX2 52 yX7_isDry) := ⟨List.mem_of_getElem? (i := 774) (by decide +kernel), Or.inl (by decide +kernel)⟩
theorem qd_X7_isDry : x_in (.code yX7_isDry cX7_isDry 1 (some .boolean)) := ⟨List.mem_of_getElem? (i := 777) (by decide +kernel), Or.inl (by decide +kernel)⟩
theorem qi_X7_isDry : x_in (.instanceMethod yX7_isDry) := ⟨List.mem_of_getElem? (i := 775) (by decide +kernel), Or.inl (by decide +kernel)⟩
theorem qs_X7_isDry : x_in (.selects RX7 yX7_isDry yX7_isDry) := ⟨List.mem_of_getElem? (i := 776) (by decide +kernel), Or.inl (by decide +kernel)⟩
theorem qm_X2_59 : x_in (.methodLink RX2 59 yX7_firstBelow) := ⟨List.mem_of_getElem? (i := 795) (by decide +kernel), Or.inl (by decide +kernel)⟩
theorem qd_X7_firstBelow : x_in (.code yX7_firstBelow cX7_firstBelow 3 (some .int)) := ⟨List.mem_of_getElem? (i := 798) (by decide +kernel), Or.inl (by decide +kernel)⟩
theorem qi_X7_firstBelow : x_in (.instanceMethod yX7_firstBelow) := ⟨List.mem_of_getElem? (i := 796) (by decide +kernel), Or.inl (by decide +kernel)⟩
theorem qs_X7_firstBelow : x_in (.selects RX7 yX7_firstBelow yX7_firstBelow) := ⟨List.mem_of_getElem? (i := 797) (by decide +kernel), Or.inl (by decide +kernel)⟩
theorem qm_X2_66 : x_in (.methodLink RX2 66 yX7_bucketsOf) := ⟨List.mem_of_getElem? (i := 821) (by decide +kernel), Or.inl (by decide +kernel)⟩
theorem qm_X9_323 : x_in (.methodLink RX9 323 yX9_commonDivisor) := ⟨List.mem_of_getElem? (i := 869) (by decide +kernel), Or.inl (by decide +kernel)⟩
theorem qd_X9_commonDivisor : x_in (.code yX9_commonDivisor cX9_commonDivisor 11 (some .long)) := ⟨List.mem_of_getElem? (i := 871) (by decide +kernel), Or.inl (by decide +kernel)⟩
theorem qt_X9_commonDivisor : x_in (.static yX9_commonDivisor) := ⟨List.mem_of_getElem? (i := 870) (by decide +kernel), Or.inl (by decide +kernel)⟩
theorem qk_X9_209 : x_in (.constantLong RX9 209 (-9223372036854775808)) := ⟨List.mem_of_getElem? (i := 857) (by decide +kernel), Or.inl (by decide +kernel)⟩
theorem qm_X2_89 : x_in (.methodLinkNest RX2 89 yX9_lowestTerms "LakeBooks") := ⟨List.mem_of_getElem? (i := 866) (by decide +kernel), Or.inr (by decide +kernel)⟩
theorem qd_X9_lowestTerms : x_in (.code yX9_lowestTerms cX9_lowestTerms 7 (some .long)) := ⟨List.mem_of_getElem? (i := 868) (by decide +kernel), Or.inl (by decide +kernel)⟩
theorem qt_X9_lowestTerms : x_in (.static yX9_lowestTerms) := ⟨List.mem_of_getElem? (i := 867) (by decide +kernel), Or.inl (by decide +kernel)⟩
theorem qf_X2_83 : x_in (x_fl true RX2 83 RX0 TX0 9) := ⟨List.mem_of_getElem? (i := 225) (by decide +kernel), Or.inr (by decide +kernel)⟩
theorem qm_X2_86 : x_in (.methodLink RX2 86 yX7_sunOfDay) := ⟨List.mem_of_getElem? (i := 862) (by decide +kernel), Or.inl (by decide +kernel)⟩
theorem qd_X7_sunOfDay : x_in (.code yX7_sunOfDay cX7_sunOfDay 6 (some .int)) := ⟨List.mem_of_getElem? (i := 865) (by decide +kernel), Or.inl (by decide +kernel)⟩
theorem qi_X7_sunOfDay : x_in (.instanceMethod yX7_sunOfDay) := ⟨List.mem_of_getElem? (i := 863) (by decide +kernel), Or.inl (by decide +kernel)⟩
theorem qs_X7_sunOfDay : x_in (.selects RX7 yX7_sunOfDay yX7_sunOfDay) := ⟨List.mem_of_getElem? (i := 864) (by decide +kernel), Or.inl (by decide +kernel)⟩
theorem qm_X2_112 : x_in (.methodLink RX2 112 yX2_lastSeen) := ⟨List.mem_of_getElem? (i := 905) (by decide +kernel), Or.inl (by decide +kernel)⟩
theorem qd_X2_lastSeen : x_in (.code yX2_lastSeen cX2_lastSeen 3 (some .int)) := ⟨List.mem_of_getElem? (i := 908) (by decide +kernel), Or.inl (by decide +kernel)⟩
theorem qc_X2 : x_in (.initialized RX2) := ⟨List.mem_of_getElem? (i := 87) (by decide +kernel), Or.inl (by decide +kernel)⟩
theorem qi_X2_lastSeen : x_in (.instanceMethod yX2_lastSeen) := ⟨List.mem_of_getElem? (i := 907) (by decide +kernel), Or.inl (by decide +kernel)⟩
theorem qs_X2_lastSeen : x_in (.selects RX2 yX2_lastSeen yX2_lastSeen) := ⟨List.mem_of_getElem? (i := 16) (by decide +kernel), Or.inl (by decide +kernel)⟩
theorem qm_X2_115 : x_in (.methodLink RX2 115 yX2_isAsSeenOn) := ⟨List.mem_of_getElem? (i := 918) (by decide +kernel), Or.inl (by decide +kernel)⟩
theorem qd_X2_isAsSeenOn : x_in (.code yX2_isAsSeenOn cX2_isAsSeenOn 3 (some .boolean)) := ⟨List.mem_of_getElem? (i := 921) (by decide +kernel), Or.inl (by decide +kernel)⟩
theorem qi_X2_isAsSeenOn : x_in (.instanceMethod yX2_isAsSeenOn) := ⟨List.mem_of_getElem? (i := 920) (by decide +kernel), Or.inl (by decide +kernel)⟩
theorem qs_X2_isAsSeenOn : x_in (.selects RX2 yX2_isAsSeenOn yX2_isAsSeenOn) := ⟨List.mem_of_getElem? (i := 17) (by decide +kernel), Or.inl (by decide +kernel)⟩
theorem qm_X2_62 : x_in (.methodLink RX2 62 yX2_staysWet) := ⟨List.mem_of_getElem? (i := 809) (by decide +kernel), Or.inl (by decide +kernel)⟩
theorem qd_X2_staysWet : x_in (.code yX2_staysWet cX2_staysWet 3 (some .boolean)) := ⟨List.mem_of_getElem? (i := 812) (by decide +kernel), Or.inl (by decide +kernel)⟩
theorem qi_X2_staysWet : x_in (.instanceMethod yX2_staysWet) := ⟨List.mem_of_getElem? (i := 811) (by decide +kernel), Or.inl (by decide +kernel)⟩
theorem qs_X2_staysWet : x_in (.selects RX2 yX2_staysWet yX2_staysWet) := ⟨List.mem_of_getElem? (i := 13) (by decide +kernel), Or.inl (by decide +kernel)⟩
theorem qm_X2_69 : x_in (.methodLink RX2 69 yX2_after) := ⟨List.mem_of_getElem? (i := 836) (by decide +kernel), Or.inl (by decide +kernel)⟩
theorem qd_X2_after : x_in (.code yX2_after cX2_after 4 (some (.object "LakeBooks$State"))) := ⟨List.mem_of_getElem? (i := 742) (by decide +kernel), Or.inl (by decide +kernel)⟩
theorem qi_X2_after : x_in (.instanceMethod yX2_after) := ⟨List.mem_of_getElem? (i := 740) (by decide +kernel), Or.inl (by decide +kernel)⟩
theorem qs_X2_after : x_in (.selects RX2 yX2_after yX2_after) := ⟨List.mem_of_getElem? (i := 741) (by decide +kernel), Or.inl (by decide +kernel)⟩
theorem qf_X2_73 : x_in (x_fl true RX2 73 RX7 TX7 7) := ⟨List.mem_of_getElem? (i := 265) (by decide +kernel), Or.inr (by decide +kernel)⟩
theorem qm_X2_76 : x_in (.methodLink RX2 76 yX2_beginWithout) := ⟨List.mem_of_getElem? (i := 837) (by decide +kernel), Or.inl (by decide +kernel)⟩
theorem qd_X2_beginWithout : x_in (.code yX2_beginWithout cX2_beginWithout 4 none) := ⟨List.mem_of_getElem? (i := 840) (by decide +kernel), Or.inl (by decide +kernel)⟩
theorem qi_X2_beginWithout : x_in (.instanceMethod yX2_beginWithout) := ⟨List.mem_of_getElem? (i := 839) (by decide +kernel), Or.inl (by decide +kernel)⟩
theorem qs_X2_beginWithout : x_in (.selects RX2 yX2_beginWithout yX2_beginWithout) := ⟨List.mem_of_getElem? (i := 14) (by decide +kernel), Or.inl (by decide +kernel)⟩
theorem qf_X2_80 : x_in (x_fl true RX2 80 RX7 TX7 10) := ⟨List.mem_of_getElem? (i := 272) (by decide +kernel), Or.inr (by decide +kernel)⟩
theorem qm_X2_96 : x_in (.methodLink RX2 96 yX2_goesAsSeen) := ⟨List.mem_of_getElem? (i := 901) (by decide +kernel), Or.inl (by decide +kernel)⟩
theorem qd_X2_goesAsSeen : x_in (.code yX2_goesAsSeen cX2_goesAsSeen 3 (some .boolean)) := ⟨List.mem_of_getElem? (i := 904) (by decide +kernel), Or.inl (by decide +kernel)⟩
theorem qi_X2_goesAsSeen : x_in (.instanceMethod yX2_goesAsSeen) := ⟨List.mem_of_getElem? (i := 903) (by decide +kernel), Or.inl (by decide +kernel)⟩
theorem qs_X2_goesAsSeen : x_in (.selects RX2 yX2_goesAsSeen yX2_goesAsSeen) := ⟨List.mem_of_getElem? (i := 15) (by decide +kernel), Or.inl (by decide +kernel)⟩
theorem qf_X2_93 : x_in (x_fl true RX2 93 RX0 TX0 7) := ⟨List.mem_of_getElem? (i := 222) (by decide +kernel), Or.inr (by decide +kernel)⟩
theorem qf_X2_99 : x_in (x_fl true RX2 99 RX7 TX7 6) := ⟨List.mem_of_getElem? (i := 261) (by decide +kernel), Or.inr (by decide +kernel)⟩
theorem qf_X2_102 : x_in (x_fl true RX2 102 RX7 TX7 9) := ⟨List.mem_of_getElem? (i := 270) (by decide +kernel), Or.inr (by decide +kernel)⟩
theorem qf_X2_105 : x_in (x_fl true RX2 105 RX7 TX7 11) := ⟨List.mem_of_getElem? (i := 274) (by decide +kernel), Or.inr (by decide +kernel)⟩
theorem qm_X9_56 : x_in (.methodLink RX9 56 yX9_within) := ⟨List.mem_of_getElem? (i := 396) (by decide +kernel), Or.inl (by decide +kernel)⟩
theorem qf_X9_12 : x_in (x_fl false RX9 12 RX9 TX9 0) := ⟨List.mem_of_getElem? (i := 364) (by decide +kernel), Or.inl (by decide +kernel)⟩
theorem qf_X9_60 : x_in (x_fl true RX9 60 RX7 TX7 0) := ⟨List.mem_of_getElem? (i := 248) (by decide +kernel), Or.inr (by decide +kernel)⟩
theorem qm_X9_70 : x_in (.methodLink RX9 70 yX3_volumeOf) := ⟨List.mem_of_getElem? (i := 410) (by decide +kernel), Or.inl (by decide +kernel)⟩
theorem qf_X9_136 : x_in (x_fl true RX9 136 RX7 TX7 7) := ⟨List.mem_of_getElem? (i := 264) (by decide +kernel), Or.inr (by decide +kernel)⟩
theorem qf_X9_43 : x_in (x_fl false RX9 43 RX9 TX9 5) := ⟨List.mem_of_getElem? (i := 369) (by decide +kernel), Or.inl (by decide +kernel)⟩
theorem qf_X9_50 : x_in (x_fl false RX9 50 RX9 TX9 6) := ⟨List.mem_of_getElem? (i := 370) (by decide +kernel), Or.inl (by decide +kernel)⟩
theorem qm_X9_293 : x_in (.methodLink RX9 293 yX1_bodyAt) := ⟨List.mem_of_getElem? (i := 1036) (by decide +kernel), Or.inl (by decide +kernel)⟩
theorem qd_X1_bodyAt : x_in (.code yX1_bodyAt cX1_bodyAt 2 (some .int)) := ⟨List.mem_of_getElem? (i := 1039) (by decide +kernel), Or.inl (by decide +kernel)⟩
theorem qi_X1_bodyAt : x_in (.instanceMethod yX1_bodyAt) := ⟨List.mem_of_getElem? (i := 1037) (by decide +kernel), Or.inl (by decide +kernel)⟩
theorem qs_X1_bodyAt : x_in (.selects RX1 yX1_bodyAt yX1_bodyAt) := ⟨List.mem_of_getElem? (i := 1038) (by decide +kernel), Or.inl (by decide +kernel)⟩
theorem qm_X9_320 : x_in (.methodLink RX9 320 yX9_kindAbove) := ⟨List.mem_of_getElem? (i := 1047) (by decide +kernel), Or.inl (by decide +kernel)⟩
theorem qf_X9_272 : x_in (x_fl true RX9 272 RX7 TX7 6) := ⟨List.mem_of_getElem? (i := 262) (by decide +kernel), Or.inr (by decide +kernel)⟩
theorem qf_X9_142 : x_in (x_fl false RX9 142 RX9 TX9 8) := ⟨List.mem_of_getElem? (i := 372) (by decide +kernel), Or.inl (by decide +kernel)⟩
theorem qf_X9_218 : x_in (x_fl true RX9 218 RX7 TX7 2) := ⟨List.mem_of_getElem? (i := 252) (by decide +kernel), Or.inr (by decide +kernel)⟩
theorem qm_X9_252 : x_in (.methodLink RX9 252 yX6_size) := ⟨List.mem_of_getElem? (i := 970) (by decide +kernel), Or.inl (by decide +kernel)⟩
theorem qf_X9_242 : x_in (x_fl true RX9 242 RX7 TX7 3) := ⟨List.mem_of_getElem? (i := 255) (by decide +kernel), Or.inr (by decide +kernel)⟩
theorem qf_X9_249 : x_in (x_fl true RX9 249 RX7 TX7 4) := ⟨List.mem_of_getElem? (i := 257) (by decide +kernel), Or.inr (by decide +kernel)⟩
theorem qf_X9_31 : x_in (x_fl false RX9 31 RX9 TX9 3) := ⟨List.mem_of_getElem? (i := 367) (by decide +kernel), Or.inl (by decide +kernel)⟩
theorem qm_X9_299 : x_in (.methodLink RX9 299 yX5_length) := ⟨List.mem_of_getElem? (i := 1052) (by decide +kernel), Or.inl (by decide +kernel)⟩
theorem qd_X5_length : x_in (.code yX5_length cX5_length 1 (some .int)) := ⟨List.mem_of_getElem? (i := 1055) (by decide +kernel), Or.inl (by decide +kernel)⟩
theorem qi_X5_length : x_in (.instanceMethod yX5_length) := ⟨List.mem_of_getElem? (i := 1053) (by decide +kernel), Or.inl (by decide +kernel)⟩
theorem qs_X5_length : x_in (.selects RX5 yX5_length yX5_length) := ⟨List.mem_of_getElem? (i := 1054) (by decide +kernel), Or.inl (by decide +kernel)⟩
theorem qm_X9_302 : x_in (.methodLink RX9 302 yX1_ran) := ⟨List.mem_of_getElem? (i := 1056) (by decide +kernel), Or.inl (by decide +kernel)⟩
theorem qd_X1_ran : x_in (.code yX1_ran cX1_ran 1 (some .int)) := ⟨List.mem_of_getElem? (i := 1059) (by decide +kernel), Or.inl (by decide +kernel)⟩
theorem qi_X1_ran : x_in (.instanceMethod yX1_ran) := ⟨List.mem_of_getElem? (i := 1057) (by decide +kernel), Or.inl (by decide +kernel)⟩
theorem qs_X1_ran : x_in (.selects RX1 yX1_ran yX1_ran) := ⟨List.mem_of_getElem? (i := 1058) (by decide +kernel), Or.inl (by decide +kernel)⟩
theorem qm_X9_64 : x_in (.methodLink RX9 64 yX3_change) := ⟨List.mem_of_getElem? (i := 399) (by decide +kernel), Or.inl (by decide +kernel)⟩
theorem qd_X3_change : x_in (.code yX3_change cX3_change 4 (some .int)) := ⟨List.mem_of_getElem? (i := 402) (by decide +kernel), Or.inl (by decide +kernel)⟩
theorem qi_X3_change : x_in (.instanceMethod yX3_change) := ⟨List.mem_of_getElem? (i := 400) (by decide +kernel), Or.inl (by decide +kernel)⟩
theorem qs_X3_change : x_in (.selects RX3 yX3_change yX3_change) := ⟨List.mem_of_getElem? (i := 401) (by decide +kernel), Or.inl (by decide +kernel)⟩
theorem qm_X9_74 : x_in (.methodLink RX9 74 yX9_isDaily) := ⟨List.mem_of_getElem? (i := 422) (by decide +kernel), Or.inl (by decide +kernel)⟩
theorem qd_X9_isDaily : x_in (.code yX9_isDaily cX9_isDaily 1 (some .boolean)) := ⟨List.mem_of_getElem? (i := 424) (by decide +kernel), Or.inl (by decide +kernel)⟩
theorem qt_X9_isDaily : x_in (.static yX9_isDaily) := ⟨List.mem_of_getElem? (i := 423) (by decide +kernel), Or.inl (by decide +kernel)⟩
theorem qm_X9_78 : x_in (.methodLink RX9 78 yX7_open) := ⟨List.mem_of_getElem? (i := 425) (by decide +kernel), Or.inl (by decide +kernel)⟩
theorem qd_X7_open : x_in (.code yX7_open cX7_open 4 (some .int)) := ⟨List.mem_of_getElem? (i := 428) (by decide +kernel), Or.inl (by decide +kernel)⟩
theorem qi_X7_open : x_in (.instanceMethod yX7_open) := ⟨List.mem_of_getElem? (i := 426) (by decide +kernel), Or.inl (by decide +kernel)⟩
theorem qs_X7_open : x_in (.selects RX7 yX7_open yX7_open) := ⟨List.mem_of_getElem? (i := 427) (by decide +kernel), Or.inl (by decide +kernel)⟩
theorem qm_X9_82 : x_in (.methodLink RX9 82 yX7_find) := ⟨List.mem_of_getElem? (i := 438) (by decide +kernel), Or.inl (by decide +kernel)⟩
theorem qf_X9_86 : x_in (x_fl true RX9 86 RX0 TX0 3) := ⟨List.mem_of_getElem? (i := 208) (by decide +kernel), Or.inr (by decide +kernel)⟩
theorem qm_X9_133 : x_in (.methodLink RX9 133 yX0_changeRow) := ⟨List.mem_of_getElem? (i := 499) (by decide +kernel), Or.inl (by decide +kernel)⟩
theorem qd_X0_changeRow : x_in (.code yX0_changeRow cX0_changeRow 4 (some .int)) := ⟨List.mem_of_getElem? (i := 502) (by decide +kernel), Or.inl (by decide +kernel)⟩
theorem qi_X0_changeRow : x_in (.instanceMethod yX0_changeRow) := ⟨List.mem_of_getElem? (i := 500) (by decide +kernel), Or.inl (by decide +kernel)⟩
theorem qs_X0_changeRow : x_in (.selects RX0 yX0_changeRow yX0_changeRow) := ⟨List.mem_of_getElem? (i := 501) (by decide +kernel), Or.inl (by decide +kernel)⟩
theorem qm_X9_139 : x_in (.methodLink RX9 139 yX5_add) := ⟨List.mem_of_getElem? (i := 511) (by decide +kernel), Or.inl (by decide +kernel)⟩
theorem qd_X5_add : x_in (.code yX5_add cX5_add 2 (some .int)) := ⟨List.mem_of_getElem? (i := 514) (by decide +kernel), Or.inl (by decide +kernel)⟩
theorem qi_X5_add : x_in (.instanceMethod yX5_add) := ⟨List.mem_of_getElem? (i := 512) (by decide +kernel), Or.inl (by decide +kernel)⟩
theorem qs_X5_add : x_in (.selects RX5 yX5_add yX5_add) := ⟨List.mem_of_getElem? (i := 513) (by decide +kernel), Or.inl (by decide +kernel)⟩
theorem qm_X9_108 : x_in (.methodLink RX9 108 yX7_level) := ⟨List.mem_of_getElem? (i := 446) (by decide +kernel), Or.inl (by decide +kernel)⟩
theorem qm_X9_195 : x_in (.methodLink RX9 195 yX3_levelOf) := ⟨List.mem_of_getElem? (i := 826) (by decide +kernel), Or.inl (by decide +kernel)⟩
theorem qm_X9_226 : x_in (.methodLink RX9 226 yX6_add) := ⟨List.mem_of_getElem? (i := 888) (by decide +kernel), Or.inl (by decide +kernel)⟩
theorem qd_X6_add : x_in (.code yX6_add cX6_add 3 (some .int)) := ⟨List.mem_of_getElem? (i := 891) (by decide +kernel), Or.inl (by decide +kernel)⟩
theorem qi_X6_add : x_in (.instanceMethod yX6_add) := ⟨List.mem_of_getElem? (i := 889) (by decide +kernel), Or.inl (by decide +kernel)⟩
theorem qs_X6_add : x_in (.selects RX6 yX6_add yX6_add) := ⟨List.mem_of_getElem? (i := 890) (by decide +kernel), Or.inl (by decide +kernel)⟩
theorem qm_X9_222 : x_in (.methodLink RX9 222 yX6_clear) := ⟨List.mem_of_getElem? (i := 884) (by decide +kernel), Or.inl (by decide +kernel)⟩
theorem qd_X6_clear : x_in (.code yX6_clear cX6_clear 1 (some .int)) := ⟨List.mem_of_getElem? (i := 887) (by decide +kernel), Or.inl (by decide +kernel)⟩
theorem qi_X6_clear : x_in (.instanceMethod yX6_clear) := ⟨List.mem_of_getElem? (i := 885) (by decide +kernel), Or.inl (by decide +kernel)⟩
theorem qs_X6_clear : x_in (.selects RX6 yX6_clear yX6_clear) := ⟨List.mem_of_getElem? (i := 886) (by decide +kernel), Or.inl (by decide +kernel)⟩
theorem qm_X9_255 : x_in (.methodLink RX9 255 yX6_first) := ⟨List.mem_of_getElem? (i := 971) (by decide +kernel), Or.inl (by decide +kernel)⟩
theorem qm_X9_174 : x_in (.methodLink RX9 174 yX7_bucketsOf) := ⟨List.mem_of_getElem? (i := 761) (by decide +kernel), Or.inl (by decide +kernel)⟩
theorem qm_X9_258 : x_in (.methodLink RX9 258 yX6_second) := ⟨List.mem_of_getElem? (i := 972) (by decide +kernel), Or.inl (by decide +kernel)⟩
theorem qm_X9_261 : x_in (.methodLink RX9 261 yX9_findTape) := ⟨List.mem_of_getElem? (i := 977) (by decide +kernel), Or.inl (by decide +kernel)⟩
theorem qd_X9_findTape : x_in (.code yX9_findTape cX9_findTape 2 (some (.object "LakeBooks$Tape"))) := ⟨List.mem_of_getElem? (i := 980) (by decide +kernel), Or.inl (by decide +kernel)⟩
theorem qi_X9_findTape : x_in (.instanceMethod yX9_findTape) := ⟨List.mem_of_getElem? (i := 979) (by decide +kernel), Or.inl (by decide +kernel)⟩
theorem qs_X9_findTape : x_in (.selects RX9 yX9_findTape yX9_findTape) := ⟨List.mem_of_getElem? (i := 18) (by decide +kernel), Or.inl (by decide +kernel)⟩
theorem qm_X9_265 : x_in (.methodLink RX9 265 yX8_isEmpty) := ⟨List.mem_of_getElem? (i := 981) (by decide +kernel), Or.inl (by decide +kernel)⟩
theorem qd_X8_isEmpty : x_in (.code yX8_isEmpty cX8_isEmpty 1 (some .boolean)) := ⟨List.mem_of_getElem? (i := 984) (by decide +kernel), Or.inl (by decide +kernel)⟩
theorem qi_X8_isEmpty : x_in (.instanceMethod yX8_isEmpty) := ⟨List.mem_of_getElem? (i := 982) (by decide +kernel), Or.inl (by decide +kernel)⟩
theorem qs_X8_isEmpty : x_in (.selects RX8 yX8_isEmpty yX8_isEmpty) := ⟨List.mem_of_getElem? (i := 983) (by decide +kernel), Or.inl (by decide +kernel)⟩
theorem qf_X9_275 : x_in (x_fl true RX9 275 RX8 TX8 2) := ⟨List.mem_of_getElem? (i := 355) (by decide +kernel), Or.inr (by decide +kernel)⟩
theorem qm_X9_277 : x_in (.methodLink RX9 277 yX8_get) := ⟨List.mem_of_getElem? (i := 985) (by decide +kernel), Or.inl (by decide +kernel)⟩
theorem qd_X8_get : x_in (.code yX8_get cX8_get 2 (some .long)) := ⟨List.mem_of_getElem? (i := 988) (by decide +kernel), Or.inl (by decide +kernel)⟩
theorem qi_X8_get : x_in (.instanceMethod yX8_get) := ⟨List.mem_of_getElem? (i := 986) (by decide +kernel), Or.inl (by decide +kernel)⟩
theorem qs_X8_get : x_in (.selects RX8 yX8_get yX8_get) := ⟨List.mem_of_getElem? (i := 987) (by decide +kernel), Or.inl (by decide +kernel)⟩
theorem qf_X9_269 : x_in (x_fl true RX9 269 RX8 TX8 1) := ⟨List.mem_of_getElem? (i := 353) (by decide +kernel), Or.inr (by decide +kernel)⟩
theorem qm_X9_296 : x_in (.methodLink RX9 296 yX9_isOrUnder) := ⟨List.mem_of_getElem? (i := 1044) (by decide +kernel), Or.inl (by decide +kernel)⟩
theorem qd_X9_isOrUnder : x_in (.code yX9_isOrUnder cX9_isOrUnder 4 (some .boolean)) := ⟨List.mem_of_getElem? (i := 1046) (by decide +kernel), Or.inl (by decide +kernel)⟩
theorem qt_X9_isOrUnder : x_in (.static yX9_isOrUnder) := ⟨List.mem_of_getElem? (i := 1045) (by decide +kernel), Or.inl (by decide +kernel)⟩
theorem qm_X9_305 : x_in (.methodLink RX9 305 yX8_become) := ⟨List.mem_of_getElem? (i := 1064) (by decide +kernel), Or.inl (by decide +kernel)⟩
theorem qd_X8_become : x_in (.code yX8_become cX8_become 4 (some .int)) := ⟨List.mem_of_getElem? (i := 1067) (by decide +kernel), Or.inl (by decide +kernel)⟩
theorem qi_X8_become : x_in (.instanceMethod yX8_become) := ⟨List.mem_of_getElem? (i := 1065) (by decide +kernel), Or.inl (by decide +kernel)⟩
theorem qs_X8_become : x_in (.selects RX8 yX8_become yX8_become) := ⟨List.mem_of_getElem? (i := 1066) (by decide +kernel), Or.inl (by decide +kernel)⟩
theorem qm_X9_308 : x_in (.methodLink RX9 308 yX8_put) := ⟨List.mem_of_getElem? (i := 1074) (by decide +kernel), Or.inl (by decide +kernel)⟩
theorem qd_X8_put : x_in (.code yX8_put cX8_put 4 (some .boolean)) := ⟨List.mem_of_getElem? (i := 1077) (by decide +kernel), Or.inl (by decide +kernel)⟩
theorem qi_X8_put : x_in (.instanceMethod yX8_put) := ⟨List.mem_of_getElem? (i := 1075) (by decide +kernel), Or.inl (by decide +kernel)⟩
theorem qs_X8_put : x_in (.selects RX8 yX8_put yX8_put) := ⟨List.mem_of_getElem? (i := 1076) (by decide +kernel), Or.inl (by decide +kernel)⟩
theorem qm_X9_312 : x_in (.methodLink RX9 312 yX8_takeFrom) := ⟨List.mem_of_getElem? (i := 1090) (by decide +kernel), Or.inl (by decide +kernel)⟩
theorem qd_X8_takeFrom : x_in (.code yX8_takeFrom cX8_takeFrom 5 (some .boolean)) := ⟨List.mem_of_getElem? (i := 1093) (by decide +kernel), Or.inl (by decide +kernel)⟩
theorem qi_X8_takeFrom : x_in (.instanceMethod yX8_takeFrom) := ⟨List.mem_of_getElem? (i := 1091) (by decide +kernel), Or.inl (by decide +kernel)⟩
theorem qs_X8_takeFrom : x_in (.selects RX8 yX8_takeFrom yX8_takeFrom) := ⟨List.mem_of_getElem? (i := 1092) (by decide +kernel), Or.inl (by decide +kernel)⟩
theorem qm_X9_128 : x_in (.methodLink RX9 128 yX9_maySet) := ⟨List.mem_of_getElem? (i := 488) (by decide +kernel), Or.inl (by decide +kernel)⟩
theorem qd_X9_maySet : x_in (.code yX9_maySet cX9_maySet 2 (some .boolean)) := ⟨List.mem_of_getElem? (i := 490) (by decide +kernel), Or.inl (by decide +kernel)⟩
theorem qt_X9_maySet : x_in (.static yX9_maySet) := ⟨List.mem_of_getElem? (i := 489) (by decide +kernel), Or.inl (by decide +kernel)⟩
theorem qm_X9_132 : x_in (.methodLink RX9 132 yX0_change) := ⟨List.mem_of_getElem? (i := 491) (by decide +kernel), Or.inl (by decide +kernel)⟩
theorem qd_X0_change : x_in (.code yX0_change cX0_change 4 (some .int)) := ⟨List.mem_of_getElem? (i := 494) (by decide +kernel), Or.inl (by decide +kernel)⟩
theorem qi_X0_change : x_in (.instanceMethod yX0_change) := ⟨List.mem_of_getElem? (i := 492) (by decide +kernel), Or.inl (by decide +kernel)⟩
theorem qs_X0_change : x_in (.selects RX0 yX0_change yX0_change) := ⟨List.mem_of_getElem? (i := 493) (by decide +kernel), Or.inl (by decide +kernel)⟩
theorem qf_X9_18 : x_in (x_fl false RX9 18 RX9 TX9 1) := ⟨List.mem_of_getElem? (i := 365) (by decide +kernel), Or.inl (by decide +kernel)⟩
theorem qm_X9_281 : x_in (.methodLink RX9 281 yX7_copyFrom) := ⟨List.mem_of_getElem? (i := 994) (by decide +kernel), Or.inl (by decide +kernel)⟩
theorem qf_X9_285 : x_in (x_fl false RX9 285 RX9 TX9 7) := ⟨List.mem_of_getElem? (i := 371) (by decide +kernel), Or.inl (by decide +kernel)⟩
theorem qf_X9_92 : x_in (x_fl true RX9 92 RX0 TX0 4) := ⟨List.mem_of_getElem? (i := 211) (by decide +kernel), Or.inr (by decide +kernel)⟩
theorem qf_X9_95 : x_in (x_fl true RX9 95 RX0 TX0 5) := ⟨List.mem_of_getElem? (i := 215) (by decide +kernel), Or.inr (by decide +kernel)⟩
theorem qf_X9_98 : x_in (x_fl true RX9 98 RX0 TX0 6) := ⟨List.mem_of_getElem? (i := 219) (by decide +kernel), Or.inr (by decide +kernel)⟩
theorem qf_X9_101 : x_in (x_fl true RX9 101 RX0 TX0 7) := ⟨List.mem_of_getElem? (i := 221) (by decide +kernel), Or.inr (by decide +kernel)⟩
theorem qm_X9_104 : x_in (.methodLink RX9 104 yX0_lifts) := ⟨List.mem_of_getElem? (i := 442) (by decide +kernel), Or.inl (by decide +kernel)⟩
theorem qf_X9_111 : x_in (x_fl true RX9 111 RX7 TX7 5) := ⟨List.mem_of_getElem? (i := 259) (by decide +kernel), Or.inr (by decide +kernel)⟩
theorem qf_X9_115 : x_in (x_fl true RX9 115 RX4 TX4 9) := ⟨List.mem_of_getElem? (i := 171) (by decide +kernel), Or.inr (by decide +kernel)⟩
theorem qf_X9_118 : x_in (x_fl true RX9 118 RX7 TX7 9) := ⟨List.mem_of_getElem? (i := 268) (by decide +kernel), Or.inr (by decide +kernel)⟩
theorem qm_X9_121 : x_in (.methodLink RX9 121 yX0_pours) := ⟨List.mem_of_getElem? (i := 455) (by decide +kernel), Or.inl (by decide +kernel)⟩
theorem qm_X9_124 : x_in (.methodLink RX9 124 yX7_sunOf) := ⟨List.mem_of_getElem? (i := 464) (by decide +kernel), Or.inl (by decide +kernel)⟩
theorem qf_X9_152 : x_in (x_fl true RX9 152 RX7 TX7 8) := ⟨List.mem_of_getElem? (i := 266) (by decide +kernel), Or.inr (by decide +kernel)⟩
theorem qf_X9_155 : x_in (x_fl true RX9 155 RX4 TX4 7) := ⟨List.mem_of_getElem? (i := 165) (by decide +kernel), Or.inr (by decide +kernel)⟩
theorem qf_X9_158 : x_in (x_fl true RX9 158 RX4 TX4 8) := ⟨List.mem_of_getElem? (i := 169) (by decide +kernel), Or.inr (by decide +kernel)⟩
theorem qm_X9_161 : x_in (.methodLink RX9 161 yX7_spring) := ⟨List.mem_of_getElem? (i := 698) (by decide +kernel), Or.inl (by decide +kernel)⟩
theorem qm_X9_164 : x_in (.methodLink RX9 164 yX3_areaOf) := ⟨List.mem_of_getElem? (i := 702) (by decide +kernel), Or.inl (by decide +kernel)⟩
theorem qd_X3_areaOf : x_in (.code yX3_areaOf cX3_areaOf 2 (some .int)) := ⟨List.mem_of_getElem? (i := 705) (by decide +kernel), Or.inl (by decide +kernel)⟩
theorem qi_X3_areaOf : x_in (.instanceMethod yX3_areaOf) := ⟨List.mem_of_getElem? (i := 703) (by decide +kernel), Or.inl (by decide +kernel)⟩
theorem qs_X3_areaOf : x_in (.selects RX3 yX3_areaOf yX3_areaOf) := ⟨List.mem_of_getElem? (i := 704) (by decide +kernel), Or.inl (by decide +kernel)⟩
theorem qm_X9_167 : x_in (.methodLink RX9 167 yX7_pass) := ⟨List.mem_of_getElem? (i := 710) (by decide +kernel), Or.inl (by decide +kernel)⟩
theorem qf_X9_24 : x_in (x_fl false RX9 24 RX9 TX9 2) := ⟨List.mem_of_getElem? (i := 366) (by decide +kernel), Or.inl (by decide +kernel)⟩
theorem qm_X9_170 : x_in (.methodLink RX9 170 yX2_after) := ⟨List.mem_of_getElem? (i := 739) (by decide +kernel), Or.inl (by decide +kernel)⟩
theorem qm_X9_177 : x_in (.methodLink RX9 177 yX2_daysTillDry) := ⟨List.mem_of_getElem? (i := 770) (by decide +kernel), Or.inl (by decide +kernel)⟩
theorem qd_X2_daysTillDry : x_in (.code yX2_daysTillDry cX2_daysTillDry 3 (some .int)) := ⟨List.mem_of_getElem? (i := 773) (by decide +kernel), Or.inl (by decide +kernel)⟩
theorem qi_X2_daysTillDry : x_in (.instanceMethod yX2_daysTillDry) := ⟨List.mem_of_getElem? (i := 771) (by decide +kernel), Or.inl (by decide +kernel)⟩
theorem qs_X2_daysTillDry : x_in (.selects RX2 yX2_daysTillDry yX2_daysTillDry) := ⟨List.mem_of_getElem? (i := 772) (by decide +kernel), Or.inl (by decide +kernel)⟩
theorem qm_X9_181 : x_in (.methodLink RX9 181 yX2_daysTillLowest) := ⟨List.mem_of_getElem? (i := 782) (by decide +kernel), Or.inl (by decide +kernel)⟩
theorem qd_X2_daysTillLowest : x_in (.code yX2_daysTillLowest cX2_daysTillLowest 6 (some .int)) := ⟨List.mem_of_getElem? (i := 785) (by decide +kernel), Or.inl (by decide +kernel)⟩
theorem qi_X2_daysTillLowest : x_in (.instanceMethod yX2_daysTillLowest) := ⟨List.mem_of_getElem? (i := 783) (by decide +kernel), Or.inl (by decide +kernel)⟩
theorem qs_X2_daysTillLowest : x_in (.selects RX2 yX2_daysTillLowest yX2_daysTillLowest) := ⟨List.mem_of_getElem? (i := 784) (by decide +kernel), Or.inl (by decide +kernel)⟩
theorem qm_X9_185 : x_in (.methodLink RX9 185 yX2_firstBelow) := ⟨List.mem_of_getElem? (i := 791) (by decide +kernel), Or.inl (by decide +kernel)⟩
theorem qd_X2_firstBelow : x_in (.code yX2_firstBelow cX2_firstBelow 5 (some .int)) := ⟨List.mem_of_getElem? (i := 794) (by decide +kernel), Or.inl (by decide +kernel)⟩
theorem qi_X2_firstBelow : x_in (.instanceMethod yX2_firstBelow) := ⟨List.mem_of_getElem? (i := 792) (by decide +kernel), Or.inl (by decide +kernel)⟩
theorem qs_X2_firstBelow : x_in (.selects RX2 yX2_firstBelow yX2_firstBelow) := ⟨List.mem_of_getElem? (i := 793) (by decide +kernel), Or.inl (by decide +kernel)⟩
theorem qm_X9_192 : x_in (.methodLink RX9 192 yX2_daysTillEnough) := ⟨List.mem_of_getElem? (i := 817) (by decide +kernel), Or.inl (by decide +kernel)⟩
theorem qd_X2_daysTillEnough : x_in (.code yX2_daysTillEnough cX2_daysTillEnough 5 (some .int)) := ⟨List.mem_of_getElem? (i := 820) (by decide +kernel), Or.inl (by decide +kernel)⟩
theorem qi_X2_daysTillEnough : x_in (.instanceMethod yX2_daysTillEnough) := ⟨List.mem_of_getElem? (i := 818) (by decide +kernel), Or.inl (by decide +kernel)⟩
theorem qs_X2_daysTillEnough : x_in (.selects RX2 yX2_daysTillEnough yX2_daysTillEnough) := ⟨List.mem_of_getElem? (i := 819) (by decide +kernel), Or.inl (by decide +kernel)⟩
theorem qm_X9_206 : x_in (.methodLink RX9 206 yX9_isPart) := ⟨List.mem_of_getElem? (i := 854) (by decide +kernel), Or.inl (by decide +kernel)⟩
theorem qd_X9_isPart : x_in (.code yX9_isPart cX9_isPart 1 (some .boolean)) := ⟨List.mem_of_getElem? (i := 856) (by decide +kernel), Or.inl (by decide +kernel)⟩
theorem qt_X9_isPart : x_in (.static yX9_isPart) := ⟨List.mem_of_getElem? (i := 855) (by decide +kernel), Or.inl (by decide +kernel)⟩
theorem qm_X9_211 : x_in (.methodLink RX9 211 yX2_sunShare) := ⟨List.mem_of_getElem? (i := 858) (by decide +kernel), Or.inl (by decide +kernel)⟩
theorem qd_X2_sunShare : x_in (.code yX2_sunShare cX2_sunShare 11 (some .long)) := ⟨List.mem_of_getElem? (i := 861) (by decide +kernel), Or.inl (by decide +kernel)⟩
theorem qi_X2_sunShare : x_in (.instanceMethod yX2_sunShare) := ⟨List.mem_of_getElem? (i := 859) (by decide +kernel), Or.inl (by decide +kernel)⟩
theorem qs_X2_sunShare : x_in (.selects RX2 yX2_sunShare yX2_sunShare) := ⟨List.mem_of_getElem? (i := 860) (by decide +kernel), Or.inl (by decide +kernel)⟩
theorem qm_X9_215 : x_in (.methodLink RX9 215 yX7_richestNow) := ⟨List.mem_of_getElem? (i := 876) (by decide +kernel), Or.inl (by decide +kernel)⟩
theorem qd_X7_richestNow : x_in (.code yX7_richestNow cX7_richestNow 3 (some .int)) := ⟨List.mem_of_getElem? (i := 879) (by decide +kernel), Or.inl (by decide +kernel)⟩
theorem qi_X7_richestNow : x_in (.instanceMethod yX7_richestNow) := ⟨List.mem_of_getElem? (i := 877) (by decide +kernel), Or.inl (by decide +kernel)⟩
theorem qs_X7_richestNow : x_in (.selects RX7 yX7_richestNow yX7_richestNow) := ⟨List.mem_of_getElem? (i := 878) (by decide +kernel), Or.inl (by decide +kernel)⟩
theorem qm_X9_239 : x_in (.methodLink RX9 239 yX2_meanLevel) := ⟨List.mem_of_getElem? (i := 946) (by decide +kernel), Or.inl (by decide +kernel)⟩
theorem qd_X2_meanLevel : x_in (.code yX2_meanLevel cX2_meanLevel 7 (some .long)) := ⟨List.mem_of_getElem? (i := 949) (by decide +kernel), Or.inl (by decide +kernel)⟩
theorem qi_X2_meanLevel : x_in (.instanceMethod yX2_meanLevel) := ⟨List.mem_of_getElem? (i := 947) (by decide +kernel), Or.inl (by decide +kernel)⟩
theorem qs_X2_meanLevel : x_in (.selects RX2 yX2_meanLevel yX2_meanLevel) := ⟨List.mem_of_getElem? (i := 948) (by decide +kernel), Or.inl (by decide +kernel)⟩
theorem qm_X9_245 : x_in (.methodLink RX9 245 yX2_afterPlan) := ⟨List.mem_of_getElem? (i := 958) (by decide +kernel), Or.inl (by decide +kernel)⟩
theorem qd_X2_afterPlan : x_in (.code yX2_afterPlan cX2_afterPlan 4 (some (.object "LakeBooks$State"))) := ⟨List.mem_of_getElem? (i := 961) (by decide +kernel), Or.inl (by decide +kernel)⟩
theorem qi_X2_afterPlan : x_in (.instanceMethod yX2_afterPlan) := ⟨List.mem_of_getElem? (i := 959) (by decide +kernel), Or.inl (by decide +kernel)⟩
theorem qs_X2_afterPlan : x_in (.selects RX2 yX2_afterPlan yX2_afterPlan) := ⟨List.mem_of_getElem? (i := 960) (by decide +kernel), Or.inl (by decide +kernel)⟩
theorem qm_X9_188 : x_in (.methodLink RX9 188 yX2_leastDaily) := ⟨List.mem_of_getElem? (i := 804) (by decide +kernel), Or.inl (by decide +kernel)⟩
theorem qd_X2_leastDaily : x_in (.code yX2_leastDaily cX2_leastDaily 6 (some .int)) := ⟨List.mem_of_getElem? (i := 807) (by decide +kernel), Or.inl (by decide +kernel)⟩
theorem qi_X2_leastDaily : x_in (.instanceMethod yX2_leastDaily) := ⟨List.mem_of_getElem? (i := 805) (by decide +kernel), Or.inl (by decide +kernel)⟩
theorem qs_X2_leastDaily : x_in (.selects RX2 yX2_leastDaily yX2_leastDaily) := ⟨List.mem_of_getElem? (i := 806) (by decide +kernel), Or.inl (by decide +kernel)⟩
theorem qk_X9_202 : x_in (.constant RX9 202 (-100002)) := ⟨List.mem_of_getElem? (i := 841) (by decide +kernel), Or.inl (by decide +kernel)⟩
theorem qm_X9_199 : x_in (.methodLink RX9 199 yX2_waterBy) := ⟨List.mem_of_getElem? (i := 832) (by decide +kernel), Or.inl (by decide +kernel)⟩
theorem qd_X2_waterBy : x_in (.code yX2_waterBy cX2_waterBy 6 (some .int)) := ⟨List.mem_of_getElem? (i := 835) (by decide +kernel), Or.inl (by decide +kernel)⟩
theorem qi_X2_waterBy : x_in (.instanceMethod yX2_waterBy) := ⟨List.mem_of_getElem? (i := 833) (by decide +kernel), Or.inl (by decide +kernel)⟩
theorem qs_X2_waterBy : x_in (.selects RX2 yX2_waterBy yX2_waterBy) := ⟨List.mem_of_getElem? (i := 834) (by decide +kernel), Or.inl (by decide +kernel)⟩
theorem qk_X9_198 : x_in (.constant RX9 198 (-100001)) := ⟨List.mem_of_getElem? (i := 831) (by decide +kernel), Or.inl (by decide +kernel)⟩
theorem qm_X9_203 : x_in (.methodLink RX9 203 yX2_leastWell) := ⟨List.mem_of_getElem? (i := 846) (by decide +kernel), Or.inl (by decide +kernel)⟩
theorem qd_X2_leastWell : x_in (.code yX2_leastWell cX2_leastWell 4 (some .int)) := ⟨List.mem_of_getElem? (i := 849) (by decide +kernel), Or.inl (by decide +kernel)⟩
theorem qi_X2_leastWell : x_in (.instanceMethod yX2_leastWell) := ⟨List.mem_of_getElem? (i := 847) (by decide +kernel), Or.inl (by decide +kernel)⟩
theorem qs_X2_leastWell : x_in (.selects RX2 yX2_leastWell yX2_leastWell) := ⟨List.mem_of_getElem? (i := 848) (by decide +kernel), Or.inl (by decide +kernel)⟩
theorem qm_X9_228 : x_in (.methodLink RX9 228 yX2_isAsSeenWith) := ⟨List.mem_of_getElem? (i := 897) (by decide +kernel), Or.inl (by decide +kernel)⟩
theorem qd_X2_isAsSeenWith : x_in (.code yX2_isAsSeenWith cX2_isAsSeenWith 5 (some .boolean)) := ⟨List.mem_of_getElem? (i := 900) (by decide +kernel), Or.inl (by decide +kernel)⟩
theorem qi_X2_isAsSeenWith : x_in (.instanceMethod yX2_isAsSeenWith) := ⟨List.mem_of_getElem? (i := 898) (by decide +kernel), Or.inl (by decide +kernel)⟩
theorem qs_X2_isAsSeenWith : x_in (.selects RX2 yX2_isAsSeenWith yX2_isAsSeenWith) := ⟨List.mem_of_getElem? (i := 899) (by decide +kernel), Or.inl (by decide +kernel)⟩
theorem qm_X9_232 : x_in (.methodLink RX9 232 yX2_absencesAsSeen) := ⟨List.mem_of_getElem? (i := 930) (by decide +kernel), Or.inl (by decide +kernel)⟩
theorem qd_X2_absencesAsSeen : x_in (.code yX2_absencesAsSeen cX2_absencesAsSeen 4 (some .int)) := ⟨List.mem_of_getElem? (i := 933) (by decide +kernel), Or.inl (by decide +kernel)⟩
theorem qi_X2_absencesAsSeen : x_in (.instanceMethod yX2_absencesAsSeen) := ⟨List.mem_of_getElem? (i := 931) (by decide +kernel), Or.inl (by decide +kernel)⟩
theorem qs_X2_absencesAsSeen : x_in (.selects RX2 yX2_absencesAsSeen yX2_absencesAsSeen) := ⟨List.mem_of_getElem? (i := 932) (by decide +kernel), Or.inl (by decide +kernel)⟩
theorem qm_X9_235 : x_in (.methodLink RX9 235 yX2_springlessOdds) := ⟨List.mem_of_getElem? (i := 938) (by decide +kernel), Or.inl (by decide +kernel)⟩
theorem qd_X2_springlessOdds : x_in (.code yX2_springlessOdds cX2_springlessOdds 6 (some .long)) := ⟨List.mem_of_getElem? (i := 941) (by decide +kernel), Or.inl (by decide +kernel)⟩
theorem qi_X2_springlessOdds : x_in (.instanceMethod yX2_springlessOdds) := ⟨List.mem_of_getElem? (i := 939) (by decide +kernel), Or.inl (by decide +kernel)⟩
theorem qs_X2_springlessOdds : x_in (.selects RX2 yX2_springlessOdds yX2_springlessOdds) := ⟨List.mem_of_getElem? (i := 940) (by decide +kernel), Or.inl (by decide +kernel)⟩
theorem qm_X9_289 : x_in (.methodLink RX9 289 yX1_perform) := ⟨List.mem_of_getElem? (i := 1003) (by decide +kernel), Or.inl (by decide +kernel)⟩
theorem qd_X1_perform : x_in (.code yX1_perform cX1_perform 4 (some .int)) := ⟨List.mem_of_getElem? (i := 1006) (by decide +kernel), Or.inl (by decide +kernel)⟩
theorem qi_X1_perform : x_in (.instanceMethod yX1_perform) := ⟨List.mem_of_getElem? (i := 1004) (by decide +kernel), Or.inl (by decide +kernel)⟩
theorem qs_X1_perform : x_in (.selects RX1 yX1_perform yX1_perform) := ⟨List.mem_of_getElem? (i := 1005) (by decide +kernel), Or.inl (by decide +kernel)⟩
theorem qf_X9_37 : x_in (x_fl false RX9 37 RX9 TX9 4) := ⟨List.mem_of_getElem? (i := 368) (by decide +kernel), Or.inl (by decide +kernel)⟩
theorem qm_X9_145 : x_in (.methodLink RX9 145 yX5_parse) := ⟨List.mem_of_getElem? (i := 520) (by decide +kernel), Or.inl (by decide +kernel)⟩
theorem qd_X5_parse : x_in (.code yX5_parse cX5_parse 5 (some .int)) := ⟨List.mem_of_getElem? (i := 523) (by decide +kernel), Or.inl (by decide +kernel)⟩
theorem qi_X5_parse : x_in (.instanceMethod yX5_parse) := ⟨List.mem_of_getElem? (i := 521) (by decide +kernel), Or.inl (by decide +kernel)⟩
theorem qs_X5_parse : x_in (.selects RX5 yX5_parse yX5_parse) := ⟨List.mem_of_getElem? (i := 522) (by decide +kernel), Or.inl (by decide +kernel)⟩
theorem qm_X9_149 : x_in (.methodLink RX9 149 yX5_clear) := ⟨List.mem_of_getElem? (i := 689) (by decide +kernel), Or.inl (by decide +kernel)⟩
theorem qd_X5_clear : x_in (.code yX5_clear cX5_clear 1 none) := ⟨List.mem_of_getElem? (i := 692) (by decide +kernel), Or.inl (by decide +kernel)⟩
theorem qi_X5_clear : x_in (.instanceMethod yX5_clear) := ⟨List.mem_of_getElem? (i := 690) (by decide +kernel), Or.inl (by decide +kernel)⟩
theorem qs_X5_clear : x_in (.selects RX5 yX5_clear yX5_clear) := ⟨List.mem_of_getElem? (i := 691) (by decide +kernel), Or.inl (by decide +kernel)⟩
theorem qf_X10_22 : x_in (x_fl false RX10 22 RX10 TX10 4) := ⟨List.mem_of_getElem? (i := 1107) (by decide +kernel), Or.inl (by decide +kernel)⟩
theorem qf_X10_53 : x_in (x_fl false RX10 53 RX10 TX10 14) := ⟨List.mem_of_getElem? (i := 1117) (by decide +kernel), Or.inl (by decide +kernel)⟩
theorem qf_X10_50 : x_in (x_fl false RX10 50 RX10 TX10 13) := ⟨List.mem_of_getElem? (i := 1116) (by decide +kernel), Or.inl (by decide +kernel)⟩
theorem qf_X10_59 : x_in (x_fl false RX10 59 RX10 TX10 16) := ⟨List.mem_of_getElem? (i := 1119) (by decide +kernel), Or.inl (by decide +kernel)⟩
theorem qf_X10_77 : x_in (x_fl false RX10 77 RX10 TX10 22) := ⟨List.mem_of_getElem? (i := 1125) (by decide +kernel), Or.inl (by decide +kernel)⟩
theorem qf_X10_83 : x_in (x_fl false RX10 83 RX10 TX10 24) := ⟨List.mem_of_getElem? (i := 1127) (by decide +kernel), Or.inl (by decide +kernel)⟩
theorem qf_X10_47 : x_in (x_fl false RX10 47 RX10 TX10 12) := ⟨List.mem_of_getElem? (i := 1115) (by decide +kernel), Or.inl (by decide +kernel)⟩
theorem qf_X10_62 : x_in (x_fl false RX10 62 RX10 TX10 17) := ⟨List.mem_of_getElem? (i := 1120) (by decide +kernel), Or.inl (by decide +kernel)⟩
theorem qf_X10_13 : x_in (x_fl false RX10 13 RX10 TX10 1) := ⟨List.mem_of_getElem? (i := 1104) (by decide +kernel), Or.inl (by decide +kernel)⟩
theorem qf_X10_99 : x_in (x_fl false RX10 99 RX10 TX10 29) := ⟨List.mem_of_getElem? (i := 1132) (by decide +kernel), Or.inl (by decide +kernel)⟩
theorem qf_X10_26 : x_in (x_fl false RX10 26 RX10 TX10 5) := ⟨List.mem_of_getElem? (i := 1108) (by decide +kernel), Or.inl (by decide +kernel)⟩
theorem qf_X10_32 : x_in (x_fl false RX10 32 RX10 TX10 7) := ⟨List.mem_of_getElem? (i := 1110) (by decide +kernel), Or.inl (by decide +kernel)⟩
theorem qf_X10_102 : x_in (x_fl false RX10 102 RX10 TX10 30) := ⟨List.mem_of_getElem? (i := 1133) (by decide +kernel), Or.inl (by decide +kernel)⟩
theorem qf_X10_29 : x_in (x_fl false RX10 29 RX10 TX10 6) := ⟨List.mem_of_getElem? (i := 1109) (by decide +kernel), Or.inl (by decide +kernel)⟩
theorem qf_X10_38 : x_in (x_fl false RX10 38 RX10 TX10 9) := ⟨List.mem_of_getElem? (i := 1112) (by decide +kernel), Or.inl (by decide +kernel)⟩
theorem qf_X10_117 : x_in (x_fl false RX10 117 RX10 TX10 35) := ⟨List.mem_of_getElem? (i := 1138) (by decide +kernel), Or.inl (by decide +kernel)⟩
theorem qf_X10_16 : x_in (x_fl false RX10 16 RX10 TX10 2) := ⟨List.mem_of_getElem? (i := 1105) (by decide +kernel), Or.inl (by decide +kernel)⟩
theorem qf_X10_120 : x_in (x_fl false RX10 120 RX10 TX10 36) := ⟨List.mem_of_getElem? (i := 1139) (by decide +kernel), Or.inl (by decide +kernel)⟩
theorem qf_X10_19 : x_in (x_fl false RX10 19 RX10 TX10 3) := ⟨List.mem_of_getElem? (i := 1106) (by decide +kernel), Or.inl (by decide +kernel)⟩
theorem qf_X10_123 : x_in (x_fl false RX10 123 RX10 TX10 37) := ⟨List.mem_of_getElem? (i := 1140) (by decide +kernel), Or.inl (by decide +kernel)⟩
theorem qf_X10_126 : x_in (x_fl false RX10 126 RX10 TX10 38) := ⟨List.mem_of_getElem? (i := 1141) (by decide +kernel), Or.inl (by decide +kernel)⟩
theorem qf_X10_129 : x_in (x_fl false RX10 129 RX10 TX10 39) := ⟨List.mem_of_getElem? (i := 1142) (by decide +kernel), Or.inl (by decide +kernel)⟩
theorem qf_X10_35 : x_in (x_fl false RX10 35 RX10 TX10 8) := ⟨List.mem_of_getElem? (i := 1111) (by decide +kernel), Or.inl (by decide +kernel)⟩
theorem qf_X10_7 : x_in (x_fl false RX10 7 RX10 TX10 0) := ⟨List.mem_of_getElem? (i := 1103) (by decide +kernel), Or.inl (by decide +kernel)⟩
theorem qf_X10_144 : x_in (x_fl false RX10 144 RX10 TX10 44) := ⟨List.mem_of_getElem? (i := 1147) (by decide +kernel), Or.inl (by decide +kernel)⟩
theorem qf_X10_153 : x_in (x_fl false RX10 153 RX10 TX10 47) := ⟨List.mem_of_getElem? (i := 1150) (by decide +kernel), Or.inl (by decide +kernel)⟩
theorem qf_X10_156 : x_in (x_fl false RX10 156 RX10 TX10 48) := ⟨List.mem_of_getElem? (i := 1151) (by decide +kernel), Or.inl (by decide +kernel)⟩
theorem qf_X10_159 : x_in (x_fl false RX10 159 RX10 TX10 49) := ⟨List.mem_of_getElem? (i := 1152) (by decide +kernel), Or.inl (by decide +kernel)⟩
theorem qf_X10_163 : x_in (x_fl false RX10 163 RX10 TX10 50) := ⟨List.mem_of_getElem? (i := 1153) (by decide +kernel), Or.inl (by decide +kernel)⟩
theorem qf_X10_166 : x_in (x_fl false RX10 166 RX10 TX10 51) := ⟨List.mem_of_getElem? (i := 1154) (by decide +kernel), Or.inl (by decide +kernel)⟩
theorem qf_X10_169 : x_in (x_fl false RX10 169 RX10 TX10 52) := ⟨List.mem_of_getElem? (i := 1155) (by decide +kernel), Or.inl (by decide +kernel)⟩
theorem qf_X10_172 : x_in (x_fl false RX10 172 RX10 TX10 53) := ⟨List.mem_of_getElem? (i := 1156) (by decide +kernel), Or.inl (by decide +kernel)⟩
theorem qf_X10_175 : x_in (x_fl false RX10 175 RX10 TX10 54) := ⟨List.mem_of_getElem? (i := 1157) (by decide +kernel), Or.inl (by decide +kernel)⟩
theorem qf_X10_132 : x_in (x_fl false RX10 132 RX10 TX10 40) := ⟨List.mem_of_getElem? (i := 1143) (by decide +kernel), Or.inl (by decide +kernel)⟩
theorem qf_X10_178 : x_in (x_fl false RX10 178 RX10 TX10 55) := ⟨List.mem_of_getElem? (i := 1158) (by decide +kernel), Or.inl (by decide +kernel)⟩
theorem qf_X10_141 : x_in (x_fl false RX10 141 RX10 TX10 43) := ⟨List.mem_of_getElem? (i := 1146) (by decide +kernel), Or.inl (by decide +kernel)⟩
theorem qf_X10_181 : x_in (x_fl false RX10 181 RX10 TX10 56) := ⟨List.mem_of_getElem? (i := 1159) (by decide +kernel), Or.inl (by decide +kernel)⟩
theorem qf_X10_184 : x_in (x_fl false RX10 184 RX10 TX10 57) := ⟨List.mem_of_getElem? (i := 1160) (by decide +kernel), Or.inl (by decide +kernel)⟩
theorem qf_X10_187 : x_in (x_fl false RX10 187 RX10 TX10 58) := ⟨List.mem_of_getElem? (i := 1161) (by decide +kernel), Or.inl (by decide +kernel)⟩
theorem qf_X10_190 : x_in (x_fl false RX10 190 RX10 TX10 59) := ⟨List.mem_of_getElem? (i := 1162) (by decide +kernel), Or.inl (by decide +kernel)⟩
theorem qf_X10_193 : x_in (x_fl false RX10 193 RX10 TX10 60) := ⟨List.mem_of_getElem? (i := 1163) (by decide +kernel), Or.inl (by decide +kernel)⟩
theorem qf_X10_196 : x_in (x_fl false RX10 196 RX10 TX10 61) := ⟨List.mem_of_getElem? (i := 1164) (by decide +kernel), Or.inl (by decide +kernel)⟩
theorem qf_X10_199 : x_in (x_fl false RX10 199 RX10 TX10 62) := ⟨List.mem_of_getElem? (i := 1165) (by decide +kernel), Or.inl (by decide +kernel)⟩
theorem qf_X10_202 : x_in (x_fl false RX10 202 RX10 TX10 63) := ⟨List.mem_of_getElem? (i := 1166) (by decide +kernel), Or.inl (by decide +kernel)⟩
theorem qf_X10_205 : x_in (x_fl false RX10 205 RX10 TX10 64) := ⟨List.mem_of_getElem? (i := 1167) (by decide +kernel), Or.inl (by decide +kernel)⟩
theorem qf_X10_41 : x_in (x_fl false RX10 41 RX10 TX10 10) := ⟨List.mem_of_getElem? (i := 1113) (by decide +kernel), Or.inl (by decide +kernel)⟩
theorem qf_X10_208 : x_in (x_fl false RX10 208 RX10 TX10 65) := ⟨List.mem_of_getElem? (i := 1168) (by decide +kernel), Or.inl (by decide +kernel)⟩
theorem qf_X10_135 : x_in (x_fl false RX10 135 RX10 TX10 41) := ⟨List.mem_of_getElem? (i := 1144) (by decide +kernel), Or.inl (by decide +kernel)⟩
theorem qf_X10_211 : x_in (x_fl false RX10 211 RX10 TX10 66) := ⟨List.mem_of_getElem? (i := 1169) (by decide +kernel), Or.inl (by decide +kernel)⟩
theorem qf_X10_138 : x_in (x_fl false RX10 138 RX10 TX10 42) := ⟨List.mem_of_getElem? (i := 1145) (by decide +kernel), Or.inl (by decide +kernel)⟩
theorem qf_X10_214 : x_in (x_fl false RX10 214 RX10 TX10 67) := ⟨List.mem_of_getElem? (i := 1170) (by decide +kernel), Or.inl (by decide +kernel)⟩
theorem qf_X10_147 : x_in (x_fl false RX10 147 RX10 TX10 45) := ⟨List.mem_of_getElem? (i := 1148) (by decide +kernel), Or.inl (by decide +kernel)⟩
theorem qf_X10_217 : x_in (x_fl false RX10 217 RX10 TX10 68) := ⟨List.mem_of_getElem? (i := 1171) (by decide +kernel), Or.inl (by decide +kernel)⟩
theorem qf_X10_150 : x_in (x_fl false RX10 150 RX10 TX10 46) := ⟨List.mem_of_getElem? (i := 1149) (by decide +kernel), Or.inl (by decide +kernel)⟩
theorem qf_X10_220 : x_in (x_fl false RX10 220 RX10 TX10 69) := ⟨List.mem_of_getElem? (i := 1172) (by decide +kernel), Or.inl (by decide +kernel)⟩
theorem qf_X10_223 : x_in (x_fl false RX10 223 RX10 TX10 70) := ⟨List.mem_of_getElem? (i := 1173) (by decide +kernel), Or.inl (by decide +kernel)⟩
theorem qf_X10_226 : x_in (x_fl false RX10 226 RX10 TX10 71) := ⟨List.mem_of_getElem? (i := 1174) (by decide +kernel), Or.inl (by decide +kernel)⟩
theorem qf_X10_229 : x_in (x_fl false RX10 229 RX10 TX10 72) := ⟨List.mem_of_getElem? (i := 1175) (by decide +kernel), Or.inl (by decide +kernel)⟩
theorem qf_X10_44 : x_in (x_fl false RX10 44 RX10 TX10 11) := ⟨List.mem_of_getElem? (i := 1114) (by decide +kernel), Or.inl (by decide +kernel)⟩
theorem qm_X10_245 : x_in (.methodLink RX10 245 yX10_in) := ⟨List.mem_of_getElem? (i := 1340) (by decide +kernel), Or.inl (by decide +kernel)⟩
theorem qd_X10_in : x_in (.code yX10_in cX10_in 4 (some .boolean)) := ⟨List.mem_of_getElem? (i := 1343) (by decide +kernel), Or.inl (by decide +kernel)⟩
theorem qc_X10 : x_in (.initialized RX10) := ⟨List.mem_of_getElem? (i := 91) (by decide +kernel), Or.inl (by decide +kernel)⟩
theorem qi_X10_in : x_in (.instanceMethod yX10_in) := ⟨List.mem_of_getElem? (i := 1342) (by decide +kernel), Or.inl (by decide +kernel)⟩
theorem qs_X10_in : x_in (.selects RX10 yX10_in yX10_in) := ⟨List.mem_of_getElem? (i := 23) (by decide +kernel), Or.inl (by decide +kernel)⟩
theorem qm_X10_249 : x_in (.methodLink RX10 249 yX10_volumeOf) := ⟨List.mem_of_getElem? (i := 1348) (by decide +kernel), Or.inl (by decide +kernel)⟩
theorem qd_X10_volumeOf : x_in (.code yX10_volumeOf cX10_volumeOf 4 (some .int)) := ⟨List.mem_of_getElem? (i := 1351) (by decide +kernel), Or.inl (by decide +kernel)⟩
theorem qi_X10_volumeOf : x_in (.instanceMethod yX10_volumeOf) := ⟨List.mem_of_getElem? (i := 1350) (by decide +kernel), Or.inl (by decide +kernel)⟩
theorem qs_X10_volumeOf : x_in (.selects RX10 yX10_volumeOf yX10_volumeOf) := ⟨List.mem_of_getElem? (i := 24) (by decide +kernel), Or.inl (by decide +kernel)⟩
theorem qm_X10_260 : x_in (.methodLink RX10 260 yX10_next) := ⟨List.mem_of_getElem? (i := 1396) (by decide +kernel), Or.inl (by decide +kernel)⟩
theorem qd_X10_next : x_in (.code yX10_next cX10_next 1 (some .int)) := ⟨List.mem_of_getElem? (i := 1399) (by decide +kernel), Or.inl (by decide +kernel)⟩
theorem qi_X10_next : x_in (.instanceMethod yX10_next) := ⟨List.mem_of_getElem? (i := 1398) (by decide +kernel), Or.inl (by decide +kernel)⟩
theorem qs_X10_next : x_in (.selects RX10 yX10_next yX10_next) := ⟨List.mem_of_getElem? (i := 30) (by decide +kernel), Or.inl (by decide +kernel)⟩
theorem qf_X10_86 : x_in (x_fl false RX10 86 RX10 TX10 25) := ⟨List.mem_of_getElem? (i := 1128) (by decide +kernel), Or.inl (by decide +kernel)⟩
theorem qf_X10_80 : x_in (x_fl false RX10 80 RX10 TX10 23) := ⟨List.mem_of_getElem? (i := 1126) (by decide +kernel), Or.inl (by decide +kernel)⟩
theorem qm_X10_271 : x_in (.methodLink RX10 271 yX10_emits) := ⟨List.mem_of_getElem? (i := 1432) (by decide +kernel), Or.inl (by decide +kernel)⟩
theorem qd_X10_emits : x_in (.code yX10_emits cX10_emits 2 none) := ⟨List.mem_of_getElem? (i := 1435) (by decide +kernel), Or.inl (by decide +kernel)⟩
theorem qi_X10_emits : x_in (.instanceMethod yX10_emits) := ⟨List.mem_of_getElem? (i := 1434) (by decide +kernel), Or.inl (by decide +kernel)⟩
theorem qs_X10_emits : x_in (.selects RX10 yX10_emits yX10_emits) := ⟨List.mem_of_getElem? (i := 39) (by decide +kernel), Or.inl (by decide +kernel)⟩
theorem qf_X10_89 : x_in (x_fl false RX10 89 RX10 TX10 26) := ⟨List.mem_of_getElem? (i := 1129) (by decide +kernel), Or.inl (by decide +kernel)⟩
theorem qm_X10_309 : x_in (.methodLink RX10 309 yX10_begin) := ⟨List.mem_of_getElem? (i := 1460) (by decide +kernel), Or.inl (by decide +kernel)⟩
theorem qd_X10_begin : x_in (.code yX10_begin cX10_begin 1 (some .int)) := ⟨List.mem_of_getElem? (i := 1463) (by decide +kernel), Or.inl (by decide +kernel)⟩
theorem qi_X10_begin : x_in (.instanceMethod yX10_begin) := ⟨List.mem_of_getElem? (i := 1462) (by decide +kernel), Or.inl (by decide +kernel)⟩
theorem qs_X10_begin : x_in (.selects RX10 yX10_begin yX10_begin) := ⟨List.mem_of_getElem? (i := 45) (by decide +kernel), Or.inl (by decide +kernel)⟩
theorem qm_X10_312 : x_in (.methodLink RX10 312 yX10_behind) := ⟨List.mem_of_getElem? (i := 1464) (by decide +kernel), Or.inl (by decide +kernel)⟩
theorem qd_X10_behind : x_in (.code yX10_behind cX10_behind 1 (some .int)) := ⟨List.mem_of_getElem? (i := 1467) (by decide +kernel), Or.inl (by decide +kernel)⟩
theorem qi_X10_behind : x_in (.instanceMethod yX10_behind) := ⟨List.mem_of_getElem? (i := 1466) (by decide +kernel), Or.inl (by decide +kernel)⟩
theorem qs_X10_behind : x_in (.selects RX10 yX10_behind yX10_behind) := ⟨List.mem_of_getElem? (i := 46) (by decide +kernel), Or.inl (by decide +kernel)⟩
theorem qf_X10_65 : x_in (x_fl false RX10 65 RX10 TX10 18) := ⟨List.mem_of_getElem? (i := 1121) (by decide +kernel), Or.inl (by decide +kernel)⟩
theorem qf_X10_68 : x_in (x_fl false RX10 68 RX10 TX10 19) := ⟨List.mem_of_getElem? (i := 1122) (by decide +kernel), Or.inl (by decide +kernel)⟩
theorem qf_X10_71 : x_in (x_fl false RX10 71 RX10 TX10 20) := ⟨List.mem_of_getElem? (i := 1123) (by decide +kernel), Or.inl (by decide +kernel)⟩
theorem qf_X10_74 : x_in (x_fl false RX10 74 RX10 TX10 21) := ⟨List.mem_of_getElem? (i := 1124) (by decide +kernel), Or.inl (by decide +kernel)⟩
theorem qf_X10_95 : x_in (x_fl false RX10 95 RX10 TX10 28) := ⟨List.mem_of_getElem? (i := 1131) (by decide +kernel), Or.inl (by decide +kernel)⟩
theorem qm_X10_319 : x_in (.methodLink RX10 319 yX10_factOf) := ⟨List.mem_of_getElem? (i := 1488) (by decide +kernel), Or.inl (by decide +kernel)⟩
theorem qd_X10_factOf : x_in (.code yX10_factOf cX10_factOf 3 (some .int)) := ⟨List.mem_of_getElem? (i := 1491) (by decide +kernel), Or.inl (by decide +kernel)⟩
theorem qi_X10_factOf : x_in (.instanceMethod yX10_factOf) := ⟨List.mem_of_getElem? (i := 1490) (by decide +kernel), Or.inl (by decide +kernel)⟩
theorem qs_X10_factOf : x_in (.selects RX10 yX10_factOf yX10_factOf) := ⟨List.mem_of_getElem? (i := 52) (by decide +kernel), Or.inl (by decide +kernel)⟩
theorem qm_X10_325 : x_in (.methodLink RX10 325 yX10_levelOf) := ⟨List.mem_of_getElem? (i := 1472) (by decide +kernel), Or.inl (by decide +kernel)⟩
theorem qd_X10_levelOf : x_in (.code yX10_levelOf cX10_levelOf 4 (some .int)) := ⟨List.mem_of_getElem? (i := 1475) (by decide +kernel), Or.inl (by decide +kernel)⟩
theorem qi_X10_levelOf : x_in (.instanceMethod yX10_levelOf) := ⟨List.mem_of_getElem? (i := 1474) (by decide +kernel), Or.inl (by decide +kernel)⟩
theorem qs_X10_levelOf : x_in (.selects RX10 yX10_levelOf yX10_levelOf) := ⟨List.mem_of_getElem? (i := 48) (by decide +kernel), Or.inl (by decide +kernel)⟩
theorem qm_X10_322 : x_in (.methodLink RX10 322 yX10_liftsOf) := ⟨List.mem_of_getElem? (i := 1448) (by decide +kernel), Or.inl (by decide +kernel)⟩
theorem qd_X10_liftsOf : x_in (.code yX10_liftsOf cX10_liftsOf 2 (some .int)) := ⟨List.mem_of_getElem? (i := 1451) (by decide +kernel), Or.inl (by decide +kernel)⟩
theorem qi_X10_liftsOf : x_in (.instanceMethod yX10_liftsOf) := ⟨List.mem_of_getElem? (i := 1450) (by decide +kernel), Or.inl (by decide +kernel)⟩
theorem qs_X10_liftsOf : x_in (.selects RX10 yX10_liftsOf yX10_liftsOf) := ⟨List.mem_of_getElem? (i := 42) (by decide +kernel), Or.inl (by decide +kernel)⟩
theorem qm_X10_386 : x_in (.methodLink RX10 386 yX10_divisor) := ⟨List.mem_of_getElem? (i := 1600) (by decide +kernel), Or.inl (by decide +kernel)⟩
theorem qd_X10_divisor : x_in (.code yX10_divisor cX10_divisor 6 (some .int)) := ⟨List.mem_of_getElem? (i := 1603) (by decide +kernel), Or.inl (by decide +kernel)⟩
theorem qi_X10_divisor : x_in (.instanceMethod yX10_divisor) := ⟨List.mem_of_getElem? (i := 1602) (by decide +kernel), Or.inl (by decide +kernel)⟩
theorem qs_X10_divisor : x_in (.selects RX10 yX10_divisor yX10_divisor) := ⟨List.mem_of_getElem? (i := 67) (by decide +kernel), Or.inl (by decide +kernel)⟩
theorem qm_X10_401 : x_in (.methodLink RX10 401 yX10_body) := ⟨List.mem_of_getElem? (i := 1672) (by decide +kernel), Or.inl (by decide +kernel)⟩
theorem qd_X10_body : x_in (.code yX10_body cX10_body 2 none) := ⟨List.mem_of_getElem? (i := 1675) (by decide +kernel), Or.inl (by decide +kernel)⟩
theorem qi_X10_body : x_in (.instanceMethod yX10_body) := ⟨List.mem_of_getElem? (i := 1674) (by decide +kernel), Or.inl (by decide +kernel)⟩
theorem qs_X10_body : x_in (.selects RX10 yX10_body yX10_body) := ⟨List.mem_of_getElem? (i := 71) (by decide +kernel), Or.inl (by decide +kernel)⟩
theorem qm_X10_253 : x_in (.methodLink RX10 253 yX10_isDaily) := ⟨List.mem_of_getElem? (i := 1356) (by decide +kernel), Or.inl (by decide +kernel)⟩
theorem qd_X10_isDaily : x_in (.code yX10_isDaily cX10_isDaily 2 (some .boolean)) := ⟨List.mem_of_getElem? (i := 1359) (by decide +kernel), Or.inl (by decide +kernel)⟩
theorem qi_X10_isDaily : x_in (.instanceMethod yX10_isDaily) := ⟨List.mem_of_getElem? (i := 1358) (by decide +kernel), Or.inl (by decide +kernel)⟩
theorem qs_X10_isDaily : x_in (.selects RX10 yX10_isDaily yX10_isDaily) := ⟨List.mem_of_getElem? (i := 25) (by decide +kernel), Or.inl (by decide +kernel)⟩
theorem qm_X10_257 : x_in (.methodLink RX10 257 yX10_isAccount) := ⟨List.mem_of_getElem? (i := 1364) (by decide +kernel), Or.inl (by decide +kernel)⟩
theorem qd_X10_isAccount : x_in (.code yX10_isAccount cX10_isAccount 2 (some .boolean)) := ⟨List.mem_of_getElem? (i := 1367) (by decide +kernel), Or.inl (by decide +kernel)⟩
theorem qi_X10_isAccount : x_in (.instanceMethod yX10_isAccount) := ⟨List.mem_of_getElem? (i := 1366) (by decide +kernel), Or.inl (by decide +kernel)⟩
theorem qs_X10_isAccount : x_in (.selects RX10 yX10_isAccount yX10_isAccount) := ⟨List.mem_of_getElem? (i := 26) (by decide +kernel), Or.inl (by decide +kernel)⟩
theorem qm_X10_264 : x_in (.methodLink RX10 264 yX10_takes) := ⟨List.mem_of_getElem? (i := 1404) (by decide +kernel), Or.inl (by decide +kernel)⟩
theorem qd_X10_takes : x_in (.code yX10_takes cX10_takes 2 (some .boolean)) := ⟨List.mem_of_getElem? (i := 1407) (by decide +kernel), Or.inl (by decide +kernel)⟩
theorem qi_X10_takes : x_in (.instanceMethod yX10_takes) := ⟨List.mem_of_getElem? (i := 1406) (by decide +kernel), Or.inl (by decide +kernel)⟩
theorem qs_X10_takes : x_in (.selects RX10 yX10_takes yX10_takes) := ⟨List.mem_of_getElem? (i := 32) (by decide +kernel), Or.inl (by decide +kernel)⟩
theorem qf_X10_92 : x_in (x_fl false RX10 92 RX10 TX10 27) := ⟨List.mem_of_getElem? (i := 1130) (by decide +kernel), Or.inl (by decide +kernel)⟩
theorem qm_X10_267 : x_in (.methodLink RX10 267 yX10_isDigit) := ⟨List.mem_of_getElem? (i := 1416) (by decide +kernel), Or.inl (by decide +kernel)⟩
theorem qd_X10_isDigit : x_in (.code yX10_isDigit cX10_isDigit 1 (some .boolean)) := ⟨List.mem_of_getElem? (i := 1419) (by decide +kernel), Or.inl (by decide +kernel)⟩
theorem qi_X10_isDigit : x_in (.instanceMethod yX10_isDigit) := ⟨List.mem_of_getElem? (i := 1418) (by decide +kernel), Or.inl (by decide +kernel)⟩
theorem qs_X10_isDigit : x_in (.selects RX10 yX10_isDigit yX10_isDigit) := ⟨List.mem_of_getElem? (i := 35) (by decide +kernel), Or.inl (by decide +kernel)⟩
theorem qf_X10_56 : x_in (x_fl false RX10 56 RX10 TX10 15) := ⟨List.mem_of_getElem? (i := 1118) (by decide +kernel), Or.inl (by decide +kernel)⟩
theorem qm_X10_315 : x_in (.methodLink RX10 315 yX10_lastOf) := ⟨List.mem_of_getElem? (i := 1456) (by decide +kernel), Or.inl (by decide +kernel)⟩
theorem qd_X10_lastOf : x_in (.code yX10_lastOf cX10_lastOf 5 (some .int)) := ⟨List.mem_of_getElem? (i := 1459) (by decide +kernel), Or.inl (by decide +kernel)⟩
theorem qi_X10_lastOf : x_in (.instanceMethod yX10_lastOf) := ⟨List.mem_of_getElem? (i := 1458) (by decide +kernel), Or.inl (by decide +kernel)⟩
theorem qs_X10_lastOf : x_in (.selects RX10 yX10_lastOf yX10_lastOf) := ⟨List.mem_of_getElem? (i := 44) (by decide +kernel), Or.inl (by decide +kernel)⟩
theorem qm_X10_328 : x_in (.methodLink RX10 328 yX10_level) := ⟨List.mem_of_getElem? (i := 1468) (by decide +kernel), Or.inl (by decide +kernel)⟩
theorem qd_X10_level : x_in (.code yX10_level cX10_level 3 (some .int)) := ⟨List.mem_of_getElem? (i := 1471) (by decide +kernel), Or.inl (by decide +kernel)⟩
theorem qi_X10_level : x_in (.instanceMethod yX10_level) := ⟨List.mem_of_getElem? (i := 1470) (by decide +kernel), Or.inl (by decide +kernel)⟩
theorem qs_X10_level : x_in (.selects RX10 yX10_level yX10_level) := ⟨List.mem_of_getElem? (i := 47) (by decide +kernel), Or.inl (by decide +kernel)⟩
theorem qm_X10_331 : x_in (.methodLink RX10 331 yX10_holds) := ⟨List.mem_of_getElem? (i := 1484) (by decide +kernel), Or.inl (by decide +kernel)⟩
theorem qd_X10_holds : x_in (.code yX10_holds cX10_holds 8 (some .boolean)) := ⟨List.mem_of_getElem? (i := 1487) (by decide +kernel), Or.inl (by decide +kernel)⟩
theorem qi_X10_holds : x_in (.instanceMethod yX10_holds) := ⟨List.mem_of_getElem? (i := 1486) (by decide +kernel), Or.inl (by decide +kernel)⟩
theorem qs_X10_holds : x_in (.selects RX10 yX10_holds yX10_holds) := ⟨List.mem_of_getElem? (i := 51) (by decide +kernel), Or.inl (by decide +kernel)⟩
theorem qm_X10_398 : x_in (.methodLink RX10 398 yX10_isTape) := ⟨List.mem_of_getElem? (i := 1652) (by decide +kernel), Or.inl (by decide +kernel)⟩
theorem qd_X10_isTape : x_in (.code yX10_isTape cX10_isTape 2 (some .boolean)) := ⟨List.mem_of_getElem? (i := 1655) (by decide +kernel), Or.inl (by decide +kernel)⟩
theorem qi_X10_isTape : x_in (.instanceMethod yX10_isTape) := ⟨List.mem_of_getElem? (i := 1654) (by decide +kernel), Or.inl (by decide +kernel)⟩
theorem qs_X10_isTape : x_in (.selects RX10 yX10_isTape yX10_isTape) := ⟨List.mem_of_getElem? (i := 69) (by decide +kernel), Or.inl (by decide +kernel)⟩
theorem qf_X10_232 : x_in (x_fl false RX10 232 RX10 TX10 73) := ⟨List.mem_of_getElem? (i := 1176) (by decide +kernel), Or.inl (by decide +kernel)⟩
theorem qf_X10_235 : x_in (x_fl false RX10 235 RX10 TX10 74) := ⟨List.mem_of_getElem? (i := 1177) (by decide +kernel), Or.inl (by decide +kernel)⟩
theorem qf_X10_238 : x_in (x_fl false RX10 238 RX10 TX10 75) := ⟨List.mem_of_getElem? (i := 1178) (by decide +kernel), Or.inl (by decide +kernel)⟩
theorem qm_X10_404 : x_in (.methodLink RX10 404 yX10_accountKeeps) := ⟨List.mem_of_getElem? (i := 1676) (by decide +kernel), Or.inl (by decide +kernel)⟩
theorem qd_X10_accountKeeps : x_in (.code yX10_accountKeeps cX10_accountKeeps 3 (some .int)) := ⟨List.mem_of_getElem? (i := 1679) (by decide +kernel), Or.inl (by decide +kernel)⟩
theorem qi_X10_accountKeeps : x_in (.instanceMethod yX10_accountKeeps) := ⟨List.mem_of_getElem? (i := 1678) (by decide +kernel), Or.inl (by decide +kernel)⟩
theorem qs_X10_accountKeeps : x_in (.selects RX10 yX10_accountKeeps yX10_accountKeeps) := ⟨List.mem_of_getElem? (i := 72) (by decide +kernel), Or.inl (by decide +kernel)⟩
theorem qm_X10_425 : x_in (.methodLink RX10 425 yX10_narrow) := ⟨List.mem_of_getElem? (i := 1720) (by decide +kernel), Or.inl (by decide +kernel)⟩
theorem qd_X10_narrow : x_in (.code yX10_narrow cX10_narrow 4 (some .long)) := ⟨List.mem_of_getElem? (i := 1723) (by decide +kernel), Or.inl (by decide +kernel)⟩
theorem qi_X10_narrow : x_in (.instanceMethod yX10_narrow) := ⟨List.mem_of_getElem? (i := 1722) (by decide +kernel), Or.inl (by decide +kernel)⟩
theorem qs_X10_narrow : x_in (.selects RX10 yX10_narrow yX10_narrow) := ⟨List.mem_of_getElem? (i := 78) (by decide +kernel), Or.inl (by decide +kernel)⟩
theorem qk_X10_389 : x_in (.constantLong RX10 389 (-9223372036854775808)) := ⟨List.mem_of_getElem? (i := 1595) (by decide +kernel), Or.inl (by decide +kernel)⟩
theorem qf_X10_242 : x_in (x_fl false RX10 242 RX10 TX10 76) := ⟨List.mem_of_getElem? (i := 1179) (by decide +kernel), Or.inl (by decide +kernel)⟩
theorem qm_X10_275 : x_in (.methodLink RX10 275 yX10_place) := ⟨List.mem_of_getElem? (i := 1428) (by decide +kernel), Or.inl (by decide +kernel)⟩
theorem qd_X10_place : x_in (.code yX10_place cX10_place 2 (some .int)) := ⟨List.mem_of_getElem? (i := 1431) (by decide +kernel), Or.inl (by decide +kernel)⟩
theorem qi_X10_place : x_in (.instanceMethod yX10_place) := ⟨List.mem_of_getElem? (i := 1430) (by decide +kernel), Or.inl (by decide +kernel)⟩
theorem qs_X10_place : x_in (.selects RX10 yX10_place yX10_place) := ⟨List.mem_of_getElem? (i := 38) (by decide +kernel), Or.inl (by decide +kernel)⟩
theorem qm_X10_278 : x_in (.methodLink RX10 278 yX10_takesNumber) := ⟨List.mem_of_getElem? (i := 1412) (by decide +kernel), Or.inl (by decide +kernel)⟩
theorem qd_X10_takesNumber : x_in (.code yX10_takesNumber cX10_takesNumber 2 (some .boolean)) := ⟨List.mem_of_getElem? (i := 1415) (by decide +kernel), Or.inl (by decide +kernel)⟩
theorem qi_X10_takesNumber : x_in (.instanceMethod yX10_takesNumber) := ⟨List.mem_of_getElem? (i := 1414) (by decide +kernel), Or.inl (by decide +kernel)⟩
theorem qs_X10_takesNumber : x_in (.selects RX10 yX10_takesNumber yX10_takesNumber) := ⟨List.mem_of_getElem? (i := 34) (by decide +kernel), Or.inl (by decide +kernel)⟩
theorem qm_X10_281 : x_in (.methodLink RX10 281 yX10_whole) := ⟨List.mem_of_getElem? (i := 1436) (by decide +kernel), Or.inl (by decide +kernel)⟩
theorem qd_X10_whole : x_in (.code yX10_whole cX10_whole 1 none) := ⟨List.mem_of_getElem? (i := 1439) (by decide +kernel), Or.inl (by decide +kernel)⟩
theorem qi_X10_whole : x_in (.instanceMethod yX10_whole) := ⟨List.mem_of_getElem? (i := 1438) (by decide +kernel), Or.inl (by decide +kernel)⟩
theorem qs_X10_whole : x_in (.selects RX10 yX10_whole yX10_whole) := ⟨List.mem_of_getElem? (i := 40) (by decide +kernel), Or.inl (by decide +kernel)⟩
theorem qm_X10_290 : x_in (.methodLink RX10 290 yX10_takesWord) := ⟨List.mem_of_getElem? (i := 1400) (by decide +kernel), Or.inl (by decide +kernel)⟩
theorem qd_X10_takesWord : x_in (.code yX10_takesWord cX10_takesWord 4 (some .boolean)) := ⟨List.mem_of_getElem? (i := 1403) (by decide +kernel), Or.inl (by decide +kernel)⟩
theorem qi_X10_takesWord : x_in (.instanceMethod yX10_takesWord) := ⟨List.mem_of_getElem? (i := 1402) (by decide +kernel), Or.inl (by decide +kernel)⟩
theorem qs_X10_takesWord : x_in (.selects RX10 yX10_takesWord yX10_takesWord) := ⟨List.mem_of_getElem? (i := 31) (by decide +kernel), Or.inl (by decide +kernel)⟩
theorem qm_X10_294 : x_in (.methodLink RX10 294 yX10_second) := ⟨List.mem_of_getElem? (i := 1408) (by decide +kernel), Or.inl (by decide +kernel)⟩
theorem qd_X10_second : x_in (.code yX10_second cX10_second 1 (some .int)) := ⟨List.mem_of_getElem? (i := 1411) (by decide +kernel), Or.inl (by decide +kernel)⟩
theorem qi_X10_second : x_in (.instanceMethod yX10_second) := ⟨List.mem_of_getElem? (i := 1410) (by decide +kernel), Or.inl (by decide +kernel)⟩
theorem qs_X10_second : x_in (.selects RX10 yX10_second yX10_second) := ⟨List.mem_of_getElem? (i := 33) (by decide +kernel), Or.inl (by decide +kernel)⟩
theorem qf_X10_108 : x_in (x_fl false RX10 108 RX10 TX10 32) := ⟨List.mem_of_getElem? (i := 1135) (by decide +kernel), Or.inl (by decide +kernel)⟩
theorem qm_X10_334 : x_in (.methodLink RX10 334 yX10_sumOf) := ⟨List.mem_of_getElem? (i := 1480) (by decide +kernel), Or.inl (by decide +kernel)⟩
theorem qd_X10_sumOf : x_in (.code yX10_sumOf cX10_sumOf 5 (some .int)) := ⟨List.mem_of_getElem? (i := 1483) (by decide +kernel), Or.inl (by decide +kernel)⟩
theorem qi_X10_sumOf : x_in (.instanceMethod yX10_sumOf) := ⟨List.mem_of_getElem? (i := 1482) (by decide +kernel), Or.inl (by decide +kernel)⟩
theorem qs_X10_sumOf : x_in (.selects RX10 yX10_sumOf yX10_sumOf) := ⟨List.mem_of_getElem? (i := 50) (by decide +kernel), Or.inl (by decide +kernel)⟩
theorem qf_X10_105 : x_in (x_fl false RX10 105 RX10 TX10 31) := ⟨List.mem_of_getElem? (i := 1134) (by decide +kernel), Or.inl (by decide +kernel)⟩
theorem qm_X10_346 : x_in (.methodLink RX10 346 yX10_floor) := ⟨List.mem_of_getElem? (i := 1500) (by decide +kernel), Or.inl (by decide +kernel)⟩
theorem qd_X10_floor : x_in (.code yX10_floor cX10_floor 2 (some .int)) := ⟨List.mem_of_getElem? (i := 1503) (by decide +kernel), Or.inl (by decide +kernel)⟩
theorem qi_X10_floor : x_in (.instanceMethod yX10_floor) := ⟨List.mem_of_getElem? (i := 1502) (by decide +kernel), Or.inl (by decide +kernel)⟩
theorem qs_X10_floor : x_in (.selects RX10 yX10_floor yX10_floor) := ⟨List.mem_of_getElem? (i := 54) (by decide +kernel), Or.inl (by decide +kernel)⟩
theorem qm_X10_407 : x_in (.methodLink RX10 407 yX10_keepsAct) := ⟨List.mem_of_getElem? (i := 1668) (by decide +kernel), Or.inl (by decide +kernel)⟩
theorem qd_X10_keepsAct : x_in (.code yX10_keepsAct cX10_keepsAct 3 (some .int)) := ⟨List.mem_of_getElem? (i := 1671) (by decide +kernel), Or.inl (by decide +kernel)⟩
theorem qi_X10_keepsAct : x_in (.instanceMethod yX10_keepsAct) := ⟨List.mem_of_getElem? (i := 1670) (by decide +kernel), Or.inl (by decide +kernel)⟩
theorem qs_X10_keepsAct : x_in (.selects RX10 yX10_keepsAct yX10_keepsAct) := ⟨List.mem_of_getElem? (i := 70) (by decide +kernel), Or.inl (by decide +kernel)⟩
theorem qm_X10_287 : x_in (.methodLink RX10 287 yX10_settle) := ⟨List.mem_of_getElem? (i := 1440) (by decide +kernel), Or.inl (by decide +kernel)⟩
theorem qd_X10_settle : x_in (.code yX10_settle cX10_settle 2 none) := ⟨List.mem_of_getElem? (i := 1443) (by decide +kernel), Or.inl (by decide +kernel)⟩
theorem qi_X10_settle : x_in (.instanceMethod yX10_settle) := ⟨List.mem_of_getElem? (i := 1442) (by decide +kernel), Or.inl (by decide +kernel)⟩
theorem qs_X10_settle : x_in (.selects RX10 yX10_settle yX10_settle) := ⟨List.mem_of_getElem? (i := 41) (by decide +kernel), Or.inl (by decide +kernel)⟩
theorem qm_X10_284 : x_in (.methodLink RX10 284 yX10_takesTest) := ⟨List.mem_of_getElem? (i := 1424) (by decide +kernel), Or.inl (by decide +kernel)⟩
theorem qd_X10_takesTest : x_in (.code yX10_takesTest cX10_takesTest 3 (some .boolean)) := ⟨List.mem_of_getElem? (i := 1427) (by decide +kernel), Or.inl (by decide +kernel)⟩
theorem qi_X10_takesTest : x_in (.instanceMethod yX10_takesTest) := ⟨List.mem_of_getElem? (i := 1426) (by decide +kernel), Or.inl (by decide +kernel)⟩
theorem qs_X10_takesTest : x_in (.selects RX10 yX10_takesTest yX10_takesTest) := ⟨List.mem_of_getElem? (i := 37) (by decide +kernel), Or.inl (by decide +kernel)⟩
theorem qm_X10_337 : x_in (.methodLink RX10 337 yX10_poursOf) := ⟨List.mem_of_getElem? (i := 1452) (by decide +kernel), Or.inl (by decide +kernel)⟩
theorem qd_X10_poursOf : x_in (.code yX10_poursOf cX10_poursOf 3 (some .int)) := ⟨List.mem_of_getElem? (i := 1455) (by decide +kernel), Or.inl (by decide +kernel)⟩
theorem qi_X10_poursOf : x_in (.instanceMethod yX10_poursOf) := ⟨List.mem_of_getElem? (i := 1454) (by decide +kernel), Or.inl (by decide +kernel)⟩
theorem qs_X10_poursOf : x_in (.selects RX10 yX10_poursOf yX10_poursOf) := ⟨List.mem_of_getElem? (i := 43) (by decide +kernel), Or.inl (by decide +kernel)⟩
theorem qm_X10_340 : x_in (.methodLink RX10 340 yX10_sunOf) := ⟨List.mem_of_getElem? (i := 1476) (by decide +kernel), Or.inl (by decide +kernel)⟩
theorem qd_X10_sunOf : x_in (.code yX10_sunOf cX10_sunOf 2 (some .int)) := ⟨List.mem_of_getElem? (i := 1479) (by decide +kernel), Or.inl (by decide +kernel)⟩
theorem qi_X10_sunOf : x_in (.instanceMethod yX10_sunOf) := ⟨List.mem_of_getElem? (i := 1478) (by decide +kernel), Or.inl (by decide +kernel)⟩
theorem qs_X10_sunOf : x_in (.selects RX10 yX10_sunOf yX10_sunOf) := ⟨List.mem_of_getElem? (i := 49) (by decide +kernel), Or.inl (by decide +kernel)⟩
theorem qm_X10_343 : x_in (.methodLink RX10 343 yX10_mark) := ⟨List.mem_of_getElem? (i := 1496) (by decide +kernel), Or.inl (by decide +kernel)⟩
theorem qd_X10_mark : x_in (.code yX10_mark cX10_mark 2 (some .int)) := ⟨List.mem_of_getElem? (i := 1499) (by decide +kernel), Or.inl (by decide +kernel)⟩
theorem qi_X10_mark : x_in (.instanceMethod yX10_mark) := ⟨List.mem_of_getElem? (i := 1498) (by decide +kernel), Or.inl (by decide +kernel)⟩
theorem qs_X10_mark : x_in (.selects RX10 yX10_mark yX10_mark) := ⟨List.mem_of_getElem? (i := 53) (by decide +kernel), Or.inl (by decide +kernel)⟩
theorem qm_X10_349 : x_in (.methodLink RX10 349 yX10_spring) := ⟨List.mem_of_getElem? (i := 1504) (by decide +kernel), Or.inl (by decide +kernel)⟩
theorem qd_X10_spring : x_in (.code yX10_spring cX10_spring 1 (some .int)) := ⟨List.mem_of_getElem? (i := 1507) (by decide +kernel), Or.inl (by decide +kernel)⟩
theorem qi_X10_spring : x_in (.instanceMethod yX10_spring) := ⟨List.mem_of_getElem? (i := 1506) (by decide +kernel), Or.inl (by decide +kernel)⟩
theorem qs_X10_spring : x_in (.selects RX10 yX10_spring yX10_spring) := ⟨List.mem_of_getElem? (i := 55) (by decide +kernel), Or.inl (by decide +kernel)⟩
theorem qf_X10_111 : x_in (x_fl false RX10 111 RX10 TX10 33) := ⟨List.mem_of_getElem? (i := 1136) (by decide +kernel), Or.inl (by decide +kernel)⟩
theorem qf_X10_114 : x_in (x_fl false RX10 114 RX10 TX10 34) := ⟨List.mem_of_getElem? (i := 1137) (by decide +kernel), Or.inl (by decide +kernel)⟩
theorem qm_X10_352 : x_in (.methodLink RX10 352 yX10_pours) := ⟨List.mem_of_getElem? (i := 1516) (by decide +kernel), Or.inl (by decide +kernel)⟩
theorem qd_X10_pours : x_in (.code yX10_pours cX10_pours 5 none) := ⟨List.mem_of_getElem? (i := 1519) (by decide +kernel), Or.inl (by decide +kernel)⟩
theorem qi_X10_pours : x_in (.instanceMethod yX10_pours) := ⟨List.mem_of_getElem? (i := 1518) (by decide +kernel), Or.inl (by decide +kernel)⟩
theorem qs_X10_pours : x_in (.selects RX10 yX10_pours yX10_pours) := ⟨List.mem_of_getElem? (i := 57) (by decide +kernel), Or.inl (by decide +kernel)⟩
theorem qm_X10_357 : x_in (.methodLink RX10 357 yX10_held) := ⟨List.mem_of_getElem? (i := 1521) (by decide +kernel), Or.inl (by decide +kernel)⟩
theorem qd_X10_held : x_in (.code yX10_held cX10_held 2 (some .int)) := ⟨List.mem_of_getElem? (i := 1524) (by decide +kernel), Or.inl (by decide +kernel)⟩
theorem qi_X10_held : x_in (.instanceMethod yX10_held) := ⟨List.mem_of_getElem? (i := 1523) (by decide +kernel), Or.inl (by decide +kernel)⟩
theorem qs_X10_held : x_in (.selects RX10 yX10_held yX10_held) := ⟨List.mem_of_getElem? (i := 58) (by decide +kernel), Or.inl (by decide +kernel)⟩
theorem qk_X10_356 : x_in (.constant RX10 356 (99999)) := ⟨List.mem_of_getElem? (i := 1520) (by decide +kernel), Or.inl (by decide +kernel)⟩
theorem qm_X10_410 : x_in (.methodLink RX10 410 yX10_accountPours) := ⟨List.mem_of_getElem? (i := 1688) (by decide +kernel), Or.inl (by decide +kernel)⟩
theorem qd_X10_accountPours : x_in (.code yX10_accountPours cX10_accountPours 3 (some .int)) := ⟨List.mem_of_getElem? (i := 1691) (by decide +kernel), Or.inl (by decide +kernel)⟩
theorem qi_X10_accountPours : x_in (.instanceMethod yX10_accountPours) := ⟨List.mem_of_getElem? (i := 1690) (by decide +kernel), Or.inl (by decide +kernel)⟩
theorem qs_X10_accountPours : x_in (.selects RX10 yX10_accountPours yX10_accountPours) := ⟨List.mem_of_getElem? (i := 75) (by decide +kernel), Or.inl (by decide +kernel)⟩
theorem qm_X10_297 : x_in (.methodLink RX10 297 yX10_takesHead) := ⟨List.mem_of_getElem? (i := 1392) (by decide +kernel), Or.inl (by decide +kernel)⟩
theorem qd_X10_takesHead : x_in (.code yX10_takesHead cX10_takesHead 2 (some .boolean)) := ⟨List.mem_of_getElem? (i := 1395) (by decide +kernel), Or.inl (by decide +kernel)⟩
theorem qi_X10_takesHead : x_in (.instanceMethod yX10_takesHead) := ⟨List.mem_of_getElem? (i := 1394) (by decide +kernel), Or.inl (by decide +kernel)⟩
theorem qs_X10_takesHead : x_in (.selects RX10 yX10_takesHead yX10_takesHead) := ⟨List.mem_of_getElem? (i := 29) (by decide +kernel), Or.inl (by decide +kernel)⟩
theorem qm_X10_300 : x_in (.methodLink RX10 300 yX10_takesE) := ⟨List.mem_of_getElem? (i := 1420) (by decide +kernel), Or.inl (by decide +kernel)⟩
theorem qd_X10_takesE : x_in (.code yX10_takesE cX10_takesE 4 (some .boolean)) := ⟨List.mem_of_getElem? (i := 1423) (by decide +kernel), Or.inl (by decide +kernel)⟩
theorem qi_X10_takesE : x_in (.instanceMethod yX10_takesE) := ⟨List.mem_of_getElem? (i := 1422) (by decide +kernel), Or.inl (by decide +kernel)⟩
theorem qs_X10_takesE : x_in (.selects RX10 yX10_takesE yX10_takesE) := ⟨List.mem_of_getElem? (i := 36) (by decide +kernel), Or.inl (by decide +kernel)⟩
theorem qm_X10_360 : x_in (.methodLink RX10 360 yX10_goDay) := ⟨List.mem_of_getElem? (i := 1512) (by decide +kernel), Or.inl (by decide +kernel)⟩
theorem qd_X10_goDay : x_in (.code yX10_goDay cX10_goDay 4 none) := ⟨List.mem_of_getElem? (i := 1515) (by decide +kernel), Or.inl (by decide +kernel)⟩
theorem qi_X10_goDay : x_in (.instanceMethod yX10_goDay) := ⟨List.mem_of_getElem? (i := 1514) (by decide +kernel), Or.inl (by decide +kernel)⟩
theorem qs_X10_goDay : x_in (.selects RX10 yX10_goDay yX10_goDay) := ⟨List.mem_of_getElem? (i := 56) (by decide +kernel), Or.inl (by decide +kernel)⟩
theorem qm_X10_366 : x_in (.methodLink RX10 366 yX10_save) := ⟨List.mem_of_getElem? (i := 1533) (by decide +kernel), Or.inl (by decide +kernel)⟩
theorem qd_X10_save : x_in (.code yX10_save cX10_save 2 none) := ⟨List.mem_of_getElem? (i := 1536) (by decide +kernel), Or.inl (by decide +kernel)⟩
theorem qi_X10_save : x_in (.instanceMethod yX10_save) := ⟨List.mem_of_getElem? (i := 1535) (by decide +kernel), Or.inl (by decide +kernel)⟩
theorem qs_X10_save : x_in (.selects RX10 yX10_save yX10_save) := ⟨List.mem_of_getElem? (i := 60) (by decide +kernel), Or.inl (by decide +kernel)⟩
theorem qm_X10_372 : x_in (.methodLink RX10 372 yX10_putBack) := ⟨List.mem_of_getElem? (i := 1541) (by decide +kernel), Or.inl (by decide +kernel)⟩
theorem qd_X10_putBack : x_in (.code yX10_putBack cX10_putBack 2 none) := ⟨List.mem_of_getElem? (i := 1544) (by decide +kernel), Or.inl (by decide +kernel)⟩
theorem qi_X10_putBack : x_in (.instanceMethod yX10_putBack) := ⟨List.mem_of_getElem? (i := 1543) (by decide +kernel), Or.inl (by decide +kernel)⟩
theorem qs_X10_putBack : x_in (.selects RX10 yX10_putBack yX10_putBack) := ⟨List.mem_of_getElem? (i := 62) (by decide +kernel), Or.inl (by decide +kernel)⟩
theorem qm_X10_363 : x_in (.methodLink RX10 363 yX10_isDays) := ⟨List.mem_of_getElem? (i := 1529) (by decide +kernel), Or.inl (by decide +kernel)⟩
theorem qd_X10_isDays : x_in (.code yX10_isDays cX10_isDays 2 (some .boolean)) := ⟨List.mem_of_getElem? (i := 1532) (by decide +kernel), Or.inl (by decide +kernel)⟩
theorem qi_X10_isDays : x_in (.instanceMethod yX10_isDays) := ⟨List.mem_of_getElem? (i := 1531) (by decide +kernel), Or.inl (by decide +kernel)⟩
theorem qs_X10_isDays : x_in (.selects RX10 yX10_isDays yX10_isDays) := ⟨List.mem_of_getElem? (i := 59) (by decide +kernel), Or.inl (by decide +kernel)⟩
theorem qm_X10_375 : x_in (.methodLink RX10 375 yX10_below) := ⟨List.mem_of_getElem? (i := 1557) (by decide +kernel), Or.inl (by decide +kernel)⟩
theorem qd_X10_below : x_in (.code yX10_below cX10_below 3 (some .int)) := ⟨List.mem_of_getElem? (i := 1560) (by decide +kernel), Or.inl (by decide +kernel)⟩
theorem qi_X10_below : x_in (.instanceMethod yX10_below) := ⟨List.mem_of_getElem? (i := 1559) (by decide +kernel), Or.inl (by decide +kernel)⟩
theorem qs_X10_below : x_in (.selects RX10 yX10_below yX10_below) := ⟨List.mem_of_getElem? (i := 63) (by decide +kernel), Or.inl (by decide +kernel)⟩
theorem qm_X10_391 : x_in (.methodLink RX10 391 yX10_lowestTerms) := ⟨List.mem_of_getElem? (i := 1596) (by decide +kernel), Or.inl (by decide +kernel)⟩
theorem qd_X10_lowestTerms : x_in (.code yX10_lowestTerms cX10_lowestTerms 5 (some .long)) := ⟨List.mem_of_getElem? (i := 1599) (by decide +kernel), Or.inl (by decide +kernel)⟩
theorem qi_X10_lowestTerms : x_in (.instanceMethod yX10_lowestTerms) := ⟨List.mem_of_getElem? (i := 1598) (by decide +kernel), Or.inl (by decide +kernel)⟩
theorem qs_X10_lowestTerms : x_in (.selects RX10 yX10_lowestTerms yX10_lowestTerms) := ⟨List.mem_of_getElem? (i := 66) (by decide +kernel), Or.inl (by decide +kernel)⟩
theorem qm_X10_413 : x_in (.methodLink RX10 413 yX10_savingPours) := ⟨List.mem_of_getElem? (i := 1684) (by decide +kernel), Or.inl (by decide +kernel)⟩
theorem qd_X10_savingPours : x_in (.code yX10_savingPours cX10_savingPours 3 (some .int)) := ⟨List.mem_of_getElem? (i := 1687) (by decide +kernel), Or.inl (by decide +kernel)⟩
theorem qi_X10_savingPours : x_in (.instanceMethod yX10_savingPours) := ⟨List.mem_of_getElem? (i := 1686) (by decide +kernel), Or.inl (by decide +kernel)⟩
theorem qs_X10_savingPours : x_in (.selects RX10 yX10_savingPours yX10_savingPours) := ⟨List.mem_of_getElem? (i := 74) (by decide +kernel), Or.inl (by decide +kernel)⟩
theorem qm_X10_303 : x_in (.methodLink RX10 303 yX10_takesClause) := ⟨List.mem_of_getElem? (i := 1388) (by decide +kernel), Or.inl (by decide +kernel)⟩
theorem qd_X10_takesClause : x_in (.code yX10_takesClause cX10_takesClause 2 (some .boolean)) := ⟨List.mem_of_getElem? (i := 1391) (by decide +kernel), Or.inl (by decide +kernel)⟩
theorem qi_X10_takesClause : x_in (.instanceMethod yX10_takesClause) := ⟨List.mem_of_getElem? (i := 1390) (by decide +kernel), Or.inl (by decide +kernel)⟩
theorem qs_X10_takesClause : x_in (.selects RX10 yX10_takesClause yX10_takesClause) := ⟨List.mem_of_getElem? (i := 28) (by decide +kernel), Or.inl (by decide +kernel)⟩
theorem qm_X10_369 : x_in (.methodLink RX10 369 yX10_goDays) := ⟨List.mem_of_getElem? (i := 1537) (by decide +kernel), Or.inl (by decide +kernel)⟩
theorem qd_X10_goDays : x_in (.code yX10_goDays cX10_goDays 3 none) := ⟨List.mem_of_getElem? (i := 1540) (by decide +kernel), Or.inl (by decide +kernel)⟩
theorem qi_X10_goDays : x_in (.instanceMethod yX10_goDays) := ⟨List.mem_of_getElem? (i := 1539) (by decide +kernel), Or.inl (by decide +kernel)⟩
theorem qs_X10_goDays : x_in (.selects RX10 yX10_goDays yX10_goDays) := ⟨List.mem_of_getElem? (i := 61) (by decide +kernel), Or.inl (by decide +kernel)⟩
theorem qm_X10_378 : x_in (.methodLink RX10 378 yX10_isAbove) := ⟨List.mem_of_getElem? (i := 1565) (by decide +kernel), Or.inl (by decide +kernel)⟩
theorem qd_X10_isAbove : x_in (.code yX10_isAbove cX10_isAbove 4 (some .boolean)) := ⟨List.mem_of_getElem? (i := 1568) (by decide +kernel), Or.inl (by decide +kernel)⟩
theorem qi_X10_isAbove : x_in (.instanceMethod yX10_isAbove) := ⟨List.mem_of_getElem? (i := 1567) (by decide +kernel), Or.inl (by decide +kernel)⟩
theorem qs_X10_isAbove : x_in (.selects RX10 yX10_isAbove yX10_isAbove) := ⟨List.mem_of_getElem? (i := 64) (by decide +kernel), Or.inl (by decide +kernel)⟩
theorem qm_X10_416 : x_in (.methodLink RX10 416 yX10_poursAct) := ⟨List.mem_of_getElem? (i := 1680) (by decide +kernel), Or.inl (by decide +kernel)⟩
theorem qd_X10_poursAct : x_in (.code yX10_poursAct cX10_poursAct 4 (some .int)) := ⟨List.mem_of_getElem? (i := 1683) (by decide +kernel), Or.inl (by decide +kernel)⟩
theorem qi_X10_poursAct : x_in (.instanceMethod yX10_poursAct) := ⟨List.mem_of_getElem? (i := 1682) (by decide +kernel), Or.inl (by decide +kernel)⟩
theorem qs_X10_poursAct : x_in (.selects RX10 yX10_poursAct yX10_poursAct) := ⟨List.mem_of_getElem? (i := 73) (by decide +kernel), Or.inl (by decide +kernel)⟩
theorem qm_X10_306 : x_in (.methodLink RX10 306 yX10_goesText) := ⟨List.mem_of_getElem? (i := 1384) (by decide +kernel), Or.inl (by decide +kernel)⟩
theorem qd_X10_goesText : x_in (.code yX10_goesText cX10_goesText 3 (some .boolean)) := ⟨List.mem_of_getElem? (i := 1387) (by decide +kernel), Or.inl (by decide +kernel)⟩
theorem qi_X10_goesText : x_in (.instanceMethod yX10_goesText) := ⟨List.mem_of_getElem? (i := 1386) (by decide +kernel), Or.inl (by decide +kernel)⟩
theorem qs_X10_goesText : x_in (.selects RX10 yX10_goesText yX10_goesText) := ⟨List.mem_of_getElem? (i := 27) (by decide +kernel), Or.inl (by decide +kernel)⟩
theorem qm_X10_383 : x_in (.methodLink RX10 383 yX10_waterBehind) := ⟨List.mem_of_getElem? (i := 1583) (by decide +kernel), Or.inl (by decide +kernel)⟩
theorem qd_X10_waterBehind : x_in (.code yX10_waterBehind cX10_waterBehind 3 (some .int)) := ⟨List.mem_of_getElem? (i := 1586) (by decide +kernel), Or.inl (by decide +kernel)⟩
theorem qi_X10_waterBehind : x_in (.instanceMethod yX10_waterBehind) := ⟨List.mem_of_getElem? (i := 1585) (by decide +kernel), Or.inl (by decide +kernel)⟩
theorem qs_X10_waterBehind : x_in (.selects RX10 yX10_waterBehind yX10_waterBehind) := ⟨List.mem_of_getElem? (i := 65) (by decide +kernel), Or.inl (by decide +kernel)⟩
theorem qk_X10_382 : x_in (.constant RX10 382 (-100002)) := ⟨List.mem_of_getElem? (i := 1582) (by decide +kernel), Or.inl (by decide +kernel)⟩
theorem qk_X10_381 : x_in (.constant RX10 381 (-100001)) := ⟨List.mem_of_getElem? (i := 1581) (by decide +kernel), Or.inl (by decide +kernel)⟩
theorem qm_X10_395 : x_in (.methodLink RX10 395 yX10_isSeen) := ⟨List.mem_of_getElem? (i := 1616) (by decide +kernel), Or.inl (by decide +kernel)⟩
theorem qd_X10_isSeen : x_in (.code yX10_isSeen cX10_isSeen 3 (some .boolean)) := ⟨List.mem_of_getElem? (i := 1619) (by decide +kernel), Or.inl (by decide +kernel)⟩
theorem qi_X10_isSeen : x_in (.instanceMethod yX10_isSeen) := ⟨List.mem_of_getElem? (i := 1618) (by decide +kernel), Or.inl (by decide +kernel)⟩
theorem qs_X10_isSeen : x_in (.selects RX10 yX10_isSeen yX10_isSeen) := ⟨List.mem_of_getElem? (i := 68) (by decide +kernel), Or.inl (by decide +kernel)⟩
theorem qm_X10_419 : x_in (.methodLink RX10 419 yX10_accountTells) := ⟨List.mem_of_getElem? (i := 1696) (by decide +kernel), Or.inl (by decide +kernel)⟩
theorem qd_X10_accountTells : x_in (.code yX10_accountTells cX10_accountTells 3 (some .int)) := ⟨List.mem_of_getElem? (i := 1699) (by decide +kernel), Or.inl (by decide +kernel)⟩
theorem qi_X10_accountTells : x_in (.instanceMethod yX10_accountTells) := ⟨List.mem_of_getElem? (i := 1698) (by decide +kernel), Or.inl (by decide +kernel)⟩
theorem qs_X10_accountTells : x_in (.selects RX10 yX10_accountTells yX10_accountTells) := ⟨List.mem_of_getElem? (i := 77) (by decide +kernel), Or.inl (by decide +kernel)⟩
theorem qm_X10_422 : x_in (.methodLink RX10 422 yX10_tellsAct) := ⟨List.mem_of_getElem? (i := 1692) (by decide +kernel), Or.inl (by decide +kernel)⟩
theorem qd_X10_tellsAct : x_in (.code yX10_tellsAct cX10_tellsAct 4 (some .int)) := ⟨List.mem_of_getElem? (i := 1695) (by decide +kernel), Or.inl (by decide +kernel)⟩
theorem qi_X10_tellsAct : x_in (.instanceMethod yX10_tellsAct) := ⟨List.mem_of_getElem? (i := 1694) (by decide +kernel), Or.inl (by decide +kernel)⟩
theorem qs_X10_tellsAct : x_in (.selects RX10 yX10_tellsAct yX10_tellsAct) := ⟨List.mem_of_getElem? (i := 76) (by decide +kernel), Or.inl (by decide +kernel)⟩
theorem qh_J1_canEncode_9a6ad : yJ1_canEncode_9a6ad.cls ≠ "java/lang/invoke/MethodHandle" ∧ yJ1_canEncode_9a6ad.cls ≠ "java/lang/invoke/VarHandle" ∧ (parseMethodDescriptor yJ1_canEncode_9a6ad.desc).map (fun d => d.parameters.length) = some 1 := by decide +kernel
theorem qh_J1_indexOfChar_4cfef : yJ1_indexOfChar_4cfef.cls ≠ "java/lang/invoke/MethodHandle" ∧ yJ1_indexOfChar_4cfef.cls ≠ "java/lang/invoke/VarHandle" ∧ (parseMethodDescriptor yJ1_indexOfChar_4cfef.desc).map (fun d => d.parameters.length) = some 4 := by decide +kernel
theorem qh_J3_checkIndex_8e157 : yJ3_checkIndex_8e157.cls ≠ "java/lang/invoke/MethodHandle" ∧ yJ3_checkIndex_8e157.cls ≠ "java/lang/invoke/VarHandle" ∧ (parseMethodDescriptor yJ3_checkIndex_8e157.desc).map (fun d => d.parameters.length) = some 3 := by decide +kernel
theorem qh_J0_checkIndex_df160 : yJ0_checkIndex_df160.cls ≠ "java/lang/invoke/MethodHandle" ∧ yJ0_checkIndex_df160.cls ≠ "java/lang/invoke/VarHandle" ∧ (parseMethodDescriptor yJ0_checkIndex_df160.desc).map (fun d => d.parameters.length) = some 2 := by decide +kernel
theorem qh_J0_coder_7d493 : yJ0_coder_7d493.cls ≠ "java/lang/invoke/MethodHandle" ∧ yJ0_coder_7d493.cls ≠ "java/lang/invoke/VarHandle" ∧ (parseMethodDescriptor yJ0_coder_7d493.desc).map (fun d => d.parameters.length) = some 0 := by decide +kernel
theorem qh_J0_isLatin1_aae02 : yJ0_isLatin1_aae02.cls ≠ "java/lang/invoke/MethodHandle" ∧ yJ0_isLatin1_aae02.cls ≠ "java/lang/invoke/VarHandle" ∧ (parseMethodDescriptor yJ0_isLatin1_aae02.desc).map (fun d => d.parameters.length) = some 0 := by decide +kernel
theorem qh_J0_length_8abf5 : yJ0_length_8abf5.cls ≠ "java/lang/invoke/MethodHandle" ∧ yJ0_length_8abf5.cls ≠ "java/lang/invoke/VarHandle" ∧ (parseMethodDescriptor yJ0_length_8abf5.desc).map (fun d => d.parameters.length) = some 0 := by decide +kernel
theorem qh_J1_indexOf_4cfef : yJ1_indexOf_4cfef.cls ≠ "java/lang/invoke/MethodHandle" ∧ yJ1_indexOf_4cfef.cls ≠ "java/lang/invoke/VarHandle" ∧ (parseMethodDescriptor yJ1_indexOf_4cfef.desc).map (fun d => d.parameters.length) = some 4 := by decide +kernel
theorem qh_J1_charAt_3b067 : yJ1_charAt_3b067.cls ≠ "java/lang/invoke/MethodHandle" ∧ yJ1_charAt_3b067.cls ≠ "java/lang/invoke/VarHandle" ∧ (parseMethodDescriptor yJ1_charAt_3b067.desc).map (fun d => d.parameters.length) = some 2 := by decide +kernel
theorem qh_J0_indexOf_7cf53 : yJ0_indexOf_7cf53.cls ≠ "java/lang/invoke/MethodHandle" ∧ yJ0_indexOf_7cf53.cls ≠ "java/lang/invoke/VarHandle" ∧ (parseMethodDescriptor yJ0_indexOf_7cf53.desc).map (fun d => d.parameters.length) = some 2 := by decide +kernel
theorem qh_X9_at : yX9_at.cls ≠ "java/lang/invoke/MethodHandle" ∧ yX9_at.cls ≠ "java/lang/invoke/VarHandle" ∧ (parseMethodDescriptor yX9_at.desc).map (fun d => d.parameters.length) = some 2 := by decide +kernel
theorem qh_X9_within : yX9_within.cls ≠ "java/lang/invoke/MethodHandle" ∧ yX9_within.cls ≠ "java/lang/invoke/VarHandle" ∧ (parseMethodDescriptor yX9_within.desc).map (fun d => d.parameters.length) = some 3 := by decide +kernel
theorem qh_X8_cut : yX8_cut.cls ≠ "java/lang/invoke/MethodHandle" ∧ yX8_cut.cls ≠ "java/lang/invoke/VarHandle" ∧ (parseMethodDescriptor yX8_cut.desc).map (fun d => d.parameters.length) = some 1 := by decide +kernel
theorem qh_J9_floorMod_7cf53 : yJ9_floorMod_7cf53.cls ≠ "java/lang/invoke/MethodHandle" ∧ yJ9_floorMod_7cf53.cls ≠ "java/lang/invoke/VarHandle" ∧ (parseMethodDescriptor yJ9_floorMod_7cf53.desc).map (fun d => d.parameters.length) = some 2 := by decide +kernel
theorem qh_X1_bodyOf : yX1_bodyOf.cls ≠ "java/lang/invoke/MethodHandle" ∧ yX1_bodyOf.cls ≠ "java/lang/invoke/VarHandle" ∧ (parseMethodDescriptor yX1_bodyOf.desc).map (fun d => d.parameters.length) = some 2 := by decide +kernel
theorem qh_X9_kindAbove : yX9_kindAbove.cls ≠ "java/lang/invoke/MethodHandle" ∧ yX9_kindAbove.cls ≠ "java/lang/invoke/VarHandle" ∧ (parseMethodDescriptor yX9_kindAbove.desc).map (fun d => d.parameters.length) = some 1 := by decide +kernel
theorem qh_X1_note : yX1_note.cls ≠ "java/lang/invoke/MethodHandle" ∧ yX1_note.cls ≠ "java/lang/invoke/VarHandle" ∧ (parseMethodDescriptor yX1_note.desc).map (fun d => d.parameters.length) = some 1 := by decide +kernel
theorem qh_X1_runBody : yX1_runBody.cls ≠ "java/lang/invoke/MethodHandle" ∧ yX1_runBody.cls ≠ "java/lang/invoke/VarHandle" ∧ (parseMethodDescriptor yX1_runBody.desc).map (fun d => d.parameters.length) = some 5 := by decide +kernel
theorem qh_X1_run : yX1_run.cls ≠ "java/lang/invoke/MethodHandle" ∧ yX1_run.cls ≠ "java/lang/invoke/VarHandle" ∧ (parseMethodDescriptor yX1_run.desc).map (fun d => d.parameters.length) = some 5 := by decide +kernel
theorem qh_X4_tellValues : yX4_tellValues.cls ≠ "java/lang/invoke/MethodHandle" ∧ yX4_tellValues.cls ≠ "java/lang/invoke/VarHandle" ∧ (parseMethodDescriptor yX4_tellValues.desc).map (fun d => d.parameters.length) = some 3 := by decide +kernel
theorem qh_X4_holds : yX4_holds.cls ≠ "java/lang/invoke/MethodHandle" ∧ yX4_holds.cls ≠ "java/lang/invoke/VarHandle" ∧ (parseMethodDescriptor yX4_holds.desc).map (fun d => d.parameters.length) = some 2 := by decide +kernel
theorem qh_J0_charAt_5068e : yJ0_charAt_5068e.cls ≠ "java/lang/invoke/MethodHandle" ∧ yJ0_charAt_5068e.cls ≠ "java/lang/invoke/VarHandle" ∧ (parseMethodDescriptor yJ0_charAt_5068e.desc).map (fun d => d.parameters.length) = some 1 := by decide +kernel
theorem qh_J0_indexOf_0f7a4 : yJ0_indexOf_0f7a4.cls ≠ "java/lang/invoke/MethodHandle" ∧ yJ0_indexOf_0f7a4.cls ≠ "java/lang/invoke/VarHandle" ∧ (parseMethodDescriptor yJ0_indexOf_0f7a4.desc).map (fun d => d.parameters.length) = some 1 := by decide +kernel
theorem qh_X5_wordOf : yX5_wordOf.cls ≠ "java/lang/invoke/MethodHandle" ∧ yX5_wordOf.cls ≠ "java/lang/invoke/VarHandle" ∧ (parseMethodDescriptor yX5_wordOf.desc).map (fun d => d.parameters.length) = some 1 := by decide +kernel
theorem qh_X5_sameSigns : yX5_sameSigns.cls ≠ "java/lang/invoke/MethodHandle" ∧ yX5_sameSigns.cls ≠ "java/lang/invoke/VarHandle" ∧ (parseMethodDescriptor yX5_sameSigns.desc).map (fun d => d.parameters.length) = some 1 := by decide +kernel
theorem qh_X5_takeOneOf : yX5_takeOneOf.cls ≠ "java/lang/invoke/MethodHandle" ∧ yX5_takeOneOf.cls ≠ "java/lang/invoke/VarHandle" ∧ (parseMethodDescriptor yX5_takeOneOf.desc).map (fun d => d.parameters.length) = some 1 := by decide +kernel
theorem qh_X4_put : yX4_put.cls ≠ "java/lang/invoke/MethodHandle" ∧ yX4_put.cls ≠ "java/lang/invoke/VarHandle" ∧ (parseMethodDescriptor yX4_put.desc).map (fun d => d.parameters.length) = some 1 := by decide +kernel
theorem qh_X5_takeNumber : yX5_takeNumber.cls ≠ "java/lang/invoke/MethodHandle" ∧ yX5_takeNumber.cls ≠ "java/lang/invoke/VarHandle" ∧ (parseMethodDescriptor yX5_takeNumber.desc).map (fun d => d.parameters.length) = some 0 := by decide +kernel
theorem qh_X5_takeBoth : yX5_takeBoth.cls ≠ "java/lang/invoke/MethodHandle" ∧ yX5_takeBoth.cls ≠ "java/lang/invoke/VarHandle" ∧ (parseMethodDescriptor yX5_takeBoth.desc).map (fun d => d.parameters.length) = some 2 := by decide +kernel
theorem qh_X5_take : yX5_take.cls ≠ "java/lang/invoke/MethodHandle" ∧ yX5_take.cls ≠ "java/lang/invoke/VarHandle" ∧ (parseMethodDescriptor yX5_take.desc).map (fun d => d.parameters.length) = some 1 := by decide +kernel
theorem qh_X5_takeFactor : yX5_takeFactor.cls ≠ "java/lang/invoke/MethodHandle" ∧ yX5_takeFactor.cls ≠ "java/lang/invoke/VarHandle" ∧ (parseMethodDescriptor yX5_takeFactor.desc).map (fun d => d.parameters.length) = some 2 := by decide +kernel
theorem qh_X5_takeTest : yX5_takeTest.cls ≠ "java/lang/invoke/MethodHandle" ∧ yX5_takeTest.cls ≠ "java/lang/invoke/VarHandle" ∧ (parseMethodDescriptor yX5_takeTest.desc).map (fun d => d.parameters.length) = some 1 := by decide +kernel
theorem qh_X5_takeEither : yX5_takeEither.cls ≠ "java/lang/invoke/MethodHandle" ∧ yX5_takeEither.cls ≠ "java/lang/invoke/VarHandle" ∧ (parseMethodDescriptor yX5_takeEither.desc).map (fun d => d.parameters.length) = some 2 := by decide +kernel
theorem qh_X4_clear : yX4_clear.cls ≠ "java/lang/invoke/MethodHandle" ∧ yX4_clear.cls ≠ "java/lang/invoke/VarHandle" ∧ (parseMethodDescriptor yX4_clear.desc).map (fun d => d.parameters.length) = some 0 := by decide +kernel
theorem qh_X5_takeWord : yX5_takeWord.cls ≠ "java/lang/invoke/MethodHandle" ∧ yX5_takeWord.cls ≠ "java/lang/invoke/VarHandle" ∧ (parseMethodDescriptor yX5_takeWord.desc).map (fun d => d.parameters.length) = some 0 := by decide +kernel
theorem qh_X4_tell : yX4_tell.cls ≠ "java/lang/invoke/MethodHandle" ∧ yX4_tell.cls ≠ "java/lang/invoke/VarHandle" ∧ (parseMethodDescriptor yX4_tell.desc).map (fun d => d.parameters.length) = some 2 := by decide +kernel
theorem qh_X4_close : yX4_close.cls ≠ "java/lang/invoke/MethodHandle" ∧ yX4_close.cls ≠ "java/lang/invoke/VarHandle" ∧ (parseMethodDescriptor yX4_close.desc).map (fun d => d.parameters.length) = some 2 := by decide +kernel
theorem qh_X3_levelOf : yX3_levelOf.cls ≠ "java/lang/invoke/MethodHandle" ∧ yX3_levelOf.cls ≠ "java/lang/invoke/VarHandle" ∧ (parseMethodDescriptor yX3_levelOf.desc).map (fun d => d.parameters.length) = some 1 := by decide +kernel
theorem qh_X0_lifts : yX0_lifts.cls ≠ "java/lang/invoke/MethodHandle" ∧ yX0_lifts.cls ≠ "java/lang/invoke/VarHandle" ∧ (parseMethodDescriptor yX0_lifts.desc).map (fun d => d.parameters.length) = some 0 := by decide +kernel
theorem qh_X7_find : yX7_find.cls ≠ "java/lang/invoke/MethodHandle" ∧ yX7_find.cls ≠ "java/lang/invoke/VarHandle" ∧ (parseMethodDescriptor yX7_find.desc).map (fun d => d.parameters.length) = some 1 := by decide +kernel
theorem qh_X0_open : yX0_open.cls ≠ "java/lang/invoke/MethodHandle" ∧ yX0_open.cls ≠ "java/lang/invoke/VarHandle" ∧ (parseMethodDescriptor yX0_open.desc).map (fun d => d.parameters.length) = some 3 := by decide +kernel
theorem qh_X3_copyFrom : yX3_copyFrom.cls ≠ "java/lang/invoke/MethodHandle" ∧ yX3_copyFrom.cls ≠ "java/lang/invoke/VarHandle" ∧ (parseMethodDescriptor yX3_copyFrom.desc).map (fun d => d.parameters.length) = some 1 := by decide +kernel
theorem qh_X0_copyFrom : yX0_copyFrom.cls ≠ "java/lang/invoke/MethodHandle" ∧ yX0_copyFrom.cls ≠ "java/lang/invoke/VarHandle" ∧ (parseMethodDescriptor yX0_copyFrom.desc).map (fun d => d.parameters.length) = some 1 := by decide +kernel
theorem qh_X6_copyFrom : yX6_copyFrom.cls ≠ "java/lang/invoke/MethodHandle" ∧ yX6_copyFrom.cls ≠ "java/lang/invoke/VarHandle" ∧ (parseMethodDescriptor yX6_copyFrom.desc).map (fun d => d.parameters.length) = some 1 := by decide +kernel
theorem qh_X7_level : yX7_level.cls ≠ "java/lang/invoke/MethodHandle" ∧ yX7_level.cls ≠ "java/lang/invoke/VarHandle" ∧ (parseMethodDescriptor yX7_level.desc).map (fun d => d.parameters.length) = some 0 := by decide +kernel
theorem qh_X7_bucketsOf : yX7_bucketsOf.cls ≠ "java/lang/invoke/MethodHandle" ∧ yX7_bucketsOf.cls ≠ "java/lang/invoke/VarHandle" ∧ (parseMethodDescriptor yX7_bucketsOf.desc).map (fun d => d.parameters.length) = some 1 := by decide +kernel
theorem qh_X4_together : yX4_together.cls ≠ "java/lang/invoke/MethodHandle" ∧ yX4_together.cls ≠ "java/lang/invoke/VarHandle" ∧ (parseMethodDescriptor yX4_together.desc).map (fun d => d.parameters.length) = some 4 := by decide +kernel
theorem qh_X7_spring : yX7_spring.cls ≠ "java/lang/invoke/MethodHandle" ∧ yX7_spring.cls ≠ "java/lang/invoke/VarHandle" ∧ (parseMethodDescriptor yX7_spring.desc).map (fun d => d.parameters.length) = some 1 := by decide +kernel
theorem qh_X0_pours : yX0_pours.cls ≠ "java/lang/invoke/MethodHandle" ∧ yX0_pours.cls ≠ "java/lang/invoke/VarHandle" ∧ (parseMethodDescriptor yX0_pours.desc).map (fun d => d.parameters.length) = some 3 := by decide +kernel
theorem qh_X7_sunOf : yX7_sunOf.cls ≠ "java/lang/invoke/MethodHandle" ∧ yX7_sunOf.cls ≠ "java/lang/invoke/VarHandle" ∧ (parseMethodDescriptor yX7_sunOf.desc).map (fun d => d.parameters.length) = some 2 := by decide +kernel
theorem qh_X3_volumeOf : yX3_volumeOf.cls ≠ "java/lang/invoke/MethodHandle" ∧ yX3_volumeOf.cls ≠ "java/lang/invoke/VarHandle" ∧ (parseMethodDescriptor yX3_volumeOf.desc).map (fun d => d.parameters.length) = some 1 := by decide +kernel
theorem qh_X7_pourBy : yX7_pourBy.cls ≠ "java/lang/invoke/MethodHandle" ∧ yX7_pourBy.cls ≠ "java/lang/invoke/VarHandle" ∧ (parseMethodDescriptor yX7_pourBy.desc).map (fun d => d.parameters.length) = some 2 := by decide +kernel
theorem qh_X7_spillTo : yX7_spillTo.cls ≠ "java/lang/invoke/MethodHandle" ∧ yX7_spillTo.cls ≠ "java/lang/invoke/VarHandle" ∧ (parseMethodDescriptor yX7_spillTo.desc).map (fun d => d.parameters.length) = some 1 := by decide +kernel
theorem qh_X0_holdBuckets : yX0_holdBuckets.cls ≠ "java/lang/invoke/MethodHandle" ∧ yX0_holdBuckets.cls ≠ "java/lang/invoke/VarHandle" ∧ (parseMethodDescriptor yX0_holdBuckets.desc).map (fun d => d.parameters.length) = some 0 := by decide +kernel
theorem qh_X6_size : yX6_size.cls ≠ "java/lang/invoke/MethodHandle" ∧ yX6_size.cls ≠ "java/lang/invoke/VarHandle" ∧ (parseMethodDescriptor yX6_size.desc).map (fun d => d.parameters.length) = some 0 := by decide +kernel
theorem qh_X6_first : yX6_first.cls ≠ "java/lang/invoke/MethodHandle" ∧ yX6_first.cls ≠ "java/lang/invoke/VarHandle" ∧ (parseMethodDescriptor yX6_first.desc).map (fun d => d.parameters.length) = some 1 := by decide +kernel
theorem qh_X6_second : yX6_second.cls ≠ "java/lang/invoke/MethodHandle" ∧ yX6_second.cls ≠ "java/lang/invoke/VarHandle" ∧ (parseMethodDescriptor yX6_second.desc).map (fun d => d.parameters.length) = some 1 := by decide +kernel
theorem qh_X7_copyFrom : yX7_copyFrom.cls ≠ "java/lang/invoke/MethodHandle" ∧ yX7_copyFrom.cls ≠ "java/lang/invoke/VarHandle" ∧ (parseMethodDescriptor yX7_copyFrom.desc).map (fun d => d.parameters.length) = some 1 := by decide +kernel
theorem qh_X7_pass : yX7_pass.cls ≠ "java/lang/invoke/MethodHandle" ∧ yX7_pass.cls ≠ "java/lang/invoke/VarHandle" ∧ (parseMethodDescriptor yX7_pass.desc).map (fun d => d.parameters.length) = some 0 := by decide +kernel
theorem qh_X7_isDry : yX7_isDry.cls ≠ "java/lang/invoke/MethodHandle" ∧ yX7_isDry.cls ≠ "java/lang/invoke/VarHandle" ∧ (parseMethodDescriptor yX7_isDry.desc).map (fun d => d.parameters.length) = some 0 := by decide +kernel
theorem qh_X7_firstBelow : yX7_firstBelow.cls ≠ "java/lang/invoke/MethodHandle" ∧ yX7_firstBelow.cls ≠ "java/lang/invoke/VarHandle" ∧ (parseMethodDescriptor yX7_firstBelow.desc).map (fun d => d.parameters.length) = some 1 := by decide +kernel
theorem qh_X9_commonDivisor : yX9_commonDivisor.cls ≠ "java/lang/invoke/MethodHandle" ∧ yX9_commonDivisor.cls ≠ "java/lang/invoke/VarHandle" ∧ (parseMethodDescriptor yX9_commonDivisor.desc).map (fun d => d.parameters.length) = some 2 := by decide +kernel
theorem qh_X9_lowestTerms : yX9_lowestTerms.cls ≠ "java/lang/invoke/MethodHandle" ∧ yX9_lowestTerms.cls ≠ "java/lang/invoke/VarHandle" ∧ (parseMethodDescriptor yX9_lowestTerms.desc).map (fun d => d.parameters.length) = some 3 := by decide +kernel
theorem qh_X7_sunOfDay : yX7_sunOfDay.cls ≠ "java/lang/invoke/MethodHandle" ∧ yX7_sunOfDay.cls ≠ "java/lang/invoke/VarHandle" ∧ (parseMethodDescriptor yX7_sunOfDay.desc).map (fun d => d.parameters.length) = some 0 := by decide +kernel
theorem qh_X2_lastSeen : yX2_lastSeen.cls ≠ "java/lang/invoke/MethodHandle" ∧ yX2_lastSeen.cls ≠ "java/lang/invoke/VarHandle" ∧ (parseMethodDescriptor yX2_lastSeen.desc).map (fun d => d.parameters.length) = some 0 := by decide +kernel
theorem qh_X2_isAsSeenOn : yX2_isAsSeenOn.cls ≠ "java/lang/invoke/MethodHandle" ∧ yX2_isAsSeenOn.cls ≠ "java/lang/invoke/VarHandle" ∧ (parseMethodDescriptor yX2_isAsSeenOn.desc).map (fun d => d.parameters.length) = some 1 := by decide +kernel
theorem qh_X2_staysWet : yX2_staysWet.cls ≠ "java/lang/invoke/MethodHandle" ∧ yX2_staysWet.cls ≠ "java/lang/invoke/VarHandle" ∧ (parseMethodDescriptor yX2_staysWet.desc).map (fun d => d.parameters.length) = some 1 := by decide +kernel
theorem qh_X2_after : yX2_after.cls ≠ "java/lang/invoke/MethodHandle" ∧ yX2_after.cls ≠ "java/lang/invoke/VarHandle" ∧ (parseMethodDescriptor yX2_after.desc).map (fun d => d.parameters.length) = some 2 := by decide +kernel
theorem qh_X2_beginWithout : yX2_beginWithout.cls ≠ "java/lang/invoke/MethodHandle" ∧ yX2_beginWithout.cls ≠ "java/lang/invoke/VarHandle" ∧ (parseMethodDescriptor yX2_beginWithout.desc).map (fun d => d.parameters.length) = some 2 := by decide +kernel
theorem qh_X2_goesAsSeen : yX2_goesAsSeen.cls ≠ "java/lang/invoke/MethodHandle" ∧ yX2_goesAsSeen.cls ≠ "java/lang/invoke/VarHandle" ∧ (parseMethodDescriptor yX2_goesAsSeen.desc).map (fun d => d.parameters.length) = some 0 := by decide +kernel
theorem qh_X1_bodyAt : yX1_bodyAt.cls ≠ "java/lang/invoke/MethodHandle" ∧ yX1_bodyAt.cls ≠ "java/lang/invoke/VarHandle" ∧ (parseMethodDescriptor yX1_bodyAt.desc).map (fun d => d.parameters.length) = some 1 := by decide +kernel
theorem qh_X5_length : yX5_length.cls ≠ "java/lang/invoke/MethodHandle" ∧ yX5_length.cls ≠ "java/lang/invoke/VarHandle" ∧ (parseMethodDescriptor yX5_length.desc).map (fun d => d.parameters.length) = some 0 := by decide +kernel
theorem qh_X1_ran : yX1_ran.cls ≠ "java/lang/invoke/MethodHandle" ∧ yX1_ran.cls ≠ "java/lang/invoke/VarHandle" ∧ (parseMethodDescriptor yX1_ran.desc).map (fun d => d.parameters.length) = some 0 := by decide +kernel
theorem qh_X3_change : yX3_change.cls ≠ "java/lang/invoke/MethodHandle" ∧ yX3_change.cls ≠ "java/lang/invoke/VarHandle" ∧ (parseMethodDescriptor yX3_change.desc).map (fun d => d.parameters.length) = some 2 := by decide +kernel
theorem qh_X9_isDaily : yX9_isDaily.cls ≠ "java/lang/invoke/MethodHandle" ∧ yX9_isDaily.cls ≠ "java/lang/invoke/VarHandle" ∧ (parseMethodDescriptor yX9_isDaily.desc).map (fun d => d.parameters.length) = some 1 := by decide +kernel
theorem qh_X7_open : yX7_open.cls ≠ "java/lang/invoke/MethodHandle" ∧ yX7_open.cls ≠ "java/lang/invoke/VarHandle" ∧ (parseMethodDescriptor yX7_open.desc).map (fun d => d.parameters.length) = some 3 := by decide +kernel
theorem qh_X0_changeRow : yX0_changeRow.cls ≠ "java/lang/invoke/MethodHandle" ∧ yX0_changeRow.cls ≠ "java/lang/invoke/VarHandle" ∧ (parseMethodDescriptor yX0_changeRow.desc).map (fun d => d.parameters.length) = some 2 := by decide +kernel
theorem qh_X5_add : yX5_add.cls ≠ "java/lang/invoke/MethodHandle" ∧ yX5_add.cls ≠ "java/lang/invoke/VarHandle" ∧ (parseMethodDescriptor yX5_add.desc).map (fun d => d.parameters.length) = some 1 := by decide +kernel
theorem qh_X6_add : yX6_add.cls ≠ "java/lang/invoke/MethodHandle" ∧ yX6_add.cls ≠ "java/lang/invoke/VarHandle" ∧ (parseMethodDescriptor yX6_add.desc).map (fun d => d.parameters.length) = some 2 := by decide +kernel
theorem qh_X6_clear : yX6_clear.cls ≠ "java/lang/invoke/MethodHandle" ∧ yX6_clear.cls ≠ "java/lang/invoke/VarHandle" ∧ (parseMethodDescriptor yX6_clear.desc).map (fun d => d.parameters.length) = some 0 := by decide +kernel
theorem qh_X9_findTape : yX9_findTape.cls ≠ "java/lang/invoke/MethodHandle" ∧ yX9_findTape.cls ≠ "java/lang/invoke/VarHandle" ∧ (parseMethodDescriptor yX9_findTape.desc).map (fun d => d.parameters.length) = some 1 := by decide +kernel
theorem qh_X8_isEmpty : yX8_isEmpty.cls ≠ "java/lang/invoke/MethodHandle" ∧ yX8_isEmpty.cls ≠ "java/lang/invoke/VarHandle" ∧ (parseMethodDescriptor yX8_isEmpty.desc).map (fun d => d.parameters.length) = some 0 := by decide +kernel
theorem qh_X8_get : yX8_get.cls ≠ "java/lang/invoke/MethodHandle" ∧ yX8_get.cls ≠ "java/lang/invoke/VarHandle" ∧ (parseMethodDescriptor yX8_get.desc).map (fun d => d.parameters.length) = some 1 := by decide +kernel
theorem qh_X9_isOrUnder : yX9_isOrUnder.cls ≠ "java/lang/invoke/MethodHandle" ∧ yX9_isOrUnder.cls ≠ "java/lang/invoke/VarHandle" ∧ (parseMethodDescriptor yX9_isOrUnder.desc).map (fun d => d.parameters.length) = some 2 := by decide +kernel
theorem qh_X8_become : yX8_become.cls ≠ "java/lang/invoke/MethodHandle" ∧ yX8_become.cls ≠ "java/lang/invoke/VarHandle" ∧ (parseMethodDescriptor yX8_become.desc).map (fun d => d.parameters.length) = some 2 := by decide +kernel
theorem qh_X8_put : yX8_put.cls ≠ "java/lang/invoke/MethodHandle" ∧ yX8_put.cls ≠ "java/lang/invoke/VarHandle" ∧ (parseMethodDescriptor yX8_put.desc).map (fun d => d.parameters.length) = some 2 := by decide +kernel
theorem qh_X8_takeFrom : yX8_takeFrom.cls ≠ "java/lang/invoke/MethodHandle" ∧ yX8_takeFrom.cls ≠ "java/lang/invoke/VarHandle" ∧ (parseMethodDescriptor yX8_takeFrom.desc).map (fun d => d.parameters.length) = some 4 := by decide +kernel
theorem qh_X9_maySet : yX9_maySet.cls ≠ "java/lang/invoke/MethodHandle" ∧ yX9_maySet.cls ≠ "java/lang/invoke/VarHandle" ∧ (parseMethodDescriptor yX9_maySet.desc).map (fun d => d.parameters.length) = some 2 := by decide +kernel
theorem qh_X0_change : yX0_change.cls ≠ "java/lang/invoke/MethodHandle" ∧ yX0_change.cls ≠ "java/lang/invoke/VarHandle" ∧ (parseMethodDescriptor yX0_change.desc).map (fun d => d.parameters.length) = some 2 := by decide +kernel
theorem qh_X3_areaOf : yX3_areaOf.cls ≠ "java/lang/invoke/MethodHandle" ∧ yX3_areaOf.cls ≠ "java/lang/invoke/VarHandle" ∧ (parseMethodDescriptor yX3_areaOf.desc).map (fun d => d.parameters.length) = some 1 := by decide +kernel
theorem qh_X2_daysTillDry : yX2_daysTillDry.cls ≠ "java/lang/invoke/MethodHandle" ∧ yX2_daysTillDry.cls ≠ "java/lang/invoke/VarHandle" ∧ (parseMethodDescriptor yX2_daysTillDry.desc).map (fun d => d.parameters.length) = some 1 := by decide +kernel
theorem qh_X2_daysTillLowest : yX2_daysTillLowest.cls ≠ "java/lang/invoke/MethodHandle" ∧ yX2_daysTillLowest.cls ≠ "java/lang/invoke/VarHandle" ∧ (parseMethodDescriptor yX2_daysTillLowest.desc).map (fun d => d.parameters.length) = some 2 := by decide +kernel
theorem qh_X2_firstBelow : yX2_firstBelow.cls ≠ "java/lang/invoke/MethodHandle" ∧ yX2_firstBelow.cls ≠ "java/lang/invoke/VarHandle" ∧ (parseMethodDescriptor yX2_firstBelow.desc).map (fun d => d.parameters.length) = some 2 := by decide +kernel
theorem qh_X2_daysTillEnough : yX2_daysTillEnough.cls ≠ "java/lang/invoke/MethodHandle" ∧ yX2_daysTillEnough.cls ≠ "java/lang/invoke/VarHandle" ∧ (parseMethodDescriptor yX2_daysTillEnough.desc).map (fun d => d.parameters.length) = some 3 := by decide +kernel
theorem qh_X9_isPart : yX9_isPart.cls ≠ "java/lang/invoke/MethodHandle" ∧ yX9_isPart.cls ≠ "java/lang/invoke/VarHandle" ∧ (parseMethodDescriptor yX9_isPart.desc).map (fun d => d.parameters.length) = some 1 := by decide +kernel
theorem qh_X2_sunShare : yX2_sunShare.cls ≠ "java/lang/invoke/MethodHandle" ∧ yX2_sunShare.cls ≠ "java/lang/invoke/VarHandle" ∧ (parseMethodDescriptor yX2_sunShare.desc).map (fun d => d.parameters.length) = some 4 := by decide +kernel
theorem qh_X7_richestNow : yX7_richestNow.cls ≠ "java/lang/invoke/MethodHandle" ∧ yX7_richestNow.cls ≠ "java/lang/invoke/VarHandle" ∧ (parseMethodDescriptor yX7_richestNow.desc).map (fun d => d.parameters.length) = some 0 := by decide +kernel
theorem qh_X2_meanLevel : yX2_meanLevel.cls ≠ "java/lang/invoke/MethodHandle" ∧ yX2_meanLevel.cls ≠ "java/lang/invoke/VarHandle" ∧ (parseMethodDescriptor yX2_meanLevel.desc).map (fun d => d.parameters.length) = some 3 := by decide +kernel
theorem qh_X2_afterPlan : yX2_afterPlan.cls ≠ "java/lang/invoke/MethodHandle" ∧ yX2_afterPlan.cls ≠ "java/lang/invoke/VarHandle" ∧ (parseMethodDescriptor yX2_afterPlan.desc).map (fun d => d.parameters.length) = some 1 := by decide +kernel
theorem qh_X2_leastDaily : yX2_leastDaily.cls ≠ "java/lang/invoke/MethodHandle" ∧ yX2_leastDaily.cls ≠ "java/lang/invoke/VarHandle" ∧ (parseMethodDescriptor yX2_leastDaily.desc).map (fun d => d.parameters.length) = some 3 := by decide +kernel
theorem qh_X2_waterBy : yX2_waterBy.cls ≠ "java/lang/invoke/MethodHandle" ∧ yX2_waterBy.cls ≠ "java/lang/invoke/VarHandle" ∧ (parseMethodDescriptor yX2_waterBy.desc).map (fun d => d.parameters.length) = some 3 := by decide +kernel
theorem qh_X2_leastWell : yX2_leastWell.cls ≠ "java/lang/invoke/MethodHandle" ∧ yX2_leastWell.cls ≠ "java/lang/invoke/VarHandle" ∧ (parseMethodDescriptor yX2_leastWell.desc).map (fun d => d.parameters.length) = some 2 := by decide +kernel
theorem qh_X2_isAsSeenWith : yX2_isAsSeenWith.cls ≠ "java/lang/invoke/MethodHandle" ∧ yX2_isAsSeenWith.cls ≠ "java/lang/invoke/VarHandle" ∧ (parseMethodDescriptor yX2_isAsSeenWith.desc).map (fun d => d.parameters.length) = some 3 := by decide +kernel
theorem qh_X2_absencesAsSeen : yX2_absencesAsSeen.cls ≠ "java/lang/invoke/MethodHandle" ∧ yX2_absencesAsSeen.cls ≠ "java/lang/invoke/VarHandle" ∧ (parseMethodDescriptor yX2_absencesAsSeen.desc).map (fun d => d.parameters.length) = some 1 := by decide +kernel
theorem qh_X2_springlessOdds : yX2_springlessOdds.cls ≠ "java/lang/invoke/MethodHandle" ∧ yX2_springlessOdds.cls ≠ "java/lang/invoke/VarHandle" ∧ (parseMethodDescriptor yX2_springlessOdds.desc).map (fun d => d.parameters.length) = some 3 := by decide +kernel
theorem qh_X1_perform : yX1_perform.cls ≠ "java/lang/invoke/MethodHandle" ∧ yX1_perform.cls ≠ "java/lang/invoke/VarHandle" ∧ (parseMethodDescriptor yX1_perform.desc).map (fun d => d.parameters.length) = some 3 := by decide +kernel
theorem qh_X5_parse : yX5_parse.cls ≠ "java/lang/invoke/MethodHandle" ∧ yX5_parse.cls ≠ "java/lang/invoke/VarHandle" ∧ (parseMethodDescriptor yX5_parse.desc).map (fun d => d.parameters.length) = some 1 := by decide +kernel
theorem qh_X5_clear : yX5_clear.cls ≠ "java/lang/invoke/MethodHandle" ∧ yX5_clear.cls ≠ "java/lang/invoke/VarHandle" ∧ (parseMethodDescriptor yX5_clear.desc).map (fun d => d.parameters.length) = some 0 := by decide +kernel
theorem qh_X10_in : yX10_in.cls ≠ "java/lang/invoke/MethodHandle" ∧ yX10_in.cls ≠ "java/lang/invoke/VarHandle" ∧ (parseMethodDescriptor yX10_in.desc).map (fun d => d.parameters.length) = some 3 := by decide +kernel
theorem qh_X10_volumeOf : yX10_volumeOf.cls ≠ "java/lang/invoke/MethodHandle" ∧ yX10_volumeOf.cls ≠ "java/lang/invoke/VarHandle" ∧ (parseMethodDescriptor yX10_volumeOf.desc).map (fun d => d.parameters.length) = some 1 := by decide +kernel
theorem qh_X10_next : yX10_next.cls ≠ "java/lang/invoke/MethodHandle" ∧ yX10_next.cls ≠ "java/lang/invoke/VarHandle" ∧ (parseMethodDescriptor yX10_next.desc).map (fun d => d.parameters.length) = some 0 := by decide +kernel
theorem qh_X10_emits : yX10_emits.cls ≠ "java/lang/invoke/MethodHandle" ∧ yX10_emits.cls ≠ "java/lang/invoke/VarHandle" ∧ (parseMethodDescriptor yX10_emits.desc).map (fun d => d.parameters.length) = some 1 := by decide +kernel
theorem qh_X10_begin : yX10_begin.cls ≠ "java/lang/invoke/MethodHandle" ∧ yX10_begin.cls ≠ "java/lang/invoke/VarHandle" ∧ (parseMethodDescriptor yX10_begin.desc).map (fun d => d.parameters.length) = some 0 := by decide +kernel
theorem qh_X10_behind : yX10_behind.cls ≠ "java/lang/invoke/MethodHandle" ∧ yX10_behind.cls ≠ "java/lang/invoke/VarHandle" ∧ (parseMethodDescriptor yX10_behind.desc).map (fun d => d.parameters.length) = some 0 := by decide +kernel
theorem qh_X10_factOf : yX10_factOf.cls ≠ "java/lang/invoke/MethodHandle" ∧ yX10_factOf.cls ≠ "java/lang/invoke/VarHandle" ∧ (parseMethodDescriptor yX10_factOf.desc).map (fun d => d.parameters.length) = some 2 := by decide +kernel
theorem qh_X10_levelOf : yX10_levelOf.cls ≠ "java/lang/invoke/MethodHandle" ∧ yX10_levelOf.cls ≠ "java/lang/invoke/VarHandle" ∧ (parseMethodDescriptor yX10_levelOf.desc).map (fun d => d.parameters.length) = some 1 := by decide +kernel
theorem qh_X10_liftsOf : yX10_liftsOf.cls ≠ "java/lang/invoke/MethodHandle" ∧ yX10_liftsOf.cls ≠ "java/lang/invoke/VarHandle" ∧ (parseMethodDescriptor yX10_liftsOf.desc).map (fun d => d.parameters.length) = some 1 := by decide +kernel
theorem qh_X10_divisor : yX10_divisor.cls ≠ "java/lang/invoke/MethodHandle" ∧ yX10_divisor.cls ≠ "java/lang/invoke/VarHandle" ∧ (parseMethodDescriptor yX10_divisor.desc).map (fun d => d.parameters.length) = some 2 := by decide +kernel
theorem qh_X10_body : yX10_body.cls ≠ "java/lang/invoke/MethodHandle" ∧ yX10_body.cls ≠ "java/lang/invoke/VarHandle" ∧ (parseMethodDescriptor yX10_body.desc).map (fun d => d.parameters.length) = some 1 := by decide +kernel
theorem qh_X10_isDaily : yX10_isDaily.cls ≠ "java/lang/invoke/MethodHandle" ∧ yX10_isDaily.cls ≠ "java/lang/invoke/VarHandle" ∧ (parseMethodDescriptor yX10_isDaily.desc).map (fun d => d.parameters.length) = some 1 := by decide +kernel
theorem qh_X10_isAccount : yX10_isAccount.cls ≠ "java/lang/invoke/MethodHandle" ∧ yX10_isAccount.cls ≠ "java/lang/invoke/VarHandle" ∧ (parseMethodDescriptor yX10_isAccount.desc).map (fun d => d.parameters.length) = some 1 := by decide +kernel
theorem qh_X10_takes : yX10_takes.cls ≠ "java/lang/invoke/MethodHandle" ∧ yX10_takes.cls ≠ "java/lang/invoke/VarHandle" ∧ (parseMethodDescriptor yX10_takes.desc).map (fun d => d.parameters.length) = some 1 := by decide +kernel
theorem qh_X10_isDigit : yX10_isDigit.cls ≠ "java/lang/invoke/MethodHandle" ∧ yX10_isDigit.cls ≠ "java/lang/invoke/VarHandle" ∧ (parseMethodDescriptor yX10_isDigit.desc).map (fun d => d.parameters.length) = some 0 := by decide +kernel
theorem qh_X10_lastOf : yX10_lastOf.cls ≠ "java/lang/invoke/MethodHandle" ∧ yX10_lastOf.cls ≠ "java/lang/invoke/VarHandle" ∧ (parseMethodDescriptor yX10_lastOf.desc).map (fun d => d.parameters.length) = some 2 := by decide +kernel
theorem qh_X10_level : yX10_level.cls ≠ "java/lang/invoke/MethodHandle" ∧ yX10_level.cls ≠ "java/lang/invoke/VarHandle" ∧ (parseMethodDescriptor yX10_level.desc).map (fun d => d.parameters.length) = some 0 := by decide +kernel
theorem qh_X10_holds : yX10_holds.cls ≠ "java/lang/invoke/MethodHandle" ∧ yX10_holds.cls ≠ "java/lang/invoke/VarHandle" ∧ (parseMethodDescriptor yX10_holds.desc).map (fun d => d.parameters.length) = some 2 := by decide +kernel
theorem qh_X10_isTape : yX10_isTape.cls ≠ "java/lang/invoke/MethodHandle" ∧ yX10_isTape.cls ≠ "java/lang/invoke/VarHandle" ∧ (parseMethodDescriptor yX10_isTape.desc).map (fun d => d.parameters.length) = some 1 := by decide +kernel
theorem qh_X10_accountKeeps : yX10_accountKeeps.cls ≠ "java/lang/invoke/MethodHandle" ∧ yX10_accountKeeps.cls ≠ "java/lang/invoke/VarHandle" ∧ (parseMethodDescriptor yX10_accountKeeps.desc).map (fun d => d.parameters.length) = some 2 := by decide +kernel
theorem qh_X10_narrow : yX10_narrow.cls ≠ "java/lang/invoke/MethodHandle" ∧ yX10_narrow.cls ≠ "java/lang/invoke/VarHandle" ∧ (parseMethodDescriptor yX10_narrow.desc).map (fun d => d.parameters.length) = some 2 := by decide +kernel
theorem qh_X10_place : yX10_place.cls ≠ "java/lang/invoke/MethodHandle" ∧ yX10_place.cls ≠ "java/lang/invoke/VarHandle" ∧ (parseMethodDescriptor yX10_place.desc).map (fun d => d.parameters.length) = some 1 := by decide +kernel
theorem qh_X10_takesNumber : yX10_takesNumber.cls ≠ "java/lang/invoke/MethodHandle" ∧ yX10_takesNumber.cls ≠ "java/lang/invoke/VarHandle" ∧ (parseMethodDescriptor yX10_takesNumber.desc).map (fun d => d.parameters.length) = some 0 := by decide +kernel
theorem qh_X10_whole : yX10_whole.cls ≠ "java/lang/invoke/MethodHandle" ∧ yX10_whole.cls ≠ "java/lang/invoke/VarHandle" ∧ (parseMethodDescriptor yX10_whole.desc).map (fun d => d.parameters.length) = some 0 := by decide +kernel
theorem qh_X10_takesWord : yX10_takesWord.cls ≠ "java/lang/invoke/MethodHandle" ∧ yX10_takesWord.cls ≠ "java/lang/invoke/VarHandle" ∧ (parseMethodDescriptor yX10_takesWord.desc).map (fun d => d.parameters.length) = some 2 := by decide +kernel
theorem qh_X10_second : yX10_second.cls ≠ "java/lang/invoke/MethodHandle" ∧ yX10_second.cls ≠ "java/lang/invoke/VarHandle" ∧ (parseMethodDescriptor yX10_second.desc).map (fun d => d.parameters.length) = some 0 := by decide +kernel
theorem qh_X10_sumOf : yX10_sumOf.cls ≠ "java/lang/invoke/MethodHandle" ∧ yX10_sumOf.cls ≠ "java/lang/invoke/VarHandle" ∧ (parseMethodDescriptor yX10_sumOf.desc).map (fun d => d.parameters.length) = some 2 := by decide +kernel
theorem qh_X10_floor : yX10_floor.cls ≠ "java/lang/invoke/MethodHandle" ∧ yX10_floor.cls ≠ "java/lang/invoke/VarHandle" ∧ (parseMethodDescriptor yX10_floor.desc).map (fun d => d.parameters.length) = some 0 := by decide +kernel
theorem qh_X10_keepsAct : yX10_keepsAct.cls ≠ "java/lang/invoke/MethodHandle" ∧ yX10_keepsAct.cls ≠ "java/lang/invoke/VarHandle" ∧ (parseMethodDescriptor yX10_keepsAct.desc).map (fun d => d.parameters.length) = some 2 := by decide +kernel
theorem qh_X10_settle : yX10_settle.cls ≠ "java/lang/invoke/MethodHandle" ∧ yX10_settle.cls ≠ "java/lang/invoke/VarHandle" ∧ (parseMethodDescriptor yX10_settle.desc).map (fun d => d.parameters.length) = some 1 := by decide +kernel
theorem qh_X10_takesTest : yX10_takesTest.cls ≠ "java/lang/invoke/MethodHandle" ∧ yX10_takesTest.cls ≠ "java/lang/invoke/VarHandle" ∧ (parseMethodDescriptor yX10_takesTest.desc).map (fun d => d.parameters.length) = some 0 := by decide +kernel
theorem qh_X10_poursOf : yX10_poursOf.cls ≠ "java/lang/invoke/MethodHandle" ∧ yX10_poursOf.cls ≠ "java/lang/invoke/VarHandle" ∧ (parseMethodDescriptor yX10_poursOf.desc).map (fun d => d.parameters.length) = some 1 := by decide +kernel
theorem qh_X10_sunOf : yX10_sunOf.cls ≠ "java/lang/invoke/MethodHandle" ∧ yX10_sunOf.cls ≠ "java/lang/invoke/VarHandle" ∧ (parseMethodDescriptor yX10_sunOf.desc).map (fun d => d.parameters.length) = some 1 := by decide +kernel
theorem qh_X10_mark : yX10_mark.cls ≠ "java/lang/invoke/MethodHandle" ∧ yX10_mark.cls ≠ "java/lang/invoke/VarHandle" ∧ (parseMethodDescriptor yX10_mark.desc).map (fun d => d.parameters.length) = some 0 := by decide +kernel
theorem qh_X10_spring : yX10_spring.cls ≠ "java/lang/invoke/MethodHandle" ∧ yX10_spring.cls ≠ "java/lang/invoke/VarHandle" ∧ (parseMethodDescriptor yX10_spring.desc).map (fun d => d.parameters.length) = some 0 := by decide +kernel
theorem qh_X10_pours : yX10_pours.cls ≠ "java/lang/invoke/MethodHandle" ∧ yX10_pours.cls ≠ "java/lang/invoke/VarHandle" ∧ (parseMethodDescriptor yX10_pours.desc).map (fun d => d.parameters.length) = some 2 := by decide +kernel
theorem qh_X10_held : yX10_held.cls ≠ "java/lang/invoke/MethodHandle" ∧ yX10_held.cls ≠ "java/lang/invoke/VarHandle" ∧ (parseMethodDescriptor yX10_held.desc).map (fun d => d.parameters.length) = some 1 := by decide +kernel
theorem qh_X10_accountPours : yX10_accountPours.cls ≠ "java/lang/invoke/MethodHandle" ∧ yX10_accountPours.cls ≠ "java/lang/invoke/VarHandle" ∧ (parseMethodDescriptor yX10_accountPours.desc).map (fun d => d.parameters.length) = some 2 := by decide +kernel
theorem qh_X10_takesHead : yX10_takesHead.cls ≠ "java/lang/invoke/MethodHandle" ∧ yX10_takesHead.cls ≠ "java/lang/invoke/VarHandle" ∧ (parseMethodDescriptor yX10_takesHead.desc).map (fun d => d.parameters.length) = some 1 := by decide +kernel
theorem qh_X10_takesE : yX10_takesE.cls ≠ "java/lang/invoke/MethodHandle" ∧ yX10_takesE.cls ≠ "java/lang/invoke/VarHandle" ∧ (parseMethodDescriptor yX10_takesE.desc).map (fun d => d.parameters.length) = some 1 := by decide +kernel
theorem qh_X10_goDay : yX10_goDay.cls ≠ "java/lang/invoke/MethodHandle" ∧ yX10_goDay.cls ≠ "java/lang/invoke/VarHandle" ∧ (parseMethodDescriptor yX10_goDay.desc).map (fun d => d.parameters.length) = some 0 := by decide +kernel
theorem qh_X10_save : yX10_save.cls ≠ "java/lang/invoke/MethodHandle" ∧ yX10_save.cls ≠ "java/lang/invoke/VarHandle" ∧ (parseMethodDescriptor yX10_save.desc).map (fun d => d.parameters.length) = some 0 := by decide +kernel
theorem qh_X10_putBack : yX10_putBack.cls ≠ "java/lang/invoke/MethodHandle" ∧ yX10_putBack.cls ≠ "java/lang/invoke/VarHandle" ∧ (parseMethodDescriptor yX10_putBack.desc).map (fun d => d.parameters.length) = some 0 := by decide +kernel
theorem qh_X10_isDays : yX10_isDays.cls ≠ "java/lang/invoke/MethodHandle" ∧ yX10_isDays.cls ≠ "java/lang/invoke/VarHandle" ∧ (parseMethodDescriptor yX10_isDays.desc).map (fun d => d.parameters.length) = some 1 := by decide +kernel
theorem qh_X10_below : yX10_below.cls ≠ "java/lang/invoke/MethodHandle" ∧ yX10_below.cls ≠ "java/lang/invoke/VarHandle" ∧ (parseMethodDescriptor yX10_below.desc).map (fun d => d.parameters.length) = some 1 := by decide +kernel
theorem qh_X10_lowestTerms : yX10_lowestTerms.cls ≠ "java/lang/invoke/MethodHandle" ∧ yX10_lowestTerms.cls ≠ "java/lang/invoke/VarHandle" ∧ (parseMethodDescriptor yX10_lowestTerms.desc).map (fun d => d.parameters.length) = some 3 := by decide +kernel
theorem qh_X10_savingPours : yX10_savingPours.cls ≠ "java/lang/invoke/MethodHandle" ∧ yX10_savingPours.cls ≠ "java/lang/invoke/VarHandle" ∧ (parseMethodDescriptor yX10_savingPours.desc).map (fun d => d.parameters.length) = some 2 := by decide +kernel
theorem qh_X10_takesClause : yX10_takesClause.cls ≠ "java/lang/invoke/MethodHandle" ∧ yX10_takesClause.cls ≠ "java/lang/invoke/VarHandle" ∧ (parseMethodDescriptor yX10_takesClause.desc).map (fun d => d.parameters.length) = some 1 := by decide +kernel
theorem qh_X10_goDays : yX10_goDays.cls ≠ "java/lang/invoke/MethodHandle" ∧ yX10_goDays.cls ≠ "java/lang/invoke/VarHandle" ∧ (parseMethodDescriptor yX10_goDays.desc).map (fun d => d.parameters.length) = some 1 := by decide +kernel
theorem qh_X10_isAbove : yX10_isAbove.cls ≠ "java/lang/invoke/MethodHandle" ∧ yX10_isAbove.cls ≠ "java/lang/invoke/VarHandle" ∧ (parseMethodDescriptor yX10_isAbove.desc).map (fun d => d.parameters.length) = some 1 := by decide +kernel
theorem qh_X10_poursAct : yX10_poursAct.cls ≠ "java/lang/invoke/MethodHandle" ∧ yX10_poursAct.cls ≠ "java/lang/invoke/VarHandle" ∧ (parseMethodDescriptor yX10_poursAct.desc).map (fun d => d.parameters.length) = some 2 := by decide +kernel
theorem qh_X10_goesText : yX10_goesText.cls ≠ "java/lang/invoke/MethodHandle" ∧ yX10_goesText.cls ≠ "java/lang/invoke/VarHandle" ∧ (parseMethodDescriptor yX10_goesText.desc).map (fun d => d.parameters.length) = some 1 := by decide +kernel
theorem qh_X10_waterBehind : yX10_waterBehind.cls ≠ "java/lang/invoke/MethodHandle" ∧ yX10_waterBehind.cls ≠ "java/lang/invoke/VarHandle" ∧ (parseMethodDescriptor yX10_waterBehind.desc).map (fun d => d.parameters.length) = some 1 := by decide +kernel
theorem qh_X10_isSeen : yX10_isSeen.cls ≠ "java/lang/invoke/MethodHandle" ∧ yX10_isSeen.cls ≠ "java/lang/invoke/VarHandle" ∧ (parseMethodDescriptor yX10_isSeen.desc).map (fun d => d.parameters.length) = some 0 := by decide +kernel
theorem qh_X10_accountTells : yX10_accountTells.cls ≠ "java/lang/invoke/MethodHandle" ∧ yX10_accountTells.cls ≠ "java/lang/invoke/VarHandle" ∧ (parseMethodDescriptor yX10_accountTells.desc).map (fun d => d.parameters.length) = some 2 := by decide +kernel
theorem qh_X10_tellsAct : yX10_tellsAct.cls ≠ "java/lang/invoke/MethodHandle" ∧ yX10_tellsAct.cls ≠ "java/lang/invoke/VarHandle" ∧ (parseMethodDescriptor yX10_tellsAct.desc).map (fun d => d.parameters.length) = some 2 := by decide +kernel
end
section
variable {X : x_X} {l : Launch} {p : Program} {e : Env} {s : State} {m : MethodId} {args : Array Value} {below : List Frame} {meth : Method} {c : Code}
theorem dJ9_floorMod_7cf53_0 : decode cJ9_floorMod_7cf53 0 = .ok (.iload_n 0, 1) := by decide +kernel
theorem dJ9_floorMod_7cf53_1 : decode cJ9_floorMod_7cf53 1 = .ok (.iload_n 1, 1) := by decide +kernel
theorem dJ9_floorMod_7cf53_2 : decode cJ9_floorMod_7cf53 2 = .ok (.irem, 1) := by decide +kernel
theorem dJ9_floorMod_7cf53_3 : decode cJ9_floorMod_7cf53 3 = .ok (.istore_n 2, 1) := by decide +kernel
theorem dJ9_floorMod_7cf53_4 : decode cJ9_floorMod_7cf53 4 = .ok (.iload_n 0, 1) := by decide +kernel
theorem dJ9_floorMod_7cf53_5 : decode cJ9_floorMod_7cf53 5 = .ok (.iload_n 1, 1) := by decide +kernel
theorem dJ9_floorMod_7cf53_6 : decode cJ9_floorMod_7cf53 6 = .ok (.ixor, 1) := by decide +kernel
theorem dJ9_floorMod_7cf53_7 : decode cJ9_floorMod_7cf53 7 = .ok (.ifCond .ge 11, 3) := by decide +kernel
theorem dJ9_floorMod_7cf53_10 : decode cJ9_floorMod_7cf53 10 = .ok (.iload_n 2, 1) := by decide +kernel
theorem dJ9_floorMod_7cf53_11 : decode cJ9_floorMod_7cf53 11 = .ok (.ifCond .eq 7, 3) := by decide +kernel
theorem dJ9_floorMod_7cf53_14 : decode cJ9_floorMod_7cf53 14 = .ok (.iload_n 2, 1) := by decide +kernel
theorem dJ9_floorMod_7cf53_15 : decode cJ9_floorMod_7cf53 15 = .ok (.iload_n 1, 1) := by decide +kernel
theorem dJ9_floorMod_7cf53_16 : decode cJ9_floorMod_7cf53 16 = .ok (.iadd, 1) := by decide +kernel
theorem dJ9_floorMod_7cf53_17 : decode cJ9_floorMod_7cf53 17 = .ok (.ireturn, 1) := by decide +kernel
theorem dJ9_floorMod_7cf53_18 : decode cJ9_floorMod_7cf53 18 = .ok (.iload_n 2, 1) := by decide +kernel
theorem dJ9_floorMod_7cf53_19 : decode cJ9_floorMod_7cf53 19 = .ok (.ireturn, 1) := by decide +kernel
def f_J9_floorMod_7cf53 (X : x_X) (v0 : Int32) (v1 : Int32) (μ : x_M) : Option (Int32 × x_M) :=
  (ck (¬ v1 = 0) (lt (v0 - v0 / v1 * v1) (fun (v3 : Int32) => (if 0 ≤ (v0 ^^^ v1) then (some (v3, μ)) else (if v3 = 0 then (some (v3, μ)) else (some ((v3 + v1), μ)))))))
set_option maxRecDepth 100000 in
theorem m_J9_floorMod_7cf53 (hI : x_I X) (v0 : Int32) (v1 : Int32) (μ : x_M) : x_Met X x_Z0 l yJ9_floorMod_7cf53 cJ9_floorMod_7cf53 3 (some .int) 1 [vI v0, vI v1] μ rkI (f_J9_floorMod_7cf53 X v0 v1 μ) := by
  refine x_enter hI (by decide +kernel) (Nat.le_of_ble_eq_true rfl) (fun p e s m args below meth c hC hr hlk => ?_)
  unfold f_J9_floorMod_7cf53
  refine s_lv (lv' := [(0, vI v0), (1, vI v1)]) [0, 1] rfl ?_
  refine s_iload_n hC 0 dJ9_floorMod_7cf53_0 rfl ?_
  refine s_iload_n hC 1 dJ9_floorMod_7cf53_1 rfl ?_
  refine s_irem hC dJ9_floorMod_7cf53_2 ?_
  refine s_ltI (fun v3 => ?_)
  refine s_istore_n hC dJ9_floorMod_7cf53_3 (by decide) (lv' := [(2, vI v3), (0, vI v0), (1, vI v1)]) rfl ?_
  refine s_iload_n hC 1 dJ9_floorMod_7cf53_4 rfl ?_
  refine s_iload_n hC 2 dJ9_floorMod_7cf53_5 rfl ?_
  refine s_ixor hC dJ9_floorMod_7cf53_6 ?_
  refine s_if_ge hC dJ9_floorMod_7cf53_7 (tgt := 18) (by decide) ?_ ?_
  · refine s_iload_n hC 0 dJ9_floorMod_7cf53_18 rfl ?_
    exact s_iret hC hr hlk dJ9_floorMod_7cf53_19
  refine s_iload_n hC 0 dJ9_floorMod_7cf53_10 rfl ?_
  refine s_if_eq hC dJ9_floorMod_7cf53_11 (tgt := 18) (by decide) ?_ ?_
  · refine s_iload_n hC 0 dJ9_floorMod_7cf53_18 rfl ?_
    exact s_iret hC hr hlk dJ9_floorMod_7cf53_19
  refine s_iload_n hC 0 dJ9_floorMod_7cf53_14 rfl ?_
  refine s_iload_n hC 2 dJ9_floorMod_7cf53_15 rfl ?_
  refine s_iadd hC dJ9_floorMod_7cf53_16 ?_
  exact s_iret hC hr hlk dJ9_floorMod_7cf53_17
theorem dJ3_checkIndex_8e157_0 : decode cJ3_checkIndex_8e157 0 = .ok (.iload_n 0, 1) := by decide +kernel
theorem dJ3_checkIndex_8e157_1 : decode cJ3_checkIndex_8e157 1 = .ok (.ifCond .lt 8, 3) := by decide +kernel
theorem dJ3_checkIndex_8e157_4 : decode cJ3_checkIndex_8e157 4 = .ok (.iload_n 0, 1) := by decide +kernel
theorem dJ3_checkIndex_8e157_5 : decode cJ3_checkIndex_8e157 5 = .ok (.iload_n 1, 1) := by decide +kernel
theorem dJ3_checkIndex_8e157_6 : decode cJ3_checkIndex_8e157 6 = .ok (.if_icmp .lt 10, 3) := by decide +kernel
theorem dJ3_checkIndex_8e157_9 : decode cJ3_checkIndex_8e157 9 = .ok (.aload_n 2, 1) := by decide +kernel
theorem dJ3_checkIndex_8e157_10 : decode cJ3_checkIndex_8e157 10 = .ok (.iload_n 0, 1) := by decide +kernel
theorem dJ3_checkIndex_8e157_11 : decode cJ3_checkIndex_8e157 11 = .ok (.iload_n 1, 1) := by decide +kernel
theorem dJ3_checkIndex_8e157_12 : decode cJ3_checkIndex_8e157 12 = .ok (.invokestatic 95, 3) := by decide +kernel
theorem dJ3_checkIndex_8e157_15 : decode cJ3_checkIndex_8e157 15 = .ok (.athrow, 1) := by decide +kernel
theorem dJ3_checkIndex_8e157_16 : decode cJ3_checkIndex_8e157 16 = .ok (.iload_n 0, 1) := by decide +kernel
theorem dJ3_checkIndex_8e157_17 : decode cJ3_checkIndex_8e157 17 = .ok (.ireturn, 1) := by decide +kernel
def f_J3_checkIndex_8e157 (X : x_X) (v0 : Int32) (v1 : Int32) (v2 : Nat) (μ : x_M) : Option (Int32 × x_M) :=
  (if v0 < 0 then none else (if v0 < v1 then (some (v0, μ)) else none))
set_option maxRecDepth 100000 in
theorem m_J3_checkIndex_8e157 (hI : x_I X) (v0 : Int32) (v1 : Int32) (v2 : Nat) (μ : x_M) : x_Met X x_Z0 l yJ3_checkIndex_8e157 cJ3_checkIndex_8e157 3 (some .int) 1 [vI v0, vI v1, vR v2] μ rkI (f_J3_checkIndex_8e157 X v0 v1 v2 μ) := by
  refine x_enter hI (by decide +kernel) (Nat.le_of_ble_eq_true rfl) (fun p e s m args below meth c hC hr hlk => ?_)
  unfold f_J3_checkIndex_8e157
  refine s_lv (lv' := [(0, vI v0), (1, vI v1), (2, vR v2)]) [0, 1, 2] rfl ?_
  refine s_iload_n hC 0 dJ3_checkIndex_8e157_0 rfl ?_
  refine s_if_lt hC dJ3_checkIndex_8e157_1 (tgt := 9) (by decide) ?_ ?_
  · refine s_aload_n hC 2 dJ3_checkIndex_8e157_9 rfl ?_
    refine s_iload_n hC 0 dJ3_checkIndex_8e157_10 rfl ?_
    refine s_iload_n hC 1 dJ3_checkIndex_8e157_11 rfl ?_
    exact s_none
  refine s_iload_n hC 0 dJ3_checkIndex_8e157_4 rfl ?_
  refine s_iload_n hC 1 dJ3_checkIndex_8e157_5 rfl ?_
  refine s_icmp_lt hC dJ3_checkIndex_8e157_6 (tgt := 16) (by decide) ?_ ?_
  · refine s_iload_n hC 0 dJ3_checkIndex_8e157_16 rfl ?_
    exact s_iret hC hr hlk dJ3_checkIndex_8e157_17
  refine s_aload_n hC 2 dJ3_checkIndex_8e157_9 rfl ?_
  refine s_iload_n hC 0 dJ3_checkIndex_8e157_10 rfl ?_
  refine s_iload_n hC 1 dJ3_checkIndex_8e157_11 rfl ?_
  exact s_none
theorem dJ1_canEncode_9a6ad_0 : decode cJ1_canEncode_9a6ad 0 = .ok (.iload_n 0, 1) := by decide +kernel
theorem dJ1_canEncode_9a6ad_1 : decode cJ1_canEncode_9a6ad 1 = .ok (.ifCond .lt 14, 3) := by decide +kernel
theorem dJ1_canEncode_9a6ad_4 : decode cJ1_canEncode_9a6ad 4 = .ok (.iload_n 0, 1) := by decide +kernel
theorem dJ1_canEncode_9a6ad_5 : decode cJ1_canEncode_9a6ad 5 = .ok (.sipush 255, 3) := by decide +kernel
theorem dJ1_canEncode_9a6ad_8 : decode cJ1_canEncode_9a6ad 8 = .ok (.if_icmp .gt 7, 3) := by decide +kernel
theorem dJ1_canEncode_9a6ad_11 : decode cJ1_canEncode_9a6ad 11 = .ok (.iconst 1, 1) := by decide +kernel
theorem dJ1_canEncode_9a6ad_12 : decode cJ1_canEncode_9a6ad 12 = .ok (.goto 4, 3) := by decide +kernel
theorem dJ1_canEncode_9a6ad_15 : decode cJ1_canEncode_9a6ad 15 = .ok (.iconst 0, 1) := by decide +kernel
theorem dJ1_canEncode_9a6ad_16 : decode cJ1_canEncode_9a6ad 16 = .ok (.ireturn, 1) := by decide +kernel
def f_J1_canEncode_9a6ad (X : x_X) (v0 : Int32) (μ : x_M) : Option (Int32 × x_M) :=
  (if v0 < 0 then (ck ((0 : Int32) = 0 ∨ (0 : Int32) = 1) (some ((0 : Int32), μ))) else (if (255 : Int32) < v0 then (ck ((0 : Int32) = 0 ∨ (0 : Int32) = 1) (some ((0 : Int32), μ))) else (ck ((1 : Int32) = 0 ∨ (1 : Int32) = 1) (some ((1 : Int32), μ)))))
set_option maxRecDepth 100000 in
theorem m_J1_canEncode_9a6ad (hI : x_I X) (v0 : Int32) (μ : x_M) : x_Met X x_Z0 l yJ1_canEncode_9a6ad cJ1_canEncode_9a6ad 1 (some .boolean) 1 [vI v0] μ rkI (f_J1_canEncode_9a6ad X v0 μ) := by
  refine x_enter hI (by decide +kernel) (Nat.le_of_ble_eq_true rfl) (fun p e s m args below meth c hC hr hlk => ?_)
  unfold f_J1_canEncode_9a6ad
  refine s_lv (lv' := [(0, vI v0)]) [0] rfl ?_
  refine s_iload_n hC 0 dJ1_canEncode_9a6ad_0 rfl ?_
  refine s_if_lt hC dJ1_canEncode_9a6ad_1 (tgt := 15) (by decide) ?_ ?_
  · refine s_iconst hC dJ1_canEncode_9a6ad_15 (v := 0) (by decide) ?_
    exact s_zret hC hr hlk dJ1_canEncode_9a6ad_16
  refine s_iload_n hC 0 dJ1_canEncode_9a6ad_4 rfl ?_
  refine s_sipush hC dJ1_canEncode_9a6ad_5 (v := 255) (by decide) ?_
  refine s_icmp_gt hC dJ1_canEncode_9a6ad_8 (tgt := 15) (by decide) ?_ ?_
  · refine s_iconst hC dJ1_canEncode_9a6ad_15 (v := 0) (by decide) ?_
    exact s_zret hC hr hlk dJ1_canEncode_9a6ad_16
  refine s_iconst hC dJ1_canEncode_9a6ad_11 (v := 1) (by decide) ?_
  refine s_goto hC dJ1_canEncode_9a6ad_12 (tgt := 16) (by decide) ?_
  exact s_zret hC hr hlk dJ1_canEncode_9a6ad_16
theorem dJ1_indexOfChar_4cfef_0 : decode cJ1_indexOfChar_4cfef 0 = .ok (.iload_n 1, 1) := by decide +kernel
theorem dJ1_indexOfChar_4cfef_1 : decode cJ1_indexOfChar_4cfef 1 = .ok (.i2b, 1) := by decide +kernel
theorem dJ1_indexOfChar_4cfef_2 : decode cJ1_indexOfChar_4cfef 2 = .ok (.istore 4, 2) := by decide +kernel
theorem dJ1_indexOfChar_4cfef_4 : decode cJ1_indexOfChar_4cfef 4 = .ok (.iload_n 2, 1) := by decide +kernel
theorem dJ1_indexOfChar_4cfef_5 : decode cJ1_indexOfChar_4cfef 5 = .ok (.istore 5, 2) := by decide +kernel
theorem dJ1_indexOfChar_4cfef_7 : decode cJ1_indexOfChar_4cfef 7 = .ok (.iload 5, 2) := by decide +kernel
theorem dJ1_indexOfChar_4cfef_9 : decode cJ1_indexOfChar_4cfef 9 = .ok (.iload_n 3, 1) := by decide +kernel
theorem dJ1_indexOfChar_4cfef_10 : decode cJ1_indexOfChar_4cfef 10 = .ok (.if_icmp .ge 21, 3) := by decide +kernel
theorem dJ1_indexOfChar_4cfef_13 : decode cJ1_indexOfChar_4cfef 13 = .ok (.aload_n 0, 1) := by decide +kernel
theorem dJ1_indexOfChar_4cfef_14 : decode cJ1_indexOfChar_4cfef 14 = .ok (.iload 5, 2) := by decide +kernel
theorem dJ1_indexOfChar_4cfef_16 : decode cJ1_indexOfChar_4cfef 16 = .ok (.baload, 1) := by decide +kernel
theorem dJ1_indexOfChar_4cfef_17 : decode cJ1_indexOfChar_4cfef 17 = .ok (.iload 4, 2) := by decide +kernel
theorem dJ1_indexOfChar_4cfef_19 : decode cJ1_indexOfChar_4cfef 19 = .ok (.if_icmp .ne 6, 3) := by decide +kernel
theorem dJ1_indexOfChar_4cfef_22 : decode cJ1_indexOfChar_4cfef 22 = .ok (.iload 5, 2) := by decide +kernel
theorem dJ1_indexOfChar_4cfef_24 : decode cJ1_indexOfChar_4cfef 24 = .ok (.ireturn, 1) := by decide +kernel
theorem dJ1_indexOfChar_4cfef_25 : decode cJ1_indexOfChar_4cfef 25 = .ok (.iinc 5 1, 3) := by decide +kernel
theorem dJ1_indexOfChar_4cfef_28 : decode cJ1_indexOfChar_4cfef 28 = .ok (.goto (-21), 3) := by decide +kernel
theorem dJ1_indexOfChar_4cfef_31 : decode cJ1_indexOfChar_4cfef 31 = .ok (.iconst (-1), 1) := by decide +kernel
theorem dJ1_indexOfChar_4cfef_32 : decode cJ1_indexOfChar_4cfef 32 = .ok (.ireturn, 1) := by decide +kernel
def f_J1_indexOfChar_4cfef_L7 (X : x_X) : Nat → Nat → Int32 → Int32 → Int32 → x_M → Option (Int32 × x_M)
  | 0, _, _, _, _, _ => none
  | n + 1, v6, v7, v8, v9, μ10 =>
    (if v7 ≤ v9 then (some ((-1 : Int32), μ10)) else (ck ((x_kd X v6 = 22 ∨ x_kd X v6 = 41) ∧ x_ix v9 (x_ln X v6)) (if (μ10.1 v6 (v9).toNatClampNeg) = v8 then (some (v9, μ10)) else (f_J1_indexOfChar_4cfef_L7 X n v6 v7 v8 (v9 + (1 : Int32)) μ10))))
set_option maxRecDepth 100000 in
theorem j_J1_indexOfChar_4cfef_L7 (hI : x_I X) (hC : x_C X x_Z0 p (x_rm 1) s m c cJ1_indexOfChar_4cfef RJ1 6 0 0 1) (hr : meth.sig.returnType = (some .int)) (hlk : meth.locks = false) : ∀ (n : Nat) (v6 : Nat) (v7 : Int32) (v8 : Int32) (v9 : Int32) (μ10 : x_M), SM X 6 1 rkI p l e s m args below meth c 7 [(0, vR v6), (3, vI v7), (4, vI v8), (5, vI v9)] [] μ10 (f_J1_indexOfChar_4cfef_L7 X n v6 v7 v8 v9 μ10) := by
  intro n
  induction n with
  | zero => intro v6 v7 v8 v9 μ10; exact s_none
  | succ n ih =>
    intro v6 v7 v8 v9 μ10
    unfold f_J1_indexOfChar_4cfef_L7
    refine s_iload hC 3 dJ1_indexOfChar_4cfef_7 rfl ?_
    refine s_iload_n hC 1 dJ1_indexOfChar_4cfef_9 rfl ?_
    refine s_icmp_ge hC dJ1_indexOfChar_4cfef_10 (tgt := 31) (by decide) ?_ ?_
    · refine s_iconst hC dJ1_indexOfChar_4cfef_31 (v := -1) (by decide) ?_
      exact s_iret hC hr hlk dJ1_indexOfChar_4cfef_32
    refine s_aload_n hC 0 dJ1_indexOfChar_4cfef_13 rfl ?_
    refine s_iload hC 3 dJ1_indexOfChar_4cfef_14 rfl ?_
    refine s_bald hC dJ1_indexOfChar_4cfef_16 ?_
    refine s_iload hC 2 dJ1_indexOfChar_4cfef_17 rfl ?_
    refine s_icmp_ne hC dJ1_indexOfChar_4cfef_19 (tgt := 25) (by decide) ?_ ?_
    · refine s_iinc hC 3 dJ1_indexOfChar_4cfef_25 rfl (w := 1) (by decide) (by decide) (lv' := [(5, vI (v9 + (1 : Int32))), (0, vR v6), (3, vI v7), (4, vI v8)]) rfl ?_
      refine s_goto hC dJ1_indexOfChar_4cfef_28 (tgt := 7) (by decide) ?_
      refine s_lv (lv' := [(0, vR v6), (3, vI v7), (4, vI v8), (5, vI (v9 + (1 : Int32)))]) [1, 2, 3, 0] rfl ?_
      exact ih _ _ _ _ _
    refine s_iload hC 3 dJ1_indexOfChar_4cfef_22 rfl ?_
    exact s_iret hC hr hlk dJ1_indexOfChar_4cfef_24
def f_J1_indexOfChar_4cfef (X : x_X) (v0 : Nat) (v1 : Int32) (v2 : Int32) (v3 : Int32) (μ : x_M) : Option (Int32 × x_M) :=
  (lt ((v1).toInt8.toInt32) (fun (v5 : Int32) => (f_J1_indexOfChar_4cfef_L7 X 4096 v0 v3 v5 v2 μ)))
set_option maxRecDepth 100000 in
theorem m_J1_indexOfChar_4cfef (hI : x_I X) (v0 : Nat) (v1 : Int32) (v2 : Int32) (v3 : Int32) (μ : x_M) : x_Met X x_Z0 l yJ1_indexOfChar_4cfef cJ1_indexOfChar_4cfef 6 (some .int) 1 [vR v0, vI v1, vI v2, vI v3] μ rkI (f_J1_indexOfChar_4cfef X v0 v1 v2 v3 μ) := by
  refine x_enter hI (by decide +kernel) (Nat.le_of_ble_eq_true rfl) (fun p e s m args below meth c hC hr hlk => ?_)
  unfold f_J1_indexOfChar_4cfef
  refine s_lv (lv' := [(0, vR v0), (1, vI v1), (2, vI v2), (3, vI v3)]) [0, 1, 2, 3] rfl ?_
  refine s_iload_n hC 1 dJ1_indexOfChar_4cfef_0 rfl ?_
  refine s_i2b hC dJ1_indexOfChar_4cfef_1 ?_
  refine s_ltI (fun v5 => ?_)
  refine s_istore hC dJ1_indexOfChar_4cfef_2 (by decide) (lv' := [(4, vI v5), (0, vR v0), (1, vI v1), (2, vI v2), (3, vI v3)]) rfl ?_
  refine s_iload_n hC 3 dJ1_indexOfChar_4cfef_4 rfl ?_
  refine s_istore hC dJ1_indexOfChar_4cfef_5 (by decide) (lv' := [(5, vI v2), (4, vI v5), (0, vR v0), (1, vI v1), (2, vI v2), (3, vI v3)]) rfl ?_
  refine s_lv (lv' := [(0, vR v0), (3, vI v3), (4, vI v5), (5, vI v2)]) [2, 5, 1, 0] rfl ?_
  refine j_J1_indexOfChar_4cfef_L7 hI hC hr hlk 4096 _ _ _ _ _
theorem dJ1_indexOf_4cfef_0 : decode cJ1_indexOf_4cfef 0 = .ok (.iload_n 1, 1) := by decide +kernel
theorem dJ1_indexOf_4cfef_1 : decode cJ1_indexOf_4cfef 1 = .ok (.invokestatic 88, 3) := by decide +kernel
theorem dJ1_indexOf_4cfef_4 : decode cJ1_indexOf_4cfef 4 = .ok (.ifCond .ne 5, 3) := by decide +kernel
theorem dJ1_indexOf_4cfef_7 : decode cJ1_indexOf_4cfef 7 = .ok (.iconst (-1), 1) := by decide +kernel
theorem dJ1_indexOf_4cfef_8 : decode cJ1_indexOf_4cfef 8 = .ok (.ireturn, 1) := by decide +kernel
theorem dJ1_indexOf_4cfef_9 : decode cJ1_indexOf_4cfef 9 = .ok (.iload_n 2, 1) := by decide +kernel
theorem dJ1_indexOf_4cfef_10 : decode cJ1_indexOf_4cfef 10 = .ok (.iconst 0, 1) := by decide +kernel
theorem dJ1_indexOf_4cfef_11 : decode cJ1_indexOf_4cfef 11 = .ok (.invokestatic 92, 3) := by decide +kernel
theorem dJ1_indexOf_4cfef_14 : decode cJ1_indexOf_4cfef 14 = .ok (.istore_n 2, 1) := by decide +kernel
theorem dJ1_indexOf_4cfef_15 : decode cJ1_indexOf_4cfef 15 = .ok (.iload_n 3, 1) := by decide +kernel
theorem dJ1_indexOf_4cfef_16 : decode cJ1_indexOf_4cfef 16 = .ok (.aload_n 0, 1) := by decide +kernel
theorem dJ1_indexOf_4cfef_17 : decode cJ1_indexOf_4cfef 17 = .ok (.arraylength, 1) := by decide +kernel
theorem dJ1_indexOf_4cfef_18 : decode cJ1_indexOf_4cfef 18 = .ok (.invokestatic 38, 3) := by decide +kernel
theorem dJ1_indexOf_4cfef_21 : decode cJ1_indexOf_4cfef 21 = .ok (.istore_n 3, 1) := by decide +kernel
theorem dJ1_indexOf_4cfef_22 : decode cJ1_indexOf_4cfef 22 = .ok (.iload_n 2, 1) := by decide +kernel
theorem dJ1_indexOf_4cfef_23 : decode cJ1_indexOf_4cfef 23 = .ok (.iload_n 3, 1) := by decide +kernel
theorem dJ1_indexOf_4cfef_24 : decode cJ1_indexOf_4cfef 24 = .ok (.if_icmp .lt 5, 3) := by decide +kernel
theorem dJ1_indexOf_4cfef_27 : decode cJ1_indexOf_4cfef 27 = .ok (.iconst (-1), 1) := by decide +kernel
theorem dJ1_indexOf_4cfef_28 : decode cJ1_indexOf_4cfef 28 = .ok (.ireturn, 1) := by decide +kernel
theorem dJ1_indexOf_4cfef_29 : decode cJ1_indexOf_4cfef 29 = .ok (.aload_n 0, 1) := by decide +kernel
theorem dJ1_indexOf_4cfef_30 : decode cJ1_indexOf_4cfef 30 = .ok (.iload_n 1, 1) := by decide +kernel
theorem dJ1_indexOf_4cfef_31 : decode cJ1_indexOf_4cfef 31 = .ok (.iload_n 2, 1) := by decide +kernel
theorem dJ1_indexOf_4cfef_32 : decode cJ1_indexOf_4cfef 32 = .ok (.iload_n 3, 1) := by decide +kernel
theorem dJ1_indexOf_4cfef_33 : decode cJ1_indexOf_4cfef 33 = .ok (.invokestatic 95, 3) := by decide +kernel
theorem dJ1_indexOf_4cfef_36 : decode cJ1_indexOf_4cfef 36 = .ok (.ireturn, 1) := by decide +kernel
def f_J1_indexOf_4cfef (X : x_X) (v0 : Nat) (v1 : Int32) (v2 : Int32) (v3 : Int32) (μ : x_M) : Option (Int32 × x_M) :=
  (bd (f_J1_canEncode_9a6ad X v1 μ) (fun (v5 : Int32) (μ6 : x_M) => (if v5 = 0 then (some ((-1 : Int32), μ6)) else (lt (if v2 < (0 : Int32) then (0 : Int32) else v2) (fun (v7 : Int32) => (ck (x_kd X v0 = 20 ∨ x_kd X v0 = 23 ∨ x_kd X v0 = 40 ∨ x_kd X v0 = 41) (lt (nI (x_ln X v0)) (fun (v8 : Int32) => (lt (if v8 < v3 then v8 else v3) (fun (v9 : Int32) => (if v7 < v9 then (bd (f_J1_indexOfChar_4cfef X v0 v1 v7 v9 μ6) (fun (v10 : Int32) (μ11 : x_M) => (some (v10, μ11)))) else (some ((-1 : Int32), μ6)))))))))))))
set_option maxRecDepth 100000 in
theorem m_J1_indexOf_4cfef (hI : x_I X) (v0 : Nat) (v1 : Int32) (v2 : Int32) (v3 : Int32) (μ : x_M) : x_Met X x_Z0 l yJ1_indexOf_4cfef cJ1_indexOf_4cfef 4 (some .int) 2 [vR v0, vI v1, vI v2, vI v3] μ rkI (f_J1_indexOf_4cfef X v0 v1 v2 v3 μ) := by
  refine x_enter hI (by decide +kernel) (Nat.le_of_ble_eq_true rfl) (fun p e s m args below meth c hC hr hlk => ?_)
  unfold f_J1_indexOf_4cfef
  refine s_lv (lv' := [(0, vR v0), (1, vI v1), (2, vI v2), (3, vI v3)]) [0, 1, 2, 3] rfl ?_
  refine s_iload_n hC 1 dJ1_indexOf_4cfef_0 rfl ?_
  refine s_callS hC (avs := [vI v1]) (st := []) (nest := false) (m_J1_canEncode_9a6ad hI v1 μ) dJ1_indexOf_4cfef_1 qm_J1_88 qt_J1_canEncode_9a6ad qc_J1 qd_J1_canEncode_9a6ad qh_J1_canEncode_9a6ad (by decide) (fun _ => Nat.le_of_ble_eq_true rfl) (Nat.le_of_ble_eq_true rfl) (fun v5 μ6 => ?_)
  refine s_if_ne hC dJ1_indexOf_4cfef_4 (tgt := 9) (by decide) ?_ ?_
  · refine s_iload_n hC 2 dJ1_indexOf_4cfef_9 rfl ?_
    refine s_iconst hC dJ1_indexOf_4cfef_10 (v := 0) (by decide) ?_
    refine s_max hC dJ1_indexOf_4cfef_11 qm_J1_92 qt_Math_max qc_Math qd_Math_max (by decide) (Nat.le_of_ble_eq_true rfl) ?_
    refine s_ltI (fun v7 => ?_)
    refine s_istore_n hC dJ1_indexOf_4cfef_14 (by decide) (lv' := [(2, vI v7), (0, vR v0), (1, vI v1), (3, vI v3)]) rfl ?_
    refine s_iload_n hC 3 dJ1_indexOf_4cfef_15 rfl ?_
    refine s_aload_n hC 1 dJ1_indexOf_4cfef_16 rfl ?_
    refine s_alen hC dJ1_indexOf_4cfef_17 ?_
    refine s_ltI (fun v8 => ?_)
    refine s_min hC dJ1_indexOf_4cfef_18 qm_J1_38 qt_Math_min qc_Math qd_Math_min (by decide) (Nat.le_of_ble_eq_true rfl) ?_
    refine s_ltI (fun v9 => ?_)
    refine s_istore_n hC dJ1_indexOf_4cfef_21 (by decide) (lv' := [(3, vI v9), (2, vI v7), (0, vR v0), (1, vI v1)]) rfl ?_
    refine s_iload_n hC 1 dJ1_indexOf_4cfef_22 rfl ?_
    refine s_iload_n hC 0 dJ1_indexOf_4cfef_23 rfl ?_
    refine s_icmp_lt hC dJ1_indexOf_4cfef_24 (tgt := 29) (by decide) ?_ ?_
    · refine s_aload_n hC 2 dJ1_indexOf_4cfef_29 rfl ?_
      refine s_iload_n hC 3 dJ1_indexOf_4cfef_30 rfl ?_
      refine s_iload_n hC 1 dJ1_indexOf_4cfef_31 rfl ?_
      refine s_iload_n hC 0 dJ1_indexOf_4cfef_32 rfl ?_
      refine s_callS hC (avs := [vR v0, vI v1, vI v7, vI v9]) (st := []) (nest := false) (m_J1_indexOfChar_4cfef hI v0 v1 v7 v9 μ6) dJ1_indexOf_4cfef_33 qm_J1_95 qt_J1_indexOfChar_4cfef qc_J1 qd_J1_indexOfChar_4cfef qh_J1_indexOfChar_4cfef (by decide) (fun _ => Nat.le_of_ble_eq_true rfl) (Nat.le_of_ble_eq_true rfl) (fun v10 μ11 => ?_)
      exact s_iret hC hr hlk dJ1_indexOf_4cfef_36
    refine s_iconst hC dJ1_indexOf_4cfef_27 (v := -1) (by decide) ?_
    exact s_iret hC hr hlk dJ1_indexOf_4cfef_28
  refine s_iconst hC dJ1_indexOf_4cfef_7 (v := -1) (by decide) ?_
  exact s_iret hC hr hlk dJ1_indexOf_4cfef_8
theorem dJ0_checkIndex_df160_0 : decode cJ0_checkIndex_df160 0 = .ok (.iload_n 0, 1) := by decide +kernel
theorem dJ0_checkIndex_df160_1 : decode cJ0_checkIndex_df160 1 = .ok (.iload_n 1, 1) := by decide +kernel
theorem dJ0_checkIndex_df160_2 : decode cJ0_checkIndex_df160 2 = .ok (.getstatic 1053, 3) := by decide +kernel
theorem dJ0_checkIndex_df160_5 : decode cJ0_checkIndex_df160 5 = .ok (.invokestatic 1059, 3) := by decide +kernel
theorem dJ0_checkIndex_df160_8 : decode cJ0_checkIndex_df160 8 = .ok (.pop, 1) := by decide +kernel
theorem dJ0_checkIndex_df160_9 : decode cJ0_checkIndex_df160 9 = .ok (.return_, 1) := by decide +kernel
def f_J0_checkIndex_df160 (X : x_X) (v0 : Int32) (v1 : Int32) (μ : x_M) : Option (Unit × x_M) :=
  (bd (f_J3_checkIndex_8e157 X v0 v1 803 μ) (fun (v3 : Int32) (μ4 : x_M) => (some ((), μ4))))
set_option maxRecDepth 100000 in
theorem m_J0_checkIndex_df160 (hI : x_I X) (v0 : Int32) (v1 : Int32) (μ : x_M) : x_Met X x_Z0 l yJ0_checkIndex_df160 cJ0_checkIndex_df160 2 none 2 [vI v0, vI v1] μ rkV (f_J0_checkIndex_df160 X v0 v1 μ) := by
  refine x_enter hI (by decide +kernel) (Nat.le_of_ble_eq_true rfl) (fun p e s m args below meth c hC hr hlk => ?_)
  unfold f_J0_checkIndex_df160
  refine s_lv (lv' := [(0, vI v0), (1, vI v1)]) [0, 1] rfl ?_
  refine s_iload_n hC 0 dJ0_checkIndex_df160_0 rfl ?_
  refine s_iload_n hC 1 dJ0_checkIndex_df160_1 rfl ?_
  refine s_gets hC (nest := false) dJ0_checkIndex_df160_2 (id := 803) (List.mem_of_getElem? (i := 2) rfl) qg_J0_1053 ?_
  refine s_callS hC (avs := [vI v0, vI v1, vR 803]) (st := []) (nest := false) (m_J3_checkIndex_8e157 hI v0 v1 803 μ) dJ0_checkIndex_df160_5 qm_J0_1059 qt_J3_checkIndex_8e157 qc_J3 qd_J3_checkIndex_8e157 qh_J3_checkIndex_8e157 (by decide) (fun _ => Nat.le_of_ble_eq_true rfl) (Nat.le_of_ble_eq_true rfl) (fun v3 μ4 => ?_)
  refine s_pop hC dJ0_checkIndex_df160_8 rfl ?_
  exact s_vret hC hr hlk dJ0_checkIndex_df160_9
theorem dJ1_charAt_3b067_0 : decode cJ1_charAt_3b067 0 = .ok (.iload_n 1, 1) := by decide +kernel
theorem dJ1_charAt_3b067_1 : decode cJ1_charAt_3b067 1 = .ok (.aload_n 0, 1) := by decide +kernel
theorem dJ1_charAt_3b067_2 : decode cJ1_charAt_3b067 2 = .ok (.arraylength, 1) := by decide +kernel
theorem dJ1_charAt_3b067_3 : decode cJ1_charAt_3b067 3 = .ok (.invokestatic 9, 3) := by decide +kernel
theorem dJ1_charAt_3b067_6 : decode cJ1_charAt_3b067 6 = .ok (.aload_n 0, 1) := by decide +kernel
theorem dJ1_charAt_3b067_7 : decode cJ1_charAt_3b067 7 = .ok (.iload_n 1, 1) := by decide +kernel
theorem dJ1_charAt_3b067_8 : decode cJ1_charAt_3b067 8 = .ok (.baload, 1) := by decide +kernel
theorem dJ1_charAt_3b067_9 : decode cJ1_charAt_3b067 9 = .ok (.sipush 255, 3) := by decide +kernel
theorem dJ1_charAt_3b067_12 : decode cJ1_charAt_3b067 12 = .ok (.iand, 1) := by decide +kernel
theorem dJ1_charAt_3b067_13 : decode cJ1_charAt_3b067 13 = .ok (.i2c, 1) := by decide +kernel
theorem dJ1_charAt_3b067_14 : decode cJ1_charAt_3b067 14 = .ok (.ireturn, 1) := by decide +kernel
def f_J1_charAt_3b067 (X : x_X) (v0 : Nat) (v1 : Int32) (μ : x_M) : Option (Int32 × x_M) :=
  (ck (x_kd X v0 = 20 ∨ x_kd X v0 = 23 ∨ x_kd X v0 = 40 ∨ x_kd X v0 = 41) (bd (f_J0_checkIndex_df160 X v1 (nI (x_ln X v0)) μ) (fun (_ : Unit) (μ3 : x_M) => (ck ((x_kd X v0 = 22 ∨ x_kd X v0 = 41) ∧ x_ix v1 (x_ln X v0)) (lt (((((μ3.1 v0 (v1).toNatClampNeg) &&& (255 : Int32))).toUInt32 % 65536).toInt32) (fun (v4 : Int32) => (ck (((v4).toUInt32 % 65536).toInt32 = v4) (some (v4, μ3)))))))))
set_option maxRecDepth 100000 in
theorem m_J1_charAt_3b067 (hI : x_I X) (v0 : Nat) (v1 : Int32) (μ : x_M) : x_Met X x_Z0 l yJ1_charAt_3b067 cJ1_charAt_3b067 2 (some .char) 3 [vR v0, vI v1] μ rkI (f_J1_charAt_3b067 X v0 v1 μ) := by
  refine x_enter hI (by decide +kernel) (Nat.le_of_ble_eq_true rfl) (fun p e s m args below meth c hC hr hlk => ?_)
  unfold f_J1_charAt_3b067
  refine s_lv (lv' := [(0, vR v0), (1, vI v1)]) [0, 1] rfl ?_
  refine s_iload_n hC 1 dJ1_charAt_3b067_0 rfl ?_
  refine s_aload_n hC 0 dJ1_charAt_3b067_1 rfl ?_
  refine s_alen hC dJ1_charAt_3b067_2 ?_
  refine s_callS hC (avs := [vI v1, vI (nI (x_ln X v0))]) (st := []) (nest := false) (m_J0_checkIndex_df160 hI v1 (nI (x_ln X v0)) μ) dJ1_charAt_3b067_3 qm_J1_9 qt_J0_checkIndex_df160 qc_J0 qd_J0_checkIndex_df160 qh_J0_checkIndex_df160 (by decide) (fun _ => Nat.le_of_ble_eq_true rfl) (Nat.le_of_ble_eq_true rfl) (fun _ μ3 => ?_)
  refine s_aload_n hC 0 dJ1_charAt_3b067_6 rfl ?_
  refine s_iload_n hC 1 dJ1_charAt_3b067_7 rfl ?_
  refine s_bald hC dJ1_charAt_3b067_8 ?_
  refine s_sipush hC dJ1_charAt_3b067_9 (v := 255) (by decide) ?_
  refine s_iand hC dJ1_charAt_3b067_12 ?_
  refine s_i2c hC dJ1_charAt_3b067_13 ?_
  refine s_ltI (fun v4 => ?_)
  exact s_cret hC hr hlk dJ1_charAt_3b067_14
theorem dJ0_coder_7d493_0 : decode cJ0_coder_7d493 0 = .ok (.getstatic 38, 3) := by decide +kernel
theorem dJ0_coder_7d493_3 : decode cJ0_coder_7d493 3 = .ok (.ifCond .eq 10, 3) := by decide +kernel
theorem dJ0_coder_7d493_6 : decode cJ0_coder_7d493 6 = .ok (.aload_n 0, 1) := by decide +kernel
theorem dJ0_coder_7d493_7 : decode cJ0_coder_7d493 7 = .ok (.getfield 15, 3) := by decide +kernel
theorem dJ0_coder_7d493_10 : decode cJ0_coder_7d493 10 = .ok (.goto 4, 3) := by decide +kernel
theorem dJ0_coder_7d493_13 : decode cJ0_coder_7d493 13 = .ok (.iconst 1, 1) := by decide +kernel
theorem dJ0_coder_7d493_14 : decode cJ0_coder_7d493 14 = .ok (.ireturn, 1) := by decide +kernel
def f_J0_coder_7d493 (X : x_X) (v0 : Nat) (μ : x_M) : Option (Int32 × x_M) :=
  (if (1 : Int32) = 0 then (ck (((1 : Int32)).toInt8.toInt32 = (1 : Int32)) (some ((1 : Int32), μ))) else (ck (x_kd X v0 = 50) (lt (μ.1 v0 0) (fun (v2 : Int32) => (ck ((v2).toInt8.toInt32 = v2) (some (v2, μ)))))))
set_option maxRecDepth 100000 in
theorem m_J0_coder_7d493 (hI : x_I X) (v0 : Nat) (μ : x_M) : x_Met X x_Z0 l yJ0_coder_7d493 cJ0_coder_7d493 1 (some .byte) 1 [vR v0] μ rkI (f_J0_coder_7d493 X v0 μ) := by
  refine x_enter hI (by decide +kernel) (Nat.le_of_ble_eq_true rfl) (fun p e s m args below meth c hC hr hlk => ?_)
  unfold f_J0_coder_7d493
  refine s_lv (lv' := [(0, vR v0)]) [0] rfl ?_
  refine s_getsI hC dJ0_coder_7d493_0 (v := 1) (List.mem_of_getElem? (i := 0) rfl) qg_J0_38 ?_
  refine s_if_eq hC dJ0_coder_7d493_3 (tgt := 13) (by decide) ?_ ?_
  · refine s_iconst hC dJ0_coder_7d493_13 (v := 1) (by decide) ?_
    exact s_bret hC hr hlk dJ0_coder_7d493_14
  refine s_aload_n hC 0 dJ0_coder_7d493_6 rfl ?_
  refine s_gcod hC qf_J0_15 dJ0_coder_7d493_7 ?_
  refine s_goto hC dJ0_coder_7d493_10 (tgt := 14) (by decide) ?_
  refine s_ltI (fun v2 => ?_)
  exact s_bret hC hr hlk dJ0_coder_7d493_14
theorem dJ0_isLatin1_aae02_0 : decode cJ0_isLatin1_aae02 0 = .ok (.getstatic 38, 3) := by decide +kernel
theorem dJ0_isLatin1_aae02_3 : decode cJ0_isLatin1_aae02 3 = .ok (.ifCond .eq 14, 3) := by decide +kernel
theorem dJ0_isLatin1_aae02_6 : decode cJ0_isLatin1_aae02 6 = .ok (.aload_n 0, 1) := by decide +kernel
theorem dJ0_isLatin1_aae02_7 : decode cJ0_isLatin1_aae02 7 = .ok (.getfield 15, 3) := by decide +kernel
theorem dJ0_isLatin1_aae02_10 : decode cJ0_isLatin1_aae02 10 = .ok (.ifCond .ne 7, 3) := by decide +kernel
theorem dJ0_isLatin1_aae02_13 : decode cJ0_isLatin1_aae02 13 = .ok (.iconst 1, 1) := by decide +kernel
theorem dJ0_isLatin1_aae02_14 : decode cJ0_isLatin1_aae02 14 = .ok (.goto 4, 3) := by decide +kernel
theorem dJ0_isLatin1_aae02_17 : decode cJ0_isLatin1_aae02 17 = .ok (.iconst 0, 1) := by decide +kernel
theorem dJ0_isLatin1_aae02_18 : decode cJ0_isLatin1_aae02 18 = .ok (.ireturn, 1) := by decide +kernel
def f_J0_isLatin1_aae02 (X : x_X) (v0 : Nat) (μ : x_M) : Option (Int32 × x_M) :=
  (if (1 : Int32) = 0 then (ck ((0 : Int32) = 0 ∨ (0 : Int32) = 1) (some ((0 : Int32), μ))) else (ck (x_kd X v0 = 50) (if (μ.1 v0 0) = 0 then (ck ((1 : Int32) = 0 ∨ (1 : Int32) = 1) (some ((1 : Int32), μ))) else (ck ((0 : Int32) = 0 ∨ (0 : Int32) = 1) (some ((0 : Int32), μ))))))
set_option maxRecDepth 100000 in
theorem m_J0_isLatin1_aae02 (hI : x_I X) (v0 : Nat) (μ : x_M) : x_Met X x_Z0 l yJ0_isLatin1_aae02 cJ0_isLatin1_aae02 1 (some .boolean) 1 [vR v0] μ rkI (f_J0_isLatin1_aae02 X v0 μ) := by
  refine x_enter hI (by decide +kernel) (Nat.le_of_ble_eq_true rfl) (fun p e s m args below meth c hC hr hlk => ?_)
  unfold f_J0_isLatin1_aae02
  refine s_lv (lv' := [(0, vR v0)]) [0] rfl ?_
  refine s_getsI hC dJ0_isLatin1_aae02_0 (v := 1) (List.mem_of_getElem? (i := 0) rfl) qg_J0_38 ?_
  refine s_if_eq hC dJ0_isLatin1_aae02_3 (tgt := 17) (by decide) ?_ ?_
  · refine s_iconst hC dJ0_isLatin1_aae02_17 (v := 0) (by decide) ?_
    exact s_zret hC hr hlk dJ0_isLatin1_aae02_18
  refine s_aload_n hC 0 dJ0_isLatin1_aae02_6 rfl ?_
  refine s_gcod hC qf_J0_15 dJ0_isLatin1_aae02_7 ?_
  refine s_if_ne hC dJ0_isLatin1_aae02_10 (tgt := 17) (by decide) ?_ ?_
  · refine s_iconst hC dJ0_isLatin1_aae02_17 (v := 0) (by decide) ?_
    exact s_zret hC hr hlk dJ0_isLatin1_aae02_18
  refine s_iconst hC dJ0_isLatin1_aae02_13 (v := 1) (by decide) ?_
  refine s_goto hC dJ0_isLatin1_aae02_14 (tgt := 18) (by decide) ?_
  exact s_zret hC hr hlk dJ0_isLatin1_aae02_18
theorem dJ0_length_8abf5_0 : decode cJ0_length_8abf5 0 = .ok (.aload_n 0, 1) := by decide +kernel
theorem dJ0_length_8abf5_1 : decode cJ0_length_8abf5 1 = .ok (.getfield 9, 3) := by decide +kernel
theorem dJ0_length_8abf5_4 : decode cJ0_length_8abf5 4 = .ok (.arraylength, 1) := by decide +kernel
theorem dJ0_length_8abf5_5 : decode cJ0_length_8abf5 5 = .ok (.aload_n 0, 1) := by decide +kernel
theorem dJ0_length_8abf5_6 : decode cJ0_length_8abf5 6 = .ok (.invokevirtual 335, 3) := by decide +kernel
theorem dJ0_length_8abf5_9 : decode cJ0_length_8abf5 9 = .ok (.ishr, 1) := by decide +kernel
theorem dJ0_length_8abf5_10 : decode cJ0_length_8abf5 10 = .ok (.ireturn, 1) := by decide +kernel
def f_J0_length_8abf5 (X : x_X) (v0 : Nat) (μ : x_M) : Option (Int32 × x_M) :=
  (ck (x_kd X v0 = 50) (lt (μ.2.1 v0 1) (fun (v2 : Nat) => (ck (x_kd X v2 = 20 ∨ x_kd X v2 = 23 ∨ x_kd X v2 = 40 ∨ x_kd X v2 = 41) (ck (x_kd X v0 = 50) (bd (f_J0_coder_7d493 X v0 μ) (fun (v3 : Int32) (μ4 : x_M) => (some (((nI (x_ln X v2)) >>> (v3 &&& 31)), μ4)))))))))
set_option maxRecDepth 100000 in
theorem m_J0_length_8abf5 (hI : x_I X) (v0 : Nat) (μ : x_M) : x_Met X x_Z0 l yJ0_length_8abf5 cJ0_length_8abf5 1 (some .int) 2 [vR v0] μ rkI (f_J0_length_8abf5 X v0 μ) := by
  refine x_enter hI (by decide +kernel) (Nat.le_of_ble_eq_true rfl) (fun p e s m args below meth c hC hr hlk => ?_)
  unfold f_J0_length_8abf5
  refine s_lv (lv' := [(0, vR v0)]) [0] rfl ?_
  refine s_aload_n hC 0 dJ0_length_8abf5_0 rfl ?_
  refine s_gval hC qf_J0_9 dJ0_length_8abf5_1 ?_
  refine s_ltR (fun v2 => ?_)
  refine s_alen hC dJ0_length_8abf5_4 ?_
  refine s_aload_n hC 0 dJ0_length_8abf5_5 rfl ?_
  refine s_callStr hC (x := v0) (avs := []) (st := [vI (nI (x_ln X v2))]) (nest := false) (m_J0_coder_7d493 hI v0 μ) dJ0_length_8abf5_6 qm_J0_335 qi_J0_coder_7d493 qs_J0_coder_7d493 qc_J0 qd_J0_coder_7d493 qh_J0_coder_7d493 ((by decide)) (fun _ => Nat.le_of_ble_eq_true rfl) (Nat.le_of_ble_eq_true rfl) (fun v3 μ4 => ?_)
  refine s_ishr hC dJ0_length_8abf5_9 ?_
  exact s_iret hC hr hlk dJ0_length_8abf5_10
theorem dJ0_indexOf_7cf53_0 : decode cJ0_indexOf_7cf53 0 = .ok (.aload_n 0, 1) := by decide +kernel
theorem dJ0_indexOf_7cf53_1 : decode cJ0_indexOf_7cf53 1 = .ok (.invokevirtual 492, 3) := by decide +kernel
theorem dJ0_indexOf_7cf53_4 : decode cJ0_indexOf_7cf53 4 = .ok (.ifCond .eq 19, 3) := by decide +kernel
theorem dJ0_indexOf_7cf53_7 : decode cJ0_indexOf_7cf53 7 = .ok (.aload_n 0, 1) := by decide +kernel
theorem dJ0_indexOf_7cf53_8 : decode cJ0_indexOf_7cf53 8 = .ok (.getfield 9, 3) := by decide +kernel
theorem dJ0_indexOf_7cf53_11 : decode cJ0_indexOf_7cf53 11 = .ok (.iload_n 1, 1) := by decide +kernel
theorem dJ0_indexOf_7cf53_12 : decode cJ0_indexOf_7cf53 12 = .ok (.iload_n 2, 1) := by decide +kernel
theorem dJ0_indexOf_7cf53_13 : decode cJ0_indexOf_7cf53 13 = .ok (.aload_n 0, 1) := by decide +kernel
theorem dJ0_indexOf_7cf53_14 : decode cJ0_indexOf_7cf53 14 = .ok (.invokevirtual 505, 3) := by decide +kernel
theorem dJ0_indexOf_7cf53_17 : decode cJ0_indexOf_7cf53 17 = .ok (.invokestatic 637, 3) := by decide +kernel
theorem dJ0_indexOf_7cf53_20 : decode cJ0_indexOf_7cf53 20 = .ok (.goto 16, 3) := by decide +kernel
theorem dJ0_indexOf_7cf53_23 : decode cJ0_indexOf_7cf53 23 = .ok (.aload_n 0, 1) := by decide +kernel
theorem dJ0_indexOf_7cf53_24 : decode cJ0_indexOf_7cf53 24 = .ok (.getfield 9, 3) := by decide +kernel
theorem dJ0_indexOf_7cf53_27 : decode cJ0_indexOf_7cf53 27 = .ok (.iload_n 1, 1) := by decide +kernel
theorem dJ0_indexOf_7cf53_28 : decode cJ0_indexOf_7cf53 28 = .ok (.iload_n 2, 1) := by decide +kernel
theorem dJ0_indexOf_7cf53_29 : decode cJ0_indexOf_7cf53 29 = .ok (.aload_n 0, 1) := by decide +kernel
theorem dJ0_indexOf_7cf53_30 : decode cJ0_indexOf_7cf53 30 = .ok (.invokevirtual 505, 3) := by decide +kernel
theorem dJ0_indexOf_7cf53_33 : decode cJ0_indexOf_7cf53 33 = .ok (.invokestatic 640, 3) := by decide +kernel
theorem dJ0_indexOf_7cf53_36 : decode cJ0_indexOf_7cf53 36 = .ok (.ireturn, 1) := by decide +kernel
def f_J0_indexOf_7cf53 (X : x_X) (v0 : Nat) (v1 : Int32) (v2 : Int32) (μ : x_M) : Option (Int32 × x_M) :=
  (ck (x_kd X v0 = 50) (bd (f_J0_isLatin1_aae02 X v0 μ) (fun (v4 : Int32) (μ5 : x_M) => (if v4 = 0 then (ck (x_kd X v0 = 50) (lt (μ5.2.1 v0 1) (fun (v6 : Nat) => (ck (x_kd X v0 = 50) (bd (f_J0_length_8abf5 X v0 μ5) (fun (v7 : Int32) (μ8 : x_M) => none)))))) else (ck (x_kd X v0 = 50) (lt (μ5.2.1 v0 1) (fun (v9 : Nat) => (ck (x_kd X v0 = 50) (bd (f_J0_length_8abf5 X v0 μ5) (fun (v10 : Int32) (μ11 : x_M) => (bd (f_J1_indexOf_4cfef X v9 v1 v2 v10 μ11) (fun (v12 : Int32) (μ13 : x_M) => (some (v12, μ13))))))))))))))
set_option maxRecDepth 100000 in
theorem m_J0_indexOf_7cf53 (hI : x_I X) (v0 : Nat) (v1 : Int32) (v2 : Int32) (μ : x_M) : x_Met X x_Z0 l yJ0_indexOf_7cf53 cJ0_indexOf_7cf53 3 (some .int) 3 [vR v0, vI v1, vI v2] μ rkI (f_J0_indexOf_7cf53 X v0 v1 v2 μ) := by
  refine x_enter hI (by decide +kernel) (Nat.le_of_ble_eq_true rfl) (fun p e s m args below meth c hC hr hlk => ?_)
  unfold f_J0_indexOf_7cf53
  refine s_lv (lv' := [(0, vR v0), (1, vI v1), (2, vI v2)]) [0, 1, 2] rfl ?_
  refine s_aload_n hC 0 dJ0_indexOf_7cf53_0 rfl ?_
  refine s_callStr hC (x := v0) (avs := []) (st := []) (nest := false) (m_J0_isLatin1_aae02 hI v0 μ) dJ0_indexOf_7cf53_1 qm_J0_492 qi_J0_isLatin1_aae02 qs_J0_isLatin1_aae02 qc_J0 qd_J0_isLatin1_aae02 qh_J0_isLatin1_aae02 ((by decide)) (fun _ => Nat.le_of_ble_eq_true rfl) (Nat.le_of_ble_eq_true rfl) (fun v4 μ5 => ?_)
  refine s_if_eq hC dJ0_indexOf_7cf53_4 (tgt := 23) (by decide) ?_ ?_
  · refine s_aload_n hC 0 dJ0_indexOf_7cf53_23 rfl ?_
    refine s_gval hC qf_J0_9 dJ0_indexOf_7cf53_24 ?_
    refine s_ltR (fun v6 => ?_)
    refine s_iload_n hC 1 dJ0_indexOf_7cf53_27 rfl ?_
    refine s_iload_n hC 2 dJ0_indexOf_7cf53_28 rfl ?_
    refine s_aload_n hC 0 dJ0_indexOf_7cf53_29 rfl ?_
    refine s_callStr hC (x := v0) (avs := []) (st := [vI v2, vI v1, vR v6]) (nest := false) (m_J0_length_8abf5 hI v0 μ5) dJ0_indexOf_7cf53_30 qm_J0_505 qi_J0_length_8abf5 qs_J0_length_8abf5 qc_J0 qd_J0_length_8abf5 qh_J0_length_8abf5 ((by decide)) (fun _ => Nat.le_of_ble_eq_true rfl) (Nat.le_of_ble_eq_true rfl) (fun v7 μ8 => ?_)
    exact s_none
  refine s_aload_n hC 0 dJ0_indexOf_7cf53_7 rfl ?_
  refine s_gval hC qf_J0_9 dJ0_indexOf_7cf53_8 ?_
  refine s_ltR (fun v9 => ?_)
  refine s_iload_n hC 1 dJ0_indexOf_7cf53_11 rfl ?_
  refine s_iload_n hC 2 dJ0_indexOf_7cf53_12 rfl ?_
  refine s_aload_n hC 0 dJ0_indexOf_7cf53_13 rfl ?_
  refine s_callStr hC (x := v0) (avs := []) (st := [vI v2, vI v1, vR v9]) (nest := false) (m_J0_length_8abf5 hI v0 μ5) dJ0_indexOf_7cf53_14 qm_J0_505 qi_J0_length_8abf5 qs_J0_length_8abf5 qc_J0 qd_J0_length_8abf5 qh_J0_length_8abf5 ((by decide)) (fun _ => Nat.le_of_ble_eq_true rfl) (Nat.le_of_ble_eq_true rfl) (fun v10 μ11 => ?_)
  refine s_callS hC (avs := [vR v9, vI v1, vI v2, vI v10]) (st := []) (nest := false) (m_J1_indexOf_4cfef hI v9 v1 v2 v10 μ11) dJ0_indexOf_7cf53_17 qm_J0_637 qt_J1_indexOf_4cfef qc_J1 qd_J1_indexOf_4cfef qh_J1_indexOf_4cfef (by decide) (fun _ => Nat.le_of_ble_eq_true rfl) (Nat.le_of_ble_eq_true rfl) (fun v12 μ13 => ?_)
  refine s_goto hC dJ0_indexOf_7cf53_20 (tgt := 36) (by decide) ?_
  exact s_iret hC hr hlk dJ0_indexOf_7cf53_36
theorem dJ0_charAt_5068e_0 : decode cJ0_charAt_5068e 0 = .ok (.aload_n 0, 1) := by decide +kernel
theorem dJ0_charAt_5068e_1 : decode cJ0_charAt_5068e 1 = .ok (.invokevirtual 492, 3) := by decide +kernel
theorem dJ0_charAt_5068e_4 : decode cJ0_charAt_5068e 4 = .ok (.ifCond .eq 12, 3) := by decide +kernel
theorem dJ0_charAt_5068e_7 : decode cJ0_charAt_5068e 7 = .ok (.aload_n 0, 1) := by decide +kernel
theorem dJ0_charAt_5068e_8 : decode cJ0_charAt_5068e 8 = .ok (.getfield 9, 3) := by decide +kernel
theorem dJ0_charAt_5068e_11 : decode cJ0_charAt_5068e 11 = .ok (.iload_n 1, 1) := by decide +kernel
theorem dJ0_charAt_5068e_12 : decode cJ0_charAt_5068e 12 = .ok (.invokestatic 495, 3) := by decide +kernel
theorem dJ0_charAt_5068e_15 : decode cJ0_charAt_5068e 15 = .ok (.ireturn, 1) := by decide +kernel
theorem dJ0_charAt_5068e_16 : decode cJ0_charAt_5068e 16 = .ok (.aload_n 0, 1) := by decide +kernel
theorem dJ0_charAt_5068e_17 : decode cJ0_charAt_5068e 17 = .ok (.getfield 9, 3) := by decide +kernel
theorem dJ0_charAt_5068e_20 : decode cJ0_charAt_5068e 20 = .ok (.iload_n 1, 1) := by decide +kernel
theorem dJ0_charAt_5068e_21 : decode cJ0_charAt_5068e 21 = .ok (.invokestatic 498, 3) := by decide +kernel
theorem dJ0_charAt_5068e_24 : decode cJ0_charAt_5068e 24 = .ok (.ireturn, 1) := by decide +kernel
def f_J0_charAt_5068e (X : x_X) (v0 : Nat) (v1 : Int32) (μ : x_M) : Option (Int32 × x_M) :=
  (ck (x_kd X v0 = 50) (bd (f_J0_isLatin1_aae02 X v0 μ) (fun (v3 : Int32) (μ4 : x_M) => (if v3 = 0 then (ck (x_kd X v0 = 50) (lt (μ4.2.1 v0 1) (fun (v5 : Nat) => none))) else (ck (x_kd X v0 = 50) (lt (μ4.2.1 v0 1) (fun (v6 : Nat) => (bd (f_J1_charAt_3b067 X v6 v1 μ4) (fun (v7 : Int32) (μ8 : x_M) => (ck (((v7).toUInt32 % 65536).toInt32 = v7) (some (v7, μ8))))))))))))
set_option maxRecDepth 100000 in
theorem m_J0_charAt_5068e (hI : x_I X) (v0 : Nat) (v1 : Int32) (μ : x_M) : x_Met X x_Z0 l yJ0_charAt_5068e cJ0_charAt_5068e 2 (some .char) 4 [vR v0, vI v1] μ rkI (f_J0_charAt_5068e X v0 v1 μ) := by
  refine x_enter hI (by decide +kernel) (Nat.le_of_ble_eq_true rfl) (fun p e s m args below meth c hC hr hlk => ?_)
  unfold f_J0_charAt_5068e
  refine s_lv (lv' := [(0, vR v0), (1, vI v1)]) [0, 1] rfl ?_
  refine s_aload_n hC 0 dJ0_charAt_5068e_0 rfl ?_
  refine s_callStr hC (x := v0) (avs := []) (st := []) (nest := false) (m_J0_isLatin1_aae02 hI v0 μ) dJ0_charAt_5068e_1 qm_J0_492 qi_J0_isLatin1_aae02 qs_J0_isLatin1_aae02 qc_J0 qd_J0_isLatin1_aae02 qh_J0_isLatin1_aae02 ((by decide)) (fun _ => Nat.le_of_ble_eq_true rfl) (Nat.le_of_ble_eq_true rfl) (fun v3 μ4 => ?_)
  refine s_if_eq hC dJ0_charAt_5068e_4 (tgt := 16) (by decide) ?_ ?_
  · refine s_aload_n hC 0 dJ0_charAt_5068e_16 rfl ?_
    refine s_gval hC qf_J0_9 dJ0_charAt_5068e_17 ?_
    refine s_ltR (fun v5 => ?_)
    refine s_iload_n hC 1 dJ0_charAt_5068e_20 rfl ?_
    exact s_none
  refine s_aload_n hC 0 dJ0_charAt_5068e_7 rfl ?_
  refine s_gval hC qf_J0_9 dJ0_charAt_5068e_8 ?_
  refine s_ltR (fun v6 => ?_)
  refine s_iload_n hC 1 dJ0_charAt_5068e_11 rfl ?_
  refine s_callS hC (avs := [vR v6, vI v1]) (st := []) (nest := false) (m_J1_charAt_3b067 hI v6 v1 μ4) dJ0_charAt_5068e_12 qm_J0_495 qt_J1_charAt_3b067 qc_J1 qd_J1_charAt_3b067 qh_J1_charAt_3b067 (by decide) (fun _ => Nat.le_of_ble_eq_true rfl) (Nat.le_of_ble_eq_true rfl) (fun v7 μ8 => ?_)
  exact s_cret hC hr hlk dJ0_charAt_5068e_15
theorem dJ0_indexOf_0f7a4_0 : decode cJ0_indexOf_0f7a4 0 = .ok (.aload_n 0, 1) := by decide +kernel
theorem dJ0_indexOf_0f7a4_1 : decode cJ0_indexOf_0f7a4 1 = .ok (.iload_n 1, 1) := by decide +kernel
theorem dJ0_indexOf_0f7a4_2 : decode cJ0_indexOf_0f7a4 2 = .ok (.iconst 0, 1) := by decide +kernel
theorem dJ0_indexOf_0f7a4_3 : decode cJ0_indexOf_0f7a4 3 = .ok (.invokevirtual 633, 3) := by decide +kernel
theorem dJ0_indexOf_0f7a4_6 : decode cJ0_indexOf_0f7a4 6 = .ok (.ireturn, 1) := by decide +kernel
def f_J0_indexOf_0f7a4 (X : x_X) (v0 : Nat) (v1 : Int32) (μ : x_M) : Option (Int32 × x_M) :=
  (ck (x_kd X v0 = 50) (bd (f_J0_indexOf_7cf53 X v0 v1 (0 : Int32) μ) (fun (v3 : Int32) (μ4 : x_M) => (some (v3, μ4)))))
set_option maxRecDepth 100000 in
theorem m_J0_indexOf_0f7a4 (hI : x_I X) (v0 : Nat) (v1 : Int32) (μ : x_M) : x_Met X x_Z0 l yJ0_indexOf_0f7a4 cJ0_indexOf_0f7a4 2 (some .int) 4 [vR v0, vI v1] μ rkI (f_J0_indexOf_0f7a4 X v0 v1 μ) := by
  refine x_enter hI (by decide +kernel) (Nat.le_of_ble_eq_true rfl) (fun p e s m args below meth c hC hr hlk => ?_)
  unfold f_J0_indexOf_0f7a4
  refine s_lv (lv' := [(0, vR v0), (1, vI v1)]) [0, 1] rfl ?_
  refine s_aload_n hC 0 dJ0_indexOf_0f7a4_0 rfl ?_
  refine s_iload_n hC 1 dJ0_indexOf_0f7a4_1 rfl ?_
  refine s_iconst hC dJ0_indexOf_0f7a4_2 (v := 0) (by decide) ?_
  refine s_callStr hC (x := v0) (avs := [vI v1, vI (0 : Int32)]) (st := []) (nest := false) (m_J0_indexOf_7cf53 hI v0 v1 (0 : Int32) μ) dJ0_indexOf_0f7a4_3 qm_J0_633 qi_J0_indexOf_7cf53 qs_J0_indexOf_7cf53 qc_J0 qd_J0_indexOf_7cf53 qh_J0_indexOf_7cf53 ((by decide)) (fun _ => Nat.le_of_ble_eq_true rfl) (Nat.le_of_ble_eq_true rfl) (fun v3 μ4 => ?_)
  exact s_iret hC hr hlk dJ0_indexOf_0f7a4_6
theorem dX9_at_0 : decode cX9_at 0 = .ok (.iload_n 1, 1) := by decide +kernel
theorem dX9_at_1 : decode cX9_at 1 = .ok (.ifCond .lt 15, 3) := by decide +kernel
theorem dX9_at_4 : decode cX9_at 4 = .ok (.iload_n 1, 1) := by decide +kernel
theorem dX9_at_5 : decode cX9_at 5 = .ok (.aload_n 0, 1) := by decide +kernel
theorem dX9_at_6 : decode cX9_at 6 = .ok (.arraylength, 1) := by decide +kernel
theorem dX9_at_7 : decode cX9_at 7 = .ok (.if_icmp .ge 9, 3) := by decide +kernel
theorem dX9_at_10 : decode cX9_at 10 = .ok (.aload_n 0, 1) := by decide +kernel
theorem dX9_at_11 : decode cX9_at 11 = .ok (.iload_n 1, 1) := by decide +kernel
theorem dX9_at_12 : decode cX9_at 12 = .ok (.iaload, 1) := by decide +kernel
theorem dX9_at_13 : decode cX9_at 13 = .ok (.goto 4, 3) := by decide +kernel
theorem dX9_at_16 : decode cX9_at 16 = .ok (.iconst 0, 1) := by decide +kernel
theorem dX9_at_17 : decode cX9_at 17 = .ok (.ireturn, 1) := by decide +kernel
def f_X9_at (X : x_X) (v0 : Nat) (v1 : Int32) (μ : x_M) : Option (Int32 × x_M) :=
  (if v1 < 0 then (some ((0 : Int32), μ)) else (ck (x_kd X v0 = 20 ∨ x_kd X v0 = 23 ∨ x_kd X v0 = 40 ∨ x_kd X v0 = 41) (if (nI (x_ln X v0)) ≤ v1 then (some ((0 : Int32), μ)) else (ck ((x_kd X v0 = 20 ∨ x_kd X v0 = 40) ∧ x_ix v1 (x_ln X v0)) (some ((μ.1 v0 (v1).toNatClampNeg), μ))))))
set_option maxRecDepth 100000 in
theorem m_X9_at (hI : x_I X) (v0 : Nat) (v1 : Int32) (μ : x_M) : x_Met X x_Z0 l yX9_at cX9_at 2 (some .int) 1 [vR v0, vI v1] μ rkI (f_X9_at X v0 v1 μ) := by
  refine x_enter hI (by decide +kernel) (Nat.le_of_ble_eq_true rfl) (fun p e s m args below meth c hC hr hlk => ?_)
  unfold f_X9_at
  refine s_lv (lv' := [(0, vR v0), (1, vI v1)]) [0, 1] rfl ?_
  refine s_iload_n hC 1 dX9_at_0 rfl ?_
  refine s_if_lt hC dX9_at_1 (tgt := 16) (by decide) ?_ ?_
  · refine s_iconst hC dX9_at_16 (v := 0) (by decide) ?_
    exact s_iret hC hr hlk dX9_at_17
  refine s_iload_n hC 1 dX9_at_4 rfl ?_
  refine s_aload_n hC 0 dX9_at_5 rfl ?_
  refine s_alen hC dX9_at_6 ?_
  refine s_icmp_ge hC dX9_at_7 (tgt := 16) (by decide) ?_ ?_
  · refine s_iconst hC dX9_at_16 (v := 0) (by decide) ?_
    exact s_iret hC hr hlk dX9_at_17
  refine s_aload_n hC 0 dX9_at_10 rfl ?_
  refine s_iload_n hC 1 dX9_at_11 rfl ?_
  refine s_iald hC dX9_at_12 ?_
  refine s_goto hC dX9_at_13 (tgt := 17) (by decide) ?_
  exact s_iret hC hr hlk dX9_at_17
theorem dX9_within_0 : decode cX9_within 0 = .ok (.iload_n 0, 1) := by decide +kernel
theorem dX9_within_1 : decode cX9_within 1 = .ok (.iload_n 1, 1) := by decide +kernel
theorem dX9_within_2 : decode cX9_within 2 = .ok (.if_icmp .lt 12, 3) := by decide +kernel
theorem dX9_within_5 : decode cX9_within 5 = .ok (.iload_n 0, 1) := by decide +kernel
theorem dX9_within_6 : decode cX9_within 6 = .ok (.iload_n 2, 1) := by decide +kernel
theorem dX9_within_7 : decode cX9_within 7 = .ok (.if_icmp .gt 7, 3) := by decide +kernel
theorem dX9_within_10 : decode cX9_within 10 = .ok (.iconst 1, 1) := by decide +kernel
theorem dX9_within_11 : decode cX9_within 11 = .ok (.goto 4, 3) := by decide +kernel
theorem dX9_within_14 : decode cX9_within 14 = .ok (.iconst 0, 1) := by decide +kernel
theorem dX9_within_15 : decode cX9_within 15 = .ok (.ireturn, 1) := by decide +kernel
def f_X9_within (X : x_X) (v0 : Int32) (v1 : Int32) (v2 : Int32) (μ : x_M) : Option (Int32 × x_M) :=
  (if v0 < v1 then (ck ((0 : Int32) = 0 ∨ (0 : Int32) = 1) (some ((0 : Int32), μ))) else (if v2 < v0 then (ck ((0 : Int32) = 0 ∨ (0 : Int32) = 1) (some ((0 : Int32), μ))) else (ck ((1 : Int32) = 0 ∨ (1 : Int32) = 1) (some ((1 : Int32), μ)))))
set_option maxRecDepth 100000 in
theorem m_X9_within (hI : x_I X) (v0 : Int32) (v1 : Int32) (v2 : Int32) (μ : x_M) : x_Met X x_Z0 l yX9_within cX9_within 3 (some .boolean) 1 [vI v0, vI v1, vI v2] μ rkI (f_X9_within X v0 v1 v2 μ) := by
  refine x_enter hI (by decide +kernel) (Nat.le_of_ble_eq_true rfl) (fun p e s m args below meth c hC hr hlk => ?_)
  unfold f_X9_within
  refine s_lv (lv' := [(0, vI v0), (1, vI v1), (2, vI v2)]) [0, 1, 2] rfl ?_
  refine s_iload_n hC 0 dX9_within_0 rfl ?_
  refine s_iload_n hC 1 dX9_within_1 rfl ?_
  refine s_icmp_lt hC dX9_within_2 (tgt := 14) (by decide) ?_ ?_
  · refine s_iconst hC dX9_within_14 (v := 0) (by decide) ?_
    exact s_zret hC hr hlk dX9_within_15
  refine s_iload_n hC 0 dX9_within_5 rfl ?_
  refine s_iload_n hC 2 dX9_within_6 rfl ?_
  refine s_icmp_gt hC dX9_within_7 (tgt := 14) (by decide) ?_ ?_
  · refine s_iconst hC dX9_within_14 (v := 0) (by decide) ?_
    exact s_zret hC hr hlk dX9_within_15
  refine s_iconst hC dX9_within_10 (v := 1) (by decide) ?_
  refine s_goto hC dX9_within_11 (tgt := 15) (by decide) ?_
  exact s_zret hC hr hlk dX9_within_15
theorem dX9_kindAbove_0 : decode cX9_kindAbove 0 = .ok (.iload_n 0, 1) := by decide +kernel
theorem dX9_kindAbove_1 : decode cX9_kindAbove 1 = .ok (.ifCond .lt 19, 3) := by decide +kernel
theorem dX9_kindAbove_4 : decode cX9_kindAbove 4 = .ok (.iload_n 0, 1) := by decide +kernel
theorem dX9_kindAbove_5 : decode cX9_kindAbove 5 = .ok (.getstatic 316, 3) := by decide +kernel
theorem dX9_kindAbove_8 : decode cX9_kindAbove 8 = .ok (.arraylength, 1) := by decide +kernel
theorem dX9_kindAbove_9 : decode cX9_kindAbove 9 = .ok (.if_icmp .ge 11, 3) := by decide +kernel
theorem dX9_kindAbove_12 : decode cX9_kindAbove 12 = .ok (.getstatic 316, 3) := by decide +kernel
theorem dX9_kindAbove_15 : decode cX9_kindAbove 15 = .ok (.iload_n 0, 1) := by decide +kernel
theorem dX9_kindAbove_16 : decode cX9_kindAbove 16 = .ok (.iaload, 1) := by decide +kernel
theorem dX9_kindAbove_17 : decode cX9_kindAbove 17 = .ok (.goto 4, 3) := by decide +kernel
theorem dX9_kindAbove_20 : decode cX9_kindAbove 20 = .ok (.iconst (-1), 1) := by decide +kernel
theorem dX9_kindAbove_21 : decode cX9_kindAbove 21 = .ok (.ireturn, 1) := by decide +kernel
def f_X9_kindAbove (X : x_X) (v0 : Int32) (μ : x_M) : Option (Int32 × x_M) :=
  (if v0 < 0 then (some ((-1 : Int32), μ)) else (ck (x_kd X 801 = 20 ∨ x_kd X 801 = 23 ∨ x_kd X 801 = 40 ∨ x_kd X 801 = 41) (if (nI (x_ln X 801)) ≤ v0 then (some ((-1 : Int32), μ)) else (ck ((x_kd X 801 = 20 ∨ x_kd X 801 = 40) ∧ x_ix v0 (x_ln X 801)) (some ((μ.1 801 (v0).toNatClampNeg), μ))))))
set_option maxRecDepth 100000 in
theorem m_X9_kindAbove (hI : x_I X) (v0 : Int32) (μ : x_M) : x_Met X x_Z0 l yX9_kindAbove cX9_kindAbove 1 (some .int) 1 [vI v0] μ rkI (f_X9_kindAbove X v0 μ) := by
  refine x_enter hI (by decide +kernel) (Nat.le_of_ble_eq_true rfl) (fun p e s m args below meth c hC hr hlk => ?_)
  unfold f_X9_kindAbove
  refine s_lv (lv' := [(0, vI v0)]) [0] rfl ?_
  refine s_iload_n hC 0 dX9_kindAbove_0 rfl ?_
  refine s_if_lt hC dX9_kindAbove_1 (tgt := 20) (by decide) ?_ ?_
  · refine s_iconst hC dX9_kindAbove_20 (v := -1) (by decide) ?_
    exact s_iret hC hr hlk dX9_kindAbove_21
  refine s_iload_n hC 0 dX9_kindAbove_4 rfl ?_
  refine s_gets hC (nest := false) dX9_kindAbove_5 (id := 801) (List.mem_of_getElem? (i := 0) rfl) qg_X9_316 ?_
  refine s_alen hC dX9_kindAbove_8 ?_
  refine s_icmp_ge hC dX9_kindAbove_9 (tgt := 20) (by decide) ?_ ?_
  · refine s_iconst hC dX9_kindAbove_20 (v := -1) (by decide) ?_
    exact s_iret hC hr hlk dX9_kindAbove_21
  refine s_gets hC (nest := false) dX9_kindAbove_12 (id := 801) (List.mem_of_getElem? (i := 0) rfl) qg_X9_316 ?_
  refine s_iload_n hC 0 dX9_kindAbove_15 rfl ?_
  refine s_iald hC dX9_kindAbove_16 ?_
  refine s_goto hC dX9_kindAbove_17 (tgt := 21) (by decide) ?_
  exact s_iret hC hr hlk dX9_kindAbove_21
theorem dX9_commonDivisor_0 : decode cX9_commonDivisor 0 = .ok (.lload_n 0, 1) := by decide +kernel
theorem dX9_commonDivisor_1 : decode cX9_commonDivisor 1 = .ok (.lstore 4, 2) := by decide +kernel
theorem dX9_commonDivisor_3 : decode cX9_commonDivisor 3 = .ok (.lload_n 2, 1) := by decide +kernel
theorem dX9_commonDivisor_4 : decode cX9_commonDivisor 4 = .ok (.lstore 6, 2) := by decide +kernel
theorem dX9_commonDivisor_6 : decode cX9_commonDivisor 6 = .ok (.iconst 0, 1) := by decide +kernel
theorem dX9_commonDivisor_7 : decode cX9_commonDivisor 7 = .ok (.istore 8, 2) := by decide +kernel
theorem dX9_commonDivisor_9 : decode cX9_commonDivisor 9 = .ok (.iload 8, 2) := by decide +kernel
theorem dX9_commonDivisor_11 : decode cX9_commonDivisor 11 = .ok (.bipush 100, 2) := by decide +kernel
theorem dX9_commonDivisor_13 : decode cX9_commonDivisor 13 = .ok (.if_icmp .ge 31, 3) := by decide +kernel
theorem dX9_commonDivisor_16 : decode cX9_commonDivisor 16 = .ok (.lload 6, 2) := by decide +kernel
theorem dX9_commonDivisor_18 : decode cX9_commonDivisor 18 = .ok (.lconst 0, 1) := by decide +kernel
theorem dX9_commonDivisor_19 : decode cX9_commonDivisor 19 = .ok (.lcmp, 1) := by decide +kernel
theorem dX9_commonDivisor_20 : decode cX9_commonDivisor 20 = .ok (.ifCond .eq 24, 3) := by decide +kernel
theorem dX9_commonDivisor_23 : decode cX9_commonDivisor 23 = .ok (.lload 4, 2) := by decide +kernel
theorem dX9_commonDivisor_25 : decode cX9_commonDivisor 25 = .ok (.lload 6, 2) := by decide +kernel
theorem dX9_commonDivisor_27 : decode cX9_commonDivisor 27 = .ok (.lrem, 1) := by decide +kernel
theorem dX9_commonDivisor_28 : decode cX9_commonDivisor 28 = .ok (.lstore 9, 2) := by decide +kernel
theorem dX9_commonDivisor_30 : decode cX9_commonDivisor 30 = .ok (.lload 6, 2) := by decide +kernel
theorem dX9_commonDivisor_32 : decode cX9_commonDivisor 32 = .ok (.lstore 4, 2) := by decide +kernel
theorem dX9_commonDivisor_34 : decode cX9_commonDivisor 34 = .ok (.lload 9, 2) := by decide +kernel
theorem dX9_commonDivisor_36 : decode cX9_commonDivisor 36 = .ok (.lstore 6, 2) := by decide +kernel
theorem dX9_commonDivisor_38 : decode cX9_commonDivisor 38 = .ok (.iinc 8 1, 3) := by decide +kernel
theorem dX9_commonDivisor_41 : decode cX9_commonDivisor 41 = .ok (.goto (-32), 3) := by decide +kernel
theorem dX9_commonDivisor_44 : decode cX9_commonDivisor 44 = .ok (.lload 4, 2) := by decide +kernel
theorem dX9_commonDivisor_46 : decode cX9_commonDivisor 46 = .ok (.lreturn, 1) := by decide +kernel
def f_X9_commonDivisor_L9 (X : x_X) : Nat → Int64 → Int64 → Int32 → x_M → Option (Int64 × x_M)
  | 0, _, _, _, _ => none
  | n + 1, v3, v4, v5, μ6 =>
    (if (100 : Int32) ≤ v5 then (some (v3, μ6)) else (if (lg_cmp v4 (0 : Int64)) = 0 then (some (v3, μ6)) else (ck (¬ v4 = 0) (lt (v3 - v3 / v4 * v4) (fun (v7 : Int64) => (f_X9_commonDivisor_L9 X n v4 v7 (v5 + (1 : Int32)) μ6))))))
set_option maxRecDepth 100000 in
theorem j_X9_commonDivisor_L9 (hI : x_I X) (hC : x_C X x_Z0 p (x_rm 1) s m c cX9_commonDivisor RX9 11 0 0 1) (hr : meth.sig.returnType = (some .long)) (hlk : meth.locks = false) : ∀ (n : Nat) (v3 : Int64) (v4 : Int64) (v5 : Int32) (μ6 : x_M), SM X 11 1 rkJ p l e s m args below meth c 9 [(4, vJ v3), (6, vJ v4), (8, vI v5)] [] μ6 (f_X9_commonDivisor_L9 X n v3 v4 v5 μ6) := by
  intro n
  induction n with
  | zero => intro v3 v4 v5 μ6; exact s_none
  | succ n ih =>
    intro v3 v4 v5 μ6
    unfold f_X9_commonDivisor_L9
    refine s_iload hC 2 dX9_commonDivisor_9 rfl ?_
    refine s_bipush hC dX9_commonDivisor_11 (v := 100) (by decide) ?_
    refine s_icmp_ge hC dX9_commonDivisor_13 (tgt := 44) (by decide) ?_ ?_
    · refine s_lload hC 0 dX9_commonDivisor_44 rfl ?_
      exact s_lret hC hr hlk dX9_commonDivisor_46
    refine s_lload hC 1 dX9_commonDivisor_16 rfl ?_
    refine s_lconst hC dX9_commonDivisor_18 (v := 0) (by decide) ?_
    refine s_lcmp hC dX9_commonDivisor_19 ?_
    refine s_if_eq hC dX9_commonDivisor_20 (tgt := 44) (by decide) ?_ ?_
    · refine s_lload hC 0 dX9_commonDivisor_44 rfl ?_
      exact s_lret hC hr hlk dX9_commonDivisor_46
    refine s_lload hC 0 dX9_commonDivisor_23 rfl ?_
    refine s_lload hC 1 dX9_commonDivisor_25 rfl ?_
    refine s_lrem hC dX9_commonDivisor_27 ?_
    refine s_ltJ (fun v7 => ?_)
    refine s_lstore hC dX9_commonDivisor_28 (by decide) (lv' := [(9, vJ v7), (4, vJ v3), (6, vJ v4), (8, vI v5)]) rfl ?_
    refine s_lload hC 2 dX9_commonDivisor_30 rfl ?_
    refine s_lstore hC dX9_commonDivisor_32 (by decide) (lv' := [(4, vJ v4), (9, vJ v7), (6, vJ v4), (8, vI v5)]) rfl ?_
    refine s_lload hC 1 dX9_commonDivisor_34 rfl ?_
    refine s_lstore hC dX9_commonDivisor_36 (by decide) (lv' := [(6, vJ v7), (4, vJ v4), (9, vJ v7), (8, vI v5)]) rfl ?_
    refine s_iinc hC 3 dX9_commonDivisor_38 rfl (w := 1) (by decide) (by decide) (lv' := [(8, vI (v5 + (1 : Int32))), (6, vJ v7), (4, vJ v4), (9, vJ v7)]) rfl ?_
    refine s_goto hC dX9_commonDivisor_41 (tgt := 9) (by decide) ?_
    refine s_lv (lv' := [(4, vJ v4), (6, vJ v7), (8, vI (v5 + (1 : Int32)))]) [2, 1, 0] rfl ?_
    exact ih _ _ _ _
def f_X9_commonDivisor (X : x_X) (v0 : Int64) (v1 : Int64) (μ : x_M) : Option (Int64 × x_M) :=
  (f_X9_commonDivisor_L9 X 4096 v0 v1 (0 : Int32) μ)
set_option maxRecDepth 100000 in
theorem m_X9_commonDivisor (hI : x_I X) (v0 : Int64) (v1 : Int64) (μ : x_M) : x_Met X x_Z0 l yX9_commonDivisor cX9_commonDivisor 11 (some .long) 1 [vJ v0, vJ v1] μ rkJ (f_X9_commonDivisor X v0 v1 μ) := by
  refine x_enter hI (by decide +kernel) (Nat.le_of_ble_eq_true rfl) (fun p e s m args below meth c hC hr hlk => ?_)
  unfold f_X9_commonDivisor
  refine s_lv (lv' := [(0, vJ v0), (2, vJ v1)]) [0, 1] rfl ?_
  refine s_lload_n hC 0 dX9_commonDivisor_0 rfl ?_
  refine s_lstore hC dX9_commonDivisor_1 (by decide) (lv' := [(4, vJ v0), (0, vJ v0), (2, vJ v1)]) rfl ?_
  refine s_lload_n hC 2 dX9_commonDivisor_3 rfl ?_
  refine s_lstore hC dX9_commonDivisor_4 (by decide) (lv' := [(6, vJ v1), (4, vJ v0), (0, vJ v0), (2, vJ v1)]) rfl ?_
  refine s_iconst hC dX9_commonDivisor_6 (v := 0) (by decide) ?_
  refine s_istore hC dX9_commonDivisor_7 (by decide) (lv' := [(8, vI (0 : Int32)), (6, vJ v1), (4, vJ v0), (0, vJ v0), (2, vJ v1)]) rfl ?_
  refine s_lv (lv' := [(4, vJ v0), (6, vJ v1), (8, vI (0 : Int32))]) [2, 1, 0] rfl ?_
  refine j_X9_commonDivisor_L9 hI hC hr hlk 4096 _ _ _ _
theorem dX9_lowestTerms_0 : decode cX9_lowestTerms 0 = .ok (.lload_n 0, 1) := by decide +kernel
theorem dX9_lowestTerms_1 : decode cX9_lowestTerms 1 = .ok (.lload_n 2, 1) := by decide +kernel
theorem dX9_lowestTerms_2 : decode cX9_lowestTerms 2 = .ok (.invokestatic 323, 3) := by decide +kernel
theorem dX9_lowestTerms_5 : decode cX9_lowestTerms 5 = .ok (.lstore 5, 2) := by decide +kernel
theorem dX9_lowestTerms_7 : decode cX9_lowestTerms 7 = .ok (.lload_n 2, 1) := by decide +kernel
theorem dX9_lowestTerms_8 : decode cX9_lowestTerms 8 = .ok (.lconst 0, 1) := by decide +kernel
theorem dX9_lowestTerms_9 : decode cX9_lowestTerms 9 = .ok (.lcmp, 1) := by decide +kernel
theorem dX9_lowestTerms_10 : decode cX9_lowestTerms 10 = .ok (.ifCond .le 10, 3) := by decide +kernel
theorem dX9_lowestTerms_13 : decode cX9_lowestTerms 13 = .ok (.lload 5, 2) := by decide +kernel
theorem dX9_lowestTerms_15 : decode cX9_lowestTerms 15 = .ok (.lconst 0, 1) := by decide +kernel
theorem dX9_lowestTerms_16 : decode cX9_lowestTerms 16 = .ok (.lcmp, 1) := by decide +kernel
theorem dX9_lowestTerms_17 : decode cX9_lowestTerms 17 = .ok (.ifCond .gt 7, 3) := by decide +kernel
theorem dX9_lowestTerms_20 : decode cX9_lowestTerms 20 = .ok (.ldc2_w 209, 3) := by decide +kernel
theorem dX9_lowestTerms_23 : decode cX9_lowestTerms 23 = .ok (.lreturn, 1) := by decide +kernel
theorem dX9_lowestTerms_24 : decode cX9_lowestTerms 24 = .ok (.iload 4, 2) := by decide +kernel
theorem dX9_lowestTerms_26 : decode cX9_lowestTerms 26 = .ok (.ifCond .ne 7, 3) := by decide +kernel
theorem dX9_lowestTerms_29 : decode cX9_lowestTerms 29 = .ok (.lload_n 0, 1) := by decide +kernel
theorem dX9_lowestTerms_30 : decode cX9_lowestTerms 30 = .ok (.goto 4, 3) := by decide +kernel
theorem dX9_lowestTerms_33 : decode cX9_lowestTerms 33 = .ok (.lload_n 2, 1) := by decide +kernel
theorem dX9_lowestTerms_34 : decode cX9_lowestTerms 34 = .ok (.lload 5, 2) := by decide +kernel
theorem dX9_lowestTerms_36 : decode cX9_lowestTerms 36 = .ok (.ldiv, 1) := by decide +kernel
theorem dX9_lowestTerms_37 : decode cX9_lowestTerms 37 = .ok (.lreturn, 1) := by decide +kernel
def f_X9_lowestTerms (X : x_X) (v0 : Int64) (v1 : Int64) (v2 : Int32) (μ : x_M) : Option (Int64 × x_M) :=
  (bd (f_X9_commonDivisor X v0 v1 μ) (fun (v4 : Int64) (μ5 : x_M) => (if (lg_cmp v1 (0 : Int64)) ≤ 0 then (some ((-9223372036854775808 : Int64), μ5)) else (if 0 < (lg_cmp v4 (0 : Int64)) then (if v2 = 0 then (ck (¬ v4 = 0) (some ((v0 / v4), μ5))) else (ck (¬ v4 = 0) (some ((v1 / v4), μ5)))) else (some ((-9223372036854775808 : Int64), μ5))))))
set_option maxRecDepth 100000 in
theorem m_X9_lowestTerms (hI : x_I X) (v0 : Int64) (v1 : Int64) (v2 : Int32) (μ : x_M) : x_Met X x_Z0 l yX9_lowestTerms cX9_lowestTerms 7 (some .long) 2 [vJ v0, vJ v1, vI v2] μ rkJ (f_X9_lowestTerms X v0 v1 v2 μ) := by
  refine x_enter hI (by decide +kernel) (Nat.le_of_ble_eq_true rfl) (fun p e s m args below meth c hC hr hlk => ?_)
  unfold f_X9_lowestTerms
  refine s_lv (lv' := [(0, vJ v0), (2, vJ v1), (4, vI v2)]) [0, 1, 2] rfl ?_
  refine s_lload_n hC 0 dX9_lowestTerms_0 rfl ?_
  refine s_lload_n hC 1 dX9_lowestTerms_1 rfl ?_
  refine s_callS hC (avs := [vJ v0, vJ v1]) (st := []) (nest := false) (m_X9_commonDivisor hI v0 v1 μ) dX9_lowestTerms_2 qm_X9_323 qt_X9_commonDivisor qc_X9 qd_X9_commonDivisor qh_X9_commonDivisor (by decide) (fun _ => Nat.le_of_ble_eq_true rfl) (Nat.le_of_ble_eq_true rfl) (fun v4 μ5 => ?_)
  refine s_lstore hC dX9_lowestTerms_5 (by decide) (lv' := [(5, vJ v4), (0, vJ v0), (2, vJ v1), (4, vI v2)]) rfl ?_
  refine s_lload_n hC 2 dX9_lowestTerms_7 rfl ?_
  refine s_lconst hC dX9_lowestTerms_8 (v := 0) (by decide) ?_
  refine s_lcmp hC dX9_lowestTerms_9 ?_
  refine s_if_le hC dX9_lowestTerms_10 (tgt := 20) (by decide) ?_ ?_
  · refine s_ldc2 hC dX9_lowestTerms_20 qk_X9_209 ?_
    exact s_lret hC hr hlk dX9_lowestTerms_23
  refine s_lload hC 0 dX9_lowestTerms_13 rfl ?_
  refine s_lconst hC dX9_lowestTerms_15 (v := 0) (by decide) ?_
  refine s_lcmp hC dX9_lowestTerms_16 ?_
  refine s_if_gt hC dX9_lowestTerms_17 (tgt := 24) (by decide) ?_ ?_
  · refine s_iload hC 3 dX9_lowestTerms_24 rfl ?_
    refine s_if_ne hC dX9_lowestTerms_26 (tgt := 33) (by decide) ?_ ?_
    · refine s_lload_n hC 2 dX9_lowestTerms_33 rfl ?_
      refine s_lload hC 0 dX9_lowestTerms_34 rfl ?_
      refine s_ldiv hC dX9_lowestTerms_36 ?_
      exact s_lret hC hr hlk dX9_lowestTerms_37
    refine s_lload_n hC 1 dX9_lowestTerms_29 rfl ?_
    refine s_goto hC dX9_lowestTerms_30 (tgt := 34) (by decide) ?_
    refine s_lload hC 0 dX9_lowestTerms_34 rfl ?_
    refine s_ldiv hC dX9_lowestTerms_36 ?_
    exact s_lret hC hr hlk dX9_lowestTerms_37
  refine s_ldc2 hC dX9_lowestTerms_20 qk_X9_209 ?_
  exact s_lret hC hr hlk dX9_lowestTerms_23
theorem dX9_isPart_0 : decode cX9_isPart 0 = .ok (.iload_n 0, 1) := by decide +kernel
theorem dX9_isPart_1 : decode cX9_isPart 1 = .ok (.ifCond .eq 8, 3) := by decide +kernel
theorem dX9_isPart_4 : decode cX9_isPart 4 = .ok (.iload_n 0, 1) := by decide +kernel
theorem dX9_isPart_5 : decode cX9_isPart 5 = .ok (.iconst 1, 1) := by decide +kernel
theorem dX9_isPart_6 : decode cX9_isPart 6 = .ok (.if_icmp .ne 7, 3) := by decide +kernel
theorem dX9_isPart_9 : decode cX9_isPart 9 = .ok (.iconst 1, 1) := by decide +kernel
theorem dX9_isPart_10 : decode cX9_isPart 10 = .ok (.goto 4, 3) := by decide +kernel
theorem dX9_isPart_13 : decode cX9_isPart 13 = .ok (.iconst 0, 1) := by decide +kernel
theorem dX9_isPart_14 : decode cX9_isPart 14 = .ok (.ireturn, 1) := by decide +kernel
def f_X9_isPart (X : x_X) (v0 : Int32) (μ : x_M) : Option (Int32 × x_M) :=
  (if v0 = 0 then (ck ((1 : Int32) = 0 ∨ (1 : Int32) = 1) (some ((1 : Int32), μ))) else (if v0 = (1 : Int32) then (ck ((1 : Int32) = 0 ∨ (1 : Int32) = 1) (some ((1 : Int32), μ))) else (ck ((0 : Int32) = 0 ∨ (0 : Int32) = 1) (some ((0 : Int32), μ)))))
set_option maxRecDepth 100000 in
theorem m_X9_isPart (hI : x_I X) (v0 : Int32) (μ : x_M) : x_Met X x_Z0 l yX9_isPart cX9_isPart 1 (some .boolean) 1 [vI v0] μ rkI (f_X9_isPart X v0 μ) := by
  refine x_enter hI (by decide +kernel) (Nat.le_of_ble_eq_true rfl) (fun p e s m args below meth c hC hr hlk => ?_)
  unfold f_X9_isPart
  refine s_lv (lv' := [(0, vI v0)]) [0] rfl ?_
  refine s_iload_n hC 0 dX9_isPart_0 rfl ?_
  refine s_if_eq hC dX9_isPart_1 (tgt := 9) (by decide) ?_ ?_
  · refine s_iconst hC dX9_isPart_9 (v := 1) (by decide) ?_
    refine s_goto hC dX9_isPart_10 (tgt := 14) (by decide) ?_
    exact s_zret hC hr hlk dX9_isPart_14
  refine s_iload_n hC 0 dX9_isPart_4 rfl ?_
  refine s_iconst hC dX9_isPart_5 (v := 1) (by decide) ?_
  refine s_icmp_ne hC dX9_isPart_6 (tgt := 13) (by decide) ?_ ?_
  · refine s_iconst hC dX9_isPart_13 (v := 0) (by decide) ?_
    exact s_zret hC hr hlk dX9_isPart_14
  refine s_iconst hC dX9_isPart_9 (v := 1) (by decide) ?_
  refine s_goto hC dX9_isPart_10 (tgt := 14) (by decide) ?_
  exact s_zret hC hr hlk dX9_isPart_14
theorem dX9_isDaily_0 : decode cX9_isDaily 0 = .ok (.iload_n 0, 1) := by decide +kernel
theorem dX9_isDaily_1 : decode cX9_isDaily 1 = .ok (.bipush (-30), 2) := by decide +kernel
theorem dX9_isDaily_3 : decode cX9_isDaily 3 = .ok (.bipush 30, 2) := by decide +kernel
theorem dX9_isDaily_5 : decode cX9_isDaily 5 = .ok (.invokestatic 56, 3) := by decide +kernel
theorem dX9_isDaily_8 : decode cX9_isDaily 8 = .ok (.ireturn, 1) := by decide +kernel
def f_X9_isDaily (X : x_X) (v0 : Int32) (μ : x_M) : Option (Int32 × x_M) :=
  (bd (f_X9_within X v0 (-30 : Int32) (30 : Int32) μ) (fun (v2 : Int32) (μ3 : x_M) => (ck (v2 = 0 ∨ v2 = 1) (some (v2, μ3)))))
set_option maxRecDepth 100000 in
theorem m_X9_isDaily (hI : x_I X) (v0 : Int32) (μ : x_M) : x_Met X x_Z0 l yX9_isDaily cX9_isDaily 1 (some .boolean) 2 [vI v0] μ rkI (f_X9_isDaily X v0 μ) := by
  refine x_enter hI (by decide +kernel) (Nat.le_of_ble_eq_true rfl) (fun p e s m args below meth c hC hr hlk => ?_)
  unfold f_X9_isDaily
  refine s_lv (lv' := [(0, vI v0)]) [0] rfl ?_
  refine s_iload_n hC 0 dX9_isDaily_0 rfl ?_
  refine s_bipush hC dX9_isDaily_1 (v := -30) (by decide) ?_
  refine s_bipush hC dX9_isDaily_3 (v := 30) (by decide) ?_
  refine s_callS hC (avs := [vI v0, vI (-30 : Int32), vI (30 : Int32)]) (st := []) (nest := false) (m_X9_within hI v0 (-30 : Int32) (30 : Int32) μ) dX9_isDaily_5 qm_X9_56 qt_X9_within qc_X9 qd_X9_within qh_X9_within (by decide) (fun _ => Nat.le_of_ble_eq_true rfl) (Nat.le_of_ble_eq_true rfl) (fun v2 μ3 => ?_)
  exact s_zret hC hr hlk dX9_isDaily_8
theorem dX9_isOrUnder_0 : decode cX9_isOrUnder 0 = .ok (.iload_n 0, 1) := by decide +kernel
theorem dX9_isOrUnder_1 : decode cX9_isOrUnder 1 = .ok (.istore_n 2, 1) := by decide +kernel
theorem dX9_isOrUnder_2 : decode cX9_isOrUnder 2 = .ok (.iconst 0, 1) := by decide +kernel
theorem dX9_isOrUnder_3 : decode cX9_isOrUnder 3 = .ok (.istore_n 3, 1) := by decide +kernel
theorem dX9_isOrUnder_4 : decode cX9_isOrUnder 4 = .ok (.iload_n 3, 1) := by decide +kernel
theorem dX9_isOrUnder_5 : decode cX9_isOrUnder 5 = .ok (.getstatic 316, 3) := by decide +kernel
theorem dX9_isOrUnder_8 : decode cX9_isOrUnder 8 = .ok (.arraylength, 1) := by decide +kernel
theorem dX9_isOrUnder_9 : decode cX9_isOrUnder 9 = .ok (.if_icmp .ge 25, 3) := by decide +kernel
theorem dX9_isOrUnder_12 : decode cX9_isOrUnder 12 = .ok (.iload_n 2, 1) := by decide +kernel
theorem dX9_isOrUnder_13 : decode cX9_isOrUnder 13 = .ok (.ifCond .lt 21, 3) := by decide +kernel
theorem dX9_isOrUnder_16 : decode cX9_isOrUnder 16 = .ok (.iload_n 2, 1) := by decide +kernel
theorem dX9_isOrUnder_17 : decode cX9_isOrUnder 17 = .ok (.iload_n 1, 1) := by decide +kernel
theorem dX9_isOrUnder_18 : decode cX9_isOrUnder 18 = .ok (.if_icmp .ne 5, 3) := by decide +kernel
theorem dX9_isOrUnder_21 : decode cX9_isOrUnder 21 = .ok (.iconst 1, 1) := by decide +kernel
theorem dX9_isOrUnder_22 : decode cX9_isOrUnder 22 = .ok (.ireturn, 1) := by decide +kernel
theorem dX9_isOrUnder_23 : decode cX9_isOrUnder 23 = .ok (.iload_n 2, 1) := by decide +kernel
theorem dX9_isOrUnder_24 : decode cX9_isOrUnder 24 = .ok (.invokestatic 320, 3) := by decide +kernel
theorem dX9_isOrUnder_27 : decode cX9_isOrUnder 27 = .ok (.istore_n 2, 1) := by decide +kernel
theorem dX9_isOrUnder_28 : decode cX9_isOrUnder 28 = .ok (.iinc 3 1, 3) := by decide +kernel
theorem dX9_isOrUnder_31 : decode cX9_isOrUnder 31 = .ok (.goto (-27), 3) := by decide +kernel
theorem dX9_isOrUnder_34 : decode cX9_isOrUnder 34 = .ok (.iconst 0, 1) := by decide +kernel
theorem dX9_isOrUnder_35 : decode cX9_isOrUnder 35 = .ok (.ireturn, 1) := by decide +kernel
def f_X9_isOrUnder_L4 (X : x_X) : Nat → Int32 → Int32 → Int32 → x_M → Option (Int32 × x_M)
  | 0, _, _, _, _ => none
  | n + 1, v3, v4, v5, μ6 =>
    (ck (x_kd X 801 = 20 ∨ x_kd X 801 = 23 ∨ x_kd X 801 = 40 ∨ x_kd X 801 = 41) (if (nI (x_ln X 801)) ≤ v5 then (ck ((0 : Int32) = 0 ∨ (0 : Int32) = 1) (some ((0 : Int32), μ6))) else (if v4 < 0 then (ck ((0 : Int32) = 0 ∨ (0 : Int32) = 1) (some ((0 : Int32), μ6))) else (if v4 = v3 then (ck ((1 : Int32) = 0 ∨ (1 : Int32) = 1) (some ((1 : Int32), μ6))) else (bd (f_X9_kindAbove X v4 μ6) (fun (v7 : Int32) (μ8 : x_M) => (f_X9_isOrUnder_L4 X n v3 v7 (v5 + (1 : Int32)) μ8)))))))
set_option maxRecDepth 100000 in
theorem j_X9_isOrUnder_L4 (hI : x_I X) (hC : x_C X x_Z0 p (x_rm 2) s m c cX9_isOrUnder RX9 4 0 0 2) (hr : meth.sig.returnType = (some .boolean)) (hlk : meth.locks = false) : ∀ (n : Nat) (v3 : Int32) (v4 : Int32) (v5 : Int32) (μ6 : x_M), SM X 4 2 rkI p l e s m args below meth c 4 [(1, vI v3), (2, vI v4), (3, vI v5)] [] μ6 (f_X9_isOrUnder_L4 X n v3 v4 v5 μ6) := by
  intro n
  induction n with
  | zero => intro v3 v4 v5 μ6; exact s_none
  | succ n ih =>
    intro v3 v4 v5 μ6
    unfold f_X9_isOrUnder_L4
    refine s_iload_n hC 2 dX9_isOrUnder_4 rfl ?_
    refine s_gets hC (nest := false) dX9_isOrUnder_5 (id := 801) (List.mem_of_getElem? (i := 0) rfl) qg_X9_316 ?_
    refine s_alen hC dX9_isOrUnder_8 ?_
    refine s_icmp_ge hC dX9_isOrUnder_9 (tgt := 34) (by decide) ?_ ?_
    · refine s_iconst hC dX9_isOrUnder_34 (v := 0) (by decide) ?_
      exact s_zret hC hr hlk dX9_isOrUnder_35
    refine s_iload_n hC 1 dX9_isOrUnder_12 rfl ?_
    refine s_if_lt hC dX9_isOrUnder_13 (tgt := 34) (by decide) ?_ ?_
    · refine s_iconst hC dX9_isOrUnder_34 (v := 0) (by decide) ?_
      exact s_zret hC hr hlk dX9_isOrUnder_35
    refine s_iload_n hC 1 dX9_isOrUnder_16 rfl ?_
    refine s_iload_n hC 0 dX9_isOrUnder_17 rfl ?_
    refine s_icmp_ne hC dX9_isOrUnder_18 (tgt := 23) (by decide) ?_ ?_
    · refine s_iload_n hC 1 dX9_isOrUnder_23 rfl ?_
      refine s_callS hC (avs := [vI v4]) (st := []) (nest := false) (m_X9_kindAbove hI v4 μ6) dX9_isOrUnder_24 qm_X9_320 qt_X9_kindAbove qc_X9 qd_X9_kindAbove qh_X9_kindAbove (by decide) (fun _ => Nat.le_of_ble_eq_true rfl) (Nat.le_of_ble_eq_true rfl) (fun v7 μ8 => ?_)
      refine s_istore_n hC dX9_isOrUnder_27 (by decide) (lv' := [(2, vI v7), (1, vI v3), (3, vI v5)]) rfl ?_
      refine s_iinc hC 2 dX9_isOrUnder_28 rfl (w := 1) (by decide) (by decide) (lv' := [(3, vI (v5 + (1 : Int32))), (2, vI v7), (1, vI v3)]) rfl ?_
      refine s_goto hC dX9_isOrUnder_31 (tgt := 4) (by decide) ?_
      refine s_lv (lv' := [(1, vI v3), (2, vI v7), (3, vI (v5 + (1 : Int32)))]) [2, 1, 0] rfl ?_
      exact ih _ _ _ _
    refine s_iconst hC dX9_isOrUnder_21 (v := 1) (by decide) ?_
    exact s_zret hC hr hlk dX9_isOrUnder_22
def f_X9_isOrUnder (X : x_X) (v0 : Int32) (v1 : Int32) (μ : x_M) : Option (Int32 × x_M) :=
  (f_X9_isOrUnder_L4 X 4096 v1 v0 (0 : Int32) μ)
set_option maxRecDepth 100000 in
theorem m_X9_isOrUnder (hI : x_I X) (v0 : Int32) (v1 : Int32) (μ : x_M) : x_Met X x_Z0 l yX9_isOrUnder cX9_isOrUnder 4 (some .boolean) 2 [vI v0, vI v1] μ rkI (f_X9_isOrUnder X v0 v1 μ) := by
  refine x_enter hI (by decide +kernel) (Nat.le_of_ble_eq_true rfl) (fun p e s m args below meth c hC hr hlk => ?_)
  unfold f_X9_isOrUnder
  refine s_lv (lv' := [(0, vI v0), (1, vI v1)]) [0, 1] rfl ?_
  refine s_iload_n hC 0 dX9_isOrUnder_0 rfl ?_
  refine s_istore_n hC dX9_isOrUnder_1 (by decide) (lv' := [(2, vI v0), (0, vI v0), (1, vI v1)]) rfl ?_
  refine s_iconst hC dX9_isOrUnder_2 (v := 0) (by decide) ?_
  refine s_istore_n hC dX9_isOrUnder_3 (by decide) (lv' := [(3, vI (0 : Int32)), (2, vI v0), (0, vI v0), (1, vI v1)]) rfl ?_
  refine s_lv (lv' := [(1, vI v1), (2, vI v0), (3, vI (0 : Int32))]) [3, 1, 0] rfl ?_
  refine j_X9_isOrUnder_L4 hI hC hr hlk 4096 _ _ _ _
theorem dX9_maySet_0 : decode cX9_maySet 0 = .ok (.iload_n 0, 1) := by decide +kernel
theorem dX9_maySet_1 : decode cX9_maySet 1 = .ok (.lookupswitch 43 #[(0, 27), (1, 38)], 27) := by decide +kernel
theorem dX9_maySet_28 : decode cX9_maySet 28 = .ok (.iload_n 1, 1) := by decide +kernel
theorem dX9_maySet_29 : decode cX9_maySet 29 = .ok (.sipush (-999), 3) := by decide +kernel
theorem dX9_maySet_32 : decode cX9_maySet 32 = .ok (.sipush 999, 3) := by decide +kernel
theorem dX9_maySet_35 : decode cX9_maySet 35 = .ok (.invokestatic 56, 3) := by decide +kernel
theorem dX9_maySet_38 : decode cX9_maySet 38 = .ok (.ireturn, 1) := by decide +kernel
theorem dX9_maySet_39 : decode cX9_maySet 39 = .ok (.iload_n 1, 1) := by decide +kernel
theorem dX9_maySet_40 : decode cX9_maySet 40 = .ok (.invokestatic 74, 3) := by decide +kernel
theorem dX9_maySet_43 : decode cX9_maySet 43 = .ok (.ireturn, 1) := by decide +kernel
theorem dX9_maySet_44 : decode cX9_maySet 44 = .ok (.iload_n 1, 1) := by decide +kernel
theorem dX9_maySet_45 : decode cX9_maySet 45 = .ok (.iconst 0, 1) := by decide +kernel
theorem dX9_maySet_46 : decode cX9_maySet 46 = .ok (.bipush 20, 2) := by decide +kernel
theorem dX9_maySet_48 : decode cX9_maySet 48 = .ok (.invokestatic 56, 3) := by decide +kernel
theorem dX9_maySet_51 : decode cX9_maySet 51 = .ok (.ireturn, 1) := by decide +kernel
def f_X9_maySet (X : x_X) (v0 : Int32) (v1 : Int32) (μ : x_M) : Option (Int32 × x_M) :=
  (x_swo [(0 : Int32), (1 : Int32)] [(bd (f_X9_within X v1 (-999 : Int32) (999 : Int32) μ) (fun (v3 : Int32) (μ4 : x_M) => (ck (v3 = 0 ∨ v3 = 1) (some (v3, μ4))))), (bd (f_X9_isDaily X v1 μ) (fun (v5 : Int32) (μ6 : x_M) => (ck (v5 = 0 ∨ v5 = 1) (some (v5, μ6)))))] (bd (f_X9_within X v1 (0 : Int32) (20 : Int32) μ) (fun (v7 : Int32) (μ8 : x_M) => (ck (v7 = 0 ∨ v7 = 1) (some (v7, μ8))))) v0)
set_option maxRecDepth 100000 in
theorem m_X9_maySet (hI : x_I X) (v0 : Int32) (v1 : Int32) (μ : x_M) : x_Met X x_Z0 l yX9_maySet cX9_maySet 2 (some .boolean) 3 [vI v0, vI v1] μ rkI (f_X9_maySet X v0 v1 μ) := by
  refine x_enter hI (by decide +kernel) (Nat.le_of_ble_eq_true rfl) (fun p e s m args below meth c hC hr hlk => ?_)
  unfold f_X9_maySet
  refine s_lv (lv' := [(0, vI v0), (1, vI v1)]) [0, 1] rfl ?_
  refine s_iload_n hC 0 dX9_maySet_0 rfl ?_
  refine s_lookup hC dX9_maySet_1 (by decide) [((0 : Int32), 28), ((1 : Int32), 39)] 44 (by decide +kernel) ⟨?_, ?_, trivial⟩ ?_
  · refine s_iload_n hC 1 dX9_maySet_28 rfl ?_
    refine s_sipush hC dX9_maySet_29 (v := -999) (by decide) ?_
    refine s_sipush hC dX9_maySet_32 (v := 999) (by decide) ?_
    refine s_callS hC (avs := [vI v1, vI (-999 : Int32), vI (999 : Int32)]) (st := []) (nest := false) (m_X9_within hI v1 (-999 : Int32) (999 : Int32) μ) dX9_maySet_35 qm_X9_56 qt_X9_within qc_X9 qd_X9_within qh_X9_within (by decide) (fun _ => Nat.le_of_ble_eq_true rfl) (Nat.le_of_ble_eq_true rfl) (fun v3 μ4 => ?_)
    exact s_zret hC hr hlk dX9_maySet_38
  · refine s_iload_n hC 1 dX9_maySet_39 rfl ?_
    refine s_callS hC (avs := [vI v1]) (st := []) (nest := false) (m_X9_isDaily hI v1 μ) dX9_maySet_40 qm_X9_74 qt_X9_isDaily qc_X9 qd_X9_isDaily qh_X9_isDaily (by decide) (fun _ => Nat.le_of_ble_eq_true rfl) (Nat.le_of_ble_eq_true rfl) (fun v5 μ6 => ?_)
    exact s_zret hC hr hlk dX9_maySet_43
  refine s_iload_n hC 1 dX9_maySet_44 rfl ?_
  refine s_iconst hC dX9_maySet_45 (v := 0) (by decide) ?_
  refine s_bipush hC dX9_maySet_46 (v := 20) (by decide) ?_
  refine s_callS hC (avs := [vI v1, vI (0 : Int32), vI (20 : Int32)]) (st := []) (nest := false) (m_X9_within hI v1 (0 : Int32) (20 : Int32) μ) dX9_maySet_48 qm_X9_56 qt_X9_within qc_X9 qd_X9_within qh_X9_within (by decide) (fun _ => Nat.le_of_ble_eq_true rfl) (Nat.le_of_ble_eq_true rfl) (fun v7 μ8 => ?_)
  exact s_zret hC hr hlk dX9_maySet_51
end
section
variable {X : x_X} {l : Launch} {p : Program} {e : Env} {s : State} {m : MethodId} {args : Array Value} {below : List Frame} {meth : Method} {c : Code}
theorem dX3_levelOf_0 : decode cX3_levelOf 0 = .ok (.iload_n 1, 1) := by decide +kernel
theorem dX3_levelOf_1 : decode cX3_levelOf 1 = .ok (.istore_n 2, 1) := by decide +kernel
theorem dX3_levelOf_2 : decode cX3_levelOf 2 = .ok (.iconst 0, 1) := by decide +kernel
theorem dX3_levelOf_3 : decode cX3_levelOf 3 = .ok (.istore_n 3, 1) := by decide +kernel
theorem dX3_levelOf_4 : decode cX3_levelOf 4 = .ok (.aload_n 0, 1) := by decide +kernel
theorem dX3_levelOf_5 : decode cX3_levelOf 5 = .ok (.getfield 9, 3) := by decide +kernel
theorem dX3_levelOf_8 : decode cX3_levelOf 8 = .ok (.astore 4, 2) := by decide +kernel
theorem dX3_levelOf_10 : decode cX3_levelOf 10 = .ok (.aload 4, 2) := by decide +kernel
theorem dX3_levelOf_12 : decode cX3_levelOf 12 = .ok (.arraylength, 1) := by decide +kernel
theorem dX3_levelOf_13 : decode cX3_levelOf 13 = .ok (.istore 5, 2) := by decide +kernel
theorem dX3_levelOf_15 : decode cX3_levelOf 15 = .ok (.iconst 0, 1) := by decide +kernel
theorem dX3_levelOf_16 : decode cX3_levelOf 16 = .ok (.istore 6, 2) := by decide +kernel
theorem dX3_levelOf_18 : decode cX3_levelOf 18 = .ok (.iload 6, 2) := by decide +kernel
theorem dX3_levelOf_20 : decode cX3_levelOf 20 = .ok (.iload 5, 2) := by decide +kernel
theorem dX3_levelOf_22 : decode cX3_levelOf 22 = .ok (.if_icmp .ge 57, 3) := by decide +kernel
theorem dX3_levelOf_25 : decode cX3_levelOf 25 = .ok (.aload 4, 2) := by decide +kernel
theorem dX3_levelOf_27 : decode cX3_levelOf 27 = .ok (.iload 6, 2) := by decide +kernel
theorem dX3_levelOf_29 : decode cX3_levelOf 29 = .ok (.iaload, 1) := by decide +kernel
theorem dX3_levelOf_30 : decode cX3_levelOf 30 = .ok (.istore 7, 2) := by decide +kernel
theorem dX3_levelOf_32 : decode cX3_levelOf 32 = .ok (.iload 7, 2) := by decide +kernel
theorem dX3_levelOf_34 : decode cX3_levelOf 34 = .ok (.ifCond .le 12, 3) := by decide +kernel
theorem dX3_levelOf_37 : decode cX3_levelOf 37 = .ok (.iload_n 2, 1) := by decide +kernel
theorem dX3_levelOf_38 : decode cX3_levelOf 38 = .ok (.iload 7, 2) := by decide +kernel
theorem dX3_levelOf_40 : decode cX3_levelOf 40 = .ok (.bipush 10, 2) := by decide +kernel
theorem dX3_levelOf_42 : decode cX3_levelOf 42 = .ok (.imul, 1) := by decide +kernel
theorem dX3_levelOf_43 : decode cX3_levelOf 43 = .ok (.if_icmp .ge 19, 3) := by decide +kernel
theorem dX3_levelOf_46 : decode cX3_levelOf 46 = .ok (.iload 7, 2) := by decide +kernel
theorem dX3_levelOf_48 : decode cX3_levelOf 48 = .ok (.ifCond .le 12, 3) := by decide +kernel
theorem dX3_levelOf_51 : decode cX3_levelOf 51 = .ok (.iload_n 3, 1) := by decide +kernel
theorem dX3_levelOf_52 : decode cX3_levelOf 52 = .ok (.iload_n 2, 1) := by decide +kernel
theorem dX3_levelOf_53 : decode cX3_levelOf 53 = .ok (.iload 7, 2) := by decide +kernel
theorem dX3_levelOf_55 : decode cX3_levelOf 55 = .ok (.idiv, 1) := by decide +kernel
theorem dX3_levelOf_56 : decode cX3_levelOf 56 = .ok (.iadd, 1) := by decide +kernel
theorem dX3_levelOf_57 : decode cX3_levelOf 57 = .ok (.goto 4, 3) := by decide +kernel
theorem dX3_levelOf_60 : decode cX3_levelOf 60 = .ok (.iload_n 3, 1) := by decide +kernel
theorem dX3_levelOf_61 : decode cX3_levelOf 61 = .ok (.ireturn, 1) := by decide +kernel
theorem dX3_levelOf_62 : decode cX3_levelOf 62 = .ok (.iload_n 2, 1) := by decide +kernel
theorem dX3_levelOf_63 : decode cX3_levelOf 63 = .ok (.iload 7, 2) := by decide +kernel
theorem dX3_levelOf_65 : decode cX3_levelOf 65 = .ok (.bipush 10, 2) := by decide +kernel
theorem dX3_levelOf_67 : decode cX3_levelOf 67 = .ok (.imul, 1) := by decide +kernel
theorem dX3_levelOf_68 : decode cX3_levelOf 68 = .ok (.isub, 1) := by decide +kernel
theorem dX3_levelOf_69 : decode cX3_levelOf 69 = .ok (.istore_n 2, 1) := by decide +kernel
theorem dX3_levelOf_70 : decode cX3_levelOf 70 = .ok (.iinc 3 10, 3) := by decide +kernel
theorem dX3_levelOf_73 : decode cX3_levelOf 73 = .ok (.iinc 6 1, 3) := by decide +kernel
theorem dX3_levelOf_76 : decode cX3_levelOf 76 = .ok (.goto (-58), 3) := by decide +kernel
theorem dX3_levelOf_79 : decode cX3_levelOf 79 = .ok (.iload_n 3, 1) := by decide +kernel
theorem dX3_levelOf_80 : decode cX3_levelOf 80 = .ok (.ireturn, 1) := by decide +kernel
def f_X3_levelOf_L18 (X : x_X) (k46 : Int32 → Int32 → Int32 → x_M → Option (Int32 × x_M)) : Nat → Int32 → Int32 → Nat → Int32 → Int32 → x_M → Option (Int32 × x_M)
  | 0, _, _, _, _, _, _ => none
  | n + 1, v5, v6, v7, v8, v9, μ10 =>
    (if v8 ≤ v9 then (some (v6, μ10)) else (ck ((x_kd X v7 = 20 ∨ x_kd X v7 = 40) ∧ x_ix v9 (x_ln X v7)) (lt (μ10.1 v7 (v9).toNatClampNeg) (fun (v11 : Int32) => (if v11 ≤ 0 then (k46 v5 v6 v11 μ10) else (if (v11 * (10 : Int32)) ≤ v5 then (lt (v5 - (v11 * (10 : Int32))) (fun (v12 : Int32) => (f_X3_levelOf_L18 X k46 n v12 (v6 + (10 : Int32)) v7 v8 (v9 + (1 : Int32)) μ10))) else (k46 v5 v6 v11 μ10)))))))
set_option maxRecDepth 100000 in
theorem j_X3_levelOf_L18 (hI : x_I X) (hC : x_C X x_Z0 p (x_rm 1) s m c cX3_levelOf RX3 8 0 0 1) (hr : meth.sig.returnType = (some .int)) (hlk : meth.locks = false) {k46 : Int32 → Int32 → Int32 → x_M → Option (Int32 × x_M)} (hk46 : ∀ (b2 : Int32) (b3 : Int32) (b7 : Int32) (μ : x_M), SM X 8 1 rkI p l e s m args below meth c 46 [(2, vI b2), (3, vI b3), (7, vI b7)] [] μ (k46 b2 b3 b7 μ)) : ∀ (n : Nat) (v5 : Int32) (v6 : Int32) (v7 : Nat) (v8 : Int32) (v9 : Int32) (μ10 : x_M), SM X 8 1 rkI p l e s m args below meth c 18 [(2, vI v5), (3, vI v6), (4, vR v7), (5, vI v8), (6, vI v9)] [] μ10 (f_X3_levelOf_L18 X k46 n v5 v6 v7 v8 v9 μ10) := by
  intro n
  induction n with
  | zero => intro v5 v6 v7 v8 v9 μ10; exact s_none
  | succ n ih =>
    intro v5 v6 v7 v8 v9 μ10
    unfold f_X3_levelOf_L18
    refine s_iload hC 4 dX3_levelOf_18 rfl ?_
    refine s_iload hC 3 dX3_levelOf_20 rfl ?_
    refine s_icmp_ge hC dX3_levelOf_22 (tgt := 79) (by decide) ?_ ?_
    · refine s_iload_n hC 1 dX3_levelOf_79 rfl ?_
      exact s_iret hC hr hlk dX3_levelOf_80
    refine s_aload hC 2 dX3_levelOf_25 rfl ?_
    refine s_iload hC 4 dX3_levelOf_27 rfl ?_
    refine s_iald hC dX3_levelOf_29 ?_
    refine s_ltI (fun v11 => ?_)
    refine s_istore hC dX3_levelOf_30 (by decide) (lv' := [(7, vI v11), (2, vI v5), (3, vI v6), (4, vR v7), (5, vI v8), (6, vI v9)]) rfl ?_
    refine s_iload hC 0 dX3_levelOf_32 rfl ?_
    refine s_if_le hC dX3_levelOf_34 (tgt := 46) (by decide) ?_ ?_
    · refine s_lv (lv' := [(2, vI v5), (3, vI v6), (7, vI v11)]) [1, 2, 0] rfl ?_
      exact hk46 _ _ _ _
    refine s_iload_n hC 1 dX3_levelOf_37 rfl ?_
    refine s_iload hC 0 dX3_levelOf_38 rfl ?_
    refine s_bipush hC dX3_levelOf_40 (v := 10) (by decide) ?_
    refine s_imul hC dX3_levelOf_42 ?_
    refine s_icmp_ge hC dX3_levelOf_43 (tgt := 62) (by decide) ?_ ?_
    · refine s_iload_n hC 1 dX3_levelOf_62 rfl ?_
      refine s_iload hC 0 dX3_levelOf_63 rfl ?_
      refine s_bipush hC dX3_levelOf_65 (v := 10) (by decide) ?_
      refine s_imul hC dX3_levelOf_67 ?_
      refine s_isub hC dX3_levelOf_68 ?_
      refine s_ltI (fun v12 => ?_)
      refine s_istore_n hC dX3_levelOf_69 (by decide) (lv' := [(2, vI v12), (7, vI v11), (3, vI v6), (4, vR v7), (5, vI v8), (6, vI v9)]) rfl ?_
      refine s_iinc hC 2 dX3_levelOf_70 rfl (w := 10) (by decide) (by decide) (lv' := [(3, vI (v6 + (10 : Int32))), (2, vI v12), (7, vI v11), (4, vR v7), (5, vI v8), (6, vI v9)]) rfl ?_
      refine s_iinc hC 5 dX3_levelOf_73 rfl (w := 1) (by decide) (by decide) (lv' := [(6, vI (v9 + (1 : Int32))), (3, vI (v6 + (10 : Int32))), (2, vI v12), (7, vI v11), (4, vR v7), (5, vI v8)]) rfl ?_
      refine s_goto hC dX3_levelOf_76 (tgt := 18) (by decide) ?_
      refine s_lv (lv' := [(2, vI v12), (3, vI (v6 + (10 : Int32))), (4, vR v7), (5, vI v8), (6, vI (v9 + (1 : Int32)))]) [2, 1, 4, 5, 0] rfl ?_
      exact ih _ _ _ _ _ _
    refine s_lv (lv' := [(2, vI v5), (3, vI v6), (7, vI v11)]) [1, 2, 0] rfl ?_
    exact hk46 _ _ _ _
def f_X3_levelOf (X : x_X) (v0 : Nat) (v1 : Int32) (μ : x_M) : Option (Int32 × x_M) :=
  (ck (x_kd X v0 = 3 + 1) (lt (μ.2.1 v0 0) (fun (v3 : Nat) => (ck (x_kd X v3 = 20 ∨ x_kd X v3 = 23 ∨ x_kd X v3 = 40 ∨ x_kd X v3 = 41) (lt (nI (x_ln X v3)) (fun (v4 : Int32) => (f_X3_levelOf_L18 X (fun (v13 : Int32) (v14 : Int32) (v15 : Int32) (μ16 : x_M) => (if v15 ≤ 0 then (some (v14, μ16)) else (ck (¬ v15 = 0) (some ((v14 + (v13 / v15)), μ16))))) 4096 v1 (0 : Int32) v3 v4 (0 : Int32) μ)))))))
set_option maxRecDepth 100000 in
theorem m_X3_levelOf (hI : x_I X) (v0 : Nat) (v1 : Int32) (μ : x_M) : x_Met X x_Z0 l yX3_levelOf cX3_levelOf 8 (some .int) 1 [vR v0, vI v1] μ rkI (f_X3_levelOf X v0 v1 μ) := by
  refine x_enter hI (by decide +kernel) (Nat.le_of_ble_eq_true rfl) (fun p e s m args below meth c hC hr hlk => ?_)
  unfold f_X3_levelOf
  refine s_lv (lv' := [(0, vR v0), (1, vI v1)]) [0, 1] rfl ?_
  refine s_iload_n hC 1 dX3_levelOf_0 rfl ?_
  refine s_istore_n hC dX3_levelOf_1 (by decide) (lv' := [(2, vI v1), (0, vR v0), (1, vI v1)]) rfl ?_
  refine s_iconst hC dX3_levelOf_2 (v := 0) (by decide) ?_
  refine s_istore_n hC dX3_levelOf_3 (by decide) (lv' := [(3, vI (0 : Int32)), (2, vI v1), (0, vR v0), (1, vI v1)]) rfl ?_
  refine s_aload_n hC 2 dX3_levelOf_4 rfl ?_
  refine s_getR hC xc3 (by decide) rfl qf_X3_9 dX3_levelOf_5 ?_
  refine s_ltR (fun v3 => ?_)
  refine s_astore hC dX3_levelOf_8 (by decide) (lv' := [(4, vR v3), (3, vI (0 : Int32)), (2, vI v1), (0, vR v0), (1, vI v1)]) rfl ?_
  refine s_aload hC 0 dX3_levelOf_10 rfl ?_
  refine s_alen hC dX3_levelOf_12 ?_
  refine s_ltI (fun v4 => ?_)
  refine s_istore hC dX3_levelOf_13 (by decide) (lv' := [(5, vI v4), (4, vR v3), (3, vI (0 : Int32)), (2, vI v1), (0, vR v0), (1, vI v1)]) rfl ?_
  refine s_iconst hC dX3_levelOf_15 (v := 0) (by decide) ?_
  refine s_istore hC dX3_levelOf_16 (by decide) (lv' := [(6, vI (0 : Int32)), (5, vI v4), (4, vR v3), (3, vI (0 : Int32)), (2, vI v1), (0, vR v0), (1, vI v1)]) rfl ?_
  refine s_lv (lv' := [(2, vI v1), (3, vI (0 : Int32)), (4, vR v3), (5, vI v4), (6, vI (0 : Int32))]) [4, 3, 2, 1, 0] rfl ?_
  refine j_X3_levelOf_L18 hI hC hr hlk (fun v13 v14 v15 μ16 => ?_) 4096 _ _ _ _ _ _
  refine s_iload hC 2 dX3_levelOf_46 rfl ?_
  refine s_if_le hC dX3_levelOf_48 (tgt := 60) (by decide) ?_ ?_
  · refine s_iload_n hC 1 dX3_levelOf_60 rfl ?_
    exact s_iret hC hr hlk dX3_levelOf_61
  refine s_iload_n hC 1 dX3_levelOf_51 rfl ?_
  refine s_iload_n hC 0 dX3_levelOf_52 rfl ?_
  refine s_iload hC 2 dX3_levelOf_53 rfl ?_
  refine s_idiv hC dX3_levelOf_55 ?_
  refine s_iadd hC dX3_levelOf_56 ?_
  refine s_goto hC dX3_levelOf_57 (tgt := 61) (by decide) ?_
  exact s_iret hC hr hlk dX3_levelOf_61
theorem dX3_volumeOf_0 : decode cX3_volumeOf 0 = .ok (.iload_n 1, 1) := by decide +kernel
theorem dX3_volumeOf_1 : decode cX3_volumeOf 1 = .ok (.istore_n 2, 1) := by decide +kernel
theorem dX3_volumeOf_2 : decode cX3_volumeOf 2 = .ok (.iconst 0, 1) := by decide +kernel
theorem dX3_volumeOf_3 : decode cX3_volumeOf 3 = .ok (.istore_n 3, 1) := by decide +kernel
theorem dX3_volumeOf_4 : decode cX3_volumeOf 4 = .ok (.aload_n 0, 1) := by decide +kernel
theorem dX3_volumeOf_5 : decode cX3_volumeOf 5 = .ok (.getfield 9, 3) := by decide +kernel
theorem dX3_volumeOf_8 : decode cX3_volumeOf 8 = .ok (.astore 4, 2) := by decide +kernel
theorem dX3_volumeOf_10 : decode cX3_volumeOf 10 = .ok (.aload 4, 2) := by decide +kernel
theorem dX3_volumeOf_12 : decode cX3_volumeOf 12 = .ok (.arraylength, 1) := by decide +kernel
theorem dX3_volumeOf_13 : decode cX3_volumeOf 13 = .ok (.istore 5, 2) := by decide +kernel
theorem dX3_volumeOf_15 : decode cX3_volumeOf 15 = .ok (.iconst 0, 1) := by decide +kernel
theorem dX3_volumeOf_16 : decode cX3_volumeOf 16 = .ok (.istore 6, 2) := by decide +kernel
theorem dX3_volumeOf_18 : decode cX3_volumeOf 18 = .ok (.iload 6, 2) := by decide +kernel
theorem dX3_volumeOf_20 : decode cX3_volumeOf 20 = .ok (.iload 5, 2) := by decide +kernel
theorem dX3_volumeOf_22 : decode cX3_volumeOf 22 = .ok (.if_icmp .ge 41, 3) := by decide +kernel
theorem dX3_volumeOf_25 : decode cX3_volumeOf 25 = .ok (.aload 4, 2) := by decide +kernel
theorem dX3_volumeOf_27 : decode cX3_volumeOf 27 = .ok (.iload 6, 2) := by decide +kernel
theorem dX3_volumeOf_29 : decode cX3_volumeOf 29 = .ok (.iaload, 1) := by decide +kernel
theorem dX3_volumeOf_30 : decode cX3_volumeOf 30 = .ok (.istore 7, 2) := by decide +kernel
theorem dX3_volumeOf_32 : decode cX3_volumeOf 32 = .ok (.iconst 0, 1) := by decide +kernel
theorem dX3_volumeOf_33 : decode cX3_volumeOf 33 = .ok (.iload_n 2, 1) := by decide +kernel
theorem dX3_volumeOf_34 : decode cX3_volumeOf 34 = .ok (.bipush 10, 2) := by decide +kernel
theorem dX3_volumeOf_36 : decode cX3_volumeOf 36 = .ok (.invokestatic 19, 3) := by decide +kernel
theorem dX3_volumeOf_39 : decode cX3_volumeOf 39 = .ok (.invokestatic 25, 3) := by decide +kernel
theorem dX3_volumeOf_42 : decode cX3_volumeOf 42 = .ok (.istore 8, 2) := by decide +kernel
theorem dX3_volumeOf_44 : decode cX3_volumeOf 44 = .ok (.iload_n 3, 1) := by decide +kernel
theorem dX3_volumeOf_45 : decode cX3_volumeOf 45 = .ok (.iload 8, 2) := by decide +kernel
theorem dX3_volumeOf_47 : decode cX3_volumeOf 47 = .ok (.iload 7, 2) := by decide +kernel
theorem dX3_volumeOf_49 : decode cX3_volumeOf 49 = .ok (.imul, 1) := by decide +kernel
theorem dX3_volumeOf_50 : decode cX3_volumeOf 50 = .ok (.iadd, 1) := by decide +kernel
theorem dX3_volumeOf_51 : decode cX3_volumeOf 51 = .ok (.istore_n 3, 1) := by decide +kernel
theorem dX3_volumeOf_52 : decode cX3_volumeOf 52 = .ok (.iload_n 2, 1) := by decide +kernel
theorem dX3_volumeOf_53 : decode cX3_volumeOf 53 = .ok (.iload 8, 2) := by decide +kernel
theorem dX3_volumeOf_55 : decode cX3_volumeOf 55 = .ok (.isub, 1) := by decide +kernel
theorem dX3_volumeOf_56 : decode cX3_volumeOf 56 = .ok (.istore_n 2, 1) := by decide +kernel
theorem dX3_volumeOf_57 : decode cX3_volumeOf 57 = .ok (.iinc 6 1, 3) := by decide +kernel
theorem dX3_volumeOf_60 : decode cX3_volumeOf 60 = .ok (.goto (-42), 3) := by decide +kernel
theorem dX3_volumeOf_63 : decode cX3_volumeOf 63 = .ok (.iload_n 3, 1) := by decide +kernel
theorem dX3_volumeOf_64 : decode cX3_volumeOf 64 = .ok (.ireturn, 1) := by decide +kernel
def f_X3_volumeOf_L18 (X : x_X) : Nat → Int32 → Int32 → Nat → Int32 → Int32 → x_M → Option (Int32 × x_M)
  | 0, _, _, _, _, _, _ => none
  | n + 1, v5, v6, v7, v8, v9, μ10 =>
    (if v8 ≤ v9 then (some (v6, μ10)) else (ck ((x_kd X v7 = 20 ∨ x_kd X v7 = 40) ∧ x_ix v9 (x_ln X v7)) (lt (μ10.1 v7 (v9).toNatClampNeg) (fun (v11 : Int32) => (lt (if (10 : Int32) < v5 then (10 : Int32) else v5) (fun (v12 : Int32) => (lt (if (0 : Int32) < v12 then v12 else (0 : Int32)) (fun (v13 : Int32) => (lt (v6 + (v13 * v11)) (fun (v14 : Int32) => (lt (v5 - v13) (fun (v15 : Int32) => (f_X3_volumeOf_L18 X n v15 v14 v7 v8 (v9 + (1 : Int32)) μ10)))))))))))))
set_option maxRecDepth 100000 in
theorem j_X3_volumeOf_L18 (hI : x_I X) (hC : x_C X x_Z0 p (x_rm 1) s m c cX3_volumeOf RX3 9 0 0 1) (hr : meth.sig.returnType = (some .int)) (hlk : meth.locks = false) : ∀ (n : Nat) (v5 : Int32) (v6 : Int32) (v7 : Nat) (v8 : Int32) (v9 : Int32) (μ10 : x_M), SM X 9 1 rkI p l e s m args below meth c 18 [(2, vI v5), (3, vI v6), (4, vR v7), (5, vI v8), (6, vI v9)] [] μ10 (f_X3_volumeOf_L18 X n v5 v6 v7 v8 v9 μ10) := by
  intro n
  induction n with
  | zero => intro v5 v6 v7 v8 v9 μ10; exact s_none
  | succ n ih =>
    intro v5 v6 v7 v8 v9 μ10
    unfold f_X3_volumeOf_L18
    refine s_iload hC 4 dX3_volumeOf_18 rfl ?_
    refine s_iload hC 3 dX3_volumeOf_20 rfl ?_
    refine s_icmp_ge hC dX3_volumeOf_22 (tgt := 63) (by decide) ?_ ?_
    · refine s_iload_n hC 1 dX3_volumeOf_63 rfl ?_
      exact s_iret hC hr hlk dX3_volumeOf_64
    refine s_aload hC 2 dX3_volumeOf_25 rfl ?_
    refine s_iload hC 4 dX3_volumeOf_27 rfl ?_
    refine s_iald hC dX3_volumeOf_29 ?_
    refine s_ltI (fun v11 => ?_)
    refine s_istore hC dX3_volumeOf_30 (by decide) (lv' := [(7, vI v11), (2, vI v5), (3, vI v6), (4, vR v7), (5, vI v8), (6, vI v9)]) rfl ?_
    refine s_iconst hC dX3_volumeOf_32 (v := 0) (by decide) ?_
    refine s_iload_n hC 1 dX3_volumeOf_33 rfl ?_
    refine s_bipush hC dX3_volumeOf_34 (v := 10) (by decide) ?_
    refine s_min hC dX3_volumeOf_36 qm_X3_19 qt_Math_min qc_Math qd_Math_min (by decide) (Nat.le_of_ble_eq_true rfl) ?_
    refine s_ltI (fun v12 => ?_)
    refine s_max hC dX3_volumeOf_39 qm_X3_25 qt_Math_max qc_Math qd_Math_max (by decide) (Nat.le_of_ble_eq_true rfl) ?_
    refine s_ltI (fun v13 => ?_)
    refine s_istore hC dX3_volumeOf_42 (by decide) (lv' := [(8, vI v13), (7, vI v11), (2, vI v5), (3, vI v6), (4, vR v7), (5, vI v8), (6, vI v9)]) rfl ?_
    refine s_iload_n hC 3 dX3_volumeOf_44 rfl ?_
    refine s_iload hC 0 dX3_volumeOf_45 rfl ?_
    refine s_iload hC 1 dX3_volumeOf_47 rfl ?_
    refine s_imul hC dX3_volumeOf_49 ?_
    refine s_iadd hC dX3_volumeOf_50 ?_
    refine s_ltI (fun v14 => ?_)
    refine s_istore_n hC dX3_volumeOf_51 (by decide) (lv' := [(3, vI v14), (8, vI v13), (7, vI v11), (2, vI v5), (4, vR v7), (5, vI v8), (6, vI v9)]) rfl ?_
    refine s_iload_n hC 3 dX3_volumeOf_52 rfl ?_
    refine s_iload hC 1 dX3_volumeOf_53 rfl ?_
    refine s_isub hC dX3_volumeOf_55 ?_
    refine s_ltI (fun v15 => ?_)
    refine s_istore_n hC dX3_volumeOf_56 (by decide) (lv' := [(2, vI v15), (3, vI v14), (8, vI v13), (7, vI v11), (4, vR v7), (5, vI v8), (6, vI v9)]) rfl ?_
    refine s_iinc hC 6 dX3_volumeOf_57 rfl (w := 1) (by decide) (by decide) (lv' := [(6, vI (v9 + (1 : Int32))), (2, vI v15), (3, vI v14), (8, vI v13), (7, vI v11), (4, vR v7), (5, vI v8)]) rfl ?_
    refine s_goto hC dX3_volumeOf_60 (tgt := 18) (by decide) ?_
    refine s_lv (lv' := [(2, vI v15), (3, vI v14), (4, vR v7), (5, vI v8), (6, vI (v9 + (1 : Int32)))]) [1, 2, 5, 6, 0] rfl ?_
    exact ih _ _ _ _ _ _
def f_X3_volumeOf (X : x_X) (v0 : Nat) (v1 : Int32) (μ : x_M) : Option (Int32 × x_M) :=
  (ck (x_kd X v0 = 3 + 1) (lt (μ.2.1 v0 0) (fun (v3 : Nat) => (ck (x_kd X v3 = 20 ∨ x_kd X v3 = 23 ∨ x_kd X v3 = 40 ∨ x_kd X v3 = 41) (lt (nI (x_ln X v3)) (fun (v4 : Int32) => (f_X3_volumeOf_L18 X 4096 v1 (0 : Int32) v3 v4 (0 : Int32) μ)))))))
set_option maxRecDepth 100000 in
theorem m_X3_volumeOf (hI : x_I X) (v0 : Nat) (v1 : Int32) (μ : x_M) : x_Met X x_Z0 l yX3_volumeOf cX3_volumeOf 9 (some .int) 1 [vR v0, vI v1] μ rkI (f_X3_volumeOf X v0 v1 μ) := by
  refine x_enter hI (by decide +kernel) (Nat.le_of_ble_eq_true rfl) (fun p e s m args below meth c hC hr hlk => ?_)
  unfold f_X3_volumeOf
  refine s_lv (lv' := [(0, vR v0), (1, vI v1)]) [0, 1] rfl ?_
  refine s_iload_n hC 1 dX3_volumeOf_0 rfl ?_
  refine s_istore_n hC dX3_volumeOf_1 (by decide) (lv' := [(2, vI v1), (0, vR v0), (1, vI v1)]) rfl ?_
  refine s_iconst hC dX3_volumeOf_2 (v := 0) (by decide) ?_
  refine s_istore_n hC dX3_volumeOf_3 (by decide) (lv' := [(3, vI (0 : Int32)), (2, vI v1), (0, vR v0), (1, vI v1)]) rfl ?_
  refine s_aload_n hC 2 dX3_volumeOf_4 rfl ?_
  refine s_getR hC xc3 (by decide) rfl qf_X3_9 dX3_volumeOf_5 ?_
  refine s_ltR (fun v3 => ?_)
  refine s_astore hC dX3_volumeOf_8 (by decide) (lv' := [(4, vR v3), (3, vI (0 : Int32)), (2, vI v1), (0, vR v0), (1, vI v1)]) rfl ?_
  refine s_aload hC 0 dX3_volumeOf_10 rfl ?_
  refine s_alen hC dX3_volumeOf_12 ?_
  refine s_ltI (fun v4 => ?_)
  refine s_istore hC dX3_volumeOf_13 (by decide) (lv' := [(5, vI v4), (4, vR v3), (3, vI (0 : Int32)), (2, vI v1), (0, vR v0), (1, vI v1)]) rfl ?_
  refine s_iconst hC dX3_volumeOf_15 (v := 0) (by decide) ?_
  refine s_istore hC dX3_volumeOf_16 (by decide) (lv' := [(6, vI (0 : Int32)), (5, vI v4), (4, vR v3), (3, vI (0 : Int32)), (2, vI v1), (0, vR v0), (1, vI v1)]) rfl ?_
  refine s_lv (lv' := [(2, vI v1), (3, vI (0 : Int32)), (4, vR v3), (5, vI v4), (6, vI (0 : Int32))]) [4, 3, 2, 1, 0] rfl ?_
  refine j_X3_volumeOf_L18 hI hC hr hlk 4096 _ _ _ _ _ _
theorem dX3_copyFrom_0 : decode cX3_copyFrom 0 = .ok (.iconst 0, 1) := by decide +kernel
theorem dX3_copyFrom_1 : decode cX3_copyFrom 1 = .ok (.istore_n 2, 1) := by decide +kernel
theorem dX3_copyFrom_2 : decode cX3_copyFrom 2 = .ok (.iload_n 2, 1) := by decide +kernel
theorem dX3_copyFrom_3 : decode cX3_copyFrom 3 = .ok (.bipush 6, 2) := by decide +kernel
theorem dX3_copyFrom_5 : decode cX3_copyFrom 5 = .ok (.if_icmp .ge 23, 3) := by decide +kernel
theorem dX3_copyFrom_8 : decode cX3_copyFrom 8 = .ok (.aload_n 0, 1) := by decide +kernel
theorem dX3_copyFrom_9 : decode cX3_copyFrom 9 = .ok (.getfield 9, 3) := by decide +kernel
theorem dX3_copyFrom_12 : decode cX3_copyFrom 12 = .ok (.iload_n 2, 1) := by decide +kernel
theorem dX3_copyFrom_13 : decode cX3_copyFrom 13 = .ok (.aload_n 1, 1) := by decide +kernel
theorem dX3_copyFrom_14 : decode cX3_copyFrom 14 = .ok (.getfield 9, 3) := by decide +kernel
theorem dX3_copyFrom_17 : decode cX3_copyFrom 17 = .ok (.iload_n 2, 1) := by decide +kernel
theorem dX3_copyFrom_18 : decode cX3_copyFrom 18 = .ok (.invokestatic 15, 3) := by decide +kernel
theorem dX3_copyFrom_21 : decode cX3_copyFrom 21 = .ok (.iastore, 1) := by decide +kernel
theorem dX3_copyFrom_22 : decode cX3_copyFrom 22 = .ok (.iinc 2 1, 3) := by decide +kernel
theorem dX3_copyFrom_25 : decode cX3_copyFrom 25 = .ok (.goto (-23), 3) := by decide +kernel
theorem dX3_copyFrom_28 : decode cX3_copyFrom 28 = .ok (.return_, 1) := by decide +kernel
def f_X3_copyFrom_L2 (X : x_X) : Nat → Nat → Nat → Int32 → x_M → Option (Unit × x_M)
  | 0, _, _, _, _ => none
  | n + 1, v3, v4, v5, μ6 =>
    (if (6 : Int32) ≤ v5 then (some ((), μ6)) else (ck (x_kd X v3 = 3 + 1) (lt (μ6.2.1 v3 0) (fun (v7 : Nat) => (ck (x_kd X v4 = 3 + 1) (lt (μ6.2.1 v4 0) (fun (v8 : Nat) => (bd (f_X9_at X v8 v5 μ6) (fun (v9 : Int32) (μ10 : x_M) => (ck (x_kd X v7 = 20 ∧ x_ix v5 (x_ln X v7)) (lt (x_sI μ10 v7 (v5).toNatClampNeg v9) (fun (μ11 : x_M) => (f_X3_copyFrom_L2 X n v3 v4 (v5 + (1 : Int32)) μ11)))))))))))))
set_option maxRecDepth 100000 in
theorem j_X3_copyFrom_L2 (hI : x_I X) (hC : x_C X x_Z0 p (x_rm 2) s m c cX3_copyFrom RX3 3 0 0 2) (hr : meth.sig.returnType = none) (hlk : meth.locks = false) : ∀ (n : Nat) (v3 : Nat) (v4 : Nat) (v5 : Int32) (μ6 : x_M), SM X 3 2 rkV p l e s m args below meth c 2 [(0, vR v3), (1, vR v4), (2, vI v5)] [] μ6 (f_X3_copyFrom_L2 X n v3 v4 v5 μ6) := by
  intro n
  induction n with
  | zero => intro v3 v4 v5 μ6; exact s_none
  | succ n ih =>
    intro v3 v4 v5 μ6
    unfold f_X3_copyFrom_L2
    refine s_iload_n hC 2 dX3_copyFrom_2 rfl ?_
    refine s_bipush hC dX3_copyFrom_3 (v := 6) (by decide) ?_
    refine s_icmp_ge hC dX3_copyFrom_5 (tgt := 28) (by decide) ?_ ?_
    · exact s_vret hC hr hlk dX3_copyFrom_28
    refine s_aload_n hC 0 dX3_copyFrom_8 rfl ?_
    refine s_getR hC xc3 (by decide) rfl qf_X3_9 dX3_copyFrom_9 ?_
    refine s_ltR (fun v7 => ?_)
    refine s_iload_n hC 2 dX3_copyFrom_12 rfl ?_
    refine s_aload_n hC 1 dX3_copyFrom_13 rfl ?_
    refine s_getR hC xc3 (by decide) rfl qf_X3_9 dX3_copyFrom_14 ?_
    refine s_ltR (fun v8 => ?_)
    refine s_iload_n hC 2 dX3_copyFrom_17 rfl ?_
    refine s_callS hC (avs := [vR v8, vI v5]) (st := [vI v5, vR v7]) (nest := true) (m_X9_at hI v8 v5 μ6) dX3_copyFrom_18 qm_X3_15 qt_X9_at qc_X9 qd_X9_at qh_X9_at (by decide) (fun _ => Nat.le_of_ble_eq_true rfl) (Nat.le_of_ble_eq_true rfl) (fun v9 μ10 => ?_)
    refine s_iast hC dX3_copyFrom_21 ?_
    refine s_ltM (fun μ11 => ?_)
    refine s_iinc hC 2 dX3_copyFrom_22 rfl (w := 1) (by decide) (by decide) (lv' := [(2, vI (v5 + (1 : Int32))), (0, vR v3), (1, vR v4)]) rfl ?_
    refine s_goto hC dX3_copyFrom_25 (tgt := 2) (by decide) ?_
    refine s_lv (lv' := [(0, vR v3), (1, vR v4), (2, vI (v5 + (1 : Int32)))]) [1, 2, 0] rfl ?_
    exact ih _ _ _ _
def f_X3_copyFrom (X : x_X) (v0 : Nat) (v1 : Nat) (μ : x_M) : Option (Unit × x_M) :=
  (f_X3_copyFrom_L2 X 4096 v0 v1 (0 : Int32) μ)
set_option maxRecDepth 100000 in
theorem m_X3_copyFrom (hI : x_I X) (v0 : Nat) (v1 : Nat) (μ : x_M) : x_Met X x_Z0 l yX3_copyFrom cX3_copyFrom 3 none 2 [vR v0, vR v1] μ rkV (f_X3_copyFrom X v0 v1 μ) := by
  refine x_enter hI (by decide +kernel) (Nat.le_of_ble_eq_true rfl) (fun p e s m args below meth c hC hr hlk => ?_)
  unfold f_X3_copyFrom
  refine s_lv (lv' := [(0, vR v0), (1, vR v1)]) [0, 1] rfl ?_
  refine s_iconst hC dX3_copyFrom_0 (v := 0) (by decide) ?_
  refine s_istore_n hC dX3_copyFrom_1 (by decide) (lv' := [(2, vI (0 : Int32)), (0, vR v0), (1, vR v1)]) rfl ?_
  refine s_lv (lv' := [(0, vR v0), (1, vR v1), (2, vI (0 : Int32))]) [1, 2, 0] rfl ?_
  refine j_X3_copyFrom_L2 hI hC hr hlk 4096 _ _ _ _
theorem dX3_areaOf_0 : decode cX3_areaOf 0 = .ok (.aload_n 0, 1) := by decide +kernel
theorem dX3_areaOf_1 : decode cX3_areaOf 1 = .ok (.getfield 9, 3) := by decide +kernel
theorem dX3_areaOf_4 : decode cX3_areaOf 4 = .ok (.iload_n 1, 1) := by decide +kernel
theorem dX3_areaOf_5 : decode cX3_areaOf 5 = .ok (.invokestatic 15, 3) := by decide +kernel
theorem dX3_areaOf_8 : decode cX3_areaOf 8 = .ok (.ireturn, 1) := by decide +kernel
def f_X3_areaOf (X : x_X) (v0 : Nat) (v1 : Int32) (μ : x_M) : Option (Int32 × x_M) :=
  (ck (x_kd X v0 = 3 + 1) (lt (μ.2.1 v0 0) (fun (v3 : Nat) => (bd (f_X9_at X v3 v1 μ) (fun (v4 : Int32) (μ5 : x_M) => (some (v4, μ5)))))))
set_option maxRecDepth 100000 in
theorem m_X3_areaOf (hI : x_I X) (v0 : Nat) (v1 : Int32) (μ : x_M) : x_Met X x_Z0 l yX3_areaOf cX3_areaOf 2 (some .int) 2 [vR v0, vI v1] μ rkI (f_X3_areaOf X v0 v1 μ) := by
  refine x_enter hI (by decide +kernel) (Nat.le_of_ble_eq_true rfl) (fun p e s m args below meth c hC hr hlk => ?_)
  unfold f_X3_areaOf
  refine s_lv (lv' := [(0, vR v0), (1, vI v1)]) [0, 1] rfl ?_
  refine s_aload_n hC 0 dX3_areaOf_0 rfl ?_
  refine s_getR hC xc3 (by decide) rfl qf_X3_9 dX3_areaOf_1 ?_
  refine s_ltR (fun v3 => ?_)
  refine s_iload_n hC 1 dX3_areaOf_4 rfl ?_
  refine s_callS hC (avs := [vR v3, vI v1]) (st := []) (nest := true) (m_X9_at hI v3 v1 μ) dX3_areaOf_5 qm_X3_15 qt_X9_at qc_X9 qd_X9_at qh_X9_at (by decide) (fun _ => Nat.le_of_ble_eq_true rfl) (Nat.le_of_ble_eq_true rfl) (fun v4 μ5 => ?_)
  exact s_iret hC hr hlk dX3_areaOf_8
theorem dX3_change_0 : decode cX3_change 0 = .ok (.aload_n 0, 1) := by decide +kernel
theorem dX3_change_1 : decode cX3_change 1 = .ok (.getfield 9, 3) := by decide +kernel
theorem dX3_change_4 : decode cX3_change 4 = .ok (.iload_n 1, 1) := by decide +kernel
theorem dX3_change_5 : decode cX3_change 5 = .ok (.invokestatic 15, 3) := by decide +kernel
theorem dX3_change_8 : decode cX3_change 8 = .ok (.istore_n 3, 1) := by decide +kernel
theorem dX3_change_9 : decode cX3_change 9 = .ok (.iload_n 1, 1) := by decide +kernel
theorem dX3_change_10 : decode cX3_change 10 = .ok (.ifCond .lt 19, 3) := by decide +kernel
theorem dX3_change_13 : decode cX3_change 13 = .ok (.iload_n 1, 1) := by decide +kernel
theorem dX3_change_14 : decode cX3_change 14 = .ok (.aload_n 0, 1) := by decide +kernel
theorem dX3_change_15 : decode cX3_change 15 = .ok (.getfield 9, 3) := by decide +kernel
theorem dX3_change_18 : decode cX3_change 18 = .ok (.arraylength, 1) := by decide +kernel
theorem dX3_change_19 : decode cX3_change 19 = .ok (.if_icmp .ge 10, 3) := by decide +kernel
theorem dX3_change_22 : decode cX3_change 22 = .ok (.aload_n 0, 1) := by decide +kernel
theorem dX3_change_23 : decode cX3_change 23 = .ok (.getfield 9, 3) := by decide +kernel
theorem dX3_change_26 : decode cX3_change 26 = .ok (.iload_n 1, 1) := by decide +kernel
theorem dX3_change_27 : decode cX3_change 27 = .ok (.iload_n 2, 1) := by decide +kernel
theorem dX3_change_28 : decode cX3_change 28 = .ok (.iastore, 1) := by decide +kernel
theorem dX3_change_29 : decode cX3_change 29 = .ok (.iload_n 3, 1) := by decide +kernel
theorem dX3_change_30 : decode cX3_change 30 = .ok (.ireturn, 1) := by decide +kernel
def f_X3_change (X : x_X) (v0 : Nat) (v1 : Int32) (v2 : Int32) (μ : x_M) : Option (Int32 × x_M) :=
  (ck (x_kd X v0 = 3 + 1) (lt (μ.2.1 v0 0) (fun (v4 : Nat) => (bd (f_X9_at X v4 v1 μ) (fun (v5 : Int32) (μ6 : x_M) => (if v1 < 0 then (some (v5, μ6)) else (ck (x_kd X v0 = 3 + 1) (lt (μ6.2.1 v0 0) (fun (v7 : Nat) => (ck (x_kd X v7 = 20 ∨ x_kd X v7 = 23 ∨ x_kd X v7 = 40 ∨ x_kd X v7 = 41) (if (nI (x_ln X v7)) ≤ v1 then (some (v5, μ6)) else (ck (x_kd X v0 = 3 + 1) (lt (μ6.2.1 v0 0) (fun (v8 : Nat) => (ck (x_kd X v8 = 20 ∧ x_ix v1 (x_ln X v8)) (lt (x_sI μ6 v8 (v1).toNatClampNeg v2) (fun (μ9 : x_M) => (some (v5, μ9)))))))))))))))))))
set_option maxRecDepth 100000 in
theorem m_X3_change (hI : x_I X) (v0 : Nat) (v1 : Int32) (v2 : Int32) (μ : x_M) : x_Met X x_Z0 l yX3_change cX3_change 4 (some .int) 2 [vR v0, vI v1, vI v2] μ rkI (f_X3_change X v0 v1 v2 μ) := by
  refine x_enter hI (by decide +kernel) (Nat.le_of_ble_eq_true rfl) (fun p e s m args below meth c hC hr hlk => ?_)
  unfold f_X3_change
  refine s_lv (lv' := [(0, vR v0), (1, vI v1), (2, vI v2)]) [0, 1, 2] rfl ?_
  refine s_aload_n hC 0 dX3_change_0 rfl ?_
  refine s_getR hC xc3 (by decide) rfl qf_X3_9 dX3_change_1 ?_
  refine s_ltR (fun v4 => ?_)
  refine s_iload_n hC 1 dX3_change_4 rfl ?_
  refine s_callS hC (avs := [vR v4, vI v1]) (st := []) (nest := true) (m_X9_at hI v4 v1 μ) dX3_change_5 qm_X3_15 qt_X9_at qc_X9 qd_X9_at qh_X9_at (by decide) (fun _ => Nat.le_of_ble_eq_true rfl) (Nat.le_of_ble_eq_true rfl) (fun v5 μ6 => ?_)
  refine s_istore_n hC dX3_change_8 (by decide) (lv' := [(3, vI v5), (0, vR v0), (1, vI v1), (2, vI v2)]) rfl ?_
  refine s_iload_n hC 2 dX3_change_9 rfl ?_
  refine s_if_lt hC dX3_change_10 (tgt := 29) (by decide) ?_ ?_
  · refine s_iload_n hC 0 dX3_change_29 rfl ?_
    exact s_iret hC hr hlk dX3_change_30
  refine s_iload_n hC 2 dX3_change_13 rfl ?_
  refine s_aload_n hC 1 dX3_change_14 rfl ?_
  refine s_getR hC xc3 (by decide) rfl qf_X3_9 dX3_change_15 ?_
  refine s_ltR (fun v7 => ?_)
  refine s_alen hC dX3_change_18 ?_
  refine s_icmp_ge hC dX3_change_19 (tgt := 29) (by decide) ?_ ?_
  · refine s_iload_n hC 0 dX3_change_29 rfl ?_
    exact s_iret hC hr hlk dX3_change_30
  refine s_aload_n hC 1 dX3_change_22 rfl ?_
  refine s_getR hC xc3 (by decide) rfl qf_X3_9 dX3_change_23 ?_
  refine s_ltR (fun v8 => ?_)
  refine s_iload_n hC 2 dX3_change_26 rfl ?_
  refine s_iload_n hC 3 dX3_change_27 rfl ?_
  refine s_iast hC dX3_change_28 ?_
  refine s_ltM (fun μ9 => ?_)
  refine s_iload_n hC 0 dX3_change_29 rfl ?_
  exact s_iret hC hr hlk dX3_change_30
theorem dX6_size_0 : decode cX6_size 0 = .ok (.aload_n 0, 1) := by decide +kernel
theorem dX6_size_1 : decode cX6_size 1 = .ok (.getfield 28, 3) := by decide +kernel
theorem dX6_size_4 : decode cX6_size 4 = .ok (.ireturn, 1) := by decide +kernel
def f_X6_size (X : x_X) (v0 : Nat) (μ : x_M) : Option (Int32 × x_M) :=
  (ck (x_kd X v0 = 6 + 1) (some ((μ.1 v0 3), μ)))
set_option maxRecDepth 100000 in
theorem m_X6_size (hI : x_I X) (v0 : Nat) (μ : x_M) : x_Met X x_Z0 l yX6_size cX6_size 1 (some .int) 1 [vR v0] μ rkI (f_X6_size X v0 μ) := by
  refine x_enter hI (by decide +kernel) (Nat.le_of_ble_eq_true rfl) (fun p e s m args below meth c hC hr hlk => ?_)
  unfold f_X6_size
  refine s_lv (lv' := [(0, vR v0)]) [0] rfl ?_
  refine s_aload_n hC 0 dX6_size_0 rfl ?_
  refine s_getI hC xc6 (by decide) rfl qf_X6_28 dX6_size_1 ?_
  exact s_iret hC hr hlk dX6_size_4
theorem dX6_clear_0 : decode cX6_clear 0 = .ok (.aload_n 0, 1) := by decide +kernel
theorem dX6_clear_1 : decode cX6_clear 1 = .ok (.iconst 0, 1) := by decide +kernel
theorem dX6_clear_2 : decode cX6_clear 2 = .ok (.putfield 28, 3) := by decide +kernel
theorem dX6_clear_5 : decode cX6_clear 5 = .ok (.aload_n 0, 1) := by decide +kernel
theorem dX6_clear_6 : decode cX6_clear 6 = .ok (.getfield 28, 3) := by decide +kernel
theorem dX6_clear_9 : decode cX6_clear 9 = .ok (.ireturn, 1) := by decide +kernel
def f_X6_clear (X : x_X) (v0 : Nat) (μ : x_M) : Option (Int32 × x_M) :=
  (ck (x_kd X v0 = 6 + 1) (lt (x_sI μ v0 3 (0 : Int32)) (fun (μ2 : x_M) => (ck (x_kd X v0 = 6 + 1) (some ((μ2.1 v0 3), μ2))))))
set_option maxRecDepth 100000 in
theorem m_X6_clear (hI : x_I X) (v0 : Nat) (μ : x_M) : x_Met X x_Z0 l yX6_clear cX6_clear 1 (some .int) 1 [vR v0] μ rkI (f_X6_clear X v0 μ) := by
  refine x_enter hI (by decide +kernel) (Nat.le_of_ble_eq_true rfl) (fun p e s m args below meth c hC hr hlk => ?_)
  unfold f_X6_clear
  refine s_lv (lv' := [(0, vR v0)]) [0] rfl ?_
  refine s_aload_n hC 0 dX6_clear_0 rfl ?_
  refine s_iconst hC dX6_clear_1 (v := 0) (by decide) ?_
  refine s_putI hC xc6 (by decide) rfl rfl qf_X6_28 dX6_clear_2 ?_
  refine s_ltM (fun μ2 => ?_)
  refine s_aload_n hC 0 dX6_clear_5 rfl ?_
  refine s_getI hC xc6 (by decide) rfl qf_X6_28 dX6_clear_6 ?_
  exact s_iret hC hr hlk dX6_clear_9
theorem dX6_copyFrom_0 : decode cX6_copyFrom 0 = .ok (.aload_n 0, 1) := by decide +kernel
theorem dX6_copyFrom_1 : decode cX6_copyFrom 1 = .ok (.aload_n 1, 1) := by decide +kernel
theorem dX6_copyFrom_2 : decode cX6_copyFrom 2 = .ok (.getfield 28, 3) := by decide +kernel
theorem dX6_copyFrom_5 : decode cX6_copyFrom 5 = .ok (.putfield 28, 3) := by decide +kernel
theorem dX6_copyFrom_8 : decode cX6_copyFrom 8 = .ok (.iconst 0, 1) := by decide +kernel
theorem dX6_copyFrom_9 : decode cX6_copyFrom 9 = .ok (.istore_n 2, 1) := by decide +kernel
theorem dX6_copyFrom_10 : decode cX6_copyFrom 10 = .ok (.iload_n 2, 1) := by decide +kernel
theorem dX6_copyFrom_11 : decode cX6_copyFrom 11 = .ok (.bipush 8, 2) := by decide +kernel
theorem dX6_copyFrom_13 : decode cX6_copyFrom 13 = .ok (.if_icmp .ge 37, 3) := by decide +kernel
theorem dX6_copyFrom_16 : decode cX6_copyFrom 16 = .ok (.aload_n 0, 1) := by decide +kernel
theorem dX6_copyFrom_17 : decode cX6_copyFrom 17 = .ok (.getfield 9, 3) := by decide +kernel
theorem dX6_copyFrom_20 : decode cX6_copyFrom 20 = .ok (.iload_n 2, 1) := by decide +kernel
theorem dX6_copyFrom_21 : decode cX6_copyFrom 21 = .ok (.aload_n 1, 1) := by decide +kernel
theorem dX6_copyFrom_22 : decode cX6_copyFrom 22 = .ok (.getfield 9, 3) := by decide +kernel
theorem dX6_copyFrom_25 : decode cX6_copyFrom 25 = .ok (.iload_n 2, 1) := by decide +kernel
theorem dX6_copyFrom_26 : decode cX6_copyFrom 26 = .ok (.invokestatic 31, 3) := by decide +kernel
theorem dX6_copyFrom_29 : decode cX6_copyFrom 29 = .ok (.iastore, 1) := by decide +kernel
theorem dX6_copyFrom_30 : decode cX6_copyFrom 30 = .ok (.aload_n 0, 1) := by decide +kernel
theorem dX6_copyFrom_31 : decode cX6_copyFrom 31 = .ok (.getfield 15, 3) := by decide +kernel
theorem dX6_copyFrom_34 : decode cX6_copyFrom 34 = .ok (.iload_n 2, 1) := by decide +kernel
theorem dX6_copyFrom_35 : decode cX6_copyFrom 35 = .ok (.aload_n 1, 1) := by decide +kernel
theorem dX6_copyFrom_36 : decode cX6_copyFrom 36 = .ok (.getfield 15, 3) := by decide +kernel
theorem dX6_copyFrom_39 : decode cX6_copyFrom 39 = .ok (.iload_n 2, 1) := by decide +kernel
theorem dX6_copyFrom_40 : decode cX6_copyFrom 40 = .ok (.invokestatic 31, 3) := by decide +kernel
theorem dX6_copyFrom_43 : decode cX6_copyFrom 43 = .ok (.iastore, 1) := by decide +kernel
theorem dX6_copyFrom_44 : decode cX6_copyFrom 44 = .ok (.iinc 2 1, 3) := by decide +kernel
theorem dX6_copyFrom_47 : decode cX6_copyFrom 47 = .ok (.goto (-37), 3) := by decide +kernel
theorem dX6_copyFrom_50 : decode cX6_copyFrom 50 = .ok (.return_, 1) := by decide +kernel
def f_X6_copyFrom_L10 (X : x_X) : Nat → Nat → Nat → Int32 → x_M → Option (Unit × x_M)
  | 0, _, _, _, _ => none
  | n + 1, v4, v5, v6, μ7 =>
    (if (8 : Int32) ≤ v6 then (some ((), μ7)) else (ck (x_kd X v4 = 6 + 1) (lt (μ7.2.1 v4 0) (fun (v8 : Nat) => (ck (x_kd X v5 = 6 + 1) (lt (μ7.2.1 v5 0) (fun (v9 : Nat) => (bd (f_X9_at X v9 v6 μ7) (fun (v10 : Int32) (μ11 : x_M) => (ck (x_kd X v8 = 20 ∧ x_ix v6 (x_ln X v8)) (lt (x_sI μ11 v8 (v6).toNatClampNeg v10) (fun (μ12 : x_M) => (ck (x_kd X v4 = 6 + 1) (lt (μ12.2.1 v4 1) (fun (v13 : Nat) => (ck (x_kd X v5 = 6 + 1) (lt (μ12.2.1 v5 1) (fun (v14 : Nat) => (bd (f_X9_at X v14 v6 μ12) (fun (v15 : Int32) (μ16 : x_M) => (ck (x_kd X v13 = 20 ∧ x_ix v6 (x_ln X v13)) (lt (x_sI μ16 v13 (v6).toNatClampNeg v15) (fun (μ17 : x_M) => (f_X6_copyFrom_L10 X n v4 v5 (v6 + (1 : Int32)) μ17))))))))))))))))))))))))
set_option maxRecDepth 100000 in
theorem j_X6_copyFrom_L10 (hI : x_I X) (hC : x_C X x_Z0 p (x_rm 2) s m c cX6_copyFrom RX6 3 0 0 2) (hr : meth.sig.returnType = none) (hlk : meth.locks = false) : ∀ (n : Nat) (v4 : Nat) (v5 : Nat) (v6 : Int32) (μ7 : x_M), SM X 3 2 rkV p l e s m args below meth c 10 [(0, vR v4), (1, vR v5), (2, vI v6)] [] μ7 (f_X6_copyFrom_L10 X n v4 v5 v6 μ7) := by
  intro n
  induction n with
  | zero => intro v4 v5 v6 μ7; exact s_none
  | succ n ih =>
    intro v4 v5 v6 μ7
    unfold f_X6_copyFrom_L10
    refine s_iload_n hC 2 dX6_copyFrom_10 rfl ?_
    refine s_bipush hC dX6_copyFrom_11 (v := 8) (by decide) ?_
    refine s_icmp_ge hC dX6_copyFrom_13 (tgt := 50) (by decide) ?_ ?_
    · exact s_vret hC hr hlk dX6_copyFrom_50
    refine s_aload_n hC 0 dX6_copyFrom_16 rfl ?_
    refine s_getR hC xc6 (by decide) rfl qf_X6_9 dX6_copyFrom_17 ?_
    refine s_ltR (fun v8 => ?_)
    refine s_iload_n hC 2 dX6_copyFrom_20 rfl ?_
    refine s_aload_n hC 1 dX6_copyFrom_21 rfl ?_
    refine s_getR hC xc6 (by decide) rfl qf_X6_9 dX6_copyFrom_22 ?_
    refine s_ltR (fun v9 => ?_)
    refine s_iload_n hC 2 dX6_copyFrom_25 rfl ?_
    refine s_callS hC (avs := [vR v9, vI v6]) (st := [vI v6, vR v8]) (nest := true) (m_X9_at hI v9 v6 μ7) dX6_copyFrom_26 qm_X6_31 qt_X9_at qc_X9 qd_X9_at qh_X9_at (by decide) (fun _ => Nat.le_of_ble_eq_true rfl) (Nat.le_of_ble_eq_true rfl) (fun v10 μ11 => ?_)
    refine s_iast hC dX6_copyFrom_29 ?_
    refine s_ltM (fun μ12 => ?_)
    refine s_aload_n hC 0 dX6_copyFrom_30 rfl ?_
    refine s_getR hC xc6 (by decide) rfl qf_X6_15 dX6_copyFrom_31 ?_
    refine s_ltR (fun v13 => ?_)
    refine s_iload_n hC 2 dX6_copyFrom_34 rfl ?_
    refine s_aload_n hC 1 dX6_copyFrom_35 rfl ?_
    refine s_getR hC xc6 (by decide) rfl qf_X6_15 dX6_copyFrom_36 ?_
    refine s_ltR (fun v14 => ?_)
    refine s_iload_n hC 2 dX6_copyFrom_39 rfl ?_
    refine s_callS hC (avs := [vR v14, vI v6]) (st := [vI v6, vR v13]) (nest := true) (m_X9_at hI v14 v6 μ12) dX6_copyFrom_40 qm_X6_31 qt_X9_at qc_X9 qd_X9_at qh_X9_at (by decide) (fun _ => Nat.le_of_ble_eq_true rfl) (Nat.le_of_ble_eq_true rfl) (fun v15 μ16 => ?_)
    refine s_iast hC dX6_copyFrom_43 ?_
    refine s_ltM (fun μ17 => ?_)
    refine s_iinc hC 2 dX6_copyFrom_44 rfl (w := 1) (by decide) (by decide) (lv' := [(2, vI (v6 + (1 : Int32))), (0, vR v4), (1, vR v5)]) rfl ?_
    refine s_goto hC dX6_copyFrom_47 (tgt := 10) (by decide) ?_
    refine s_lv (lv' := [(0, vR v4), (1, vR v5), (2, vI (v6 + (1 : Int32)))]) [1, 2, 0] rfl ?_
    exact ih _ _ _ _
def f_X6_copyFrom (X : x_X) (v0 : Nat) (v1 : Nat) (μ : x_M) : Option (Unit × x_M) :=
  (ck (x_kd X v1 = 6 + 1) (ck (x_kd X v0 = 6 + 1) (lt (x_sI μ v0 3 (μ.1 v1 3)) (fun (μ3 : x_M) => (f_X6_copyFrom_L10 X 4096 v0 v1 (0 : Int32) μ3)))))
set_option maxRecDepth 100000 in
theorem m_X6_copyFrom (hI : x_I X) (v0 : Nat) (v1 : Nat) (μ : x_M) : x_Met X x_Z0 l yX6_copyFrom cX6_copyFrom 3 none 2 [vR v0, vR v1] μ rkV (f_X6_copyFrom X v0 v1 μ) := by
  refine x_enter hI (by decide +kernel) (Nat.le_of_ble_eq_true rfl) (fun p e s m args below meth c hC hr hlk => ?_)
  unfold f_X6_copyFrom
  refine s_lv (lv' := [(0, vR v0), (1, vR v1)]) [0, 1] rfl ?_
  refine s_aload_n hC 0 dX6_copyFrom_0 rfl ?_
  refine s_aload_n hC 1 dX6_copyFrom_1 rfl ?_
  refine s_getI hC xc6 (by decide) rfl qf_X6_28 dX6_copyFrom_2 ?_
  refine s_putI hC xc6 (by decide) rfl rfl qf_X6_28 dX6_copyFrom_5 ?_
  refine s_ltM (fun μ3 => ?_)
  refine s_iconst hC dX6_copyFrom_8 (v := 0) (by decide) ?_
  refine s_istore_n hC dX6_copyFrom_9 (by decide) (lv' := [(2, vI (0 : Int32)), (0, vR v0), (1, vR v1)]) rfl ?_
  refine s_lv (lv' := [(0, vR v0), (1, vR v1), (2, vI (0 : Int32))]) [1, 2, 0] rfl ?_
  refine j_X6_copyFrom_L10 hI hC hr hlk 4096 _ _ _ _
theorem dX6_first_0 : decode cX6_first 0 = .ok (.aload_n 0, 1) := by decide +kernel
theorem dX6_first_1 : decode cX6_first 1 = .ok (.getfield 9, 3) := by decide +kernel
theorem dX6_first_4 : decode cX6_first 4 = .ok (.iload_n 1, 1) := by decide +kernel
theorem dX6_first_5 : decode cX6_first 5 = .ok (.invokestatic 31, 3) := by decide +kernel
theorem dX6_first_8 : decode cX6_first 8 = .ok (.ireturn, 1) := by decide +kernel
def f_X6_first (X : x_X) (v0 : Nat) (v1 : Int32) (μ : x_M) : Option (Int32 × x_M) :=
  (ck (x_kd X v0 = 6 + 1) (lt (μ.2.1 v0 0) (fun (v3 : Nat) => (bd (f_X9_at X v3 v1 μ) (fun (v4 : Int32) (μ5 : x_M) => (some (v4, μ5)))))))
set_option maxRecDepth 100000 in
theorem m_X6_first (hI : x_I X) (v0 : Nat) (v1 : Int32) (μ : x_M) : x_Met X x_Z0 l yX6_first cX6_first 2 (some .int) 2 [vR v0, vI v1] μ rkI (f_X6_first X v0 v1 μ) := by
  refine x_enter hI (by decide +kernel) (Nat.le_of_ble_eq_true rfl) (fun p e s m args below meth c hC hr hlk => ?_)
  unfold f_X6_first
  refine s_lv (lv' := [(0, vR v0), (1, vI v1)]) [0, 1] rfl ?_
  refine s_aload_n hC 0 dX6_first_0 rfl ?_
  refine s_getR hC xc6 (by decide) rfl qf_X6_9 dX6_first_1 ?_
  refine s_ltR (fun v3 => ?_)
  refine s_iload_n hC 1 dX6_first_4 rfl ?_
  refine s_callS hC (avs := [vR v3, vI v1]) (st := []) (nest := true) (m_X9_at hI v3 v1 μ) dX6_first_5 qm_X6_31 qt_X9_at qc_X9 qd_X9_at qh_X9_at (by decide) (fun _ => Nat.le_of_ble_eq_true rfl) (Nat.le_of_ble_eq_true rfl) (fun v4 μ5 => ?_)
  exact s_iret hC hr hlk dX6_first_8
theorem dX6_second_0 : decode cX6_second 0 = .ok (.aload_n 0, 1) := by decide +kernel
theorem dX6_second_1 : decode cX6_second 1 = .ok (.getfield 15, 3) := by decide +kernel
theorem dX6_second_4 : decode cX6_second 4 = .ok (.iload_n 1, 1) := by decide +kernel
theorem dX6_second_5 : decode cX6_second 5 = .ok (.invokestatic 31, 3) := by decide +kernel
theorem dX6_second_8 : decode cX6_second 8 = .ok (.ireturn, 1) := by decide +kernel
def f_X6_second (X : x_X) (v0 : Nat) (v1 : Int32) (μ : x_M) : Option (Int32 × x_M) :=
  (ck (x_kd X v0 = 6 + 1) (lt (μ.2.1 v0 1) (fun (v3 : Nat) => (bd (f_X9_at X v3 v1 μ) (fun (v4 : Int32) (μ5 : x_M) => (some (v4, μ5)))))))
set_option maxRecDepth 100000 in
theorem m_X6_second (hI : x_I X) (v0 : Nat) (v1 : Int32) (μ : x_M) : x_Met X x_Z0 l yX6_second cX6_second 2 (some .int) 2 [vR v0, vI v1] μ rkI (f_X6_second X v0 v1 μ) := by
  refine x_enter hI (by decide +kernel) (Nat.le_of_ble_eq_true rfl) (fun p e s m args below meth c hC hr hlk => ?_)
  unfold f_X6_second
  refine s_lv (lv' := [(0, vR v0), (1, vI v1)]) [0, 1] rfl ?_
  refine s_aload_n hC 0 dX6_second_0 rfl ?_
  refine s_getR hC xc6 (by decide) rfl qf_X6_15 dX6_second_1 ?_
  refine s_ltR (fun v3 => ?_)
  refine s_iload_n hC 1 dX6_second_4 rfl ?_
  refine s_callS hC (avs := [vR v3, vI v1]) (st := []) (nest := true) (m_X9_at hI v3 v1 μ) dX6_second_5 qm_X6_31 qt_X9_at qc_X9 qd_X9_at qh_X9_at (by decide) (fun _ => Nat.le_of_ble_eq_true rfl) (Nat.le_of_ble_eq_true rfl) (fun v4 μ5 => ?_)
  exact s_iret hC hr hlk dX6_second_8
theorem dX6_add_0 : decode cX6_add 0 = .ok (.aload_n 0, 1) := by decide +kernel
theorem dX6_add_1 : decode cX6_add 1 = .ok (.getfield 28, 3) := by decide +kernel
theorem dX6_add_4 : decode cX6_add 4 = .ok (.iconst 0, 1) := by decide +kernel
theorem dX6_add_5 : decode cX6_add 5 = .ok (.aload_n 0, 1) := by decide +kernel
theorem dX6_add_6 : decode cX6_add 6 = .ok (.getfield 24, 3) := by decide +kernel
theorem dX6_add_9 : decode cX6_add 9 = .ok (.iconst 1, 1) := by decide +kernel
theorem dX6_add_10 : decode cX6_add 10 = .ok (.isub, 1) := by decide +kernel
theorem dX6_add_11 : decode cX6_add 11 = .ok (.invokestatic 35, 3) := by decide +kernel
theorem dX6_add_14 : decode cX6_add 14 = .ok (.ifCond .ne 6, 3) := by decide +kernel
theorem dX6_add_17 : decode cX6_add 17 = .ok (.bipush (-4), 2) := by decide +kernel
theorem dX6_add_19 : decode cX6_add 19 = .ok (.ireturn, 1) := by decide +kernel
theorem dX6_add_20 : decode cX6_add 20 = .ok (.aload_n 0, 1) := by decide +kernel
theorem dX6_add_21 : decode cX6_add 21 = .ok (.getfield 9, 3) := by decide +kernel
theorem dX6_add_24 : decode cX6_add 24 = .ok (.aload_n 0, 1) := by decide +kernel
theorem dX6_add_25 : decode cX6_add 25 = .ok (.getfield 28, 3) := by decide +kernel
theorem dX6_add_28 : decode cX6_add 28 = .ok (.iload_n 1, 1) := by decide +kernel
theorem dX6_add_29 : decode cX6_add 29 = .ok (.iastore, 1) := by decide +kernel
theorem dX6_add_30 : decode cX6_add 30 = .ok (.aload_n 0, 1) := by decide +kernel
theorem dX6_add_31 : decode cX6_add 31 = .ok (.getfield 15, 3) := by decide +kernel
theorem dX6_add_34 : decode cX6_add 34 = .ok (.aload_n 0, 1) := by decide +kernel
theorem dX6_add_35 : decode cX6_add 35 = .ok (.getfield 28, 3) := by decide +kernel
theorem dX6_add_38 : decode cX6_add 38 = .ok (.iload_n 2, 1) := by decide +kernel
theorem dX6_add_39 : decode cX6_add 39 = .ok (.iastore, 1) := by decide +kernel
theorem dX6_add_40 : decode cX6_add 40 = .ok (.aload_n 0, 1) := by decide +kernel
theorem dX6_add_41 : decode cX6_add 41 = .ok (.dup, 1) := by decide +kernel
theorem dX6_add_42 : decode cX6_add 42 = .ok (.getfield 28, 3) := by decide +kernel
theorem dX6_add_45 : decode cX6_add 45 = .ok (.iconst 1, 1) := by decide +kernel
theorem dX6_add_46 : decode cX6_add 46 = .ok (.iadd, 1) := by decide +kernel
theorem dX6_add_47 : decode cX6_add 47 = .ok (.putfield 28, 3) := by decide +kernel
theorem dX6_add_50 : decode cX6_add 50 = .ok (.aload_n 0, 1) := by decide +kernel
theorem dX6_add_51 : decode cX6_add 51 = .ok (.getfield 28, 3) := by decide +kernel
theorem dX6_add_54 : decode cX6_add 54 = .ok (.ireturn, 1) := by decide +kernel
def f_X6_add (X : x_X) (v0 : Nat) (v1 : Int32) (v2 : Int32) (μ : x_M) : Option (Int32 × x_M) :=
  (ck (x_kd X v0 = 6 + 1) (ck (x_kd X v0 = 6 + 1) (bd (f_X9_within X (μ.1 v0 3) (0 : Int32) ((μ.1 v0 2) - (1 : Int32)) μ) (fun (v4 : Int32) (μ5 : x_M) => (if v4 = 0 then (some ((-4 : Int32), μ5)) else (ck (x_kd X v0 = 6 + 1) (lt (μ5.2.1 v0 0) (fun (v6 : Nat) => (ck (x_kd X v0 = 6 + 1) (lt (μ5.1 v0 3) (fun (v7 : Int32) => (ck (x_kd X v6 = 20 ∧ x_ix v7 (x_ln X v6)) (lt (x_sI μ5 v6 (v7).toNatClampNeg v1) (fun (μ8 : x_M) => (ck (x_kd X v0 = 6 + 1) (lt (μ8.2.1 v0 1) (fun (v9 : Nat) => (ck (x_kd X v0 = 6 + 1) (lt (μ8.1 v0 3) (fun (v10 : Int32) => (ck (x_kd X v9 = 20 ∧ x_ix v10 (x_ln X v9)) (lt (x_sI μ8 v9 (v10).toNatClampNeg v2) (fun (μ11 : x_M) => (ck (x_kd X v0 = 6 + 1) (ck (x_kd X v0 = 6 + 1) (lt (x_sI μ11 v0 3 ((μ11.1 v0 3) + (1 : Int32))) (fun (μ12 : x_M) => (ck (x_kd X v0 = 6 + 1) (some ((μ12.1 v0 3), μ12))))))))))))))))))))))))))))))
set_option maxRecDepth 100000 in
theorem m_X6_add (hI : x_I X) (v0 : Nat) (v1 : Int32) (v2 : Int32) (μ : x_M) : x_Met X x_Z0 l yX6_add cX6_add 3 (some .int) 2 [vR v0, vI v1, vI v2] μ rkI (f_X6_add X v0 v1 v2 μ) := by
  refine x_enter hI (by decide +kernel) (Nat.le_of_ble_eq_true rfl) (fun p e s m args below meth c hC hr hlk => ?_)
  unfold f_X6_add
  refine s_lv (lv' := [(0, vR v0), (1, vI v1), (2, vI v2)]) [0, 1, 2] rfl ?_
  refine s_aload_n hC 0 dX6_add_0 rfl ?_
  refine s_getI hC xc6 (by decide) rfl qf_X6_28 dX6_add_1 ?_
  refine s_iconst hC dX6_add_4 (v := 0) (by decide) ?_
  refine s_aload_n hC 0 dX6_add_5 rfl ?_
  refine s_getI hC xc6 (by decide) rfl qf_X6_24 dX6_add_6 ?_
  refine s_iconst hC dX6_add_9 (v := 1) (by decide) ?_
  refine s_isub hC dX6_add_10 ?_
  refine s_callS hC (avs := [vI (μ.1 v0 3), vI (0 : Int32), vI ((μ.1 v0 2) - (1 : Int32))]) (st := []) (nest := true) (m_X9_within hI (μ.1 v0 3) (0 : Int32) ((μ.1 v0 2) - (1 : Int32)) μ) dX6_add_11 qm_X6_35 qt_X9_within qc_X9 qd_X9_within qh_X9_within (by decide) (fun _ => Nat.le_of_ble_eq_true rfl) (Nat.le_of_ble_eq_true rfl) (fun v4 μ5 => ?_)
  refine s_if_ne hC dX6_add_14 (tgt := 20) (by decide) ?_ ?_
  · refine s_aload_n hC 0 dX6_add_20 rfl ?_
    refine s_getR hC xc6 (by decide) rfl qf_X6_9 dX6_add_21 ?_
    refine s_ltR (fun v6 => ?_)
    refine s_aload_n hC 0 dX6_add_24 rfl ?_
    refine s_getI hC xc6 (by decide) rfl qf_X6_28 dX6_add_25 ?_
    refine s_iload_n hC 1 dX6_add_28 rfl ?_
    refine s_ltI2 (fun v7 => ?_)
    refine s_iast hC dX6_add_29 ?_
    refine s_ltM (fun μ8 => ?_)
    refine s_aload_n hC 0 dX6_add_30 rfl ?_
    refine s_getR hC xc6 (by decide) rfl qf_X6_15 dX6_add_31 ?_
    refine s_ltR (fun v9 => ?_)
    refine s_aload_n hC 0 dX6_add_34 rfl ?_
    refine s_getI hC xc6 (by decide) rfl qf_X6_28 dX6_add_35 ?_
    refine s_iload_n hC 2 dX6_add_38 rfl ?_
    refine s_ltI2 (fun v10 => ?_)
    refine s_iast hC dX6_add_39 ?_
    refine s_ltM (fun μ11 => ?_)
    refine s_aload_n hC 0 dX6_add_40 rfl ?_
    refine s_dupR hC dX6_add_41 ?_
    refine s_getI hC xc6 (by decide) rfl qf_X6_28 dX6_add_42 ?_
    refine s_iconst hC dX6_add_45 (v := 1) (by decide) ?_
    refine s_iadd hC dX6_add_46 ?_
    refine s_putI hC xc6 (by decide) rfl rfl qf_X6_28 dX6_add_47 ?_
    refine s_ltM (fun μ12 => ?_)
    refine s_aload_n hC 0 dX6_add_50 rfl ?_
    refine s_getI hC xc6 (by decide) rfl qf_X6_28 dX6_add_51 ?_
    exact s_iret hC hr hlk dX6_add_54
  refine s_bipush hC dX6_add_17 (v := -4) (by decide) ?_
  exact s_iret hC hr hlk dX6_add_19
theorem dX8_isEmpty_0 : decode cX8_isEmpty 0 = .ok (.aload_n 0, 1) := by decide +kernel
theorem dX8_isEmpty_1 : decode cX8_isEmpty 1 = .ok (.getfield 15, 3) := by decide +kernel
theorem dX8_isEmpty_4 : decode cX8_isEmpty 4 = .ok (.iconst (-1), 1) := by decide +kernel
theorem dX8_isEmpty_5 : decode cX8_isEmpty 5 = .ok (.if_icmp .ne 7, 3) := by decide +kernel
theorem dX8_isEmpty_8 : decode cX8_isEmpty 8 = .ok (.iconst 1, 1) := by decide +kernel
theorem dX8_isEmpty_9 : decode cX8_isEmpty 9 = .ok (.goto 4, 3) := by decide +kernel
theorem dX8_isEmpty_12 : decode cX8_isEmpty 12 = .ok (.iconst 0, 1) := by decide +kernel
theorem dX8_isEmpty_13 : decode cX8_isEmpty 13 = .ok (.ireturn, 1) := by decide +kernel
def f_X8_isEmpty (X : x_X) (v0 : Nat) (μ : x_M) : Option (Int32 × x_M) :=
  (ck (x_kd X v0 = 8 + 1) (if (μ.1 v0 1) = (-1 : Int32) then (ck ((1 : Int32) = 0 ∨ (1 : Int32) = 1) (some ((1 : Int32), μ))) else (ck ((0 : Int32) = 0 ∨ (0 : Int32) = 1) (some ((0 : Int32), μ)))))
set_option maxRecDepth 100000 in
theorem m_X8_isEmpty (hI : x_I X) (v0 : Nat) (μ : x_M) : x_Met X x_Z0 l yX8_isEmpty cX8_isEmpty 1 (some .boolean) 1 [vR v0] μ rkI (f_X8_isEmpty X v0 μ) := by
  refine x_enter hI (by decide +kernel) (Nat.le_of_ble_eq_true rfl) (fun p e s m args below meth c hC hr hlk => ?_)
  unfold f_X8_isEmpty
  refine s_lv (lv' := [(0, vR v0)]) [0] rfl ?_
  refine s_aload_n hC 0 dX8_isEmpty_0 rfl ?_
  refine s_getI hC xc8 (by decide) rfl qf_X8_15 dX8_isEmpty_1 ?_
  refine s_iconst hC dX8_isEmpty_4 (v := -1) (by decide) ?_
  refine s_icmp_ne hC dX8_isEmpty_5 (tgt := 12) (by decide) ?_ ?_
  · refine s_iconst hC dX8_isEmpty_12 (v := 0) (by decide) ?_
    exact s_zret hC hr hlk dX8_isEmpty_13
  refine s_iconst hC dX8_isEmpty_8 (v := 1) (by decide) ?_
  refine s_goto hC dX8_isEmpty_9 (tgt := 13) (by decide) ?_
  exact s_zret hC hr hlk dX8_isEmpty_13
theorem dX8_become_0 : decode cX8_become 0 = .ok (.aload_n 0, 1) := by decide +kernel
theorem dX8_become_1 : decode cX8_become 1 = .ok (.iload_n 1, 1) := by decide +kernel
theorem dX8_become_2 : decode cX8_become 2 = .ok (.putfield 15, 3) := by decide +kernel
theorem dX8_become_5 : decode cX8_become 5 = .ok (.aload_n 0, 1) := by decide +kernel
theorem dX8_become_6 : decode cX8_become 6 = .ok (.iconst 0, 1) := by decide +kernel
theorem dX8_become_7 : decode cX8_become 7 = .ok (.iload_n 2, 1) := by decide +kernel
theorem dX8_become_8 : decode cX8_become 8 = .ok (.bipush 60, 2) := by decide +kernel
theorem dX8_become_10 : decode cX8_become 10 = .ok (.invokestatic 19, 3) := by decide +kernel
theorem dX8_become_13 : decode cX8_become 13 = .ok (.invokestatic 25, 3) := by decide +kernel
theorem dX8_become_16 : decode cX8_become 16 = .ok (.putfield 28, 3) := by decide +kernel
theorem dX8_become_19 : decode cX8_become 19 = .ok (.iconst 0, 1) := by decide +kernel
theorem dX8_become_20 : decode cX8_become 20 = .ok (.istore_n 3, 1) := by decide +kernel
theorem dX8_become_21 : decode cX8_become 21 = .ok (.iload_n 3, 1) := by decide +kernel
theorem dX8_become_22 : decode cX8_become 22 = .ok (.bipush 60, 2) := by decide +kernel
theorem dX8_become_24 : decode cX8_become 24 = .ok (.if_icmp .ge 16, 3) := by decide +kernel
theorem dX8_become_27 : decode cX8_become 27 = .ok (.aload_n 0, 1) := by decide +kernel
theorem dX8_become_28 : decode cX8_become 28 = .ok (.getfield 9, 3) := by decide +kernel
theorem dX8_become_31 : decode cX8_become 31 = .ok (.iload_n 3, 1) := by decide +kernel
theorem dX8_become_32 : decode cX8_become 32 = .ok (.lconst 0, 1) := by decide +kernel
theorem dX8_become_33 : decode cX8_become 33 = .ok (.lastore, 1) := by decide +kernel
theorem dX8_become_34 : decode cX8_become 34 = .ok (.iinc 3 1, 3) := by decide +kernel
theorem dX8_become_37 : decode cX8_become 37 = .ok (.goto (-16), 3) := by decide +kernel
theorem dX8_become_40 : decode cX8_become 40 = .ok (.iconst 1, 1) := by decide +kernel
theorem dX8_become_41 : decode cX8_become 41 = .ok (.ireturn, 1) := by decide +kernel
def f_X8_become_L21 (X : x_X) : Nat → Nat → Int32 → x_M → Option (Int32 × x_M)
  | 0, _, _, _ => none
  | n + 1, v7, v8, μ9 =>
    (if (60 : Int32) ≤ v8 then (some ((1 : Int32), μ9)) else (ck (x_kd X v7 = 8 + 1) (lt (μ9.2.1 v7 0) (fun (v10 : Nat) => (ck (x_kd X v10 = 21 ∧ x_ix v8 (x_ln X v10)) (lt (x_sJ μ9 v10 (v8).toNatClampNeg (0 : Int64)) (fun (μ11 : x_M) => (f_X8_become_L21 X n v7 (v8 + (1 : Int32)) μ11))))))))
set_option maxRecDepth 100000 in
theorem j_X8_become_L21 (hI : x_I X) (hC : x_C X x_Z0 p (x_rm 1) s m c cX8_become RX8 4 0 0 1) (hr : meth.sig.returnType = (some .int)) (hlk : meth.locks = false) : ∀ (n : Nat) (v7 : Nat) (v8 : Int32) (μ9 : x_M), SM X 4 1 rkI p l e s m args below meth c 21 [(0, vR v7), (3, vI v8)] [] μ9 (f_X8_become_L21 X n v7 v8 μ9) := by
  intro n
  induction n with
  | zero => intro v7 v8 μ9; exact s_none
  | succ n ih =>
    intro v7 v8 μ9
    unfold f_X8_become_L21
    refine s_iload_n hC 1 dX8_become_21 rfl ?_
    refine s_bipush hC dX8_become_22 (v := 60) (by decide) ?_
    refine s_icmp_ge hC dX8_become_24 (tgt := 40) (by decide) ?_ ?_
    · refine s_iconst hC dX8_become_40 (v := 1) (by decide) ?_
      exact s_iret hC hr hlk dX8_become_41
    refine s_aload_n hC 0 dX8_become_27 rfl ?_
    refine s_getR hC xc8 (by decide) rfl qf_X8_9 dX8_become_28 ?_
    refine s_ltR (fun v10 => ?_)
    refine s_iload_n hC 1 dX8_become_31 rfl ?_
    refine s_lconst hC dX8_become_32 (v := 0) (by decide) ?_
    refine s_last hC dX8_become_33 ?_
    refine s_ltM (fun μ11 => ?_)
    refine s_iinc hC 1 dX8_become_34 rfl (w := 1) (by decide) (by decide) (lv' := [(3, vI (v8 + (1 : Int32))), (0, vR v7)]) rfl ?_
    refine s_goto hC dX8_become_37 (tgt := 21) (by decide) ?_
    refine s_lv (lv' := [(0, vR v7), (3, vI (v8 + (1 : Int32)))]) [1, 0] rfl ?_
    exact ih _ _ _
def f_X8_become (X : x_X) (v0 : Nat) (v1 : Int32) (v2 : Int32) (μ : x_M) : Option (Int32 × x_M) :=
  (ck (x_kd X v0 = 8 + 1) (lt (x_sI μ v0 1 v1) (fun (μ4 : x_M) => (lt (if (60 : Int32) < v2 then (60 : Int32) else v2) (fun (v5 : Int32) => (ck (x_kd X v0 = 8 + 1) (lt (x_sI μ4 v0 2 (if (0 : Int32) < v5 then v5 else (0 : Int32))) (fun (μ6 : x_M) => (f_X8_become_L21 X 4096 v0 (0 : Int32) μ6)))))))))
set_option maxRecDepth 100000 in
theorem m_X8_become (hI : x_I X) (v0 : Nat) (v1 : Int32) (v2 : Int32) (μ : x_M) : x_Met X x_Z0 l yX8_become cX8_become 4 (some .int) 1 [vR v0, vI v1, vI v2] μ rkI (f_X8_become X v0 v1 v2 μ) := by
  refine x_enter hI (by decide +kernel) (Nat.le_of_ble_eq_true rfl) (fun p e s m args below meth c hC hr hlk => ?_)
  unfold f_X8_become
  refine s_lv (lv' := [(0, vR v0), (1, vI v1), (2, vI v2)]) [0, 1, 2] rfl ?_
  refine s_aload_n hC 0 dX8_become_0 rfl ?_
  refine s_iload_n hC 1 dX8_become_1 rfl ?_
  refine s_putI hC xc8 (by decide) rfl rfl qf_X8_15 dX8_become_2 ?_
  refine s_ltM (fun μ4 => ?_)
  refine s_aload_n hC 0 dX8_become_5 rfl ?_
  refine s_iconst hC dX8_become_6 (v := 0) (by decide) ?_
  refine s_iload_n hC 2 dX8_become_7 rfl ?_
  refine s_bipush hC dX8_become_8 (v := 60) (by decide) ?_
  refine s_min hC dX8_become_10 qm_X8_19 qt_Math_min qc_Math qd_Math_min (by decide) (Nat.le_of_ble_eq_true rfl) ?_
  refine s_ltI (fun v5 => ?_)
  refine s_max hC dX8_become_13 qm_X8_25 qt_Math_max qc_Math qd_Math_max (by decide) (Nat.le_of_ble_eq_true rfl) ?_
  refine s_putI hC xc8 (by decide) rfl rfl qf_X8_28 dX8_become_16 ?_
  refine s_ltM (fun μ6 => ?_)
  refine s_iconst hC dX8_become_19 (v := 0) (by decide) ?_
  refine s_istore_n hC dX8_become_20 (by decide) (lv' := [(3, vI (0 : Int32)), (0, vR v0), (1, vI v1), (2, vI v2)]) rfl ?_
  refine s_lv (lv' := [(0, vR v0), (3, vI (0 : Int32))]) [1, 0] rfl ?_
  refine j_X8_become_L21 hI hC hr hlk 4096 _ _ _
theorem dX8_cut_0 : decode cX8_cut 0 = .ok (.aload_n 0, 1) := by decide +kernel
theorem dX8_cut_1 : decode cX8_cut 1 = .ok (.getfield 15, 3) := by decide +kernel
theorem dX8_cut_4 : decode cX8_cut 4 = .ok (.tableswitch 48 0 3 #[32, 37, 42, 46], 32) := by decide +kernel
theorem dX8_cut_36 : decode cX8_cut 36 = .ok (.lload_n 1, 1) := by decide +kernel
theorem dX8_cut_37 : decode cX8_cut 37 = .ok (.l2i, 1) := by decide +kernel
theorem dX8_cut_38 : decode cX8_cut 38 = .ok (.i2b, 1) := by decide +kernel
theorem dX8_cut_39 : decode cX8_cut 39 = .ok (.i2l, 1) := by decide +kernel
theorem dX8_cut_40 : decode cX8_cut 40 = .ok (.lreturn, 1) := by decide +kernel
theorem dX8_cut_41 : decode cX8_cut 41 = .ok (.lload_n 1, 1) := by decide +kernel
theorem dX8_cut_42 : decode cX8_cut 42 = .ok (.l2i, 1) := by decide +kernel
theorem dX8_cut_43 : decode cX8_cut 43 = .ok (.i2s, 1) := by decide +kernel
theorem dX8_cut_44 : decode cX8_cut 44 = .ok (.i2l, 1) := by decide +kernel
theorem dX8_cut_45 : decode cX8_cut 45 = .ok (.lreturn, 1) := by decide +kernel
theorem dX8_cut_46 : decode cX8_cut 46 = .ok (.lload_n 1, 1) := by decide +kernel
theorem dX8_cut_47 : decode cX8_cut 47 = .ok (.l2i, 1) := by decide +kernel
theorem dX8_cut_48 : decode cX8_cut 48 = .ok (.i2l, 1) := by decide +kernel
theorem dX8_cut_49 : decode cX8_cut 49 = .ok (.lreturn, 1) := by decide +kernel
theorem dX8_cut_50 : decode cX8_cut 50 = .ok (.lload_n 1, 1) := by decide +kernel
theorem dX8_cut_51 : decode cX8_cut 51 = .ok (.lreturn, 1) := by decide +kernel
theorem dX8_cut_52 : decode cX8_cut 52 = .ok (.lload_n 1, 1) := by decide +kernel
theorem dX8_cut_53 : decode cX8_cut 53 = .ok (.lconst 0, 1) := by decide +kernel
theorem dX8_cut_54 : decode cX8_cut 54 = .ok (.lcmp, 1) := by decide +kernel
theorem dX8_cut_55 : decode cX8_cut 55 = .ok (.ifCond .eq 7, 3) := by decide +kernel
theorem dX8_cut_58 : decode cX8_cut 58 = .ok (.lconst 1, 1) := by decide +kernel
theorem dX8_cut_59 : decode cX8_cut 59 = .ok (.goto 4, 3) := by decide +kernel
theorem dX8_cut_62 : decode cX8_cut 62 = .ok (.lconst 0, 1) := by decide +kernel
theorem dX8_cut_63 : decode cX8_cut 63 = .ok (.lreturn, 1) := by decide +kernel
def f_X8_cut (X : x_X) (v0 : Nat) (v1 : Int64) (μ : x_M) : Option (Int64 × x_M) :=
  (ck (x_kd X v0 = 8 + 1) (lt (μ.1 v0 1) (fun (v3 : Int32) => (x_swo [(0 : Int32), (1 : Int32), (2 : Int32), (3 : Int32)] [(some (((((((v1).toInt32)).toInt8.toInt32)).toInt64), μ)), (some (((((((v1).toInt32)).toInt16.toInt32)).toInt64), μ)), (some (((((v1).toInt32)).toInt64), μ)), (some (v1, μ))] (if (lg_cmp v1 (0 : Int64)) = 0 then (some ((0 : Int64), μ)) else (some ((1 : Int64), μ))) v3))))
set_option maxRecDepth 100000 in
theorem m_X8_cut (hI : x_I X) (v0 : Nat) (v1 : Int64) (μ : x_M) : x_Met X x_Z0 l yX8_cut cX8_cut 3 (some .long) 1 [vR v0, vJ v1] μ rkJ (f_X8_cut X v0 v1 μ) := by
  refine x_enter hI (by decide +kernel) (Nat.le_of_ble_eq_true rfl) (fun p e s m args below meth c hC hr hlk => ?_)
  unfold f_X8_cut
  refine s_lv (lv' := [(0, vR v0), (1, vJ v1)]) [0, 1] rfl ?_
  refine s_aload_n hC 0 dX8_cut_0 rfl ?_
  refine s_getI hC xc8 (by decide) rfl qf_X8_15 dX8_cut_1 ?_
  refine s_ltI (fun v3 => ?_)
  refine s_table hC dX8_cut_4 [((0 : Int32), 36), ((1 : Int32), 41), ((2 : Int32), 46), ((3 : Int32), 50)] 52 (by decide +kernel) ⟨?_, ?_, ?_, ?_, trivial⟩ ?_
  · refine s_lload_n hC 1 dX8_cut_36 rfl ?_
    refine s_l2i hC dX8_cut_37 ?_
    refine s_i2b hC dX8_cut_38 ?_
    refine s_i2l hC dX8_cut_39 ?_
    exact s_lret hC hr hlk dX8_cut_40
  · refine s_lload_n hC 1 dX8_cut_41 rfl ?_
    refine s_l2i hC dX8_cut_42 ?_
    refine s_i2s hC dX8_cut_43 ?_
    refine s_i2l hC dX8_cut_44 ?_
    exact s_lret hC hr hlk dX8_cut_45
  · refine s_lload_n hC 1 dX8_cut_46 rfl ?_
    refine s_l2i hC dX8_cut_47 ?_
    refine s_i2l hC dX8_cut_48 ?_
    exact s_lret hC hr hlk dX8_cut_49
  · refine s_lload_n hC 1 dX8_cut_50 rfl ?_
    exact s_lret hC hr hlk dX8_cut_51
  refine s_lload_n hC 1 dX8_cut_52 rfl ?_
  refine s_lconst hC dX8_cut_53 (v := 0) (by decide) ?_
  refine s_lcmp hC dX8_cut_54 ?_
  refine s_if_eq hC dX8_cut_55 (tgt := 62) (by decide) ?_ ?_
  · refine s_lconst hC dX8_cut_62 (v := 0) (by decide) ?_
    exact s_lret hC hr hlk dX8_cut_63
  refine s_lconst hC dX8_cut_58 (v := 1) (by decide) ?_
  refine s_goto hC dX8_cut_59 (tgt := 63) (by decide) ?_
  exact s_lret hC hr hlk dX8_cut_63
theorem dX8_get_0 : decode cX8_get 0 = .ok (.iload_n 1, 1) := by decide +kernel
theorem dX8_get_1 : decode cX8_get 1 = .ok (.ifCond .lt 26, 3) := by decide +kernel
theorem dX8_get_4 : decode cX8_get 4 = .ok (.iload_n 1, 1) := by decide +kernel
theorem dX8_get_5 : decode cX8_get 5 = .ok (.aload_n 0, 1) := by decide +kernel
theorem dX8_get_6 : decode cX8_get 6 = .ok (.getfield 28, 3) := by decide +kernel
theorem dX8_get_9 : decode cX8_get 9 = .ok (.if_icmp .ge 18, 3) := by decide +kernel
theorem dX8_get_12 : decode cX8_get 12 = .ok (.iload_n 1, 1) := by decide +kernel
theorem dX8_get_13 : decode cX8_get 13 = .ok (.bipush 60, 2) := by decide +kernel
theorem dX8_get_15 : decode cX8_get 15 = .ok (.if_icmp .ge 12, 3) := by decide +kernel
theorem dX8_get_18 : decode cX8_get 18 = .ok (.aload_n 0, 1) := by decide +kernel
theorem dX8_get_19 : decode cX8_get 19 = .ok (.getfield 9, 3) := by decide +kernel
theorem dX8_get_22 : decode cX8_get 22 = .ok (.iload_n 1, 1) := by decide +kernel
theorem dX8_get_23 : decode cX8_get 23 = .ok (.laload, 1) := by decide +kernel
theorem dX8_get_24 : decode cX8_get 24 = .ok (.goto 6, 3) := by decide +kernel
theorem dX8_get_27 : decode cX8_get 27 = .ok (.ldc2_w 35, 3) := by decide +kernel
theorem dX8_get_30 : decode cX8_get 30 = .ok (.lreturn, 1) := by decide +kernel
def f_X8_get (X : x_X) (v0 : Nat) (v1 : Int32) (μ : x_M) : Option (Int64 × x_M) :=
  (if v1 < 0 then (some ((-9223372036854775808 : Int64), μ)) else (ck (x_kd X v0 = 8 + 1) (if (μ.1 v0 2) ≤ v1 then (some ((-9223372036854775808 : Int64), μ)) else (if (60 : Int32) ≤ v1 then (some ((-9223372036854775808 : Int64), μ)) else (ck (x_kd X v0 = 8 + 1) (lt (μ.2.1 v0 0) (fun (v3 : Nat) => (ck (x_kd X v3 = 21 ∧ x_ix v1 (x_ln X v3)) (some ((μ.2.2 v3 (v1).toNatClampNeg), μ))))))))))
set_option maxRecDepth 100000 in
theorem m_X8_get (hI : x_I X) (v0 : Nat) (v1 : Int32) (μ : x_M) : x_Met X x_Z0 l yX8_get cX8_get 2 (some .long) 1 [vR v0, vI v1] μ rkJ (f_X8_get X v0 v1 μ) := by
  refine x_enter hI (by decide +kernel) (Nat.le_of_ble_eq_true rfl) (fun p e s m args below meth c hC hr hlk => ?_)
  unfold f_X8_get
  refine s_lv (lv' := [(0, vR v0), (1, vI v1)]) [0, 1] rfl ?_
  refine s_iload_n hC 1 dX8_get_0 rfl ?_
  refine s_if_lt hC dX8_get_1 (tgt := 27) (by decide) ?_ ?_
  · refine s_ldc2 hC dX8_get_27 qk_X8_35 ?_
    exact s_lret hC hr hlk dX8_get_30
  refine s_iload_n hC 1 dX8_get_4 rfl ?_
  refine s_aload_n hC 0 dX8_get_5 rfl ?_
  refine s_getI hC xc8 (by decide) rfl qf_X8_28 dX8_get_6 ?_
  refine s_icmp_ge hC dX8_get_9 (tgt := 27) (by decide) ?_ ?_
  · refine s_ldc2 hC dX8_get_27 qk_X8_35 ?_
    exact s_lret hC hr hlk dX8_get_30
  refine s_iload_n hC 1 dX8_get_12 rfl ?_
  refine s_bipush hC dX8_get_13 (v := 60) (by decide) ?_
  refine s_icmp_ge hC dX8_get_15 (tgt := 27) (by decide) ?_ ?_
  · refine s_ldc2 hC dX8_get_27 qk_X8_35 ?_
    exact s_lret hC hr hlk dX8_get_30
  refine s_aload_n hC 0 dX8_get_18 rfl ?_
  refine s_getR hC xc8 (by decide) rfl qf_X8_9 dX8_get_19 ?_
  refine s_ltR (fun v3 => ?_)
  refine s_iload_n hC 1 dX8_get_22 rfl ?_
  refine s_lald hC dX8_get_23 ?_
  refine s_goto hC dX8_get_24 (tgt := 30) (by decide) ?_
  exact s_lret hC hr hlk dX8_get_30
theorem dX8_takeFrom_0 : decode cX8_takeFrom 0 = .ok (.iload 4, 2) := by decide +kernel
theorem dX8_takeFrom_2 : decode cX8_takeFrom 2 = .ok (.ifCond .lt 33, 3) := by decide +kernel
theorem dX8_takeFrom_5 : decode cX8_takeFrom 5 = .ok (.iload_n 2, 1) := by decide +kernel
theorem dX8_takeFrom_6 : decode cX8_takeFrom 6 = .ok (.ifCond .lt 29, 3) := by decide +kernel
theorem dX8_takeFrom_9 : decode cX8_takeFrom 9 = .ok (.iload_n 3, 1) := by decide +kernel
theorem dX8_takeFrom_10 : decode cX8_takeFrom 10 = .ok (.ifCond .lt 25, 3) := by decide +kernel
theorem dX8_takeFrom_13 : decode cX8_takeFrom 13 = .ok (.iload 4, 2) := by decide +kernel
theorem dX8_takeFrom_15 : decode cX8_takeFrom 15 = .ok (.aload_n 1, 1) := by decide +kernel
theorem dX8_takeFrom_16 : decode cX8_takeFrom 16 = .ok (.getfield 28, 3) := by decide +kernel
theorem dX8_takeFrom_19 : decode cX8_takeFrom 19 = .ok (.iload_n 2, 1) := by decide +kernel
theorem dX8_takeFrom_20 : decode cX8_takeFrom 20 = .ok (.isub, 1) := by decide +kernel
theorem dX8_takeFrom_21 : decode cX8_takeFrom 21 = .ok (.if_icmp .gt 14, 3) := by decide +kernel
theorem dX8_takeFrom_24 : decode cX8_takeFrom 24 = .ok (.iload 4, 2) := by decide +kernel
theorem dX8_takeFrom_26 : decode cX8_takeFrom 26 = .ok (.aload_n 0, 1) := by decide +kernel
theorem dX8_takeFrom_27 : decode cX8_takeFrom 27 = .ok (.getfield 28, 3) := by decide +kernel
theorem dX8_takeFrom_30 : decode cX8_takeFrom 30 = .ok (.iload_n 3, 1) := by decide +kernel
theorem dX8_takeFrom_31 : decode cX8_takeFrom 31 = .ok (.isub, 1) := by decide +kernel
theorem dX8_takeFrom_32 : decode cX8_takeFrom 32 = .ok (.if_icmp .le 5, 3) := by decide +kernel
theorem dX8_takeFrom_35 : decode cX8_takeFrom 35 = .ok (.iconst 0, 1) := by decide +kernel
theorem dX8_takeFrom_36 : decode cX8_takeFrom 36 = .ok (.ireturn, 1) := by decide +kernel
theorem dX8_takeFrom_37 : decode cX8_takeFrom 37 = .ok (.aload_n 1, 1) := by decide +kernel
theorem dX8_takeFrom_38 : decode cX8_takeFrom 38 = .ok (.getfield 9, 3) := by decide +kernel
theorem dX8_takeFrom_41 : decode cX8_takeFrom 41 = .ok (.iload_n 2, 1) := by decide +kernel
theorem dX8_takeFrom_42 : decode cX8_takeFrom 42 = .ok (.aload_n 0, 1) := by decide +kernel
theorem dX8_takeFrom_43 : decode cX8_takeFrom 43 = .ok (.getfield 9, 3) := by decide +kernel
theorem dX8_takeFrom_46 : decode cX8_takeFrom 46 = .ok (.iload_n 3, 1) := by decide +kernel
theorem dX8_takeFrom_47 : decode cX8_takeFrom 47 = .ok (.iload 4, 2) := by decide +kernel
theorem dX8_takeFrom_49 : decode cX8_takeFrom 49 = .ok (.invokestatic 37, 3) := by decide +kernel
theorem dX8_takeFrom_52 : decode cX8_takeFrom 52 = .ok (.iconst 1, 1) := by decide +kernel
theorem dX8_takeFrom_53 : decode cX8_takeFrom 53 = .ok (.ireturn, 1) := by decide +kernel
def f_X8_takeFrom (X : x_X) (v0 : Nat) (v1 : Nat) (v2 : Int32) (v3 : Int32) (v4 : Int32) (μ : x_M) : Option (Int32 × x_M) :=
  (if v4 < 0 then (ck ((0 : Int32) = 0 ∨ (0 : Int32) = 1) (some ((0 : Int32), μ))) else (if v2 < 0 then (ck ((0 : Int32) = 0 ∨ (0 : Int32) = 1) (some ((0 : Int32), μ))) else (if v3 < 0 then (ck ((0 : Int32) = 0 ∨ (0 : Int32) = 1) (some ((0 : Int32), μ))) else (ck (x_kd X v1 = 8 + 1) (if ((μ.1 v1 2) - v2) < v4 then (ck ((0 : Int32) = 0 ∨ (0 : Int32) = 1) (some ((0 : Int32), μ))) else (ck (x_kd X v0 = 8 + 1) (if v4 ≤ ((μ.1 v0 2) - v3) then (ck (x_kd X v1 = 8 + 1) (lt (μ.2.1 v1 0) (fun (v6 : Nat) => (ck (x_kd X v0 = 8 + 1) (lt (μ.2.1 v0 0) (fun (v7 : Nat) => (ck (x_cpok X v6 v2 v7 v3 v4) (lt (x_cp μ v6 v2 v7 v3 v4) (fun (μ8 : x_M) => (ck ((1 : Int32) = 0 ∨ (1 : Int32) = 1) (some ((1 : Int32), μ8)))))))))))) else (ck ((0 : Int32) = 0 ∨ (0 : Int32) = 1) (some ((0 : Int32), μ))))))))))
set_option maxRecDepth 100000 in
theorem m_X8_takeFrom (hI : x_I X) (v0 : Nat) (v1 : Nat) (v2 : Int32) (v3 : Int32) (v4 : Int32) (μ : x_M) : x_Met X x_Z0 l yX8_takeFrom cX8_takeFrom 5 (some .boolean) 1 [vR v0, vR v1, vI v2, vI v3, vI v4] μ rkI (f_X8_takeFrom X v0 v1 v2 v3 v4 μ) := by
  refine x_enter hI (by decide +kernel) (Nat.le_of_ble_eq_true rfl) (fun p e s m args below meth c hC hr hlk => ?_)
  unfold f_X8_takeFrom
  refine s_lv (lv' := [(0, vR v0), (1, vR v1), (2, vI v2), (3, vI v3), (4, vI v4)]) [0, 1, 2, 3, 4] rfl ?_
  refine s_iload hC 4 dX8_takeFrom_0 rfl ?_
  refine s_if_lt hC dX8_takeFrom_2 (tgt := 35) (by decide) ?_ ?_
  · refine s_iconst hC dX8_takeFrom_35 (v := 0) (by decide) ?_
    exact s_zret hC hr hlk dX8_takeFrom_36
  refine s_iload_n hC 2 dX8_takeFrom_5 rfl ?_
  refine s_if_lt hC dX8_takeFrom_6 (tgt := 35) (by decide) ?_ ?_
  · refine s_iconst hC dX8_takeFrom_35 (v := 0) (by decide) ?_
    exact s_zret hC hr hlk dX8_takeFrom_36
  refine s_iload_n hC 3 dX8_takeFrom_9 rfl ?_
  refine s_if_lt hC dX8_takeFrom_10 (tgt := 35) (by decide) ?_ ?_
  · refine s_iconst hC dX8_takeFrom_35 (v := 0) (by decide) ?_
    exact s_zret hC hr hlk dX8_takeFrom_36
  refine s_iload hC 4 dX8_takeFrom_13 rfl ?_
  refine s_aload_n hC 1 dX8_takeFrom_15 rfl ?_
  refine s_getI hC xc8 (by decide) rfl qf_X8_28 dX8_takeFrom_16 ?_
  refine s_iload_n hC 2 dX8_takeFrom_19 rfl ?_
  refine s_isub hC dX8_takeFrom_20 ?_
  refine s_icmp_gt hC dX8_takeFrom_21 (tgt := 35) (by decide) ?_ ?_
  · refine s_iconst hC dX8_takeFrom_35 (v := 0) (by decide) ?_
    exact s_zret hC hr hlk dX8_takeFrom_36
  refine s_iload hC 4 dX8_takeFrom_24 rfl ?_
  refine s_aload_n hC 0 dX8_takeFrom_26 rfl ?_
  refine s_getI hC xc8 (by decide) rfl qf_X8_28 dX8_takeFrom_27 ?_
  refine s_iload_n hC 3 dX8_takeFrom_30 rfl ?_
  refine s_isub hC dX8_takeFrom_31 ?_
  refine s_icmp_le hC dX8_takeFrom_32 (tgt := 37) (by decide) ?_ ?_
  · refine s_aload_n hC 1 dX8_takeFrom_37 rfl ?_
    refine s_getR hC xc8 (by decide) rfl qf_X8_9 dX8_takeFrom_38 ?_
    refine s_ltR (fun v6 => ?_)
    refine s_iload_n hC 2 dX8_takeFrom_41 rfl ?_
    refine s_aload_n hC 0 dX8_takeFrom_42 rfl ?_
    refine s_getR hC xc8 (by decide) rfl qf_X8_9 dX8_takeFrom_43 ?_
    refine s_ltR (fun v7 => ?_)
    refine s_iload_n hC 3 dX8_takeFrom_46 rfl ?_
    refine s_iload hC 4 dX8_takeFrom_47 rfl ?_
    refine s_acopy hC dX8_takeFrom_49 qm_X8_37 qn_arraycopy qt_arraycopy qc_System (by decide) (Nat.le_of_ble_eq_true rfl) ?_
    refine s_ltM (fun μ8 => ?_)
    refine s_iconst hC dX8_takeFrom_52 (v := 1) (by decide) ?_
    exact s_zret hC hr hlk dX8_takeFrom_53
  refine s_iconst hC dX8_takeFrom_35 (v := 0) (by decide) ?_
  exact s_zret hC hr hlk dX8_takeFrom_36
theorem dX8_put_0 : decode cX8_put 0 = .ok (.iload_n 1, 1) := by decide +kernel
theorem dX8_put_1 : decode cX8_put 1 = .ok (.ifCond .lt 17, 3) := by decide +kernel
theorem dX8_put_4 : decode cX8_put 4 = .ok (.iload_n 1, 1) := by decide +kernel
theorem dX8_put_5 : decode cX8_put 5 = .ok (.aload_n 0, 1) := by decide +kernel
theorem dX8_put_6 : decode cX8_put 6 = .ok (.getfield 28, 3) := by decide +kernel
theorem dX8_put_9 : decode cX8_put 9 = .ok (.if_icmp .ge 9, 3) := by decide +kernel
theorem dX8_put_12 : decode cX8_put 12 = .ok (.iload_n 1, 1) := by decide +kernel
theorem dX8_put_13 : decode cX8_put 13 = .ok (.bipush 60, 2) := by decide +kernel
theorem dX8_put_15 : decode cX8_put 15 = .ok (.if_icmp .lt 5, 3) := by decide +kernel
theorem dX8_put_18 : decode cX8_put 18 = .ok (.iconst 0, 1) := by decide +kernel
theorem dX8_put_19 : decode cX8_put 19 = .ok (.ireturn, 1) := by decide +kernel
theorem dX8_put_20 : decode cX8_put 20 = .ok (.aload_n 0, 1) := by decide +kernel
theorem dX8_put_21 : decode cX8_put 21 = .ok (.getfield 9, 3) := by decide +kernel
theorem dX8_put_24 : decode cX8_put 24 = .ok (.iload_n 1, 1) := by decide +kernel
theorem dX8_put_25 : decode cX8_put 25 = .ok (.aload_n 0, 1) := by decide +kernel
theorem dX8_put_26 : decode cX8_put 26 = .ok (.lload_n 2, 1) := by decide +kernel
theorem dX8_put_27 : decode cX8_put 27 = .ok (.invokevirtual 31, 3) := by decide +kernel
theorem dX8_put_30 : decode cX8_put 30 = .ok (.lastore, 1) := by decide +kernel
theorem dX8_put_31 : decode cX8_put 31 = .ok (.iconst 1, 1) := by decide +kernel
theorem dX8_put_32 : decode cX8_put 32 = .ok (.ireturn, 1) := by decide +kernel
def f_X8_put (X : x_X) (v0 : Nat) (v1 : Int32) (v2 : Int64) (μ : x_M) : Option (Int32 × x_M) :=
  (if v1 < 0 then (ck ((0 : Int32) = 0 ∨ (0 : Int32) = 1) (some ((0 : Int32), μ))) else (ck (x_kd X v0 = 8 + 1) (if (μ.1 v0 2) ≤ v1 then (ck ((0 : Int32) = 0 ∨ (0 : Int32) = 1) (some ((0 : Int32), μ))) else (if v1 < (60 : Int32) then (ck (x_kd X v0 = 8 + 1) (lt (μ.2.1 v0 0) (fun (v4 : Nat) => (ck (x_kd X v0 = 8 + 1) (bd (f_X8_cut X v0 v2 μ) (fun (v5 : Int64) (μ6 : x_M) => (ck (x_kd X v4 = 21 ∧ x_ix v1 (x_ln X v4)) (lt (x_sJ μ6 v4 (v1).toNatClampNeg v5) (fun (μ7 : x_M) => (ck ((1 : Int32) = 0 ∨ (1 : Int32) = 1) (some ((1 : Int32), μ7)))))))))))) else (ck ((0 : Int32) = 0 ∨ (0 : Int32) = 1) (some ((0 : Int32), μ)))))))
set_option maxRecDepth 100000 in
theorem m_X8_put (hI : x_I X) (v0 : Nat) (v1 : Int32) (v2 : Int64) (μ : x_M) : x_Met X x_Z0 l yX8_put cX8_put 4 (some .boolean) 2 [vR v0, vI v1, vJ v2] μ rkI (f_X8_put X v0 v1 v2 μ) := by
  refine x_enter hI (by decide +kernel) (Nat.le_of_ble_eq_true rfl) (fun p e s m args below meth c hC hr hlk => ?_)
  unfold f_X8_put
  refine s_lv (lv' := [(0, vR v0), (1, vI v1), (2, vJ v2)]) [0, 1, 2] rfl ?_
  refine s_iload_n hC 1 dX8_put_0 rfl ?_
  refine s_if_lt hC dX8_put_1 (tgt := 18) (by decide) ?_ ?_
  · refine s_iconst hC dX8_put_18 (v := 0) (by decide) ?_
    exact s_zret hC hr hlk dX8_put_19
  refine s_iload_n hC 1 dX8_put_4 rfl ?_
  refine s_aload_n hC 0 dX8_put_5 rfl ?_
  refine s_getI hC xc8 (by decide) rfl qf_X8_28 dX8_put_6 ?_
  refine s_icmp_ge hC dX8_put_9 (tgt := 18) (by decide) ?_ ?_
  · refine s_iconst hC dX8_put_18 (v := 0) (by decide) ?_
    exact s_zret hC hr hlk dX8_put_19
  refine s_iload_n hC 1 dX8_put_12 rfl ?_
  refine s_bipush hC dX8_put_13 (v := 60) (by decide) ?_
  refine s_icmp_lt hC dX8_put_15 (tgt := 20) (by decide) ?_ ?_
  · refine s_aload_n hC 0 dX8_put_20 rfl ?_
    refine s_getR hC xc8 (by decide) rfl qf_X8_9 dX8_put_21 ?_
    refine s_ltR (fun v4 => ?_)
    refine s_iload_n hC 1 dX8_put_24 rfl ?_
    refine s_aload_n hC 0 dX8_put_25 rfl ?_
    refine s_lload_n hC 2 dX8_put_26 rfl ?_
    refine s_callV hC (x := v0) (avs := [vJ v2]) (st := [vI v1, vR v4]) (nest := false) xc8 (m_X8_cut hI v0 v2 μ) dX8_put_27 qm_X8_31 qi_X8_cut qs_X8_cut qc_X8 qd_X8_cut qh_X8_cut (by decide) (fun _ => Nat.le_of_ble_eq_true rfl) (Nat.le_of_ble_eq_true rfl) (fun v5 μ6 => ?_)
    refine s_last hC dX8_put_30 ?_
    refine s_ltM (fun μ7 => ?_)
    refine s_iconst hC dX8_put_31 (v := 1) (by decide) ?_
    exact s_zret hC hr hlk dX8_put_32
  refine s_iconst hC dX8_put_18 (v := 0) (by decide) ?_
  exact s_zret hC hr hlk dX8_put_19
theorem dX0_open_0 : decode cX0_open 0 = .ok (.aload_n 0, 1) := by decide +kernel
theorem dX0_open_1 : decode cX0_open 1 = .ok (.iconst 1, 1) := by decide +kernel
theorem dX0_open_2 : decode cX0_open 2 = .ok (.putfield 19, 3) := by decide +kernel
theorem dX0_open_5 : decode cX0_open 5 = .ok (.aload_n 0, 1) := by decide +kernel
theorem dX0_open_6 : decode cX0_open 6 = .ok (.iload_n 1, 1) := by decide +kernel
theorem dX0_open_7 : decode cX0_open 7 = .ok (.putfield 23, 3) := by decide +kernel
theorem dX0_open_10 : decode cX0_open 10 = .ok (.aload_n 0, 1) := by decide +kernel
theorem dX0_open_11 : decode cX0_open 11 = .ok (.iload_n 2, 1) := by decide +kernel
theorem dX0_open_12 : decode cX0_open 12 = .ok (.putfield 26, 3) := by decide +kernel
theorem dX0_open_15 : decode cX0_open 15 = .ok (.aload_n 0, 1) := by decide +kernel
theorem dX0_open_16 : decode cX0_open 16 = .ok (.iload_n 3, 1) := by decide +kernel
theorem dX0_open_17 : decode cX0_open 17 = .ok (.putfield 29, 3) := by decide +kernel
theorem dX0_open_20 : decode cX0_open 20 = .ok (.aload_n 0, 1) := by decide +kernel
theorem dX0_open_21 : decode cX0_open 21 = .ok (.iconst 0, 1) := by decide +kernel
theorem dX0_open_22 : decode cX0_open 22 = .ok (.putfield 32, 3) := by decide +kernel
theorem dX0_open_25 : decode cX0_open 25 = .ok (.aload_n 0, 1) := by decide +kernel
theorem dX0_open_26 : decode cX0_open 26 = .ok (.iconst 0, 1) := by decide +kernel
theorem dX0_open_27 : decode cX0_open 27 = .ok (.putfield 35, 3) := by decide +kernel
theorem dX0_open_30 : decode cX0_open 30 = .ok (.iconst 0, 1) := by decide +kernel
theorem dX0_open_31 : decode cX0_open 31 = .ok (.istore 4, 2) := by decide +kernel
theorem dX0_open_33 : decode cX0_open 33 = .ok (.iload 4, 2) := by decide +kernel
theorem dX0_open_35 : decode cX0_open 35 = .ok (.iconst 4, 1) := by decide +kernel
theorem dX0_open_36 : decode cX0_open 36 = .ok (.if_icmp .ge 17, 3) := by decide +kernel
theorem dX0_open_39 : decode cX0_open 39 = .ok (.aload_n 0, 1) := by decide +kernel
theorem dX0_open_40 : decode cX0_open 40 = .ok (.getfield 9, 3) := by decide +kernel
theorem dX0_open_43 : decode cX0_open 43 = .ok (.iload 4, 2) := by decide +kernel
theorem dX0_open_45 : decode cX0_open 45 = .ok (.iconst 0, 1) := by decide +kernel
theorem dX0_open_46 : decode cX0_open 46 = .ok (.iastore, 1) := by decide +kernel
theorem dX0_open_47 : decode cX0_open 47 = .ok (.iinc 4 1, 3) := by decide +kernel
theorem dX0_open_50 : decode cX0_open 50 = .ok (.goto (-17), 3) := by decide +kernel
theorem dX0_open_53 : decode cX0_open 53 = .ok (.return_, 1) := by decide +kernel
def f_X0_open_L33 (X : x_X) : Nat → Nat → Int32 → x_M → Option (Unit × x_M)
  | 0, _, _, _ => none
  | n + 1, v11, v12, μ13 =>
    (if (4 : Int32) ≤ v12 then (some ((), μ13)) else (ck (x_kd X v11 = 0 + 1) (lt (μ13.2.1 v11 1) (fun (v14 : Nat) => (ck (x_kd X v14 = 20 ∧ x_ix v12 (x_ln X v14)) (lt (x_sI μ13 v14 (v12).toNatClampNeg (0 : Int32)) (fun (μ15 : x_M) => (f_X0_open_L33 X n v11 (v12 + (1 : Int32)) μ15))))))))
set_option maxRecDepth 100000 in
theorem j_X0_open_L33 (hI : x_I X) (hC : x_C X x_Z0 p (x_rm 1) s m c cX0_open RX0 5 0 0 1) (hr : meth.sig.returnType = none) (hlk : meth.locks = false) : ∀ (n : Nat) (v11 : Nat) (v12 : Int32) (μ13 : x_M), SM X 5 1 rkV p l e s m args below meth c 33 [(0, vR v11), (4, vI v12)] [] μ13 (f_X0_open_L33 X n v11 v12 μ13) := by
  intro n
  induction n with
  | zero => intro v11 v12 μ13; exact s_none
  | succ n ih =>
    intro v11 v12 μ13
    unfold f_X0_open_L33
    refine s_iload hC 1 dX0_open_33 rfl ?_
    refine s_iconst hC dX0_open_35 (v := 4) (by decide) ?_
    refine s_icmp_ge hC dX0_open_36 (tgt := 53) (by decide) ?_ ?_
    · exact s_vret hC hr hlk dX0_open_53
    refine s_aload_n hC 0 dX0_open_39 rfl ?_
    refine s_getR hC xc0 (by decide) rfl qf_X0_9 dX0_open_40 ?_
    refine s_ltR (fun v14 => ?_)
    refine s_iload hC 1 dX0_open_43 rfl ?_
    refine s_iconst hC dX0_open_45 (v := 0) (by decide) ?_
    refine s_iast hC dX0_open_46 ?_
    refine s_ltM (fun μ15 => ?_)
    refine s_iinc hC 1 dX0_open_47 rfl (w := 1) (by decide) (by decide) (lv' := [(4, vI (v12 + (1 : Int32))), (0, vR v11)]) rfl ?_
    refine s_goto hC dX0_open_50 (tgt := 33) (by decide) ?_
    refine s_lv (lv' := [(0, vR v11), (4, vI (v12 + (1 : Int32)))]) [1, 0] rfl ?_
    exact ih _ _ _
def f_X0_open (X : x_X) (v0 : Nat) (v1 : Int32) (v2 : Int32) (v3 : Int32) (μ : x_M) : Option (Unit × x_M) :=
  (ck (x_kd X v0 = 0 + 1 ∧ ((1 : Int32) = 0 ∨ (1 : Int32) = 1)) (lt (x_sI μ v0 2 (1 : Int32)) (fun (μ5 : x_M) => (ck (x_kd X v0 = 0 + 1) (lt (x_sI μ5 v0 3 v1) (fun (μ6 : x_M) => (ck (x_kd X v0 = 0 + 1) (lt (x_sI μ6 v0 4 v2) (fun (μ7 : x_M) => (ck (x_kd X v0 = 0 + 1) (lt (x_sI μ7 v0 6 v3) (fun (μ8 : x_M) => (ck (x_kd X v0 = 0 + 1) (lt (x_sI μ8 v0 5 (0 : Int32)) (fun (μ9 : x_M) => (ck (x_kd X v0 = 0 + 1) (lt (x_sI μ9 v0 7 (0 : Int32)) (fun (μ10 : x_M) => (f_X0_open_L33 X 4096 v0 (0 : Int32) μ10)))))))))))))))))))
set_option maxRecDepth 100000 in
theorem m_X0_open (hI : x_I X) (v0 : Nat) (v1 : Int32) (v2 : Int32) (v3 : Int32) (μ : x_M) : x_Met X x_Z0 l yX0_open cX0_open 5 none 1 [vR v0, vI v1, vI v2, vI v3] μ rkV (f_X0_open X v0 v1 v2 v3 μ) := by
  refine x_enter hI (by decide +kernel) (Nat.le_of_ble_eq_true rfl) (fun p e s m args below meth c hC hr hlk => ?_)
  unfold f_X0_open
  refine s_lv (lv' := [(0, vR v0), (1, vI v1), (2, vI v2), (3, vI v3)]) [0, 1, 2, 3] rfl ?_
  refine s_aload_n hC 0 dX0_open_0 rfl ?_
  refine s_iconst hC dX0_open_1 (v := 1) (by decide) ?_
  refine s_putZ hC xc0 (by decide) rfl rfl qf_X0_19 dX0_open_2 ?_
  refine s_ltM (fun μ5 => ?_)
  refine s_aload_n hC 0 dX0_open_5 rfl ?_
  refine s_iload_n hC 1 dX0_open_6 rfl ?_
  refine s_putI hC xc0 (by decide) rfl rfl qf_X0_23 dX0_open_7 ?_
  refine s_ltM (fun μ6 => ?_)
  refine s_aload_n hC 0 dX0_open_10 rfl ?_
  refine s_iload_n hC 2 dX0_open_11 rfl ?_
  refine s_putI hC xc0 (by decide) rfl rfl qf_X0_26 dX0_open_12 ?_
  refine s_ltM (fun μ7 => ?_)
  refine s_aload_n hC 0 dX0_open_15 rfl ?_
  refine s_iload_n hC 3 dX0_open_16 rfl ?_
  refine s_putI hC xc0 (by decide) rfl rfl qf_X0_29 dX0_open_17 ?_
  refine s_ltM (fun μ8 => ?_)
  refine s_aload_n hC 0 dX0_open_20 rfl ?_
  refine s_iconst hC dX0_open_21 (v := 0) (by decide) ?_
  refine s_putI hC xc0 (by decide) rfl rfl qf_X0_32 dX0_open_22 ?_
  refine s_ltM (fun μ9 => ?_)
  refine s_aload_n hC 0 dX0_open_25 rfl ?_
  refine s_iconst hC dX0_open_26 (v := 0) (by decide) ?_
  refine s_putI hC xc0 (by decide) rfl rfl qf_X0_35 dX0_open_27 ?_
  refine s_ltM (fun μ10 => ?_)
  refine s_iconst hC dX0_open_30 (v := 0) (by decide) ?_
  refine s_istore hC dX0_open_31 (by decide) (lv' := [(4, vI (0 : Int32)), (0, vR v0), (1, vI v1), (2, vI v2), (3, vI v3)]) rfl ?_
  refine s_lv (lv' := [(0, vR v0), (4, vI (0 : Int32))]) [1, 0] rfl ?_
  refine j_X0_open_L33 hI hC hr hlk 4096 _ _ _
theorem dX0_change_0 : decode cX0_change 0 = .ok (.iload_n 1, 1) := by decide +kernel
theorem dX0_change_1 : decode cX0_change 1 = .ok (.ifCond .ne 10, 3) := by decide +kernel
theorem dX0_change_4 : decode cX0_change 4 = .ok (.aload_n 0, 1) := by decide +kernel
theorem dX0_change_5 : decode cX0_change 5 = .ok (.getfield 32, 3) := by decide +kernel
theorem dX0_change_8 : decode cX0_change 8 = .ok (.goto 19, 3) := by decide +kernel
theorem dX0_change_11 : decode cX0_change 11 = .ok (.iload_n 1, 1) := by decide +kernel
theorem dX0_change_12 : decode cX0_change 12 = .ok (.iconst 1, 1) := by decide +kernel
theorem dX0_change_13 : decode cX0_change 13 = .ok (.if_icmp .ne 10, 3) := by decide +kernel
theorem dX0_change_16 : decode cX0_change 16 = .ok (.aload_n 0, 1) := by decide +kernel
theorem dX0_change_17 : decode cX0_change 17 = .ok (.getfield 29, 3) := by decide +kernel
theorem dX0_change_20 : decode cX0_change 20 = .ok (.goto 7, 3) := by decide +kernel
theorem dX0_change_23 : decode cX0_change 23 = .ok (.aload_n 0, 1) := by decide +kernel
theorem dX0_change_24 : decode cX0_change 24 = .ok (.getfield 35, 3) := by decide +kernel
theorem dX0_change_27 : decode cX0_change 27 = .ok (.istore_n 3, 1) := by decide +kernel
theorem dX0_change_28 : decode cX0_change 28 = .ok (.iload_n 1, 1) := by decide +kernel
theorem dX0_change_29 : decode cX0_change 29 = .ok (.ifCond .ne 11, 3) := by decide +kernel
theorem dX0_change_32 : decode cX0_change 32 = .ok (.aload_n 0, 1) := by decide +kernel
theorem dX0_change_33 : decode cX0_change 33 = .ok (.iload_n 2, 1) := by decide +kernel
theorem dX0_change_34 : decode cX0_change 34 = .ok (.putfield 32, 3) := by decide +kernel
theorem dX0_change_37 : decode cX0_change 37 = .ok (.goto 21, 3) := by decide +kernel
theorem dX0_change_40 : decode cX0_change 40 = .ok (.iload_n 1, 1) := by decide +kernel
theorem dX0_change_41 : decode cX0_change 41 = .ok (.iconst 1, 1) := by decide +kernel
theorem dX0_change_42 : decode cX0_change 42 = .ok (.if_icmp .ne 11, 3) := by decide +kernel
theorem dX0_change_45 : decode cX0_change 45 = .ok (.aload_n 0, 1) := by decide +kernel
theorem dX0_change_46 : decode cX0_change 46 = .ok (.iload_n 2, 1) := by decide +kernel
theorem dX0_change_47 : decode cX0_change 47 = .ok (.putfield 29, 3) := by decide +kernel
theorem dX0_change_50 : decode cX0_change 50 = .ok (.goto 8, 3) := by decide +kernel
theorem dX0_change_53 : decode cX0_change 53 = .ok (.aload_n 0, 1) := by decide +kernel
theorem dX0_change_54 : decode cX0_change 54 = .ok (.iload_n 2, 1) := by decide +kernel
theorem dX0_change_55 : decode cX0_change 55 = .ok (.putfield 35, 3) := by decide +kernel
theorem dX0_change_58 : decode cX0_change 58 = .ok (.iload_n 3, 1) := by decide +kernel
theorem dX0_change_59 : decode cX0_change 59 = .ok (.ireturn, 1) := by decide +kernel
def f_X0_change_J27 (X : x_X) (v4 : Nat) (v5 : Int32) (v6 : Int32) (v7 : Int32) (μ8 : x_M) : Option (Int32 × x_M) :=
  (if v5 = 0 then (ck (x_kd X v4 = 0 + 1) (lt (x_sI μ8 v4 5 v6) (fun (μ11 : x_M) => (some (v7, μ11))))) else (if v5 = (1 : Int32) then (ck (x_kd X v4 = 0 + 1) (lt (x_sI μ8 v4 6 v6) (fun (μ10 : x_M) => (some (v7, μ10))))) else (ck (x_kd X v4 = 0 + 1) (lt (x_sI μ8 v4 7 v6) (fun (μ9 : x_M) => (some (v7, μ9)))))))
set_option maxRecDepth 100000 in
theorem j_X0_change_J27 (hI : x_I X) (hC : x_C X x_Z0 p (x_rm 1) s m c cX0_change RX0 4 0 0 1) (hr : meth.sig.returnType = (some .int)) (hlk : meth.locks = false) (v4 : Nat) (v5 : Int32) (v6 : Int32) (v7 : Int32) (μ8 : x_M) : SM X 4 1 rkI p l e s m args below meth c 27 [(0, vR v4), (1, vI v5), (2, vI v6)] [vI v7] μ8 (f_X0_change_J27 X v4 v5 v6 v7 μ8) := by
  unfold f_X0_change_J27
  refine s_istore_n hC dX0_change_27 (by decide) (lv' := [(3, vI v7), (0, vR v4), (1, vI v5), (2, vI v6)]) rfl ?_
  refine s_iload_n hC 2 dX0_change_28 rfl ?_
  refine s_if_ne hC dX0_change_29 (tgt := 40) (by decide) ?_ ?_
  · refine s_iload_n hC 2 dX0_change_40 rfl ?_
    refine s_iconst hC dX0_change_41 (v := 1) (by decide) ?_
    refine s_icmp_ne hC dX0_change_42 (tgt := 53) (by decide) ?_ ?_
    · refine s_aload_n hC 1 dX0_change_53 rfl ?_
      refine s_iload_n hC 3 dX0_change_54 rfl ?_
      refine s_putI hC xc0 (by decide) rfl rfl qf_X0_35 dX0_change_55 ?_
      refine s_ltM (fun μ9 => ?_)
      refine s_iload_n hC 0 dX0_change_58 rfl ?_
      exact s_iret hC hr hlk dX0_change_59
    refine s_aload_n hC 1 dX0_change_45 rfl ?_
    refine s_iload_n hC 3 dX0_change_46 rfl ?_
    refine s_putI hC xc0 (by decide) rfl rfl qf_X0_29 dX0_change_47 ?_
    refine s_ltM (fun μ10 => ?_)
    refine s_goto hC dX0_change_50 (tgt := 58) (by decide) ?_
    refine s_iload_n hC 0 dX0_change_58 rfl ?_
    exact s_iret hC hr hlk dX0_change_59
  refine s_aload_n hC 1 dX0_change_32 rfl ?_
  refine s_iload_n hC 3 dX0_change_33 rfl ?_
  refine s_putI hC xc0 (by decide) rfl rfl qf_X0_32 dX0_change_34 ?_
  refine s_ltM (fun μ11 => ?_)
  refine s_goto hC dX0_change_37 (tgt := 58) (by decide) ?_
  refine s_iload_n hC 0 dX0_change_58 rfl ?_
  exact s_iret hC hr hlk dX0_change_59
def f_X0_change (X : x_X) (v0 : Nat) (v1 : Int32) (v2 : Int32) (μ : x_M) : Option (Int32 × x_M) :=
  (if v1 = 0 then (ck (x_kd X v0 = 0 + 1) (f_X0_change_J27 X v0 v1 v2 (μ.1 v0 5) μ)) else (if v1 = (1 : Int32) then (ck (x_kd X v0 = 0 + 1) (f_X0_change_J27 X v0 v1 v2 (μ.1 v0 6) μ)) else (ck (x_kd X v0 = 0 + 1) (f_X0_change_J27 X v0 v1 v2 (μ.1 v0 7) μ))))
set_option maxRecDepth 100000 in
theorem m_X0_change (hI : x_I X) (v0 : Nat) (v1 : Int32) (v2 : Int32) (μ : x_M) : x_Met X x_Z0 l yX0_change cX0_change 4 (some .int) 1 [vR v0, vI v1, vI v2] μ rkI (f_X0_change X v0 v1 v2 μ) := by
  refine x_enter hI (by decide +kernel) (Nat.le_of_ble_eq_true rfl) (fun p e s m args below meth c hC hr hlk => ?_)
  unfold f_X0_change
  refine s_lv (lv' := [(0, vR v0), (1, vI v1), (2, vI v2)]) [0, 1, 2] rfl ?_
  refine s_iload_n hC 1 dX0_change_0 rfl ?_
  refine s_if_ne hC dX0_change_1 (tgt := 11) (by decide) ?_ ?_
  · refine s_iload_n hC 1 dX0_change_11 rfl ?_
    refine s_iconst hC dX0_change_12 (v := 1) (by decide) ?_
    refine s_icmp_ne hC dX0_change_13 (tgt := 23) (by decide) ?_ ?_
    · refine s_aload_n hC 0 dX0_change_23 rfl ?_
      refine s_getI hC xc0 (by decide) rfl qf_X0_35 dX0_change_24 ?_
      exact j_X0_change_J27 hI hC hr hlk _ _ _ _ _
    refine s_aload_n hC 0 dX0_change_16 rfl ?_
    refine s_getI hC xc0 (by decide) rfl qf_X0_29 dX0_change_17 ?_
    refine s_goto hC dX0_change_20 (tgt := 27) (by decide) ?_
    exact j_X0_change_J27 hI hC hr hlk _ _ _ _ _
  refine s_aload_n hC 0 dX0_change_4 rfl ?_
  refine s_getI hC xc0 (by decide) rfl qf_X0_32 dX0_change_5 ?_
  refine s_goto hC dX0_change_8 (tgt := 27) (by decide) ?_
  exact j_X0_change_J27 hI hC hr hlk _ _ _ _ _
theorem dX0_lifts_0 : decode cX0_lifts 0 = .ok (.aload_n 0, 1) := by decide +kernel
theorem dX0_lifts_1 : decode cX0_lifts 1 = .ok (.getfield 19, 3) := by decide +kernel
theorem dX0_lifts_4 : decode cX0_lifts 4 = .ok (.ifCond .ne 5, 3) := by decide +kernel
theorem dX0_lifts_7 : decode cX0_lifts 7 = .ok (.iconst 0, 1) := by decide +kernel
theorem dX0_lifts_8 : decode cX0_lifts 8 = .ok (.ireturn, 1) := by decide +kernel
theorem dX0_lifts_9 : decode cX0_lifts 9 = .ok (.aload_n 0, 1) := by decide +kernel
theorem dX0_lifts_10 : decode cX0_lifts 10 = .ok (.getfield 23, 3) := by decide +kernel
theorem dX0_lifts_13 : decode cX0_lifts 13 = .ok (.tableswitch 43 3 6 #[31, 36, 43, 31], 31) := by decide +kernel
theorem dX0_lifts_44 : decode cX0_lifts 44 = .ok (.aload_n 0, 1) := by decide +kernel
theorem dX0_lifts_45 : decode cX0_lifts 45 = .ok (.getfield 26, 3) := by decide +kernel
theorem dX0_lifts_48 : decode cX0_lifts 48 = .ok (.ireturn, 1) := by decide +kernel
theorem dX0_lifts_49 : decode cX0_lifts 49 = .ok (.iconst 5, 1) := by decide +kernel
theorem dX0_lifts_50 : decode cX0_lifts 50 = .ok (.aload_n 0, 1) := by decide +kernel
theorem dX0_lifts_51 : decode cX0_lifts 51 = .ok (.getfield 35, 3) := by decide +kernel
theorem dX0_lifts_54 : decode cX0_lifts 54 = .ok (.imul, 1) := by decide +kernel
theorem dX0_lifts_55 : decode cX0_lifts 55 = .ok (.ireturn, 1) := by decide +kernel
theorem dX0_lifts_56 : decode cX0_lifts 56 = .ok (.iconst 0, 1) := by decide +kernel
theorem dX0_lifts_57 : decode cX0_lifts 57 = .ok (.ireturn, 1) := by decide +kernel
def f_X0_lifts (X : x_X) (v0 : Nat) (μ : x_M) : Option (Int32 × x_M) :=
  (ck (x_kd X v0 = 0 + 1) (if (μ.1 v0 2) = 0 then (some ((0 : Int32), μ)) else (ck (x_kd X v0 = 0 + 1) (lt (μ.1 v0 3) (fun (v2 : Int32) => (x_swo [(3 : Int32), (4 : Int32), (5 : Int32), (6 : Int32)] [(ck (x_kd X v0 = 0 + 1) (some ((μ.1 v0 4), μ))), (ck (x_kd X v0 = 0 + 1) (some (((5 : Int32) * (μ.1 v0 7)), μ))), (some ((0 : Int32), μ)), (ck (x_kd X v0 = 0 + 1) (some ((μ.1 v0 4), μ)))] (some ((0 : Int32), μ)) v2))))))
set_option maxRecDepth 100000 in
theorem m_X0_lifts (hI : x_I X) (v0 : Nat) (μ : x_M) : x_Met X x_Z0 l yX0_lifts cX0_lifts 1 (some .int) 1 [vR v0] μ rkI (f_X0_lifts X v0 μ) := by
  refine x_enter hI (by decide +kernel) (Nat.le_of_ble_eq_true rfl) (fun p e s m args below meth c hC hr hlk => ?_)
  unfold f_X0_lifts
  refine s_lv (lv' := [(0, vR v0)]) [0] rfl ?_
  refine s_aload_n hC 0 dX0_lifts_0 rfl ?_
  refine s_getI hC xc0 (by decide) rfl qf_X0_19 dX0_lifts_1 ?_
  refine s_if_ne hC dX0_lifts_4 (tgt := 9) (by decide) ?_ ?_
  · refine s_aload_n hC 0 dX0_lifts_9 rfl ?_
    refine s_getI hC xc0 (by decide) rfl qf_X0_23 dX0_lifts_10 ?_
    refine s_ltI (fun v2 => ?_)
    refine s_table hC dX0_lifts_13 [((3 : Int32), 44), ((4 : Int32), 49), ((5 : Int32), 56), ((6 : Int32), 44)] 56 (by decide +kernel) ⟨?_, ?_, ?_, ?_, trivial⟩ ?_
    · refine s_aload_n hC 0 dX0_lifts_44 rfl ?_
      refine s_getI hC xc0 (by decide) rfl qf_X0_26 dX0_lifts_45 ?_
      exact s_iret hC hr hlk dX0_lifts_48
    · refine s_iconst hC dX0_lifts_49 (v := 5) (by decide) ?_
      refine s_aload_n hC 0 dX0_lifts_50 rfl ?_
      refine s_getI hC xc0 (by decide) rfl qf_X0_35 dX0_lifts_51 ?_
      refine s_imul hC dX0_lifts_54 ?_
      exact s_iret hC hr hlk dX0_lifts_55
    · refine s_iconst hC dX0_lifts_56 (v := 0) (by decide) ?_
      exact s_iret hC hr hlk dX0_lifts_57
    · refine s_aload_n hC 0 dX0_lifts_44 rfl ?_
      refine s_getI hC xc0 (by decide) rfl qf_X0_26 dX0_lifts_45 ?_
      exact s_iret hC hr hlk dX0_lifts_48
    refine s_iconst hC dX0_lifts_56 (v := 0) (by decide) ?_
    exact s_iret hC hr hlk dX0_lifts_57
  refine s_iconst hC dX0_lifts_7 (v := 0) (by decide) ?_
  exact s_iret hC hr hlk dX0_lifts_8
theorem dX0_holdBuckets_0 : decode cX0_holdBuckets 0 = .ok (.aload_n 0, 1) := by decide +kernel
theorem dX0_holdBuckets_1 : decode cX0_holdBuckets 1 = .ok (.sipush (-9999), 3) := by decide +kernel
theorem dX0_holdBuckets_4 : decode cX0_holdBuckets 4 = .ok (.aload_n 0, 1) := by decide +kernel
theorem dX0_holdBuckets_5 : decode cX0_holdBuckets 5 = .ok (.getfield 32, 3) := by decide +kernel
theorem dX0_holdBuckets_8 : decode cX0_holdBuckets 8 = .ok (.sipush 9999, 3) := by decide +kernel
theorem dX0_holdBuckets_11 : decode cX0_holdBuckets 11 = .ok (.invokestatic 51, 3) := by decide +kernel
theorem dX0_holdBuckets_14 : decode cX0_holdBuckets 14 = .ok (.invokestatic 42, 3) := by decide +kernel
theorem dX0_holdBuckets_17 : decode cX0_holdBuckets 17 = .ok (.putfield 32, 3) := by decide +kernel
theorem dX0_holdBuckets_20 : decode cX0_holdBuckets 20 = .ok (.return_, 1) := by decide +kernel
def f_X0_holdBuckets (X : x_X) (v0 : Nat) (μ : x_M) : Option (Unit × x_M) :=
  (ck (x_kd X v0 = 0 + 1) (lt (μ.1 v0 5) (fun (v2 : Int32) => (lt (if (9999 : Int32) < v2 then (9999 : Int32) else v2) (fun (v3 : Int32) => (ck (x_kd X v0 = 0 + 1) (lt (x_sI μ v0 5 (if (-9999 : Int32) < v3 then v3 else (-9999 : Int32))) (fun (μ4 : x_M) => (some ((), μ4))))))))))
set_option maxRecDepth 100000 in
theorem m_X0_holdBuckets (hI : x_I X) (v0 : Nat) (μ : x_M) : x_Met X x_Z0 l yX0_holdBuckets cX0_holdBuckets 1 none 1 [vR v0] μ rkV (f_X0_holdBuckets X v0 μ) := by
  refine x_enter hI (by decide +kernel) (Nat.le_of_ble_eq_true rfl) (fun p e s m args below meth c hC hr hlk => ?_)
  unfold f_X0_holdBuckets
  refine s_lv (lv' := [(0, vR v0)]) [0] rfl ?_
  refine s_aload_n hC 0 dX0_holdBuckets_0 rfl ?_
  refine s_sipush hC dX0_holdBuckets_1 (v := -9999) (by decide) ?_
  refine s_aload_n hC 0 dX0_holdBuckets_4 rfl ?_
  refine s_getI hC xc0 (by decide) rfl qf_X0_32 dX0_holdBuckets_5 ?_
  refine s_sipush hC dX0_holdBuckets_8 (v := 9999) (by decide) ?_
  refine s_ltI2 (fun v2 => ?_)
  refine s_min hC dX0_holdBuckets_11 qm_X0_51 qt_Math_min qc_Math qd_Math_min (by decide) (Nat.le_of_ble_eq_true rfl) ?_
  refine s_ltI (fun v3 => ?_)
  refine s_max hC dX0_holdBuckets_14 qm_X0_42 qt_Math_max qc_Math qd_Math_max (by decide) (Nat.le_of_ble_eq_true rfl) ?_
  refine s_putI hC xc0 (by decide) rfl rfl qf_X0_32 dX0_holdBuckets_17 ?_
  refine s_ltM (fun μ4 => ?_)
  exact s_vret hC hr hlk dX0_holdBuckets_20
theorem dX0_changeRow_0 : decode cX0_changeRow 0 = .ok (.aload_n 0, 1) := by decide +kernel
theorem dX0_changeRow_1 : decode cX0_changeRow 1 = .ok (.getfield 9, 3) := by decide +kernel
theorem dX0_changeRow_4 : decode cX0_changeRow 4 = .ok (.iload_n 1, 1) := by decide +kernel
theorem dX0_changeRow_5 : decode cX0_changeRow 5 = .ok (.invokestatic 38, 3) := by decide +kernel
theorem dX0_changeRow_8 : decode cX0_changeRow 8 = .ok (.istore_n 3, 1) := by decide +kernel
theorem dX0_changeRow_9 : decode cX0_changeRow 9 = .ok (.iload_n 1, 1) := by decide +kernel
theorem dX0_changeRow_10 : decode cX0_changeRow 10 = .ok (.ifCond .lt 19, 3) := by decide +kernel
theorem dX0_changeRow_13 : decode cX0_changeRow 13 = .ok (.iload_n 1, 1) := by decide +kernel
theorem dX0_changeRow_14 : decode cX0_changeRow 14 = .ok (.aload_n 0, 1) := by decide +kernel
theorem dX0_changeRow_15 : decode cX0_changeRow 15 = .ok (.getfield 9, 3) := by decide +kernel
theorem dX0_changeRow_18 : decode cX0_changeRow 18 = .ok (.arraylength, 1) := by decide +kernel
theorem dX0_changeRow_19 : decode cX0_changeRow 19 = .ok (.if_icmp .ge 10, 3) := by decide +kernel
theorem dX0_changeRow_22 : decode cX0_changeRow 22 = .ok (.aload_n 0, 1) := by decide +kernel
theorem dX0_changeRow_23 : decode cX0_changeRow 23 = .ok (.getfield 9, 3) := by decide +kernel
theorem dX0_changeRow_26 : decode cX0_changeRow 26 = .ok (.iload_n 1, 1) := by decide +kernel
theorem dX0_changeRow_27 : decode cX0_changeRow 27 = .ok (.iload_n 2, 1) := by decide +kernel
theorem dX0_changeRow_28 : decode cX0_changeRow 28 = .ok (.iastore, 1) := by decide +kernel
theorem dX0_changeRow_29 : decode cX0_changeRow 29 = .ok (.iload_n 3, 1) := by decide +kernel
theorem dX0_changeRow_30 : decode cX0_changeRow 30 = .ok (.ireturn, 1) := by decide +kernel
def f_X0_changeRow (X : x_X) (v0 : Nat) (v1 : Int32) (v2 : Int32) (μ : x_M) : Option (Int32 × x_M) :=
  (ck (x_kd X v0 = 0 + 1) (lt (μ.2.1 v0 1) (fun (v4 : Nat) => (bd (f_X9_at X v4 v1 μ) (fun (v5 : Int32) (μ6 : x_M) => (if v1 < 0 then (some (v5, μ6)) else (ck (x_kd X v0 = 0 + 1) (lt (μ6.2.1 v0 1) (fun (v7 : Nat) => (ck (x_kd X v7 = 20 ∨ x_kd X v7 = 23 ∨ x_kd X v7 = 40 ∨ x_kd X v7 = 41) (if (nI (x_ln X v7)) ≤ v1 then (some (v5, μ6)) else (ck (x_kd X v0 = 0 + 1) (lt (μ6.2.1 v0 1) (fun (v8 : Nat) => (ck (x_kd X v8 = 20 ∧ x_ix v1 (x_ln X v8)) (lt (x_sI μ6 v8 (v1).toNatClampNeg v2) (fun (μ9 : x_M) => (some (v5, μ9)))))))))))))))))))
set_option maxRecDepth 100000 in
theorem m_X0_changeRow (hI : x_I X) (v0 : Nat) (v1 : Int32) (v2 : Int32) (μ : x_M) : x_Met X x_Z0 l yX0_changeRow cX0_changeRow 4 (some .int) 2 [vR v0, vI v1, vI v2] μ rkI (f_X0_changeRow X v0 v1 v2 μ) := by
  refine x_enter hI (by decide +kernel) (Nat.le_of_ble_eq_true rfl) (fun p e s m args below meth c hC hr hlk => ?_)
  unfold f_X0_changeRow
  refine s_lv (lv' := [(0, vR v0), (1, vI v1), (2, vI v2)]) [0, 1, 2] rfl ?_
  refine s_aload_n hC 0 dX0_changeRow_0 rfl ?_
  refine s_getR hC xc0 (by decide) rfl qf_X0_9 dX0_changeRow_1 ?_
  refine s_ltR (fun v4 => ?_)
  refine s_iload_n hC 1 dX0_changeRow_4 rfl ?_
  refine s_callS hC (avs := [vR v4, vI v1]) (st := []) (nest := true) (m_X9_at hI v4 v1 μ) dX0_changeRow_5 qm_X0_38 qt_X9_at qc_X9 qd_X9_at qh_X9_at (by decide) (fun _ => Nat.le_of_ble_eq_true rfl) (Nat.le_of_ble_eq_true rfl) (fun v5 μ6 => ?_)
  refine s_istore_n hC dX0_changeRow_8 (by decide) (lv' := [(3, vI v5), (0, vR v0), (1, vI v1), (2, vI v2)]) rfl ?_
  refine s_iload_n hC 2 dX0_changeRow_9 rfl ?_
  refine s_if_lt hC dX0_changeRow_10 (tgt := 29) (by decide) ?_ ?_
  · refine s_iload_n hC 0 dX0_changeRow_29 rfl ?_
    exact s_iret hC hr hlk dX0_changeRow_30
  refine s_iload_n hC 2 dX0_changeRow_13 rfl ?_
  refine s_aload_n hC 1 dX0_changeRow_14 rfl ?_
  refine s_getR hC xc0 (by decide) rfl qf_X0_9 dX0_changeRow_15 ?_
  refine s_ltR (fun v7 => ?_)
  refine s_alen hC dX0_changeRow_18 ?_
  refine s_icmp_ge hC dX0_changeRow_19 (tgt := 29) (by decide) ?_ ?_
  · refine s_iload_n hC 0 dX0_changeRow_29 rfl ?_
    exact s_iret hC hr hlk dX0_changeRow_30
  refine s_aload_n hC 1 dX0_changeRow_22 rfl ?_
  refine s_getR hC xc0 (by decide) rfl qf_X0_9 dX0_changeRow_23 ?_
  refine s_ltR (fun v8 => ?_)
  refine s_iload_n hC 2 dX0_changeRow_26 rfl ?_
  refine s_iload_n hC 3 dX0_changeRow_27 rfl ?_
  refine s_iast hC dX0_changeRow_28 ?_
  refine s_ltM (fun μ9 => ?_)
  refine s_iload_n hC 0 dX0_changeRow_29 rfl ?_
  exact s_iret hC hr hlk dX0_changeRow_30
theorem dX0_pours_0 : decode cX0_pours 0 = .ok (.aload_n 0, 1) := by decide +kernel
theorem dX0_pours_1 : decode cX0_pours 1 = .ok (.getfield 19, 3) := by decide +kernel
theorem dX0_pours_4 : decode cX0_pours 4 = .ok (.ifCond .ne 5, 3) := by decide +kernel
theorem dX0_pours_7 : decode cX0_pours 7 = .ok (.iconst 0, 1) := by decide +kernel
theorem dX0_pours_8 : decode cX0_pours 8 = .ok (.ireturn, 1) := by decide +kernel
theorem dX0_pours_9 : decode cX0_pours 9 = .ok (.aload_n 0, 1) := by decide +kernel
theorem dX0_pours_10 : decode cX0_pours 10 = .ok (.getfield 23, 3) := by decide +kernel
theorem dX0_pours_13 : decode cX0_pours 13 = .ok (.tableswitch 108 1 6 #[39, 58, 108, 39, 68, 90], 39) := by decide +kernel
theorem dX0_pours_52 : decode cX0_pours 52 = .ok (.aload_n 0, 1) := by decide +kernel
theorem dX0_pours_53 : decode cX0_pours 53 = .ok (.getfield 29, 3) := by decide +kernel
theorem dX0_pours_56 : decode cX0_pours 56 = .ok (.aload_n 0, 1) := by decide +kernel
theorem dX0_pours_57 : decode cX0_pours 57 = .ok (.getfield 32, 3) := by decide +kernel
theorem dX0_pours_60 : decode cX0_pours 60 = .ok (.iconst 0, 1) := by decide +kernel
theorem dX0_pours_61 : decode cX0_pours 61 = .ok (.invokestatic 42, 3) := by decide +kernel
theorem dX0_pours_64 : decode cX0_pours 64 = .ok (.iload_n 2, 1) := by decide +kernel
theorem dX0_pours_65 : decode cX0_pours 65 = .ok (.imul, 1) := by decide +kernel
theorem dX0_pours_66 : decode cX0_pours 66 = .ok (.bipush 100, 2) := by decide +kernel
theorem dX0_pours_68 : decode cX0_pours 68 = .ok (.idiv, 1) := by decide +kernel
theorem dX0_pours_69 : decode cX0_pours 69 = .ok (.iadd, 1) := by decide +kernel
theorem dX0_pours_70 : decode cX0_pours 70 = .ok (.ireturn, 1) := by decide +kernel
theorem dX0_pours_71 : decode cX0_pours 71 = .ok (.aload_n 0, 1) := by decide +kernel
theorem dX0_pours_72 : decode cX0_pours 72 = .ok (.getfield 29, 3) := by decide +kernel
theorem dX0_pours_75 : decode cX0_pours 75 = .ok (.aload_n 0, 1) := by decide +kernel
theorem dX0_pours_76 : decode cX0_pours 76 = .ok (.getfield 26, 3) := by decide +kernel
theorem dX0_pours_79 : decode cX0_pours 79 = .ok (.isub, 1) := by decide +kernel
theorem dX0_pours_80 : decode cX0_pours 80 = .ok (.ireturn, 1) := by decide +kernel
theorem dX0_pours_81 : decode cX0_pours 81 = .ok (.aload_n 0, 1) := by decide +kernel
theorem dX0_pours_82 : decode cX0_pours 82 = .ok (.getfield 29, 3) := by decide +kernel
theorem dX0_pours_85 : decode cX0_pours 85 = .ok (.aload_n 0, 1) := by decide +kernel
theorem dX0_pours_86 : decode cX0_pours 86 = .ok (.getfield 26, 3) := by decide +kernel
theorem dX0_pours_89 : decode cX0_pours 89 = .ok (.isub, 1) := by decide +kernel
theorem dX0_pours_90 : decode cX0_pours 90 = .ok (.iload_n 1, 1) := by decide +kernel
theorem dX0_pours_91 : decode cX0_pours 91 = .ok (.bipush 30, 2) := by decide +kernel
theorem dX0_pours_93 : decode cX0_pours 93 = .ok (.if_icmp .le 7, 3) := by decide +kernel
theorem dX0_pours_96 : decode cX0_pours 96 = .ok (.iconst 1, 1) := by decide +kernel
theorem dX0_pours_97 : decode cX0_pours 97 = .ok (.goto 4, 3) := by decide +kernel
theorem dX0_pours_100 : decode cX0_pours 100 = .ok (.iconst 0, 1) := by decide +kernel
theorem dX0_pours_101 : decode cX0_pours 101 = .ok (.isub, 1) := by decide +kernel
theorem dX0_pours_102 : decode cX0_pours 102 = .ok (.ireturn, 1) := by decide +kernel
theorem dX0_pours_103 : decode cX0_pours 103 = .ok (.aload_n 0, 1) := by decide +kernel
theorem dX0_pours_104 : decode cX0_pours 104 = .ok (.getfield 29, 3) := by decide +kernel
theorem dX0_pours_107 : decode cX0_pours 107 = .ok (.aload_n 0, 1) := by decide +kernel
theorem dX0_pours_108 : decode cX0_pours 108 = .ok (.getfield 9, 3) := by decide +kernel
theorem dX0_pours_111 : decode cX0_pours 111 = .ok (.iload_n 3, 1) := by decide +kernel
theorem dX0_pours_112 : decode cX0_pours 112 = .ok (.iconst 4, 1) := by decide +kernel
theorem dX0_pours_113 : decode cX0_pours 113 = .ok (.invokestatic 48, 3) := by decide +kernel
theorem dX0_pours_116 : decode cX0_pours 116 = .ok (.invokestatic 38, 3) := by decide +kernel
theorem dX0_pours_119 : decode cX0_pours 119 = .ok (.iadd, 1) := by decide +kernel
theorem dX0_pours_120 : decode cX0_pours 120 = .ok (.ireturn, 1) := by decide +kernel
theorem dX0_pours_121 : decode cX0_pours 121 = .ok (.aload_n 0, 1) := by decide +kernel
theorem dX0_pours_122 : decode cX0_pours 122 = .ok (.getfield 29, 3) := by decide +kernel
theorem dX0_pours_125 : decode cX0_pours 125 = .ok (.ireturn, 1) := by decide +kernel
def f_X0_pours (X : x_X) (v0 : Nat) (v1 : Int32) (v2 : Int32) (v3 : Int32) (μ : x_M) : Option (Int32 × x_M) :=
  (ck (x_kd X v0 = 0 + 1) (if (μ.1 v0 2) = 0 then (some ((0 : Int32), μ)) else (ck (x_kd X v0 = 0 + 1) (lt (μ.1 v0 3) (fun (v5 : Int32) => (x_swo [(1 : Int32), (2 : Int32), (3 : Int32), (4 : Int32), (5 : Int32), (6 : Int32)] [(ck (x_kd X v0 = 0 + 1) (ck (x_kd X v0 = 0 + 1) (lt (μ.1 v0 5) (fun (v6 : Int32) => (ck (¬ (100 : Int32) = 0) (some (((μ.1 v0 6) + (((if v6 < (0 : Int32) then (0 : Int32) else v6) * v2) / (100 : Int32))), μ))))))), (ck (x_kd X v0 = 0 + 1) (ck (x_kd X v0 = 0 + 1) (some (((μ.1 v0 6) - (μ.1 v0 4)), μ)))), (ck (x_kd X v0 = 0 + 1) (some ((μ.1 v0 6), μ))), (ck (x_kd X v0 = 0 + 1) (ck (x_kd X v0 = 0 + 1) (lt (μ.1 v0 5) (fun (v7 : Int32) => (ck (¬ (100 : Int32) = 0) (some (((μ.1 v0 6) + (((if v7 < (0 : Int32) then (0 : Int32) else v7) * v2) / (100 : Int32))), μ))))))), (ck (x_kd X v0 = 0 + 1) (ck (x_kd X v0 = 0 + 1) (if v1 ≤ (30 : Int32) then (some ((((μ.1 v0 6) - (μ.1 v0 4)) - (0 : Int32)), μ)) else (some ((((μ.1 v0 6) - (μ.1 v0 4)) - (1 : Int32)), μ))))), (ck (x_kd X v0 = 0 + 1) (ck (x_kd X v0 = 0 + 1) (lt (μ.2.1 v0 1) (fun (v8 : Nat) => (bd (f_J9_floorMod_7cf53 X v3 (4 : Int32) μ) (fun (v9 : Int32) (μ10 : x_M) => (bd (f_X9_at X v8 v9 μ10) (fun (v11 : Int32) (μ12 : x_M) => (some (((μ.1 v0 6) + v11), μ12))))))))))] (ck (x_kd X v0 = 0 + 1) (some ((μ.1 v0 6), μ))) v5))))))
set_option maxRecDepth 100000 in
theorem m_X0_pours (hI : x_I X) (v0 : Nat) (v1 : Int32) (v2 : Int32) (v3 : Int32) (μ : x_M) : x_Met X x_Z0 l yX0_pours cX0_pours 4 (some .int) 2 [vR v0, vI v1, vI v2, vI v3] μ rkI (f_X0_pours X v0 v1 v2 v3 μ) := by
  refine x_enter hI (by decide +kernel) (Nat.le_of_ble_eq_true rfl) (fun p e s m args below meth c hC hr hlk => ?_)
  unfold f_X0_pours
  refine s_lv (lv' := [(0, vR v0), (1, vI v1), (2, vI v2), (3, vI v3)]) [0, 1, 2, 3] rfl ?_
  refine s_aload_n hC 0 dX0_pours_0 rfl ?_
  refine s_getI hC xc0 (by decide) rfl qf_X0_19 dX0_pours_1 ?_
  refine s_if_ne hC dX0_pours_4 (tgt := 9) (by decide) ?_ ?_
  · refine s_aload_n hC 0 dX0_pours_9 rfl ?_
    refine s_getI hC xc0 (by decide) rfl qf_X0_23 dX0_pours_10 ?_
    refine s_ltI (fun v5 => ?_)
    refine s_table hC dX0_pours_13 [((1 : Int32), 52), ((2 : Int32), 71), ((3 : Int32), 121), ((4 : Int32), 52), ((5 : Int32), 81), ((6 : Int32), 103)] 121 (by decide +kernel) ⟨?_, ?_, ?_, ?_, ?_, ?_, trivial⟩ ?_
    · refine s_aload_n hC 0 dX0_pours_52 rfl ?_
      refine s_getI hC xc0 (by decide) rfl qf_X0_29 dX0_pours_53 ?_
      refine s_aload_n hC 0 dX0_pours_56 rfl ?_
      refine s_getI hC xc0 (by decide) rfl qf_X0_32 dX0_pours_57 ?_
      refine s_iconst hC dX0_pours_60 (v := 0) (by decide) ?_
      refine s_ltI2 (fun v6 => ?_)
      refine s_max hC dX0_pours_61 qm_X0_42 qt_Math_max qc_Math qd_Math_max (by decide) (Nat.le_of_ble_eq_true rfl) ?_
      refine s_iload_n hC 2 dX0_pours_64 rfl ?_
      refine s_imul hC dX0_pours_65 ?_
      refine s_bipush hC dX0_pours_66 (v := 100) (by decide) ?_
      refine s_idiv hC dX0_pours_68 ?_
      refine s_iadd hC dX0_pours_69 ?_
      exact s_iret hC hr hlk dX0_pours_70
    · refine s_aload_n hC 0 dX0_pours_71 rfl ?_
      refine s_getI hC xc0 (by decide) rfl qf_X0_29 dX0_pours_72 ?_
      refine s_aload_n hC 0 dX0_pours_75 rfl ?_
      refine s_getI hC xc0 (by decide) rfl qf_X0_26 dX0_pours_76 ?_
      refine s_isub hC dX0_pours_79 ?_
      exact s_iret hC hr hlk dX0_pours_80
    · refine s_aload_n hC 0 dX0_pours_121 rfl ?_
      refine s_getI hC xc0 (by decide) rfl qf_X0_29 dX0_pours_122 ?_
      exact s_iret hC hr hlk dX0_pours_125
    · refine s_aload_n hC 0 dX0_pours_52 rfl ?_
      refine s_getI hC xc0 (by decide) rfl qf_X0_29 dX0_pours_53 ?_
      refine s_aload_n hC 0 dX0_pours_56 rfl ?_
      refine s_getI hC xc0 (by decide) rfl qf_X0_32 dX0_pours_57 ?_
      refine s_iconst hC dX0_pours_60 (v := 0) (by decide) ?_
      refine s_ltI2 (fun v7 => ?_)
      refine s_max hC dX0_pours_61 qm_X0_42 qt_Math_max qc_Math qd_Math_max (by decide) (Nat.le_of_ble_eq_true rfl) ?_
      refine s_iload_n hC 2 dX0_pours_64 rfl ?_
      refine s_imul hC dX0_pours_65 ?_
      refine s_bipush hC dX0_pours_66 (v := 100) (by decide) ?_
      refine s_idiv hC dX0_pours_68 ?_
      refine s_iadd hC dX0_pours_69 ?_
      exact s_iret hC hr hlk dX0_pours_70
    · refine s_aload_n hC 0 dX0_pours_81 rfl ?_
      refine s_getI hC xc0 (by decide) rfl qf_X0_29 dX0_pours_82 ?_
      refine s_aload_n hC 0 dX0_pours_85 rfl ?_
      refine s_getI hC xc0 (by decide) rfl qf_X0_26 dX0_pours_86 ?_
      refine s_isub hC dX0_pours_89 ?_
      refine s_iload_n hC 1 dX0_pours_90 rfl ?_
      refine s_bipush hC dX0_pours_91 (v := 30) (by decide) ?_
      refine s_icmp_le hC dX0_pours_93 (tgt := 100) (by decide) ?_ ?_
      · refine s_iconst hC dX0_pours_100 (v := 0) (by decide) ?_
        refine s_isub hC dX0_pours_101 ?_
        exact s_iret hC hr hlk dX0_pours_102
      refine s_iconst hC dX0_pours_96 (v := 1) (by decide) ?_
      refine s_goto hC dX0_pours_97 (tgt := 101) (by decide) ?_
      refine s_isub hC dX0_pours_101 ?_
      exact s_iret hC hr hlk dX0_pours_102
    · refine s_aload_n hC 0 dX0_pours_103 rfl ?_
      refine s_getI hC xc0 (by decide) rfl qf_X0_29 dX0_pours_104 ?_
      refine s_aload_n hC 0 dX0_pours_107 rfl ?_
      refine s_getR hC xc0 (by decide) rfl qf_X0_9 dX0_pours_108 ?_
      refine s_ltR (fun v8 => ?_)
      refine s_iload_n hC 3 dX0_pours_111 rfl ?_
      refine s_iconst hC dX0_pours_112 (v := 4) (by decide) ?_
      refine s_callS hC (avs := [vI v3, vI (4 : Int32)]) (st := [vR v8, vI (μ.1 v0 6)]) (nest := false) (m_J9_floorMod_7cf53 hI v3 (4 : Int32) μ) dX0_pours_113 qm_X0_48 qt_J9_floorMod_7cf53 qc_J9 qd_J9_floorMod_7cf53 qh_J9_floorMod_7cf53 (by decide) (fun _ => Nat.le_of_ble_eq_true rfl) (Nat.le_of_ble_eq_true rfl) (fun v9 μ10 => ?_)
      refine s_callS hC (avs := [vR v8, vI v9]) (st := [vI (μ.1 v0 6)]) (nest := true) (m_X9_at hI v8 v9 μ10) dX0_pours_116 qm_X0_38 qt_X9_at qc_X9 qd_X9_at qh_X9_at (by decide) (fun _ => Nat.le_of_ble_eq_true rfl) (Nat.le_of_ble_eq_true rfl) (fun v11 μ12 => ?_)
      refine s_iadd hC dX0_pours_119 ?_
      exact s_iret hC hr hlk dX0_pours_120
    refine s_aload_n hC 0 dX0_pours_121 rfl ?_
    refine s_getI hC xc0 (by decide) rfl qf_X0_29 dX0_pours_122 ?_
    exact s_iret hC hr hlk dX0_pours_125
  refine s_iconst hC dX0_pours_7 (v := 0) (by decide) ?_
  exact s_iret hC hr hlk dX0_pours_8
theorem dX0_copyFrom_0 : decode cX0_copyFrom 0 = .ok (.aload_n 0, 1) := by decide +kernel
theorem dX0_copyFrom_1 : decode cX0_copyFrom 1 = .ok (.aload_n 1, 1) := by decide +kernel
theorem dX0_copyFrom_2 : decode cX0_copyFrom 2 = .ok (.getfield 19, 3) := by decide +kernel
theorem dX0_copyFrom_5 : decode cX0_copyFrom 5 = .ok (.putfield 19, 3) := by decide +kernel
theorem dX0_copyFrom_8 : decode cX0_copyFrom 8 = .ok (.aload_n 0, 1) := by decide +kernel
theorem dX0_copyFrom_9 : decode cX0_copyFrom 9 = .ok (.aload_n 1, 1) := by decide +kernel
theorem dX0_copyFrom_10 : decode cX0_copyFrom 10 = .ok (.getfield 23, 3) := by decide +kernel
theorem dX0_copyFrom_13 : decode cX0_copyFrom 13 = .ok (.putfield 23, 3) := by decide +kernel
theorem dX0_copyFrom_16 : decode cX0_copyFrom 16 = .ok (.aload_n 0, 1) := by decide +kernel
theorem dX0_copyFrom_17 : decode cX0_copyFrom 17 = .ok (.aload_n 1, 1) := by decide +kernel
theorem dX0_copyFrom_18 : decode cX0_copyFrom 18 = .ok (.getfield 26, 3) := by decide +kernel
theorem dX0_copyFrom_21 : decode cX0_copyFrom 21 = .ok (.putfield 26, 3) := by decide +kernel
theorem dX0_copyFrom_24 : decode cX0_copyFrom 24 = .ok (.aload_n 0, 1) := by decide +kernel
theorem dX0_copyFrom_25 : decode cX0_copyFrom 25 = .ok (.aload_n 1, 1) := by decide +kernel
theorem dX0_copyFrom_26 : decode cX0_copyFrom 26 = .ok (.getfield 32, 3) := by decide +kernel
theorem dX0_copyFrom_29 : decode cX0_copyFrom 29 = .ok (.putfield 32, 3) := by decide +kernel
theorem dX0_copyFrom_32 : decode cX0_copyFrom 32 = .ok (.aload_n 0, 1) := by decide +kernel
theorem dX0_copyFrom_33 : decode cX0_copyFrom 33 = .ok (.aload_n 1, 1) := by decide +kernel
theorem dX0_copyFrom_34 : decode cX0_copyFrom 34 = .ok (.getfield 29, 3) := by decide +kernel
theorem dX0_copyFrom_37 : decode cX0_copyFrom 37 = .ok (.putfield 29, 3) := by decide +kernel
theorem dX0_copyFrom_40 : decode cX0_copyFrom 40 = .ok (.aload_n 0, 1) := by decide +kernel
theorem dX0_copyFrom_41 : decode cX0_copyFrom 41 = .ok (.aload_n 1, 1) := by decide +kernel
theorem dX0_copyFrom_42 : decode cX0_copyFrom 42 = .ok (.getfield 35, 3) := by decide +kernel
theorem dX0_copyFrom_45 : decode cX0_copyFrom 45 = .ok (.putfield 35, 3) := by decide +kernel
theorem dX0_copyFrom_48 : decode cX0_copyFrom 48 = .ok (.iconst 0, 1) := by decide +kernel
theorem dX0_copyFrom_49 : decode cX0_copyFrom 49 = .ok (.istore_n 2, 1) := by decide +kernel
theorem dX0_copyFrom_50 : decode cX0_copyFrom 50 = .ok (.iload_n 2, 1) := by decide +kernel
theorem dX0_copyFrom_51 : decode cX0_copyFrom 51 = .ok (.iconst 4, 1) := by decide +kernel
theorem dX0_copyFrom_52 : decode cX0_copyFrom 52 = .ok (.if_icmp .ge 23, 3) := by decide +kernel
theorem dX0_copyFrom_55 : decode cX0_copyFrom 55 = .ok (.aload_n 0, 1) := by decide +kernel
theorem dX0_copyFrom_56 : decode cX0_copyFrom 56 = .ok (.getfield 9, 3) := by decide +kernel
theorem dX0_copyFrom_59 : decode cX0_copyFrom 59 = .ok (.iload_n 2, 1) := by decide +kernel
theorem dX0_copyFrom_60 : decode cX0_copyFrom 60 = .ok (.aload_n 1, 1) := by decide +kernel
theorem dX0_copyFrom_61 : decode cX0_copyFrom 61 = .ok (.getfield 9, 3) := by decide +kernel
theorem dX0_copyFrom_64 : decode cX0_copyFrom 64 = .ok (.iload_n 2, 1) := by decide +kernel
theorem dX0_copyFrom_65 : decode cX0_copyFrom 65 = .ok (.invokestatic 38, 3) := by decide +kernel
theorem dX0_copyFrom_68 : decode cX0_copyFrom 68 = .ok (.iastore, 1) := by decide +kernel
theorem dX0_copyFrom_69 : decode cX0_copyFrom 69 = .ok (.iinc 2 1, 3) := by decide +kernel
theorem dX0_copyFrom_72 : decode cX0_copyFrom 72 = .ok (.goto (-22), 3) := by decide +kernel
theorem dX0_copyFrom_75 : decode cX0_copyFrom 75 = .ok (.return_, 1) := by decide +kernel
def f_X0_copyFrom_L50 (X : x_X) : Nat → Nat → Nat → Int32 → x_M → Option (Unit × x_M)
  | 0, _, _, _, _ => none
  | n + 1, v10, v11, v12, μ13 =>
    (if (4 : Int32) ≤ v12 then (some ((), μ13)) else (ck (x_kd X v10 = 0 + 1) (lt (μ13.2.1 v10 1) (fun (v14 : Nat) => (ck (x_kd X v11 = 0 + 1) (lt (μ13.2.1 v11 1) (fun (v15 : Nat) => (bd (f_X9_at X v15 v12 μ13) (fun (v16 : Int32) (μ17 : x_M) => (ck (x_kd X v14 = 20 ∧ x_ix v12 (x_ln X v14)) (lt (x_sI μ17 v14 (v12).toNatClampNeg v16) (fun (μ18 : x_M) => (f_X0_copyFrom_L50 X n v10 v11 (v12 + (1 : Int32)) μ18)))))))))))))
set_option maxRecDepth 100000 in
theorem j_X0_copyFrom_L50 (hI : x_I X) (hC : x_C X x_Z0 p (x_rm 2) s m c cX0_copyFrom RX0 3 0 0 2) (hr : meth.sig.returnType = none) (hlk : meth.locks = false) : ∀ (n : Nat) (v10 : Nat) (v11 : Nat) (v12 : Int32) (μ13 : x_M), SM X 3 2 rkV p l e s m args below meth c 50 [(0, vR v10), (1, vR v11), (2, vI v12)] [] μ13 (f_X0_copyFrom_L50 X n v10 v11 v12 μ13) := by
  intro n
  induction n with
  | zero => intro v10 v11 v12 μ13; exact s_none
  | succ n ih =>
    intro v10 v11 v12 μ13
    unfold f_X0_copyFrom_L50
    refine s_iload_n hC 2 dX0_copyFrom_50 rfl ?_
    refine s_iconst hC dX0_copyFrom_51 (v := 4) (by decide) ?_
    refine s_icmp_ge hC dX0_copyFrom_52 (tgt := 75) (by decide) ?_ ?_
    · exact s_vret hC hr hlk dX0_copyFrom_75
    refine s_aload_n hC 0 dX0_copyFrom_55 rfl ?_
    refine s_getR hC xc0 (by decide) rfl qf_X0_9 dX0_copyFrom_56 ?_
    refine s_ltR (fun v14 => ?_)
    refine s_iload_n hC 2 dX0_copyFrom_59 rfl ?_
    refine s_aload_n hC 1 dX0_copyFrom_60 rfl ?_
    refine s_getR hC xc0 (by decide) rfl qf_X0_9 dX0_copyFrom_61 ?_
    refine s_ltR (fun v15 => ?_)
    refine s_iload_n hC 2 dX0_copyFrom_64 rfl ?_
    refine s_callS hC (avs := [vR v15, vI v12]) (st := [vI v12, vR v14]) (nest := true) (m_X9_at hI v15 v12 μ13) dX0_copyFrom_65 qm_X0_38 qt_X9_at qc_X9 qd_X9_at qh_X9_at (by decide) (fun _ => Nat.le_of_ble_eq_true rfl) (Nat.le_of_ble_eq_true rfl) (fun v16 μ17 => ?_)
    refine s_iast hC dX0_copyFrom_68 ?_
    refine s_ltM (fun μ18 => ?_)
    refine s_iinc hC 2 dX0_copyFrom_69 rfl (w := 1) (by decide) (by decide) (lv' := [(2, vI (v12 + (1 : Int32))), (0, vR v10), (1, vR v11)]) rfl ?_
    refine s_goto hC dX0_copyFrom_72 (tgt := 50) (by decide) ?_
    refine s_lv (lv' := [(0, vR v10), (1, vR v11), (2, vI (v12 + (1 : Int32)))]) [1, 2, 0] rfl ?_
    exact ih _ _ _ _
def f_X0_copyFrom (X : x_X) (v0 : Nat) (v1 : Nat) (μ : x_M) : Option (Unit × x_M) :=
  (ck (x_kd X v1 = 0 + 1) (lt (μ.1 v1 2) (fun (v4 : Int32) => (ck (x_kd X v0 = 0 + 1 ∧ (v4 = 0 ∨ v4 = 1)) (lt (x_sI μ v0 2 v4) (fun (μ3 : x_M) => (ck (x_kd X v1 = 0 + 1) (ck (x_kd X v0 = 0 + 1) (lt (x_sI μ3 v0 3 (μ3.1 v1 3)) (fun (μ5 : x_M) => (ck (x_kd X v1 = 0 + 1) (ck (x_kd X v0 = 0 + 1) (lt (x_sI μ5 v0 4 (μ5.1 v1 4)) (fun (μ6 : x_M) => (ck (x_kd X v1 = 0 + 1) (ck (x_kd X v0 = 0 + 1) (lt (x_sI μ6 v0 5 (μ6.1 v1 5)) (fun (μ7 : x_M) => (ck (x_kd X v1 = 0 + 1) (ck (x_kd X v0 = 0 + 1) (lt (x_sI μ7 v0 6 (μ7.1 v1 6)) (fun (μ8 : x_M) => (ck (x_kd X v1 = 0 + 1) (ck (x_kd X v0 = 0 + 1) (lt (x_sI μ8 v0 7 (μ8.1 v1 7)) (fun (μ9 : x_M) => (f_X0_copyFrom_L50 X 4096 v0 v1 (0 : Int32) μ9)))))))))))))))))))))))))))
set_option maxRecDepth 100000 in
theorem m_X0_copyFrom (hI : x_I X) (v0 : Nat) (v1 : Nat) (μ : x_M) : x_Met X x_Z0 l yX0_copyFrom cX0_copyFrom 3 none 2 [vR v0, vR v1] μ rkV (f_X0_copyFrom X v0 v1 μ) := by
  refine x_enter hI (by decide +kernel) (Nat.le_of_ble_eq_true rfl) (fun p e s m args below meth c hC hr hlk => ?_)
  unfold f_X0_copyFrom
  refine s_lv (lv' := [(0, vR v0), (1, vR v1)]) [0, 1] rfl ?_
  refine s_aload_n hC 0 dX0_copyFrom_0 rfl ?_
  refine s_aload_n hC 1 dX0_copyFrom_1 rfl ?_
  refine s_getI hC xc0 (by decide) rfl qf_X0_19 dX0_copyFrom_2 ?_
  refine s_ltI (fun v4 => ?_)
  refine s_putZ hC xc0 (by decide) rfl rfl qf_X0_19 dX0_copyFrom_5 ?_
  refine s_ltM (fun μ3 => ?_)
  refine s_aload_n hC 0 dX0_copyFrom_8 rfl ?_
  refine s_aload_n hC 1 dX0_copyFrom_9 rfl ?_
  refine s_getI hC xc0 (by decide) rfl qf_X0_23 dX0_copyFrom_10 ?_
  refine s_putI hC xc0 (by decide) rfl rfl qf_X0_23 dX0_copyFrom_13 ?_
  refine s_ltM (fun μ5 => ?_)
  refine s_aload_n hC 0 dX0_copyFrom_16 rfl ?_
  refine s_aload_n hC 1 dX0_copyFrom_17 rfl ?_
  refine s_getI hC xc0 (by decide) rfl qf_X0_26 dX0_copyFrom_18 ?_
  refine s_putI hC xc0 (by decide) rfl rfl qf_X0_26 dX0_copyFrom_21 ?_
  refine s_ltM (fun μ6 => ?_)
  refine s_aload_n hC 0 dX0_copyFrom_24 rfl ?_
  refine s_aload_n hC 1 dX0_copyFrom_25 rfl ?_
  refine s_getI hC xc0 (by decide) rfl qf_X0_32 dX0_copyFrom_26 ?_
  refine s_putI hC xc0 (by decide) rfl rfl qf_X0_32 dX0_copyFrom_29 ?_
  refine s_ltM (fun μ7 => ?_)
  refine s_aload_n hC 0 dX0_copyFrom_32 rfl ?_
  refine s_aload_n hC 1 dX0_copyFrom_33 rfl ?_
  refine s_getI hC xc0 (by decide) rfl qf_X0_29 dX0_copyFrom_34 ?_
  refine s_putI hC xc0 (by decide) rfl rfl qf_X0_29 dX0_copyFrom_37 ?_
  refine s_ltM (fun μ8 => ?_)
  refine s_aload_n hC 0 dX0_copyFrom_40 rfl ?_
  refine s_aload_n hC 1 dX0_copyFrom_41 rfl ?_
  refine s_getI hC xc0 (by decide) rfl qf_X0_35 dX0_copyFrom_42 ?_
  refine s_putI hC xc0 (by decide) rfl rfl qf_X0_35 dX0_copyFrom_45 ?_
  refine s_ltM (fun μ9 => ?_)
  refine s_iconst hC dX0_copyFrom_48 (v := 0) (by decide) ?_
  refine s_istore_n hC dX0_copyFrom_49 (by decide) (lv' := [(2, vI (0 : Int32)), (0, vR v0), (1, vR v1)]) rfl ?_
  refine s_lv (lv' := [(0, vR v0), (1, vR v1), (2, vI (0 : Int32))]) [1, 2, 0] rfl ?_
  refine j_X0_copyFrom_L50 hI hC hr hlk 4096 _ _ _ _
end
section
variable {X : x_X} {l : Launch} {p : Program} {e : Env} {s : State} {m : MethodId} {args : Array Value} {below : List Frame} {meth : Method} {c : Code}
theorem dX1_ran_0 : decode cX1_ran 0 = .ok (.aload_n 0, 1) := by decide +kernel
theorem dX1_ran_1 : decode cX1_ran 1 = .ok (.getfield 15, 3) := by decide +kernel
theorem dX1_ran_4 : decode cX1_ran 4 = .ok (.ireturn, 1) := by decide +kernel
def f_X1_ran (X : x_X) (v0 : Nat) (μ : x_M) : Option (Int32 × x_M) :=
  (ck (x_kd X v0 = 1 + 1) (some ((μ.1 v0 1), μ)))
set_option maxRecDepth 100000 in
theorem m_X1_ran (hI : x_I X) (v0 : Nat) (μ : x_M) : x_Met X x_Z0 l yX1_ran cX1_ran 1 (some .int) 1 [vR v0] μ rkI (f_X1_ran X v0 μ) := by
  refine x_enter hI (by decide +kernel) (Nat.le_of_ble_eq_true rfl) (fun p e s m args below meth c hC hr hlk => ?_)
  unfold f_X1_ran
  refine s_lv (lv' := [(0, vR v0)]) [0] rfl ?_
  refine s_aload_n hC 0 dX1_ran_0 rfl ?_
  refine s_getI hC xc1 (by decide) rfl qf_X1_15 dX1_ran_1 ?_
  exact s_iret hC hr hlk dX1_ran_4
theorem dX1_bodyAt_0 : decode cX1_bodyAt 0 = .ok (.iload_n 1, 1) := by decide +kernel
theorem dX1_bodyAt_1 : decode cX1_bodyAt 1 = .ok (.ifCond .lt 26, 3) := by decide +kernel
theorem dX1_bodyAt_4 : decode cX1_bodyAt 4 = .ok (.iload_n 1, 1) := by decide +kernel
theorem dX1_bodyAt_5 : decode cX1_bodyAt 5 = .ok (.aload_n 0, 1) := by decide +kernel
theorem dX1_bodyAt_6 : decode cX1_bodyAt 6 = .ok (.getfield 15, 3) := by decide +kernel
theorem dX1_bodyAt_9 : decode cX1_bodyAt 9 = .ok (.if_icmp .ge 18, 3) := by decide +kernel
theorem dX1_bodyAt_12 : decode cX1_bodyAt 12 = .ok (.iload_n 1, 1) := by decide +kernel
theorem dX1_bodyAt_13 : decode cX1_bodyAt 13 = .ok (.bipush 20, 2) := by decide +kernel
theorem dX1_bodyAt_15 : decode cX1_bodyAt 15 = .ok (.if_icmp .ge 12, 3) := by decide +kernel
theorem dX1_bodyAt_18 : decode cX1_bodyAt 18 = .ok (.aload_n 0, 1) := by decide +kernel
theorem dX1_bodyAt_19 : decode cX1_bodyAt 19 = .ok (.getfield 9, 3) := by decide +kernel
theorem dX1_bodyAt_22 : decode cX1_bodyAt 22 = .ok (.iload_n 1, 1) := by decide +kernel
theorem dX1_bodyAt_23 : decode cX1_bodyAt 23 = .ok (.iaload, 1) := by decide +kernel
theorem dX1_bodyAt_24 : decode cX1_bodyAt 24 = .ok (.goto 4, 3) := by decide +kernel
theorem dX1_bodyAt_27 : decode cX1_bodyAt 27 = .ok (.iconst (-1), 1) := by decide +kernel
theorem dX1_bodyAt_28 : decode cX1_bodyAt 28 = .ok (.ireturn, 1) := by decide +kernel
def f_X1_bodyAt (X : x_X) (v0 : Nat) (v1 : Int32) (μ : x_M) : Option (Int32 × x_M) :=
  (if v1 < 0 then (some ((-1 : Int32), μ)) else (ck (x_kd X v0 = 1 + 1) (if (μ.1 v0 1) ≤ v1 then (some ((-1 : Int32), μ)) else (if (20 : Int32) ≤ v1 then (some ((-1 : Int32), μ)) else (ck (x_kd X v0 = 1 + 1) (lt (μ.2.1 v0 0) (fun (v3 : Nat) => (ck ((x_kd X v3 = 20 ∨ x_kd X v3 = 40) ∧ x_ix v1 (x_ln X v3)) (some ((μ.1 v3 (v1).toNatClampNeg), μ))))))))))
set_option maxRecDepth 100000 in
theorem m_X1_bodyAt (hI : x_I X) (v0 : Nat) (v1 : Int32) (μ : x_M) : x_Met X x_Z0 l yX1_bodyAt cX1_bodyAt 2 (some .int) 1 [vR v0, vI v1] μ rkI (f_X1_bodyAt X v0 v1 μ) := by
  refine x_enter hI (by decide +kernel) (Nat.le_of_ble_eq_true rfl) (fun p e s m args below meth c hC hr hlk => ?_)
  unfold f_X1_bodyAt
  refine s_lv (lv' := [(0, vR v0), (1, vI v1)]) [0, 1] rfl ?_
  refine s_iload_n hC 1 dX1_bodyAt_0 rfl ?_
  refine s_if_lt hC dX1_bodyAt_1 (tgt := 27) (by decide) ?_ ?_
  · refine s_iconst hC dX1_bodyAt_27 (v := -1) (by decide) ?_
    exact s_iret hC hr hlk dX1_bodyAt_28
  refine s_iload_n hC 1 dX1_bodyAt_4 rfl ?_
  refine s_aload_n hC 0 dX1_bodyAt_5 rfl ?_
  refine s_getI hC xc1 (by decide) rfl qf_X1_15 dX1_bodyAt_6 ?_
  refine s_icmp_ge hC dX1_bodyAt_9 (tgt := 27) (by decide) ?_ ?_
  · refine s_iconst hC dX1_bodyAt_27 (v := -1) (by decide) ?_
    exact s_iret hC hr hlk dX1_bodyAt_28
  refine s_iload_n hC 1 dX1_bodyAt_12 rfl ?_
  refine s_bipush hC dX1_bodyAt_13 (v := 20) (by decide) ?_
  refine s_icmp_ge hC dX1_bodyAt_15 (tgt := 27) (by decide) ?_ ?_
  · refine s_iconst hC dX1_bodyAt_27 (v := -1) (by decide) ?_
    exact s_iret hC hr hlk dX1_bodyAt_28
  refine s_aload_n hC 0 dX1_bodyAt_18 rfl ?_
  refine s_getR hC xc1 (by decide) rfl qf_X1_9 dX1_bodyAt_19 ?_
  refine s_ltR (fun v3 => ?_)
  refine s_iload_n hC 1 dX1_bodyAt_22 rfl ?_
  refine s_iald hC dX1_bodyAt_23 ?_
  refine s_goto hC dX1_bodyAt_24 (tgt := 28) (by decide) ?_
  exact s_iret hC hr hlk dX1_bodyAt_28
theorem dX1_note_0 : decode cX1_note 0 = .ok (.aload_n 0, 1) := by decide +kernel
theorem dX1_note_1 : decode cX1_note 1 = .ok (.getfield 15, 3) := by decide +kernel
theorem dX1_note_4 : decode cX1_note 4 = .ok (.ifCond .lt 22, 3) := by decide +kernel
theorem dX1_note_7 : decode cX1_note 7 = .ok (.aload_n 0, 1) := by decide +kernel
theorem dX1_note_8 : decode cX1_note 8 = .ok (.getfield 15, 3) := by decide +kernel
theorem dX1_note_11 : decode cX1_note 11 = .ok (.bipush 20, 2) := by decide +kernel
theorem dX1_note_13 : decode cX1_note 13 = .ok (.if_icmp .ge 13, 3) := by decide +kernel
theorem dX1_note_16 : decode cX1_note 16 = .ok (.aload_n 0, 1) := by decide +kernel
theorem dX1_note_17 : decode cX1_note 17 = .ok (.getfield 9, 3) := by decide +kernel
theorem dX1_note_20 : decode cX1_note 20 = .ok (.aload_n 0, 1) := by decide +kernel
theorem dX1_note_21 : decode cX1_note 21 = .ok (.getfield 15, 3) := by decide +kernel
theorem dX1_note_24 : decode cX1_note 24 = .ok (.iload_n 1, 1) := by decide +kernel
theorem dX1_note_25 : decode cX1_note 25 = .ok (.iastore, 1) := by decide +kernel
theorem dX1_note_26 : decode cX1_note 26 = .ok (.aload_n 0, 1) := by decide +kernel
theorem dX1_note_27 : decode cX1_note 27 = .ok (.dup, 1) := by decide +kernel
theorem dX1_note_28 : decode cX1_note 28 = .ok (.getfield 15, 3) := by decide +kernel
theorem dX1_note_31 : decode cX1_note 31 = .ok (.iconst 1, 1) := by decide +kernel
theorem dX1_note_32 : decode cX1_note 32 = .ok (.iadd, 1) := by decide +kernel
theorem dX1_note_33 : decode cX1_note 33 = .ok (.putfield 15, 3) := by decide +kernel
theorem dX1_note_36 : decode cX1_note 36 = .ok (.return_, 1) := by decide +kernel
def f_X1_note (X : x_X) (v0 : Nat) (v1 : Int32) (μ : x_M) : Option (Unit × x_M) :=
  (ck (x_kd X v0 = 1 + 1) (if (μ.1 v0 1) < 0 then (ck (x_kd X v0 = 1 + 1) (ck (x_kd X v0 = 1 + 1) (lt (x_sI μ v0 1 ((μ.1 v0 1) + (1 : Int32))) (fun (μ3 : x_M) => (some ((), μ3)))))) else (ck (x_kd X v0 = 1 + 1) (if (20 : Int32) ≤ (μ.1 v0 1) then (ck (x_kd X v0 = 1 + 1) (ck (x_kd X v0 = 1 + 1) (lt (x_sI μ v0 1 ((μ.1 v0 1) + (1 : Int32))) (fun (μ4 : x_M) => (some ((), μ4)))))) else (ck (x_kd X v0 = 1 + 1) (lt (μ.2.1 v0 0) (fun (v5 : Nat) => (ck (x_kd X v0 = 1 + 1) (lt (μ.1 v0 1) (fun (v6 : Int32) => (ck (x_kd X v5 = 20 ∧ x_ix v6 (x_ln X v5)) (lt (x_sI μ v5 (v6).toNatClampNeg v1) (fun (μ7 : x_M) => (ck (x_kd X v0 = 1 + 1) (ck (x_kd X v0 = 1 + 1) (lt (x_sI μ7 v0 1 ((μ7.1 v0 1) + (1 : Int32))) (fun (μ8 : x_M) => (some ((), μ8)))))))))))))))))))
set_option maxRecDepth 100000 in
theorem m_X1_note (hI : x_I X) (v0 : Nat) (v1 : Int32) (μ : x_M) : x_Met X x_Z0 l yX1_note cX1_note 2 none 1 [vR v0, vI v1] μ rkV (f_X1_note X v0 v1 μ) := by
  refine x_enter hI (by decide +kernel) (Nat.le_of_ble_eq_true rfl) (fun p e s m args below meth c hC hr hlk => ?_)
  unfold f_X1_note
  refine s_lv (lv' := [(0, vR v0), (1, vI v1)]) [0, 1] rfl ?_
  refine s_aload_n hC 0 dX1_note_0 rfl ?_
  refine s_getI hC xc1 (by decide) rfl qf_X1_15 dX1_note_1 ?_
  refine s_if_lt hC dX1_note_4 (tgt := 26) (by decide) ?_ ?_
  · refine s_aload_n hC 0 dX1_note_26 rfl ?_
    refine s_dupR hC dX1_note_27 ?_
    refine s_getI hC xc1 (by decide) rfl qf_X1_15 dX1_note_28 ?_
    refine s_iconst hC dX1_note_31 (v := 1) (by decide) ?_
    refine s_iadd hC dX1_note_32 ?_
    refine s_putI hC xc1 (by decide) rfl rfl qf_X1_15 dX1_note_33 ?_
    refine s_ltM (fun μ3 => ?_)
    exact s_vret hC hr hlk dX1_note_36
  refine s_aload_n hC 0 dX1_note_7 rfl ?_
  refine s_getI hC xc1 (by decide) rfl qf_X1_15 dX1_note_8 ?_
  refine s_bipush hC dX1_note_11 (v := 20) (by decide) ?_
  refine s_icmp_ge hC dX1_note_13 (tgt := 26) (by decide) ?_ ?_
  · refine s_aload_n hC 0 dX1_note_26 rfl ?_
    refine s_dupR hC dX1_note_27 ?_
    refine s_getI hC xc1 (by decide) rfl qf_X1_15 dX1_note_28 ?_
    refine s_iconst hC dX1_note_31 (v := 1) (by decide) ?_
    refine s_iadd hC dX1_note_32 ?_
    refine s_putI hC xc1 (by decide) rfl rfl qf_X1_15 dX1_note_33 ?_
    refine s_ltM (fun μ4 => ?_)
    exact s_vret hC hr hlk dX1_note_36
  refine s_aload_n hC 0 dX1_note_16 rfl ?_
  refine s_getR hC xc1 (by decide) rfl qf_X1_9 dX1_note_17 ?_
  refine s_ltR (fun v5 => ?_)
  refine s_aload_n hC 0 dX1_note_20 rfl ?_
  refine s_getI hC xc1 (by decide) rfl qf_X1_15 dX1_note_21 ?_
  refine s_iload_n hC 1 dX1_note_24 rfl ?_
  refine s_ltI2 (fun v6 => ?_)
  refine s_iast hC dX1_note_25 ?_
  refine s_ltM (fun μ7 => ?_)
  refine s_aload_n hC 0 dX1_note_26 rfl ?_
  refine s_dupR hC dX1_note_27 ?_
  refine s_getI hC xc1 (by decide) rfl qf_X1_15 dX1_note_28 ?_
  refine s_iconst hC dX1_note_31 (v := 1) (by decide) ?_
  refine s_iadd hC dX1_note_32 ?_
  refine s_putI hC xc1 (by decide) rfl rfl qf_X1_15 dX1_note_33 ?_
  refine s_ltM (fun μ8 => ?_)
  exact s_vret hC hr hlk dX1_note_36
theorem dX1_bodyOf_0 : decode cX1_bodyOf 0 = .ok (.iload_n 0, 1) := by decide +kernel
theorem dX1_bodyOf_1 : decode cX1_bodyOf 1 = .ok (.ifCond .ge 7, 3) := by decide +kernel
theorem dX1_bodyOf_4 : decode cX1_bodyOf 4 = .ok (.iconst 0, 1) := by decide +kernel
theorem dX1_bodyOf_5 : decode cX1_bodyOf 5 = .ok (.goto 14, 3) := by decide +kernel
theorem dX1_bodyOf_8 : decode cX1_bodyOf 8 = .ok (.getstatic 56, 3) := by decide +kernel
theorem dX1_bodyOf_11 : decode cX1_bodyOf 11 = .ok (.iload_n 0, 1) := by decide +kernel
theorem dX1_bodyOf_12 : decode cX1_bodyOf 12 = .ok (.iconst 3, 1) := by decide +kernel
theorem dX1_bodyOf_13 : decode cX1_bodyOf 13 = .ok (.imul, 1) := by decide +kernel
theorem dX1_bodyOf_14 : decode cX1_bodyOf 14 = .ok (.iload_n 1, 1) := by decide +kernel
theorem dX1_bodyOf_15 : decode cX1_bodyOf 15 = .ok (.iadd, 1) := by decide +kernel
theorem dX1_bodyOf_16 : decode cX1_bodyOf 16 = .ok (.invokestatic 59, 3) := by decide +kernel
theorem dX1_bodyOf_19 : decode cX1_bodyOf 19 = .ok (.ireturn, 1) := by decide +kernel
def f_X1_bodyOf (X : x_X) (v0 : Int32) (v1 : Int32) (μ : x_M) : Option (Int32 × x_M) :=
  (if 0 ≤ v0 then (bd (f_X9_at X 802 ((v0 * (3 : Int32)) + v1) μ) (fun (v3 : Int32) (μ4 : x_M) => (some (v3, μ4)))) else (some ((0 : Int32), μ)))
set_option maxRecDepth 100000 in
theorem m_X1_bodyOf (hI : x_I X) (v0 : Int32) (v1 : Int32) (μ : x_M) : x_Met X x_Z0 l yX1_bodyOf cX1_bodyOf 2 (some .int) 2 [vI v0, vI v1] μ rkI (f_X1_bodyOf X v0 v1 μ) := by
  refine x_enter hI (by decide +kernel) (Nat.le_of_ble_eq_true rfl) (fun p e s m args below meth c hC hr hlk => ?_)
  unfold f_X1_bodyOf
  refine s_lv (lv' := [(0, vI v0), (1, vI v1)]) [0, 1] rfl ?_
  refine s_iload_n hC 0 dX1_bodyOf_0 rfl ?_
  refine s_if_ge hC dX1_bodyOf_1 (tgt := 8) (by decide) ?_ ?_
  · refine s_gets hC (nest := false) dX1_bodyOf_8 (id := 802) (List.mem_of_getElem? (i := 1) rfl) qg_X1_56 ?_
    refine s_iload_n hC 0 dX1_bodyOf_11 rfl ?_
    refine s_iconst hC dX1_bodyOf_12 (v := 3) (by decide) ?_
    refine s_imul hC dX1_bodyOf_13 ?_
    refine s_iload_n hC 1 dX1_bodyOf_14 rfl ?_
    refine s_iadd hC dX1_bodyOf_15 ?_
    refine s_callS hC (avs := [vR 802, vI ((v0 * (3 : Int32)) + v1)]) (st := []) (nest := true) (m_X9_at hI 802 ((v0 * (3 : Int32)) + v1) μ) dX1_bodyOf_16 qm_X1_59 qt_X9_at qc_X9 qd_X9_at qh_X9_at (by decide) (fun _ => Nat.le_of_ble_eq_true rfl) (Nat.le_of_ble_eq_true rfl) (fun v3 μ4 => ?_)
    exact s_iret hC hr hlk dX1_bodyOf_19
  refine s_iconst hC dX1_bodyOf_4 (v := 0) (by decide) ?_
  refine s_goto hC dX1_bodyOf_5 (tgt := 19) (by decide) ?_
  exact s_iret hC hr hlk dX1_bodyOf_19
section G_X1_run
variable {lev : Nat} {zc : Nat → Nat → Nat → Int32 → Int32 → Int32 → Int32 → x_M → Option (Int32 × x_M)}
theorem dX1_run_0 : decode cX1_run 0 = .ok (.iload_n 2, 1) := by decide +kernel
theorem dX1_run_1 : decode cX1_run 1 = .ok (.istore 6, 2) := by decide +kernel
theorem dX1_run_3 : decode cX1_run 3 = .ok (.iconst 0, 1) := by decide +kernel
theorem dX1_run_4 : decode cX1_run 4 = .ok (.istore 7, 2) := by decide +kernel
theorem dX1_run_6 : decode cX1_run 6 = .ok (.iload 7, 2) := by decide +kernel
theorem dX1_run_8 : decode cX1_run 8 = .ok (.getstatic 32, 3) := by decide +kernel
theorem dX1_run_11 : decode cX1_run 11 = .ok (.arraylength, 1) := by decide +kernel
theorem dX1_run_12 : decode cX1_run 12 = .ok (.if_icmp .ge 25, 3) := by decide +kernel
theorem dX1_run_15 : decode cX1_run 15 = .ok (.iload 6, 2) := by decide +kernel
theorem dX1_run_17 : decode cX1_run 17 = .ok (.iload_n 3, 1) := by decide +kernel
theorem dX1_run_18 : decode cX1_run 18 = .ok (.invokestatic 35, 3) := by decide +kernel
theorem dX1_run_21 : decode cX1_run 21 = .ok (.ifCond .ne 16, 3) := by decide +kernel
theorem dX1_run_24 : decode cX1_run 24 = .ok (.iload 6, 2) := by decide +kernel
theorem dX1_run_26 : decode cX1_run 26 = .ok (.invokestatic 39, 3) := by decide +kernel
theorem dX1_run_29 : decode cX1_run 29 = .ok (.istore 6, 2) := by decide +kernel
theorem dX1_run_31 : decode cX1_run 31 = .ok (.iinc 7 1, 3) := by decide +kernel
theorem dX1_run_34 : decode cX1_run 34 = .ok (.goto (-28), 3) := by decide +kernel
theorem dX1_run_37 : decode cX1_run 37 = .ok (.iload 6, 2) := by decide +kernel
theorem dX1_run_39 : decode cX1_run 39 = .ok (.iload_n 3, 1) := by decide +kernel
theorem dX1_run_40 : decode cX1_run 40 = .ok (.invokestatic 35, 3) := by decide +kernel
theorem dX1_run_43 : decode cX1_run 43 = .ok (.istore 7, 2) := by decide +kernel
theorem dX1_run_45 : decode cX1_run 45 = .ok (.iload 7, 2) := by decide +kernel
theorem dX1_run_47 : decode cX1_run 47 = .ok (.ifCond .eq 10, 3) := by decide +kernel
theorem dX1_run_50 : decode cX1_run 50 = .ok (.iload 5, 2) := by decide +kernel
theorem dX1_run_52 : decode cX1_run 52 = .ok (.bipush 40, 2) := by decide +kernel
theorem dX1_run_54 : decode cX1_run 54 = .ok (.if_icmp .le 5, 3) := by decide +kernel
theorem dX1_run_57 : decode cX1_run 57 = .ok (.iconst 0, 1) := by decide +kernel
theorem dX1_run_58 : decode cX1_run 58 = .ok (.ireturn, 1) := by decide +kernel
theorem dX1_run_59 : decode cX1_run 59 = .ok (.aload_n 0, 1) := by decide +kernel
theorem dX1_run_60 : decode cX1_run 60 = .ok (.iload 7, 2) := by decide +kernel
theorem dX1_run_62 : decode cX1_run 62 = .ok (.invokevirtual 43, 3) := by decide +kernel
theorem dX1_run_65 : decode cX1_run 65 = .ok (.aload_n 0, 1) := by decide +kernel
theorem dX1_run_66 : decode cX1_run 66 = .ok (.aload_n 1, 1) := by decide +kernel
theorem dX1_run_67 : decode cX1_run 67 = .ok (.iload 7, 2) := by decide +kernel
theorem dX1_run_69 : decode cX1_run 69 = .ok (.iload 6, 2) := by decide +kernel
theorem dX1_run_71 : decode cX1_run 71 = .ok (.invokestatic 39, 3) := by decide +kernel
theorem dX1_run_74 : decode cX1_run 74 = .ok (.iload 4, 2) := by decide +kernel
theorem dX1_run_76 : decode cX1_run 76 = .ok (.iload 5, 2) := by decide +kernel
theorem dX1_run_78 : decode cX1_run 78 = .ok (.iconst 1, 1) := by decide +kernel
theorem dX1_run_79 : decode cX1_run 79 = .ok (.iadd, 1) := by decide +kernel
theorem dX1_run_80 : decode cX1_run 80 = .ok (.invokevirtual 47, 3) := by decide +kernel
theorem dX1_run_83 : decode cX1_run 83 = .ok (.ireturn, 1) := by decide +kernel
def f_X1_run_B_L6 (X : x_X) (zc : Nat → Nat → Nat → Int32 → Int32 → Int32 → Int32 → x_M → Option (Int32 × x_M)) (k37 : Nat → Nat → Int32 → Int32 → Int32 → Int32 → x_M → Option (Int32 × x_M)) : Nat → Nat → Nat → Int32 → Int32 → Int32 → Int32 → Int32 → x_M → Option (Int32 × x_M)
  | 0, _, _, _, _, _, _, _, _ => none
  | n + 1, v7, v8, v9, v10, v11, v12, v13, μ14 =>
    (ck (x_kd X 801 = 20 ∨ x_kd X 801 = 23 ∨ x_kd X 801 = 40 ∨ x_kd X 801 = 41) (if (nI (x_ln X 801)) ≤ v13 then (k37 v7 v8 v9 v10 v11 v12 μ14) else (bd (f_X1_bodyOf X v12 v9 μ14) (fun (v15 : Int32) (μ16 : x_M) => (if v15 = 0 then (bd (f_X9_kindAbove X v12 μ16) (fun (v17 : Int32) (μ18 : x_M) => (f_X1_run_B_L6 X zc k37 n v7 v8 v9 v10 v11 v17 (v13 + (1 : Int32)) μ18))) else (k37 v7 v8 v9 v10 v11 v12 μ16))))))
set_option maxRecDepth 100000 in
theorem j_X1_run_B_L6 (hI : x_I X) (hC : x_C X x_Z0 p (x_rm (lev + 1)) s m c cX1_run RX1 8 0 0 (lev + 1)) (hr : meth.sig.returnType = (some .int)) (hlk : meth.locks = false) (hlev : 2 ≤ lev) (hz : (∀ (v0 : Nat) (v1 : Nat) (v2 : Int32) (v3 : Int32) (v4 : Int32) (v5 : Int32) (μ : x_M), x_Met X x_Z0 l yX1_run cX1_run 8 (some .int) lev [vR v0, vR v1, vI v2, vI v3, vI v4, vI v5] μ rkI (zc 0 v0 v1 v2 v3 v4 v5 μ)) ∧ (∀ (v0 : Nat) (v1 : Nat) (v2 : Int32) (v3 : Int32) (v4 : Int32) (v5 : Int32) (μ : x_M), x_Met X x_Z0 l yX1_runBody cX1_runBody 7 (some .int) lev [vR v0, vR v1, vI v2, vI v3, vI v4, vI v5] μ rkI (zc 1 v0 v1 v2 v3 v4 v5 μ))) {k37 : Nat → Nat → Int32 → Int32 → Int32 → Int32 → x_M → Option (Int32 × x_M)} (hk37 : ∀ (b0 : Nat) (b1 : Nat) (b3 : Int32) (b4 : Int32) (b5 : Int32) (b6 : Int32) (μ : x_M), SM X 8 (lev + 1) rkI p l e s m args below meth c 37 [(0, vR b0), (1, vR b1), (3, vI b3), (4, vI b4), (5, vI b5), (6, vI b6)] [] μ (k37 b0 b1 b3 b4 b5 b6 μ)) : ∀ (n : Nat) (v7 : Nat) (v8 : Nat) (v9 : Int32) (v10 : Int32) (v11 : Int32) (v12 : Int32) (v13 : Int32) (μ14 : x_M), SM X 8 (lev + 1) rkI p l e s m args below meth c 6 [(0, vR v7), (1, vR v8), (3, vI v9), (4, vI v10), (5, vI v11), (6, vI v12), (7, vI v13)] [] μ14 (f_X1_run_B_L6 X zc k37 n v7 v8 v9 v10 v11 v12 v13 μ14) := by
  intro n
  induction n with
  | zero => intro v7 v8 v9 v10 v11 v12 v13 μ14; exact s_none
  | succ n ih =>
    intro v7 v8 v9 v10 v11 v12 v13 μ14
    unfold f_X1_run_B_L6
    refine s_iload hC 6 dX1_run_6 rfl ?_
    refine s_gets hC (nest := true) dX1_run_8 (id := 801) (List.mem_of_getElem? (i := 0) rfl) qg_X1_32 ?_
    refine s_alen hC dX1_run_11 ?_
    refine s_icmp_ge hC dX1_run_12 (tgt := 37) (by decide) ?_ ?_
    · refine s_lv (lv' := [(0, vR v7), (1, vR v8), (3, vI v9), (4, vI v10), (5, vI v11), (6, vI v12)]) [0, 1, 2, 3, 4, 5] rfl ?_
      exact hk37 _ _ _ _ _ _ _
    refine s_iload hC 5 dX1_run_15 rfl ?_
    refine s_iload_n hC 2 dX1_run_17 rfl ?_
    refine s_callS hC (avs := [vI v12, vI v9]) (st := []) (nest := false) (m_X1_bodyOf hI v12 v9 μ14) dX1_run_18 qm_X1_35 qt_X1_bodyOf qc_X1 qd_X1_bodyOf qh_X1_bodyOf (by omega) (fun _ => Nat.le_of_ble_eq_true rfl) (Nat.le_of_ble_eq_true rfl) (fun v15 μ16 => ?_)
    refine s_if_ne hC dX1_run_21 (tgt := 37) (by decide) ?_ ?_
    · refine s_lv (lv' := [(0, vR v7), (1, vR v8), (3, vI v9), (4, vI v10), (5, vI v11), (6, vI v12)]) [0, 1, 2, 3, 4, 5] rfl ?_
      exact hk37 _ _ _ _ _ _ _
    refine s_iload hC 5 dX1_run_24 rfl ?_
    refine s_callS hC (avs := [vI v12]) (st := []) (nest := true) (m_X9_kindAbove hI v12 μ16) dX1_run_26 qm_X1_39 qt_X9_kindAbove qc_X9 qd_X9_kindAbove qh_X9_kindAbove (by omega) (fun _ => Nat.le_of_ble_eq_true rfl) (Nat.le_of_ble_eq_true rfl) (fun v17 μ18 => ?_)
    refine s_istore hC dX1_run_29 (by decide) (lv' := [(6, vI v17), (0, vR v7), (1, vR v8), (3, vI v9), (4, vI v10), (5, vI v11), (7, vI v13)]) rfl ?_
    refine s_iinc hC 6 dX1_run_31 rfl (w := 1) (by decide) (by decide) (lv' := [(7, vI (v13 + (1 : Int32))), (6, vI v17), (0, vR v7), (1, vR v8), (3, vI v9), (4, vI v10), (5, vI v11)]) rfl ?_
    refine s_goto hC dX1_run_34 (tgt := 6) (by decide) ?_
    refine s_lv (lv' := [(0, vR v7), (1, vR v8), (3, vI v9), (4, vI v10), (5, vI v11), (6, vI v17), (7, vI (v13 + (1 : Int32)))]) [2, 3, 4, 5, 6, 1, 0] rfl ?_
    exact ih _ _ _ _ _ _ _ _
def f_X1_run_B_J37 (X : x_X) (zc : Nat → Nat → Nat → Int32 → Int32 → Int32 → Int32 → x_M → Option (Int32 × x_M)) (v26 : Nat) (v27 : Nat) (v28 : Int32) (v29 : Int32) (v30 : Int32) (v31 : Int32) (μ32 : x_M) : Option (Int32 × x_M) :=
  (bd (f_X1_bodyOf X v31 v28 μ32) (fun (v33 : Int32) (μ34 : x_M) => (if v33 = 0 then (some ((0 : Int32), μ34)) else (if v30 ≤ (40 : Int32) then (ck (x_kd X v26 = 1 + 1) (bd (f_X1_note X v26 v33 μ34) (fun (_ : Unit) (μ35 : x_M) => (bd (f_X9_kindAbove X v31 μ35) (fun (v36 : Int32) (μ37 : x_M) => (ck (x_kd X v26 = 1 + 1) (bd (zc 1 v26 v27 v33 v36 v29 (v30 + (1 : Int32)) μ37) (fun (v38 : Int32) (μ39 : x_M) => (some (v38, μ39)))))))))) else (some ((0 : Int32), μ34))))))
set_option maxRecDepth 100000 in
theorem j_X1_run_B_J37 (hI : x_I X) (hC : x_C X x_Z0 p (x_rm (lev + 1)) s m c cX1_run RX1 8 0 0 (lev + 1)) (hr : meth.sig.returnType = (some .int)) (hlk : meth.locks = false) (hlev : 2 ≤ lev) (hz : (∀ (v0 : Nat) (v1 : Nat) (v2 : Int32) (v3 : Int32) (v4 : Int32) (v5 : Int32) (μ : x_M), x_Met X x_Z0 l yX1_run cX1_run 8 (some .int) lev [vR v0, vR v1, vI v2, vI v3, vI v4, vI v5] μ rkI (zc 0 v0 v1 v2 v3 v4 v5 μ)) ∧ (∀ (v0 : Nat) (v1 : Nat) (v2 : Int32) (v3 : Int32) (v4 : Int32) (v5 : Int32) (μ : x_M), x_Met X x_Z0 l yX1_runBody cX1_runBody 7 (some .int) lev [vR v0, vR v1, vI v2, vI v3, vI v4, vI v5] μ rkI (zc 1 v0 v1 v2 v3 v4 v5 μ))) (v26 : Nat) (v27 : Nat) (v28 : Int32) (v29 : Int32) (v30 : Int32) (v31 : Int32) (μ32 : x_M) : SM X 8 (lev + 1) rkI p l e s m args below meth c 37 [(0, vR v26), (1, vR v27), (3, vI v28), (4, vI v29), (5, vI v30), (6, vI v31)] [] μ32 (f_X1_run_B_J37 X zc v26 v27 v28 v29 v30 v31 μ32) := by
  unfold f_X1_run_B_J37
  refine s_iload hC 5 dX1_run_37 rfl ?_
  refine s_iload_n hC 2 dX1_run_39 rfl ?_
  refine s_callS hC (avs := [vI v31, vI v28]) (st := []) (nest := false) (m_X1_bodyOf hI v31 v28 μ32) dX1_run_40 qm_X1_35 qt_X1_bodyOf qc_X1 qd_X1_bodyOf qh_X1_bodyOf (by omega) (fun _ => Nat.le_of_ble_eq_true rfl) (Nat.le_of_ble_eq_true rfl) (fun v33 μ34 => ?_)
  refine s_istore hC dX1_run_43 (by decide) (lv' := [(7, vI v33), (0, vR v26), (1, vR v27), (3, vI v28), (4, vI v29), (5, vI v30), (6, vI v31)]) rfl ?_
  refine s_iload hC 0 dX1_run_45 rfl ?_
  refine s_if_eq hC dX1_run_47 (tgt := 57) (by decide) ?_ ?_
  · refine s_iconst hC dX1_run_57 (v := 0) (by decide) ?_
    exact s_iret hC hr hlk dX1_run_58
  refine s_iload hC 5 dX1_run_50 rfl ?_
  refine s_bipush hC dX1_run_52 (v := 40) (by decide) ?_
  refine s_icmp_le hC dX1_run_54 (tgt := 59) (by decide) ?_ ?_
  · refine s_aload_n hC 1 dX1_run_59 rfl ?_
    refine s_iload hC 0 dX1_run_60 rfl ?_
    refine s_callV hC (x := v26) (avs := [vI v33]) (st := []) (nest := false) xc1 (m_X1_note hI v26 v33 μ34) dX1_run_62 qm_X1_43 qi_X1_note qs_X1_note qc_X1 qd_X1_note qh_X1_note (by omega) (fun _ => Nat.le_of_ble_eq_true rfl) (Nat.le_of_ble_eq_true rfl) (fun _ μ35 => ?_)
    refine s_aload_n hC 1 dX1_run_65 rfl ?_
    refine s_aload_n hC 2 dX1_run_66 rfl ?_
    refine s_iload hC 0 dX1_run_67 rfl ?_
    refine s_iload hC 6 dX1_run_69 rfl ?_
    refine s_callS hC (avs := [vI v31]) (st := [vI v33, vR v27, vR v26]) (nest := true) (m_X9_kindAbove hI v31 μ35) dX1_run_71 qm_X1_39 qt_X9_kindAbove qc_X9 qd_X9_kindAbove qh_X9_kindAbove (by omega) (fun _ => Nat.le_of_ble_eq_true rfl) (Nat.le_of_ble_eq_true rfl) (fun v36 μ37 => ?_)
    refine s_iload hC 4 dX1_run_74 rfl ?_
    refine s_iload hC 5 dX1_run_76 rfl ?_
    refine s_iconst hC dX1_run_78 (v := 1) (by decide) ?_
    refine s_iadd hC dX1_run_79 ?_
    refine s_callV hC (x := v26) (avs := [vR v27, vI v33, vI v36, vI v29, vI (v30 + (1 : Int32))]) (st := []) (nest := false) xc1 (hz.2 v26 v27 v33 v36 v29 (v30 + (1 : Int32)) μ37) dX1_run_80 qm_X1_47 qi_X1_runBody qs_X1_runBody qc_X1 qd_X1_runBody qh_X1_runBody (by omega) (fun _ => Nat.le_of_ble_eq_true rfl) (Nat.le_of_ble_eq_true rfl) (fun v38 μ39 => ?_)
    exact s_iret hC hr hlk dX1_run_83
  refine s_iconst hC dX1_run_57 (v := 0) (by decide) ?_
  exact s_iret hC hr hlk dX1_run_58
def f_X1_run_B (X : x_X) (zc : Nat → Nat → Nat → Int32 → Int32 → Int32 → Int32 → x_M → Option (Int32 × x_M)) (v0 : Nat) (v1 : Nat) (v2 : Int32) (v3 : Int32) (v4 : Int32) (v5 : Int32) (μ : x_M) : Option (Int32 × x_M) :=
  (f_X1_run_B_L6 X zc (fun (v19 : Nat) (v20 : Nat) (v21 : Int32) (v22 : Int32) (v23 : Int32) (v24 : Int32) (μ25 : x_M) => (f_X1_run_B_J37 X zc v19 v20 v21 v22 v23 v24 μ25)) 4096 v0 v1 v3 v4 v5 v2 (0 : Int32) μ)
set_option maxRecDepth 100000 in
theorem b_X1_run_B (hI : x_I X) (hlev : 2 ≤ lev) (hz : (∀ (v0 : Nat) (v1 : Nat) (v2 : Int32) (v3 : Int32) (v4 : Int32) (v5 : Int32) (μ : x_M), x_Met X x_Z0 l yX1_run cX1_run 8 (some .int) lev [vR v0, vR v1, vI v2, vI v3, vI v4, vI v5] μ rkI (zc 0 v0 v1 v2 v3 v4 v5 μ)) ∧ (∀ (v0 : Nat) (v1 : Nat) (v2 : Int32) (v3 : Int32) (v4 : Int32) (v5 : Int32) (μ : x_M), x_Met X x_Z0 l yX1_runBody cX1_runBody 7 (some .int) lev [vR v0, vR v1, vI v2, vI v3, vI v4, vI v5] μ rkI (zc 1 v0 v1 v2 v3 v4 v5 μ))) (v0 : Nat) (v1 : Nat) (v2 : Int32) (v3 : Int32) (v4 : Int32) (v5 : Int32) (μ : x_M) : x_Met X x_Z0 l yX1_run cX1_run 8 (some .int) (lev + 1) [vR v0, vR v1, vI v2, vI v3, vI v4, vI v5] μ rkI (f_X1_run_B X zc v0 v1 v2 v3 v4 v5 μ) := by
  refine x_enter hI (by decide +kernel) (Nat.le_of_ble_eq_true rfl) (fun p e s m args below meth c hC hr hlk => ?_)
  unfold f_X1_run_B
  refine s_lv (lv' := [(0, vR v0), (1, vR v1), (2, vI v2), (3, vI v3), (4, vI v4), (5, vI v5)]) [0, 1, 2, 3, 4, 5] rfl ?_
  refine s_iload_n hC 2 dX1_run_0 rfl ?_
  refine s_istore hC dX1_run_1 (by decide) (lv' := [(6, vI v2), (0, vR v0), (1, vR v1), (2, vI v2), (3, vI v3), (4, vI v4), (5, vI v5)]) rfl ?_
  refine s_iconst hC dX1_run_3 (v := 0) (by decide) ?_
  refine s_istore hC dX1_run_4 (by decide) (lv' := [(7, vI (0 : Int32)), (6, vI v2), (0, vR v0), (1, vR v1), (2, vI v2), (3, vI v3), (4, vI v4), (5, vI v5)]) rfl ?_
  refine s_lv (lv' := [(0, vR v0), (1, vR v1), (3, vI v3), (4, vI v4), (5, vI v5), (6, vI v2), (7, vI (0 : Int32))]) [2, 3, 5, 6, 7, 1, 0] rfl ?_
  refine j_X1_run_B_L6 hI hC hr hlk hlev hz (fun v19 v20 v21 v22 v23 v24 μ25 => ?_) 4096 _ _ _ _ _ _ _ _
  exact j_X1_run_B_J37 hI hC hr hlk hlev hz _ _ _ _ _ _ _
theorem dX1_runBody_0 : decode cX1_runBody 0 = .ok (.aload_n 1, 1) := by decide +kernel
theorem dX1_runBody_1 : decode cX1_runBody 1 = .ok (.getfield 23, 3) := by decide +kernel
theorem dX1_runBody_4 : decode cX1_runBody 4 = .ok (.istore 6, 2) := by decide +kernel
theorem dX1_runBody_6 : decode cX1_runBody 6 = .ok (.iload_n 2, 1) := by decide +kernel
theorem dX1_runBody_7 : decode cX1_runBody 7 = .ok (.lookupswitch 275 #[(10, 97), (11, 105), (12, 123), (20, 138), (30, 153), (40, 167), (50, 191), (51, 204), (60, 218), (70, 235), (71, 258)], 97) := by decide +kernel
theorem dX1_runBody_104 : decode cX1_runBody 104 = .ok (.iload 4, 2) := by decide +kernel
theorem dX1_runBody_106 : decode cX1_runBody 106 = .ok (.aload_n 1, 1) := by decide +kernel
theorem dX1_runBody_107 : decode cX1_runBody 107 = .ok (.getfield 50, 3) := by decide +kernel
theorem dX1_runBody_110 : decode cX1_runBody 110 = .ok (.iadd, 1) := by decide +kernel
theorem dX1_runBody_111 : decode cX1_runBody 111 = .ok (.ireturn, 1) := by decide +kernel
theorem dX1_runBody_112 : decode cX1_runBody 112 = .ok (.aload_n 0, 1) := by decide +kernel
theorem dX1_runBody_113 : decode cX1_runBody 113 = .ok (.aload_n 1, 1) := by decide +kernel
theorem dX1_runBody_114 : decode cX1_runBody 114 = .ok (.iload 6, 2) := by decide +kernel
theorem dX1_runBody_116 : decode cX1_runBody 116 = .ok (.iconst 0, 1) := by decide +kernel
theorem dX1_runBody_117 : decode cX1_runBody 117 = .ok (.iload 4, 2) := by decide +kernel
theorem dX1_runBody_119 : decode cX1_runBody 119 = .ok (.iload 5, 2) := by decide +kernel
theorem dX1_runBody_121 : decode cX1_runBody 121 = .ok (.invokevirtual 28, 3) := by decide +kernel
theorem dX1_runBody_124 : decode cX1_runBody 124 = .ok (.aload_n 1, 1) := by decide +kernel
theorem dX1_runBody_125 : decode cX1_runBody 125 = .ok (.getfield 53, 3) := by decide +kernel
theorem dX1_runBody_128 : decode cX1_runBody 128 = .ok (.isub, 1) := by decide +kernel
theorem dX1_runBody_129 : decode cX1_runBody 129 = .ok (.ireturn, 1) := by decide +kernel
theorem dX1_runBody_130 : decode cX1_runBody 130 = .ok (.aload_n 0, 1) := by decide +kernel
theorem dX1_runBody_131 : decode cX1_runBody 131 = .ok (.aload_n 1, 1) := by decide +kernel
theorem dX1_runBody_132 : decode cX1_runBody 132 = .ok (.iload 6, 2) := by decide +kernel
theorem dX1_runBody_134 : decode cX1_runBody 134 = .ok (.iconst 1, 1) := by decide +kernel
theorem dX1_runBody_135 : decode cX1_runBody 135 = .ok (.iload 4, 2) := by decide +kernel
theorem dX1_runBody_137 : decode cX1_runBody 137 = .ok (.iload 5, 2) := by decide +kernel
theorem dX1_runBody_139 : decode cX1_runBody 139 = .ok (.invokevirtual 28, 3) := by decide +kernel
theorem dX1_runBody_142 : decode cX1_runBody 142 = .ok (.iconst 2, 1) := by decide +kernel
theorem dX1_runBody_143 : decode cX1_runBody 143 = .ok (.imul, 1) := by decide +kernel
theorem dX1_runBody_144 : decode cX1_runBody 144 = .ok (.ireturn, 1) := by decide +kernel
theorem dX1_runBody_145 : decode cX1_runBody 145 = .ok (.aload_n 0, 1) := by decide +kernel
theorem dX1_runBody_146 : decode cX1_runBody 146 = .ok (.aload_n 1, 1) := by decide +kernel
theorem dX1_runBody_147 : decode cX1_runBody 147 = .ok (.iload_n 3, 1) := by decide +kernel
theorem dX1_runBody_148 : decode cX1_runBody 148 = .ok (.iconst 1, 1) := by decide +kernel
theorem dX1_runBody_149 : decode cX1_runBody 149 = .ok (.iload 4, 2) := by decide +kernel
theorem dX1_runBody_151 : decode cX1_runBody 151 = .ok (.iload 5, 2) := by decide +kernel
theorem dX1_runBody_153 : decode cX1_runBody 153 = .ok (.invokevirtual 28, 3) := by decide +kernel
theorem dX1_runBody_156 : decode cX1_runBody 156 = .ok (.bipush 6, 2) := by decide +kernel
theorem dX1_runBody_158 : decode cX1_runBody 158 = .ok (.ixor, 1) := by decide +kernel
theorem dX1_runBody_159 : decode cX1_runBody 159 = .ok (.ireturn, 1) := by decide +kernel
theorem dX1_runBody_160 : decode cX1_runBody 160 = .ok (.aload_n 0, 1) := by decide +kernel
theorem dX1_runBody_161 : decode cX1_runBody 161 = .ok (.aload_n 1, 1) := by decide +kernel
theorem dX1_runBody_162 : decode cX1_runBody 162 = .ok (.iload_n 3, 1) := by decide +kernel
theorem dX1_runBody_163 : decode cX1_runBody 163 = .ok (.iconst 0, 1) := by decide +kernel
theorem dX1_runBody_164 : decode cX1_runBody 164 = .ok (.iload 4, 2) := by decide +kernel
theorem dX1_runBody_166 : decode cX1_runBody 166 = .ok (.iconst 3, 1) := by decide +kernel
theorem dX1_runBody_167 : decode cX1_runBody 167 = .ok (.imul, 1) := by decide +kernel
theorem dX1_runBody_168 : decode cX1_runBody 168 = .ok (.iload 5, 2) := by decide +kernel
theorem dX1_runBody_170 : decode cX1_runBody 170 = .ok (.invokevirtual 28, 3) := by decide +kernel
theorem dX1_runBody_173 : decode cX1_runBody 173 = .ok (.ireturn, 1) := by decide +kernel
theorem dX1_runBody_174 : decode cX1_runBody 174 = .ok (.aload_n 0, 1) := by decide +kernel
theorem dX1_runBody_175 : decode cX1_runBody 175 = .ok (.aload_n 1, 1) := by decide +kernel
theorem dX1_runBody_176 : decode cX1_runBody 176 = .ok (.iload_n 3, 1) := by decide +kernel
theorem dX1_runBody_177 : decode cX1_runBody 177 = .ok (.iconst 2, 1) := by decide +kernel
theorem dX1_runBody_178 : decode cX1_runBody 178 = .ok (.iload 4, 2) := by decide +kernel
theorem dX1_runBody_180 : decode cX1_runBody 180 = .ok (.iload 5, 2) := by decide +kernel
theorem dX1_runBody_182 : decode cX1_runBody 182 = .ok (.invokevirtual 28, 3) := by decide +kernel
theorem dX1_runBody_185 : decode cX1_runBody 185 = .ok (.aload_n 0, 1) := by decide +kernel
theorem dX1_runBody_186 : decode cX1_runBody 186 = .ok (.aload_n 1, 1) := by decide +kernel
theorem dX1_runBody_187 : decode cX1_runBody 187 = .ok (.iload 6, 2) := by decide +kernel
theorem dX1_runBody_189 : decode cX1_runBody 189 = .ok (.iconst 1, 1) := by decide +kernel
theorem dX1_runBody_190 : decode cX1_runBody 190 = .ok (.iconst 1, 1) := by decide +kernel
theorem dX1_runBody_191 : decode cX1_runBody 191 = .ok (.iload 5, 2) := by decide +kernel
theorem dX1_runBody_193 : decode cX1_runBody 193 = .ok (.invokevirtual 28, 3) := by decide +kernel
theorem dX1_runBody_196 : decode cX1_runBody 196 = .ok (.iadd, 1) := by decide +kernel
theorem dX1_runBody_197 : decode cX1_runBody 197 = .ok (.ireturn, 1) := by decide +kernel
theorem dX1_runBody_198 : decode cX1_runBody 198 = .ok (.aload_n 0, 1) := by decide +kernel
theorem dX1_runBody_199 : decode cX1_runBody 199 = .ok (.aload_n 1, 1) := by decide +kernel
theorem dX1_runBody_200 : decode cX1_runBody 200 = .ok (.iload_n 3, 1) := by decide +kernel
theorem dX1_runBody_201 : decode cX1_runBody 201 = .ok (.iconst 0, 1) := by decide +kernel
theorem dX1_runBody_202 : decode cX1_runBody 202 = .ok (.iload 4, 2) := by decide +kernel
theorem dX1_runBody_204 : decode cX1_runBody 204 = .ok (.iload 5, 2) := by decide +kernel
theorem dX1_runBody_206 : decode cX1_runBody 206 = .ok (.invokevirtual 28, 3) := by decide +kernel
theorem dX1_runBody_209 : decode cX1_runBody 209 = .ok (.ineg, 1) := by decide +kernel
theorem dX1_runBody_210 : decode cX1_runBody 210 = .ok (.ireturn, 1) := by decide +kernel
theorem dX1_runBody_211 : decode cX1_runBody 211 = .ok (.aload_n 0, 1) := by decide +kernel
theorem dX1_runBody_212 : decode cX1_runBody 212 = .ok (.aload_n 1, 1) := by decide +kernel
theorem dX1_runBody_213 : decode cX1_runBody 213 = .ok (.iload_n 3, 1) := by decide +kernel
theorem dX1_runBody_214 : decode cX1_runBody 214 = .ok (.iconst 1, 1) := by decide +kernel
theorem dX1_runBody_215 : decode cX1_runBody 215 = .ok (.iload 4, 2) := by decide +kernel
theorem dX1_runBody_217 : decode cX1_runBody 217 = .ok (.iconst 1, 1) := by decide +kernel
theorem dX1_runBody_218 : decode cX1_runBody 218 = .ok (.iadd, 1) := by decide +kernel
theorem dX1_runBody_219 : decode cX1_runBody 219 = .ok (.iload 5, 2) := by decide +kernel
theorem dX1_runBody_221 : decode cX1_runBody 221 = .ok (.invokevirtual 28, 3) := by decide +kernel
theorem dX1_runBody_224 : decode cX1_runBody 224 = .ok (.ireturn, 1) := by decide +kernel
theorem dX1_runBody_225 : decode cX1_runBody 225 = .ok (.aload_n 0, 1) := by decide +kernel
theorem dX1_runBody_226 : decode cX1_runBody 226 = .ok (.aload_n 1, 1) := by decide +kernel
theorem dX1_runBody_227 : decode cX1_runBody 227 = .ok (.iload_n 3, 1) := by decide +kernel
theorem dX1_runBody_228 : decode cX1_runBody 228 = .ok (.iconst 2, 1) := by decide +kernel
theorem dX1_runBody_229 : decode cX1_runBody 229 = .ok (.iload 4, 2) := by decide +kernel
theorem dX1_runBody_231 : decode cX1_runBody 231 = .ok (.aload_n 1, 1) := by decide +kernel
theorem dX1_runBody_232 : decode cX1_runBody 232 = .ok (.getfield 50, 3) := by decide +kernel
theorem dX1_runBody_235 : decode cX1_runBody 235 = .ok (.isub, 1) := by decide +kernel
theorem dX1_runBody_236 : decode cX1_runBody 236 = .ok (.iload 5, 2) := by decide +kernel
theorem dX1_runBody_238 : decode cX1_runBody 238 = .ok (.invokevirtual 28, 3) := by decide +kernel
theorem dX1_runBody_241 : decode cX1_runBody 241 = .ok (.ireturn, 1) := by decide +kernel
theorem dX1_runBody_242 : decode cX1_runBody 242 = .ok (.aload_n 0, 1) := by decide +kernel
theorem dX1_runBody_243 : decode cX1_runBody 243 = .ok (.aload_n 1, 1) := by decide +kernel
theorem dX1_runBody_244 : decode cX1_runBody 244 = .ok (.iload_n 3, 1) := by decide +kernel
theorem dX1_runBody_245 : decode cX1_runBody 245 = .ok (.iconst 1, 1) := by decide +kernel
theorem dX1_runBody_246 : decode cX1_runBody 246 = .ok (.iload 4, 2) := by decide +kernel
theorem dX1_runBody_248 : decode cX1_runBody 248 = .ok (.iload 5, 2) := by decide +kernel
theorem dX1_runBody_250 : decode cX1_runBody 250 = .ok (.invokevirtual 28, 3) := by decide +kernel
theorem dX1_runBody_253 : decode cX1_runBody 253 = .ok (.aload_n 0, 1) := by decide +kernel
theorem dX1_runBody_254 : decode cX1_runBody 254 = .ok (.aload_n 1, 1) := by decide +kernel
theorem dX1_runBody_255 : decode cX1_runBody 255 = .ok (.iload_n 3, 1) := by decide +kernel
theorem dX1_runBody_256 : decode cX1_runBody 256 = .ok (.iconst 0, 1) := by decide +kernel
theorem dX1_runBody_257 : decode cX1_runBody 257 = .ok (.iconst 2, 1) := by decide +kernel
theorem dX1_runBody_258 : decode cX1_runBody 258 = .ok (.iload 5, 2) := by decide +kernel
theorem dX1_runBody_260 : decode cX1_runBody 260 = .ok (.invokevirtual 28, 3) := by decide +kernel
theorem dX1_runBody_263 : decode cX1_runBody 263 = .ok (.iadd, 1) := by decide +kernel
theorem dX1_runBody_264 : decode cX1_runBody 264 = .ok (.ireturn, 1) := by decide +kernel
theorem dX1_runBody_265 : decode cX1_runBody 265 = .ok (.aload_n 0, 1) := by decide +kernel
theorem dX1_runBody_266 : decode cX1_runBody 266 = .ok (.aload_n 1, 1) := by decide +kernel
theorem dX1_runBody_267 : decode cX1_runBody 267 = .ok (.iload_n 3, 1) := by decide +kernel
theorem dX1_runBody_268 : decode cX1_runBody 268 = .ok (.iconst 0, 1) := by decide +kernel
theorem dX1_runBody_269 : decode cX1_runBody 269 = .ok (.iload 4, 2) := by decide +kernel
theorem dX1_runBody_271 : decode cX1_runBody 271 = .ok (.iload 5, 2) := by decide +kernel
theorem dX1_runBody_273 : decode cX1_runBody 273 = .ok (.invokevirtual 28, 3) := by decide +kernel
theorem dX1_runBody_276 : decode cX1_runBody 276 = .ok (.aload_n 1, 1) := by decide +kernel
theorem dX1_runBody_277 : decode cX1_runBody 277 = .ok (.getfield 53, 3) := by decide +kernel
theorem dX1_runBody_280 : decode cX1_runBody 280 = .ok (.ixor, 1) := by decide +kernel
theorem dX1_runBody_281 : decode cX1_runBody 281 = .ok (.ireturn, 1) := by decide +kernel
theorem dX1_runBody_282 : decode cX1_runBody 282 = .ok (.iconst 0, 1) := by decide +kernel
theorem dX1_runBody_283 : decode cX1_runBody 283 = .ok (.ireturn, 1) := by decide +kernel
def f_X1_runBody_B (X : x_X) (zc : Nat → Nat → Nat → Int32 → Int32 → Int32 → Int32 → x_M → Option (Int32 × x_M)) (v0 : Nat) (v1 : Nat) (v2 : Int32) (v3 : Int32) (v4 : Int32) (v5 : Int32) (μ : x_M) : Option (Int32 × x_M) :=
  (ck (x_kd X v1 = 0 + 1) (lt (μ.1 v1 3) (fun (v7 : Int32) => (x_swo [(10 : Int32), (11 : Int32), (12 : Int32), (20 : Int32), (30 : Int32), (40 : Int32), (50 : Int32), (51 : Int32), (60 : Int32), (70 : Int32), (71 : Int32)] [(ck (x_kd X v1 = 0 + 1) (some ((v4 + (μ.1 v1 0)), μ))), (ck (x_kd X v0 = 1 + 1) (bd (zc 0 v0 v1 v7 (0 : Int32) v4 v5 μ) (fun (v8 : Int32) (μ9 : x_M) => (ck (x_kd X v1 = 0 + 1) (some ((v8 - (μ9.1 v1 4)), μ9)))))), (ck (x_kd X v0 = 1 + 1) (bd (zc 0 v0 v1 v7 (1 : Int32) v4 v5 μ) (fun (v10 : Int32) (μ11 : x_M) => (some ((v10 * (2 : Int32)), μ11))))), (ck (x_kd X v0 = 1 + 1) (bd (zc 0 v0 v1 v3 (1 : Int32) v4 v5 μ) (fun (v12 : Int32) (μ13 : x_M) => (some ((v12 ^^^ (6 : Int32)), μ13))))), (ck (x_kd X v0 = 1 + 1) (bd (zc 0 v0 v1 v3 (0 : Int32) (v4 * (3 : Int32)) v5 μ) (fun (v14 : Int32) (μ15 : x_M) => (some (v14, μ15))))), (ck (x_kd X v0 = 1 + 1) (bd (zc 0 v0 v1 v3 (2 : Int32) v4 v5 μ) (fun (v16 : Int32) (μ17 : x_M) => (ck (x_kd X v0 = 1 + 1) (bd (zc 0 v0 v1 v7 (1 : Int32) (1 : Int32) v5 μ17) (fun (v18 : Int32) (μ19 : x_M) => (some ((v16 + v18), μ19)))))))), (ck (x_kd X v0 = 1 + 1) (bd (zc 0 v0 v1 v3 (0 : Int32) v4 v5 μ) (fun (v20 : Int32) (μ21 : x_M) => (some ((-v20), μ21))))), (ck (x_kd X v0 = 1 + 1) (bd (zc 0 v0 v1 v3 (1 : Int32) (v4 + (1 : Int32)) v5 μ) (fun (v22 : Int32) (μ23 : x_M) => (some (v22, μ23))))), (ck (x_kd X v1 = 0 + 1) (ck (x_kd X v0 = 1 + 1) (bd (zc 0 v0 v1 v3 (2 : Int32) (v4 - (μ.1 v1 0)) v5 μ) (fun (v24 : Int32) (μ25 : x_M) => (some (v24, μ25)))))), (ck (x_kd X v0 = 1 + 1) (bd (zc 0 v0 v1 v3 (1 : Int32) v4 v5 μ) (fun (v26 : Int32) (μ27 : x_M) => (ck (x_kd X v0 = 1 + 1) (bd (zc 0 v0 v1 v3 (0 : Int32) (2 : Int32) v5 μ27) (fun (v28 : Int32) (μ29 : x_M) => (some ((v26 + v28), μ29)))))))), (ck (x_kd X v0 = 1 + 1) (bd (zc 0 v0 v1 v3 (0 : Int32) v4 v5 μ) (fun (v30 : Int32) (μ31 : x_M) => (ck (x_kd X v1 = 0 + 1) (some ((v30 ^^^ (μ31.1 v1 4)), μ31))))))] (some ((0 : Int32), μ)) v2))))
set_option maxRecDepth 100000 in
theorem b_X1_runBody_B (hI : x_I X) (hlev : 2 ≤ lev) (hz : (∀ (v0 : Nat) (v1 : Nat) (v2 : Int32) (v3 : Int32) (v4 : Int32) (v5 : Int32) (μ : x_M), x_Met X x_Z0 l yX1_run cX1_run 8 (some .int) lev [vR v0, vR v1, vI v2, vI v3, vI v4, vI v5] μ rkI (zc 0 v0 v1 v2 v3 v4 v5 μ)) ∧ (∀ (v0 : Nat) (v1 : Nat) (v2 : Int32) (v3 : Int32) (v4 : Int32) (v5 : Int32) (μ : x_M), x_Met X x_Z0 l yX1_runBody cX1_runBody 7 (some .int) lev [vR v0, vR v1, vI v2, vI v3, vI v4, vI v5] μ rkI (zc 1 v0 v1 v2 v3 v4 v5 μ))) (v0 : Nat) (v1 : Nat) (v2 : Int32) (v3 : Int32) (v4 : Int32) (v5 : Int32) (μ : x_M) : x_Met X x_Z0 l yX1_runBody cX1_runBody 7 (some .int) (lev + 1) [vR v0, vR v1, vI v2, vI v3, vI v4, vI v5] μ rkI (f_X1_runBody_B X zc v0 v1 v2 v3 v4 v5 μ) := by
  refine x_enter hI (by decide +kernel) (Nat.le_of_ble_eq_true rfl) (fun p e s m args below meth c hC hr hlk => ?_)
  unfold f_X1_runBody_B
  refine s_lv (lv' := [(0, vR v0), (1, vR v1), (2, vI v2), (3, vI v3), (4, vI v4), (5, vI v5)]) [0, 1, 2, 3, 4, 5] rfl ?_
  refine s_aload_n hC 1 dX1_runBody_0 rfl ?_
  refine s_getI hC xc0 (by decide) rfl qf_X1_23 dX1_runBody_1 ?_
  refine s_ltI (fun v7 => ?_)
  refine s_istore hC dX1_runBody_4 (by decide) (lv' := [(6, vI v7), (0, vR v0), (1, vR v1), (2, vI v2), (3, vI v3), (4, vI v4), (5, vI v5)]) rfl ?_
  refine s_iload_n hC 3 dX1_runBody_6 rfl ?_
  refine s_lookup hC dX1_runBody_7 (by decide) [((10 : Int32), 104), ((11 : Int32), 112), ((12 : Int32), 130), ((20 : Int32), 145), ((30 : Int32), 160), ((40 : Int32), 174), ((50 : Int32), 198), ((51 : Int32), 211), ((60 : Int32), 225), ((70 : Int32), 242), ((71 : Int32), 265)] 282 (by decide +kernel) ⟨?_, ?_, ?_, ?_, ?_, ?_, ?_, ?_, ?_, ?_, ?_, trivial⟩ ?_
  · refine s_iload hC 5 dX1_runBody_104 rfl ?_
    refine s_aload_n hC 2 dX1_runBody_106 rfl ?_
    refine s_getI hC xc0 (by decide) rfl qf_X1_50 dX1_runBody_107 ?_
    refine s_iadd hC dX1_runBody_110 ?_
    exact s_iret hC hr hlk dX1_runBody_111
  · refine s_aload_n hC 1 dX1_runBody_112 rfl ?_
    refine s_aload_n hC 2 dX1_runBody_113 rfl ?_
    refine s_iload hC 0 dX1_runBody_114 rfl ?_
    refine s_iconst hC dX1_runBody_116 (v := 0) (by decide) ?_
    refine s_iload hC 5 dX1_runBody_117 rfl ?_
    refine s_iload hC 6 dX1_runBody_119 rfl ?_
    refine s_callV hC (x := v0) (avs := [vR v1, vI v7, vI (0 : Int32), vI v4, vI v5]) (st := []) (nest := false) xc1 (hz.1 v0 v1 v7 (0 : Int32) v4 v5 μ) dX1_runBody_121 qm_X1_28 qi_X1_run qs_X1_run qc_X1 qd_X1_run qh_X1_run (by omega) (fun _ => Nat.le_of_ble_eq_true rfl) (Nat.le_of_ble_eq_true rfl) (fun v8 μ9 => ?_)
    refine s_aload_n hC 2 dX1_runBody_124 rfl ?_
    refine s_getI hC xc0 (by decide) rfl qf_X1_53 dX1_runBody_125 ?_
    refine s_isub hC dX1_runBody_128 ?_
    exact s_iret hC hr hlk dX1_runBody_129
  · refine s_aload_n hC 1 dX1_runBody_130 rfl ?_
    refine s_aload_n hC 2 dX1_runBody_131 rfl ?_
    refine s_iload hC 0 dX1_runBody_132 rfl ?_
    refine s_iconst hC dX1_runBody_134 (v := 1) (by decide) ?_
    refine s_iload hC 5 dX1_runBody_135 rfl ?_
    refine s_iload hC 6 dX1_runBody_137 rfl ?_
    refine s_callV hC (x := v0) (avs := [vR v1, vI v7, vI (1 : Int32), vI v4, vI v5]) (st := []) (nest := false) xc1 (hz.1 v0 v1 v7 (1 : Int32) v4 v5 μ) dX1_runBody_139 qm_X1_28 qi_X1_run qs_X1_run qc_X1 qd_X1_run qh_X1_run (by omega) (fun _ => Nat.le_of_ble_eq_true rfl) (Nat.le_of_ble_eq_true rfl) (fun v10 μ11 => ?_)
    refine s_iconst hC dX1_runBody_142 (v := 2) (by decide) ?_
    refine s_imul hC dX1_runBody_143 ?_
    exact s_iret hC hr hlk dX1_runBody_144
  · refine s_aload_n hC 1 dX1_runBody_145 rfl ?_
    refine s_aload_n hC 2 dX1_runBody_146 rfl ?_
    refine s_iload_n hC 4 dX1_runBody_147 rfl ?_
    refine s_iconst hC dX1_runBody_148 (v := 1) (by decide) ?_
    refine s_iload hC 5 dX1_runBody_149 rfl ?_
    refine s_iload hC 6 dX1_runBody_151 rfl ?_
    refine s_callV hC (x := v0) (avs := [vR v1, vI v3, vI (1 : Int32), vI v4, vI v5]) (st := []) (nest := false) xc1 (hz.1 v0 v1 v3 (1 : Int32) v4 v5 μ) dX1_runBody_153 qm_X1_28 qi_X1_run qs_X1_run qc_X1 qd_X1_run qh_X1_run (by omega) (fun _ => Nat.le_of_ble_eq_true rfl) (Nat.le_of_ble_eq_true rfl) (fun v12 μ13 => ?_)
    refine s_bipush hC dX1_runBody_156 (v := 6) (by decide) ?_
    refine s_ixor hC dX1_runBody_158 ?_
    exact s_iret hC hr hlk dX1_runBody_159
  · refine s_aload_n hC 1 dX1_runBody_160 rfl ?_
    refine s_aload_n hC 2 dX1_runBody_161 rfl ?_
    refine s_iload_n hC 4 dX1_runBody_162 rfl ?_
    refine s_iconst hC dX1_runBody_163 (v := 0) (by decide) ?_
    refine s_iload hC 5 dX1_runBody_164 rfl ?_
    refine s_iconst hC dX1_runBody_166 (v := 3) (by decide) ?_
    refine s_imul hC dX1_runBody_167 ?_
    refine s_iload hC 6 dX1_runBody_168 rfl ?_
    refine s_callV hC (x := v0) (avs := [vR v1, vI v3, vI (0 : Int32), vI (v4 * (3 : Int32)), vI v5]) (st := []) (nest := false) xc1 (hz.1 v0 v1 v3 (0 : Int32) (v4 * (3 : Int32)) v5 μ) dX1_runBody_170 qm_X1_28 qi_X1_run qs_X1_run qc_X1 qd_X1_run qh_X1_run (by omega) (fun _ => Nat.le_of_ble_eq_true rfl) (Nat.le_of_ble_eq_true rfl) (fun v14 μ15 => ?_)
    exact s_iret hC hr hlk dX1_runBody_173
  · refine s_aload_n hC 1 dX1_runBody_174 rfl ?_
    refine s_aload_n hC 2 dX1_runBody_175 rfl ?_
    refine s_iload_n hC 4 dX1_runBody_176 rfl ?_
    refine s_iconst hC dX1_runBody_177 (v := 2) (by decide) ?_
    refine s_iload hC 5 dX1_runBody_178 rfl ?_
    refine s_iload hC 6 dX1_runBody_180 rfl ?_
    refine s_callV hC (x := v0) (avs := [vR v1, vI v3, vI (2 : Int32), vI v4, vI v5]) (st := []) (nest := false) xc1 (hz.1 v0 v1 v3 (2 : Int32) v4 v5 μ) dX1_runBody_182 qm_X1_28 qi_X1_run qs_X1_run qc_X1 qd_X1_run qh_X1_run (by omega) (fun _ => Nat.le_of_ble_eq_true rfl) (Nat.le_of_ble_eq_true rfl) (fun v16 μ17 => ?_)
    refine s_aload_n hC 1 dX1_runBody_185 rfl ?_
    refine s_aload_n hC 2 dX1_runBody_186 rfl ?_
    refine s_iload hC 0 dX1_runBody_187 rfl ?_
    refine s_iconst hC dX1_runBody_189 (v := 1) (by decide) ?_
    refine s_iconst hC dX1_runBody_190 (v := 1) (by decide) ?_
    refine s_iload hC 6 dX1_runBody_191 rfl ?_
    refine s_callV hC (x := v0) (avs := [vR v1, vI v7, vI (1 : Int32), vI (1 : Int32), vI v5]) (st := [vI v16]) (nest := false) xc1 (hz.1 v0 v1 v7 (1 : Int32) (1 : Int32) v5 μ17) dX1_runBody_193 qm_X1_28 qi_X1_run qs_X1_run qc_X1 qd_X1_run qh_X1_run (by omega) (fun _ => Nat.le_of_ble_eq_true rfl) (Nat.le_of_ble_eq_true rfl) (fun v18 μ19 => ?_)
    refine s_iadd hC dX1_runBody_196 ?_
    exact s_iret hC hr hlk dX1_runBody_197
  · refine s_aload_n hC 1 dX1_runBody_198 rfl ?_
    refine s_aload_n hC 2 dX1_runBody_199 rfl ?_
    refine s_iload_n hC 4 dX1_runBody_200 rfl ?_
    refine s_iconst hC dX1_runBody_201 (v := 0) (by decide) ?_
    refine s_iload hC 5 dX1_runBody_202 rfl ?_
    refine s_iload hC 6 dX1_runBody_204 rfl ?_
    refine s_callV hC (x := v0) (avs := [vR v1, vI v3, vI (0 : Int32), vI v4, vI v5]) (st := []) (nest := false) xc1 (hz.1 v0 v1 v3 (0 : Int32) v4 v5 μ) dX1_runBody_206 qm_X1_28 qi_X1_run qs_X1_run qc_X1 qd_X1_run qh_X1_run (by omega) (fun _ => Nat.le_of_ble_eq_true rfl) (Nat.le_of_ble_eq_true rfl) (fun v20 μ21 => ?_)
    refine s_ineg hC dX1_runBody_209 ?_
    exact s_iret hC hr hlk dX1_runBody_210
  · refine s_aload_n hC 1 dX1_runBody_211 rfl ?_
    refine s_aload_n hC 2 dX1_runBody_212 rfl ?_
    refine s_iload_n hC 4 dX1_runBody_213 rfl ?_
    refine s_iconst hC dX1_runBody_214 (v := 1) (by decide) ?_
    refine s_iload hC 5 dX1_runBody_215 rfl ?_
    refine s_iconst hC dX1_runBody_217 (v := 1) (by decide) ?_
    refine s_iadd hC dX1_runBody_218 ?_
    refine s_iload hC 6 dX1_runBody_219 rfl ?_
    refine s_callV hC (x := v0) (avs := [vR v1, vI v3, vI (1 : Int32), vI (v4 + (1 : Int32)), vI v5]) (st := []) (nest := false) xc1 (hz.1 v0 v1 v3 (1 : Int32) (v4 + (1 : Int32)) v5 μ) dX1_runBody_221 qm_X1_28 qi_X1_run qs_X1_run qc_X1 qd_X1_run qh_X1_run (by omega) (fun _ => Nat.le_of_ble_eq_true rfl) (Nat.le_of_ble_eq_true rfl) (fun v22 μ23 => ?_)
    exact s_iret hC hr hlk dX1_runBody_224
  · refine s_aload_n hC 1 dX1_runBody_225 rfl ?_
    refine s_aload_n hC 2 dX1_runBody_226 rfl ?_
    refine s_iload_n hC 4 dX1_runBody_227 rfl ?_
    refine s_iconst hC dX1_runBody_228 (v := 2) (by decide) ?_
    refine s_iload hC 5 dX1_runBody_229 rfl ?_
    refine s_aload_n hC 2 dX1_runBody_231 rfl ?_
    refine s_getI hC xc0 (by decide) rfl qf_X1_50 dX1_runBody_232 ?_
    refine s_isub hC dX1_runBody_235 ?_
    refine s_iload hC 6 dX1_runBody_236 rfl ?_
    refine s_callV hC (x := v0) (avs := [vR v1, vI v3, vI (2 : Int32), vI (v4 - (μ.1 v1 0)), vI v5]) (st := []) (nest := false) xc1 (hz.1 v0 v1 v3 (2 : Int32) (v4 - (μ.1 v1 0)) v5 μ) dX1_runBody_238 qm_X1_28 qi_X1_run qs_X1_run qc_X1 qd_X1_run qh_X1_run (by omega) (fun _ => Nat.le_of_ble_eq_true rfl) (Nat.le_of_ble_eq_true rfl) (fun v24 μ25 => ?_)
    exact s_iret hC hr hlk dX1_runBody_241
  · refine s_aload_n hC 1 dX1_runBody_242 rfl ?_
    refine s_aload_n hC 2 dX1_runBody_243 rfl ?_
    refine s_iload_n hC 4 dX1_runBody_244 rfl ?_
    refine s_iconst hC dX1_runBody_245 (v := 1) (by decide) ?_
    refine s_iload hC 5 dX1_runBody_246 rfl ?_
    refine s_iload hC 6 dX1_runBody_248 rfl ?_
    refine s_callV hC (x := v0) (avs := [vR v1, vI v3, vI (1 : Int32), vI v4, vI v5]) (st := []) (nest := false) xc1 (hz.1 v0 v1 v3 (1 : Int32) v4 v5 μ) dX1_runBody_250 qm_X1_28 qi_X1_run qs_X1_run qc_X1 qd_X1_run qh_X1_run (by omega) (fun _ => Nat.le_of_ble_eq_true rfl) (Nat.le_of_ble_eq_true rfl) (fun v26 μ27 => ?_)
    refine s_aload_n hC 1 dX1_runBody_253 rfl ?_
    refine s_aload_n hC 2 dX1_runBody_254 rfl ?_
    refine s_iload_n hC 4 dX1_runBody_255 rfl ?_
    refine s_iconst hC dX1_runBody_256 (v := 0) (by decide) ?_
    refine s_iconst hC dX1_runBody_257 (v := 2) (by decide) ?_
    refine s_iload hC 6 dX1_runBody_258 rfl ?_
    refine s_callV hC (x := v0) (avs := [vR v1, vI v3, vI (0 : Int32), vI (2 : Int32), vI v5]) (st := [vI v26]) (nest := false) xc1 (hz.1 v0 v1 v3 (0 : Int32) (2 : Int32) v5 μ27) dX1_runBody_260 qm_X1_28 qi_X1_run qs_X1_run qc_X1 qd_X1_run qh_X1_run (by omega) (fun _ => Nat.le_of_ble_eq_true rfl) (Nat.le_of_ble_eq_true rfl) (fun v28 μ29 => ?_)
    refine s_iadd hC dX1_runBody_263 ?_
    exact s_iret hC hr hlk dX1_runBody_264
  · refine s_aload_n hC 1 dX1_runBody_265 rfl ?_
    refine s_aload_n hC 2 dX1_runBody_266 rfl ?_
    refine s_iload_n hC 4 dX1_runBody_267 rfl ?_
    refine s_iconst hC dX1_runBody_268 (v := 0) (by decide) ?_
    refine s_iload hC 5 dX1_runBody_269 rfl ?_
    refine s_iload hC 6 dX1_runBody_271 rfl ?_
    refine s_callV hC (x := v0) (avs := [vR v1, vI v3, vI (0 : Int32), vI v4, vI v5]) (st := []) (nest := false) xc1 (hz.1 v0 v1 v3 (0 : Int32) v4 v5 μ) dX1_runBody_273 qm_X1_28 qi_X1_run qs_X1_run qc_X1 qd_X1_run qh_X1_run (by omega) (fun _ => Nat.le_of_ble_eq_true rfl) (Nat.le_of_ble_eq_true rfl) (fun v30 μ31 => ?_)
    refine s_aload_n hC 2 dX1_runBody_276 rfl ?_
    refine s_getI hC xc0 (by decide) rfl qf_X1_53 dX1_runBody_277 ?_
    refine s_ixor hC dX1_runBody_280 ?_
    exact s_iret hC hr hlk dX1_runBody_281
  refine s_iconst hC dX1_runBody_282 (v := 0) (by decide) ?_
  exact s_iret hC hr hlk dX1_runBody_283
end G_X1_run
def z_X1_run (X : x_X) : Nat → Nat → Nat → Nat → Int32 → Int32 → Int32 → Int32 → x_M → Option (Int32 × x_M)
  | 0, _, _, _, _, _, _, _, _ => none
  | d + 1, w, v0, v1, v2, v3, v4, v5, μ => if w = 0 then f_X1_run_B X (z_X1_run X d) v0 v1 v2 v3 v4 v5 μ else if w = 1 then f_X1_runBody_B X (z_X1_run X d) v0 v1 v2 v3 v4 v5 μ else none
set_option maxRecDepth 100000 in
theorem mz_X1_run (hI : x_I X) : ∀ d : Nat, (∀ (v0 : Nat) (v1 : Nat) (v2 : Int32) (v3 : Int32) (v4 : Int32) (v5 : Int32) (μ : x_M), x_Met X x_Z0 l yX1_run cX1_run 8 (some .int) (2 + d) [vR v0, vR v1, vI v2, vI v3, vI v4, vI v5] μ rkI (z_X1_run X d 0 v0 v1 v2 v3 v4 v5 μ)) ∧ (∀ (v0 : Nat) (v1 : Nat) (v2 : Int32) (v3 : Int32) (v4 : Int32) (v5 : Int32) (μ : x_M), x_Met X x_Z0 l yX1_runBody cX1_runBody 7 (some .int) (2 + d) [vR v0, vR v1, vI v2, vI v3, vI v4, vI v5] μ rkI (z_X1_run X d 1 v0 v1 v2 v3 v4 v5 μ)) := by
  intro d
  induction d with
  | zero => exact ⟨(fun v0 v1 v2 v3 v4 v5 μ r μ2 h => by cases h), (fun v0 v1 v2 v3 v4 v5 μ r μ2 h => by cases h)⟩
  | succ d ih => exact ⟨(fun v0 v1 v2 v3 v4 v5 μ => b_X1_run_B hI (Nat.le_add_right _ _) ih v0 v1 v2 v3 v4 v5 μ), (fun v0 v1 v2 v3 v4 v5 μ => b_X1_runBody_B hI (Nat.le_add_right _ _) ih v0 v1 v2 v3 v4 v5 μ)⟩
def f_X1_run (X : x_X) (v0 : Nat) (v1 : Nat) (v2 : Int32) (v3 : Int32) (v4 : Int32) (v5 : Int32) (μ : x_M) : Option (Int32 × x_M) := z_X1_run X 20 0 v0 v1 v2 v3 v4 v5 μ
theorem m_X1_run (hI : x_I X) (v0 : Nat) (v1 : Nat) (v2 : Int32) (v3 : Int32) (v4 : Int32) (v5 : Int32) (μ : x_M) : x_Met X x_Z0 l yX1_run cX1_run 8 (some .int) 22 [vR v0, vR v1, vI v2, vI v3, vI v4, vI v5] μ rkI (f_X1_run X v0 v1 v2 v3 v4 v5 μ) := (mz_X1_run hI 20).1 v0 v1 v2 v3 v4 v5 μ
def f_X1_runBody (X : x_X) (v0 : Nat) (v1 : Nat) (v2 : Int32) (v3 : Int32) (v4 : Int32) (v5 : Int32) (μ : x_M) : Option (Int32 × x_M) := z_X1_run X 20 1 v0 v1 v2 v3 v4 v5 μ
theorem m_X1_runBody (hI : x_I X) (v0 : Nat) (v1 : Nat) (v2 : Int32) (v3 : Int32) (v4 : Int32) (v5 : Int32) (μ : x_M) : x_Met X x_Z0 l yX1_runBody cX1_runBody 7 (some .int) 22 [vR v0, vR v1, vI v2, vI v3, vI v4, vI v5] μ rkI (f_X1_runBody X v0 v1 v2 v3 v4 v5 μ) := (mz_X1_run hI 20).2 v0 v1 v2 v3 v4 v5 μ
theorem dX1_perform_0 : decode cX1_perform 0 = .ok (.aload_n 0, 1) := by decide +kernel
theorem dX1_perform_1 : decode cX1_perform 1 = .ok (.iconst 0, 1) := by decide +kernel
theorem dX1_perform_2 : decode cX1_perform 2 = .ok (.putfield 15, 3) := by decide +kernel
theorem dX1_perform_5 : decode cX1_perform 5 = .ok (.aload_n 1, 1) := by decide +kernel
theorem dX1_perform_6 : decode cX1_perform 6 = .ok (.ifnull 12, 3) := by decide +kernel
theorem dX1_perform_9 : decode cX1_perform 9 = .ok (.iload_n 2, 1) := by decide +kernel
theorem dX1_perform_10 : decode cX1_perform 10 = .ok (.iconst 0, 1) := by decide +kernel
theorem dX1_perform_11 : decode cX1_perform 11 = .ok (.iconst 2, 1) := by decide +kernel
theorem dX1_perform_12 : decode cX1_perform 12 = .ok (.invokestatic 19, 3) := by decide +kernel
theorem dX1_perform_15 : decode cX1_perform 15 = .ok (.ifCond .ne 7, 3) := by decide +kernel
theorem dX1_perform_18 : decode cX1_perform 18 = .ok (.iconst 0, 1) := by decide +kernel
theorem dX1_perform_19 : decode cX1_perform 19 = .ok (.goto 15, 3) := by decide +kernel
theorem dX1_perform_22 : decode cX1_perform 22 = .ok (.aload_n 0, 1) := by decide +kernel
theorem dX1_perform_23 : decode cX1_perform 23 = .ok (.aload_n 1, 1) := by decide +kernel
theorem dX1_perform_24 : decode cX1_perform 24 = .ok (.aload_n 1, 1) := by decide +kernel
theorem dX1_perform_25 : decode cX1_perform 25 = .ok (.getfield 23, 3) := by decide +kernel
theorem dX1_perform_28 : decode cX1_perform 28 = .ok (.iload_n 2, 1) := by decide +kernel
theorem dX1_perform_29 : decode cX1_perform 29 = .ok (.iload_n 3, 1) := by decide +kernel
theorem dX1_perform_30 : decode cX1_perform 30 = .ok (.iconst 0, 1) := by decide +kernel
theorem dX1_perform_31 : decode cX1_perform 31 = .ok (.invokevirtual 28, 3) := by decide +kernel
theorem dX1_perform_34 : decode cX1_perform 34 = .ok (.ireturn, 1) := by decide +kernel
def f_X1_perform (X : x_X) (v0 : Nat) (v1 : Nat) (v2 : Int32) (v3 : Int32) (μ : x_M) : Option (Int32 × x_M) :=
  (ck (x_kd X v0 = 1 + 1) (lt (x_sI μ v0 1 (0 : Int32)) (fun (μ5 : x_M) => (if v1 = 0 then (some ((0 : Int32), μ5)) else (bd (f_X9_within X v2 (0 : Int32) (2 : Int32) μ5) (fun (v6 : Int32) (μ7 : x_M) => (if v6 = 0 then (some ((0 : Int32), μ7)) else (ck (x_kd X v1 = 0 + 1) (ck (x_kd X v0 = 1 + 1) (bd (f_X1_run X v0 v1 (μ7.1 v1 3) v2 v3 (0 : Int32) μ7) (fun (v8 : Int32) (μ9 : x_M) => (some (v8, μ9)))))))))))))
set_option maxRecDepth 100000 in
theorem m_X1_perform (hI : x_I X) (v0 : Nat) (v1 : Nat) (v2 : Int32) (v3 : Int32) (μ : x_M) : x_Met X x_Z0 l yX1_perform cX1_perform 4 (some .int) 23 [vR v0, vR v1, vI v2, vI v3] μ rkI (f_X1_perform X v0 v1 v2 v3 μ) := by
  refine x_enter hI (by decide +kernel) (Nat.le_of_ble_eq_true rfl) (fun p e s m args below meth c hC hr hlk => ?_)
  unfold f_X1_perform
  refine s_lv (lv' := [(0, vR v0), (1, vR v1), (2, vI v2), (3, vI v3)]) [0, 1, 2, 3] rfl ?_
  refine s_aload_n hC 0 dX1_perform_0 rfl ?_
  refine s_iconst hC dX1_perform_1 (v := 0) (by decide) ?_
  refine s_putI hC xc1 (by decide) rfl rfl qf_X1_15 dX1_perform_2 ?_
  refine s_ltM (fun μ5 => ?_)
  refine s_aload_n hC 1 dX1_perform_5 rfl ?_
  refine s_ifnull hC dX1_perform_6 (tgt := 18) (by decide) ?_ ?_
  · refine s_iconst hC dX1_perform_18 (v := 0) (by decide) ?_
    refine s_goto hC dX1_perform_19 (tgt := 34) (by decide) ?_
    exact s_iret hC hr hlk dX1_perform_34
  refine s_iload_n hC 2 dX1_perform_9 rfl ?_
  refine s_iconst hC dX1_perform_10 (v := 0) (by decide) ?_
  refine s_iconst hC dX1_perform_11 (v := 2) (by decide) ?_
  refine s_callS hC (avs := [vI v2, vI (0 : Int32), vI (2 : Int32)]) (st := []) (nest := true) (m_X9_within hI v2 (0 : Int32) (2 : Int32) μ5) dX1_perform_12 qm_X1_19 qt_X9_within qc_X9 qd_X9_within qh_X9_within (by decide) (fun _ => Nat.le_of_ble_eq_true rfl) (Nat.le_of_ble_eq_true rfl) (fun v6 μ7 => ?_)
  refine s_if_ne hC dX1_perform_15 (tgt := 22) (by decide) ?_ ?_
  · refine s_aload_n hC 0 dX1_perform_22 rfl ?_
    refine s_aload_n hC 1 dX1_perform_23 rfl ?_
    refine s_aload_n hC 1 dX1_perform_24 rfl ?_
    refine s_getI hC xc0 (by decide) rfl qf_X1_23 dX1_perform_25 ?_
    refine s_iload_n hC 2 dX1_perform_28 rfl ?_
    refine s_iload_n hC 3 dX1_perform_29 rfl ?_
    refine s_iconst hC dX1_perform_30 (v := 0) (by decide) ?_
    refine s_callV hC (x := v0) (avs := [vR v1, vI (μ7.1 v1 3), vI v2, vI v3, vI (0 : Int32)]) (st := []) (nest := false) xc1 (m_X1_run hI v0 v1 (μ7.1 v1 3) v2 v3 (0 : Int32) μ7) dX1_perform_31 qm_X1_28 qi_X1_run qs_X1_run qc_X1 qd_X1_run qh_X1_run (by decide) (fun _ => Nat.le_of_ble_eq_true rfl) (Nat.le_of_ble_eq_true rfl) (fun v8 μ9 => ?_)
    exact s_iret hC hr hlk dX1_perform_34
  refine s_iconst hC dX1_perform_18 (v := 0) (by decide) ?_
  refine s_goto hC dX1_perform_19 (tgt := 34) (by decide) ?_
  exact s_iret hC hr hlk dX1_perform_34
theorem dX4_clear_0 : decode cX4_clear 0 = .ok (.aload_n 0, 1) := by decide +kernel
theorem dX4_clear_1 : decode cX4_clear 1 = .ok (.iconst 0, 1) := by decide +kernel
theorem dX4_clear_2 : decode cX4_clear 2 = .ok (.putfield 30, 3) := by decide +kernel
theorem dX4_clear_5 : decode cX4_clear 5 = .ok (.aload_n 0, 1) := by decide +kernel
theorem dX4_clear_6 : decode cX4_clear 6 = .ok (.iconst 0, 1) := by decide +kernel
theorem dX4_clear_7 : decode cX4_clear 7 = .ok (.putfield 34, 3) := by decide +kernel
theorem dX4_clear_10 : decode cX4_clear 10 = .ok (.aload_n 0, 1) := by decide +kernel
theorem dX4_clear_11 : decode cX4_clear 11 = .ok (.bipush 50, 2) := by decide +kernel
theorem dX4_clear_13 : decode cX4_clear 13 = .ok (.putfield 37, 3) := by decide +kernel
theorem dX4_clear_16 : decode cX4_clear 16 = .ok (.aload_n 0, 1) := by decide +kernel
theorem dX4_clear_17 : decode cX4_clear 17 = .ok (.iconst 5, 1) := by decide +kernel
theorem dX4_clear_18 : decode cX4_clear 18 = .ok (.putfield 40, 3) := by decide +kernel
theorem dX4_clear_21 : decode cX4_clear 21 = .ok (.aload_n 0, 1) := by decide +kernel
theorem dX4_clear_22 : decode cX4_clear 22 = .ok (.iconst 0, 1) := by decide +kernel
theorem dX4_clear_23 : decode cX4_clear 23 = .ok (.putfield 43, 3) := by decide +kernel
theorem dX4_clear_26 : decode cX4_clear 26 = .ok (.return_, 1) := by decide +kernel
def f_X4_clear (X : x_X) (v0 : Nat) (μ : x_M) : Option (Unit × x_M) :=
  (ck (x_kd X v0 = 4 + 1) (lt (x_sI μ v0 5 (0 : Int32)) (fun (μ2 : x_M) => (ck (x_kd X v0 = 4 + 1) (lt (x_sI μ2 v0 6 (0 : Int32)) (fun (μ3 : x_M) => (ck (x_kd X v0 = 4 + 1) (lt (x_sI μ3 v0 7 (50 : Int32)) (fun (μ4 : x_M) => (ck (x_kd X v0 = 4 + 1) (lt (x_sI μ4 v0 8 (5 : Int32)) (fun (μ5 : x_M) => (ck (x_kd X v0 = 4 + 1) (lt (x_sI μ5 v0 9 (0 : Int32)) (fun (μ6 : x_M) => (some ((), μ6)))))))))))))))))
set_option maxRecDepth 100000 in
theorem m_X4_clear (hI : x_I X) (v0 : Nat) (μ : x_M) : x_Met X x_Z0 l yX4_clear cX4_clear 1 none 1 [vR v0] μ rkV (f_X4_clear X v0 μ) := by
  refine x_enter hI (by decide +kernel) (Nat.le_of_ble_eq_true rfl) (fun p e s m args below meth c hC hr hlk => ?_)
  unfold f_X4_clear
  refine s_lv (lv' := [(0, vR v0)]) [0] rfl ?_
  refine s_aload_n hC 0 dX4_clear_0 rfl ?_
  refine s_iconst hC dX4_clear_1 (v := 0) (by decide) ?_
  refine s_putI hC xc4 (by decide) rfl rfl qf_X4_30 dX4_clear_2 ?_
  refine s_ltM (fun μ2 => ?_)
  refine s_aload_n hC 0 dX4_clear_5 rfl ?_
  refine s_iconst hC dX4_clear_6 (v := 0) (by decide) ?_
  refine s_putI hC xc4 (by decide) rfl rfl qf_X4_34 dX4_clear_7 ?_
  refine s_ltM (fun μ3 => ?_)
  refine s_aload_n hC 0 dX4_clear_10 rfl ?_
  refine s_bipush hC dX4_clear_11 (v := 50) (by decide) ?_
  refine s_putI hC xc4 (by decide) rfl rfl qf_X4_37 dX4_clear_13 ?_
  refine s_ltM (fun μ4 => ?_)
  refine s_aload_n hC 0 dX4_clear_16 rfl ?_
  refine s_iconst hC dX4_clear_17 (v := 5) (by decide) ?_
  refine s_putI hC xc4 (by decide) rfl rfl qf_X4_40 dX4_clear_18 ?_
  refine s_ltM (fun μ5 => ?_)
  refine s_aload_n hC 0 dX4_clear_21 rfl ?_
  refine s_iconst hC dX4_clear_22 (v := 0) (by decide) ?_
  refine s_putI hC xc4 (by decide) rfl rfl qf_X4_43 dX4_clear_23 ?_
  refine s_ltM (fun μ6 => ?_)
  exact s_vret hC hr hlk dX4_clear_26
theorem dX4_tellValues_0 : decode cX4_tellValues 0 = .ok (.aload_n 1, 1) := by decide +kernel
theorem dX4_tellValues_1 : decode cX4_tellValues 1 = .ok (.ifnonnull 7, 3) := by decide +kernel
theorem dX4_tellValues_4 : decode cX4_tellValues 4 = .ok (.iconst 1, 1) := by decide +kernel
theorem dX4_tellValues_5 : decode cX4_tellValues 5 = .ok (.goto 4, 3) := by decide +kernel
theorem dX4_tellValues_8 : decode cX4_tellValues 8 = .ok (.iconst 0, 1) := by decide +kernel
theorem dX4_tellValues_9 : decode cX4_tellValues 9 = .ok (.istore 4, 2) := by decide +kernel
theorem dX4_tellValues_11 : decode cX4_tellValues 11 = .ok (.aload_n 0, 1) := by decide +kernel
theorem dX4_tellValues_12 : decode cX4_tellValues 12 = .ok (.getfield 24, 3) := by decide +kernel
theorem dX4_tellValues_15 : decode cX4_tellValues 15 = .ok (.iconst 0, 1) := by decide +kernel
theorem dX4_tellValues_16 : decode cX4_tellValues 16 = .ok (.iload_n 3, 1) := by decide +kernel
theorem dX4_tellValues_17 : decode cX4_tellValues 17 = .ok (.bipush 10, 2) := by decide +kernel
theorem dX4_tellValues_19 : decode cX4_tellValues 19 = .ok (.irem, 1) := by decide +kernel
theorem dX4_tellValues_20 : decode cX4_tellValues 20 = .ok (.iastore, 1) := by decide +kernel
theorem dX4_tellValues_21 : decode cX4_tellValues 21 = .ok (.aload_n 0, 1) := by decide +kernel
theorem dX4_tellValues_22 : decode cX4_tellValues 22 = .ok (.getfield 24, 3) := by decide +kernel
theorem dX4_tellValues_25 : decode cX4_tellValues 25 = .ok (.iconst 1, 1) := by decide +kernel
theorem dX4_tellValues_26 : decode cX4_tellValues 26 = .ok (.iload_n 3, 1) := by decide +kernel
theorem dX4_tellValues_27 : decode cX4_tellValues 27 = .ok (.bipush 10, 2) := by decide +kernel
theorem dX4_tellValues_29 : decode cX4_tellValues 29 = .ok (.idiv, 1) := by decide +kernel
theorem dX4_tellValues_30 : decode cX4_tellValues 30 = .ok (.bipush 99, 2) := by decide +kernel
theorem dX4_tellValues_32 : decode cX4_tellValues 32 = .ok (.invokestatic 46, 3) := by decide +kernel
theorem dX4_tellValues_35 : decode cX4_tellValues 35 = .ok (.iastore, 1) := by decide +kernel
theorem dX4_tellValues_36 : decode cX4_tellValues 36 = .ok (.aload_n 0, 1) := by decide +kernel
theorem dX4_tellValues_37 : decode cX4_tellValues 37 = .ok (.getfield 24, 3) := by decide +kernel
theorem dX4_tellValues_40 : decode cX4_tellValues 40 = .ok (.iconst 2, 1) := by decide +kernel
theorem dX4_tellValues_41 : decode cX4_tellValues 41 = .ok (.iload_n 2, 1) := by decide +kernel
theorem dX4_tellValues_42 : decode cX4_tellValues 42 = .ok (.iastore, 1) := by decide +kernel
theorem dX4_tellValues_43 : decode cX4_tellValues 43 = .ok (.aload_n 0, 1) := by decide +kernel
theorem dX4_tellValues_44 : decode cX4_tellValues 44 = .ok (.getfield 24, 3) := by decide +kernel
theorem dX4_tellValues_47 : decode cX4_tellValues 47 = .ok (.iconst 3, 1) := by decide +kernel
theorem dX4_tellValues_48 : decode cX4_tellValues 48 = .ok (.iload 4, 2) := by decide +kernel
theorem dX4_tellValues_50 : decode cX4_tellValues 50 = .ok (.ifCond .eq 8, 3) := by decide +kernel
theorem dX4_tellValues_53 : decode cX4_tellValues 53 = .ok (.bipush 9, 2) := by decide +kernel
theorem dX4_tellValues_55 : decode cX4_tellValues 55 = .ok (.goto 7, 3) := by decide +kernel
theorem dX4_tellValues_58 : decode cX4_tellValues 58 = .ok (.aload_n 1, 1) := by decide +kernel
theorem dX4_tellValues_59 : decode cX4_tellValues 59 = .ok (.getfield 64, 3) := by decide +kernel
theorem dX4_tellValues_62 : decode cX4_tellValues 62 = .ok (.iastore, 1) := by decide +kernel
theorem dX4_tellValues_63 : decode cX4_tellValues 63 = .ok (.aload_n 0, 1) := by decide +kernel
theorem dX4_tellValues_64 : decode cX4_tellValues 64 = .ok (.getfield 24, 3) := by decide +kernel
theorem dX4_tellValues_67 : decode cX4_tellValues 67 = .ok (.iconst 4, 1) := by decide +kernel
theorem dX4_tellValues_68 : decode cX4_tellValues 68 = .ok (.iload 4, 2) := by decide +kernel
theorem dX4_tellValues_70 : decode cX4_tellValues 70 = .ok (.ifCond .eq 8, 3) := by decide +kernel
theorem dX4_tellValues_73 : decode cX4_tellValues 73 = .ok (.bipush 9, 2) := by decide +kernel
theorem dX4_tellValues_75 : decode cX4_tellValues 75 = .ok (.goto 7, 3) := by decide +kernel
theorem dX4_tellValues_78 : decode cX4_tellValues 78 = .ok (.aload_n 1, 1) := by decide +kernel
theorem dX4_tellValues_79 : decode cX4_tellValues 79 = .ok (.getfield 69, 3) := by decide +kernel
theorem dX4_tellValues_82 : decode cX4_tellValues 82 = .ok (.iastore, 1) := by decide +kernel
theorem dX4_tellValues_83 : decode cX4_tellValues 83 = .ok (.aload_n 0, 1) := by decide +kernel
theorem dX4_tellValues_84 : decode cX4_tellValues 84 = .ok (.getfield 24, 3) := by decide +kernel
theorem dX4_tellValues_87 : decode cX4_tellValues 87 = .ok (.iconst 5, 1) := by decide +kernel
theorem dX4_tellValues_88 : decode cX4_tellValues 88 = .ok (.iload 4, 2) := by decide +kernel
theorem dX4_tellValues_90 : decode cX4_tellValues 90 = .ok (.ifCond .eq 8, 3) := by decide +kernel
theorem dX4_tellValues_93 : decode cX4_tellValues 93 = .ok (.bipush 9, 2) := by decide +kernel
theorem dX4_tellValues_95 : decode cX4_tellValues 95 = .ok (.goto 10, 3) := by decide +kernel
theorem dX4_tellValues_98 : decode cX4_tellValues 98 = .ok (.aload_n 1, 1) := by decide +kernel
theorem dX4_tellValues_99 : decode cX4_tellValues 99 = .ok (.getfield 72, 3) := by decide +kernel
theorem dX4_tellValues_102 : decode cX4_tellValues 102 = .ok (.bipush 10, 2) := by decide +kernel
theorem dX4_tellValues_104 : decode cX4_tellValues 104 = .ok (.idiv, 1) := by decide +kernel
theorem dX4_tellValues_105 : decode cX4_tellValues 105 = .ok (.iastore, 1) := by decide +kernel
theorem dX4_tellValues_106 : decode cX4_tellValues 106 = .ok (.return_, 1) := by decide +kernel
def f_X4_tellValues_J82 (X : x_X) (v28 : Nat) (v29 : Nat) (v30 : Int32) (v31 : Int32) (v32 : Int32) (v33 : Nat) (μ34 : x_M) : Option (Unit × x_M) :=
  (ck (x_kd X v33 = 20 ∧ x_ix v32 (x_ln X v33)) (lt (x_sI μ34 v33 (v32).toNatClampNeg v31) (fun (μ35 : x_M) => (ck (x_kd X v28 = 4 + 1) (lt (μ35.2.1 v28 4) (fun (v36 : Nat) => (if v30 = 0 then (ck (x_kd X v29 = 0 + 1) (ck (¬ (10 : Int32) = 0) (ck (x_kd X v36 = 20 ∧ x_ix (5 : Int32) (x_ln X v36)) (lt (x_sI μ35 v36 ((5 : Int32)).toNatClampNeg ((μ35.1 v29 5) / (10 : Int32))) (fun (μ37 : x_M) => (some ((), μ37))))))) else (ck (x_kd X v36 = 20 ∧ x_ix (5 : Int32) (x_ln X v36)) (lt (x_sI μ35 v36 ((5 : Int32)).toNatClampNeg (9 : Int32)) (fun (μ38 : x_M) => (some ((), μ38))))))))))))
set_option maxRecDepth 100000 in
theorem j_X4_tellValues_J82 (hI : x_I X) (hC : x_C X x_Z0 p (x_rm 1) s m c cX4_tellValues RX4 5 0 0 1) (hr : meth.sig.returnType = none) (hlk : meth.locks = false) (v28 : Nat) (v29 : Nat) (v30 : Int32) (v31 : Int32) (v32 : Int32) (v33 : Nat) (μ34 : x_M) : SM X 5 1 rkV p l e s m args below meth c 82 [(0, vR v28), (1, vR v29), (4, vI v30)] [vI v31, vI v32, vR v33] μ34 (f_X4_tellValues_J82 X v28 v29 v30 v31 v32 v33 μ34) := by
  unfold f_X4_tellValues_J82
  refine s_iast hC dX4_tellValues_82 ?_
  refine s_ltM (fun μ35 => ?_)
  refine s_aload_n hC 0 dX4_tellValues_83 rfl ?_
  refine s_getR hC xc4 (by decide) rfl qf_X4_24 dX4_tellValues_84 ?_
  refine s_ltR (fun v36 => ?_)
  refine s_iconst hC dX4_tellValues_87 (v := 5) (by decide) ?_
  refine s_iload hC 2 dX4_tellValues_88 rfl ?_
  refine s_if_eq hC dX4_tellValues_90 (tgt := 98) (by decide) ?_ ?_
  · refine s_aload_n hC 1 dX4_tellValues_98 rfl ?_
    refine s_getI hC xc0 (by decide) rfl qf_X4_72 dX4_tellValues_99 ?_
    refine s_bipush hC dX4_tellValues_102 (v := 10) (by decide) ?_
    refine s_idiv hC dX4_tellValues_104 ?_
    refine s_iast hC dX4_tellValues_105 ?_
    refine s_ltM (fun μ37 => ?_)
    exact s_vret hC hr hlk dX4_tellValues_106
  refine s_bipush hC dX4_tellValues_93 (v := 9) (by decide) ?_
  refine s_goto hC dX4_tellValues_95 (tgt := 105) (by decide) ?_
  refine s_iast hC dX4_tellValues_105 ?_
  refine s_ltM (fun μ38 => ?_)
  exact s_vret hC hr hlk dX4_tellValues_106
def f_X4_tellValues_J62 (X : x_X) (v19 : Nat) (v20 : Nat) (v21 : Int32) (v22 : Int32) (v23 : Int32) (v24 : Nat) (μ25 : x_M) : Option (Unit × x_M) :=
  (ck (x_kd X v24 = 20 ∧ x_ix v23 (x_ln X v24)) (lt (x_sI μ25 v24 (v23).toNatClampNeg v22) (fun (μ26 : x_M) => (ck (x_kd X v19 = 4 + 1) (lt (μ26.2.1 v19 4) (fun (v27 : Nat) => (if v21 = 0 then (ck (x_kd X v20 = 0 + 1) (f_X4_tellValues_J82 X v19 v20 v21 (μ26.1 v20 3) (4 : Int32) v27 μ26)) else (f_X4_tellValues_J82 X v19 v20 v21 (9 : Int32) (4 : Int32) v27 μ26))))))))
set_option maxRecDepth 100000 in
theorem j_X4_tellValues_J62 (hI : x_I X) (hC : x_C X x_Z0 p (x_rm 1) s m c cX4_tellValues RX4 5 0 0 1) (hr : meth.sig.returnType = none) (hlk : meth.locks = false) (v19 : Nat) (v20 : Nat) (v21 : Int32) (v22 : Int32) (v23 : Int32) (v24 : Nat) (μ25 : x_M) : SM X 5 1 rkV p l e s m args below meth c 62 [(0, vR v19), (1, vR v20), (4, vI v21)] [vI v22, vI v23, vR v24] μ25 (f_X4_tellValues_J62 X v19 v20 v21 v22 v23 v24 μ25) := by
  unfold f_X4_tellValues_J62
  refine s_iast hC dX4_tellValues_62 ?_
  refine s_ltM (fun μ26 => ?_)
  refine s_aload_n hC 0 dX4_tellValues_63 rfl ?_
  refine s_getR hC xc4 (by decide) rfl qf_X4_24 dX4_tellValues_64 ?_
  refine s_ltR (fun v27 => ?_)
  refine s_iconst hC dX4_tellValues_67 (v := 4) (by decide) ?_
  refine s_iload hC 2 dX4_tellValues_68 rfl ?_
  refine s_if_eq hC dX4_tellValues_70 (tgt := 78) (by decide) ?_ ?_
  · refine s_aload_n hC 1 dX4_tellValues_78 rfl ?_
    refine s_getI hC xc0 (by decide) rfl qf_X4_69 dX4_tellValues_79 ?_
    exact j_X4_tellValues_J82 hI hC hr hlk _ _ _ _ _ _ _
  refine s_bipush hC dX4_tellValues_73 (v := 9) (by decide) ?_
  refine s_goto hC dX4_tellValues_75 (tgt := 82) (by decide) ?_
  exact j_X4_tellValues_J82 hI hC hr hlk _ _ _ _ _ _ _
def f_X4_tellValues_J9 (X : x_X) (v5 : Nat) (v6 : Nat) (v7 : Int32) (v8 : Int32) (v9 : Int32) (μ10 : x_M) : Option (Unit × x_M) :=
  (ck (x_kd X v5 = 4 + 1) (lt (μ10.2.1 v5 4) (fun (v11 : Nat) => (ck (¬ (10 : Int32) = 0) (ck (x_kd X v11 = 20 ∧ x_ix (0 : Int32) (x_ln X v11)) (lt (x_sI μ10 v11 ((0 : Int32)).toNatClampNeg (v8 - v8 / (10 : Int32) * (10 : Int32))) (fun (μ12 : x_M) => (ck (x_kd X v5 = 4 + 1) (lt (μ12.2.1 v5 4) (fun (v13 : Nat) => (ck (¬ (10 : Int32) = 0) (lt (v8 / (10 : Int32)) (fun (v14 : Int32) => (ck (x_kd X v13 = 20 ∧ x_ix (1 : Int32) (x_ln X v13)) (lt (x_sI μ12 v13 ((1 : Int32)).toNatClampNeg (if (99 : Int32) < v14 then (99 : Int32) else v14)) (fun (μ15 : x_M) => (ck (x_kd X v5 = 4 + 1) (lt (μ15.2.1 v5 4) (fun (v16 : Nat) => (ck (x_kd X v16 = 20 ∧ x_ix (2 : Int32) (x_ln X v16)) (lt (x_sI μ15 v16 ((2 : Int32)).toNatClampNeg v7) (fun (μ17 : x_M) => (ck (x_kd X v5 = 4 + 1) (lt (μ17.2.1 v5 4) (fun (v18 : Nat) => (if v9 = 0 then (ck (x_kd X v6 = 0 + 1) (f_X4_tellValues_J62 X v5 v6 v9 (μ17.1 v6 0) (3 : Int32) v18 μ17)) else (f_X4_tellValues_J62 X v5 v6 v9 (9 : Int32) (3 : Int32) v18 μ17)))))))))))))))))))))))))))
set_option maxRecDepth 100000 in
theorem j_X4_tellValues_J9 (hI : x_I X) (hC : x_C X x_Z0 p (x_rm 1) s m c cX4_tellValues RX4 5 0 0 1) (hr : meth.sig.returnType = none) (hlk : meth.locks = false) (v5 : Nat) (v6 : Nat) (v7 : Int32) (v8 : Int32) (v9 : Int32) (μ10 : x_M) : SM X 5 1 rkV p l e s m args below meth c 9 [(0, vR v5), (1, vR v6), (2, vI v7), (3, vI v8)] [vI v9] μ10 (f_X4_tellValues_J9 X v5 v6 v7 v8 v9 μ10) := by
  unfold f_X4_tellValues_J9
  refine s_istore hC dX4_tellValues_9 (by decide) (lv' := [(4, vI v9), (0, vR v5), (1, vR v6), (2, vI v7), (3, vI v8)]) rfl ?_
  refine s_aload_n hC 1 dX4_tellValues_11 rfl ?_
  refine s_getR hC xc4 (by decide) rfl qf_X4_24 dX4_tellValues_12 ?_
  refine s_ltR (fun v11 => ?_)
  refine s_iconst hC dX4_tellValues_15 (v := 0) (by decide) ?_
  refine s_iload_n hC 4 dX4_tellValues_16 rfl ?_
  refine s_bipush hC dX4_tellValues_17 (v := 10) (by decide) ?_
  refine s_irem hC dX4_tellValues_19 ?_
  refine s_iast hC dX4_tellValues_20 ?_
  refine s_ltM (fun μ12 => ?_)
  refine s_aload_n hC 1 dX4_tellValues_21 rfl ?_
  refine s_getR hC xc4 (by decide) rfl qf_X4_24 dX4_tellValues_22 ?_
  refine s_ltR (fun v13 => ?_)
  refine s_iconst hC dX4_tellValues_25 (v := 1) (by decide) ?_
  refine s_iload_n hC 4 dX4_tellValues_26 rfl ?_
  refine s_bipush hC dX4_tellValues_27 (v := 10) (by decide) ?_
  refine s_idiv hC dX4_tellValues_29 ?_
  refine s_bipush hC dX4_tellValues_30 (v := 99) (by decide) ?_
  refine s_ltI2 (fun v14 => ?_)
  refine s_min hC dX4_tellValues_32 qm_X4_46 qt_Math_min qc_Math qd_Math_min (by decide) (Nat.le_of_ble_eq_true rfl) ?_
  refine s_iast hC dX4_tellValues_35 ?_
  refine s_ltM (fun μ15 => ?_)
  refine s_aload_n hC 1 dX4_tellValues_36 rfl ?_
  refine s_getR hC xc4 (by decide) rfl qf_X4_24 dX4_tellValues_37 ?_
  refine s_ltR (fun v16 => ?_)
  refine s_iconst hC dX4_tellValues_40 (v := 2) (by decide) ?_
  refine s_iload_n hC 3 dX4_tellValues_41 rfl ?_
  refine s_iast hC dX4_tellValues_42 ?_
  refine s_ltM (fun μ17 => ?_)
  refine s_aload_n hC 1 dX4_tellValues_43 rfl ?_
  refine s_getR hC xc4 (by decide) rfl qf_X4_24 dX4_tellValues_44 ?_
  refine s_ltR (fun v18 => ?_)
  refine s_iconst hC dX4_tellValues_47 (v := 3) (by decide) ?_
  refine s_iload hC 0 dX4_tellValues_48 rfl ?_
  refine s_if_eq hC dX4_tellValues_50 (tgt := 58) (by decide) ?_ ?_
  · refine s_aload_n hC 2 dX4_tellValues_58 rfl ?_
    refine s_getI hC xc0 (by decide) rfl qf_X4_64 dX4_tellValues_59 ?_
    refine s_lv (lv' := [(0, vR v5), (1, vR v6), (4, vI v9)]) [1, 2, 0] rfl ?_
    exact j_X4_tellValues_J62 hI hC hr hlk _ _ _ _ _ _ _
  refine s_bipush hC dX4_tellValues_53 (v := 9) (by decide) ?_
  refine s_goto hC dX4_tellValues_55 (tgt := 62) (by decide) ?_
  refine s_lv (lv' := [(0, vR v5), (1, vR v6), (4, vI v9)]) [1, 2, 0] rfl ?_
  exact j_X4_tellValues_J62 hI hC hr hlk _ _ _ _ _ _ _
def f_X4_tellValues (X : x_X) (v0 : Nat) (v1 : Nat) (v2 : Int32) (v3 : Int32) (μ : x_M) : Option (Unit × x_M) :=
  (if v1 = 0 then (f_X4_tellValues_J9 X v0 v1 v2 v3 (1 : Int32) μ) else (f_X4_tellValues_J9 X v0 v1 v2 v3 (0 : Int32) μ))
set_option maxRecDepth 100000 in
theorem m_X4_tellValues (hI : x_I X) (v0 : Nat) (v1 : Nat) (v2 : Int32) (v3 : Int32) (μ : x_M) : x_Met X x_Z0 l yX4_tellValues cX4_tellValues 5 none 1 [vR v0, vR v1, vI v2, vI v3] μ rkV (f_X4_tellValues X v0 v1 v2 v3 μ) := by
  refine x_enter hI (by decide +kernel) (Nat.le_of_ble_eq_true rfl) (fun p e s m args below meth c hC hr hlk => ?_)
  unfold f_X4_tellValues
  refine s_lv (lv' := [(0, vR v0), (1, vR v1), (2, vI v2), (3, vI v3)]) [0, 1, 2, 3] rfl ?_
  refine s_aload_n hC 1 dX4_tellValues_0 rfl ?_
  refine s_ifnonnull hC dX4_tellValues_1 (tgt := 8) (by decide) ?_ ?_
  · refine s_iconst hC dX4_tellValues_8 (v := 0) (by decide) ?_
    exact j_X4_tellValues_J9 hI hC hr hlk _ _ _ _ _ _
  refine s_iconst hC dX4_tellValues_4 (v := 1) (by decide) ?_
  refine s_goto hC dX4_tellValues_5 (tgt := 9) (by decide) ?_
  exact j_X4_tellValues_J9 hI hC hr hlk _ _ _ _ _ _
theorem dX4_tell_0 : decode cX4_tell 0 = .ok (.iload_n 1, 1) := by decide +kernel
theorem dX4_tell_1 : decode cX4_tell 1 = .ok (.tableswitch 61 2 4 #[27, 40, 53], 27) := by decide +kernel
theorem dX4_tell_28 : decode cX4_tell 28 = .ok (.aload_n 0, 1) := by decide +kernel
theorem dX4_tell_29 : decode cX4_tell 29 = .ok (.iload_n 2, 1) := by decide +kernel
theorem dX4_tell_30 : decode cX4_tell 30 = .ok (.bipush 60, 2) := by decide +kernel
theorem dX4_tell_32 : decode cX4_tell 32 = .ok (.invokestatic 46, 3) := by decide +kernel
theorem dX4_tell_35 : decode cX4_tell 35 = .ok (.putfield 37, 3) := by decide +kernel
theorem dX4_tell_38 : decode cX4_tell 38 = .ok (.goto 24, 3) := by decide +kernel
theorem dX4_tell_41 : decode cX4_tell 41 = .ok (.aload_n 0, 1) := by decide +kernel
theorem dX4_tell_42 : decode cX4_tell 42 = .ok (.iload_n 2, 1) := by decide +kernel
theorem dX4_tell_43 : decode cX4_tell 43 = .ok (.bipush 60, 2) := by decide +kernel
theorem dX4_tell_45 : decode cX4_tell 45 = .ok (.invokestatic 46, 3) := by decide +kernel
theorem dX4_tell_48 : decode cX4_tell 48 = .ok (.putfield 40, 3) := by decide +kernel
theorem dX4_tell_51 : decode cX4_tell 51 = .ok (.goto 11, 3) := by decide +kernel
theorem dX4_tell_54 : decode cX4_tell 54 = .ok (.aload_n 0, 1) := by decide +kernel
theorem dX4_tell_55 : decode cX4_tell 55 = .ok (.iload_n 2, 1) := by decide +kernel
theorem dX4_tell_56 : decode cX4_tell 56 = .ok (.putfield 43, 3) := by decide +kernel
theorem dX4_tell_59 : decode cX4_tell 59 = .ok (.goto 3, 3) := by decide +kernel
theorem dX4_tell_62 : decode cX4_tell 62 = .ok (.return_, 1) := by decide +kernel
def f_X4_tell (X : x_X) (v0 : Nat) (v1 : Int32) (v2 : Int32) (μ : x_M) : Option (Unit × x_M) :=
  (x_swo [(2 : Int32), (3 : Int32), (4 : Int32)] [(ck (x_kd X v0 = 4 + 1) (lt (x_sI μ v0 7 (if (60 : Int32) < v2 then (60 : Int32) else v2)) (fun (μ4 : x_M) => (some ((), μ4))))), (ck (x_kd X v0 = 4 + 1) (lt (x_sI μ v0 8 (if (60 : Int32) < v2 then (60 : Int32) else v2)) (fun (μ5 : x_M) => (some ((), μ5))))), (ck (x_kd X v0 = 4 + 1) (lt (x_sI μ v0 9 v2) (fun (μ6 : x_M) => (some ((), μ6)))))] (some ((), μ)) v1)
set_option maxRecDepth 100000 in
theorem m_X4_tell (hI : x_I X) (v0 : Nat) (v1 : Int32) (v2 : Int32) (μ : x_M) : x_Met X x_Z0 l yX4_tell cX4_tell 3 none 1 [vR v0, vI v1, vI v2] μ rkV (f_X4_tell X v0 v1 v2 μ) := by
  refine x_enter hI (by decide +kernel) (Nat.le_of_ble_eq_true rfl) (fun p e s m args below meth c hC hr hlk => ?_)
  unfold f_X4_tell
  refine s_lv (lv' := [(0, vR v0), (1, vI v1), (2, vI v2)]) [0, 1, 2] rfl ?_
  refine s_iload_n hC 1 dX4_tell_0 rfl ?_
  refine s_table hC dX4_tell_1 [((2 : Int32), 28), ((3 : Int32), 41), ((4 : Int32), 54)] 62 (by decide +kernel) ⟨?_, ?_, ?_, trivial⟩ ?_
  · refine s_aload_n hC 0 dX4_tell_28 rfl ?_
    refine s_iload_n hC 2 dX4_tell_29 rfl ?_
    refine s_bipush hC dX4_tell_30 (v := 60) (by decide) ?_
    refine s_min hC dX4_tell_32 qm_X4_46 qt_Math_min qc_Math qd_Math_min (by decide) (Nat.le_of_ble_eq_true rfl) ?_
    refine s_putI hC xc4 (by decide) rfl rfl qf_X4_37 dX4_tell_35 ?_
    refine s_ltM (fun μ4 => ?_)
    refine s_goto hC dX4_tell_38 (tgt := 62) (by decide) ?_
    exact s_vret hC hr hlk dX4_tell_62
  · refine s_aload_n hC 0 dX4_tell_41 rfl ?_
    refine s_iload_n hC 2 dX4_tell_42 rfl ?_
    refine s_bipush hC dX4_tell_43 (v := 60) (by decide) ?_
    refine s_min hC dX4_tell_45 qm_X4_46 qt_Math_min qc_Math qd_Math_min (by decide) (Nat.le_of_ble_eq_true rfl) ?_
    refine s_putI hC xc4 (by decide) rfl rfl qf_X4_40 dX4_tell_48 ?_
    refine s_ltM (fun μ5 => ?_)
    refine s_goto hC dX4_tell_51 (tgt := 62) (by decide) ?_
    exact s_vret hC hr hlk dX4_tell_62
  · refine s_aload_n hC 0 dX4_tell_54 rfl ?_
    refine s_iload_n hC 2 dX4_tell_55 rfl ?_
    refine s_putI hC xc4 (by decide) rfl rfl qf_X4_43 dX4_tell_56 ?_
    refine s_ltM (fun μ6 => ?_)
    refine s_goto hC dX4_tell_59 (tgt := 62) (by decide) ?_
    exact s_vret hC hr hlk dX4_tell_62
  exact s_vret hC hr hlk dX4_tell_62
theorem dX4_holds_0 : decode cX4_holds 0 = .ok (.lconst 0, 1) := by decide +kernel
theorem dX4_holds_1 : decode cX4_holds 1 = .ok (.lstore_n 3, 1) := by decide +kernel
theorem dX4_holds_2 : decode cX4_holds 2 = .ok (.iload_n 1, 1) := by decide +kernel
theorem dX4_holds_3 : decode cX4_holds 3 = .ok (.iconst 0, 1) := by decide +kernel
theorem dX4_holds_4 : decode cX4_holds 4 = .ok (.invokestatic 75, 3) := by decide +kernel
theorem dX4_holds_7 : decode cX4_holds 7 = .ok (.istore 5, 2) := by decide +kernel
theorem dX4_holds_9 : decode cX4_holds 9 = .ok (.iload 5, 2) := by decide +kernel
theorem dX4_holds_11 : decode cX4_holds 11 = .ok (.iload_n 2, 1) := by decide +kernel
theorem dX4_holds_12 : decode cX4_holds 12 = .ok (.if_icmp .ge 178, 3) := by decide +kernel
theorem dX4_holds_15 : decode cX4_holds 15 = .ok (.iload 5, 2) := by decide +kernel
theorem dX4_holds_17 : decode cX4_holds 17 = .ok (.bipush 100, 2) := by decide +kernel
theorem dX4_holds_19 : decode cX4_holds 19 = .ok (.if_icmp .ge 171, 3) := by decide +kernel
theorem dX4_holds_22 : decode cX4_holds 22 = .ok (.aload_n 0, 1) := by decide +kernel
theorem dX4_holds_23 : decode cX4_holds 23 = .ok (.getfield 21, 3) := by decide +kernel
theorem dX4_holds_26 : decode cX4_holds 26 = .ok (.iload 5, 2) := by decide +kernel
theorem dX4_holds_28 : decode cX4_holds 28 = .ok (.iaload, 1) := by decide +kernel
theorem dX4_holds_29 : decode cX4_holds 29 = .ok (.istore 6, 2) := by decide +kernel
theorem dX4_holds_31 : decode cX4_holds 31 = .ok (.iload 6, 2) := by decide +kernel
theorem dX4_holds_33 : decode cX4_holds 33 = .ok (.iconst (-1), 1) := by decide +kernel
theorem dX4_holds_34 : decode cX4_holds 34 = .ok (.if_icmp .ne 10, 3) := by decide +kernel
theorem dX4_holds_37 : decode cX4_holds 37 = .ok (.lload_n 3, 1) := by decide +kernel
theorem dX4_holds_38 : decode cX4_holds 38 = .ok (.lconst 1, 1) := by decide +kernel
theorem dX4_holds_39 : decode cX4_holds 39 = .ok (.lxor, 1) := by decide +kernel
theorem dX4_holds_40 : decode cX4_holds 40 = .ok (.lstore_n 3, 1) := by decide +kernel
theorem dX4_holds_41 : decode cX4_holds 41 = .ok (.goto 143, 3) := by decide +kernel
theorem dX4_holds_44 : decode cX4_holds 44 = .ok (.iload 6, 2) := by decide +kernel
theorem dX4_holds_46 : decode cX4_holds 46 = .ok (.bipush (-2), 2) := by decide +kernel
theorem dX4_holds_48 : decode cX4_holds 48 = .ok (.if_icmp .ne 16, 3) := by decide +kernel
theorem dX4_holds_51 : decode cX4_holds 51 = .ok (.lload_n 3, 1) := by decide +kernel
theorem dX4_holds_52 : decode cX4_holds 52 = .ok (.iconst 1, 1) := by decide +kernel
theorem dX4_holds_53 : decode cX4_holds 53 = .ok (.lushr, 1) := by decide +kernel
theorem dX4_holds_54 : decode cX4_holds 54 = .ok (.lload_n 3, 1) := by decide +kernel
theorem dX4_holds_55 : decode cX4_holds 55 = .ok (.ldc2_w 78, 3) := by decide +kernel
theorem dX4_holds_58 : decode cX4_holds 58 = .ok (.lor, 1) := by decide +kernel
theorem dX4_holds_59 : decode cX4_holds 59 = .ok (.land, 1) := by decide +kernel
theorem dX4_holds_60 : decode cX4_holds 60 = .ok (.lstore_n 3, 1) := by decide +kernel
theorem dX4_holds_61 : decode cX4_holds 61 = .ok (.goto 123, 3) := by decide +kernel
theorem dX4_holds_64 : decode cX4_holds 64 = .ok (.iload 6, 2) := by decide +kernel
theorem dX4_holds_66 : decode cX4_holds 66 = .ok (.bipush (-3), 2) := by decide +kernel
theorem dX4_holds_68 : decode cX4_holds 68 = .ok (.if_icmp .ne 14, 3) := by decide +kernel
theorem dX4_holds_71 : decode cX4_holds 71 = .ok (.lload_n 3, 1) := by decide +kernel
theorem dX4_holds_72 : decode cX4_holds 72 = .ok (.iconst 1, 1) := by decide +kernel
theorem dX4_holds_73 : decode cX4_holds 73 = .ok (.lushr, 1) := by decide +kernel
theorem dX4_holds_74 : decode cX4_holds 74 = .ok (.lload_n 3, 1) := by decide +kernel
theorem dX4_holds_75 : decode cX4_holds 75 = .ok (.lconst 1, 1) := by decide +kernel
theorem dX4_holds_76 : decode cX4_holds 76 = .ok (.land, 1) := by decide +kernel
theorem dX4_holds_77 : decode cX4_holds 77 = .ok (.lor, 1) := by decide +kernel
theorem dX4_holds_78 : decode cX4_holds 78 = .ok (.lstore_n 3, 1) := by decide +kernel
theorem dX4_holds_79 : decode cX4_holds 79 = .ok (.goto 105, 3) := by decide +kernel
theorem dX4_holds_82 : decode cX4_holds 82 = .ok (.aload_n 0, 1) := by decide +kernel
theorem dX4_holds_83 : decode cX4_holds 83 = .ok (.getfield 24, 3) := by decide +kernel
theorem dX4_holds_86 : decode cX4_holds 86 = .ok (.iload 6, 2) := by decide +kernel
theorem dX4_holds_88 : decode cX4_holds 88 = .ok (.sipush 300, 3) := by decide +kernel
theorem dX4_holds_91 : decode cX4_holds 91 = .ok (.idiv, 1) := by decide +kernel
theorem dX4_holds_92 : decode cX4_holds 92 = .ok (.invokestatic 80, 3) := by decide +kernel
theorem dX4_holds_95 : decode cX4_holds 95 = .ok (.istore 7, 2) := by decide +kernel
theorem dX4_holds_97 : decode cX4_holds 97 = .ok (.iload 6, 2) := by decide +kernel
theorem dX4_holds_99 : decode cX4_holds 99 = .ok (.bipush 100, 2) := by decide +kernel
theorem dX4_holds_101 : decode cX4_holds 101 = .ok (.irem, 1) := by decide +kernel
theorem dX4_holds_102 : decode cX4_holds 102 = .ok (.istore 8, 2) := by decide +kernel
theorem dX4_holds_104 : decode cX4_holds 104 = .ok (.iload 6, 2) := by decide +kernel
theorem dX4_holds_106 : decode cX4_holds 106 = .ok (.bipush 100, 2) := by decide +kernel
theorem dX4_holds_108 : decode cX4_holds 108 = .ok (.idiv, 1) := by decide +kernel
theorem dX4_holds_109 : decode cX4_holds 109 = .ok (.iconst 3, 1) := by decide +kernel
theorem dX4_holds_110 : decode cX4_holds 110 = .ok (.irem, 1) := by decide +kernel
theorem dX4_holds_111 : decode cX4_holds 111 = .ok (.istore 9, 2) := by decide +kernel
theorem dX4_holds_113 : decode cX4_holds 113 = .ok (.iload 9, 2) := by decide +kernel
theorem dX4_holds_115 : decode cX4_holds 115 = .ok (.ifCond .ne 18, 3) := by decide +kernel
theorem dX4_holds_118 : decode cX4_holds 118 = .ok (.iload 7, 2) := by decide +kernel
theorem dX4_holds_120 : decode cX4_holds 120 = .ok (.iload 8, 2) := by decide +kernel
theorem dX4_holds_122 : decode cX4_holds 122 = .ok (.if_icmp .ge 7, 3) := by decide +kernel
theorem dX4_holds_125 : decode cX4_holds 125 = .ok (.iconst 1, 1) := by decide +kernel
theorem dX4_holds_126 : decode cX4_holds 126 = .ok (.goto 40, 3) := by decide +kernel
theorem dX4_holds_129 : decode cX4_holds 129 = .ok (.iconst 0, 1) := by decide +kernel
theorem dX4_holds_130 : decode cX4_holds 130 = .ok (.goto 36, 3) := by decide +kernel
theorem dX4_holds_133 : decode cX4_holds 133 = .ok (.iload 9, 2) := by decide +kernel
theorem dX4_holds_135 : decode cX4_holds 135 = .ok (.iconst 1, 1) := by decide +kernel
theorem dX4_holds_136 : decode cX4_holds 136 = .ok (.if_icmp .ne 18, 3) := by decide +kernel
theorem dX4_holds_139 : decode cX4_holds 139 = .ok (.iload 7, 2) := by decide +kernel
theorem dX4_holds_141 : decode cX4_holds 141 = .ok (.iload 8, 2) := by decide +kernel
theorem dX4_holds_143 : decode cX4_holds 143 = .ok (.if_icmp .ne 7, 3) := by decide +kernel
theorem dX4_holds_146 : decode cX4_holds 146 = .ok (.iconst 1, 1) := by decide +kernel
theorem dX4_holds_147 : decode cX4_holds 147 = .ok (.goto 19, 3) := by decide +kernel
theorem dX4_holds_150 : decode cX4_holds 150 = .ok (.iconst 0, 1) := by decide +kernel
theorem dX4_holds_151 : decode cX4_holds 151 = .ok (.goto 15, 3) := by decide +kernel
theorem dX4_holds_154 : decode cX4_holds 154 = .ok (.iload 7, 2) := by decide +kernel
theorem dX4_holds_156 : decode cX4_holds 156 = .ok (.iload 8, 2) := by decide +kernel
theorem dX4_holds_158 : decode cX4_holds 158 = .ok (.if_icmp .le 7, 3) := by decide +kernel
theorem dX4_holds_161 : decode cX4_holds 161 = .ok (.iconst 1, 1) := by decide +kernel
theorem dX4_holds_162 : decode cX4_holds 162 = .ok (.goto 4, 3) := by decide +kernel
theorem dX4_holds_165 : decode cX4_holds 165 = .ok (.iconst 0, 1) := by decide +kernel
theorem dX4_holds_166 : decode cX4_holds 166 = .ok (.istore 10, 2) := by decide +kernel
theorem dX4_holds_168 : decode cX4_holds 168 = .ok (.lload_n 3, 1) := by decide +kernel
theorem dX4_holds_169 : decode cX4_holds 169 = .ok (.iconst 1, 1) := by decide +kernel
theorem dX4_holds_170 : decode cX4_holds 170 = .ok (.lshl, 1) := by decide +kernel
theorem dX4_holds_171 : decode cX4_holds 171 = .ok (.iload 10, 2) := by decide +kernel
theorem dX4_holds_173 : decode cX4_holds 173 = .ok (.ifCond .eq 7, 3) := by decide +kernel
theorem dX4_holds_176 : decode cX4_holds 176 = .ok (.iconst 1, 1) := by decide +kernel
theorem dX4_holds_177 : decode cX4_holds 177 = .ok (.goto 4, 3) := by decide +kernel
theorem dX4_holds_180 : decode cX4_holds 180 = .ok (.iconst 0, 1) := by decide +kernel
theorem dX4_holds_181 : decode cX4_holds 181 = .ok (.i2l, 1) := by decide +kernel
theorem dX4_holds_182 : decode cX4_holds 182 = .ok (.lor, 1) := by decide +kernel
theorem dX4_holds_183 : decode cX4_holds 183 = .ok (.lstore_n 3, 1) := by decide +kernel
theorem dX4_holds_184 : decode cX4_holds 184 = .ok (.iinc 5 1, 3) := by decide +kernel
theorem dX4_holds_187 : decode cX4_holds 187 = .ok (.goto (-178), 3) := by decide +kernel
theorem dX4_holds_190 : decode cX4_holds 190 = .ok (.lload_n 3, 1) := by decide +kernel
theorem dX4_holds_191 : decode cX4_holds 191 = .ok (.lconst 1, 1) := by decide +kernel
theorem dX4_holds_192 : decode cX4_holds 192 = .ok (.land, 1) := by decide +kernel
theorem dX4_holds_193 : decode cX4_holds 193 = .ok (.lconst 1, 1) := by decide +kernel
theorem dX4_holds_194 : decode cX4_holds 194 = .ok (.lcmp, 1) := by decide +kernel
theorem dX4_holds_195 : decode cX4_holds 195 = .ok (.ifCond .ne 7, 3) := by decide +kernel
theorem dX4_holds_198 : decode cX4_holds 198 = .ok (.iconst 1, 1) := by decide +kernel
theorem dX4_holds_199 : decode cX4_holds 199 = .ok (.goto 4, 3) := by decide +kernel
theorem dX4_holds_202 : decode cX4_holds 202 = .ok (.iconst 0, 1) := by decide +kernel
theorem dX4_holds_203 : decode cX4_holds 203 = .ok (.ireturn, 1) := by decide +kernel
def f_X4_holds_J166 (X : x_X) (k9 : Nat → Int32 → Int64 → Int32 → x_M → Option (Int32 × x_M)) (v18 : Nat) (v19 : Int32) (v20 : Int64) (v21 : Int32) (v22 : Int32) (μ23 : x_M) : Option (Int32 × x_M) :=
  (if v22 = 0 then (lt ((v20 <<< (((1 : Int32)).toInt64 &&& 63)) ||| (((0 : Int32)).toInt64)) (fun (v24 : Int64) => (k9 v18 v19 v24 (v21 + (1 : Int32)) μ23))) else (lt ((v20 <<< (((1 : Int32)).toInt64 &&& 63)) ||| (((1 : Int32)).toInt64)) (fun (v25 : Int64) => (k9 v18 v19 v25 (v21 + (1 : Int32)) μ23))))
set_option maxRecDepth 100000 in
theorem j_X4_holds_J166 (hI : x_I X) (hC : x_C X x_Z0 p (x_rm 2) s m c cX4_holds RX4 11 0 0 2) (hr : meth.sig.returnType = (some .boolean)) (hlk : meth.locks = false) {k9 : Nat → Int32 → Int64 → Int32 → x_M → Option (Int32 × x_M)} (hk9 : ∀ (b0 : Nat) (b2 : Int32) (b3 : Int64) (b5 : Int32) (μ : x_M), SM X 11 2 rkI p l e s m args below meth c 9 [(0, vR b0), (2, vI b2), (3, vJ b3), (5, vI b5)] [] μ (k9 b0 b2 b3 b5 μ)) (v18 : Nat) (v19 : Int32) (v20 : Int64) (v21 : Int32) (v22 : Int32) (μ23 : x_M) : SM X 11 2 rkI p l e s m args below meth c 166 [(0, vR v18), (2, vI v19), (3, vJ v20), (5, vI v21)] [vI v22] μ23 (f_X4_holds_J166 X k9 v18 v19 v20 v21 v22 μ23) := by
  unfold f_X4_holds_J166
  refine s_istore hC dX4_holds_166 (by decide) (lv' := [(10, vI v22), (0, vR v18), (2, vI v19), (3, vJ v20), (5, vI v21)]) rfl ?_
  refine s_lload_n hC 3 dX4_holds_168 rfl ?_
  refine s_iconst hC dX4_holds_169 (v := 1) (by decide) ?_
  refine s_lshl hC dX4_holds_170 ?_
  refine s_iload hC 0 dX4_holds_171 rfl ?_
  refine s_if_eq hC dX4_holds_173 (tgt := 180) (by decide) ?_ ?_
  · refine s_iconst hC dX4_holds_180 (v := 0) (by decide) ?_
    refine s_i2l hC dX4_holds_181 ?_
    refine s_lor hC dX4_holds_182 ?_
    refine s_ltJ (fun v24 => ?_)
    refine s_lstore_n hC dX4_holds_183 (by decide) (lv' := [(3, vJ v24), (10, vI v22), (0, vR v18), (2, vI v19), (5, vI v21)]) rfl ?_
    refine s_iinc hC 4 dX4_holds_184 rfl (w := 1) (by decide) (by decide) (lv' := [(5, vI (v21 + (1 : Int32))), (3, vJ v24), (10, vI v22), (0, vR v18), (2, vI v19)]) rfl ?_
    refine s_goto hC dX4_holds_187 (tgt := 9) (by decide) ?_
    refine s_lv (lv' := [(0, vR v18), (2, vI v19), (3, vJ v24), (5, vI (v21 + (1 : Int32)))]) [3, 4, 1, 0] rfl ?_
    exact hk9 _ _ _ _ _
  refine s_iconst hC dX4_holds_176 (v := 1) (by decide) ?_
  refine s_goto hC dX4_holds_177 (tgt := 181) (by decide) ?_
  refine s_i2l hC dX4_holds_181 ?_
  refine s_lor hC dX4_holds_182 ?_
  refine s_ltJ (fun v25 => ?_)
  refine s_lstore_n hC dX4_holds_183 (by decide) (lv' := [(3, vJ v25), (10, vI v22), (0, vR v18), (2, vI v19), (5, vI v21)]) rfl ?_
  refine s_iinc hC 4 dX4_holds_184 rfl (w := 1) (by decide) (by decide) (lv' := [(5, vI (v21 + (1 : Int32))), (3, vJ v25), (10, vI v22), (0, vR v18), (2, vI v19)]) rfl ?_
  refine s_goto hC dX4_holds_187 (tgt := 9) (by decide) ?_
  refine s_lv (lv' := [(0, vR v18), (2, vI v19), (3, vJ v25), (5, vI (v21 + (1 : Int32)))]) [3, 4, 1, 0] rfl ?_
  exact hk9 _ _ _ _ _
def f_X4_holds_L9 (X : x_X) (k190 : Int64 → x_M → Option (Int32 × x_M)) : Nat → Nat → Int32 → Int64 → Int32 → x_M → Option (Int32 × x_M)
  | 0, _, _, _, _, _ => none
  | n + 1, v5, v6, v7, v8, μ9 =>
    (if v6 ≤ v8 then (k190 v7 μ9) else (if (100 : Int32) ≤ v8 then (k190 v7 μ9) else (ck (x_kd X v5 = 4 + 1) (lt (μ9.2.1 v5 3) (fun (v10 : Nat) => (ck ((x_kd X v10 = 20 ∨ x_kd X v10 = 40) ∧ x_ix v8 (x_ln X v10)) (lt (μ9.1 v10 (v8).toNatClampNeg) (fun (v11 : Int32) => (if v11 = (-1 : Int32) then (lt (v7 ^^^ (1 : Int64)) (fun (v28 : Int64) => (f_X4_holds_L9 X k190 n v5 v6 v28 (v8 + (1 : Int32)) μ9))) else (if v11 = (-2 : Int32) then (lt (((v7).toUInt64 >>> (((1 : Int32)).toInt64.toUInt64 &&& Int64.toUInt64 63)).toInt64 &&& (v7 ||| (-2 : Int64))) (fun (v27 : Int64) => (f_X4_holds_L9 X k190 n v5 v6 v27 (v8 + (1 : Int32)) μ9))) else (if v11 = (-3 : Int32) then (lt (((v7).toUInt64 >>> (((1 : Int32)).toInt64.toUInt64 &&& Int64.toUInt64 63)).toInt64 ||| (v7 &&& (1 : Int64))) (fun (v26 : Int64) => (f_X4_holds_L9 X k190 n v5 v6 v26 (v8 + (1 : Int32)) μ9))) else (ck (x_kd X v5 = 4 + 1) (lt (μ9.2.1 v5 4) (fun (v12 : Nat) => (ck (¬ (300 : Int32) = 0) (bd (f_X9_at X v12 (v11 / (300 : Int32)) μ9) (fun (v13 : Int32) (μ14 : x_M) => (ck (¬ (100 : Int32) = 0) (lt (v11 - v11 / (100 : Int32) * (100 : Int32)) (fun (v15 : Int32) => (ck (¬ (100 : Int32) = 0) (lt (v11 / (100 : Int32)) (fun (v16 : Int32) => (ck (¬ (3 : Int32) = 0) (lt (v16 - v16 / (3 : Int32) * (3 : Int32)) (fun (v17 : Int32) => (if v17 = 0 then (if v15 ≤ v13 then (f_X4_holds_J166 X (f_X4_holds_L9 X k190 n) v5 v6 v7 v8 (0 : Int32) μ14) else (f_X4_holds_J166 X (f_X4_holds_L9 X k190 n) v5 v6 v7 v8 (1 : Int32) μ14)) else (if v17 = (1 : Int32) then (if v13 = v15 then (f_X4_holds_J166 X (f_X4_holds_L9 X k190 n) v5 v6 v7 v8 (1 : Int32) μ14) else (f_X4_holds_J166 X (f_X4_holds_L9 X k190 n) v5 v6 v7 v8 (0 : Int32) μ14)) else (if v13 ≤ v15 then (f_X4_holds_J166 X (f_X4_holds_L9 X k190 n) v5 v6 v7 v8 (0 : Int32) μ14) else (f_X4_holds_J166 X (f_X4_holds_L9 X k190 n) v5 v6 v7 v8 (1 : Int32) μ14))))))))))))))))))))))))))))))
set_option maxRecDepth 100000 in
theorem j_X4_holds_L9 (hI : x_I X) (hC : x_C X x_Z0 p (x_rm 2) s m c cX4_holds RX4 11 0 0 2) (hr : meth.sig.returnType = (some .boolean)) (hlk : meth.locks = false) {k190 : Int64 → x_M → Option (Int32 × x_M)} (hk190 : ∀ (b3 : Int64) (μ : x_M), SM X 11 2 rkI p l e s m args below meth c 190 [(3, vJ b3)] [] μ (k190 b3 μ)) : ∀ (n : Nat) (v5 : Nat) (v6 : Int32) (v7 : Int64) (v8 : Int32) (μ9 : x_M), SM X 11 2 rkI p l e s m args below meth c 9 [(0, vR v5), (2, vI v6), (3, vJ v7), (5, vI v8)] [] μ9 (f_X4_holds_L9 X k190 n v5 v6 v7 v8 μ9) := by
  intro n
  induction n with
  | zero => intro v5 v6 v7 v8 μ9; exact s_none
  | succ n ih =>
    intro v5 v6 v7 v8 μ9
    unfold f_X4_holds_L9
    refine s_iload hC 3 dX4_holds_9 rfl ?_
    refine s_iload_n hC 1 dX4_holds_11 rfl ?_
    refine s_icmp_ge hC dX4_holds_12 (tgt := 190) (by decide) ?_ ?_
    · refine s_lv (lv' := [(3, vJ v7)]) [2] rfl ?_
      exact hk190 _ _
    refine s_iload hC 3 dX4_holds_15 rfl ?_
    refine s_bipush hC dX4_holds_17 (v := 100) (by decide) ?_
    refine s_icmp_ge hC dX4_holds_19 (tgt := 190) (by decide) ?_ ?_
    · refine s_lv (lv' := [(3, vJ v7)]) [2] rfl ?_
      exact hk190 _ _
    refine s_aload_n hC 0 dX4_holds_22 rfl ?_
    refine s_getR hC xc4 (by decide) rfl qf_X4_21 dX4_holds_23 ?_
    refine s_ltR (fun v10 => ?_)
    refine s_iload hC 3 dX4_holds_26 rfl ?_
    refine s_iald hC dX4_holds_28 ?_
    refine s_ltI (fun v11 => ?_)
    refine s_istore hC dX4_holds_29 (by decide) (lv' := [(6, vI v11), (0, vR v5), (2, vI v6), (3, vJ v7), (5, vI v8)]) rfl ?_
    refine s_iload hC 0 dX4_holds_31 rfl ?_
    refine s_iconst hC dX4_holds_33 (v := -1) (by decide) ?_
    refine s_icmp_ne hC dX4_holds_34 (tgt := 44) (by decide) ?_ ?_
    · refine s_iload hC 0 dX4_holds_44 rfl ?_
      refine s_bipush hC dX4_holds_46 (v := -2) (by decide) ?_
      refine s_icmp_ne hC dX4_holds_48 (tgt := 64) (by decide) ?_ ?_
      · refine s_iload hC 0 dX4_holds_64 rfl ?_
        refine s_bipush hC dX4_holds_66 (v := -3) (by decide) ?_
        refine s_icmp_ne hC dX4_holds_68 (tgt := 82) (by decide) ?_ ?_
        · refine s_aload_n hC 1 dX4_holds_82 rfl ?_
          refine s_getR hC xc4 (by decide) rfl qf_X4_24 dX4_holds_83 ?_
          refine s_ltR (fun v12 => ?_)
          refine s_iload hC 0 dX4_holds_86 rfl ?_
          refine s_sipush hC dX4_holds_88 (v := 300) (by decide) ?_
          refine s_idiv hC dX4_holds_91 ?_
          refine s_callS hC (avs := [vR v12, vI (v11 / (300 : Int32))]) (st := []) (nest := true) (m_X9_at hI v12 (v11 / (300 : Int32)) μ9) dX4_holds_92 qm_X4_80 qt_X9_at qc_X9 qd_X9_at qh_X9_at (by decide) (fun _ => Nat.le_of_ble_eq_true rfl) (Nat.le_of_ble_eq_true rfl) (fun v13 μ14 => ?_)
          refine s_istore hC dX4_holds_95 (by decide) (lv' := [(7, vI v13), (6, vI v11), (0, vR v5), (2, vI v6), (3, vJ v7), (5, vI v8)]) rfl ?_
          refine s_iload hC 1 dX4_holds_97 rfl ?_
          refine s_bipush hC dX4_holds_99 (v := 100) (by decide) ?_
          refine s_irem hC dX4_holds_101 ?_
          refine s_ltI (fun v15 => ?_)
          refine s_istore hC dX4_holds_102 (by decide) (lv' := [(8, vI v15), (7, vI v13), (6, vI v11), (0, vR v5), (2, vI v6), (3, vJ v7), (5, vI v8)]) rfl ?_
          refine s_iload hC 2 dX4_holds_104 rfl ?_
          refine s_bipush hC dX4_holds_106 (v := 100) (by decide) ?_
          refine s_idiv hC dX4_holds_108 ?_
          refine s_iconst hC dX4_holds_109 (v := 3) (by decide) ?_
          refine s_ltI2 (fun v16 => ?_)
          refine s_irem hC dX4_holds_110 ?_
          refine s_ltI (fun v17 => ?_)
          refine s_istore hC dX4_holds_111 (by decide) (lv' := [(9, vI v17), (8, vI v15), (7, vI v13), (6, vI v11), (0, vR v5), (2, vI v6), (3, vJ v7), (5, vI v8)]) rfl ?_
          refine s_iload hC 0 dX4_holds_113 rfl ?_
          refine s_if_ne hC dX4_holds_115 (tgt := 133) (by decide) ?_ ?_
          · refine s_iload hC 0 dX4_holds_133 rfl ?_
            refine s_iconst hC dX4_holds_135 (v := 1) (by decide) ?_
            refine s_icmp_ne hC dX4_holds_136 (tgt := 154) (by decide) ?_ ?_
            · refine s_iload hC 2 dX4_holds_154 rfl ?_
              refine s_iload hC 1 dX4_holds_156 rfl ?_
              refine s_icmp_le hC dX4_holds_158 (tgt := 165) (by decide) ?_ ?_
              · refine s_iconst hC dX4_holds_165 (v := 0) (by decide) ?_
                refine s_lv (lv' := [(0, vR v5), (2, vI v6), (3, vJ v7), (5, vI v8)]) [4, 5, 6, 7] rfl ?_
                exact j_X4_holds_J166 hI hC hr hlk ih _ _ _ _ _ _
              refine s_iconst hC dX4_holds_161 (v := 1) (by decide) ?_
              refine s_goto hC dX4_holds_162 (tgt := 166) (by decide) ?_
              refine s_lv (lv' := [(0, vR v5), (2, vI v6), (3, vJ v7), (5, vI v8)]) [4, 5, 6, 7] rfl ?_
              exact j_X4_holds_J166 hI hC hr hlk ih _ _ _ _ _ _
            refine s_iload hC 2 dX4_holds_139 rfl ?_
            refine s_iload hC 1 dX4_holds_141 rfl ?_
            refine s_icmp_ne hC dX4_holds_143 (tgt := 150) (by decide) ?_ ?_
            · refine s_iconst hC dX4_holds_150 (v := 0) (by decide) ?_
              refine s_goto hC dX4_holds_151 (tgt := 166) (by decide) ?_
              refine s_lv (lv' := [(0, vR v5), (2, vI v6), (3, vJ v7), (5, vI v8)]) [4, 5, 6, 7] rfl ?_
              exact j_X4_holds_J166 hI hC hr hlk ih _ _ _ _ _ _
            refine s_iconst hC dX4_holds_146 (v := 1) (by decide) ?_
            refine s_goto hC dX4_holds_147 (tgt := 166) (by decide) ?_
            refine s_lv (lv' := [(0, vR v5), (2, vI v6), (3, vJ v7), (5, vI v8)]) [4, 5, 6, 7] rfl ?_
            exact j_X4_holds_J166 hI hC hr hlk ih _ _ _ _ _ _
          refine s_iload hC 2 dX4_holds_118 rfl ?_
          refine s_iload hC 1 dX4_holds_120 rfl ?_
          refine s_icmp_ge hC dX4_holds_122 (tgt := 129) (by decide) ?_ ?_
          · refine s_iconst hC dX4_holds_129 (v := 0) (by decide) ?_
            refine s_goto hC dX4_holds_130 (tgt := 166) (by decide) ?_
            refine s_lv (lv' := [(0, vR v5), (2, vI v6), (3, vJ v7), (5, vI v8)]) [4, 5, 6, 7] rfl ?_
            exact j_X4_holds_J166 hI hC hr hlk ih _ _ _ _ _ _
          refine s_iconst hC dX4_holds_125 (v := 1) (by decide) ?_
          refine s_goto hC dX4_holds_126 (tgt := 166) (by decide) ?_
          refine s_lv (lv' := [(0, vR v5), (2, vI v6), (3, vJ v7), (5, vI v8)]) [4, 5, 6, 7] rfl ?_
          exact j_X4_holds_J166 hI hC hr hlk ih _ _ _ _ _ _
        refine s_lload_n hC 3 dX4_holds_71 rfl ?_
        refine s_iconst hC dX4_holds_72 (v := 1) (by decide) ?_
        refine s_lushr hC dX4_holds_73 ?_
        refine s_lload_n hC 3 dX4_holds_74 rfl ?_
        refine s_lconst hC dX4_holds_75 (v := 1) (by decide) ?_
        refine s_land hC dX4_holds_76 ?_
        refine s_lor hC dX4_holds_77 ?_
        refine s_ltJ (fun v26 => ?_)
        refine s_lstore_n hC dX4_holds_78 (by decide) (lv' := [(3, vJ v26), (6, vI v11), (0, vR v5), (2, vI v6), (5, vI v8)]) rfl ?_
        refine s_goto hC dX4_holds_79 (tgt := 184) (by decide) ?_
        refine s_iinc hC 4 dX4_holds_184 rfl (w := 1) (by decide) (by decide) (lv' := [(5, vI (v8 + (1 : Int32))), (3, vJ v26), (6, vI v11), (0, vR v5), (2, vI v6)]) rfl ?_
        refine s_goto hC dX4_holds_187 (tgt := 9) (by decide) ?_
        refine s_lv (lv' := [(0, vR v5), (2, vI v6), (3, vJ v26), (5, vI (v8 + (1 : Int32)))]) [3, 4, 1, 0] rfl ?_
        exact ih _ _ _ _ _
      refine s_lload_n hC 3 dX4_holds_51 rfl ?_
      refine s_iconst hC dX4_holds_52 (v := 1) (by decide) ?_
      refine s_lushr hC dX4_holds_53 ?_
      refine s_lload_n hC 3 dX4_holds_54 rfl ?_
      refine s_ldc2 hC dX4_holds_55 qk_X4_78 ?_
      refine s_lor hC dX4_holds_58 ?_
      refine s_land hC dX4_holds_59 ?_
      refine s_ltJ (fun v27 => ?_)
      refine s_lstore_n hC dX4_holds_60 (by decide) (lv' := [(3, vJ v27), (6, vI v11), (0, vR v5), (2, vI v6), (5, vI v8)]) rfl ?_
      refine s_goto hC dX4_holds_61 (tgt := 184) (by decide) ?_
      refine s_iinc hC 4 dX4_holds_184 rfl (w := 1) (by decide) (by decide) (lv' := [(5, vI (v8 + (1 : Int32))), (3, vJ v27), (6, vI v11), (0, vR v5), (2, vI v6)]) rfl ?_
      refine s_goto hC dX4_holds_187 (tgt := 9) (by decide) ?_
      refine s_lv (lv' := [(0, vR v5), (2, vI v6), (3, vJ v27), (5, vI (v8 + (1 : Int32)))]) [3, 4, 1, 0] rfl ?_
      exact ih _ _ _ _ _
    refine s_lload_n hC 3 dX4_holds_37 rfl ?_
    refine s_lconst hC dX4_holds_38 (v := 1) (by decide) ?_
    refine s_lxor hC dX4_holds_39 ?_
    refine s_ltJ (fun v28 => ?_)
    refine s_lstore_n hC dX4_holds_40 (by decide) (lv' := [(3, vJ v28), (6, vI v11), (0, vR v5), (2, vI v6), (5, vI v8)]) rfl ?_
    refine s_goto hC dX4_holds_41 (tgt := 184) (by decide) ?_
    refine s_iinc hC 4 dX4_holds_184 rfl (w := 1) (by decide) (by decide) (lv' := [(5, vI (v8 + (1 : Int32))), (3, vJ v28), (6, vI v11), (0, vR v5), (2, vI v6)]) rfl ?_
    refine s_goto hC dX4_holds_187 (tgt := 9) (by decide) ?_
    refine s_lv (lv' := [(0, vR v5), (2, vI v6), (3, vJ v28), (5, vI (v8 + (1 : Int32)))]) [3, 4, 1, 0] rfl ?_
    exact ih _ _ _ _ _
def f_X4_holds (X : x_X) (v0 : Nat) (v1 : Int32) (v2 : Int32) (μ : x_M) : Option (Int32 × x_M) :=
  (lt (if v1 < (0 : Int32) then (0 : Int32) else v1) (fun (v4 : Int32) => (f_X4_holds_L9 X (fun (v29 : Int64) (μ30 : x_M) => (if (lg_cmp (v29 &&& (1 : Int64)) (1 : Int64)) = 0 then (ck ((1 : Int32) = 0 ∨ (1 : Int32) = 1) (some ((1 : Int32), μ30))) else (ck ((0 : Int32) = 0 ∨ (0 : Int32) = 1) (some ((0 : Int32), μ30))))) 4096 v0 v2 (0 : Int64) v4 μ)))
set_option maxRecDepth 100000 in
theorem m_X4_holds (hI : x_I X) (v0 : Nat) (v1 : Int32) (v2 : Int32) (μ : x_M) : x_Met X x_Z0 l yX4_holds cX4_holds 11 (some .boolean) 2 [vR v0, vI v1, vI v2] μ rkI (f_X4_holds X v0 v1 v2 μ) := by
  refine x_enter hI (by decide +kernel) (Nat.le_of_ble_eq_true rfl) (fun p e s m args below meth c hC hr hlk => ?_)
  unfold f_X4_holds
  refine s_lv (lv' := [(0, vR v0), (1, vI v1), (2, vI v2)]) [0, 1, 2] rfl ?_
  refine s_lconst hC dX4_holds_0 (v := 0) (by decide) ?_
  refine s_lstore_n hC dX4_holds_1 (by decide) (lv' := [(3, vJ (0 : Int64)), (0, vR v0), (1, vI v1), (2, vI v2)]) rfl ?_
  refine s_iload_n hC 2 dX4_holds_2 rfl ?_
  refine s_iconst hC dX4_holds_3 (v := 0) (by decide) ?_
  refine s_max hC dX4_holds_4 qm_X4_75 qt_Math_max qc_Math qd_Math_max (by decide) (Nat.le_of_ble_eq_true rfl) ?_
  refine s_ltI (fun v4 => ?_)
  refine s_istore hC dX4_holds_7 (by decide) (lv' := [(5, vI v4), (3, vJ (0 : Int64)), (0, vR v0), (1, vI v1), (2, vI v2)]) rfl ?_
  refine s_lv (lv' := [(0, vR v0), (2, vI v2), (3, vJ (0 : Int64)), (5, vI v4)]) [2, 4, 1, 0] rfl ?_
  refine j_X4_holds_L9 hI hC hr hlk (fun v29 μ30 => ?_) 4096 _ _ _ _ _
  refine s_lload_n hC 0 dX4_holds_190 rfl ?_
  refine s_lconst hC dX4_holds_191 (v := 1) (by decide) ?_
  refine s_land hC dX4_holds_192 ?_
  refine s_lconst hC dX4_holds_193 (v := 1) (by decide) ?_
  refine s_lcmp hC dX4_holds_194 ?_
  refine s_if_ne hC dX4_holds_195 (tgt := 202) (by decide) ?_ ?_
  · refine s_iconst hC dX4_holds_202 (v := 0) (by decide) ?_
    exact s_zret hC hr hlk dX4_holds_203
  refine s_iconst hC dX4_holds_198 (v := 1) (by decide) ?_
  refine s_goto hC dX4_holds_199 (tgt := 203) (by decide) ?_
  exact s_zret hC hr hlk dX4_holds_203
theorem dX4_put_0 : decode cX4_put 0 = .ok (.aload_n 0, 1) := by decide +kernel
theorem dX4_put_1 : decode cX4_put 1 = .ok (.getfield 34, 3) := by decide +kernel
theorem dX4_put_4 : decode cX4_put 4 = .ok (.iconst 0, 1) := by decide +kernel
theorem dX4_put_5 : decode cX4_put 5 = .ok (.bipush 99, 2) := by decide +kernel
theorem dX4_put_7 : decode cX4_put 7 = .ok (.invokestatic 52, 3) := by decide +kernel
theorem dX4_put_10 : decode cX4_put 10 = .ok (.ifCond .eq 23, 3) := by decide +kernel
theorem dX4_put_13 : decode cX4_put 13 = .ok (.aload_n 0, 1) := by decide +kernel
theorem dX4_put_14 : decode cX4_put 14 = .ok (.getfield 21, 3) := by decide +kernel
theorem dX4_put_17 : decode cX4_put 17 = .ok (.aload_n 0, 1) := by decide +kernel
theorem dX4_put_18 : decode cX4_put 18 = .ok (.getfield 34, 3) := by decide +kernel
theorem dX4_put_21 : decode cX4_put 21 = .ok (.iload_n 1, 1) := by decide +kernel
theorem dX4_put_22 : decode cX4_put 22 = .ok (.iastore, 1) := by decide +kernel
theorem dX4_put_23 : decode cX4_put 23 = .ok (.aload_n 0, 1) := by decide +kernel
theorem dX4_put_24 : decode cX4_put 24 = .ok (.dup, 1) := by decide +kernel
theorem dX4_put_25 : decode cX4_put 25 = .ok (.getfield 34, 3) := by decide +kernel
theorem dX4_put_28 : decode cX4_put 28 = .ok (.iconst 1, 1) := by decide +kernel
theorem dX4_put_29 : decode cX4_put 29 = .ok (.iadd, 1) := by decide +kernel
theorem dX4_put_30 : decode cX4_put 30 = .ok (.putfield 34, 3) := by decide +kernel
theorem dX4_put_33 : decode cX4_put 33 = .ok (.return_, 1) := by decide +kernel
def f_X4_put (X : x_X) (v0 : Nat) (v1 : Int32) (μ : x_M) : Option (Unit × x_M) :=
  (ck (x_kd X v0 = 4 + 1) (bd (f_X9_within X (μ.1 v0 6) (0 : Int32) (99 : Int32) μ) (fun (v3 : Int32) (μ4 : x_M) => (if v3 = 0 then (some ((), μ4)) else (ck (x_kd X v0 = 4 + 1) (lt (μ4.2.1 v0 3) (fun (v5 : Nat) => (ck (x_kd X v0 = 4 + 1) (lt (μ4.1 v0 6) (fun (v6 : Int32) => (ck (x_kd X v5 = 20 ∧ x_ix v6 (x_ln X v5)) (lt (x_sI μ4 v5 (v6).toNatClampNeg v1) (fun (μ7 : x_M) => (ck (x_kd X v0 = 4 + 1) (ck (x_kd X v0 = 4 + 1) (lt (x_sI μ7 v0 6 ((μ7.1 v0 6) + (1 : Int32))) (fun (μ8 : x_M) => (some ((), μ8)))))))))))))))))))
set_option maxRecDepth 100000 in
theorem m_X4_put (hI : x_I X) (v0 : Nat) (v1 : Int32) (μ : x_M) : x_Met X x_Z0 l yX4_put cX4_put 2 none 2 [vR v0, vI v1] μ rkV (f_X4_put X v0 v1 μ) := by
  refine x_enter hI (by decide +kernel) (Nat.le_of_ble_eq_true rfl) (fun p e s m args below meth c hC hr hlk => ?_)
  unfold f_X4_put
  refine s_lv (lv' := [(0, vR v0), (1, vI v1)]) [0, 1] rfl ?_
  refine s_aload_n hC 0 dX4_put_0 rfl ?_
  refine s_getI hC xc4 (by decide) rfl qf_X4_34 dX4_put_1 ?_
  refine s_iconst hC dX4_put_4 (v := 0) (by decide) ?_
  refine s_bipush hC dX4_put_5 (v := 99) (by decide) ?_
  refine s_callS hC (avs := [vI (μ.1 v0 6), vI (0 : Int32), vI (99 : Int32)]) (st := []) (nest := true) (m_X9_within hI (μ.1 v0 6) (0 : Int32) (99 : Int32) μ) dX4_put_7 qm_X4_52 qt_X9_within qc_X9 qd_X9_within qh_X9_within (by decide) (fun _ => Nat.le_of_ble_eq_true rfl) (Nat.le_of_ble_eq_true rfl) (fun v3 μ4 => ?_)
  refine s_if_eq hC dX4_put_10 (tgt := 33) (by decide) ?_ ?_
  · exact s_vret hC hr hlk dX4_put_33
  refine s_aload_n hC 0 dX4_put_13 rfl ?_
  refine s_getR hC xc4 (by decide) rfl qf_X4_21 dX4_put_14 ?_
  refine s_ltR (fun v5 => ?_)
  refine s_aload_n hC 0 dX4_put_17 rfl ?_
  refine s_getI hC xc4 (by decide) rfl qf_X4_34 dX4_put_18 ?_
  refine s_iload_n hC 1 dX4_put_21 rfl ?_
  refine s_ltI2 (fun v6 => ?_)
  refine s_iast hC dX4_put_22 ?_
  refine s_ltM (fun μ7 => ?_)
  refine s_aload_n hC 0 dX4_put_23 rfl ?_
  refine s_dupR hC dX4_put_24 ?_
  refine s_getI hC xc4 (by decide) rfl qf_X4_34 dX4_put_25 ?_
  refine s_iconst hC dX4_put_28 (v := 1) (by decide) ?_
  refine s_iadd hC dX4_put_29 ?_
  refine s_putI hC xc4 (by decide) rfl rfl qf_X4_34 dX4_put_30 ?_
  refine s_ltM (fun μ8 => ?_)
  exact s_vret hC hr hlk dX4_put_33
theorem dX4_close_0 : decode cX4_close 0 = .ok (.aload_n 0, 1) := by decide +kernel
theorem dX4_close_1 : decode cX4_close 1 = .ok (.getfield 30, 3) := by decide +kernel
theorem dX4_close_4 : decode cX4_close 4 = .ok (.iconst 0, 1) := by decide +kernel
theorem dX4_close_5 : decode cX4_close 5 = .ok (.bipush 9, 2) := by decide +kernel
theorem dX4_close_7 : decode cX4_close 7 = .ok (.invokestatic 52, 3) := by decide +kernel
theorem dX4_close_10 : decode cX4_close 10 = .ok (.ifCond .eq 46, 3) := by decide +kernel
theorem dX4_close_13 : decode cX4_close 13 = .ok (.aload_n 0, 1) := by decide +kernel
theorem dX4_close_14 : decode cX4_close 14 = .ok (.getfield 9, 3) := by decide +kernel
theorem dX4_close_17 : decode cX4_close 17 = .ok (.aload_n 0, 1) := by decide +kernel
theorem dX4_close_18 : decode cX4_close 18 = .ok (.getfield 30, 3) := by decide +kernel
theorem dX4_close_21 : decode cX4_close 21 = .ok (.iload_n 1, 1) := by decide +kernel
theorem dX4_close_22 : decode cX4_close 22 = .ok (.iastore, 1) := by decide +kernel
theorem dX4_close_23 : decode cX4_close 23 = .ok (.aload_n 0, 1) := by decide +kernel
theorem dX4_close_24 : decode cX4_close 24 = .ok (.getfield 15, 3) := by decide +kernel
theorem dX4_close_27 : decode cX4_close 27 = .ok (.aload_n 0, 1) := by decide +kernel
theorem dX4_close_28 : decode cX4_close 28 = .ok (.getfield 30, 3) := by decide +kernel
theorem dX4_close_31 : decode cX4_close 31 = .ok (.iload_n 2, 1) := by decide +kernel
theorem dX4_close_32 : decode cX4_close 32 = .ok (.iastore, 1) := by decide +kernel
theorem dX4_close_33 : decode cX4_close 33 = .ok (.aload_n 0, 1) := by decide +kernel
theorem dX4_close_34 : decode cX4_close 34 = .ok (.getfield 18, 3) := by decide +kernel
theorem dX4_close_37 : decode cX4_close 37 = .ok (.aload_n 0, 1) := by decide +kernel
theorem dX4_close_38 : decode cX4_close 38 = .ok (.getfield 30, 3) := by decide +kernel
theorem dX4_close_41 : decode cX4_close 41 = .ok (.aload_n 0, 1) := by decide +kernel
theorem dX4_close_42 : decode cX4_close 42 = .ok (.getfield 34, 3) := by decide +kernel
theorem dX4_close_45 : decode cX4_close 45 = .ok (.iastore, 1) := by decide +kernel
theorem dX4_close_46 : decode cX4_close 46 = .ok (.aload_n 0, 1) := by decide +kernel
theorem dX4_close_47 : decode cX4_close 47 = .ok (.dup, 1) := by decide +kernel
theorem dX4_close_48 : decode cX4_close 48 = .ok (.getfield 30, 3) := by decide +kernel
theorem dX4_close_51 : decode cX4_close 51 = .ok (.iconst 1, 1) := by decide +kernel
theorem dX4_close_52 : decode cX4_close 52 = .ok (.iadd, 1) := by decide +kernel
theorem dX4_close_53 : decode cX4_close 53 = .ok (.putfield 30, 3) := by decide +kernel
theorem dX4_close_56 : decode cX4_close 56 = .ok (.return_, 1) := by decide +kernel
def f_X4_close (X : x_X) (v0 : Nat) (v1 : Int32) (v2 : Int32) (μ : x_M) : Option (Unit × x_M) :=
  (ck (x_kd X v0 = 4 + 1) (bd (f_X9_within X (μ.1 v0 5) (0 : Int32) (9 : Int32) μ) (fun (v4 : Int32) (μ5 : x_M) => (if v4 = 0 then (some ((), μ5)) else (ck (x_kd X v0 = 4 + 1) (lt (μ5.2.1 v0 0) (fun (v6 : Nat) => (ck (x_kd X v0 = 4 + 1) (lt (μ5.1 v0 5) (fun (v7 : Int32) => (ck (x_kd X v6 = 20 ∧ x_ix v7 (x_ln X v6)) (lt (x_sI μ5 v6 (v7).toNatClampNeg v1) (fun (μ8 : x_M) => (ck (x_kd X v0 = 4 + 1) (lt (μ8.2.1 v0 1) (fun (v9 : Nat) => (ck (x_kd X v0 = 4 + 1) (lt (μ8.1 v0 5) (fun (v10 : Int32) => (ck (x_kd X v9 = 20 ∧ x_ix v10 (x_ln X v9)) (lt (x_sI μ8 v9 (v10).toNatClampNeg v2) (fun (μ11 : x_M) => (ck (x_kd X v0 = 4 + 1) (lt (μ11.2.1 v0 2) (fun (v12 : Nat) => (ck (x_kd X v0 = 4 + 1) (ck (x_kd X v0 = 4 + 1) (lt (μ11.1 v0 5) (fun (v13 : Int32) => (ck (x_kd X v12 = 20 ∧ x_ix v13 (x_ln X v12)) (lt (x_sI μ11 v12 (v13).toNatClampNeg (μ11.1 v0 6)) (fun (μ14 : x_M) => (ck (x_kd X v0 = 4 + 1) (ck (x_kd X v0 = 4 + 1) (lt (x_sI μ14 v0 5 ((μ14.1 v0 5) + (1 : Int32))) (fun (μ15 : x_M) => (some ((), μ15))))))))))))))))))))))))))))))))))))))
set_option maxRecDepth 100000 in
theorem m_X4_close (hI : x_I X) (v0 : Nat) (v1 : Int32) (v2 : Int32) (μ : x_M) : x_Met X x_Z0 l yX4_close cX4_close 3 none 2 [vR v0, vI v1, vI v2] μ rkV (f_X4_close X v0 v1 v2 μ) := by
  refine x_enter hI (by decide +kernel) (Nat.le_of_ble_eq_true rfl) (fun p e s m args below meth c hC hr hlk => ?_)
  unfold f_X4_close
  refine s_lv (lv' := [(0, vR v0), (1, vI v1), (2, vI v2)]) [0, 1, 2] rfl ?_
  refine s_aload_n hC 0 dX4_close_0 rfl ?_
  refine s_getI hC xc4 (by decide) rfl qf_X4_30 dX4_close_1 ?_
  refine s_iconst hC dX4_close_4 (v := 0) (by decide) ?_
  refine s_bipush hC dX4_close_5 (v := 9) (by decide) ?_
  refine s_callS hC (avs := [vI (μ.1 v0 5), vI (0 : Int32), vI (9 : Int32)]) (st := []) (nest := true) (m_X9_within hI (μ.1 v0 5) (0 : Int32) (9 : Int32) μ) dX4_close_7 qm_X4_52 qt_X9_within qc_X9 qd_X9_within qh_X9_within (by decide) (fun _ => Nat.le_of_ble_eq_true rfl) (Nat.le_of_ble_eq_true rfl) (fun v4 μ5 => ?_)
  refine s_if_eq hC dX4_close_10 (tgt := 56) (by decide) ?_ ?_
  · exact s_vret hC hr hlk dX4_close_56
  refine s_aload_n hC 0 dX4_close_13 rfl ?_
  refine s_getR hC xc4 (by decide) rfl qf_X4_9 dX4_close_14 ?_
  refine s_ltR (fun v6 => ?_)
  refine s_aload_n hC 0 dX4_close_17 rfl ?_
  refine s_getI hC xc4 (by decide) rfl qf_X4_30 dX4_close_18 ?_
  refine s_iload_n hC 1 dX4_close_21 rfl ?_
  refine s_ltI2 (fun v7 => ?_)
  refine s_iast hC dX4_close_22 ?_
  refine s_ltM (fun μ8 => ?_)
  refine s_aload_n hC 0 dX4_close_23 rfl ?_
  refine s_getR hC xc4 (by decide) rfl qf_X4_15 dX4_close_24 ?_
  refine s_ltR (fun v9 => ?_)
  refine s_aload_n hC 0 dX4_close_27 rfl ?_
  refine s_getI hC xc4 (by decide) rfl qf_X4_30 dX4_close_28 ?_
  refine s_iload_n hC 2 dX4_close_31 rfl ?_
  refine s_ltI2 (fun v10 => ?_)
  refine s_iast hC dX4_close_32 ?_
  refine s_ltM (fun μ11 => ?_)
  refine s_aload_n hC 0 dX4_close_33 rfl ?_
  refine s_getR hC xc4 (by decide) rfl qf_X4_18 dX4_close_34 ?_
  refine s_ltR (fun v12 => ?_)
  refine s_aload_n hC 0 dX4_close_37 rfl ?_
  refine s_getI hC xc4 (by decide) rfl qf_X4_30 dX4_close_38 ?_
  refine s_aload_n hC 0 dX4_close_41 rfl ?_
  refine s_getI hC xc4 (by decide) rfl qf_X4_34 dX4_close_42 ?_
  refine s_ltI2 (fun v13 => ?_)
  refine s_iast hC dX4_close_45 ?_
  refine s_ltM (fun μ14 => ?_)
  refine s_aload_n hC 0 dX4_close_46 rfl ?_
  refine s_dupR hC dX4_close_47 ?_
  refine s_getI hC xc4 (by decide) rfl qf_X4_30 dX4_close_48 ?_
  refine s_iconst hC dX4_close_51 (v := 1) (by decide) ?_
  refine s_iadd hC dX4_close_52 ?_
  refine s_putI hC xc4 (by decide) rfl rfl qf_X4_30 dX4_close_53 ?_
  refine s_ltM (fun μ15 => ?_)
  exact s_vret hC hr hlk dX4_close_56
theorem dX4_together_0 : decode cX4_together 0 = .ok (.aload_n 0, 1) := by decide +kernel
theorem dX4_together_1 : decode cX4_together 1 = .ok (.aload_n 2, 1) := by decide +kernel
theorem dX4_together_2 : decode cX4_together 2 = .ok (.iload_n 3, 1) := by decide +kernel
theorem dX4_together_3 : decode cX4_together 3 = .ok (.iload 4, 2) := by decide +kernel
theorem dX4_together_5 : decode cX4_together 5 = .ok (.invokevirtual 56, 3) := by decide +kernel
theorem dX4_together_8 : decode cX4_together 8 = .ok (.iconst 0, 1) := by decide +kernel
theorem dX4_together_9 : decode cX4_together 9 = .ok (.istore 5, 2) := by decide +kernel
theorem dX4_together_11 : decode cX4_together 11 = .ok (.iconst 0, 1) := by decide +kernel
theorem dX4_together_12 : decode cX4_together 12 = .ok (.istore 6, 2) := by decide +kernel
theorem dX4_together_14 : decode cX4_together 14 = .ok (.iconst 0, 1) := by decide +kernel
theorem dX4_together_15 : decode cX4_together 15 = .ok (.istore 7, 2) := by decide +kernel
theorem dX4_together_17 : decode cX4_together 17 = .ok (.iload 7, 2) := by decide +kernel
theorem dX4_together_19 : decode cX4_together 19 = .ok (.aload_n 0, 1) := by decide +kernel
theorem dX4_together_20 : decode cX4_together 20 = .ok (.getfield 30, 3) := by decide +kernel
theorem dX4_together_23 : decode cX4_together 23 = .ok (.if_icmp .ge 64, 3) := by decide +kernel
theorem dX4_together_26 : decode cX4_together 26 = .ok (.iload 7, 2) := by decide +kernel
theorem dX4_together_28 : decode cX4_together 28 = .ok (.bipush 10, 2) := by decide +kernel
theorem dX4_together_30 : decode cX4_together 30 = .ok (.if_icmp .ge 57, 3) := by decide +kernel
theorem dX4_together_33 : decode cX4_together 33 = .ok (.aload_n 0, 1) := by decide +kernel
theorem dX4_together_34 : decode cX4_together 34 = .ok (.getfield 9, 3) := by decide +kernel
theorem dX4_together_37 : decode cX4_together 37 = .ok (.iload 7, 2) := by decide +kernel
theorem dX4_together_39 : decode cX4_together 39 = .ok (.iaload, 1) := by decide +kernel
theorem dX4_together_40 : decode cX4_together 40 = .ok (.iload_n 1, 1) := by decide +kernel
theorem dX4_together_41 : decode cX4_together 41 = .ok (.if_icmp .ne 31, 3) := by decide +kernel
theorem dX4_together_44 : decode cX4_together 44 = .ok (.aload_n 0, 1) := by decide +kernel
theorem dX4_together_45 : decode cX4_together 45 = .ok (.iload 6, 2) := by decide +kernel
theorem dX4_together_47 : decode cX4_together 47 = .ok (.aload_n 0, 1) := by decide +kernel
theorem dX4_together_48 : decode cX4_together 48 = .ok (.getfield 18, 3) := by decide +kernel
theorem dX4_together_51 : decode cX4_together 51 = .ok (.iload 7, 2) := by decide +kernel
theorem dX4_together_53 : decode cX4_together 53 = .ok (.iaload, 1) := by decide +kernel
theorem dX4_together_54 : decode cX4_together 54 = .ok (.invokevirtual 60, 3) := by decide +kernel
theorem dX4_together_57 : decode cX4_together 57 = .ok (.ifCond .eq 15, 3) := by decide +kernel
theorem dX4_together_60 : decode cX4_together 60 = .ok (.iload 5, 2) := by decide +kernel
theorem dX4_together_62 : decode cX4_together 62 = .ok (.aload_n 0, 1) := by decide +kernel
theorem dX4_together_63 : decode cX4_together 63 = .ok (.getfield 15, 3) := by decide +kernel
theorem dX4_together_66 : decode cX4_together 66 = .ok (.iload 7, 2) := by decide +kernel
theorem dX4_together_68 : decode cX4_together 68 = .ok (.iaload, 1) := by decide +kernel
theorem dX4_together_69 : decode cX4_together 69 = .ok (.iadd, 1) := by decide +kernel
theorem dX4_together_70 : decode cX4_together 70 = .ok (.istore 5, 2) := by decide +kernel
theorem dX4_together_72 : decode cX4_together 72 = .ok (.aload_n 0, 1) := by decide +kernel
theorem dX4_together_73 : decode cX4_together 73 = .ok (.getfield 18, 3) := by decide +kernel
theorem dX4_together_76 : decode cX4_together 76 = .ok (.iload 7, 2) := by decide +kernel
theorem dX4_together_78 : decode cX4_together 78 = .ok (.iaload, 1) := by decide +kernel
theorem dX4_together_79 : decode cX4_together 79 = .ok (.istore 6, 2) := by decide +kernel
theorem dX4_together_81 : decode cX4_together 81 = .ok (.iinc 7 1, 3) := by decide +kernel
theorem dX4_together_84 : decode cX4_together 84 = .ok (.goto (-67), 3) := by decide +kernel
theorem dX4_together_87 : decode cX4_together 87 = .ok (.iload 5, 2) := by decide +kernel
theorem dX4_together_89 : decode cX4_together 89 = .ok (.ireturn, 1) := by decide +kernel
def f_X4_together_L17 (X : x_X) : Nat → Nat → Int32 → Int32 → Int32 → Int32 → x_M → Option (Int32 × x_M)
  | 0, _, _, _, _, _, _ => none
  | n + 1, v7, v8, v9, v10, v11, μ12 =>
    (ck (x_kd X v7 = 4 + 1) (if (μ12.1 v7 5) ≤ v11 then (some (v9, μ12)) else (if (10 : Int32) ≤ v11 then (some (v9, μ12)) else (ck (x_kd X v7 = 4 + 1) (lt (μ12.2.1 v7 0) (fun (v13 : Nat) => (ck ((x_kd X v13 = 20 ∨ x_kd X v13 = 40) ∧ x_ix v11 (x_ln X v13)) (if (μ12.1 v13 (v11).toNatClampNeg) = v8 then (ck (x_kd X v7 = 4 + 1) (lt (μ12.2.1 v7 2) (fun (v16 : Nat) => (ck ((x_kd X v16 = 20 ∨ x_kd X v16 = 40) ∧ x_ix v11 (x_ln X v16)) (ck (x_kd X v7 = 4 + 1) (bd (f_X4_holds X v7 v10 (μ12.1 v16 (v11).toNatClampNeg) μ12) (fun (v17 : Int32) (μ18 : x_M) => (if v17 = 0 then (ck (x_kd X v7 = 4 + 1) (lt (μ18.2.1 v7 2) (fun (v19 : Nat) => (ck ((x_kd X v19 = 20 ∨ x_kd X v19 = 40) ∧ x_ix v11 (x_ln X v19)) (lt (μ18.1 v19 (v11).toNatClampNeg) (fun (v20 : Int32) => (f_X4_together_L17 X n v7 v8 v9 v20 (v11 + (1 : Int32)) μ18))))))) else (ck (x_kd X v7 = 4 + 1) (lt (μ18.2.1 v7 1) (fun (v21 : Nat) => (ck ((x_kd X v21 = 20 ∨ x_kd X v21 = 40) ∧ x_ix v11 (x_ln X v21)) (lt (v9 + (μ18.1 v21 (v11).toNatClampNeg)) (fun (v22 : Int32) => (ck (x_kd X v7 = 4 + 1) (lt (μ18.2.1 v7 2) (fun (v23 : Nat) => (ck ((x_kd X v23 = 20 ∨ x_kd X v23 = 40) ∧ x_ix v11 (x_ln X v23)) (lt (μ18.1 v23 (v11).toNatClampNeg) (fun (v24 : Int32) => (f_X4_together_L17 X n v7 v8 v22 v24 (v11 + (1 : Int32)) μ18))))))))))))))))))))) else (ck (x_kd X v7 = 4 + 1) (lt (μ12.2.1 v7 2) (fun (v14 : Nat) => (ck ((x_kd X v14 = 20 ∨ x_kd X v14 = 40) ∧ x_ix v11 (x_ln X v14)) (lt (μ12.1 v14 (v11).toNatClampNeg) (fun (v15 : Int32) => (f_X4_together_L17 X n v7 v8 v9 v15 (v11 + (1 : Int32)) μ12)))))))))))))))
set_option maxRecDepth 100000 in
theorem j_X4_together_L17 (hI : x_I X) (hC : x_C X x_Z0 p (x_rm 3) s m c cX4_together RX4 8 0 0 3) (hr : meth.sig.returnType = (some .int)) (hlk : meth.locks = false) : ∀ (n : Nat) (v7 : Nat) (v8 : Int32) (v9 : Int32) (v10 : Int32) (v11 : Int32) (μ12 : x_M), SM X 8 3 rkI p l e s m args below meth c 17 [(0, vR v7), (1, vI v8), (5, vI v9), (6, vI v10), (7, vI v11)] [] μ12 (f_X4_together_L17 X n v7 v8 v9 v10 v11 μ12) := by
  intro n
  induction n with
  | zero => intro v7 v8 v9 v10 v11 μ12; exact s_none
  | succ n ih =>
    intro v7 v8 v9 v10 v11 μ12
    unfold f_X4_together_L17
    refine s_iload hC 4 dX4_together_17 rfl ?_
    refine s_aload_n hC 0 dX4_together_19 rfl ?_
    refine s_getI hC xc4 (by decide) rfl qf_X4_30 dX4_together_20 ?_
    refine s_icmp_ge hC dX4_together_23 (tgt := 87) (by decide) ?_ ?_
    · refine s_iload hC 2 dX4_together_87 rfl ?_
      exact s_iret hC hr hlk dX4_together_89
    refine s_iload hC 4 dX4_together_26 rfl ?_
    refine s_bipush hC dX4_together_28 (v := 10) (by decide) ?_
    refine s_icmp_ge hC dX4_together_30 (tgt := 87) (by decide) ?_ ?_
    · refine s_iload hC 2 dX4_together_87 rfl ?_
      exact s_iret hC hr hlk dX4_together_89
    refine s_aload_n hC 0 dX4_together_33 rfl ?_
    refine s_getR hC xc4 (by decide) rfl qf_X4_9 dX4_together_34 ?_
    refine s_ltR (fun v13 => ?_)
    refine s_iload hC 4 dX4_together_37 rfl ?_
    refine s_iald hC dX4_together_39 ?_
    refine s_iload_n hC 1 dX4_together_40 rfl ?_
    refine s_icmp_ne hC dX4_together_41 (tgt := 72) (by decide) ?_ ?_
    · refine s_aload_n hC 0 dX4_together_72 rfl ?_
      refine s_getR hC xc4 (by decide) rfl qf_X4_18 dX4_together_73 ?_
      refine s_ltR (fun v14 => ?_)
      refine s_iload hC 4 dX4_together_76 rfl ?_
      refine s_iald hC dX4_together_78 ?_
      refine s_ltI (fun v15 => ?_)
      refine s_istore hC dX4_together_79 (by decide) (lv' := [(6, vI v15), (0, vR v7), (1, vI v8), (5, vI v9), (7, vI v11)]) rfl ?_
      refine s_iinc hC 4 dX4_together_81 rfl (w := 1) (by decide) (by decide) (lv' := [(7, vI (v11 + (1 : Int32))), (6, vI v15), (0, vR v7), (1, vI v8), (5, vI v9)]) rfl ?_
      refine s_goto hC dX4_together_84 (tgt := 17) (by decide) ?_
      refine s_lv (lv' := [(0, vR v7), (1, vI v8), (5, vI v9), (6, vI v15), (7, vI (v11 + (1 : Int32)))]) [2, 3, 4, 1, 0] rfl ?_
      exact ih _ _ _ _ _ _
    refine s_aload_n hC 0 dX4_together_44 rfl ?_
    refine s_iload hC 3 dX4_together_45 rfl ?_
    refine s_aload_n hC 0 dX4_together_47 rfl ?_
    refine s_getR hC xc4 (by decide) rfl qf_X4_18 dX4_together_48 ?_
    refine s_ltR (fun v16 => ?_)
    refine s_iload hC 4 dX4_together_51 rfl ?_
    refine s_iald hC dX4_together_53 ?_
    refine s_callV hC (x := v7) (avs := [vI v10, vI (μ12.1 v16 (v11).toNatClampNeg)]) (st := []) (nest := false) xc4 (m_X4_holds hI v7 v10 (μ12.1 v16 (v11).toNatClampNeg) μ12) dX4_together_54 qm_X4_60 qi_X4_holds qs_X4_holds qc_X4 qd_X4_holds qh_X4_holds (by decide) (fun _ => Nat.le_of_ble_eq_true rfl) (Nat.le_of_ble_eq_true rfl) (fun v17 μ18 => ?_)
    refine s_if_eq hC dX4_together_57 (tgt := 72) (by decide) ?_ ?_
    · refine s_aload_n hC 0 dX4_together_72 rfl ?_
      refine s_getR hC xc4 (by decide) rfl qf_X4_18 dX4_together_73 ?_
      refine s_ltR (fun v19 => ?_)
      refine s_iload hC 4 dX4_together_76 rfl ?_
      refine s_iald hC dX4_together_78 ?_
      refine s_ltI (fun v20 => ?_)
      refine s_istore hC dX4_together_79 (by decide) (lv' := [(6, vI v20), (0, vR v7), (1, vI v8), (5, vI v9), (7, vI v11)]) rfl ?_
      refine s_iinc hC 4 dX4_together_81 rfl (w := 1) (by decide) (by decide) (lv' := [(7, vI (v11 + (1 : Int32))), (6, vI v20), (0, vR v7), (1, vI v8), (5, vI v9)]) rfl ?_
      refine s_goto hC dX4_together_84 (tgt := 17) (by decide) ?_
      refine s_lv (lv' := [(0, vR v7), (1, vI v8), (5, vI v9), (6, vI v20), (7, vI (v11 + (1 : Int32)))]) [2, 3, 4, 1, 0] rfl ?_
      exact ih _ _ _ _ _ _
    refine s_iload hC 2 dX4_together_60 rfl ?_
    refine s_aload_n hC 0 dX4_together_62 rfl ?_
    refine s_getR hC xc4 (by decide) rfl qf_X4_15 dX4_together_63 ?_
    refine s_ltR (fun v21 => ?_)
    refine s_iload hC 4 dX4_together_66 rfl ?_
    refine s_iald hC dX4_together_68 ?_
    refine s_iadd hC dX4_together_69 ?_
    refine s_ltI (fun v22 => ?_)
    refine s_istore hC dX4_together_70 (by decide) (lv' := [(5, vI v22), (0, vR v7), (1, vI v8), (6, vI v10), (7, vI v11)]) rfl ?_
    refine s_aload_n hC 1 dX4_together_72 rfl ?_
    refine s_getR hC xc4 (by decide) rfl qf_X4_18 dX4_together_73 ?_
    refine s_ltR (fun v23 => ?_)
    refine s_iload hC 4 dX4_together_76 rfl ?_
    refine s_iald hC dX4_together_78 ?_
    refine s_ltI (fun v24 => ?_)
    refine s_istore hC dX4_together_79 (by decide) (lv' := [(6, vI v24), (5, vI v22), (0, vR v7), (1, vI v8), (7, vI v11)]) rfl ?_
    refine s_iinc hC 4 dX4_together_81 rfl (w := 1) (by decide) (by decide) (lv' := [(7, vI (v11 + (1 : Int32))), (6, vI v24), (5, vI v22), (0, vR v7), (1, vI v8)]) rfl ?_
    refine s_goto hC dX4_together_84 (tgt := 17) (by decide) ?_
    refine s_lv (lv' := [(0, vR v7), (1, vI v8), (5, vI v22), (6, vI v24), (7, vI (v11 + (1 : Int32)))]) [3, 4, 2, 1, 0] rfl ?_
    exact ih _ _ _ _ _ _
def f_X4_together (X : x_X) (v0 : Nat) (v1 : Int32) (v2 : Nat) (v3 : Int32) (v4 : Int32) (μ : x_M) : Option (Int32 × x_M) :=
  (ck (x_kd X v0 = 4 + 1) (bd (f_X4_tellValues X v0 v2 v3 v4 μ) (fun (_ : Unit) (μ6 : x_M) => (f_X4_together_L17 X 4096 v0 v1 (0 : Int32) (0 : Int32) (0 : Int32) μ6))))
set_option maxRecDepth 100000 in
theorem m_X4_together (hI : x_I X) (v0 : Nat) (v1 : Int32) (v2 : Nat) (v3 : Int32) (v4 : Int32) (μ : x_M) : x_Met X x_Z0 l yX4_together cX4_together 8 (some .int) 3 [vR v0, vI v1, vR v2, vI v3, vI v4] μ rkI (f_X4_together X v0 v1 v2 v3 v4 μ) := by
  refine x_enter hI (by decide +kernel) (Nat.le_of_ble_eq_true rfl) (fun p e s m args below meth c hC hr hlk => ?_)
  unfold f_X4_together
  refine s_lv (lv' := [(0, vR v0), (1, vI v1), (2, vR v2), (3, vI v3), (4, vI v4)]) [0, 1, 2, 3, 4] rfl ?_
  refine s_aload_n hC 0 dX4_together_0 rfl ?_
  refine s_aload_n hC 2 dX4_together_1 rfl ?_
  refine s_iload_n hC 3 dX4_together_2 rfl ?_
  refine s_iload hC 4 dX4_together_3 rfl ?_
  refine s_callV hC (x := v0) (avs := [vR v2, vI v3, vI v4]) (st := []) (nest := false) xc4 (m_X4_tellValues hI v0 v2 v3 v4 μ) dX4_together_5 qm_X4_56 qi_X4_tellValues qs_X4_tellValues qc_X4 qd_X4_tellValues qh_X4_tellValues (by decide) (fun _ => Nat.le_of_ble_eq_true rfl) (Nat.le_of_ble_eq_true rfl) (fun _ μ6 => ?_)
  refine s_iconst hC dX4_together_8 (v := 0) (by decide) ?_
  refine s_istore hC dX4_together_9 (by decide) (lv' := [(5, vI (0 : Int32)), (0, vR v0), (1, vI v1), (2, vR v2), (3, vI v3), (4, vI v4)]) rfl ?_
  refine s_iconst hC dX4_together_11 (v := 0) (by decide) ?_
  refine s_istore hC dX4_together_12 (by decide) (lv' := [(6, vI (0 : Int32)), (5, vI (0 : Int32)), (0, vR v0), (1, vI v1), (2, vR v2), (3, vI v3), (4, vI v4)]) rfl ?_
  refine s_iconst hC dX4_together_14 (v := 0) (by decide) ?_
  refine s_istore hC dX4_together_15 (by decide) (lv' := [(7, vI (0 : Int32)), (6, vI (0 : Int32)), (5, vI (0 : Int32)), (0, vR v0), (1, vI v1), (2, vR v2), (3, vI v3), (4, vI v4)]) rfl ?_
  refine s_lv (lv' := [(0, vR v0), (1, vI v1), (5, vI (0 : Int32)), (6, vI (0 : Int32)), (7, vI (0 : Int32))]) [3, 4, 2, 1, 0] rfl ?_
  refine j_X4_together_L17 hI hC hr hlk 4096 _ _ _ _ _ _
end
section
variable {X : x_X} {l : Launch} {p : Program} {e : Env} {s : State} {m : MethodId} {args : Array Value} {below : List Frame} {meth : Method} {c : Code}
theorem dX5_length_0 : decode cX5_length 0 = .ok (.aload_n 0, 1) := by decide +kernel
theorem dX5_length_1 : decode cX5_length 1 = .ok (.getfield 15, 3) := by decide +kernel
theorem dX5_length_4 : decode cX5_length 4 = .ok (.ireturn, 1) := by decide +kernel
def f_X5_length (X : x_X) (v0 : Nat) (μ : x_M) : Option (Int32 × x_M) :=
  (ck (x_kd X v0 = 5 + 1) (some ((μ.1 v0 1), μ)))
set_option maxRecDepth 100000 in
theorem m_X5_length (hI : x_I X) (v0 : Nat) (μ : x_M) : x_Met X x_Z0 l yX5_length cX5_length 1 (some .int) 1 [vR v0] μ rkI (f_X5_length X v0 μ) := by
  refine x_enter hI (by decide +kernel) (Nat.le_of_ble_eq_true rfl) (fun p e s m args below meth c hC hr hlk => ?_)
  unfold f_X5_length
  refine s_lv (lv' := [(0, vR v0)]) [0] rfl ?_
  refine s_aload_n hC 0 dX5_length_0 rfl ?_
  refine s_getI hC xc5 (by decide) rfl qf_X5_15 dX5_length_1 ?_
  exact s_iret hC hr hlk dX5_length_4
theorem dX5_clear_0 : decode cX5_clear 0 = .ok (.aload_n 0, 1) := by decide +kernel
theorem dX5_clear_1 : decode cX5_clear 1 = .ok (.iconst 0, 1) := by decide +kernel
theorem dX5_clear_2 : decode cX5_clear 2 = .ok (.putfield 15, 3) := by decide +kernel
theorem dX5_clear_5 : decode cX5_clear 5 = .ok (.return_, 1) := by decide +kernel
def f_X5_clear (X : x_X) (v0 : Nat) (μ : x_M) : Option (Unit × x_M) :=
  (ck (x_kd X v0 = 5 + 1) (lt (x_sI μ v0 1 (0 : Int32)) (fun (μ2 : x_M) => (some ((), μ2)))))
set_option maxRecDepth 100000 in
theorem m_X5_clear (hI : x_I X) (v0 : Nat) (μ : x_M) : x_Met X x_Z0 l yX5_clear cX5_clear 1 none 1 [vR v0] μ rkV (f_X5_clear X v0 μ) := by
  refine x_enter hI (by decide +kernel) (Nat.le_of_ble_eq_true rfl) (fun p e s m args below meth c hC hr hlk => ?_)
  unfold f_X5_clear
  refine s_lv (lv' := [(0, vR v0)]) [0] rfl ?_
  refine s_aload_n hC 0 dX5_clear_0 rfl ?_
  refine s_iconst hC dX5_clear_1 (v := 0) (by decide) ?_
  refine s_putI hC xc5 (by decide) rfl rfl qf_X5_15 dX5_clear_2 ?_
  refine s_ltM (fun μ2 => ?_)
  exact s_vret hC hr hlk dX5_clear_5
theorem dX5_take_0 : decode cX5_take 0 = .ok (.aload_n 0, 1) := by decide +kernel
theorem dX5_take_1 : decode cX5_take 1 = .ok (.getfield 23, 3) := by decide +kernel
theorem dX5_take_4 : decode cX5_take 4 = .ok (.ifCond .lt 36, 3) := by decide +kernel
theorem dX5_take_7 : decode cX5_take 7 = .ok (.aload_n 0, 1) := by decide +kernel
theorem dX5_take_8 : decode cX5_take 8 = .ok (.getfield 23, 3) := by decide +kernel
theorem dX5_take_11 : decode cX5_take 11 = .ok (.aload_n 0, 1) := by decide +kernel
theorem dX5_take_12 : decode cX5_take 12 = .ok (.getfield 15, 3) := by decide +kernel
theorem dX5_take_15 : decode cX5_take 15 = .ok (.if_icmp .ge 25, 3) := by decide +kernel
theorem dX5_take_18 : decode cX5_take 18 = .ok (.aload_n 0, 1) := by decide +kernel
theorem dX5_take_19 : decode cX5_take 19 = .ok (.getfield 23, 3) := by decide +kernel
theorem dX5_take_22 : decode cX5_take 22 = .ok (.bipush 100, 2) := by decide +kernel
theorem dX5_take_24 : decode cX5_take 24 = .ok (.if_icmp .ge 16, 3) := by decide +kernel
theorem dX5_take_27 : decode cX5_take 27 = .ok (.aload_n 0, 1) := by decide +kernel
theorem dX5_take_28 : decode cX5_take 28 = .ok (.getfield 9, 3) := by decide +kernel
theorem dX5_take_31 : decode cX5_take 31 = .ok (.aload_n 0, 1) := by decide +kernel
theorem dX5_take_32 : decode cX5_take 32 = .ok (.getfield 23, 3) := by decide +kernel
theorem dX5_take_35 : decode cX5_take 35 = .ok (.iaload, 1) := by decide +kernel
theorem dX5_take_36 : decode cX5_take 36 = .ok (.iload_n 1, 1) := by decide +kernel
theorem dX5_take_37 : decode cX5_take 37 = .ok (.if_icmp .eq 5, 3) := by decide +kernel
theorem dX5_take_40 : decode cX5_take 40 = .ok (.iconst 0, 1) := by decide +kernel
theorem dX5_take_41 : decode cX5_take 41 = .ok (.ireturn, 1) := by decide +kernel
theorem dX5_take_42 : decode cX5_take 42 = .ok (.aload_n 0, 1) := by decide +kernel
theorem dX5_take_43 : decode cX5_take 43 = .ok (.dup, 1) := by decide +kernel
theorem dX5_take_44 : decode cX5_take 44 = .ok (.getfield 23, 3) := by decide +kernel
theorem dX5_take_47 : decode cX5_take 47 = .ok (.iconst 1, 1) := by decide +kernel
theorem dX5_take_48 : decode cX5_take 48 = .ok (.iadd, 1) := by decide +kernel
theorem dX5_take_49 : decode cX5_take 49 = .ok (.putfield 23, 3) := by decide +kernel
theorem dX5_take_52 : decode cX5_take 52 = .ok (.iconst 1, 1) := by decide +kernel
theorem dX5_take_53 : decode cX5_take 53 = .ok (.ireturn, 1) := by decide +kernel
def f_X5_take (X : x_X) (v0 : Nat) (v1 : Int32) (μ : x_M) : Option (Int32 × x_M) :=
  (ck (x_kd X v0 = 5 + 1) (if (μ.1 v0 2) < 0 then (ck ((0 : Int32) = 0 ∨ (0 : Int32) = 1) (some ((0 : Int32), μ))) else (ck (x_kd X v0 = 5 + 1) (ck (x_kd X v0 = 5 + 1) (if (μ.1 v0 1) ≤ (μ.1 v0 2) then (ck ((0 : Int32) = 0 ∨ (0 : Int32) = 1) (some ((0 : Int32), μ))) else (ck (x_kd X v0 = 5 + 1) (if (100 : Int32) ≤ (μ.1 v0 2) then (ck ((0 : Int32) = 0 ∨ (0 : Int32) = 1) (some ((0 : Int32), μ))) else (ck (x_kd X v0 = 5 + 1) (lt (μ.2.1 v0 0) (fun (v3 : Nat) => (ck (x_kd X v0 = 5 + 1) (lt (μ.1 v0 2) (fun (v4 : Int32) => (ck ((x_kd X v3 = 20 ∨ x_kd X v3 = 40) ∧ x_ix v4 (x_ln X v3)) (if (μ.1 v3 (v4).toNatClampNeg) = v1 then (ck (x_kd X v0 = 5 + 1) (ck (x_kd X v0 = 5 + 1) (lt (x_sI μ v0 2 ((μ.1 v0 2) + (1 : Int32))) (fun (μ5 : x_M) => (ck ((1 : Int32) = 0 ∨ (1 : Int32) = 1) (some ((1 : Int32), μ5))))))) else (ck ((0 : Int32) = 0 ∨ (0 : Int32) = 1) (some ((0 : Int32), μ))))))))))))))))))
set_option maxRecDepth 100000 in
theorem m_X5_take (hI : x_I X) (v0 : Nat) (v1 : Int32) (μ : x_M) : x_Met X x_Z0 l yX5_take cX5_take 2 (some .boolean) 1 [vR v0, vI v1] μ rkI (f_X5_take X v0 v1 μ) := by
  refine x_enter hI (by decide +kernel) (Nat.le_of_ble_eq_true rfl) (fun p e s m args below meth c hC hr hlk => ?_)
  unfold f_X5_take
  refine s_lv (lv' := [(0, vR v0), (1, vI v1)]) [0, 1] rfl ?_
  refine s_aload_n hC 0 dX5_take_0 rfl ?_
  refine s_getI hC xc5 (by decide) rfl qf_X5_23 dX5_take_1 ?_
  refine s_if_lt hC dX5_take_4 (tgt := 40) (by decide) ?_ ?_
  · refine s_iconst hC dX5_take_40 (v := 0) (by decide) ?_
    exact s_zret hC hr hlk dX5_take_41
  refine s_aload_n hC 0 dX5_take_7 rfl ?_
  refine s_getI hC xc5 (by decide) rfl qf_X5_23 dX5_take_8 ?_
  refine s_aload_n hC 0 dX5_take_11 rfl ?_
  refine s_getI hC xc5 (by decide) rfl qf_X5_15 dX5_take_12 ?_
  refine s_icmp_ge hC dX5_take_15 (tgt := 40) (by decide) ?_ ?_
  · refine s_iconst hC dX5_take_40 (v := 0) (by decide) ?_
    exact s_zret hC hr hlk dX5_take_41
  refine s_aload_n hC 0 dX5_take_18 rfl ?_
  refine s_getI hC xc5 (by decide) rfl qf_X5_23 dX5_take_19 ?_
  refine s_bipush hC dX5_take_22 (v := 100) (by decide) ?_
  refine s_icmp_ge hC dX5_take_24 (tgt := 40) (by decide) ?_ ?_
  · refine s_iconst hC dX5_take_40 (v := 0) (by decide) ?_
    exact s_zret hC hr hlk dX5_take_41
  refine s_aload_n hC 0 dX5_take_27 rfl ?_
  refine s_getR hC xc5 (by decide) rfl qf_X5_9 dX5_take_28 ?_
  refine s_ltR (fun v3 => ?_)
  refine s_aload_n hC 0 dX5_take_31 rfl ?_
  refine s_getI hC xc5 (by decide) rfl qf_X5_23 dX5_take_32 ?_
  refine s_ltI (fun v4 => ?_)
  refine s_iald hC dX5_take_35 ?_
  refine s_iload_n hC 1 dX5_take_36 rfl ?_
  refine s_icmp_eq hC dX5_take_37 (tgt := 42) (by decide) ?_ ?_
  · refine s_aload_n hC 0 dX5_take_42 rfl ?_
    refine s_dupR hC dX5_take_43 ?_
    refine s_getI hC xc5 (by decide) rfl qf_X5_23 dX5_take_44 ?_
    refine s_iconst hC dX5_take_47 (v := 1) (by decide) ?_
    refine s_iadd hC dX5_take_48 ?_
    refine s_putI hC xc5 (by decide) rfl rfl qf_X5_23 dX5_take_49 ?_
    refine s_ltM (fun μ5 => ?_)
    refine s_iconst hC dX5_take_52 (v := 1) (by decide) ?_
    exact s_zret hC hr hlk dX5_take_53
  refine s_iconst hC dX5_take_40 (v := 0) (by decide) ?_
  exact s_zret hC hr hlk dX5_take_41
theorem dX5_wordOf_0 : decode cX5_wordOf 0 = .ok (.iload_n 0, 1) := by decide +kernel
theorem dX5_wordOf_1 : decode cX5_wordOf 1 = .ok (.tableswitch 43 0 3 #[31, 34, 37, 40], 31) := by decide +kernel
theorem dX5_wordOf_32 : decode cX5_wordOf 32 = .ok (.ldc 53, 2) := by decide +kernel
theorem dX5_wordOf_34 : decode cX5_wordOf 34 = .ok (.areturn, 1) := by decide +kernel
theorem dX5_wordOf_35 : decode cX5_wordOf 35 = .ok (.ldc 55, 2) := by decide +kernel
theorem dX5_wordOf_37 : decode cX5_wordOf 37 = .ok (.areturn, 1) := by decide +kernel
theorem dX5_wordOf_38 : decode cX5_wordOf 38 = .ok (.ldc 57, 2) := by decide +kernel
theorem dX5_wordOf_40 : decode cX5_wordOf 40 = .ok (.areturn, 1) := by decide +kernel
theorem dX5_wordOf_41 : decode cX5_wordOf 41 = .ok (.ldc 59, 2) := by decide +kernel
theorem dX5_wordOf_43 : decode cX5_wordOf 43 = .ok (.areturn, 1) := by decide +kernel
theorem dX5_wordOf_44 : decode cX5_wordOf 44 = .ok (.ldc 61, 2) := by decide +kernel
theorem dX5_wordOf_46 : decode cX5_wordOf 46 = .ok (.areturn, 1) := by decide +kernel
def f_X5_wordOf (X : x_X) (v0 : Int32) (μ : x_M) : Option (Nat × x_M) :=
  (x_swo [(0 : Int32), (1 : Int32), (2 : Int32), (3 : Int32)] [(some (811, μ)), (some (812, μ)), (some (813, μ)), (some (814, μ))] (some (815, μ)) v0)
set_option maxRecDepth 100000 in
theorem m_X5_wordOf (hI : x_I X) (v0 : Int32) (μ : x_M) : x_Met X x_Z0 l yX5_wordOf cX5_wordOf 1 (some (.object "java/lang/String")) 1 [vI v0] μ rkR (f_X5_wordOf X v0 μ) := by
  refine x_enter hI (by decide +kernel) (Nat.le_of_ble_eq_true rfl) (fun p e s m args below meth c hC hr hlk => ?_)
  unfold f_X5_wordOf
  refine s_lv (lv' := [(0, vI v0)]) [0] rfl ?_
  refine s_iload_n hC 0 dX5_wordOf_0 rfl ?_
  refine s_table hC dX5_wordOf_1 [((0 : Int32), 32), ((1 : Int32), 35), ((2 : Int32), 38), ((3 : Int32), 41)] 44 (by decide +kernel) ⟨?_, ?_, ?_, ?_, trivial⟩ ?_
  · refine s_ldcS hC dX5_wordOf_32 (id := 811) (List.mem_of_getElem? (i := 0) rfl) (by decide) ?_
    exact s_aret hC hr (Or.inl ⟨_, rfl⟩) hlk dX5_wordOf_34
  · refine s_ldcS hC dX5_wordOf_35 (id := 812) (List.mem_of_getElem? (i := 1) rfl) (by decide) ?_
    exact s_aret hC hr (Or.inl ⟨_, rfl⟩) hlk dX5_wordOf_37
  · refine s_ldcS hC dX5_wordOf_38 (id := 813) (List.mem_of_getElem? (i := 2) rfl) (by decide) ?_
    exact s_aret hC hr (Or.inl ⟨_, rfl⟩) hlk dX5_wordOf_40
  · refine s_ldcS hC dX5_wordOf_41 (id := 814) (List.mem_of_getElem? (i := 3) rfl) (by decide) ?_
    exact s_aret hC hr (Or.inl ⟨_, rfl⟩) hlk dX5_wordOf_43
  refine s_ldcS hC dX5_wordOf_44 (id := 815) (List.mem_of_getElem? (i := 4) rfl) (by decide) ?_
  exact s_aret hC hr (Or.inl ⟨_, rfl⟩) hlk dX5_wordOf_46
theorem dX5_add_0 : decode cX5_add 0 = .ok (.aload_n 0, 1) := by decide +kernel
theorem dX5_add_1 : decode cX5_add 1 = .ok (.getfield 15, 3) := by decide +kernel
theorem dX5_add_4 : decode cX5_add 4 = .ok (.iconst 0, 1) := by decide +kernel
theorem dX5_add_5 : decode cX5_add 5 = .ok (.bipush 99, 2) := by decide +kernel
theorem dX5_add_7 : decode cX5_add 7 = .ok (.invokestatic 19, 3) := by decide +kernel
theorem dX5_add_10 : decode cX5_add 10 = .ok (.ifCond .ne 6, 3) := by decide +kernel
theorem dX5_add_13 : decode cX5_add 13 = .ok (.bipush (-4), 2) := by decide +kernel
theorem dX5_add_15 : decode cX5_add 15 = .ok (.ireturn, 1) := by decide +kernel
theorem dX5_add_16 : decode cX5_add 16 = .ok (.aload_n 0, 1) := by decide +kernel
theorem dX5_add_17 : decode cX5_add 17 = .ok (.getfield 9, 3) := by decide +kernel
theorem dX5_add_20 : decode cX5_add 20 = .ok (.aload_n 0, 1) := by decide +kernel
theorem dX5_add_21 : decode cX5_add 21 = .ok (.getfield 15, 3) := by decide +kernel
theorem dX5_add_24 : decode cX5_add 24 = .ok (.iload_n 1, 1) := by decide +kernel
theorem dX5_add_25 : decode cX5_add 25 = .ok (.iastore, 1) := by decide +kernel
theorem dX5_add_26 : decode cX5_add 26 = .ok (.aload_n 0, 1) := by decide +kernel
theorem dX5_add_27 : decode cX5_add 27 = .ok (.dup, 1) := by decide +kernel
theorem dX5_add_28 : decode cX5_add 28 = .ok (.getfield 15, 3) := by decide +kernel
theorem dX5_add_31 : decode cX5_add 31 = .ok (.iconst 1, 1) := by decide +kernel
theorem dX5_add_32 : decode cX5_add 32 = .ok (.iadd, 1) := by decide +kernel
theorem dX5_add_33 : decode cX5_add 33 = .ok (.putfield 15, 3) := by decide +kernel
theorem dX5_add_36 : decode cX5_add 36 = .ok (.aload_n 0, 1) := by decide +kernel
theorem dX5_add_37 : decode cX5_add 37 = .ok (.getfield 15, 3) := by decide +kernel
theorem dX5_add_40 : decode cX5_add 40 = .ok (.ireturn, 1) := by decide +kernel
def f_X5_add (X : x_X) (v0 : Nat) (v1 : Int32) (μ : x_M) : Option (Int32 × x_M) :=
  (ck (x_kd X v0 = 5 + 1) (bd (f_X9_within X (μ.1 v0 1) (0 : Int32) (99 : Int32) μ) (fun (v3 : Int32) (μ4 : x_M) => (if v3 = 0 then (some ((-4 : Int32), μ4)) else (ck (x_kd X v0 = 5 + 1) (lt (μ4.2.1 v0 0) (fun (v5 : Nat) => (ck (x_kd X v0 = 5 + 1) (lt (μ4.1 v0 1) (fun (v6 : Int32) => (ck (x_kd X v5 = 20 ∧ x_ix v6 (x_ln X v5)) (lt (x_sI μ4 v5 (v6).toNatClampNeg v1) (fun (μ7 : x_M) => (ck (x_kd X v0 = 5 + 1) (ck (x_kd X v0 = 5 + 1) (lt (x_sI μ7 v0 1 ((μ7.1 v0 1) + (1 : Int32))) (fun (μ8 : x_M) => (ck (x_kd X v0 = 5 + 1) (some ((μ8.1 v0 1), μ8))))))))))))))))))))
set_option maxRecDepth 100000 in
theorem m_X5_add (hI : x_I X) (v0 : Nat) (v1 : Int32) (μ : x_M) : x_Met X x_Z0 l yX5_add cX5_add 2 (some .int) 2 [vR v0, vI v1] μ rkI (f_X5_add X v0 v1 μ) := by
  refine x_enter hI (by decide +kernel) (Nat.le_of_ble_eq_true rfl) (fun p e s m args below meth c hC hr hlk => ?_)
  unfold f_X5_add
  refine s_lv (lv' := [(0, vR v0), (1, vI v1)]) [0, 1] rfl ?_
  refine s_aload_n hC 0 dX5_add_0 rfl ?_
  refine s_getI hC xc5 (by decide) rfl qf_X5_15 dX5_add_1 ?_
  refine s_iconst hC dX5_add_4 (v := 0) (by decide) ?_
  refine s_bipush hC dX5_add_5 (v := 99) (by decide) ?_
  refine s_callS hC (avs := [vI (μ.1 v0 1), vI (0 : Int32), vI (99 : Int32)]) (st := []) (nest := true) (m_X9_within hI (μ.1 v0 1) (0 : Int32) (99 : Int32) μ) dX5_add_7 qm_X5_19 qt_X9_within qc_X9 qd_X9_within qh_X9_within (by decide) (fun _ => Nat.le_of_ble_eq_true rfl) (Nat.le_of_ble_eq_true rfl) (fun v3 μ4 => ?_)
  refine s_if_ne hC dX5_add_10 (tgt := 16) (by decide) ?_ ?_
  · refine s_aload_n hC 0 dX5_add_16 rfl ?_
    refine s_getR hC xc5 (by decide) rfl qf_X5_9 dX5_add_17 ?_
    refine s_ltR (fun v5 => ?_)
    refine s_aload_n hC 0 dX5_add_20 rfl ?_
    refine s_getI hC xc5 (by decide) rfl qf_X5_15 dX5_add_21 ?_
    refine s_iload_n hC 1 dX5_add_24 rfl ?_
    refine s_ltI2 (fun v6 => ?_)
    refine s_iast hC dX5_add_25 ?_
    refine s_ltM (fun μ7 => ?_)
    refine s_aload_n hC 0 dX5_add_26 rfl ?_
    refine s_dupR hC dX5_add_27 ?_
    refine s_getI hC xc5 (by decide) rfl qf_X5_15 dX5_add_28 ?_
    refine s_iconst hC dX5_add_31 (v := 1) (by decide) ?_
    refine s_iadd hC dX5_add_32 ?_
    refine s_putI hC xc5 (by decide) rfl rfl qf_X5_15 dX5_add_33 ?_
    refine s_ltM (fun μ8 => ?_)
    refine s_aload_n hC 0 dX5_add_36 rfl ?_
    refine s_getI hC xc5 (by decide) rfl qf_X5_15 dX5_add_37 ?_
    exact s_iret hC hr hlk dX5_add_40
  refine s_bipush hC dX5_add_13 (v := -4) (by decide) ?_
  exact s_iret hC hr hlk dX5_add_15
theorem dX5_takeNumber_0 : decode cX5_takeNumber 0 = .ok (.iconst (-1), 1) := by decide +kernel
theorem dX5_takeNumber_1 : decode cX5_takeNumber 1 = .ok (.istore_n 1, 1) := by decide +kernel
theorem dX5_takeNumber_2 : decode cX5_takeNumber 2 = .ok (.iconst 0, 1) := by decide +kernel
theorem dX5_takeNumber_3 : decode cX5_takeNumber 3 = .ok (.istore_n 2, 1) := by decide +kernel
theorem dX5_takeNumber_4 : decode cX5_takeNumber 4 = .ok (.iload_n 2, 1) := by decide +kernel
theorem dX5_takeNumber_5 : decode cX5_takeNumber 5 = .ok (.iconst 2, 1) := by decide +kernel
theorem dX5_takeNumber_6 : decode cX5_takeNumber 6 = .ok (.if_icmp .ge 68, 3) := by decide +kernel
theorem dX5_takeNumber_9 : decode cX5_takeNumber 9 = .ok (.aload_n 0, 1) := by decide +kernel
theorem dX5_takeNumber_10 : decode cX5_takeNumber 10 = .ok (.getfield 23, 3) := by decide +kernel
theorem dX5_takeNumber_13 : decode cX5_takeNumber 13 = .ok (.aload_n 0, 1) := by decide +kernel
theorem dX5_takeNumber_14 : decode cX5_takeNumber 14 = .ok (.getfield 15, 3) := by decide +kernel
theorem dX5_takeNumber_17 : decode cX5_takeNumber 17 = .ok (.if_icmp .ge 57, 3) := by decide +kernel
theorem dX5_takeNumber_20 : decode cX5_takeNumber 20 = .ok (.aload_n 0, 1) := by decide +kernel
theorem dX5_takeNumber_21 : decode cX5_takeNumber 21 = .ok (.getfield 9, 3) := by decide +kernel
theorem dX5_takeNumber_24 : decode cX5_takeNumber 24 = .ok (.aload_n 0, 1) := by decide +kernel
theorem dX5_takeNumber_25 : decode cX5_takeNumber 25 = .ok (.getfield 23, 3) := by decide +kernel
theorem dX5_takeNumber_28 : decode cX5_takeNumber 28 = .ok (.invokestatic 81, 3) := by decide +kernel
theorem dX5_takeNumber_31 : decode cX5_takeNumber 31 = .ok (.bipush 48, 2) := by decide +kernel
theorem dX5_takeNumber_33 : decode cX5_takeNumber 33 = .ok (.isub, 1) := by decide +kernel
theorem dX5_takeNumber_34 : decode cX5_takeNumber 34 = .ok (.istore_n 3, 1) := by decide +kernel
theorem dX5_takeNumber_35 : decode cX5_takeNumber 35 = .ok (.iload_n 3, 1) := by decide +kernel
theorem dX5_takeNumber_36 : decode cX5_takeNumber 36 = .ok (.ifCond .lt 9, 3) := by decide +kernel
theorem dX5_takeNumber_39 : decode cX5_takeNumber 39 = .ok (.iload_n 3, 1) := by decide +kernel
theorem dX5_takeNumber_40 : decode cX5_takeNumber 40 = .ok (.bipush 9, 2) := by decide +kernel
theorem dX5_takeNumber_42 : decode cX5_takeNumber 42 = .ok (.if_icmp .le 5, 3) := by decide +kernel
theorem dX5_takeNumber_45 : decode cX5_takeNumber 45 = .ok (.iload_n 1, 1) := by decide +kernel
theorem dX5_takeNumber_46 : decode cX5_takeNumber 46 = .ok (.ireturn, 1) := by decide +kernel
theorem dX5_takeNumber_47 : decode cX5_takeNumber 47 = .ok (.iload_n 1, 1) := by decide +kernel
theorem dX5_takeNumber_48 : decode cX5_takeNumber 48 = .ok (.iconst 0, 1) := by decide +kernel
theorem dX5_takeNumber_49 : decode cX5_takeNumber 49 = .ok (.invokestatic 75, 3) := by decide +kernel
theorem dX5_takeNumber_52 : decode cX5_takeNumber 52 = .ok (.bipush 10, 2) := by decide +kernel
theorem dX5_takeNumber_54 : decode cX5_takeNumber 54 = .ok (.imul, 1) := by decide +kernel
theorem dX5_takeNumber_55 : decode cX5_takeNumber 55 = .ok (.iload_n 3, 1) := by decide +kernel
theorem dX5_takeNumber_56 : decode cX5_takeNumber 56 = .ok (.iadd, 1) := by decide +kernel
theorem dX5_takeNumber_57 : decode cX5_takeNumber 57 = .ok (.istore_n 1, 1) := by decide +kernel
theorem dX5_takeNumber_58 : decode cX5_takeNumber 58 = .ok (.aload_n 0, 1) := by decide +kernel
theorem dX5_takeNumber_59 : decode cX5_takeNumber 59 = .ok (.dup, 1) := by decide +kernel
theorem dX5_takeNumber_60 : decode cX5_takeNumber 60 = .ok (.getfield 23, 3) := by decide +kernel
theorem dX5_takeNumber_63 : decode cX5_takeNumber 63 = .ok (.iconst 1, 1) := by decide +kernel
theorem dX5_takeNumber_64 : decode cX5_takeNumber 64 = .ok (.iadd, 1) := by decide +kernel
theorem dX5_takeNumber_65 : decode cX5_takeNumber 65 = .ok (.putfield 23, 3) := by decide +kernel
theorem dX5_takeNumber_68 : decode cX5_takeNumber 68 = .ok (.iinc 2 1, 3) := by decide +kernel
theorem dX5_takeNumber_71 : decode cX5_takeNumber 71 = .ok (.goto (-67), 3) := by decide +kernel
theorem dX5_takeNumber_74 : decode cX5_takeNumber 74 = .ok (.iload_n 1, 1) := by decide +kernel
theorem dX5_takeNumber_75 : decode cX5_takeNumber 75 = .ok (.ireturn, 1) := by decide +kernel
def f_X5_takeNumber_L4 (X : x_X) : Nat → Nat → Int32 → Int32 → x_M → Option (Int32 × x_M)
  | 0, _, _, _, _ => none
  | n + 1, v2, v3, v4, μ5 =>
    (if (2 : Int32) ≤ v4 then (some (v3, μ5)) else (ck (x_kd X v2 = 5 + 1) (ck (x_kd X v2 = 5 + 1) (if (μ5.1 v2 1) ≤ (μ5.1 v2 2) then (some (v3, μ5)) else (ck (x_kd X v2 = 5 + 1) (lt (μ5.2.1 v2 0) (fun (v6 : Nat) => (ck (x_kd X v2 = 5 + 1) (bd (f_X9_at X v6 (μ5.1 v2 2) μ5) (fun (v7 : Int32) (μ8 : x_M) => (lt (v7 - (48 : Int32)) (fun (v9 : Int32) => (if v9 < 0 then (some (v3, μ8)) else (if v9 ≤ (9 : Int32) then (lt (((if v3 < (0 : Int32) then (0 : Int32) else v3) * (10 : Int32)) + v9) (fun (v10 : Int32) => (ck (x_kd X v2 = 5 + 1) (ck (x_kd X v2 = 5 + 1) (lt (x_sI μ8 v2 2 ((μ8.1 v2 2) + (1 : Int32))) (fun (μ11 : x_M) => (f_X5_takeNumber_L4 X n v2 v10 (v4 + (1 : Int32)) μ11))))))) else (some (v3, μ8))))))))))))))))
set_option maxRecDepth 100000 in
theorem j_X5_takeNumber_L4 (hI : x_I X) (hC : x_C X x_Z0 p (x_rm 2) s m c cX5_takeNumber RX5 4 0 0 2) (hr : meth.sig.returnType = (some .int)) (hlk : meth.locks = false) : ∀ (n : Nat) (v2 : Nat) (v3 : Int32) (v4 : Int32) (μ5 : x_M), SM X 4 2 rkI p l e s m args below meth c 4 [(0, vR v2), (1, vI v3), (2, vI v4)] [] μ5 (f_X5_takeNumber_L4 X n v2 v3 v4 μ5) := by
  intro n
  induction n with
  | zero => intro v2 v3 v4 μ5; exact s_none
  | succ n ih =>
    intro v2 v3 v4 μ5
    unfold f_X5_takeNumber_L4
    refine s_iload_n hC 2 dX5_takeNumber_4 rfl ?_
    refine s_iconst hC dX5_takeNumber_5 (v := 2) (by decide) ?_
    refine s_icmp_ge hC dX5_takeNumber_6 (tgt := 74) (by decide) ?_ ?_
    · refine s_iload_n hC 1 dX5_takeNumber_74 rfl ?_
      exact s_iret hC hr hlk dX5_takeNumber_75
    refine s_aload_n hC 0 dX5_takeNumber_9 rfl ?_
    refine s_getI hC xc5 (by decide) rfl qf_X5_23 dX5_takeNumber_10 ?_
    refine s_aload_n hC 0 dX5_takeNumber_13 rfl ?_
    refine s_getI hC xc5 (by decide) rfl qf_X5_15 dX5_takeNumber_14 ?_
    refine s_icmp_ge hC dX5_takeNumber_17 (tgt := 74) (by decide) ?_ ?_
    · refine s_iload_n hC 1 dX5_takeNumber_74 rfl ?_
      exact s_iret hC hr hlk dX5_takeNumber_75
    refine s_aload_n hC 0 dX5_takeNumber_20 rfl ?_
    refine s_getR hC xc5 (by decide) rfl qf_X5_9 dX5_takeNumber_21 ?_
    refine s_ltR (fun v6 => ?_)
    refine s_aload_n hC 0 dX5_takeNumber_24 rfl ?_
    refine s_getI hC xc5 (by decide) rfl qf_X5_23 dX5_takeNumber_25 ?_
    refine s_callS hC (avs := [vR v6, vI (μ5.1 v2 2)]) (st := []) (nest := true) (m_X9_at hI v6 (μ5.1 v2 2) μ5) dX5_takeNumber_28 qm_X5_81 qt_X9_at qc_X9 qd_X9_at qh_X9_at (by decide) (fun _ => Nat.le_of_ble_eq_true rfl) (Nat.le_of_ble_eq_true rfl) (fun v7 μ8 => ?_)
    refine s_bipush hC dX5_takeNumber_31 (v := 48) (by decide) ?_
    refine s_isub hC dX5_takeNumber_33 ?_
    refine s_ltI (fun v9 => ?_)
    refine s_istore_n hC dX5_takeNumber_34 (by decide) (lv' := [(3, vI v9), (0, vR v2), (1, vI v3), (2, vI v4)]) rfl ?_
    refine s_iload_n hC 0 dX5_takeNumber_35 rfl ?_
    refine s_if_lt hC dX5_takeNumber_36 (tgt := 45) (by decide) ?_ ?_
    · refine s_iload_n hC 2 dX5_takeNumber_45 rfl ?_
      exact s_iret hC hr hlk dX5_takeNumber_46
    refine s_iload_n hC 0 dX5_takeNumber_39 rfl ?_
    refine s_bipush hC dX5_takeNumber_40 (v := 9) (by decide) ?_
    refine s_icmp_le hC dX5_takeNumber_42 (tgt := 47) (by decide) ?_ ?_
    · refine s_iload_n hC 2 dX5_takeNumber_47 rfl ?_
      refine s_iconst hC dX5_takeNumber_48 (v := 0) (by decide) ?_
      refine s_max hC dX5_takeNumber_49 qm_X5_75 qt_Math_max qc_Math qd_Math_max (by decide) (Nat.le_of_ble_eq_true rfl) ?_
      refine s_bipush hC dX5_takeNumber_52 (v := 10) (by decide) ?_
      refine s_imul hC dX5_takeNumber_54 ?_
      refine s_iload_n hC 0 dX5_takeNumber_55 rfl ?_
      refine s_iadd hC dX5_takeNumber_56 ?_
      refine s_ltI (fun v10 => ?_)
      refine s_istore_n hC dX5_takeNumber_57 (by decide) (lv' := [(1, vI v10), (3, vI v9), (0, vR v2), (2, vI v4)]) rfl ?_
      refine s_aload_n hC 2 dX5_takeNumber_58 rfl ?_
      refine s_dupR hC dX5_takeNumber_59 ?_
      refine s_getI hC xc5 (by decide) rfl qf_X5_23 dX5_takeNumber_60 ?_
      refine s_iconst hC dX5_takeNumber_63 (v := 1) (by decide) ?_
      refine s_iadd hC dX5_takeNumber_64 ?_
      refine s_putI hC xc5 (by decide) rfl rfl qf_X5_23 dX5_takeNumber_65 ?_
      refine s_ltM (fun μ11 => ?_)
      refine s_iinc hC 3 dX5_takeNumber_68 rfl (w := 1) (by decide) (by decide) (lv' := [(2, vI (v4 + (1 : Int32))), (1, vI v10), (3, vI v9), (0, vR v2)]) rfl ?_
      refine s_goto hC dX5_takeNumber_71 (tgt := 4) (by decide) ?_
      refine s_lv (lv' := [(0, vR v2), (1, vI v10), (2, vI (v4 + (1 : Int32)))]) [3, 1, 0] rfl ?_
      exact ih _ _ _ _
    refine s_iload_n hC 2 dX5_takeNumber_45 rfl ?_
    exact s_iret hC hr hlk dX5_takeNumber_46
def f_X5_takeNumber (X : x_X) (v0 : Nat) (μ : x_M) : Option (Int32 × x_M) :=
  (f_X5_takeNumber_L4 X 4096 v0 (-1 : Int32) (0 : Int32) μ)
set_option maxRecDepth 100000 in
theorem m_X5_takeNumber (hI : x_I X) (v0 : Nat) (μ : x_M) : x_Met X x_Z0 l yX5_takeNumber cX5_takeNumber 4 (some .int) 2 [vR v0] μ rkI (f_X5_takeNumber X v0 μ) := by
  refine x_enter hI (by decide +kernel) (Nat.le_of_ble_eq_true rfl) (fun p e s m args below meth c hC hr hlk => ?_)
  unfold f_X5_takeNumber
  refine s_lv (lv' := [(0, vR v0)]) [0] rfl ?_
  refine s_iconst hC dX5_takeNumber_0 (v := -1) (by decide) ?_
  refine s_istore_n hC dX5_takeNumber_1 (by decide) (lv' := [(1, vI (-1 : Int32)), (0, vR v0)]) rfl ?_
  refine s_iconst hC dX5_takeNumber_2 (v := 0) (by decide) ?_
  refine s_istore_n hC dX5_takeNumber_3 (by decide) (lv' := [(2, vI (0 : Int32)), (1, vI (-1 : Int32)), (0, vR v0)]) rfl ?_
  refine s_lv (lv' := [(0, vR v0), (1, vI (-1 : Int32)), (2, vI (0 : Int32))]) [2, 1, 0] rfl ?_
  refine j_X5_takeNumber_L4 hI hC hr hlk 4096 _ _ _ _
theorem dX5_sameSigns_0 : decode cX5_sameSigns 0 = .ok (.iconst 0, 1) := by decide +kernel
theorem dX5_sameSigns_1 : decode cX5_sameSigns 1 = .ok (.istore_n 2, 1) := by decide +kernel
theorem dX5_sameSigns_2 : decode cX5_sameSigns 2 = .ok (.iload_n 2, 1) := by decide +kernel
theorem dX5_sameSigns_3 : decode cX5_sameSigns 3 = .ok (.aload_n 1, 1) := by decide +kernel
theorem dX5_sameSigns_4 : decode cX5_sameSigns 4 = .ok (.invokevirtual 71, 3) := by decide +kernel
theorem dX5_sameSigns_7 : decode cX5_sameSigns 7 = .ok (.if_icmp .ge 45, 3) := by decide +kernel
theorem dX5_sameSigns_10 : decode cX5_sameSigns 10 = .ok (.aload_n 0, 1) := by decide +kernel
theorem dX5_sameSigns_11 : decode cX5_sameSigns 11 = .ok (.getfield 23, 3) := by decide +kernel
theorem dX5_sameSigns_14 : decode cX5_sameSigns 14 = .ok (.iload_n 2, 1) := by decide +kernel
theorem dX5_sameSigns_15 : decode cX5_sameSigns 15 = .ok (.iadd, 1) := by decide +kernel
theorem dX5_sameSigns_16 : decode cX5_sameSigns 16 = .ok (.aload_n 0, 1) := by decide +kernel
theorem dX5_sameSigns_17 : decode cX5_sameSigns 17 = .ok (.getfield 15, 3) := by decide +kernel
theorem dX5_sameSigns_20 : decode cX5_sameSigns 20 = .ok (.if_icmp .ge 24, 3) := by decide +kernel
theorem dX5_sameSigns_23 : decode cX5_sameSigns 23 = .ok (.aload_n 0, 1) := by decide +kernel
theorem dX5_sameSigns_24 : decode cX5_sameSigns 24 = .ok (.getfield 9, 3) := by decide +kernel
theorem dX5_sameSigns_27 : decode cX5_sameSigns 27 = .ok (.aload_n 0, 1) := by decide +kernel
theorem dX5_sameSigns_28 : decode cX5_sameSigns 28 = .ok (.getfield 23, 3) := by decide +kernel
theorem dX5_sameSigns_31 : decode cX5_sameSigns 31 = .ok (.iload_n 2, 1) := by decide +kernel
theorem dX5_sameSigns_32 : decode cX5_sameSigns 32 = .ok (.iadd, 1) := by decide +kernel
theorem dX5_sameSigns_33 : decode cX5_sameSigns 33 = .ok (.invokestatic 81, 3) := by decide +kernel
theorem dX5_sameSigns_36 : decode cX5_sameSigns 36 = .ok (.aload_n 1, 1) := by decide +kernel
theorem dX5_sameSigns_37 : decode cX5_sameSigns 37 = .ok (.iload_n 2, 1) := by decide +kernel
theorem dX5_sameSigns_38 : decode cX5_sameSigns 38 = .ok (.invokevirtual 85, 3) := by decide +kernel
theorem dX5_sameSigns_41 : decode cX5_sameSigns 41 = .ok (.if_icmp .eq 5, 3) := by decide +kernel
theorem dX5_sameSigns_44 : decode cX5_sameSigns 44 = .ok (.iload_n 2, 1) := by decide +kernel
theorem dX5_sameSigns_45 : decode cX5_sameSigns 45 = .ok (.ireturn, 1) := by decide +kernel
theorem dX5_sameSigns_46 : decode cX5_sameSigns 46 = .ok (.iinc 2 1, 3) := by decide +kernel
theorem dX5_sameSigns_49 : decode cX5_sameSigns 49 = .ok (.goto (-47), 3) := by decide +kernel
theorem dX5_sameSigns_52 : decode cX5_sameSigns 52 = .ok (.aload_n 1, 1) := by decide +kernel
theorem dX5_sameSigns_53 : decode cX5_sameSigns 53 = .ok (.invokevirtual 71, 3) := by decide +kernel
theorem dX5_sameSigns_56 : decode cX5_sameSigns 56 = .ok (.ireturn, 1) := by decide +kernel
def f_X5_sameSigns_L2 (X : x_X) : Nat → Nat → Nat → Int32 → x_M → Option (Int32 × x_M)
  | 0, _, _, _, _ => none
  | n + 1, v3, v4, v5, μ6 =>
    (ck (x_kd X v4 = 50) (bd (f_J0_length_8abf5 X v4 μ6) (fun (v7 : Int32) (μ8 : x_M) => (if v7 ≤ v5 then (ck (x_kd X v4 = 50) (bd (f_J0_length_8abf5 X v4 μ8) (fun (v9 : Int32) (μ10 : x_M) => (some (v9, μ10))))) else (ck (x_kd X v3 = 5 + 1) (ck (x_kd X v3 = 5 + 1) (if (μ8.1 v3 1) ≤ ((μ8.1 v3 2) + v5) then (some (v5, μ8)) else (ck (x_kd X v3 = 5 + 1) (lt (μ8.2.1 v3 0) (fun (v11 : Nat) => (ck (x_kd X v3 = 5 + 1) (bd (f_X9_at X v11 ((μ8.1 v3 2) + v5) μ8) (fun (v12 : Int32) (μ13 : x_M) => (ck (x_kd X v4 = 50) (bd (f_J0_charAt_5068e X v4 v5 μ13) (fun (v14 : Int32) (μ15 : x_M) => (if v12 = v14 then (f_X5_sameSigns_L2 X n v3 v4 (v5 + (1 : Int32)) μ15) else (some (v5, μ15)))))))))))))))))))
set_option maxRecDepth 100000 in
theorem j_X5_sameSigns_L2 (hI : x_I X) (hC : x_C X x_Z0 p (x_rm 5) s m c cX5_sameSigns RX5 3 0 0 5) (hr : meth.sig.returnType = (some .int)) (hlk : meth.locks = false) : ∀ (n : Nat) (v3 : Nat) (v4 : Nat) (v5 : Int32) (μ6 : x_M), SM X 3 5 rkI p l e s m args below meth c 2 [(0, vR v3), (1, vR v4), (2, vI v5)] [] μ6 (f_X5_sameSigns_L2 X n v3 v4 v5 μ6) := by
  intro n
  induction n with
  | zero => intro v3 v4 v5 μ6; exact s_none
  | succ n ih =>
    intro v3 v4 v5 μ6
    unfold f_X5_sameSigns_L2
    refine s_iload_n hC 2 dX5_sameSigns_2 rfl ?_
    refine s_aload_n hC 1 dX5_sameSigns_3 rfl ?_
    refine s_callStr hC (x := v4) (avs := []) (st := [vI v5]) (nest := false) (m_J0_length_8abf5 hI v4 μ6) dX5_sameSigns_4 qm_X5_71 qi_J0_length_8abf5 qs_J0_length_8abf5 qc_J0 qd_J0_length_8abf5 qh_J0_length_8abf5 ((by decide)) (fun _ => Nat.le_of_ble_eq_true rfl) (Nat.le_of_ble_eq_true rfl) (fun v7 μ8 => ?_)
    refine s_icmp_ge hC dX5_sameSigns_7 (tgt := 52) (by decide) ?_ ?_
    · refine s_aload_n hC 1 dX5_sameSigns_52 rfl ?_
      refine s_callStr hC (x := v4) (avs := []) (st := []) (nest := false) (m_J0_length_8abf5 hI v4 μ8) dX5_sameSigns_53 qm_X5_71 qi_J0_length_8abf5 qs_J0_length_8abf5 qc_J0 qd_J0_length_8abf5 qh_J0_length_8abf5 ((by decide)) (fun _ => Nat.le_of_ble_eq_true rfl) (Nat.le_of_ble_eq_true rfl) (fun v9 μ10 => ?_)
      exact s_iret hC hr hlk dX5_sameSigns_56
    refine s_aload_n hC 0 dX5_sameSigns_10 rfl ?_
    refine s_getI hC xc5 (by decide) rfl qf_X5_23 dX5_sameSigns_11 ?_
    refine s_iload_n hC 2 dX5_sameSigns_14 rfl ?_
    refine s_iadd hC dX5_sameSigns_15 ?_
    refine s_aload_n hC 0 dX5_sameSigns_16 rfl ?_
    refine s_getI hC xc5 (by decide) rfl qf_X5_15 dX5_sameSigns_17 ?_
    refine s_icmp_ge hC dX5_sameSigns_20 (tgt := 44) (by decide) ?_ ?_
    · refine s_iload_n hC 2 dX5_sameSigns_44 rfl ?_
      exact s_iret hC hr hlk dX5_sameSigns_45
    refine s_aload_n hC 0 dX5_sameSigns_23 rfl ?_
    refine s_getR hC xc5 (by decide) rfl qf_X5_9 dX5_sameSigns_24 ?_
    refine s_ltR (fun v11 => ?_)
    refine s_aload_n hC 0 dX5_sameSigns_27 rfl ?_
    refine s_getI hC xc5 (by decide) rfl qf_X5_23 dX5_sameSigns_28 ?_
    refine s_iload_n hC 2 dX5_sameSigns_31 rfl ?_
    refine s_iadd hC dX5_sameSigns_32 ?_
    refine s_callS hC (avs := [vR v11, vI ((μ8.1 v3 2) + v5)]) (st := []) (nest := true) (m_X9_at hI v11 ((μ8.1 v3 2) + v5) μ8) dX5_sameSigns_33 qm_X5_81 qt_X9_at qc_X9 qd_X9_at qh_X9_at (by decide) (fun _ => Nat.le_of_ble_eq_true rfl) (Nat.le_of_ble_eq_true rfl) (fun v12 μ13 => ?_)
    refine s_aload_n hC 1 dX5_sameSigns_36 rfl ?_
    refine s_iload_n hC 2 dX5_sameSigns_37 rfl ?_
    refine s_callStr hC (x := v4) (avs := [vI v5]) (st := [vI v12]) (nest := false) (m_J0_charAt_5068e hI v4 v5 μ13) dX5_sameSigns_38 qm_X5_85 qi_J0_charAt_5068e qs_J0_charAt_5068e qc_J0 qd_J0_charAt_5068e qh_J0_charAt_5068e ((by decide)) (fun _ => Nat.le_of_ble_eq_true rfl) (Nat.le_of_ble_eq_true rfl) (fun v14 μ15 => ?_)
    refine s_icmp_eq hC dX5_sameSigns_41 (tgt := 46) (by decide) ?_ ?_
    · refine s_iinc hC 2 dX5_sameSigns_46 rfl (w := 1) (by decide) (by decide) (lv' := [(2, vI (v5 + (1 : Int32))), (0, vR v3), (1, vR v4)]) rfl ?_
      refine s_goto hC dX5_sameSigns_49 (tgt := 2) (by decide) ?_
      refine s_lv (lv' := [(0, vR v3), (1, vR v4), (2, vI (v5 + (1 : Int32)))]) [1, 2, 0] rfl ?_
      exact ih _ _ _ _
    refine s_iload_n hC 2 dX5_sameSigns_44 rfl ?_
    exact s_iret hC hr hlk dX5_sameSigns_45
def f_X5_sameSigns (X : x_X) (v0 : Nat) (v1 : Nat) (μ : x_M) : Option (Int32 × x_M) :=
  (f_X5_sameSigns_L2 X 4096 v0 v1 (0 : Int32) μ)
set_option maxRecDepth 100000 in
theorem m_X5_sameSigns (hI : x_I X) (v0 : Nat) (v1 : Nat) (μ : x_M) : x_Met X x_Z0 l yX5_sameSigns cX5_sameSigns 3 (some .int) 5 [vR v0, vR v1] μ rkI (f_X5_sameSigns X v0 v1 μ) := by
  refine x_enter hI (by decide +kernel) (Nat.le_of_ble_eq_true rfl) (fun p e s m args below meth c hC hr hlk => ?_)
  unfold f_X5_sameSigns
  refine s_lv (lv' := [(0, vR v0), (1, vR v1)]) [0, 1] rfl ?_
  refine s_iconst hC dX5_sameSigns_0 (v := 0) (by decide) ?_
  refine s_istore_n hC dX5_sameSigns_1 (by decide) (lv' := [(2, vI (0 : Int32)), (0, vR v0), (1, vR v1)]) rfl ?_
  refine s_lv (lv' := [(0, vR v0), (1, vR v1), (2, vI (0 : Int32))]) [1, 2, 0] rfl ?_
  refine j_X5_sameSigns_L2 hI hC hr hlk 4096 _ _ _ _
theorem dX5_takeOneOf_0 : decode cX5_takeOneOf 0 = .ok (.aload_n 0, 1) := by decide +kernel
theorem dX5_takeOneOf_1 : decode cX5_takeOneOf 1 = .ok (.getfield 23, 3) := by decide +kernel
theorem dX5_takeOneOf_4 : decode cX5_takeOneOf 4 = .ok (.aload_n 0, 1) := by decide +kernel
theorem dX5_takeOneOf_5 : decode cX5_takeOneOf 5 = .ok (.getfield 15, 3) := by decide +kernel
theorem dX5_takeOneOf_8 : decode cX5_takeOneOf 8 = .ok (.if_icmp .ge 22, 3) := by decide +kernel
theorem dX5_takeOneOf_11 : decode cX5_takeOneOf 11 = .ok (.aload_n 1, 1) := by decide +kernel
theorem dX5_takeOneOf_12 : decode cX5_takeOneOf 12 = .ok (.aload_n 0, 1) := by decide +kernel
theorem dX5_takeOneOf_13 : decode cX5_takeOneOf 13 = .ok (.getfield 9, 3) := by decide +kernel
theorem dX5_takeOneOf_16 : decode cX5_takeOneOf 16 = .ok (.aload_n 0, 1) := by decide +kernel
theorem dX5_takeOneOf_17 : decode cX5_takeOneOf 17 = .ok (.getfield 23, 3) := by decide +kernel
theorem dX5_takeOneOf_20 : decode cX5_takeOneOf 20 = .ok (.invokestatic 81, 3) := by decide +kernel
theorem dX5_takeOneOf_23 : decode cX5_takeOneOf 23 = .ok (.i2c, 1) := by decide +kernel
theorem dX5_takeOneOf_24 : decode cX5_takeOneOf 24 = .ok (.invokevirtual 110, 3) := by decide +kernel
theorem dX5_takeOneOf_27 : decode cX5_takeOneOf 27 = .ok (.goto 4, 3) := by decide +kernel
theorem dX5_takeOneOf_30 : decode cX5_takeOneOf 30 = .ok (.iconst (-1), 1) := by decide +kernel
theorem dX5_takeOneOf_31 : decode cX5_takeOneOf 31 = .ok (.istore_n 2, 1) := by decide +kernel
theorem dX5_takeOneOf_32 : decode cX5_takeOneOf 32 = .ok (.iload_n 2, 1) := by decide +kernel
theorem dX5_takeOneOf_33 : decode cX5_takeOneOf 33 = .ok (.ifCond .lt 13, 3) := by decide +kernel
theorem dX5_takeOneOf_36 : decode cX5_takeOneOf 36 = .ok (.aload_n 0, 1) := by decide +kernel
theorem dX5_takeOneOf_37 : decode cX5_takeOneOf 37 = .ok (.dup, 1) := by decide +kernel
theorem dX5_takeOneOf_38 : decode cX5_takeOneOf 38 = .ok (.getfield 23, 3) := by decide +kernel
theorem dX5_takeOneOf_41 : decode cX5_takeOneOf 41 = .ok (.iconst 1, 1) := by decide +kernel
theorem dX5_takeOneOf_42 : decode cX5_takeOneOf 42 = .ok (.iadd, 1) := by decide +kernel
theorem dX5_takeOneOf_43 : decode cX5_takeOneOf 43 = .ok (.putfield 23, 3) := by decide +kernel
theorem dX5_takeOneOf_46 : decode cX5_takeOneOf 46 = .ok (.iload_n 2, 1) := by decide +kernel
theorem dX5_takeOneOf_47 : decode cX5_takeOneOf 47 = .ok (.ireturn, 1) := by decide +kernel
def f_X5_takeOneOf (X : x_X) (v0 : Nat) (v1 : Nat) (μ : x_M) : Option (Int32 × x_M) :=
  (ck (x_kd X v0 = 5 + 1) (ck (x_kd X v0 = 5 + 1) (if (μ.1 v0 1) ≤ (μ.1 v0 2) then (if (-1 : Int32) < 0 then (some ((-1 : Int32), μ)) else (ck (x_kd X v0 = 5 + 1) (ck (x_kd X v0 = 5 + 1) (lt (x_sI μ v0 2 ((μ.1 v0 2) + (1 : Int32))) (fun (μ3 : x_M) => (some ((-1 : Int32), μ3))))))) else (ck (x_kd X v0 = 5 + 1) (lt (μ.2.1 v0 0) (fun (v4 : Nat) => (ck (x_kd X v0 = 5 + 1) (bd (f_X9_at X v4 (μ.1 v0 2) μ) (fun (v5 : Int32) (μ6 : x_M) => (ck (x_kd X v1 = 50) (bd (f_J0_indexOf_0f7a4 X v1 (((v5).toUInt32 % 65536).toInt32) μ6) (fun (v7 : Int32) (μ8 : x_M) => (if v7 < 0 then (some (v7, μ8)) else (ck (x_kd X v0 = 5 + 1) (ck (x_kd X v0 = 5 + 1) (lt (x_sI μ8 v0 2 ((μ8.1 v0 2) + (1 : Int32))) (fun (μ9 : x_M) => (some (v7, μ9)))))))))))))))))))
set_option maxRecDepth 100000 in
theorem m_X5_takeOneOf (hI : x_I X) (v0 : Nat) (v1 : Nat) (μ : x_M) : x_Met X x_Z0 l yX5_takeOneOf cX5_takeOneOf 3 (some .int) 5 [vR v0, vR v1] μ rkI (f_X5_takeOneOf X v0 v1 μ) := by
  refine x_enter hI (by decide +kernel) (Nat.le_of_ble_eq_true rfl) (fun p e s m args below meth c hC hr hlk => ?_)
  unfold f_X5_takeOneOf
  refine s_lv (lv' := [(0, vR v0), (1, vR v1)]) [0, 1] rfl ?_
  refine s_aload_n hC 0 dX5_takeOneOf_0 rfl ?_
  refine s_getI hC xc5 (by decide) rfl qf_X5_23 dX5_takeOneOf_1 ?_
  refine s_aload_n hC 0 dX5_takeOneOf_4 rfl ?_
  refine s_getI hC xc5 (by decide) rfl qf_X5_15 dX5_takeOneOf_5 ?_
  refine s_icmp_ge hC dX5_takeOneOf_8 (tgt := 30) (by decide) ?_ ?_
  · refine s_iconst hC dX5_takeOneOf_30 (v := -1) (by decide) ?_
    refine s_istore_n hC dX5_takeOneOf_31 (by decide) (lv' := [(2, vI (-1 : Int32)), (0, vR v0), (1, vR v1)]) rfl ?_
    refine s_iload_n hC 0 dX5_takeOneOf_32 rfl ?_
    refine s_if_lt hC dX5_takeOneOf_33 (tgt := 46) (by decide) ?_ ?_
    · refine s_iload_n hC 0 dX5_takeOneOf_46 rfl ?_
      exact s_iret hC hr hlk dX5_takeOneOf_47
    refine s_aload_n hC 1 dX5_takeOneOf_36 rfl ?_
    refine s_dupR hC dX5_takeOneOf_37 ?_
    refine s_getI hC xc5 (by decide) rfl qf_X5_23 dX5_takeOneOf_38 ?_
    refine s_iconst hC dX5_takeOneOf_41 (v := 1) (by decide) ?_
    refine s_iadd hC dX5_takeOneOf_42 ?_
    refine s_putI hC xc5 (by decide) rfl rfl qf_X5_23 dX5_takeOneOf_43 ?_
    refine s_ltM (fun μ3 => ?_)
    refine s_iload_n hC 0 dX5_takeOneOf_46 rfl ?_
    exact s_iret hC hr hlk dX5_takeOneOf_47
  refine s_aload_n hC 1 dX5_takeOneOf_11 rfl ?_
  refine s_aload_n hC 0 dX5_takeOneOf_12 rfl ?_
  refine s_getR hC xc5 (by decide) rfl qf_X5_9 dX5_takeOneOf_13 ?_
  refine s_ltR (fun v4 => ?_)
  refine s_aload_n hC 0 dX5_takeOneOf_16 rfl ?_
  refine s_getI hC xc5 (by decide) rfl qf_X5_23 dX5_takeOneOf_17 ?_
  refine s_callS hC (avs := [vR v4, vI (μ.1 v0 2)]) (st := [vR v1]) (nest := true) (m_X9_at hI v4 (μ.1 v0 2) μ) dX5_takeOneOf_20 qm_X5_81 qt_X9_at qc_X9 qd_X9_at qh_X9_at (by decide) (fun _ => Nat.le_of_ble_eq_true rfl) (Nat.le_of_ble_eq_true rfl) (fun v5 μ6 => ?_)
  refine s_i2c hC dX5_takeOneOf_23 ?_
  refine s_callStr hC (x := v1) (avs := [vI (((v5).toUInt32 % 65536).toInt32)]) (st := []) (nest := false) (m_J0_indexOf_0f7a4 hI v1 (((v5).toUInt32 % 65536).toInt32) μ6) dX5_takeOneOf_24 qm_X5_110 qi_J0_indexOf_0f7a4 qs_J0_indexOf_0f7a4 qc_J0 qd_J0_indexOf_0f7a4 qh_J0_indexOf_0f7a4 ((by decide)) (fun _ => Nat.le_of_ble_eq_true rfl) (Nat.le_of_ble_eq_true rfl) (fun v7 μ8 => ?_)
  refine s_goto hC dX5_takeOneOf_27 (tgt := 31) (by decide) ?_
  refine s_istore_n hC dX5_takeOneOf_31 (by decide) (lv' := [(2, vI v7), (0, vR v0), (1, vR v1)]) rfl ?_
  refine s_iload_n hC 0 dX5_takeOneOf_32 rfl ?_
  refine s_if_lt hC dX5_takeOneOf_33 (tgt := 46) (by decide) ?_ ?_
  · refine s_iload_n hC 0 dX5_takeOneOf_46 rfl ?_
    exact s_iret hC hr hlk dX5_takeOneOf_47
  refine s_aload_n hC 1 dX5_takeOneOf_36 rfl ?_
  refine s_dupR hC dX5_takeOneOf_37 ?_
  refine s_getI hC xc5 (by decide) rfl qf_X5_23 dX5_takeOneOf_38 ?_
  refine s_iconst hC dX5_takeOneOf_41 (v := 1) (by decide) ?_
  refine s_iadd hC dX5_takeOneOf_42 ?_
  refine s_putI hC xc5 (by decide) rfl rfl qf_X5_23 dX5_takeOneOf_43 ?_
  refine s_ltM (fun μ9 => ?_)
  refine s_iload_n hC 0 dX5_takeOneOf_46 rfl ?_
  exact s_iret hC hr hlk dX5_takeOneOf_47
theorem dX5_takeWord_0 : decode cX5_takeWord 0 = .ok (.iconst 0, 1) := by decide +kernel
theorem dX5_takeWord_1 : decode cX5_takeWord 1 = .ok (.istore_n 1, 1) := by decide +kernel
theorem dX5_takeWord_2 : decode cX5_takeWord 2 = .ok (.iconst 0, 1) := by decide +kernel
theorem dX5_takeWord_3 : decode cX5_takeWord 3 = .ok (.istore_n 2, 1) := by decide +kernel
theorem dX5_takeWord_4 : decode cX5_takeWord 4 = .ok (.iload_n 2, 1) := by decide +kernel
theorem dX5_takeWord_5 : decode cX5_takeWord 5 = .ok (.iconst 5, 1) := by decide +kernel
theorem dX5_takeWord_6 : decode cX5_takeWord 6 = .ok (.if_icmp .ge 50, 3) := by decide +kernel
theorem dX5_takeWord_9 : decode cX5_takeWord 9 = .ok (.iload_n 2, 1) := by decide +kernel
theorem dX5_takeWord_10 : decode cX5_takeWord 10 = .ok (.invokestatic 63, 3) := by decide +kernel
theorem dX5_takeWord_13 : decode cX5_takeWord 13 = .ok (.astore_n 3, 1) := by decide +kernel
theorem dX5_takeWord_14 : decode cX5_takeWord 14 = .ok (.aload_n 0, 1) := by decide +kernel
theorem dX5_takeWord_15 : decode cX5_takeWord 15 = .ok (.aload_n 3, 1) := by decide +kernel
theorem dX5_takeWord_16 : decode cX5_takeWord 16 = .ok (.invokevirtual 67, 3) := by decide +kernel
theorem dX5_takeWord_19 : decode cX5_takeWord 19 = .ok (.istore 4, 2) := by decide +kernel
theorem dX5_takeWord_21 : decode cX5_takeWord 21 = .ok (.iload 4, 2) := by decide +kernel
theorem dX5_takeWord_23 : decode cX5_takeWord 23 = .ok (.aload_n 3, 1) := by decide +kernel
theorem dX5_takeWord_24 : decode cX5_takeWord 24 = .ok (.invokevirtual 71, 3) := by decide +kernel
theorem dX5_takeWord_27 : decode cX5_takeWord 27 = .ok (.if_icmp .ne 16, 3) := by decide +kernel
theorem dX5_takeWord_30 : decode cX5_takeWord 30 = .ok (.aload_n 0, 1) := by decide +kernel
theorem dX5_takeWord_31 : decode cX5_takeWord 31 = .ok (.dup, 1) := by decide +kernel
theorem dX5_takeWord_32 : decode cX5_takeWord 32 = .ok (.getfield 23, 3) := by decide +kernel
theorem dX5_takeWord_35 : decode cX5_takeWord 35 = .ok (.iload 4, 2) := by decide +kernel
theorem dX5_takeWord_37 : decode cX5_takeWord 37 = .ok (.iadd, 1) := by decide +kernel
theorem dX5_takeWord_38 : decode cX5_takeWord 38 = .ok (.putfield 23, 3) := by decide +kernel
theorem dX5_takeWord_41 : decode cX5_takeWord 41 = .ok (.iload_n 2, 1) := by decide +kernel
theorem dX5_takeWord_42 : decode cX5_takeWord 42 = .ok (.ireturn, 1) := by decide +kernel
theorem dX5_takeWord_43 : decode cX5_takeWord 43 = .ok (.iload_n 1, 1) := by decide +kernel
theorem dX5_takeWord_44 : decode cX5_takeWord 44 = .ok (.iload 4, 2) := by decide +kernel
theorem dX5_takeWord_46 : decode cX5_takeWord 46 = .ok (.invokestatic 75, 3) := by decide +kernel
theorem dX5_takeWord_49 : decode cX5_takeWord 49 = .ok (.istore_n 1, 1) := by decide +kernel
theorem dX5_takeWord_50 : decode cX5_takeWord 50 = .ok (.iinc 2 1, 3) := by decide +kernel
theorem dX5_takeWord_53 : decode cX5_takeWord 53 = .ok (.goto (-49), 3) := by decide +kernel
theorem dX5_takeWord_56 : decode cX5_takeWord 56 = .ok (.aload_n 0, 1) := by decide +kernel
theorem dX5_takeWord_57 : decode cX5_takeWord 57 = .ok (.dup, 1) := by decide +kernel
theorem dX5_takeWord_58 : decode cX5_takeWord 58 = .ok (.getfield 23, 3) := by decide +kernel
theorem dX5_takeWord_61 : decode cX5_takeWord 61 = .ok (.iload_n 1, 1) := by decide +kernel
theorem dX5_takeWord_62 : decode cX5_takeWord 62 = .ok (.iadd, 1) := by decide +kernel
theorem dX5_takeWord_63 : decode cX5_takeWord 63 = .ok (.putfield 23, 3) := by decide +kernel
theorem dX5_takeWord_66 : decode cX5_takeWord 66 = .ok (.iconst (-1), 1) := by decide +kernel
theorem dX5_takeWord_67 : decode cX5_takeWord 67 = .ok (.ireturn, 1) := by decide +kernel
def f_X5_takeWord_L4 (X : x_X) (k56 : Nat → Int32 → x_M → Option (Int32 × x_M)) (k30 : Nat → Int32 → Int32 → x_M → Option (Int32 × x_M)) : Nat → Nat → Int32 → Int32 → x_M → Option (Int32 × x_M)
  | 0, _, _, _, _ => none
  | n + 1, v2, v3, v4, μ5 =>
    (if (5 : Int32) ≤ v4 then (k56 v2 v3 μ5) else (bd (f_X5_wordOf X v4 μ5) (fun (v6 : Nat) (μ7 : x_M) => (ck (x_kd X v2 = 5 + 1) (bd (f_X5_sameSigns X v2 v6 μ7) (fun (v8 : Int32) (μ9 : x_M) => (ck (x_kd X v6 = 50) (bd (f_J0_length_8abf5 X v6 μ9) (fun (v10 : Int32) (μ11 : x_M) => (if v8 = v10 then (k30 v2 v4 v8 μ11) else (lt (if v3 < v8 then v8 else v3) (fun (v12 : Int32) => (f_X5_takeWord_L4 X k56 k30 n v2 v12 (v4 + (1 : Int32)) μ11)))))))))))))
set_option maxRecDepth 100000 in
theorem j_X5_takeWord_L4 (hI : x_I X) (hC : x_C X x_Z0 p (x_rm 6) s m c cX5_takeWord RX5 5 0 0 6) (hr : meth.sig.returnType = (some .int)) (hlk : meth.locks = false) {k56 : Nat → Int32 → x_M → Option (Int32 × x_M)} (hk56 : ∀ (b0 : Nat) (b1 : Int32) (μ : x_M), SM X 5 6 rkI p l e s m args below meth c 56 [(0, vR b0), (1, vI b1)] [] μ (k56 b0 b1 μ)) {k30 : Nat → Int32 → Int32 → x_M → Option (Int32 × x_M)} (hk30 : ∀ (b0 : Nat) (b2 : Int32) (b4 : Int32) (μ : x_M), SM X 5 6 rkI p l e s m args below meth c 30 [(0, vR b0), (2, vI b2), (4, vI b4)] [] μ (k30 b0 b2 b4 μ)) : ∀ (n : Nat) (v2 : Nat) (v3 : Int32) (v4 : Int32) (μ5 : x_M), SM X 5 6 rkI p l e s m args below meth c 4 [(0, vR v2), (1, vI v3), (2, vI v4)] [] μ5 (f_X5_takeWord_L4 X k56 k30 n v2 v3 v4 μ5) := by
  intro n
  induction n with
  | zero => intro v2 v3 v4 μ5; exact s_none
  | succ n ih =>
    intro v2 v3 v4 μ5
    unfold f_X5_takeWord_L4
    refine s_iload_n hC 2 dX5_takeWord_4 rfl ?_
    refine s_iconst hC dX5_takeWord_5 (v := 5) (by decide) ?_
    refine s_icmp_ge hC dX5_takeWord_6 (tgt := 56) (by decide) ?_ ?_
    · refine s_lv (lv' := [(0, vR v2), (1, vI v3)]) [0, 1] rfl ?_
      exact hk56 _ _ _
    refine s_iload_n hC 2 dX5_takeWord_9 rfl ?_
    refine s_callS hC (avs := [vI v4]) (st := []) (nest := false) (m_X5_wordOf hI v4 μ5) dX5_takeWord_10 qm_X5_63 qt_X5_wordOf qc_X5 qd_X5_wordOf qh_X5_wordOf (by decide) (fun _ => Nat.le_of_ble_eq_true rfl) (Nat.le_of_ble_eq_true rfl) (fun v6 μ7 => ?_)
    refine s_astore_n hC dX5_takeWord_13 (by decide) (lv' := [(3, vR v6), (0, vR v2), (1, vI v3), (2, vI v4)]) rfl ?_
    refine s_aload_n hC 1 dX5_takeWord_14 rfl ?_
    refine s_aload_n hC 0 dX5_takeWord_15 rfl ?_
    refine s_callV hC (x := v2) (avs := [vR v6]) (st := []) (nest := false) xc5 (m_X5_sameSigns hI v2 v6 μ7) dX5_takeWord_16 qm_X5_67 qi_X5_sameSigns qs_X5_sameSigns qc_X5 qd_X5_sameSigns qh_X5_sameSigns (by decide) (fun _ => Nat.le_of_ble_eq_true rfl) (Nat.le_of_ble_eq_true rfl) (fun v8 μ9 => ?_)
    refine s_istore hC dX5_takeWord_19 (by decide) (lv' := [(4, vI v8), (3, vR v6), (0, vR v2), (1, vI v3), (2, vI v4)]) rfl ?_
    refine s_iload hC 0 dX5_takeWord_21 rfl ?_
    refine s_aload_n hC 1 dX5_takeWord_23 rfl ?_
    refine s_callStr hC (x := v6) (avs := []) (st := [vI v8]) (nest := false) (m_J0_length_8abf5 hI v6 μ9) dX5_takeWord_24 qm_X5_71 qi_J0_length_8abf5 qs_J0_length_8abf5 qc_J0 qd_J0_length_8abf5 qh_J0_length_8abf5 ((by decide)) (fun _ => Nat.le_of_ble_eq_true rfl) (Nat.le_of_ble_eq_true rfl) (fun v10 μ11 => ?_)
    refine s_icmp_ne hC dX5_takeWord_27 (tgt := 43) (by decide) ?_ ?_
    · refine s_iload_n hC 3 dX5_takeWord_43 rfl ?_
      refine s_iload hC 0 dX5_takeWord_44 rfl ?_
      refine s_max hC dX5_takeWord_46 qm_X5_75 qt_Math_max qc_Math qd_Math_max (by decide) (Nat.le_of_ble_eq_true rfl) ?_
      refine s_ltI (fun v12 => ?_)
      refine s_istore_n hC dX5_takeWord_49 (by decide) (lv' := [(1, vI v12), (4, vI v8), (3, vR v6), (0, vR v2), (2, vI v4)]) rfl ?_
      refine s_iinc hC 4 dX5_takeWord_50 rfl (w := 1) (by decide) (by decide) (lv' := [(2, vI (v4 + (1 : Int32))), (1, vI v12), (4, vI v8), (3, vR v6), (0, vR v2)]) rfl ?_
      refine s_goto hC dX5_takeWord_53 (tgt := 4) (by decide) ?_
      refine s_lv (lv' := [(0, vR v2), (1, vI v12), (2, vI (v4 + (1 : Int32)))]) [4, 1, 0] rfl ?_
      exact ih _ _ _ _
    refine s_lv (lv' := [(0, vR v2), (2, vI v4), (4, vI v8)]) [2, 4, 0] rfl ?_
    exact hk30 _ _ _ _
def f_X5_takeWord (X : x_X) (v0 : Nat) (μ : x_M) : Option (Int32 × x_M) :=
  (f_X5_takeWord_L4 X (fun (v13 : Nat) (v14 : Int32) (μ15 : x_M) => (ck (x_kd X v13 = 5 + 1) (ck (x_kd X v13 = 5 + 1) (lt (x_sI μ15 v13 2 ((μ15.1 v13 2) + v14)) (fun (μ16 : x_M) => (some ((-1 : Int32), μ16))))))) (fun (v17 : Nat) (v18 : Int32) (v19 : Int32) (μ20 : x_M) => (ck (x_kd X v17 = 5 + 1) (ck (x_kd X v17 = 5 + 1) (lt (x_sI μ20 v17 2 ((μ20.1 v17 2) + v19)) (fun (μ21 : x_M) => (some (v18, μ21))))))) 4096 v0 (0 : Int32) (0 : Int32) μ)
set_option maxRecDepth 100000 in
theorem m_X5_takeWord (hI : x_I X) (v0 : Nat) (μ : x_M) : x_Met X x_Z0 l yX5_takeWord cX5_takeWord 5 (some .int) 6 [vR v0] μ rkI (f_X5_takeWord X v0 μ) := by
  refine x_enter hI (by decide +kernel) (Nat.le_of_ble_eq_true rfl) (fun p e s m args below meth c hC hr hlk => ?_)
  unfold f_X5_takeWord
  refine s_lv (lv' := [(0, vR v0)]) [0] rfl ?_
  refine s_iconst hC dX5_takeWord_0 (v := 0) (by decide) ?_
  refine s_istore_n hC dX5_takeWord_1 (by decide) (lv' := [(1, vI (0 : Int32)), (0, vR v0)]) rfl ?_
  refine s_iconst hC dX5_takeWord_2 (v := 0) (by decide) ?_
  refine s_istore_n hC dX5_takeWord_3 (by decide) (lv' := [(2, vI (0 : Int32)), (1, vI (0 : Int32)), (0, vR v0)]) rfl ?_
  refine s_lv (lv' := [(0, vR v0), (1, vI (0 : Int32)), (2, vI (0 : Int32))]) [2, 1, 0] rfl ?_
  refine j_X5_takeWord_L4 hI hC hr hlk (fun v13 v14 μ15 => ?_) (fun v17 v18 v19 μ20 => ?_) 4096 _ _ _ _
  · refine s_aload_n hC 0 dX5_takeWord_56 rfl ?_
    refine s_dupR hC dX5_takeWord_57 ?_
    refine s_getI hC xc5 (by decide) rfl qf_X5_23 dX5_takeWord_58 ?_
    refine s_iload_n hC 1 dX5_takeWord_61 rfl ?_
    refine s_iadd hC dX5_takeWord_62 ?_
    refine s_putI hC xc5 (by decide) rfl rfl qf_X5_23 dX5_takeWord_63 ?_
    refine s_ltM (fun μ16 => ?_)
    refine s_iconst hC dX5_takeWord_66 (v := -1) (by decide) ?_
    exact s_iret hC hr hlk dX5_takeWord_67
  refine s_aload_n hC 0 dX5_takeWord_30 rfl ?_
  refine s_dupR hC dX5_takeWord_31 ?_
  refine s_getI hC xc5 (by decide) rfl qf_X5_23 dX5_takeWord_32 ?_
  refine s_iload hC 2 dX5_takeWord_35 rfl ?_
  refine s_iadd hC dX5_takeWord_37 ?_
  refine s_putI hC xc5 (by decide) rfl rfl qf_X5_23 dX5_takeWord_38 ?_
  refine s_ltM (fun μ21 => ?_)
  refine s_iload_n hC 1 dX5_takeWord_41 rfl ?_
  exact s_iret hC hr hlk dX5_takeWord_42
theorem dX5_takeTest_0 : decode cX5_takeTest 0 = .ok (.aload_n 0, 1) := by decide +kernel
theorem dX5_takeTest_1 : decode cX5_takeTest 1 = .ok (.ldc 103, 2) := by decide +kernel
theorem dX5_takeTest_3 : decode cX5_takeTest 3 = .ok (.invokevirtual 105, 3) := by decide +kernel
theorem dX5_takeTest_6 : decode cX5_takeTest 6 = .ok (.istore_n 2, 1) := by decide +kernel
theorem dX5_takeTest_7 : decode cX5_takeTest 7 = .ok (.iload_n 2, 1) := by decide +kernel
theorem dX5_takeTest_8 : decode cX5_takeTest 8 = .ok (.ifCond .lt 12, 3) := by decide +kernel
theorem dX5_takeTest_11 : decode cX5_takeTest 11 = .ok (.aload_n 0, 1) := by decide +kernel
theorem dX5_takeTest_12 : decode cX5_takeTest 12 = .ok (.ldc 108, 2) := by decide +kernel
theorem dX5_takeTest_14 : decode cX5_takeTest 14 = .ok (.invokevirtual 105, 3) := by decide +kernel
theorem dX5_takeTest_17 : decode cX5_takeTest 17 = .ok (.goto 4, 3) := by decide +kernel
theorem dX5_takeTest_20 : decode cX5_takeTest 20 = .ok (.iconst (-1), 1) := by decide +kernel
theorem dX5_takeTest_21 : decode cX5_takeTest 21 = .ok (.istore_n 3, 1) := by decide +kernel
theorem dX5_takeTest_22 : decode cX5_takeTest 22 = .ok (.iload_n 3, 1) := by decide +kernel
theorem dX5_takeTest_23 : decode cX5_takeTest 23 = .ok (.ifCond .lt 10, 3) := by decide +kernel
theorem dX5_takeTest_26 : decode cX5_takeTest 26 = .ok (.aload_n 0, 1) := by decide +kernel
theorem dX5_takeTest_27 : decode cX5_takeTest 27 = .ok (.invokevirtual 39, 3) := by decide +kernel
theorem dX5_takeTest_30 : decode cX5_takeTest 30 = .ok (.goto 4, 3) := by decide +kernel
theorem dX5_takeTest_33 : decode cX5_takeTest 33 = .ok (.iconst (-1), 1) := by decide +kernel
theorem dX5_takeTest_34 : decode cX5_takeTest 34 = .ok (.istore 4, 2) := by decide +kernel
theorem dX5_takeTest_36 : decode cX5_takeTest 36 = .ok (.iload 4, 2) := by decide +kernel
theorem dX5_takeTest_38 : decode cX5_takeTest 38 = .ok (.ifCond .ge 5, 3) := by decide +kernel
theorem dX5_takeTest_41 : decode cX5_takeTest 41 = .ok (.iconst 0, 1) := by decide +kernel
theorem dX5_takeTest_42 : decode cX5_takeTest 42 = .ok (.ireturn, 1) := by decide +kernel
theorem dX5_takeTest_43 : decode cX5_takeTest 43 = .ok (.aload_n 1, 1) := by decide +kernel
theorem dX5_takeTest_44 : decode cX5_takeTest 44 = .ok (.iload_n 2, 1) := by decide +kernel
theorem dX5_takeTest_45 : decode cX5_takeTest 45 = .ok (.iconst 3, 1) := by decide +kernel
theorem dX5_takeTest_46 : decode cX5_takeTest 46 = .ok (.imul, 1) := by decide +kernel
theorem dX5_takeTest_47 : decode cX5_takeTest 47 = .ok (.iload_n 3, 1) := by decide +kernel
theorem dX5_takeTest_48 : decode cX5_takeTest 48 = .ok (.iadd, 1) := by decide +kernel
theorem dX5_takeTest_49 : decode cX5_takeTest 49 = .ok (.bipush 100, 2) := by decide +kernel
theorem dX5_takeTest_51 : decode cX5_takeTest 51 = .ok (.imul, 1) := by decide +kernel
theorem dX5_takeTest_52 : decode cX5_takeTest 52 = .ok (.iload 4, 2) := by decide +kernel
theorem dX5_takeTest_54 : decode cX5_takeTest 54 = .ok (.iadd, 1) := by decide +kernel
theorem dX5_takeTest_55 : decode cX5_takeTest 55 = .ok (.invokevirtual 92, 3) := by decide +kernel
theorem dX5_takeTest_58 : decode cX5_takeTest 58 = .ok (.iconst 1, 1) := by decide +kernel
theorem dX5_takeTest_59 : decode cX5_takeTest 59 = .ok (.ireturn, 1) := by decide +kernel
def f_X5_takeTest_J34 (X : x_X) (v10 : Nat) (v11 : Int32) (v12 : Int32) (v13 : Int32) (μ14 : x_M) : Option (Int32 × x_M) :=
  (if 0 ≤ v13 then (ck (x_kd X v10 = 4 + 1) (bd (f_X4_put X v10 ((((v11 * (3 : Int32)) + v12) * (100 : Int32)) + v13) μ14) (fun (_ : Unit) (μ15 : x_M) => (ck ((1 : Int32) = 0 ∨ (1 : Int32) = 1) (some ((1 : Int32), μ15)))))) else (ck ((0 : Int32) = 0 ∨ (0 : Int32) = 1) (some ((0 : Int32), μ14))))
set_option maxRecDepth 100000 in
theorem j_X5_takeTest_J34 (hI : x_I X) (hC : x_C X x_Z0 p (x_rm 6) s m c cX5_takeTest RX5 5 0 0 6) (hr : meth.sig.returnType = (some .boolean)) (hlk : meth.locks = false) (v10 : Nat) (v11 : Int32) (v12 : Int32) (v13 : Int32) (μ14 : x_M) : SM X 5 6 rkI p l e s m args below meth c 34 [(1, vR v10), (2, vI v11), (3, vI v12)] [vI v13] μ14 (f_X5_takeTest_J34 X v10 v11 v12 v13 μ14) := by
  unfold f_X5_takeTest_J34
  refine s_istore hC dX5_takeTest_34 (by decide) (lv' := [(4, vI v13), (1, vR v10), (2, vI v11), (3, vI v12)]) rfl ?_
  refine s_iload hC 0 dX5_takeTest_36 rfl ?_
  refine s_if_ge hC dX5_takeTest_38 (tgt := 43) (by decide) ?_ ?_
  · refine s_aload_n hC 1 dX5_takeTest_43 rfl ?_
    refine s_iload_n hC 2 dX5_takeTest_44 rfl ?_
    refine s_iconst hC dX5_takeTest_45 (v := 3) (by decide) ?_
    refine s_imul hC dX5_takeTest_46 ?_
    refine s_iload_n hC 3 dX5_takeTest_47 rfl ?_
    refine s_iadd hC dX5_takeTest_48 ?_
    refine s_bipush hC dX5_takeTest_49 (v := 100) (by decide) ?_
    refine s_imul hC dX5_takeTest_51 ?_
    refine s_iload hC 0 dX5_takeTest_52 rfl ?_
    refine s_iadd hC dX5_takeTest_54 ?_
    refine s_callV hC (x := v10) (avs := [vI ((((v11 * (3 : Int32)) + v12) * (100 : Int32)) + v13)]) (st := []) (nest := false) xc4 (m_X4_put hI v10 ((((v11 * (3 : Int32)) + v12) * (100 : Int32)) + v13) μ14) dX5_takeTest_55 qm_X5_92 qi_X4_put qs_X4_put qc_X4 qd_X4_put qh_X4_put (by decide) (fun _ => Nat.le_of_ble_eq_true rfl) (Nat.le_of_ble_eq_true rfl) (fun _ μ15 => ?_)
    refine s_iconst hC dX5_takeTest_58 (v := 1) (by decide) ?_
    exact s_zret hC hr hlk dX5_takeTest_59
  refine s_iconst hC dX5_takeTest_41 (v := 0) (by decide) ?_
  exact s_zret hC hr hlk dX5_takeTest_42
def f_X5_takeTest_J21 (X : x_X) (v5 : Nat) (v6 : Nat) (v7 : Int32) (v8 : Int32) (μ9 : x_M) : Option (Int32 × x_M) :=
  (if v8 < 0 then (f_X5_takeTest_J34 X v6 v7 v8 (-1 : Int32) μ9) else (ck (x_kd X v5 = 5 + 1) (bd (f_X5_takeNumber X v5 μ9) (fun (v16 : Int32) (μ17 : x_M) => (f_X5_takeTest_J34 X v6 v7 v8 v16 μ17)))))
set_option maxRecDepth 100000 in
theorem j_X5_takeTest_J21 (hI : x_I X) (hC : x_C X x_Z0 p (x_rm 6) s m c cX5_takeTest RX5 5 0 0 6) (hr : meth.sig.returnType = (some .boolean)) (hlk : meth.locks = false) (v5 : Nat) (v6 : Nat) (v7 : Int32) (v8 : Int32) (μ9 : x_M) : SM X 5 6 rkI p l e s m args below meth c 21 [(0, vR v5), (1, vR v6), (2, vI v7)] [vI v8] μ9 (f_X5_takeTest_J21 X v5 v6 v7 v8 μ9) := by
  unfold f_X5_takeTest_J21
  refine s_istore_n hC dX5_takeTest_21 (by decide) (lv' := [(3, vI v8), (0, vR v5), (1, vR v6), (2, vI v7)]) rfl ?_
  refine s_iload_n hC 0 dX5_takeTest_22 rfl ?_
  refine s_if_lt hC dX5_takeTest_23 (tgt := 33) (by decide) ?_ ?_
  · refine s_iconst hC dX5_takeTest_33 (v := -1) (by decide) ?_
    refine s_lv (lv' := [(1, vR v6), (2, vI v7), (3, vI v8)]) [2, 3, 0] rfl ?_
    exact j_X5_takeTest_J34 hI hC hr hlk _ _ _ _ _
  refine s_aload_n hC 1 dX5_takeTest_26 rfl ?_
  refine s_callV hC (x := v5) (avs := []) (st := []) (nest := false) xc5 (m_X5_takeNumber hI v5 μ9) dX5_takeTest_27 qm_X5_39 qi_X5_takeNumber qs_X5_takeNumber qc_X5 qd_X5_takeNumber qh_X5_takeNumber (by decide) (fun _ => Nat.le_of_ble_eq_true rfl) (Nat.le_of_ble_eq_true rfl) (fun v16 μ17 => ?_)
  refine s_goto hC dX5_takeTest_30 (tgt := 34) (by decide) ?_
  refine s_lv (lv' := [(1, vR v6), (2, vI v7), (3, vI v8)]) [2, 3, 0] rfl ?_
  exact j_X5_takeTest_J34 hI hC hr hlk _ _ _ _ _
def f_X5_takeTest (X : x_X) (v0 : Nat) (v1 : Nat) (μ : x_M) : Option (Int32 × x_M) :=
  (ck (x_kd X v0 = 5 + 1) (bd (f_X5_takeOneOf X v0 816 μ) (fun (v3 : Int32) (μ4 : x_M) => (if v3 < 0 then (f_X5_takeTest_J21 X v0 v1 v3 (-1 : Int32) μ4) else (ck (x_kd X v0 = 5 + 1) (bd (f_X5_takeOneOf X v0 817 μ4) (fun (v18 : Int32) (μ19 : x_M) => (f_X5_takeTest_J21 X v0 v1 v3 v18 μ19))))))))
set_option maxRecDepth 100000 in
theorem m_X5_takeTest (hI : x_I X) (v0 : Nat) (v1 : Nat) (μ : x_M) : x_Met X x_Z0 l yX5_takeTest cX5_takeTest 5 (some .boolean) 6 [vR v0, vR v1] μ rkI (f_X5_takeTest X v0 v1 μ) := by
  refine x_enter hI (by decide +kernel) (Nat.le_of_ble_eq_true rfl) (fun p e s m args below meth c hC hr hlk => ?_)
  unfold f_X5_takeTest
  refine s_lv (lv' := [(0, vR v0), (1, vR v1)]) [0, 1] rfl ?_
  refine s_aload_n hC 0 dX5_takeTest_0 rfl ?_
  refine s_ldcS hC dX5_takeTest_1 (id := 816) (List.mem_of_getElem? (i := 5) rfl) (by decide) ?_
  refine s_callV hC (x := v0) (avs := [vR 816]) (st := []) (nest := false) xc5 (m_X5_takeOneOf hI v0 816 μ) dX5_takeTest_3 qm_X5_105 qi_X5_takeOneOf qs_X5_takeOneOf qc_X5 qd_X5_takeOneOf qh_X5_takeOneOf (by decide) (fun _ => Nat.le_of_ble_eq_true rfl) (Nat.le_of_ble_eq_true rfl) (fun v3 μ4 => ?_)
  refine s_istore_n hC dX5_takeTest_6 (by decide) (lv' := [(2, vI v3), (0, vR v0), (1, vR v1)]) rfl ?_
  refine s_iload_n hC 0 dX5_takeTest_7 rfl ?_
  refine s_if_lt hC dX5_takeTest_8 (tgt := 20) (by decide) ?_ ?_
  · refine s_iconst hC dX5_takeTest_20 (v := -1) (by decide) ?_
    refine s_lv (lv' := [(0, vR v0), (1, vR v1), (2, vI v3)]) [1, 2, 0] rfl ?_
    exact j_X5_takeTest_J21 hI hC hr hlk _ _ _ _ _
  refine s_aload_n hC 1 dX5_takeTest_11 rfl ?_
  refine s_ldcS hC dX5_takeTest_12 (id := 817) (List.mem_of_getElem? (i := 6) rfl) (by decide) ?_
  refine s_callV hC (x := v0) (avs := [vR 817]) (st := []) (nest := false) xc5 (m_X5_takeOneOf hI v0 817 μ4) dX5_takeTest_14 qm_X5_105 qi_X5_takeOneOf qs_X5_takeOneOf qc_X5 qd_X5_takeOneOf qh_X5_takeOneOf (by decide) (fun _ => Nat.le_of_ble_eq_true rfl) (Nat.le_of_ble_eq_true rfl) (fun v18 μ19 => ?_)
  refine s_goto hC dX5_takeTest_17 (tgt := 21) (by decide) ?_
  refine s_lv (lv' := [(0, vR v0), (1, vR v1), (2, vI v3)]) [1, 2, 0] rfl ?_
  exact j_X5_takeTest_J21 hI hC hr hlk _ _ _ _ _
section G_X5_takeEither
variable {lev : Nat} {zc : Nat → Nat → Nat → Int32 → x_M → Option (Int32 × x_M)}
theorem dX5_takeEither_0 : decode cX5_takeEither 0 = .ok (.aload_n 0, 1) := by decide +kernel
theorem dX5_takeEither_1 : decode cX5_takeEither 1 = .ok (.aload_n 1, 1) := by decide +kernel
theorem dX5_takeEither_2 : decode cX5_takeEither 2 = .ok (.iload_n 2, 1) := by decide +kernel
theorem dX5_takeEither_3 : decode cX5_takeEither 3 = .ok (.invokevirtual 89, 3) := by decide +kernel
theorem dX5_takeEither_6 : decode cX5_takeEither 6 = .ok (.ifCond .ne 5, 3) := by decide +kernel
theorem dX5_takeEither_9 : decode cX5_takeEither 9 = .ok (.iconst 0, 1) := by decide +kernel
theorem dX5_takeEither_10 : decode cX5_takeEither 10 = .ok (.ireturn, 1) := by decide +kernel
theorem dX5_takeEither_11 : decode cX5_takeEither 11 = .ok (.iconst 0, 1) := by decide +kernel
theorem dX5_takeEither_12 : decode cX5_takeEither 12 = .ok (.istore_n 3, 1) := by decide +kernel
theorem dX5_takeEither_13 : decode cX5_takeEither 13 = .ok (.iload_n 3, 1) := by decide +kernel
theorem dX5_takeEither_14 : decode cX5_takeEither 14 = .ok (.bipush 100, 2) := by decide +kernel
theorem dX5_takeEither_16 : decode cX5_takeEither 16 = .ok (.if_icmp .ge 35, 3) := by decide +kernel
theorem dX5_takeEither_19 : decode cX5_takeEither 19 = .ok (.aload_n 0, 1) := by decide +kernel
theorem dX5_takeEither_20 : decode cX5_takeEither 20 = .ok (.bipush 124, 2) := by decide +kernel
theorem dX5_takeEither_22 : decode cX5_takeEither 22 = .ok (.invokevirtual 31, 3) := by decide +kernel
theorem dX5_takeEither_25 : decode cX5_takeEither 25 = .ok (.ifCond .eq 26, 3) := by decide +kernel
theorem dX5_takeEither_28 : decode cX5_takeEither 28 = .ok (.aload_n 0, 1) := by decide +kernel
theorem dX5_takeEither_29 : decode cX5_takeEither 29 = .ok (.aload_n 1, 1) := by decide +kernel
theorem dX5_takeEither_30 : decode cX5_takeEither 30 = .ok (.iload_n 2, 1) := by decide +kernel
theorem dX5_takeEither_31 : decode cX5_takeEither 31 = .ok (.invokevirtual 89, 3) := by decide +kernel
theorem dX5_takeEither_34 : decode cX5_takeEither 34 = .ok (.ifCond .ne 5, 3) := by decide +kernel
theorem dX5_takeEither_37 : decode cX5_takeEither 37 = .ok (.iconst 0, 1) := by decide +kernel
theorem dX5_takeEither_38 : decode cX5_takeEither 38 = .ok (.ireturn, 1) := by decide +kernel
theorem dX5_takeEither_39 : decode cX5_takeEither 39 = .ok (.aload_n 1, 1) := by decide +kernel
theorem dX5_takeEither_40 : decode cX5_takeEither 40 = .ok (.bipush (-3), 2) := by decide +kernel
theorem dX5_takeEither_42 : decode cX5_takeEither 42 = .ok (.invokevirtual 92, 3) := by decide +kernel
theorem dX5_takeEither_45 : decode cX5_takeEither 45 = .ok (.iinc 3 1, 3) := by decide +kernel
theorem dX5_takeEither_48 : decode cX5_takeEither 48 = .ok (.goto (-35), 3) := by decide +kernel
theorem dX5_takeEither_51 : decode cX5_takeEither 51 = .ok (.iconst 1, 1) := by decide +kernel
theorem dX5_takeEither_52 : decode cX5_takeEither 52 = .ok (.ireturn, 1) := by decide +kernel
def f_X5_takeEither_B_L13 (X : x_X) (zc : Nat → Nat → Nat → Int32 → x_M → Option (Int32 × x_M)) : Nat → Nat → Nat → Int32 → Int32 → x_M → Option (Int32 × x_M)
  | 0, _, _, _, _, _ => none
  | n + 1, v6, v7, v8, v9, μ10 =>
    (if (100 : Int32) ≤ v9 then (ck ((1 : Int32) = 0 ∨ (1 : Int32) = 1) (some ((1 : Int32), μ10))) else (ck (x_kd X v6 = 5 + 1) (bd (f_X5_take X v6 (124 : Int32) μ10) (fun (v11 : Int32) (μ12 : x_M) => (if v11 = 0 then (ck ((1 : Int32) = 0 ∨ (1 : Int32) = 1) (some ((1 : Int32), μ12))) else (ck (x_kd X v6 = 5 + 1) (bd (zc 1 v6 v7 v8 μ12) (fun (v13 : Int32) (μ14 : x_M) => (if v13 = 0 then (ck ((0 : Int32) = 0 ∨ (0 : Int32) = 1) (some ((0 : Int32), μ14))) else (ck (x_kd X v7 = 4 + 1) (bd (f_X4_put X v7 (-3 : Int32) μ14) (fun (_ : Unit) (μ15 : x_M) => (f_X5_takeEither_B_L13 X zc n v6 v7 v8 (v9 + (1 : Int32)) μ15)))))))))))))
set_option maxRecDepth 100000 in
theorem j_X5_takeEither_B_L13 (hI : x_I X) (hC : x_C X x_Z0 p (x_rm (lev + 1)) s m c cX5_takeEither RX5 4 0 0 (lev + 1)) (hr : meth.sig.returnType = (some .boolean)) (hlk : meth.locks = false) (hlev : 6 ≤ lev) (hz : (∀ (v0 : Nat) (v1 : Nat) (v2 : Int32) (μ : x_M), x_Met X x_Z0 l yX5_takeEither cX5_takeEither 4 (some .boolean) lev [vR v0, vR v1, vI v2] μ rkI (zc 0 v0 v1 v2 μ)) ∧ (∀ (v0 : Nat) (v1 : Nat) (v2 : Int32) (μ : x_M), x_Met X x_Z0 l yX5_takeBoth cX5_takeBoth 4 (some .boolean) lev [vR v0, vR v1, vI v2] μ rkI (zc 1 v0 v1 v2 μ)) ∧ (∀ (v0 : Nat) (v1 : Nat) (v2 : Int32) (μ : x_M), x_Met X x_Z0 l yX5_takeFactor cX5_takeFactor 3 (some .boolean) lev [vR v0, vR v1, vI v2] μ rkI (zc 2 v0 v1 v2 μ))) : ∀ (n : Nat) (v6 : Nat) (v7 : Nat) (v8 : Int32) (v9 : Int32) (μ10 : x_M), SM X 4 (lev + 1) rkI p l e s m args below meth c 13 [(0, vR v6), (1, vR v7), (2, vI v8), (3, vI v9)] [] μ10 (f_X5_takeEither_B_L13 X zc n v6 v7 v8 v9 μ10) := by
  intro n
  induction n with
  | zero => intro v6 v7 v8 v9 μ10; exact s_none
  | succ n ih =>
    intro v6 v7 v8 v9 μ10
    unfold f_X5_takeEither_B_L13
    refine s_iload_n hC 3 dX5_takeEither_13 rfl ?_
    refine s_bipush hC dX5_takeEither_14 (v := 100) (by decide) ?_
    refine s_icmp_ge hC dX5_takeEither_16 (tgt := 51) (by decide) ?_ ?_
    · refine s_iconst hC dX5_takeEither_51 (v := 1) (by decide) ?_
      exact s_zret hC hr hlk dX5_takeEither_52
    refine s_aload_n hC 0 dX5_takeEither_19 rfl ?_
    refine s_bipush hC dX5_takeEither_20 (v := 124) (by decide) ?_
    refine s_callV hC (x := v6) (avs := [vI (124 : Int32)]) (st := []) (nest := false) xc5 (m_X5_take hI v6 (124 : Int32) μ10) dX5_takeEither_22 qm_X5_31 qi_X5_take qs_X5_take qc_X5 qd_X5_take qh_X5_take (by omega) (fun _ => Nat.le_of_ble_eq_true rfl) (Nat.le_of_ble_eq_true rfl) (fun v11 μ12 => ?_)
    refine s_if_eq hC dX5_takeEither_25 (tgt := 51) (by decide) ?_ ?_
    · refine s_iconst hC dX5_takeEither_51 (v := 1) (by decide) ?_
      exact s_zret hC hr hlk dX5_takeEither_52
    refine s_aload_n hC 0 dX5_takeEither_28 rfl ?_
    refine s_aload_n hC 1 dX5_takeEither_29 rfl ?_
    refine s_iload_n hC 2 dX5_takeEither_30 rfl ?_
    refine s_callV hC (x := v6) (avs := [vR v7, vI v8]) (st := []) (nest := false) xc5 (hz.2.1 v6 v7 v8 μ12) dX5_takeEither_31 qm_X5_89 qi_X5_takeBoth qs_X5_takeBoth qc_X5 qd_X5_takeBoth qh_X5_takeBoth (by omega) (fun _ => Nat.le_of_ble_eq_true rfl) (Nat.le_of_ble_eq_true rfl) (fun v13 μ14 => ?_)
    refine s_if_ne hC dX5_takeEither_34 (tgt := 39) (by decide) ?_ ?_
    · refine s_aload_n hC 1 dX5_takeEither_39 rfl ?_
      refine s_bipush hC dX5_takeEither_40 (v := -3) (by decide) ?_
      refine s_callV hC (x := v7) (avs := [vI (-3 : Int32)]) (st := []) (nest := false) xc4 (m_X4_put hI v7 (-3 : Int32) μ14) dX5_takeEither_42 qm_X5_92 qi_X4_put qs_X4_put qc_X4 qd_X4_put qh_X4_put (by omega) (fun _ => Nat.le_of_ble_eq_true rfl) (Nat.le_of_ble_eq_true rfl) (fun _ μ15 => ?_)
      refine s_iinc hC 3 dX5_takeEither_45 rfl (w := 1) (by decide) (by decide) (lv' := [(3, vI (v9 + (1 : Int32))), (0, vR v6), (1, vR v7), (2, vI v8)]) rfl ?_
      refine s_goto hC dX5_takeEither_48 (tgt := 13) (by decide) ?_
      refine s_lv (lv' := [(0, vR v6), (1, vR v7), (2, vI v8), (3, vI (v9 + (1 : Int32)))]) [1, 2, 3, 0] rfl ?_
      exact ih _ _ _ _ _
    refine s_iconst hC dX5_takeEither_37 (v := 0) (by decide) ?_
    exact s_zret hC hr hlk dX5_takeEither_38
def f_X5_takeEither_B (X : x_X) (zc : Nat → Nat → Nat → Int32 → x_M → Option (Int32 × x_M)) (v0 : Nat) (v1 : Nat) (v2 : Int32) (μ : x_M) : Option (Int32 × x_M) :=
  (ck (x_kd X v0 = 5 + 1) (bd (zc 1 v0 v1 v2 μ) (fun (v4 : Int32) (μ5 : x_M) => (if v4 = 0 then (ck ((0 : Int32) = 0 ∨ (0 : Int32) = 1) (some ((0 : Int32), μ5))) else (f_X5_takeEither_B_L13 X zc 4096 v0 v1 v2 (0 : Int32) μ5)))))
set_option maxRecDepth 100000 in
theorem b_X5_takeEither_B (hI : x_I X) (hlev : 6 ≤ lev) (hz : (∀ (v0 : Nat) (v1 : Nat) (v2 : Int32) (μ : x_M), x_Met X x_Z0 l yX5_takeEither cX5_takeEither 4 (some .boolean) lev [vR v0, vR v1, vI v2] μ rkI (zc 0 v0 v1 v2 μ)) ∧ (∀ (v0 : Nat) (v1 : Nat) (v2 : Int32) (μ : x_M), x_Met X x_Z0 l yX5_takeBoth cX5_takeBoth 4 (some .boolean) lev [vR v0, vR v1, vI v2] μ rkI (zc 1 v0 v1 v2 μ)) ∧ (∀ (v0 : Nat) (v1 : Nat) (v2 : Int32) (μ : x_M), x_Met X x_Z0 l yX5_takeFactor cX5_takeFactor 3 (some .boolean) lev [vR v0, vR v1, vI v2] μ rkI (zc 2 v0 v1 v2 μ))) (v0 : Nat) (v1 : Nat) (v2 : Int32) (μ : x_M) : x_Met X x_Z0 l yX5_takeEither cX5_takeEither 4 (some .boolean) (lev + 1) [vR v0, vR v1, vI v2] μ rkI (f_X5_takeEither_B X zc v0 v1 v2 μ) := by
  refine x_enter hI (by decide +kernel) (Nat.le_of_ble_eq_true rfl) (fun p e s m args below meth c hC hr hlk => ?_)
  unfold f_X5_takeEither_B
  refine s_lv (lv' := [(0, vR v0), (1, vR v1), (2, vI v2)]) [0, 1, 2] rfl ?_
  refine s_aload_n hC 0 dX5_takeEither_0 rfl ?_
  refine s_aload_n hC 1 dX5_takeEither_1 rfl ?_
  refine s_iload_n hC 2 dX5_takeEither_2 rfl ?_
  refine s_callV hC (x := v0) (avs := [vR v1, vI v2]) (st := []) (nest := false) xc5 (hz.2.1 v0 v1 v2 μ) dX5_takeEither_3 qm_X5_89 qi_X5_takeBoth qs_X5_takeBoth qc_X5 qd_X5_takeBoth qh_X5_takeBoth (by omega) (fun _ => Nat.le_of_ble_eq_true rfl) (Nat.le_of_ble_eq_true rfl) (fun v4 μ5 => ?_)
  refine s_if_ne hC dX5_takeEither_6 (tgt := 11) (by decide) ?_ ?_
  · refine s_iconst hC dX5_takeEither_11 (v := 0) (by decide) ?_
    refine s_istore_n hC dX5_takeEither_12 (by decide) (lv' := [(3, vI (0 : Int32)), (0, vR v0), (1, vR v1), (2, vI v2)]) rfl ?_
    refine s_lv (lv' := [(0, vR v0), (1, vR v1), (2, vI v2), (3, vI (0 : Int32))]) [1, 2, 3, 0] rfl ?_
    refine j_X5_takeEither_B_L13 hI hC hr hlk hlev hz 4096 _ _ _ _ _
  refine s_iconst hC dX5_takeEither_9 (v := 0) (by decide) ?_
  exact s_zret hC hr hlk dX5_takeEither_10
theorem dX5_takeBoth_0 : decode cX5_takeBoth 0 = .ok (.aload_n 0, 1) := by decide +kernel
theorem dX5_takeBoth_1 : decode cX5_takeBoth 1 = .ok (.aload_n 1, 1) := by decide +kernel
theorem dX5_takeBoth_2 : decode cX5_takeBoth 2 = .ok (.iload_n 2, 1) := by decide +kernel
theorem dX5_takeBoth_3 : decode cX5_takeBoth 3 = .ok (.invokevirtual 96, 3) := by decide +kernel
theorem dX5_takeBoth_6 : decode cX5_takeBoth 6 = .ok (.ifCond .ne 5, 3) := by decide +kernel
theorem dX5_takeBoth_9 : decode cX5_takeBoth 9 = .ok (.iconst 0, 1) := by decide +kernel
theorem dX5_takeBoth_10 : decode cX5_takeBoth 10 = .ok (.ireturn, 1) := by decide +kernel
theorem dX5_takeBoth_11 : decode cX5_takeBoth 11 = .ok (.iconst 0, 1) := by decide +kernel
theorem dX5_takeBoth_12 : decode cX5_takeBoth 12 = .ok (.istore_n 3, 1) := by decide +kernel
theorem dX5_takeBoth_13 : decode cX5_takeBoth 13 = .ok (.iload_n 3, 1) := by decide +kernel
theorem dX5_takeBoth_14 : decode cX5_takeBoth 14 = .ok (.bipush 100, 2) := by decide +kernel
theorem dX5_takeBoth_16 : decode cX5_takeBoth 16 = .ok (.if_icmp .ge 35, 3) := by decide +kernel
theorem dX5_takeBoth_19 : decode cX5_takeBoth 19 = .ok (.aload_n 0, 1) := by decide +kernel
theorem dX5_takeBoth_20 : decode cX5_takeBoth 20 = .ok (.bipush 38, 2) := by decide +kernel
theorem dX5_takeBoth_22 : decode cX5_takeBoth 22 = .ok (.invokevirtual 31, 3) := by decide +kernel
theorem dX5_takeBoth_25 : decode cX5_takeBoth 25 = .ok (.ifCond .eq 26, 3) := by decide +kernel
theorem dX5_takeBoth_28 : decode cX5_takeBoth 28 = .ok (.aload_n 0, 1) := by decide +kernel
theorem dX5_takeBoth_29 : decode cX5_takeBoth 29 = .ok (.aload_n 1, 1) := by decide +kernel
theorem dX5_takeBoth_30 : decode cX5_takeBoth 30 = .ok (.iload_n 2, 1) := by decide +kernel
theorem dX5_takeBoth_31 : decode cX5_takeBoth 31 = .ok (.invokevirtual 96, 3) := by decide +kernel
theorem dX5_takeBoth_34 : decode cX5_takeBoth 34 = .ok (.ifCond .ne 5, 3) := by decide +kernel
theorem dX5_takeBoth_37 : decode cX5_takeBoth 37 = .ok (.iconst 0, 1) := by decide +kernel
theorem dX5_takeBoth_38 : decode cX5_takeBoth 38 = .ok (.ireturn, 1) := by decide +kernel
theorem dX5_takeBoth_39 : decode cX5_takeBoth 39 = .ok (.aload_n 1, 1) := by decide +kernel
theorem dX5_takeBoth_40 : decode cX5_takeBoth 40 = .ok (.bipush (-2), 2) := by decide +kernel
theorem dX5_takeBoth_42 : decode cX5_takeBoth 42 = .ok (.invokevirtual 92, 3) := by decide +kernel
theorem dX5_takeBoth_45 : decode cX5_takeBoth 45 = .ok (.iinc 3 1, 3) := by decide +kernel
theorem dX5_takeBoth_48 : decode cX5_takeBoth 48 = .ok (.goto (-35), 3) := by decide +kernel
theorem dX5_takeBoth_51 : decode cX5_takeBoth 51 = .ok (.iconst 1, 1) := by decide +kernel
theorem dX5_takeBoth_52 : decode cX5_takeBoth 52 = .ok (.ireturn, 1) := by decide +kernel
def f_X5_takeBoth_B_L13 (X : x_X) (zc : Nat → Nat → Nat → Int32 → x_M → Option (Int32 × x_M)) : Nat → Nat → Nat → Int32 → Int32 → x_M → Option (Int32 × x_M)
  | 0, _, _, _, _, _ => none
  | n + 1, v6, v7, v8, v9, μ10 =>
    (if (100 : Int32) ≤ v9 then (ck ((1 : Int32) = 0 ∨ (1 : Int32) = 1) (some ((1 : Int32), μ10))) else (ck (x_kd X v6 = 5 + 1) (bd (f_X5_take X v6 (38 : Int32) μ10) (fun (v11 : Int32) (μ12 : x_M) => (if v11 = 0 then (ck ((1 : Int32) = 0 ∨ (1 : Int32) = 1) (some ((1 : Int32), μ12))) else (ck (x_kd X v6 = 5 + 1) (bd (zc 2 v6 v7 v8 μ12) (fun (v13 : Int32) (μ14 : x_M) => (if v13 = 0 then (ck ((0 : Int32) = 0 ∨ (0 : Int32) = 1) (some ((0 : Int32), μ14))) else (ck (x_kd X v7 = 4 + 1) (bd (f_X4_put X v7 (-2 : Int32) μ14) (fun (_ : Unit) (μ15 : x_M) => (f_X5_takeBoth_B_L13 X zc n v6 v7 v8 (v9 + (1 : Int32)) μ15)))))))))))))
set_option maxRecDepth 100000 in
theorem j_X5_takeBoth_B_L13 (hI : x_I X) (hC : x_C X x_Z0 p (x_rm (lev + 1)) s m c cX5_takeBoth RX5 4 0 0 (lev + 1)) (hr : meth.sig.returnType = (some .boolean)) (hlk : meth.locks = false) (hlev : 6 ≤ lev) (hz : (∀ (v0 : Nat) (v1 : Nat) (v2 : Int32) (μ : x_M), x_Met X x_Z0 l yX5_takeEither cX5_takeEither 4 (some .boolean) lev [vR v0, vR v1, vI v2] μ rkI (zc 0 v0 v1 v2 μ)) ∧ (∀ (v0 : Nat) (v1 : Nat) (v2 : Int32) (μ : x_M), x_Met X x_Z0 l yX5_takeBoth cX5_takeBoth 4 (some .boolean) lev [vR v0, vR v1, vI v2] μ rkI (zc 1 v0 v1 v2 μ)) ∧ (∀ (v0 : Nat) (v1 : Nat) (v2 : Int32) (μ : x_M), x_Met X x_Z0 l yX5_takeFactor cX5_takeFactor 3 (some .boolean) lev [vR v0, vR v1, vI v2] μ rkI (zc 2 v0 v1 v2 μ))) : ∀ (n : Nat) (v6 : Nat) (v7 : Nat) (v8 : Int32) (v9 : Int32) (μ10 : x_M), SM X 4 (lev + 1) rkI p l e s m args below meth c 13 [(0, vR v6), (1, vR v7), (2, vI v8), (3, vI v9)] [] μ10 (f_X5_takeBoth_B_L13 X zc n v6 v7 v8 v9 μ10) := by
  intro n
  induction n with
  | zero => intro v6 v7 v8 v9 μ10; exact s_none
  | succ n ih =>
    intro v6 v7 v8 v9 μ10
    unfold f_X5_takeBoth_B_L13
    refine s_iload_n hC 3 dX5_takeBoth_13 rfl ?_
    refine s_bipush hC dX5_takeBoth_14 (v := 100) (by decide) ?_
    refine s_icmp_ge hC dX5_takeBoth_16 (tgt := 51) (by decide) ?_ ?_
    · refine s_iconst hC dX5_takeBoth_51 (v := 1) (by decide) ?_
      exact s_zret hC hr hlk dX5_takeBoth_52
    refine s_aload_n hC 0 dX5_takeBoth_19 rfl ?_
    refine s_bipush hC dX5_takeBoth_20 (v := 38) (by decide) ?_
    refine s_callV hC (x := v6) (avs := [vI (38 : Int32)]) (st := []) (nest := false) xc5 (m_X5_take hI v6 (38 : Int32) μ10) dX5_takeBoth_22 qm_X5_31 qi_X5_take qs_X5_take qc_X5 qd_X5_take qh_X5_take (by omega) (fun _ => Nat.le_of_ble_eq_true rfl) (Nat.le_of_ble_eq_true rfl) (fun v11 μ12 => ?_)
    refine s_if_eq hC dX5_takeBoth_25 (tgt := 51) (by decide) ?_ ?_
    · refine s_iconst hC dX5_takeBoth_51 (v := 1) (by decide) ?_
      exact s_zret hC hr hlk dX5_takeBoth_52
    refine s_aload_n hC 0 dX5_takeBoth_28 rfl ?_
    refine s_aload_n hC 1 dX5_takeBoth_29 rfl ?_
    refine s_iload_n hC 2 dX5_takeBoth_30 rfl ?_
    refine s_callV hC (x := v6) (avs := [vR v7, vI v8]) (st := []) (nest := false) xc5 (hz.2.2 v6 v7 v8 μ12) dX5_takeBoth_31 qm_X5_96 qi_X5_takeFactor qs_X5_takeFactor qc_X5 qd_X5_takeFactor qh_X5_takeFactor (by omega) (fun _ => Nat.le_of_ble_eq_true rfl) (Nat.le_of_ble_eq_true rfl) (fun v13 μ14 => ?_)
    refine s_if_ne hC dX5_takeBoth_34 (tgt := 39) (by decide) ?_ ?_
    · refine s_aload_n hC 1 dX5_takeBoth_39 rfl ?_
      refine s_bipush hC dX5_takeBoth_40 (v := -2) (by decide) ?_
      refine s_callV hC (x := v7) (avs := [vI (-2 : Int32)]) (st := []) (nest := false) xc4 (m_X4_put hI v7 (-2 : Int32) μ14) dX5_takeBoth_42 qm_X5_92 qi_X4_put qs_X4_put qc_X4 qd_X4_put qh_X4_put (by omega) (fun _ => Nat.le_of_ble_eq_true rfl) (Nat.le_of_ble_eq_true rfl) (fun _ μ15 => ?_)
      refine s_iinc hC 3 dX5_takeBoth_45 rfl (w := 1) (by decide) (by decide) (lv' := [(3, vI (v9 + (1 : Int32))), (0, vR v6), (1, vR v7), (2, vI v8)]) rfl ?_
      refine s_goto hC dX5_takeBoth_48 (tgt := 13) (by decide) ?_
      refine s_lv (lv' := [(0, vR v6), (1, vR v7), (2, vI v8), (3, vI (v9 + (1 : Int32)))]) [1, 2, 3, 0] rfl ?_
      exact ih _ _ _ _ _
    refine s_iconst hC dX5_takeBoth_37 (v := 0) (by decide) ?_
    exact s_zret hC hr hlk dX5_takeBoth_38
def f_X5_takeBoth_B (X : x_X) (zc : Nat → Nat → Nat → Int32 → x_M → Option (Int32 × x_M)) (v0 : Nat) (v1 : Nat) (v2 : Int32) (μ : x_M) : Option (Int32 × x_M) :=
  (ck (x_kd X v0 = 5 + 1) (bd (zc 2 v0 v1 v2 μ) (fun (v4 : Int32) (μ5 : x_M) => (if v4 = 0 then (ck ((0 : Int32) = 0 ∨ (0 : Int32) = 1) (some ((0 : Int32), μ5))) else (f_X5_takeBoth_B_L13 X zc 4096 v0 v1 v2 (0 : Int32) μ5)))))
set_option maxRecDepth 100000 in
theorem b_X5_takeBoth_B (hI : x_I X) (hlev : 6 ≤ lev) (hz : (∀ (v0 : Nat) (v1 : Nat) (v2 : Int32) (μ : x_M), x_Met X x_Z0 l yX5_takeEither cX5_takeEither 4 (some .boolean) lev [vR v0, vR v1, vI v2] μ rkI (zc 0 v0 v1 v2 μ)) ∧ (∀ (v0 : Nat) (v1 : Nat) (v2 : Int32) (μ : x_M), x_Met X x_Z0 l yX5_takeBoth cX5_takeBoth 4 (some .boolean) lev [vR v0, vR v1, vI v2] μ rkI (zc 1 v0 v1 v2 μ)) ∧ (∀ (v0 : Nat) (v1 : Nat) (v2 : Int32) (μ : x_M), x_Met X x_Z0 l yX5_takeFactor cX5_takeFactor 3 (some .boolean) lev [vR v0, vR v1, vI v2] μ rkI (zc 2 v0 v1 v2 μ))) (v0 : Nat) (v1 : Nat) (v2 : Int32) (μ : x_M) : x_Met X x_Z0 l yX5_takeBoth cX5_takeBoth 4 (some .boolean) (lev + 1) [vR v0, vR v1, vI v2] μ rkI (f_X5_takeBoth_B X zc v0 v1 v2 μ) := by
  refine x_enter hI (by decide +kernel) (Nat.le_of_ble_eq_true rfl) (fun p e s m args below meth c hC hr hlk => ?_)
  unfold f_X5_takeBoth_B
  refine s_lv (lv' := [(0, vR v0), (1, vR v1), (2, vI v2)]) [0, 1, 2] rfl ?_
  refine s_aload_n hC 0 dX5_takeBoth_0 rfl ?_
  refine s_aload_n hC 1 dX5_takeBoth_1 rfl ?_
  refine s_iload_n hC 2 dX5_takeBoth_2 rfl ?_
  refine s_callV hC (x := v0) (avs := [vR v1, vI v2]) (st := []) (nest := false) xc5 (hz.2.2 v0 v1 v2 μ) dX5_takeBoth_3 qm_X5_96 qi_X5_takeFactor qs_X5_takeFactor qc_X5 qd_X5_takeFactor qh_X5_takeFactor (by omega) (fun _ => Nat.le_of_ble_eq_true rfl) (Nat.le_of_ble_eq_true rfl) (fun v4 μ5 => ?_)
  refine s_if_ne hC dX5_takeBoth_6 (tgt := 11) (by decide) ?_ ?_
  · refine s_iconst hC dX5_takeBoth_11 (v := 0) (by decide) ?_
    refine s_istore_n hC dX5_takeBoth_12 (by decide) (lv' := [(3, vI (0 : Int32)), (0, vR v0), (1, vR v1), (2, vI v2)]) rfl ?_
    refine s_lv (lv' := [(0, vR v0), (1, vR v1), (2, vI v2), (3, vI (0 : Int32))]) [1, 2, 3, 0] rfl ?_
    refine j_X5_takeBoth_B_L13 hI hC hr hlk hlev hz 4096 _ _ _ _ _
  refine s_iconst hC dX5_takeBoth_9 (v := 0) (by decide) ?_
  exact s_zret hC hr hlk dX5_takeBoth_10
theorem dX5_takeFactor_0 : decode cX5_takeFactor 0 = .ok (.iload_n 2, 1) := by decide +kernel
theorem dX5_takeFactor_1 : decode cX5_takeFactor 1 = .ok (.iconst 4, 1) := by decide +kernel
theorem dX5_takeFactor_2 : decode cX5_takeFactor 2 = .ok (.if_icmp .ge 38, 3) := by decide +kernel
theorem dX5_takeFactor_5 : decode cX5_takeFactor 5 = .ok (.aload_n 0, 1) := by decide +kernel
theorem dX5_takeFactor_6 : decode cX5_takeFactor 6 = .ok (.bipush 40, 2) := by decide +kernel
theorem dX5_takeFactor_8 : decode cX5_takeFactor 8 = .ok (.invokevirtual 31, 3) := by decide +kernel
theorem dX5_takeFactor_11 : decode cX5_takeFactor 11 = .ok (.ifCond .eq 29, 3) := by decide +kernel
theorem dX5_takeFactor_14 : decode cX5_takeFactor 14 = .ok (.aload_n 0, 1) := by decide +kernel
theorem dX5_takeFactor_15 : decode cX5_takeFactor 15 = .ok (.aload_n 1, 1) := by decide +kernel
theorem dX5_takeFactor_16 : decode cX5_takeFactor 16 = .ok (.iload_n 2, 1) := by decide +kernel
theorem dX5_takeFactor_17 : decode cX5_takeFactor 17 = .ok (.iconst 1, 1) := by decide +kernel
theorem dX5_takeFactor_18 : decode cX5_takeFactor 18 = .ok (.iadd, 1) := by decide +kernel
theorem dX5_takeFactor_19 : decode cX5_takeFactor 19 = .ok (.invokevirtual 46, 3) := by decide +kernel
theorem dX5_takeFactor_22 : decode cX5_takeFactor 22 = .ok (.ifCond .eq 16, 3) := by decide +kernel
theorem dX5_takeFactor_25 : decode cX5_takeFactor 25 = .ok (.aload_n 0, 1) := by decide +kernel
theorem dX5_takeFactor_26 : decode cX5_takeFactor 26 = .ok (.bipush 41, 2) := by decide +kernel
theorem dX5_takeFactor_28 : decode cX5_takeFactor 28 = .ok (.invokevirtual 31, 3) := by decide +kernel
theorem dX5_takeFactor_31 : decode cX5_takeFactor 31 = .ok (.ifCond .eq 7, 3) := by decide +kernel
theorem dX5_takeFactor_34 : decode cX5_takeFactor 34 = .ok (.iconst 1, 1) := by decide +kernel
theorem dX5_takeFactor_35 : decode cX5_takeFactor 35 = .ok (.goto 4, 3) := by decide +kernel
theorem dX5_takeFactor_38 : decode cX5_takeFactor 38 = .ok (.iconst 0, 1) := by decide +kernel
theorem dX5_takeFactor_39 : decode cX5_takeFactor 39 = .ok (.ireturn, 1) := by decide +kernel
theorem dX5_takeFactor_40 : decode cX5_takeFactor 40 = .ok (.iload_n 2, 1) := by decide +kernel
theorem dX5_takeFactor_41 : decode cX5_takeFactor 41 = .ok (.iconst 4, 1) := by decide +kernel
theorem dX5_takeFactor_42 : decode cX5_takeFactor 42 = .ok (.if_icmp .ge 32, 3) := by decide +kernel
theorem dX5_takeFactor_45 : decode cX5_takeFactor 45 = .ok (.aload_n 0, 1) := by decide +kernel
theorem dX5_takeFactor_46 : decode cX5_takeFactor 46 = .ok (.bipush 33, 2) := by decide +kernel
theorem dX5_takeFactor_48 : decode cX5_takeFactor 48 = .ok (.invokevirtual 31, 3) := by decide +kernel
theorem dX5_takeFactor_51 : decode cX5_takeFactor 51 = .ok (.ifCond .eq 23, 3) := by decide +kernel
theorem dX5_takeFactor_54 : decode cX5_takeFactor 54 = .ok (.aload_n 0, 1) := by decide +kernel
theorem dX5_takeFactor_55 : decode cX5_takeFactor 55 = .ok (.aload_n 1, 1) := by decide +kernel
theorem dX5_takeFactor_56 : decode cX5_takeFactor 56 = .ok (.iload_n 2, 1) := by decide +kernel
theorem dX5_takeFactor_57 : decode cX5_takeFactor 57 = .ok (.iconst 1, 1) := by decide +kernel
theorem dX5_takeFactor_58 : decode cX5_takeFactor 58 = .ok (.iadd, 1) := by decide +kernel
theorem dX5_takeFactor_59 : decode cX5_takeFactor 59 = .ok (.invokevirtual 96, 3) := by decide +kernel
theorem dX5_takeFactor_62 : decode cX5_takeFactor 62 = .ok (.ifCond .ne 5, 3) := by decide +kernel
theorem dX5_takeFactor_65 : decode cX5_takeFactor 65 = .ok (.iconst 0, 1) := by decide +kernel
theorem dX5_takeFactor_66 : decode cX5_takeFactor 66 = .ok (.ireturn, 1) := by decide +kernel
theorem dX5_takeFactor_67 : decode cX5_takeFactor 67 = .ok (.aload_n 1, 1) := by decide +kernel
theorem dX5_takeFactor_68 : decode cX5_takeFactor 68 = .ok (.iconst (-1), 1) := by decide +kernel
theorem dX5_takeFactor_69 : decode cX5_takeFactor 69 = .ok (.invokevirtual 92, 3) := by decide +kernel
theorem dX5_takeFactor_72 : decode cX5_takeFactor 72 = .ok (.iconst 1, 1) := by decide +kernel
theorem dX5_takeFactor_73 : decode cX5_takeFactor 73 = .ok (.ireturn, 1) := by decide +kernel
theorem dX5_takeFactor_74 : decode cX5_takeFactor 74 = .ok (.aload_n 0, 1) := by decide +kernel
theorem dX5_takeFactor_75 : decode cX5_takeFactor 75 = .ok (.aload_n 1, 1) := by decide +kernel
theorem dX5_takeFactor_76 : decode cX5_takeFactor 76 = .ok (.invokevirtual 99, 3) := by decide +kernel
theorem dX5_takeFactor_79 : decode cX5_takeFactor 79 = .ok (.ireturn, 1) := by decide +kernel
def f_X5_takeFactor_B_J40 (X : x_X) (zc : Nat → Nat → Nat → Int32 → x_M → Option (Int32 × x_M)) (v4 : Nat) (v5 : Nat) (v6 : Int32) (μ7 : x_M) : Option (Int32 × x_M) :=
  (if (4 : Int32) ≤ v6 then (ck (x_kd X v4 = 5 + 1) (bd (f_X5_takeTest X v4 v5 μ7) (fun (v8 : Int32) (μ9 : x_M) => (ck (v8 = 0 ∨ v8 = 1) (some (v8, μ9)))))) else (ck (x_kd X v4 = 5 + 1) (bd (f_X5_take X v4 (33 : Int32) μ7) (fun (v10 : Int32) (μ11 : x_M) => (if v10 = 0 then (ck (x_kd X v4 = 5 + 1) (bd (f_X5_takeTest X v4 v5 μ11) (fun (v12 : Int32) (μ13 : x_M) => (ck (v12 = 0 ∨ v12 = 1) (some (v12, μ13)))))) else (ck (x_kd X v4 = 5 + 1) (bd (zc 2 v4 v5 (v6 + (1 : Int32)) μ11) (fun (v14 : Int32) (μ15 : x_M) => (if v14 = 0 then (ck ((0 : Int32) = 0 ∨ (0 : Int32) = 1) (some ((0 : Int32), μ15))) else (ck (x_kd X v5 = 4 + 1) (bd (f_X4_put X v5 (-1 : Int32) μ15) (fun (_ : Unit) (μ16 : x_M) => (ck ((1 : Int32) = 0 ∨ (1 : Int32) = 1) (some ((1 : Int32), μ16)))))))))))))))
set_option maxRecDepth 100000 in
theorem j_X5_takeFactor_B_J40 (hI : x_I X) (hC : x_C X x_Z0 p (x_rm (lev + 1)) s m c cX5_takeFactor RX5 3 0 0 (lev + 1)) (hr : meth.sig.returnType = (some .boolean)) (hlk : meth.locks = false) (hlev : 6 ≤ lev) (hz : (∀ (v0 : Nat) (v1 : Nat) (v2 : Int32) (μ : x_M), x_Met X x_Z0 l yX5_takeEither cX5_takeEither 4 (some .boolean) lev [vR v0, vR v1, vI v2] μ rkI (zc 0 v0 v1 v2 μ)) ∧ (∀ (v0 : Nat) (v1 : Nat) (v2 : Int32) (μ : x_M), x_Met X x_Z0 l yX5_takeBoth cX5_takeBoth 4 (some .boolean) lev [vR v0, vR v1, vI v2] μ rkI (zc 1 v0 v1 v2 μ)) ∧ (∀ (v0 : Nat) (v1 : Nat) (v2 : Int32) (μ : x_M), x_Met X x_Z0 l yX5_takeFactor cX5_takeFactor 3 (some .boolean) lev [vR v0, vR v1, vI v2] μ rkI (zc 2 v0 v1 v2 μ))) (v4 : Nat) (v5 : Nat) (v6 : Int32) (μ7 : x_M) : SM X 3 (lev + 1) rkI p l e s m args below meth c 40 [(0, vR v4), (1, vR v5), (2, vI v6)] [] μ7 (f_X5_takeFactor_B_J40 X zc v4 v5 v6 μ7) := by
  unfold f_X5_takeFactor_B_J40
  refine s_iload_n hC 2 dX5_takeFactor_40 rfl ?_
  refine s_iconst hC dX5_takeFactor_41 (v := 4) (by decide) ?_
  refine s_icmp_ge hC dX5_takeFactor_42 (tgt := 74) (by decide) ?_ ?_
  · refine s_aload_n hC 0 dX5_takeFactor_74 rfl ?_
    refine s_aload_n hC 1 dX5_takeFactor_75 rfl ?_
    refine s_callV hC (x := v4) (avs := [vR v5]) (st := []) (nest := false) xc5 (m_X5_takeTest hI v4 v5 μ7) dX5_takeFactor_76 qm_X5_99 qi_X5_takeTest qs_X5_takeTest qc_X5 qd_X5_takeTest qh_X5_takeTest (by omega) (fun _ => Nat.le_of_ble_eq_true rfl) (Nat.le_of_ble_eq_true rfl) (fun v8 μ9 => ?_)
    exact s_zret hC hr hlk dX5_takeFactor_79
  refine s_aload_n hC 0 dX5_takeFactor_45 rfl ?_
  refine s_bipush hC dX5_takeFactor_46 (v := 33) (by decide) ?_
  refine s_callV hC (x := v4) (avs := [vI (33 : Int32)]) (st := []) (nest := false) xc5 (m_X5_take hI v4 (33 : Int32) μ7) dX5_takeFactor_48 qm_X5_31 qi_X5_take qs_X5_take qc_X5 qd_X5_take qh_X5_take (by omega) (fun _ => Nat.le_of_ble_eq_true rfl) (Nat.le_of_ble_eq_true rfl) (fun v10 μ11 => ?_)
  refine s_if_eq hC dX5_takeFactor_51 (tgt := 74) (by decide) ?_ ?_
  · refine s_aload_n hC 0 dX5_takeFactor_74 rfl ?_
    refine s_aload_n hC 1 dX5_takeFactor_75 rfl ?_
    refine s_callV hC (x := v4) (avs := [vR v5]) (st := []) (nest := false) xc5 (m_X5_takeTest hI v4 v5 μ11) dX5_takeFactor_76 qm_X5_99 qi_X5_takeTest qs_X5_takeTest qc_X5 qd_X5_takeTest qh_X5_takeTest (by omega) (fun _ => Nat.le_of_ble_eq_true rfl) (Nat.le_of_ble_eq_true rfl) (fun v12 μ13 => ?_)
    exact s_zret hC hr hlk dX5_takeFactor_79
  refine s_aload_n hC 0 dX5_takeFactor_54 rfl ?_
  refine s_aload_n hC 1 dX5_takeFactor_55 rfl ?_
  refine s_iload_n hC 2 dX5_takeFactor_56 rfl ?_
  refine s_iconst hC dX5_takeFactor_57 (v := 1) (by decide) ?_
  refine s_iadd hC dX5_takeFactor_58 ?_
  refine s_callV hC (x := v4) (avs := [vR v5, vI (v6 + (1 : Int32))]) (st := []) (nest := false) xc5 (hz.2.2 v4 v5 (v6 + (1 : Int32)) μ11) dX5_takeFactor_59 qm_X5_96 qi_X5_takeFactor qs_X5_takeFactor qc_X5 qd_X5_takeFactor qh_X5_takeFactor (by omega) (fun _ => Nat.le_of_ble_eq_true rfl) (Nat.le_of_ble_eq_true rfl) (fun v14 μ15 => ?_)
  refine s_if_ne hC dX5_takeFactor_62 (tgt := 67) (by decide) ?_ ?_
  · refine s_aload_n hC 1 dX5_takeFactor_67 rfl ?_
    refine s_iconst hC dX5_takeFactor_68 (v := -1) (by decide) ?_
    refine s_callV hC (x := v5) (avs := [vI (-1 : Int32)]) (st := []) (nest := false) xc4 (m_X4_put hI v5 (-1 : Int32) μ15) dX5_takeFactor_69 qm_X5_92 qi_X4_put qs_X4_put qc_X4 qd_X4_put qh_X4_put (by omega) (fun _ => Nat.le_of_ble_eq_true rfl) (Nat.le_of_ble_eq_true rfl) (fun _ μ16 => ?_)
    refine s_iconst hC dX5_takeFactor_72 (v := 1) (by decide) ?_
    exact s_zret hC hr hlk dX5_takeFactor_73
  refine s_iconst hC dX5_takeFactor_65 (v := 0) (by decide) ?_
  exact s_zret hC hr hlk dX5_takeFactor_66
def f_X5_takeFactor_B (X : x_X) (zc : Nat → Nat → Nat → Int32 → x_M → Option (Int32 × x_M)) (v0 : Nat) (v1 : Nat) (v2 : Int32) (μ : x_M) : Option (Int32 × x_M) :=
  (if (4 : Int32) ≤ v2 then (f_X5_takeFactor_B_J40 X zc v0 v1 v2 μ) else (ck (x_kd X v0 = 5 + 1) (bd (f_X5_take X v0 (40 : Int32) μ) (fun (v17 : Int32) (μ18 : x_M) => (if v17 = 0 then (f_X5_takeFactor_B_J40 X zc v0 v1 v2 μ18) else (ck (x_kd X v0 = 5 + 1) (bd (zc 0 v0 v1 (v2 + (1 : Int32)) μ18) (fun (v19 : Int32) (μ20 : x_M) => (if v19 = 0 then (ck ((0 : Int32) = 0 ∨ (0 : Int32) = 1) (some ((0 : Int32), μ20))) else (ck (x_kd X v0 = 5 + 1) (bd (f_X5_take X v0 (41 : Int32) μ20) (fun (v21 : Int32) (μ22 : x_M) => (if v21 = 0 then (ck ((0 : Int32) = 0 ∨ (0 : Int32) = 1) (some ((0 : Int32), μ22))) else (ck ((1 : Int32) = 0 ∨ (1 : Int32) = 1) (some ((1 : Int32), μ22))))))))))))))))
set_option maxRecDepth 100000 in
theorem b_X5_takeFactor_B (hI : x_I X) (hlev : 6 ≤ lev) (hz : (∀ (v0 : Nat) (v1 : Nat) (v2 : Int32) (μ : x_M), x_Met X x_Z0 l yX5_takeEither cX5_takeEither 4 (some .boolean) lev [vR v0, vR v1, vI v2] μ rkI (zc 0 v0 v1 v2 μ)) ∧ (∀ (v0 : Nat) (v1 : Nat) (v2 : Int32) (μ : x_M), x_Met X x_Z0 l yX5_takeBoth cX5_takeBoth 4 (some .boolean) lev [vR v0, vR v1, vI v2] μ rkI (zc 1 v0 v1 v2 μ)) ∧ (∀ (v0 : Nat) (v1 : Nat) (v2 : Int32) (μ : x_M), x_Met X x_Z0 l yX5_takeFactor cX5_takeFactor 3 (some .boolean) lev [vR v0, vR v1, vI v2] μ rkI (zc 2 v0 v1 v2 μ))) (v0 : Nat) (v1 : Nat) (v2 : Int32) (μ : x_M) : x_Met X x_Z0 l yX5_takeFactor cX5_takeFactor 3 (some .boolean) (lev + 1) [vR v0, vR v1, vI v2] μ rkI (f_X5_takeFactor_B X zc v0 v1 v2 μ) := by
  refine x_enter hI (by decide +kernel) (Nat.le_of_ble_eq_true rfl) (fun p e s m args below meth c hC hr hlk => ?_)
  unfold f_X5_takeFactor_B
  refine s_lv (lv' := [(0, vR v0), (1, vR v1), (2, vI v2)]) [0, 1, 2] rfl ?_
  refine s_iload_n hC 2 dX5_takeFactor_0 rfl ?_
  refine s_iconst hC dX5_takeFactor_1 (v := 4) (by decide) ?_
  refine s_icmp_ge hC dX5_takeFactor_2 (tgt := 40) (by decide) ?_ ?_
  · exact j_X5_takeFactor_B_J40 hI hC hr hlk hlev hz _ _ _ _
  refine s_aload_n hC 0 dX5_takeFactor_5 rfl ?_
  refine s_bipush hC dX5_takeFactor_6 (v := 40) (by decide) ?_
  refine s_callV hC (x := v0) (avs := [vI (40 : Int32)]) (st := []) (nest := false) xc5 (m_X5_take hI v0 (40 : Int32) μ) dX5_takeFactor_8 qm_X5_31 qi_X5_take qs_X5_take qc_X5 qd_X5_take qh_X5_take (by omega) (fun _ => Nat.le_of_ble_eq_true rfl) (Nat.le_of_ble_eq_true rfl) (fun v17 μ18 => ?_)
  refine s_if_eq hC dX5_takeFactor_11 (tgt := 40) (by decide) ?_ ?_
  · exact j_X5_takeFactor_B_J40 hI hC hr hlk hlev hz _ _ _ _
  refine s_aload_n hC 0 dX5_takeFactor_14 rfl ?_
  refine s_aload_n hC 1 dX5_takeFactor_15 rfl ?_
  refine s_iload_n hC 2 dX5_takeFactor_16 rfl ?_
  refine s_iconst hC dX5_takeFactor_17 (v := 1) (by decide) ?_
  refine s_iadd hC dX5_takeFactor_18 ?_
  refine s_callV hC (x := v0) (avs := [vR v1, vI (v2 + (1 : Int32))]) (st := []) (nest := false) xc5 (hz.1 v0 v1 (v2 + (1 : Int32)) μ18) dX5_takeFactor_19 qm_X5_46 qi_X5_takeEither qs_X5_takeEither qc_X5 qd_X5_takeEither qh_X5_takeEither (by omega) (fun _ => Nat.le_of_ble_eq_true rfl) (Nat.le_of_ble_eq_true rfl) (fun v19 μ20 => ?_)
  refine s_if_eq hC dX5_takeFactor_22 (tgt := 38) (by decide) ?_ ?_
  · refine s_iconst hC dX5_takeFactor_38 (v := 0) (by decide) ?_
    exact s_zret hC hr hlk dX5_takeFactor_39
  refine s_aload_n hC 0 dX5_takeFactor_25 rfl ?_
  refine s_bipush hC dX5_takeFactor_26 (v := 41) (by decide) ?_
  refine s_callV hC (x := v0) (avs := [vI (41 : Int32)]) (st := []) (nest := false) xc5 (m_X5_take hI v0 (41 : Int32) μ20) dX5_takeFactor_28 qm_X5_31 qi_X5_take qs_X5_take qc_X5 qd_X5_take qh_X5_take (by omega) (fun _ => Nat.le_of_ble_eq_true rfl) (Nat.le_of_ble_eq_true rfl) (fun v21 μ22 => ?_)
  refine s_if_eq hC dX5_takeFactor_31 (tgt := 38) (by decide) ?_ ?_
  · refine s_iconst hC dX5_takeFactor_38 (v := 0) (by decide) ?_
    exact s_zret hC hr hlk dX5_takeFactor_39
  refine s_iconst hC dX5_takeFactor_34 (v := 1) (by decide) ?_
  refine s_goto hC dX5_takeFactor_35 (tgt := 39) (by decide) ?_
  exact s_zret hC hr hlk dX5_takeFactor_39
end G_X5_takeEither
def z_X5_takeEither (X : x_X) : Nat → Nat → Nat → Nat → Int32 → x_M → Option (Int32 × x_M)
  | 0, _, _, _, _, _ => none
  | d + 1, w, v0, v1, v2, μ => if w = 0 then f_X5_takeEither_B X (z_X5_takeEither X d) v0 v1 v2 μ else if w = 1 then f_X5_takeBoth_B X (z_X5_takeEither X d) v0 v1 v2 μ else if w = 2 then f_X5_takeFactor_B X (z_X5_takeEither X d) v0 v1 v2 μ else none
set_option maxRecDepth 100000 in
theorem mz_X5_takeEither (hI : x_I X) : ∀ d : Nat, (∀ (v0 : Nat) (v1 : Nat) (v2 : Int32) (μ : x_M), x_Met X x_Z0 l yX5_takeEither cX5_takeEither 4 (some .boolean) (6 + d) [vR v0, vR v1, vI v2] μ rkI (z_X5_takeEither X d 0 v0 v1 v2 μ)) ∧ (∀ (v0 : Nat) (v1 : Nat) (v2 : Int32) (μ : x_M), x_Met X x_Z0 l yX5_takeBoth cX5_takeBoth 4 (some .boolean) (6 + d) [vR v0, vR v1, vI v2] μ rkI (z_X5_takeEither X d 1 v0 v1 v2 μ)) ∧ (∀ (v0 : Nat) (v1 : Nat) (v2 : Int32) (μ : x_M), x_Met X x_Z0 l yX5_takeFactor cX5_takeFactor 3 (some .boolean) (6 + d) [vR v0, vR v1, vI v2] μ rkI (z_X5_takeEither X d 2 v0 v1 v2 μ)) := by
  intro d
  induction d with
  | zero => exact ⟨(fun v0 v1 v2 μ r μ2 h => by cases h), (fun v0 v1 v2 μ r μ2 h => by cases h), (fun v0 v1 v2 μ r μ2 h => by cases h)⟩
  | succ d ih => exact ⟨(fun v0 v1 v2 μ => b_X5_takeEither_B hI (Nat.le_add_right _ _) ih v0 v1 v2 μ), (fun v0 v1 v2 μ => b_X5_takeBoth_B hI (Nat.le_add_right _ _) ih v0 v1 v2 μ), (fun v0 v1 v2 μ => b_X5_takeFactor_B hI (Nat.le_add_right _ _) ih v0 v1 v2 μ)⟩
def f_X5_takeEither (X : x_X) (v0 : Nat) (v1 : Nat) (v2 : Int32) (μ : x_M) : Option (Int32 × x_M) := z_X5_takeEither X 20 0 v0 v1 v2 μ
theorem m_X5_takeEither (hI : x_I X) (v0 : Nat) (v1 : Nat) (v2 : Int32) (μ : x_M) : x_Met X x_Z0 l yX5_takeEither cX5_takeEither 4 (some .boolean) 26 [vR v0, vR v1, vI v2] μ rkI (f_X5_takeEither X v0 v1 v2 μ) := (mz_X5_takeEither hI 20).1 v0 v1 v2 μ
def f_X5_takeBoth (X : x_X) (v0 : Nat) (v1 : Nat) (v2 : Int32) (μ : x_M) : Option (Int32 × x_M) := z_X5_takeEither X 20 1 v0 v1 v2 μ
theorem m_X5_takeBoth (hI : x_I X) (v0 : Nat) (v1 : Nat) (v2 : Int32) (μ : x_M) : x_Met X x_Z0 l yX5_takeBoth cX5_takeBoth 4 (some .boolean) 26 [vR v0, vR v1, vI v2] μ rkI (f_X5_takeBoth X v0 v1 v2 μ) := (mz_X5_takeEither hI 20).2.1 v0 v1 v2 μ
def f_X5_takeFactor (X : x_X) (v0 : Nat) (v1 : Nat) (v2 : Int32) (μ : x_M) : Option (Int32 × x_M) := z_X5_takeEither X 20 2 v0 v1 v2 μ
theorem m_X5_takeFactor (hI : x_I X) (v0 : Nat) (v1 : Nat) (v2 : Int32) (μ : x_M) : x_Met X x_Z0 l yX5_takeFactor cX5_takeFactor 3 (some .boolean) 26 [vR v0, vR v1, vI v2] μ rkI (f_X5_takeFactor X v0 v1 v2 μ) := (mz_X5_takeEither hI 20).2.2 v0 v1 v2 μ
theorem dX5_parse_0 : decode cX5_parse 0 = .ok (.aload_n 0, 1) := by decide +kernel
theorem dX5_parse_1 : decode cX5_parse 1 = .ok (.iconst 0, 1) := by decide +kernel
theorem dX5_parse_2 : decode cX5_parse 2 = .ok (.putfield 23, 3) := by decide +kernel
theorem dX5_parse_5 : decode cX5_parse 5 = .ok (.aload_n 1, 1) := by decide +kernel
theorem dX5_parse_6 : decode cX5_parse 6 = .ok (.invokevirtual 26, 3) := by decide +kernel
theorem dX5_parse_9 : decode cX5_parse 9 = .ok (.iconst 0, 1) := by decide +kernel
theorem dX5_parse_10 : decode cX5_parse 10 = .ok (.istore_n 2, 1) := by decide +kernel
theorem dX5_parse_11 : decode cX5_parse 11 = .ok (.iload_n 2, 1) := by decide +kernel
theorem dX5_parse_12 : decode cX5_parse 12 = .ok (.bipush 10, 2) := by decide +kernel
theorem dX5_parse_14 : decode cX5_parse 14 = .ok (.if_icmp .ge 125, 3) := by decide +kernel
theorem dX5_parse_17 : decode cX5_parse 17 = .ok (.iload_n 2, 1) := by decide +kernel
theorem dX5_parse_18 : decode cX5_parse 18 = .ok (.ifCond .le 17, 3) := by decide +kernel
theorem dX5_parse_21 : decode cX5_parse 21 = .ok (.aload_n 0, 1) := by decide +kernel
theorem dX5_parse_22 : decode cX5_parse 22 = .ok (.bipush 59, 2) := by decide +kernel
theorem dX5_parse_24 : decode cX5_parse 24 = .ok (.invokevirtual 31, 3) := by decide +kernel
theorem dX5_parse_27 : decode cX5_parse 27 = .ok (.ifCond .ne 8, 3) := by decide +kernel
theorem dX5_parse_30 : decode cX5_parse 30 = .ok (.aload_n 0, 1) := by decide +kernel
theorem dX5_parse_31 : decode cX5_parse 31 = .ok (.getfield 23, 3) := by decide +kernel
theorem dX5_parse_34 : decode cX5_parse 34 = .ok (.ireturn, 1) := by decide +kernel
theorem dX5_parse_35 : decode cX5_parse 35 = .ok (.aload_n 0, 1) := by decide +kernel
theorem dX5_parse_36 : decode cX5_parse 36 = .ok (.invokevirtual 35, 3) := by decide +kernel
theorem dX5_parse_39 : decode cX5_parse 39 = .ok (.istore_n 3, 1) := by decide +kernel
theorem dX5_parse_40 : decode cX5_parse 40 = .ok (.iload_n 3, 1) := by decide +kernel
theorem dX5_parse_41 : decode cX5_parse 41 = .ok (.ifCond .lt 19, 3) := by decide +kernel
theorem dX5_parse_44 : decode cX5_parse 44 = .ok (.aload_n 0, 1) := by decide +kernel
theorem dX5_parse_45 : decode cX5_parse 45 = .ok (.bipush 32, 2) := by decide +kernel
theorem dX5_parse_47 : decode cX5_parse 47 = .ok (.invokevirtual 31, 3) := by decide +kernel
theorem dX5_parse_50 : decode cX5_parse 50 = .ok (.ifCond .eq 10, 3) := by decide +kernel
theorem dX5_parse_53 : decode cX5_parse 53 = .ok (.aload_n 0, 1) := by decide +kernel
theorem dX5_parse_54 : decode cX5_parse 54 = .ok (.invokevirtual 39, 3) := by decide +kernel
theorem dX5_parse_57 : decode cX5_parse 57 = .ok (.goto 4, 3) := by decide +kernel
theorem dX5_parse_60 : decode cX5_parse 60 = .ok (.iconst (-1), 1) := by decide +kernel
theorem dX5_parse_61 : decode cX5_parse 61 = .ok (.istore 4, 2) := by decide +kernel
theorem dX5_parse_63 : decode cX5_parse 63 = .ok (.iload 4, 2) := by decide +kernel
theorem dX5_parse_65 : decode cX5_parse 65 = .ok (.ifCond .ge 8, 3) := by decide +kernel
theorem dX5_parse_68 : decode cX5_parse 68 = .ok (.aload_n 0, 1) := by decide +kernel
theorem dX5_parse_69 : decode cX5_parse 69 = .ok (.getfield 23, 3) := by decide +kernel
theorem dX5_parse_72 : decode cX5_parse 72 = .ok (.ireturn, 1) := by decide +kernel
theorem dX5_parse_73 : decode cX5_parse 73 = .ok (.aload_n 1, 1) := by decide +kernel
theorem dX5_parse_74 : decode cX5_parse 74 = .ok (.iload_n 3, 1) := by decide +kernel
theorem dX5_parse_75 : decode cX5_parse 75 = .ok (.iload 4, 2) := by decide +kernel
theorem dX5_parse_77 : decode cX5_parse 77 = .ok (.invokevirtual 42, 3) := by decide +kernel
theorem dX5_parse_80 : decode cX5_parse 80 = .ok (.iload_n 3, 1) := by decide +kernel
theorem dX5_parse_81 : decode cX5_parse 81 = .ok (.ifCond .eq 8, 3) := by decide +kernel
theorem dX5_parse_84 : decode cX5_parse 84 = .ok (.iload_n 3, 1) := by decide +kernel
theorem dX5_parse_85 : decode cX5_parse 85 = .ok (.iconst 1, 1) := by decide +kernel
theorem dX5_parse_86 : decode cX5_parse 86 = .ok (.if_icmp .ne 33, 3) := by decide +kernel
theorem dX5_parse_89 : decode cX5_parse 89 = .ok (.aload_n 0, 1) := by decide +kernel
theorem dX5_parse_90 : decode cX5_parse 90 = .ok (.bipush 32, 2) := by decide +kernel
theorem dX5_parse_92 : decode cX5_parse 92 = .ok (.invokevirtual 31, 3) := by decide +kernel
theorem dX5_parse_95 : decode cX5_parse 95 = .ok (.ifCond .eq 12, 3) := by decide +kernel
theorem dX5_parse_98 : decode cX5_parse 98 = .ok (.aload_n 0, 1) := by decide +kernel
theorem dX5_parse_99 : decode cX5_parse 99 = .ok (.aload_n 1, 1) := by decide +kernel
theorem dX5_parse_100 : decode cX5_parse 100 = .ok (.iconst 0, 1) := by decide +kernel
theorem dX5_parse_101 : decode cX5_parse 101 = .ok (.invokevirtual 46, 3) := by decide +kernel
theorem dX5_parse_104 : decode cX5_parse 104 = .ok (.ifCond .ne 8, 3) := by decide +kernel
theorem dX5_parse_107 : decode cX5_parse 107 = .ok (.aload_n 0, 1) := by decide +kernel
theorem dX5_parse_108 : decode cX5_parse 108 = .ok (.getfield 23, 3) := by decide +kernel
theorem dX5_parse_111 : decode cX5_parse 111 = .ok (.ireturn, 1) := by decide +kernel
theorem dX5_parse_112 : decode cX5_parse 112 = .ok (.aload_n 1, 1) := by decide +kernel
theorem dX5_parse_113 : decode cX5_parse 113 = .ok (.iload_n 3, 1) := by decide +kernel
theorem dX5_parse_114 : decode cX5_parse 114 = .ok (.iload 4, 2) := by decide +kernel
theorem dX5_parse_116 : decode cX5_parse 116 = .ok (.invokevirtual 50, 3) := by decide +kernel
theorem dX5_parse_119 : decode cX5_parse 119 = .ok (.aload_n 0, 1) := by decide +kernel
theorem dX5_parse_120 : decode cX5_parse 120 = .ok (.getfield 23, 3) := by decide +kernel
theorem dX5_parse_123 : decode cX5_parse 123 = .ok (.aload_n 0, 1) := by decide +kernel
theorem dX5_parse_124 : decode cX5_parse 124 = .ok (.getfield 15, 3) := by decide +kernel
theorem dX5_parse_127 : decode cX5_parse 127 = .ok (.if_icmp .lt 6, 3) := by decide +kernel
theorem dX5_parse_130 : decode cX5_parse 130 = .ok (.bipush (-5), 2) := by decide +kernel
theorem dX5_parse_132 : decode cX5_parse 132 = .ok (.ireturn, 1) := by decide +kernel
theorem dX5_parse_133 : decode cX5_parse 133 = .ok (.iinc 2 1, 3) := by decide +kernel
theorem dX5_parse_136 : decode cX5_parse 136 = .ok (.goto (-125), 3) := by decide +kernel
theorem dX5_parse_139 : decode cX5_parse 139 = .ok (.aload_n 0, 1) := by decide +kernel
theorem dX5_parse_140 : decode cX5_parse 140 = .ok (.getfield 23, 3) := by decide +kernel
theorem dX5_parse_143 : decode cX5_parse 143 = .ok (.ireturn, 1) := by decide +kernel
def f_X5_parse_J89 (X : x_X) (k11 : Nat → Nat → Int32 → x_M → Option (Int32 × x_M)) (v27 : Nat) (v28 : Nat) (v29 : Int32) (v30 : Int32) (v31 : Int32) (μ32 : x_M) : Option (Int32 × x_M) :=
  (ck (x_kd X v27 = 5 + 1) (bd (f_X5_take X v27 (32 : Int32) μ32) (fun (v33 : Int32) (μ34 : x_M) => (if v33 = 0 then (ck (x_kd X v27 = 5 + 1) (some ((μ34.1 v27 2), μ34))) else (ck (x_kd X v27 = 5 + 1) (bd (f_X5_takeEither X v27 v28 (0 : Int32) μ34) (fun (v35 : Int32) (μ36 : x_M) => (if v35 = 0 then (ck (x_kd X v27 = 5 + 1) (some ((μ36.1 v27 2), μ36))) else (ck (x_kd X v28 = 4 + 1) (bd (f_X4_close X v28 v30 v31 μ36) (fun (_ : Unit) (μ37 : x_M) => (ck (x_kd X v27 = 5 + 1) (ck (x_kd X v27 = 5 + 1) (if (μ37.1 v27 2) < (μ37.1 v27 1) then (k11 v27 v28 (v29 + (1 : Int32)) μ37) else (some ((-5 : Int32), μ37))))))))))))))))
set_option maxRecDepth 100000 in
theorem j_X5_parse_J89 (hI : x_I X) (hC : x_C X x_Z0 p (x_rm 27) s m c cX5_parse RX5 5 0 0 27) (hr : meth.sig.returnType = (some .int)) (hlk : meth.locks = false) {k11 : Nat → Nat → Int32 → x_M → Option (Int32 × x_M)} (hk11 : ∀ (b0 : Nat) (b1 : Nat) (b2 : Int32) (μ : x_M), SM X 5 27 rkI p l e s m args below meth c 11 [(0, vR b0), (1, vR b1), (2, vI b2)] [] μ (k11 b0 b1 b2 μ)) (v27 : Nat) (v28 : Nat) (v29 : Int32) (v30 : Int32) (v31 : Int32) (μ32 : x_M) : SM X 5 27 rkI p l e s m args below meth c 89 [(0, vR v27), (1, vR v28), (2, vI v29), (3, vI v30), (4, vI v31)] [] μ32 (f_X5_parse_J89 X k11 v27 v28 v29 v30 v31 μ32) := by
  unfold f_X5_parse_J89
  refine s_aload_n hC 0 dX5_parse_89 rfl ?_
  refine s_bipush hC dX5_parse_90 (v := 32) (by decide) ?_
  refine s_callV hC (x := v27) (avs := [vI (32 : Int32)]) (st := []) (nest := false) xc5 (m_X5_take hI v27 (32 : Int32) μ32) dX5_parse_92 qm_X5_31 qi_X5_take qs_X5_take qc_X5 qd_X5_take qh_X5_take (by decide) (fun _ => Nat.le_of_ble_eq_true rfl) (Nat.le_of_ble_eq_true rfl) (fun v33 μ34 => ?_)
  refine s_if_eq hC dX5_parse_95 (tgt := 107) (by decide) ?_ ?_
  · refine s_aload_n hC 0 dX5_parse_107 rfl ?_
    refine s_getI hC xc5 (by decide) rfl qf_X5_23 dX5_parse_108 ?_
    exact s_iret hC hr hlk dX5_parse_111
  refine s_aload_n hC 0 dX5_parse_98 rfl ?_
  refine s_aload_n hC 1 dX5_parse_99 rfl ?_
  refine s_iconst hC dX5_parse_100 (v := 0) (by decide) ?_
  refine s_callV hC (x := v27) (avs := [vR v28, vI (0 : Int32)]) (st := []) (nest := false) xc5 (m_X5_takeEither hI v27 v28 (0 : Int32) μ34) dX5_parse_101 qm_X5_46 qi_X5_takeEither qs_X5_takeEither qc_X5 qd_X5_takeEither qh_X5_takeEither (by decide) (fun _ => Nat.le_of_ble_eq_true rfl) (Nat.le_of_ble_eq_true rfl) (fun v35 μ36 => ?_)
  refine s_if_ne hC dX5_parse_104 (tgt := 112) (by decide) ?_ ?_
  · refine s_aload_n hC 1 dX5_parse_112 rfl ?_
    refine s_iload_n hC 3 dX5_parse_113 rfl ?_
    refine s_iload hC 4 dX5_parse_114 rfl ?_
    refine s_callV hC (x := v28) (avs := [vI v30, vI v31]) (st := []) (nest := false) xc4 (m_X4_close hI v28 v30 v31 μ36) dX5_parse_116 qm_X5_50 qi_X4_close qs_X4_close qc_X4 qd_X4_close qh_X4_close (by decide) (fun _ => Nat.le_of_ble_eq_true rfl) (Nat.le_of_ble_eq_true rfl) (fun _ μ37 => ?_)
    refine s_aload_n hC 0 dX5_parse_119 rfl ?_
    refine s_getI hC xc5 (by decide) rfl qf_X5_23 dX5_parse_120 ?_
    refine s_aload_n hC 0 dX5_parse_123 rfl ?_
    refine s_getI hC xc5 (by decide) rfl qf_X5_15 dX5_parse_124 ?_
    refine s_icmp_lt hC dX5_parse_127 (tgt := 133) (by decide) ?_ ?_
    · refine s_iinc hC 2 dX5_parse_133 rfl (w := 1) (by decide) (by decide) (lv' := [(2, vI (v29 + (1 : Int32))), (0, vR v27), (1, vR v28), (3, vI v30), (4, vI v31)]) rfl ?_
      refine s_goto hC dX5_parse_136 (tgt := 11) (by decide) ?_
      refine s_lv (lv' := [(0, vR v27), (1, vR v28), (2, vI (v29 + (1 : Int32)))]) [1, 2, 0] rfl ?_
      exact hk11 _ _ _ _
    refine s_bipush hC dX5_parse_130 (v := -5) (by decide) ?_
    exact s_iret hC hr hlk dX5_parse_132
  refine s_aload_n hC 0 dX5_parse_107 rfl ?_
  refine s_getI hC xc5 (by decide) rfl qf_X5_23 dX5_parse_108 ?_
  exact s_iret hC hr hlk dX5_parse_111
def f_X5_parse_J61 (X : x_X) (k11 : Nat → Nat → Int32 → x_M → Option (Int32 × x_M)) (v20 : Nat) (v21 : Nat) (v22 : Int32) (v23 : Int32) (v24 : Int32) (μ25 : x_M) : Option (Int32 × x_M) :=
  (if 0 ≤ v24 then (ck (x_kd X v21 = 4 + 1) (bd (f_X4_tell X v21 v23 v24 μ25) (fun (_ : Unit) (μ26 : x_M) => (if v23 = 0 then (f_X5_parse_J89 X k11 v20 v21 v22 v23 v24 μ26) else (if v23 = (1 : Int32) then (f_X5_parse_J89 X k11 v20 v21 v22 v23 v24 μ26) else (ck (x_kd X v20 = 5 + 1) (ck (x_kd X v20 = 5 + 1) (if (μ26.1 v20 2) < (μ26.1 v20 1) then (k11 v20 v21 (v22 + (1 : Int32)) μ26) else (some ((-5 : Int32), μ26)))))))))) else (ck (x_kd X v20 = 5 + 1) (some ((μ25.1 v20 2), μ25))))
set_option maxRecDepth 100000 in
theorem j_X5_parse_J61 (hI : x_I X) (hC : x_C X x_Z0 p (x_rm 27) s m c cX5_parse RX5 5 0 0 27) (hr : meth.sig.returnType = (some .int)) (hlk : meth.locks = false) {k11 : Nat → Nat → Int32 → x_M → Option (Int32 × x_M)} (hk11 : ∀ (b0 : Nat) (b1 : Nat) (b2 : Int32) (μ : x_M), SM X 5 27 rkI p l e s m args below meth c 11 [(0, vR b0), (1, vR b1), (2, vI b2)] [] μ (k11 b0 b1 b2 μ)) (v20 : Nat) (v21 : Nat) (v22 : Int32) (v23 : Int32) (v24 : Int32) (μ25 : x_M) : SM X 5 27 rkI p l e s m args below meth c 61 [(0, vR v20), (1, vR v21), (2, vI v22), (3, vI v23)] [vI v24] μ25 (f_X5_parse_J61 X k11 v20 v21 v22 v23 v24 μ25) := by
  unfold f_X5_parse_J61
  refine s_istore hC dX5_parse_61 (by decide) (lv' := [(4, vI v24), (0, vR v20), (1, vR v21), (2, vI v22), (3, vI v23)]) rfl ?_
  refine s_iload hC 0 dX5_parse_63 rfl ?_
  refine s_if_ge hC dX5_parse_65 (tgt := 73) (by decide) ?_ ?_
  · refine s_aload_n hC 2 dX5_parse_73 rfl ?_
    refine s_iload_n hC 4 dX5_parse_74 rfl ?_
    refine s_iload hC 0 dX5_parse_75 rfl ?_
    refine s_callV hC (x := v21) (avs := [vI v23, vI v24]) (st := []) (nest := false) xc4 (m_X4_tell hI v21 v23 v24 μ25) dX5_parse_77 qm_X5_42 qi_X4_tell qs_X4_tell qc_X4 qd_X4_tell qh_X4_tell (by decide) (fun _ => Nat.le_of_ble_eq_true rfl) (Nat.le_of_ble_eq_true rfl) (fun _ μ26 => ?_)
    refine s_iload_n hC 4 dX5_parse_80 rfl ?_
    refine s_if_eq hC dX5_parse_81 (tgt := 89) (by decide) ?_ ?_
    · refine s_lv (lv' := [(0, vR v20), (1, vR v21), (2, vI v22), (3, vI v23), (4, vI v24)]) [1, 2, 3, 4, 0] rfl ?_
      exact j_X5_parse_J89 hI hC hr hlk hk11 _ _ _ _ _ _
    refine s_iload_n hC 4 dX5_parse_84 rfl ?_
    refine s_iconst hC dX5_parse_85 (v := 1) (by decide) ?_
    refine s_icmp_ne hC dX5_parse_86 (tgt := 119) (by decide) ?_ ?_
    · refine s_aload_n hC 1 dX5_parse_119 rfl ?_
      refine s_getI hC xc5 (by decide) rfl qf_X5_23 dX5_parse_120 ?_
      refine s_aload_n hC 1 dX5_parse_123 rfl ?_
      refine s_getI hC xc5 (by decide) rfl qf_X5_15 dX5_parse_124 ?_
      refine s_icmp_lt hC dX5_parse_127 (tgt := 133) (by decide) ?_ ?_
      · refine s_iinc hC 3 dX5_parse_133 rfl (w := 1) (by decide) (by decide) (lv' := [(2, vI (v22 + (1 : Int32))), (4, vI v24), (0, vR v20), (1, vR v21), (3, vI v23)]) rfl ?_
        refine s_goto hC dX5_parse_136 (tgt := 11) (by decide) ?_
        refine s_lv (lv' := [(0, vR v20), (1, vR v21), (2, vI (v22 + (1 : Int32)))]) [2, 3, 0] rfl ?_
        exact hk11 _ _ _ _
      refine s_bipush hC dX5_parse_130 (v := -5) (by decide) ?_
      exact s_iret hC hr hlk dX5_parse_132
    refine s_lv (lv' := [(0, vR v20), (1, vR v21), (2, vI v22), (3, vI v23), (4, vI v24)]) [1, 2, 3, 4, 0] rfl ?_
    exact j_X5_parse_J89 hI hC hr hlk hk11 _ _ _ _ _ _
  refine s_aload_n hC 1 dX5_parse_68 rfl ?_
  refine s_getI hC xc5 (by decide) rfl qf_X5_23 dX5_parse_69 ?_
  exact s_iret hC hr hlk dX5_parse_72
def f_X5_parse_J60 (X : x_X) (k11 : Nat → Nat → Int32 → x_M → Option (Int32 × x_M)) (v15 : Nat) (v16 : Nat) (v17 : Int32) (v18 : Int32) (μ19 : x_M) : Option (Int32 × x_M) :=
  (f_X5_parse_J61 X k11 v15 v16 v17 v18 (-1 : Int32) μ19)
set_option maxRecDepth 100000 in
theorem j_X5_parse_J60 (hI : x_I X) (hC : x_C X x_Z0 p (x_rm 27) s m c cX5_parse RX5 5 0 0 27) (hr : meth.sig.returnType = (some .int)) (hlk : meth.locks = false) {k11 : Nat → Nat → Int32 → x_M → Option (Int32 × x_M)} (hk11 : ∀ (b0 : Nat) (b1 : Nat) (b2 : Int32) (μ : x_M), SM X 5 27 rkI p l e s m args below meth c 11 [(0, vR b0), (1, vR b1), (2, vI b2)] [] μ (k11 b0 b1 b2 μ)) (v15 : Nat) (v16 : Nat) (v17 : Int32) (v18 : Int32) (μ19 : x_M) : SM X 5 27 rkI p l e s m args below meth c 60 [(0, vR v15), (1, vR v16), (2, vI v17), (3, vI v18)] [] μ19 (f_X5_parse_J60 X k11 v15 v16 v17 v18 μ19) := by
  unfold f_X5_parse_J60
  refine s_iconst hC dX5_parse_60 (v := -1) (by decide) ?_
  exact j_X5_parse_J61 hI hC hr hlk hk11 _ _ _ _ _ _
def f_X5_parse_J35 (X : x_X) (k11 : Nat → Nat → Int32 → x_M → Option (Int32 × x_M)) (v9 : Nat) (v10 : Nat) (v11 : Int32) (μ12 : x_M) : Option (Int32 × x_M) :=
  (ck (x_kd X v9 = 5 + 1) (bd (f_X5_takeWord X v9 μ12) (fun (v13 : Int32) (μ14 : x_M) => (if v13 < 0 then (f_X5_parse_J60 X k11 v9 v10 v11 v13 μ14) else (ck (x_kd X v9 = 5 + 1) (bd (f_X5_take X v9 (32 : Int32) μ14) (fun (v38 : Int32) (μ39 : x_M) => (if v38 = 0 then (f_X5_parse_J60 X k11 v9 v10 v11 v13 μ39) else (ck (x_kd X v9 = 5 + 1) (bd (f_X5_takeNumber X v9 μ39) (fun (v40 : Int32) (μ41 : x_M) => (f_X5_parse_J61 X k11 v9 v10 v11 v13 v40 μ41))))))))))))
set_option maxRecDepth 100000 in
theorem j_X5_parse_J35 (hI : x_I X) (hC : x_C X x_Z0 p (x_rm 27) s m c cX5_parse RX5 5 0 0 27) (hr : meth.sig.returnType = (some .int)) (hlk : meth.locks = false) {k11 : Nat → Nat → Int32 → x_M → Option (Int32 × x_M)} (hk11 : ∀ (b0 : Nat) (b1 : Nat) (b2 : Int32) (μ : x_M), SM X 5 27 rkI p l e s m args below meth c 11 [(0, vR b0), (1, vR b1), (2, vI b2)] [] μ (k11 b0 b1 b2 μ)) (v9 : Nat) (v10 : Nat) (v11 : Int32) (μ12 : x_M) : SM X 5 27 rkI p l e s m args below meth c 35 [(0, vR v9), (1, vR v10), (2, vI v11)] [] μ12 (f_X5_parse_J35 X k11 v9 v10 v11 μ12) := by
  unfold f_X5_parse_J35
  refine s_aload_n hC 0 dX5_parse_35 rfl ?_
  refine s_callV hC (x := v9) (avs := []) (st := []) (nest := false) xc5 (m_X5_takeWord hI v9 μ12) dX5_parse_36 qm_X5_35 qi_X5_takeWord qs_X5_takeWord qc_X5 qd_X5_takeWord qh_X5_takeWord (by decide) (fun _ => Nat.le_of_ble_eq_true rfl) (Nat.le_of_ble_eq_true rfl) (fun v13 μ14 => ?_)
  refine s_istore_n hC dX5_parse_39 (by decide) (lv' := [(3, vI v13), (0, vR v9), (1, vR v10), (2, vI v11)]) rfl ?_
  refine s_iload_n hC 0 dX5_parse_40 rfl ?_
  refine s_if_lt hC dX5_parse_41 (tgt := 60) (by decide) ?_ ?_
  · refine s_lv (lv' := [(0, vR v9), (1, vR v10), (2, vI v11), (3, vI v13)]) [1, 2, 3, 0] rfl ?_
    exact j_X5_parse_J60 hI hC hr hlk hk11 _ _ _ _ _
  refine s_aload_n hC 1 dX5_parse_44 rfl ?_
  refine s_bipush hC dX5_parse_45 (v := 32) (by decide) ?_
  refine s_callV hC (x := v9) (avs := [vI (32 : Int32)]) (st := []) (nest := false) xc5 (m_X5_take hI v9 (32 : Int32) μ14) dX5_parse_47 qm_X5_31 qi_X5_take qs_X5_take qc_X5 qd_X5_take qh_X5_take (by decide) (fun _ => Nat.le_of_ble_eq_true rfl) (Nat.le_of_ble_eq_true rfl) (fun v38 μ39 => ?_)
  refine s_if_eq hC dX5_parse_50 (tgt := 60) (by decide) ?_ ?_
  · refine s_lv (lv' := [(0, vR v9), (1, vR v10), (2, vI v11), (3, vI v13)]) [1, 2, 3, 0] rfl ?_
    exact j_X5_parse_J60 hI hC hr hlk hk11 _ _ _ _ _
  refine s_aload_n hC 1 dX5_parse_53 rfl ?_
  refine s_callV hC (x := v9) (avs := []) (st := []) (nest := false) xc5 (m_X5_takeNumber hI v9 μ39) dX5_parse_54 qm_X5_39 qi_X5_takeNumber qs_X5_takeNumber qc_X5 qd_X5_takeNumber qh_X5_takeNumber (by decide) (fun _ => Nat.le_of_ble_eq_true rfl) (Nat.le_of_ble_eq_true rfl) (fun v40 μ41 => ?_)
  refine s_goto hC dX5_parse_57 (tgt := 61) (by decide) ?_
  refine s_lv (lv' := [(0, vR v9), (1, vR v10), (2, vI v11), (3, vI v13)]) [1, 2, 3, 0] rfl ?_
  exact j_X5_parse_J61 hI hC hr hlk hk11 _ _ _ _ _ _
def f_X5_parse_L11 (X : x_X) : Nat → Nat → Nat → Int32 → x_M → Option (Int32 × x_M)
  | 0, _, _, _, _ => none
  | n + 1, v5, v6, v7, μ8 =>
    (if (10 : Int32) ≤ v7 then (ck (x_kd X v5 = 5 + 1) (some ((μ8.1 v5 2), μ8))) else (if v7 ≤ 0 then (f_X5_parse_J35 X (f_X5_parse_L11 X n) v5 v6 v7 μ8) else (ck (x_kd X v5 = 5 + 1) (bd (f_X5_take X v5 (59 : Int32) μ8) (fun (v42 : Int32) (μ43 : x_M) => (if v42 = 0 then (ck (x_kd X v5 = 5 + 1) (some ((μ43.1 v5 2), μ43))) else (f_X5_parse_J35 X (f_X5_parse_L11 X n) v5 v6 v7 μ43)))))))
set_option maxRecDepth 100000 in
theorem j_X5_parse_L11 (hI : x_I X) (hC : x_C X x_Z0 p (x_rm 27) s m c cX5_parse RX5 5 0 0 27) (hr : meth.sig.returnType = (some .int)) (hlk : meth.locks = false) : ∀ (n : Nat) (v5 : Nat) (v6 : Nat) (v7 : Int32) (μ8 : x_M), SM X 5 27 rkI p l e s m args below meth c 11 [(0, vR v5), (1, vR v6), (2, vI v7)] [] μ8 (f_X5_parse_L11 X n v5 v6 v7 μ8) := by
  intro n
  induction n with
  | zero => intro v5 v6 v7 μ8; exact s_none
  | succ n ih =>
    intro v5 v6 v7 μ8
    unfold f_X5_parse_L11
    refine s_iload_n hC 2 dX5_parse_11 rfl ?_
    refine s_bipush hC dX5_parse_12 (v := 10) (by decide) ?_
    refine s_icmp_ge hC dX5_parse_14 (tgt := 139) (by decide) ?_ ?_
    · refine s_aload_n hC 0 dX5_parse_139 rfl ?_
      refine s_getI hC xc5 (by decide) rfl qf_X5_23 dX5_parse_140 ?_
      exact s_iret hC hr hlk dX5_parse_143
    refine s_iload_n hC 2 dX5_parse_17 rfl ?_
    refine s_if_le hC dX5_parse_18 (tgt := 35) (by decide) ?_ ?_
    · exact j_X5_parse_J35 hI hC hr hlk ih _ _ _ _
    refine s_aload_n hC 0 dX5_parse_21 rfl ?_
    refine s_bipush hC dX5_parse_22 (v := 59) (by decide) ?_
    refine s_callV hC (x := v5) (avs := [vI (59 : Int32)]) (st := []) (nest := false) xc5 (m_X5_take hI v5 (59 : Int32) μ8) dX5_parse_24 qm_X5_31 qi_X5_take qs_X5_take qc_X5 qd_X5_take qh_X5_take (by decide) (fun _ => Nat.le_of_ble_eq_true rfl) (Nat.le_of_ble_eq_true rfl) (fun v42 μ43 => ?_)
    refine s_if_ne hC dX5_parse_27 (tgt := 35) (by decide) ?_ ?_
    · exact j_X5_parse_J35 hI hC hr hlk ih _ _ _ _
    refine s_aload_n hC 0 dX5_parse_30 rfl ?_
    refine s_getI hC xc5 (by decide) rfl qf_X5_23 dX5_parse_31 ?_
    exact s_iret hC hr hlk dX5_parse_34
def f_X5_parse (X : x_X) (v0 : Nat) (v1 : Nat) (μ : x_M) : Option (Int32 × x_M) :=
  (ck (x_kd X v0 = 5 + 1) (lt (x_sI μ v0 2 (0 : Int32)) (fun (μ3 : x_M) => (ck (x_kd X v1 = 4 + 1) (bd (f_X4_clear X v1 μ3) (fun (_ : Unit) (μ4 : x_M) => (f_X5_parse_L11 X 4096 v0 v1 (0 : Int32) μ4)))))))
set_option maxRecDepth 100000 in
theorem m_X5_parse (hI : x_I X) (v0 : Nat) (v1 : Nat) (μ : x_M) : x_Met X x_Z0 l yX5_parse cX5_parse 5 (some .int) 27 [vR v0, vR v1] μ rkI (f_X5_parse X v0 v1 μ) := by
  refine x_enter hI (by decide +kernel) (Nat.le_of_ble_eq_true rfl) (fun p e s m args below meth c hC hr hlk => ?_)
  unfold f_X5_parse
  refine s_lv (lv' := [(0, vR v0), (1, vR v1)]) [0, 1] rfl ?_
  refine s_aload_n hC 0 dX5_parse_0 rfl ?_
  refine s_iconst hC dX5_parse_1 (v := 0) (by decide) ?_
  refine s_putI hC xc5 (by decide) rfl rfl qf_X5_23 dX5_parse_2 ?_
  refine s_ltM (fun μ3 => ?_)
  refine s_aload_n hC 1 dX5_parse_5 rfl ?_
  refine s_callV hC (x := v1) (avs := []) (st := []) (nest := false) xc4 (m_X4_clear hI v1 μ3) dX5_parse_6 qm_X5_26 qi_X4_clear qs_X4_clear qc_X4 qd_X4_clear qh_X4_clear (by decide) (fun _ => Nat.le_of_ble_eq_true rfl) (Nat.le_of_ble_eq_true rfl) (fun _ μ4 => ?_)
  refine s_iconst hC dX5_parse_9 (v := 0) (by decide) ?_
  refine s_istore_n hC dX5_parse_10 (by decide) (lv' := [(2, vI (0 : Int32)), (0, vR v0), (1, vR v1)]) rfl ?_
  refine s_lv (lv' := [(0, vR v0), (1, vR v1), (2, vI (0 : Int32))]) [1, 2, 0] rfl ?_
  refine j_X5_parse_L11 hI hC hr hlk 4096 _ _ _ _
end
section
variable {X : x_X} {l : Launch} {p : Program} {e : Env} {s : State} {m : MethodId} {args : Array Value} {below : List Frame} {meth : Method} {c : Code}
theorem dX7_pourBy_0 : decode cX7_pourBy 0 = .ok (.iconst 0, 1) := by decide +kernel
theorem dX7_pourBy_1 : decode cX7_pourBy 1 = .ok (.aload_n 0, 1) := by decide +kernel
theorem dX7_pourBy_2 : decode cX7_pourBy 2 = .ok (.getfield 46, 3) := by decide +kernel
theorem dX7_pourBy_5 : decode cX7_pourBy 5 = .ok (.iload_n 2, 1) := by decide +kernel
theorem dX7_pourBy_6 : decode cX7_pourBy 6 = .ok (.isub, 1) := by decide +kernel
theorem dX7_pourBy_7 : decode cX7_pourBy 7 = .ok (.invokestatic 130, 3) := by decide +kernel
theorem dX7_pourBy_10 : decode cX7_pourBy 10 = .ok (.istore_n 3, 1) := by decide +kernel
theorem dX7_pourBy_11 : decode cX7_pourBy 11 = .ok (.aload_n 1, 1) := by decide +kernel
theorem dX7_pourBy_12 : decode cX7_pourBy 12 = .ok (.getfield 116, 3) := by decide +kernel
theorem dX7_pourBy_15 : decode cX7_pourBy 15 = .ok (.iload_n 3, 1) := by decide +kernel
theorem dX7_pourBy_16 : decode cX7_pourBy 16 = .ok (.ineg, 1) := by decide +kernel
theorem dX7_pourBy_17 : decode cX7_pourBy 17 = .ok (.invokestatic 130, 3) := by decide +kernel
theorem dX7_pourBy_20 : decode cX7_pourBy 20 = .ok (.istore 4, 2) := by decide +kernel
theorem dX7_pourBy_22 : decode cX7_pourBy 22 = .ok (.aload_n 1, 1) := by decide +kernel
theorem dX7_pourBy_23 : decode cX7_pourBy 23 = .ok (.dup, 1) := by decide +kernel
theorem dX7_pourBy_24 : decode cX7_pourBy 24 = .ok (.getfield 69, 3) := by decide +kernel
theorem dX7_pourBy_27 : decode cX7_pourBy 27 = .ok (.iload 4, 2) := by decide +kernel
theorem dX7_pourBy_29 : decode cX7_pourBy 29 = .ok (.iadd, 1) := by decide +kernel
theorem dX7_pourBy_30 : decode cX7_pourBy 30 = .ok (.putfield 69, 3) := by decide +kernel
theorem dX7_pourBy_33 : decode cX7_pourBy 33 = .ok (.aload_n 0, 1) := by decide +kernel
theorem dX7_pourBy_34 : decode cX7_pourBy 34 = .ok (.dup, 1) := by decide +kernel
theorem dX7_pourBy_35 : decode cX7_pourBy 35 = .ok (.getfield 46, 3) := by decide +kernel
theorem dX7_pourBy_38 : decode cX7_pourBy 38 = .ok (.iload 4, 2) := by decide +kernel
theorem dX7_pourBy_40 : decode cX7_pourBy 40 = .ok (.iadd, 1) := by decide +kernel
theorem dX7_pourBy_41 : decode cX7_pourBy 41 = .ok (.putfield 46, 3) := by decide +kernel
theorem dX7_pourBy_44 : decode cX7_pourBy 44 = .ok (.return_, 1) := by decide +kernel
def f_X7_pourBy (X : x_X) (v0 : Nat) (v1 : Nat) (v2 : Int32) (μ : x_M) : Option (Unit × x_M) :=
  (ck (x_kd X v0 = 7 + 1) (lt ((μ.1 v0 7) - v2) (fun (v4 : Int32) => (lt (if (0 : Int32) < v4 then v4 else (0 : Int32)) (fun (v5 : Int32) => (ck (x_kd X v1 = 0 + 1) (lt (-v5) (fun (v6 : Int32) => (lt (μ.1 v1 8) (fun (v7 : Int32) => (lt (if v7 < v6 then v6 else v7) (fun (v8 : Int32) => (ck (x_kd X v1 = 0 + 1) (ck (x_kd X v1 = 0 + 1) (lt (x_sI μ v1 5 ((μ.1 v1 5) + v8)) (fun (μ9 : x_M) => (ck (x_kd X v0 = 7 + 1) (ck (x_kd X v0 = 7 + 1) (lt (x_sI μ9 v0 7 ((μ9.1 v0 7) + v8)) (fun (μ10 : x_M) => (some ((), μ10))))))))))))))))))))))
set_option maxRecDepth 100000 in
theorem m_X7_pourBy (hI : x_I X) (v0 : Nat) (v1 : Nat) (v2 : Int32) (μ : x_M) : x_Met X x_Z0 l yX7_pourBy cX7_pourBy 5 none 1 [vR v0, vR v1, vI v2] μ rkV (f_X7_pourBy X v0 v1 v2 μ) := by
  refine x_enter hI (by decide +kernel) (Nat.le_of_ble_eq_true rfl) (fun p e s m args below meth c hC hr hlk => ?_)
  unfold f_X7_pourBy
  refine s_lv (lv' := [(0, vR v0), (1, vR v1), (2, vI v2)]) [0, 1, 2] rfl ?_
  refine s_iconst hC dX7_pourBy_0 (v := 0) (by decide) ?_
  refine s_aload_n hC 0 dX7_pourBy_1 rfl ?_
  refine s_getI hC xc7 (by decide) rfl qf_X7_46 dX7_pourBy_2 ?_
  refine s_iload_n hC 2 dX7_pourBy_5 rfl ?_
  refine s_isub hC dX7_pourBy_6 ?_
  refine s_ltI (fun v4 => ?_)
  refine s_max hC dX7_pourBy_7 qm_X7_130 qt_Math_max qc_Math qd_Math_max (by decide) (Nat.le_of_ble_eq_true rfl) ?_
  refine s_ltI (fun v5 => ?_)
  refine s_istore_n hC dX7_pourBy_10 (by decide) (lv' := [(3, vI v5), (0, vR v0), (1, vR v1), (2, vI v2)]) rfl ?_
  refine s_aload_n hC 2 dX7_pourBy_11 rfl ?_
  refine s_getI hC xc0 (by decide) rfl qf_X7_116 dX7_pourBy_12 ?_
  refine s_iload_n hC 0 dX7_pourBy_15 rfl ?_
  refine s_ineg hC dX7_pourBy_16 ?_
  refine s_ltI (fun v6 => ?_)
  refine s_ltI2 (fun v7 => ?_)
  refine s_max hC dX7_pourBy_17 qm_X7_130 qt_Math_max qc_Math qd_Math_max (by decide) (Nat.le_of_ble_eq_true rfl) ?_
  refine s_ltI (fun v8 => ?_)
  refine s_istore hC dX7_pourBy_20 (by decide) (lv' := [(4, vI v8), (3, vI v5), (0, vR v0), (1, vR v1), (2, vI v2)]) rfl ?_
  refine s_aload_n hC 3 dX7_pourBy_22 rfl ?_
  refine s_dupR hC dX7_pourBy_23 ?_
  refine s_getI hC xc0 (by decide) rfl qf_X7_69 dX7_pourBy_24 ?_
  refine s_iload hC 0 dX7_pourBy_27 rfl ?_
  refine s_iadd hC dX7_pourBy_29 ?_
  refine s_putI hC xc0 (by decide) rfl rfl qf_X7_69 dX7_pourBy_30 ?_
  refine s_ltM (fun μ9 => ?_)
  refine s_aload_n hC 2 dX7_pourBy_33 rfl ?_
  refine s_dupR hC dX7_pourBy_34 ?_
  refine s_getI hC xc7 (by decide) rfl qf_X7_46 dX7_pourBy_35 ?_
  refine s_iload hC 0 dX7_pourBy_38 rfl ?_
  refine s_iadd hC dX7_pourBy_40 ?_
  refine s_putI hC xc7 (by decide) rfl rfl qf_X7_46 dX7_pourBy_41 ?_
  refine s_ltM (fun μ10 => ?_)
  exact s_vret hC hr hlk dX7_pourBy_44
theorem dX7_spillTo_0 : decode cX7_spillTo 0 = .ok (.aload_n 0, 1) := by decide +kernel
theorem dX7_spillTo_1 : decode cX7_spillTo 1 = .ok (.getfield 46, 3) := by decide +kernel
theorem dX7_spillTo_4 : decode cX7_spillTo 4 = .ok (.iload_n 1, 1) := by decide +kernel
theorem dX7_spillTo_5 : decode cX7_spillTo 5 = .ok (.if_icmp .le 28, 3) := by decide +kernel
theorem dX7_spillTo_8 : decode cX7_spillTo 8 = .ok (.aload_n 0, 1) := by decide +kernel
theorem dX7_spillTo_9 : decode cX7_spillTo 9 = .ok (.ldc 145, 2) := by decide +kernel
theorem dX7_spillTo_11 : decode cX7_spillTo 11 = .ok (.aload_n 0, 1) := by decide +kernel
theorem dX7_spillTo_12 : decode cX7_spillTo 12 = .ok (.getfield 146, 3) := by decide +kernel
theorem dX7_spillTo_15 : decode cX7_spillTo 15 = .ok (.aload_n 0, 1) := by decide +kernel
theorem dX7_spillTo_16 : decode cX7_spillTo 16 = .ok (.getfield 46, 3) := by decide +kernel
theorem dX7_spillTo_19 : decode cX7_spillTo 19 = .ok (.iadd, 1) := by decide +kernel
theorem dX7_spillTo_20 : decode cX7_spillTo 20 = .ok (.iload_n 1, 1) := by decide +kernel
theorem dX7_spillTo_21 : decode cX7_spillTo 21 = .ok (.isub, 1) := by decide +kernel
theorem dX7_spillTo_22 : decode cX7_spillTo 22 = .ok (.invokestatic 149, 3) := by decide +kernel
theorem dX7_spillTo_25 : decode cX7_spillTo 25 = .ok (.putfield 146, 3) := by decide +kernel
theorem dX7_spillTo_28 : decode cX7_spillTo 28 = .ok (.aload_n 0, 1) := by decide +kernel
theorem dX7_spillTo_29 : decode cX7_spillTo 29 = .ok (.iload_n 1, 1) := by decide +kernel
theorem dX7_spillTo_30 : decode cX7_spillTo 30 = .ok (.putfield 46, 3) := by decide +kernel
theorem dX7_spillTo_33 : decode cX7_spillTo 33 = .ok (.return_, 1) := by decide +kernel
def f_X7_spillTo (X : x_X) (v0 : Nat) (v1 : Int32) (μ : x_M) : Option (Unit × x_M) :=
  (ck (x_kd X v0 = 7 + 1) (if (μ.1 v0 7) ≤ v1 then (some ((), μ)) else (ck (x_kd X v0 = 7 + 1) (ck (x_kd X v0 = 7 + 1) (lt (((μ.1 v0 8) + (μ.1 v0 7)) - v1) (fun (v3 : Int32) => (ck (x_kd X v0 = 7 + 1) (lt (x_sI μ v0 8 (if v3 < (99999 : Int32) then v3 else (99999 : Int32))) (fun (μ4 : x_M) => (ck (x_kd X v0 = 7 + 1) (lt (x_sI μ4 v0 7 v1) (fun (μ5 : x_M) => (some ((), μ5))))))))))))))
set_option maxRecDepth 100000 in
theorem m_X7_spillTo (hI : x_I X) (v0 : Nat) (v1 : Int32) (μ : x_M) : x_Met X x_Z0 l yX7_spillTo cX7_spillTo 2 none 1 [vR v0, vI v1] μ rkV (f_X7_spillTo X v0 v1 μ) := by
  refine x_enter hI (by decide +kernel) (Nat.le_of_ble_eq_true rfl) (fun p e s m args below meth c hC hr hlk => ?_)
  unfold f_X7_spillTo
  refine s_lv (lv' := [(0, vR v0), (1, vI v1)]) [0, 1] rfl ?_
  refine s_aload_n hC 0 dX7_spillTo_0 rfl ?_
  refine s_getI hC xc7 (by decide) rfl qf_X7_46 dX7_spillTo_1 ?_
  refine s_iload_n hC 1 dX7_spillTo_4 rfl ?_
  refine s_icmp_le hC dX7_spillTo_5 (tgt := 33) (by decide) ?_ ?_
  · exact s_vret hC hr hlk dX7_spillTo_33
  refine s_aload_n hC 0 dX7_spillTo_8 rfl ?_
  refine s_ldc hC dX7_spillTo_9 qk_X7_145 ?_
  refine s_aload_n hC 0 dX7_spillTo_11 rfl ?_
  refine s_getI hC xc7 (by decide) rfl qf_X7_146 dX7_spillTo_12 ?_
  refine s_aload_n hC 0 dX7_spillTo_15 rfl ?_
  refine s_getI hC xc7 (by decide) rfl qf_X7_46 dX7_spillTo_16 ?_
  refine s_iadd hC dX7_spillTo_19 ?_
  refine s_iload_n hC 1 dX7_spillTo_20 rfl ?_
  refine s_isub hC dX7_spillTo_21 ?_
  refine s_ltI (fun v3 => ?_)
  refine s_min hC dX7_spillTo_22 qm_X7_149 qt_Math_min qc_Math qd_Math_min (by decide) (Nat.le_of_ble_eq_true rfl) ?_
  refine s_putI hC xc7 (by decide) rfl rfl qf_X7_146 dX7_spillTo_25 ?_
  refine s_ltM (fun μ4 => ?_)
  refine s_aload_n hC 0 dX7_spillTo_28 rfl ?_
  refine s_iload_n hC 1 dX7_spillTo_29 rfl ?_
  refine s_putI hC xc7 (by decide) rfl rfl qf_X7_46 dX7_spillTo_30 ?_
  refine s_ltM (fun μ5 => ?_)
  exact s_vret hC hr hlk dX7_spillTo_33
theorem dX7_find_0 : decode cX7_find 0 = .ok (.iload_n 1, 1) := by decide +kernel
theorem dX7_find_1 : decode cX7_find 1 = .ok (.ifCond .lt 26, 3) := by decide +kernel
theorem dX7_find_4 : decode cX7_find 4 = .ok (.iload_n 1, 1) := by decide +kernel
theorem dX7_find_5 : decode cX7_find 5 = .ok (.aload_n 0, 1) := by decide +kernel
theorem dX7_find_6 : decode cX7_find 6 = .ok (.getfield 54, 3) := by decide +kernel
theorem dX7_find_9 : decode cX7_find 9 = .ok (.if_icmp .ge 18, 3) := by decide +kernel
theorem dX7_find_12 : decode cX7_find 12 = .ok (.iload_n 1, 1) := by decide +kernel
theorem dX7_find_13 : decode cX7_find 13 = .ok (.bipush 6, 2) := by decide +kernel
theorem dX7_find_15 : decode cX7_find 15 = .ok (.if_icmp .ge 12, 3) := by decide +kernel
theorem dX7_find_18 : decode cX7_find 18 = .ok (.aload_n 0, 1) := by decide +kernel
theorem dX7_find_19 : decode cX7_find 19 = .ok (.getfield 20, 3) := by decide +kernel
theorem dX7_find_22 : decode cX7_find 22 = .ok (.iload_n 1, 1) := by decide +kernel
theorem dX7_find_23 : decode cX7_find 23 = .ok (.aaload, 1) := by decide +kernel
theorem dX7_find_24 : decode cX7_find 24 = .ok (.goto 4, 3) := by decide +kernel
theorem dX7_find_27 : decode cX7_find 27 = .ok (.aconst_null, 1) := by decide +kernel
theorem dX7_find_28 : decode cX7_find 28 = .ok (.areturn, 1) := by decide +kernel
def f_X7_find (X : x_X) (v0 : Nat) (v1 : Int32) (μ : x_M) : Option (Nat × x_M) :=
  (if v1 < 0 then (some (0, μ)) else (ck (x_kd X v0 = 7 + 1) (if (μ.1 v0 6) ≤ v1 then (some (0, μ)) else (if (6 : Int32) ≤ v1 then (some (0, μ)) else (ck (x_kd X v0 = 7 + 1) (lt (μ.2.1 v0 1) (fun (v3 : Nat) => (ck ((x_kd X v3 = 23 ∨ x_kd X v3 = 24 ∨ x_kd X v3 = 25) ∧ x_ix v1 (x_ln X v3)) (lt (μ.2.1 v3 (v1).toNatClampNeg) (fun (v4 : Nat) => (some (v4, μ))))))))))))
set_option maxRecDepth 100000 in
theorem m_X7_find (hI : x_I X) (v0 : Nat) (v1 : Int32) (μ : x_M) : x_Met X x_Z0 l yX7_find cX7_find 2 (some (.object "LakeBooks$Account")) 1 [vR v0, vI v1] μ rkR (f_X7_find X v0 v1 μ) := by
  refine x_enter hI (by decide +kernel) (Nat.le_of_ble_eq_true rfl) (fun p e s m args below meth c hC hr hlk => ?_)
  unfold f_X7_find
  refine s_lv (lv' := [(0, vR v0), (1, vI v1)]) [0, 1] rfl ?_
  refine s_iload_n hC 1 dX7_find_0 rfl ?_
  refine s_if_lt hC dX7_find_1 (tgt := 27) (by decide) ?_ ?_
  · refine s_null hC dX7_find_27 ?_
    exact s_aret hC hr (Or.inl ⟨_, rfl⟩) hlk dX7_find_28
  refine s_iload_n hC 1 dX7_find_4 rfl ?_
  refine s_aload_n hC 0 dX7_find_5 rfl ?_
  refine s_getI hC xc7 (by decide) rfl qf_X7_54 dX7_find_6 ?_
  refine s_icmp_ge hC dX7_find_9 (tgt := 27) (by decide) ?_ ?_
  · refine s_null hC dX7_find_27 ?_
    exact s_aret hC hr (Or.inl ⟨_, rfl⟩) hlk dX7_find_28
  refine s_iload_n hC 1 dX7_find_12 rfl ?_
  refine s_bipush hC dX7_find_13 (v := 6) (by decide) ?_
  refine s_icmp_ge hC dX7_find_15 (tgt := 27) (by decide) ?_ ?_
  · refine s_null hC dX7_find_27 ?_
    exact s_aret hC hr (Or.inl ⟨_, rfl⟩) hlk dX7_find_28
  refine s_aload_n hC 0 dX7_find_18 rfl ?_
  refine s_getR hC xc7 (by decide) rfl qf_X7_20 dX7_find_19 ?_
  refine s_ltR (fun v3 => ?_)
  refine s_iload_n hC 1 dX7_find_22 rfl ?_
  refine s_aald hC dX7_find_23 ?_
  refine s_ltR (fun v4 => ?_)
  refine s_goto hC dX7_find_24 (tgt := 28) (by decide) ?_
  exact s_aret hC hr (Or.inl ⟨_, rfl⟩) hlk dX7_find_28
theorem dX7_sunOfDay_0 : decode cX7_sunOfDay 0 = .ok (.iconst 0, 1) := by decide +kernel
theorem dX7_sunOfDay_1 : decode cX7_sunOfDay 1 = .ok (.istore_n 1, 1) := by decide +kernel
theorem dX7_sunOfDay_2 : decode cX7_sunOfDay 2 = .ok (.aload_n 0, 1) := by decide +kernel
theorem dX7_sunOfDay_3 : decode cX7_sunOfDay 3 = .ok (.getfield 20, 3) := by decide +kernel
theorem dX7_sunOfDay_6 : decode cX7_sunOfDay 6 = .ok (.astore_n 2, 1) := by decide +kernel
theorem dX7_sunOfDay_7 : decode cX7_sunOfDay 7 = .ok (.aload_n 2, 1) := by decide +kernel
theorem dX7_sunOfDay_8 : decode cX7_sunOfDay 8 = .ok (.arraylength, 1) := by decide +kernel
theorem dX7_sunOfDay_9 : decode cX7_sunOfDay 9 = .ok (.istore_n 3, 1) := by decide +kernel
theorem dX7_sunOfDay_10 : decode cX7_sunOfDay 10 = .ok (.iconst 0, 1) := by decide +kernel
theorem dX7_sunOfDay_11 : decode cX7_sunOfDay 11 = .ok (.istore 4, 2) := by decide +kernel
theorem dX7_sunOfDay_13 : decode cX7_sunOfDay 13 = .ok (.iload 4, 2) := by decide +kernel
theorem dX7_sunOfDay_15 : decode cX7_sunOfDay 15 = .ok (.iload_n 3, 1) := by decide +kernel
theorem dX7_sunOfDay_16 : decode cX7_sunOfDay 16 = .ok (.if_icmp .ge 23, 3) := by decide +kernel
theorem dX7_sunOfDay_19 : decode cX7_sunOfDay 19 = .ok (.aload_n 2, 1) := by decide +kernel
theorem dX7_sunOfDay_20 : decode cX7_sunOfDay 20 = .ok (.iload 4, 2) := by decide +kernel
theorem dX7_sunOfDay_22 : decode cX7_sunOfDay 22 = .ok (.aaload, 1) := by decide +kernel
theorem dX7_sunOfDay_23 : decode cX7_sunOfDay 23 = .ok (.astore 5, 2) := by decide +kernel
theorem dX7_sunOfDay_25 : decode cX7_sunOfDay 25 = .ok (.iload_n 1, 1) := by decide +kernel
theorem dX7_sunOfDay_26 : decode cX7_sunOfDay 26 = .ok (.aload 5, 2) := by decide +kernel
theorem dX7_sunOfDay_28 : decode cX7_sunOfDay 28 = .ok (.getfield 103, 3) := by decide +kernel
theorem dX7_sunOfDay_31 : decode cX7_sunOfDay 31 = .ok (.iadd, 1) := by decide +kernel
theorem dX7_sunOfDay_32 : decode cX7_sunOfDay 32 = .ok (.istore_n 1, 1) := by decide +kernel
theorem dX7_sunOfDay_33 : decode cX7_sunOfDay 33 = .ok (.iinc 4 1, 3) := by decide +kernel
theorem dX7_sunOfDay_36 : decode cX7_sunOfDay 36 = .ok (.goto (-23), 3) := by decide +kernel
theorem dX7_sunOfDay_39 : decode cX7_sunOfDay 39 = .ok (.iload_n 1, 1) := by decide +kernel
theorem dX7_sunOfDay_40 : decode cX7_sunOfDay 40 = .ok (.ireturn, 1) := by decide +kernel
def f_X7_sunOfDay_L13 (X : x_X) : Nat → Int32 → Nat → Int32 → Int32 → x_M → Option (Int32 × x_M)
  | 0, _, _, _, _, _ => none
  | n + 1, v4, v5, v6, v7, μ8 =>
    (if v6 ≤ v7 then (some (v4, μ8)) else (ck ((x_kd X v5 = 23 ∨ x_kd X v5 = 24 ∨ x_kd X v5 = 25) ∧ x_ix v7 (x_ln X v5)) (lt (μ8.2.1 v5 (v7).toNatClampNeg) (fun (v9 : Nat) => (ck (x_kd X v9 = 0 + 1) (lt (v4 + (μ8.1 v9 9)) (fun (v10 : Int32) => (f_X7_sunOfDay_L13 X n v10 v5 v6 (v7 + (1 : Int32)) μ8))))))))
set_option maxRecDepth 100000 in
theorem j_X7_sunOfDay_L13 (hI : x_I X) (hC : x_C X x_Z0 p (x_rm 1) s m c cX7_sunOfDay RX7 6 0 0 1) (hr : meth.sig.returnType = (some .int)) (hlk : meth.locks = false) : ∀ (n : Nat) (v4 : Int32) (v5 : Nat) (v6 : Int32) (v7 : Int32) (μ8 : x_M), SM X 6 1 rkI p l e s m args below meth c 13 [(1, vI v4), (2, vR v5), (3, vI v6), (4, vI v7)] [] μ8 (f_X7_sunOfDay_L13 X n v4 v5 v6 v7 μ8) := by
  intro n
  induction n with
  | zero => intro v4 v5 v6 v7 μ8; exact s_none
  | succ n ih =>
    intro v4 v5 v6 v7 μ8
    unfold f_X7_sunOfDay_L13
    refine s_iload hC 3 dX7_sunOfDay_13 rfl ?_
    refine s_iload_n hC 2 dX7_sunOfDay_15 rfl ?_
    refine s_icmp_ge hC dX7_sunOfDay_16 (tgt := 39) (by decide) ?_ ?_
    · refine s_iload_n hC 0 dX7_sunOfDay_39 rfl ?_
      exact s_iret hC hr hlk dX7_sunOfDay_40
    refine s_aload_n hC 1 dX7_sunOfDay_19 rfl ?_
    refine s_iload hC 3 dX7_sunOfDay_20 rfl ?_
    refine s_aald hC dX7_sunOfDay_22 ?_
    refine s_ltR (fun v9 => ?_)
    refine s_astore hC dX7_sunOfDay_23 (by decide) (lv' := [(5, vR v9), (1, vI v4), (2, vR v5), (3, vI v6), (4, vI v7)]) rfl ?_
    refine s_iload_n hC 1 dX7_sunOfDay_25 rfl ?_
    refine s_aload hC 0 dX7_sunOfDay_26 rfl ?_
    refine s_getI hC xc0 (by decide) rfl qf_X7_103 dX7_sunOfDay_28 ?_
    refine s_iadd hC dX7_sunOfDay_31 ?_
    refine s_ltI (fun v10 => ?_)
    refine s_istore_n hC dX7_sunOfDay_32 (by decide) (lv' := [(1, vI v10), (5, vR v9), (2, vR v5), (3, vI v6), (4, vI v7)]) rfl ?_
    refine s_iinc hC 4 dX7_sunOfDay_33 rfl (w := 1) (by decide) (by decide) (lv' := [(4, vI (v7 + (1 : Int32))), (1, vI v10), (5, vR v9), (2, vR v5), (3, vI v6)]) rfl ?_
    refine s_goto hC dX7_sunOfDay_36 (tgt := 13) (by decide) ?_
    refine s_lv (lv' := [(1, vI v10), (2, vR v5), (3, vI v6), (4, vI (v7 + (1 : Int32)))]) [1, 3, 4, 0] rfl ?_
    exact ih _ _ _ _ _
def f_X7_sunOfDay (X : x_X) (v0 : Nat) (μ : x_M) : Option (Int32 × x_M) :=
  (ck (x_kd X v0 = 7 + 1) (lt (μ.2.1 v0 1) (fun (v2 : Nat) => (ck (x_kd X v2 = 20 ∨ x_kd X v2 = 23 ∨ x_kd X v2 = 40 ∨ x_kd X v2 = 41) (lt (nI (x_ln X v2)) (fun (v3 : Int32) => (f_X7_sunOfDay_L13 X 4096 (0 : Int32) v2 v3 (0 : Int32) μ)))))))
set_option maxRecDepth 100000 in
theorem m_X7_sunOfDay (hI : x_I X) (v0 : Nat) (μ : x_M) : x_Met X x_Z0 l yX7_sunOfDay cX7_sunOfDay 6 (some .int) 1 [vR v0] μ rkI (f_X7_sunOfDay X v0 μ) := by
  refine x_enter hI (by decide +kernel) (Nat.le_of_ble_eq_true rfl) (fun p e s m args below meth c hC hr hlk => ?_)
  unfold f_X7_sunOfDay
  refine s_lv (lv' := [(0, vR v0)]) [0] rfl ?_
  refine s_iconst hC dX7_sunOfDay_0 (v := 0) (by decide) ?_
  refine s_istore_n hC dX7_sunOfDay_1 (by decide) (lv' := [(1, vI (0 : Int32)), (0, vR v0)]) rfl ?_
  refine s_aload_n hC 1 dX7_sunOfDay_2 rfl ?_
  refine s_getR hC xc7 (by decide) rfl qf_X7_20 dX7_sunOfDay_3 ?_
  refine s_ltR (fun v2 => ?_)
  refine s_astore_n hC dX7_sunOfDay_6 (by decide) (lv' := [(2, vR v2), (1, vI (0 : Int32)), (0, vR v0)]) rfl ?_
  refine s_aload_n hC 0 dX7_sunOfDay_7 rfl ?_
  refine s_alen hC dX7_sunOfDay_8 ?_
  refine s_ltI (fun v3 => ?_)
  refine s_istore_n hC dX7_sunOfDay_9 (by decide) (lv' := [(3, vI v3), (2, vR v2), (1, vI (0 : Int32)), (0, vR v0)]) rfl ?_
  refine s_iconst hC dX7_sunOfDay_10 (v := 0) (by decide) ?_
  refine s_istore hC dX7_sunOfDay_11 (by decide) (lv' := [(4, vI (0 : Int32)), (3, vI v3), (2, vR v2), (1, vI (0 : Int32)), (0, vR v0)]) rfl ?_
  refine s_lv (lv' := [(1, vI (0 : Int32)), (2, vR v2), (3, vI v3), (4, vI (0 : Int32))]) [3, 2, 1, 0] rfl ?_
  refine j_X7_sunOfDay_L13 hI hC hr hlk 4096 _ _ _ _ _
theorem dX7_level_0 : decode cX7_level 0 = .ok (.aload_n 0, 1) := by decide +kernel
theorem dX7_level_1 : decode cX7_level 1 = .ok (.getfield 46, 3) := by decide +kernel
theorem dX7_level_4 : decode cX7_level 4 = .ok (.istore_n 1, 1) := by decide +kernel
theorem dX7_level_5 : decode cX7_level 5 = .ok (.aload_n 0, 1) := by decide +kernel
theorem dX7_level_6 : decode cX7_level 6 = .ok (.getfield 20, 3) := by decide +kernel
theorem dX7_level_9 : decode cX7_level 9 = .ok (.astore_n 2, 1) := by decide +kernel
theorem dX7_level_10 : decode cX7_level 10 = .ok (.aload_n 2, 1) := by decide +kernel
theorem dX7_level_11 : decode cX7_level 11 = .ok (.arraylength, 1) := by decide +kernel
theorem dX7_level_12 : decode cX7_level 12 = .ok (.istore_n 3, 1) := by decide +kernel
theorem dX7_level_13 : decode cX7_level 13 = .ok (.iconst 0, 1) := by decide +kernel
theorem dX7_level_14 : decode cX7_level 14 = .ok (.istore 4, 2) := by decide +kernel
theorem dX7_level_16 : decode cX7_level 16 = .ok (.iload 4, 2) := by decide +kernel
theorem dX7_level_18 : decode cX7_level 18 = .ok (.iload_n 3, 1) := by decide +kernel
theorem dX7_level_19 : decode cX7_level 19 = .ok (.if_icmp .ge 23, 3) := by decide +kernel
theorem dX7_level_22 : decode cX7_level 22 = .ok (.aload_n 2, 1) := by decide +kernel
theorem dX7_level_23 : decode cX7_level 23 = .ok (.iload 4, 2) := by decide +kernel
theorem dX7_level_25 : decode cX7_level 25 = .ok (.aaload, 1) := by decide +kernel
theorem dX7_level_26 : decode cX7_level 26 = .ok (.astore 5, 2) := by decide +kernel
theorem dX7_level_28 : decode cX7_level 28 = .ok (.iload_n 1, 1) := by decide +kernel
theorem dX7_level_29 : decode cX7_level 29 = .ok (.aload 5, 2) := by decide +kernel
theorem dX7_level_31 : decode cX7_level 31 = .ok (.invokevirtual 72, 3) := by decide +kernel
theorem dX7_level_34 : decode cX7_level 34 = .ok (.iadd, 1) := by decide +kernel
theorem dX7_level_35 : decode cX7_level 35 = .ok (.istore_n 1, 1) := by decide +kernel
theorem dX7_level_36 : decode cX7_level 36 = .ok (.iinc 4 1, 3) := by decide +kernel
theorem dX7_level_39 : decode cX7_level 39 = .ok (.goto (-23), 3) := by decide +kernel
theorem dX7_level_42 : decode cX7_level 42 = .ok (.aload_n 0, 1) := by decide +kernel
theorem dX7_level_43 : decode cX7_level 43 = .ok (.getfield 12, 3) := by decide +kernel
theorem dX7_level_46 : decode cX7_level 46 = .ok (.iload_n 1, 1) := by decide +kernel
theorem dX7_level_47 : decode cX7_level 47 = .ok (.invokevirtual 76, 3) := by decide +kernel
theorem dX7_level_50 : decode cX7_level 50 = .ok (.ireturn, 1) := by decide +kernel
def f_X7_level_L16 (X : x_X) : Nat → Nat → Int32 → Nat → Int32 → Int32 → x_M → Option (Int32 × x_M)
  | 0, _, _, _, _, _, _ => none
  | n + 1, v5, v6, v7, v8, v9, μ10 =>
    (if v8 ≤ v9 then (ck (x_kd X v5 = 7 + 1) (lt (μ10.2.1 v5 0) (fun (v11 : Nat) => (ck (x_kd X v11 = 3 + 1) (bd (f_X3_levelOf X v11 v6 μ10) (fun (v12 : Int32) (μ13 : x_M) => (some (v12, μ13)))))))) else (ck ((x_kd X v7 = 23 ∨ x_kd X v7 = 24 ∨ x_kd X v7 = 25) ∧ x_ix v9 (x_ln X v7)) (lt (μ10.2.1 v7 (v9).toNatClampNeg) (fun (v14 : Nat) => (ck (x_kd X v14 = 0 + 1) (bd (f_X0_lifts X v14 μ10) (fun (v15 : Int32) (μ16 : x_M) => (lt (v6 + v15) (fun (v17 : Int32) => (f_X7_level_L16 X n v5 v17 v7 v8 (v9 + (1 : Int32)) μ16))))))))))
set_option maxRecDepth 100000 in
theorem j_X7_level_L16 (hI : x_I X) (hC : x_C X x_Z0 p (x_rm 2) s m c cX7_level RX7 6 0 0 2) (hr : meth.sig.returnType = (some .int)) (hlk : meth.locks = false) : ∀ (n : Nat) (v5 : Nat) (v6 : Int32) (v7 : Nat) (v8 : Int32) (v9 : Int32) (μ10 : x_M), SM X 6 2 rkI p l e s m args below meth c 16 [(0, vR v5), (1, vI v6), (2, vR v7), (3, vI v8), (4, vI v9)] [] μ10 (f_X7_level_L16 X n v5 v6 v7 v8 v9 μ10) := by
  intro n
  induction n with
  | zero => intro v5 v6 v7 v8 v9 μ10; exact s_none
  | succ n ih =>
    intro v5 v6 v7 v8 v9 μ10
    unfold f_X7_level_L16
    refine s_iload hC 4 dX7_level_16 rfl ?_
    refine s_iload_n hC 3 dX7_level_18 rfl ?_
    refine s_icmp_ge hC dX7_level_19 (tgt := 42) (by decide) ?_ ?_
    · refine s_aload_n hC 0 dX7_level_42 rfl ?_
      refine s_getR hC xc7 (by decide) rfl qf_X7_12 dX7_level_43 ?_
      refine s_ltR (fun v11 => ?_)
      refine s_iload_n hC 1 dX7_level_46 rfl ?_
      refine s_callV hC (x := v11) (avs := [vI v6]) (st := []) (nest := false) xc3 (m_X3_levelOf hI v11 v6 μ10) dX7_level_47 qm_X7_76 qi_X3_levelOf qs_X3_levelOf qc_X3 qd_X3_levelOf qh_X3_levelOf (by decide) (fun _ => Nat.le_of_ble_eq_true rfl) (Nat.le_of_ble_eq_true rfl) (fun v12 μ13 => ?_)
      exact s_iret hC hr hlk dX7_level_50
    refine s_aload_n hC 2 dX7_level_22 rfl ?_
    refine s_iload hC 4 dX7_level_23 rfl ?_
    refine s_aald hC dX7_level_25 ?_
    refine s_ltR (fun v14 => ?_)
    refine s_astore hC dX7_level_26 (by decide) (lv' := [(5, vR v14), (0, vR v5), (1, vI v6), (2, vR v7), (3, vI v8), (4, vI v9)]) rfl ?_
    refine s_iload_n hC 2 dX7_level_28 rfl ?_
    refine s_aload hC 0 dX7_level_29 rfl ?_
    refine s_callV hC (x := v14) (avs := []) (st := [vI v6]) (nest := false) xc0 (m_X0_lifts hI v14 μ10) dX7_level_31 qm_X7_72 qi_X0_lifts qs_X0_lifts qc_X0 qd_X0_lifts qh_X0_lifts (by decide) (fun _ => Nat.le_of_ble_eq_true rfl) (Nat.le_of_ble_eq_true rfl) (fun v15 μ16 => ?_)
    refine s_iadd hC dX7_level_34 ?_
    refine s_ltI (fun v17 => ?_)
    refine s_istore_n hC dX7_level_35 (by decide) (lv' := [(1, vI v17), (5, vR v14), (0, vR v5), (2, vR v7), (3, vI v8), (4, vI v9)]) rfl ?_
    refine s_iinc hC 5 dX7_level_36 rfl (w := 1) (by decide) (by decide) (lv' := [(4, vI (v9 + (1 : Int32))), (1, vI v17), (5, vR v14), (0, vR v5), (2, vR v7), (3, vI v8)]) rfl ?_
    refine s_goto hC dX7_level_39 (tgt := 16) (by decide) ?_
    refine s_lv (lv' := [(0, vR v5), (1, vI v17), (2, vR v7), (3, vI v8), (4, vI (v9 + (1 : Int32)))]) [3, 1, 4, 5, 0] rfl ?_
    exact ih _ _ _ _ _ _
def f_X7_level (X : x_X) (v0 : Nat) (μ : x_M) : Option (Int32 × x_M) :=
  (ck (x_kd X v0 = 7 + 1) (lt (μ.1 v0 7) (fun (v2 : Int32) => (ck (x_kd X v0 = 7 + 1) (lt (μ.2.1 v0 1) (fun (v3 : Nat) => (ck (x_kd X v3 = 20 ∨ x_kd X v3 = 23 ∨ x_kd X v3 = 40 ∨ x_kd X v3 = 41) (lt (nI (x_ln X v3)) (fun (v4 : Int32) => (f_X7_level_L16 X 4096 v0 v2 v3 v4 (0 : Int32) μ))))))))))
set_option maxRecDepth 100000 in
theorem m_X7_level (hI : x_I X) (v0 : Nat) (μ : x_M) : x_Met X x_Z0 l yX7_level cX7_level 6 (some .int) 2 [vR v0] μ rkI (f_X7_level X v0 μ) := by
  refine x_enter hI (by decide +kernel) (Nat.le_of_ble_eq_true rfl) (fun p e s m args below meth c hC hr hlk => ?_)
  unfold f_X7_level
  refine s_lv (lv' := [(0, vR v0)]) [0] rfl ?_
  refine s_aload_n hC 0 dX7_level_0 rfl ?_
  refine s_getI hC xc7 (by decide) rfl qf_X7_46 dX7_level_1 ?_
  refine s_ltI (fun v2 => ?_)
  refine s_istore_n hC dX7_level_4 (by decide) (lv' := [(1, vI v2), (0, vR v0)]) rfl ?_
  refine s_aload_n hC 1 dX7_level_5 rfl ?_
  refine s_getR hC xc7 (by decide) rfl qf_X7_20 dX7_level_6 ?_
  refine s_ltR (fun v3 => ?_)
  refine s_astore_n hC dX7_level_9 (by decide) (lv' := [(2, vR v3), (1, vI v2), (0, vR v0)]) rfl ?_
  refine s_aload_n hC 0 dX7_level_10 rfl ?_
  refine s_alen hC dX7_level_11 ?_
  refine s_ltI (fun v4 => ?_)
  refine s_istore_n hC dX7_level_12 (by decide) (lv' := [(3, vI v4), (2, vR v3), (1, vI v2), (0, vR v0)]) rfl ?_
  refine s_iconst hC dX7_level_13 (v := 0) (by decide) ?_
  refine s_istore hC dX7_level_14 (by decide) (lv' := [(4, vI (0 : Int32)), (3, vI v4), (2, vR v3), (1, vI v2), (0, vR v0)]) rfl ?_
  refine s_lv (lv' := [(0, vR v0), (1, vI v2), (2, vR v3), (3, vI v4), (4, vI (0 : Int32))]) [4, 3, 2, 1, 0] rfl ?_
  refine j_X7_level_L16 hI hC hr hlk 4096 _ _ _ _ _ _
theorem dX7_bucketsOf_0 : decode cX7_bucketsOf 0 = .ok (.aload_n 0, 1) := by decide +kernel
theorem dX7_bucketsOf_1 : decode cX7_bucketsOf 1 = .ok (.iload_n 1, 1) := by decide +kernel
theorem dX7_bucketsOf_2 : decode cX7_bucketsOf 2 = .ok (.invokevirtual 65, 3) := by decide +kernel
theorem dX7_bucketsOf_5 : decode cX7_bucketsOf 5 = .ok (.astore_n 2, 1) := by decide +kernel
theorem dX7_bucketsOf_6 : decode cX7_bucketsOf 6 = .ok (.aload_n 2, 1) := by decide +kernel
theorem dX7_bucketsOf_7 : decode cX7_bucketsOf 7 = .ok (.ifnonnull 7, 3) := by decide +kernel
theorem dX7_bucketsOf_10 : decode cX7_bucketsOf 10 = .ok (.iconst 0, 1) := by decide +kernel
theorem dX7_bucketsOf_11 : decode cX7_bucketsOf 11 = .ok (.goto 7, 3) := by decide +kernel
theorem dX7_bucketsOf_14 : decode cX7_bucketsOf 14 = .ok (.aload_n 2, 1) := by decide +kernel
theorem dX7_bucketsOf_15 : decode cX7_bucketsOf 15 = .ok (.getfield 69, 3) := by decide +kernel
theorem dX7_bucketsOf_18 : decode cX7_bucketsOf 18 = .ok (.ireturn, 1) := by decide +kernel
def f_X7_bucketsOf (X : x_X) (v0 : Nat) (v1 : Int32) (μ : x_M) : Option (Int32 × x_M) :=
  (ck (x_kd X v0 = 7 + 1) (bd (f_X7_find X v0 v1 μ) (fun (v3 : Nat) (μ4 : x_M) => (if v3 = 0 then (some ((0 : Int32), μ4)) else (ck (x_kd X v3 = 0 + 1) (some ((μ4.1 v3 5), μ4)))))))
set_option maxRecDepth 100000 in
theorem m_X7_bucketsOf (hI : x_I X) (v0 : Nat) (v1 : Int32) (μ : x_M) : x_Met X x_Z0 l yX7_bucketsOf cX7_bucketsOf 3 (some .int) 2 [vR v0, vI v1] μ rkI (f_X7_bucketsOf X v0 v1 μ) := by
  refine x_enter hI (by decide +kernel) (Nat.le_of_ble_eq_true rfl) (fun p e s m args below meth c hC hr hlk => ?_)
  unfold f_X7_bucketsOf
  refine s_lv (lv' := [(0, vR v0), (1, vI v1)]) [0, 1] rfl ?_
  refine s_aload_n hC 0 dX7_bucketsOf_0 rfl ?_
  refine s_iload_n hC 1 dX7_bucketsOf_1 rfl ?_
  refine s_callV hC (x := v0) (avs := [vI v1]) (st := []) (nest := false) xc7 (m_X7_find hI v0 v1 μ) dX7_bucketsOf_2 qm_X7_65 qi_X7_find qs_X7_find qc_X7 qd_X7_find qh_X7_find (by decide) (fun _ => Nat.le_of_ble_eq_true rfl) (Nat.le_of_ble_eq_true rfl) (fun v3 μ4 => ?_)
  refine s_astore_n hC dX7_bucketsOf_5 (by decide) (lv' := [(2, vR v3), (0, vR v0), (1, vI v1)]) rfl ?_
  refine s_aload_n hC 0 dX7_bucketsOf_6 rfl ?_
  refine s_ifnonnull hC dX7_bucketsOf_7 (tgt := 14) (by decide) ?_ ?_
  · refine s_aload_n hC 0 dX7_bucketsOf_14 rfl ?_
    refine s_getI hC xc0 (by decide) rfl qf_X7_69 dX7_bucketsOf_15 ?_
    exact s_iret hC hr hlk dX7_bucketsOf_18
  refine s_iconst hC dX7_bucketsOf_10 (v := 0) (by decide) ?_
  refine s_goto hC dX7_bucketsOf_11 (tgt := 18) (by decide) ?_
  exact s_iret hC hr hlk dX7_bucketsOf_18
theorem dX7_open_0 : decode cX7_open 0 = .ok (.aload_n 0, 1) := by decide +kernel
theorem dX7_open_1 : decode cX7_open 1 = .ok (.getfield 54, 3) := by decide +kernel
theorem dX7_open_4 : decode cX7_open 4 = .ok (.iconst 0, 1) := by decide +kernel
theorem dX7_open_5 : decode cX7_open 5 = .ok (.iconst 5, 1) := by decide +kernel
theorem dX7_open_6 : decode cX7_open 6 = .ok (.invokestatic 57, 3) := by decide +kernel
theorem dX7_open_9 : decode cX7_open 9 = .ok (.ifCond .ne 6, 3) := by decide +kernel
theorem dX7_open_12 : decode cX7_open 12 = .ok (.bipush (-4), 2) := by decide +kernel
theorem dX7_open_14 : decode cX7_open 14 = .ok (.ireturn, 1) := by decide +kernel
theorem dX7_open_15 : decode cX7_open 15 = .ok (.aload_n 0, 1) := by decide +kernel
theorem dX7_open_16 : decode cX7_open 16 = .ok (.getfield 20, 3) := by decide +kernel
theorem dX7_open_19 : decode cX7_open 19 = .ok (.aload_n 0, 1) := by decide +kernel
theorem dX7_open_20 : decode cX7_open 20 = .ok (.getfield 54, 3) := by decide +kernel
theorem dX7_open_23 : decode cX7_open 23 = .ok (.aaload, 1) := by decide +kernel
theorem dX7_open_24 : decode cX7_open 24 = .ok (.iload_n 1, 1) := by decide +kernel
theorem dX7_open_25 : decode cX7_open 25 = .ok (.iload_n 2, 1) := by decide +kernel
theorem dX7_open_26 : decode cX7_open 26 = .ok (.iload_n 3, 1) := by decide +kernel
theorem dX7_open_27 : decode cX7_open 27 = .ok (.invokevirtual 61, 3) := by decide +kernel
theorem dX7_open_30 : decode cX7_open 30 = .ok (.aload_n 0, 1) := by decide +kernel
theorem dX7_open_31 : decode cX7_open 31 = .ok (.dup, 1) := by decide +kernel
theorem dX7_open_32 : decode cX7_open 32 = .ok (.getfield 54, 3) := by decide +kernel
theorem dX7_open_35 : decode cX7_open 35 = .ok (.iconst 1, 1) := by decide +kernel
theorem dX7_open_36 : decode cX7_open 36 = .ok (.iadd, 1) := by decide +kernel
theorem dX7_open_37 : decode cX7_open 37 = .ok (.putfield 54, 3) := by decide +kernel
theorem dX7_open_40 : decode cX7_open 40 = .ok (.aload_n 0, 1) := by decide +kernel
theorem dX7_open_41 : decode cX7_open 41 = .ok (.getfield 54, 3) := by decide +kernel
theorem dX7_open_44 : decode cX7_open 44 = .ok (.iconst 1, 1) := by decide +kernel
theorem dX7_open_45 : decode cX7_open 45 = .ok (.isub, 1) := by decide +kernel
theorem dX7_open_46 : decode cX7_open 46 = .ok (.ireturn, 1) := by decide +kernel
def f_X7_open (X : x_X) (v0 : Nat) (v1 : Int32) (v2 : Int32) (v3 : Int32) (μ : x_M) : Option (Int32 × x_M) :=
  (ck (x_kd X v0 = 7 + 1) (bd (f_X9_within X (μ.1 v0 6) (0 : Int32) (5 : Int32) μ) (fun (v5 : Int32) (μ6 : x_M) => (if v5 = 0 then (some ((-4 : Int32), μ6)) else (ck (x_kd X v0 = 7 + 1) (lt (μ6.2.1 v0 1) (fun (v7 : Nat) => (ck (x_kd X v0 = 7 + 1) (lt (μ6.1 v0 6) (fun (v8 : Int32) => (ck ((x_kd X v7 = 23 ∨ x_kd X v7 = 24 ∨ x_kd X v7 = 25) ∧ x_ix v8 (x_ln X v7)) (lt (μ6.2.1 v7 (v8).toNatClampNeg) (fun (v9 : Nat) => (ck (x_kd X v9 = 0 + 1) (bd (f_X0_open X v9 v1 v2 v3 μ6) (fun (_ : Unit) (μ10 : x_M) => (ck (x_kd X v0 = 7 + 1) (ck (x_kd X v0 = 7 + 1) (lt (x_sI μ10 v0 6 ((μ10.1 v0 6) + (1 : Int32))) (fun (μ11 : x_M) => (ck (x_kd X v0 = 7 + 1) (some (((μ11.1 v0 6) - (1 : Int32)), μ11)))))))))))))))))))))))
set_option maxRecDepth 100000 in
theorem m_X7_open (hI : x_I X) (v0 : Nat) (v1 : Int32) (v2 : Int32) (v3 : Int32) (μ : x_M) : x_Met X x_Z0 l yX7_open cX7_open 4 (some .int) 2 [vR v0, vI v1, vI v2, vI v3] μ rkI (f_X7_open X v0 v1 v2 v3 μ) := by
  refine x_enter hI (by decide +kernel) (Nat.le_of_ble_eq_true rfl) (fun p e s m args below meth c hC hr hlk => ?_)
  unfold f_X7_open
  refine s_lv (lv' := [(0, vR v0), (1, vI v1), (2, vI v2), (3, vI v3)]) [0, 1, 2, 3] rfl ?_
  refine s_aload_n hC 0 dX7_open_0 rfl ?_
  refine s_getI hC xc7 (by decide) rfl qf_X7_54 dX7_open_1 ?_
  refine s_iconst hC dX7_open_4 (v := 0) (by decide) ?_
  refine s_iconst hC dX7_open_5 (v := 5) (by decide) ?_
  refine s_callS hC (avs := [vI (μ.1 v0 6), vI (0 : Int32), vI (5 : Int32)]) (st := []) (nest := true) (m_X9_within hI (μ.1 v0 6) (0 : Int32) (5 : Int32) μ) dX7_open_6 qm_X7_57 qt_X9_within qc_X9 qd_X9_within qh_X9_within (by decide) (fun _ => Nat.le_of_ble_eq_true rfl) (Nat.le_of_ble_eq_true rfl) (fun v5 μ6 => ?_)
  refine s_if_ne hC dX7_open_9 (tgt := 15) (by decide) ?_ ?_
  · refine s_aload_n hC 0 dX7_open_15 rfl ?_
    refine s_getR hC xc7 (by decide) rfl qf_X7_20 dX7_open_16 ?_
    refine s_ltR (fun v7 => ?_)
    refine s_aload_n hC 0 dX7_open_19 rfl ?_
    refine s_getI hC xc7 (by decide) rfl qf_X7_54 dX7_open_20 ?_
    refine s_ltI (fun v8 => ?_)
    refine s_aald hC dX7_open_23 ?_
    refine s_ltR (fun v9 => ?_)
    refine s_iload_n hC 1 dX7_open_24 rfl ?_
    refine s_iload_n hC 2 dX7_open_25 rfl ?_
    refine s_iload_n hC 3 dX7_open_26 rfl ?_
    refine s_callV hC (x := v9) (avs := [vI v1, vI v2, vI v3]) (st := []) (nest := false) xc0 (m_X0_open hI v9 v1 v2 v3 μ6) dX7_open_27 qm_X7_61 qi_X0_open qs_X0_open qc_X0 qd_X0_open qh_X0_open (by decide) (fun _ => Nat.le_of_ble_eq_true rfl) (Nat.le_of_ble_eq_true rfl) (fun _ μ10 => ?_)
    refine s_aload_n hC 0 dX7_open_30 rfl ?_
    refine s_dupR hC dX7_open_31 ?_
    refine s_getI hC xc7 (by decide) rfl qf_X7_54 dX7_open_32 ?_
    refine s_iconst hC dX7_open_35 (v := 1) (by decide) ?_
    refine s_iadd hC dX7_open_36 ?_
    refine s_putI hC xc7 (by decide) rfl rfl qf_X7_54 dX7_open_37 ?_
    refine s_ltM (fun μ11 => ?_)
    refine s_aload_n hC 0 dX7_open_40 rfl ?_
    refine s_getI hC xc7 (by decide) rfl qf_X7_54 dX7_open_41 ?_
    refine s_iconst hC dX7_open_44 (v := 1) (by decide) ?_
    refine s_isub hC dX7_open_45 ?_
    exact s_iret hC hr hlk dX7_open_46
  refine s_bipush hC dX7_open_12 (v := -4) (by decide) ?_
  exact s_iret hC hr hlk dX7_open_14
theorem dX7_copyFrom_0 : decode cX7_copyFrom 0 = .ok (.aload_n 0, 1) := by decide +kernel
theorem dX7_copyFrom_1 : decode cX7_copyFrom 1 = .ok (.getfield 12, 3) := by decide +kernel
theorem dX7_copyFrom_4 : decode cX7_copyFrom 4 = .ok (.aload_n 1, 1) := by decide +kernel
theorem dX7_copyFrom_5 : decode cX7_copyFrom 5 = .ok (.getfield 12, 3) := by decide +kernel
theorem dX7_copyFrom_8 : decode cX7_copyFrom 8 = .ok (.invokevirtual 152, 3) := by decide +kernel
theorem dX7_copyFrom_11 : decode cX7_copyFrom 11 = .ok (.iconst 0, 1) := by decide +kernel
theorem dX7_copyFrom_12 : decode cX7_copyFrom 12 = .ok (.istore_n 2, 1) := by decide +kernel
theorem dX7_copyFrom_13 : decode cX7_copyFrom 13 = .ok (.iload_n 2, 1) := by decide +kernel
theorem dX7_copyFrom_14 : decode cX7_copyFrom 14 = .ok (.bipush 6, 2) := by decide +kernel
theorem dX7_copyFrom_16 : decode cX7_copyFrom 16 = .ok (.if_icmp .ge 24, 3) := by decide +kernel
theorem dX7_copyFrom_19 : decode cX7_copyFrom 19 = .ok (.aload_n 0, 1) := by decide +kernel
theorem dX7_copyFrom_20 : decode cX7_copyFrom 20 = .ok (.getfield 20, 3) := by decide +kernel
theorem dX7_copyFrom_23 : decode cX7_copyFrom 23 = .ok (.iload_n 2, 1) := by decide +kernel
theorem dX7_copyFrom_24 : decode cX7_copyFrom 24 = .ok (.aaload, 1) := by decide +kernel
theorem dX7_copyFrom_25 : decode cX7_copyFrom 25 = .ok (.aload_n 1, 1) := by decide +kernel
theorem dX7_copyFrom_26 : decode cX7_copyFrom 26 = .ok (.getfield 20, 3) := by decide +kernel
theorem dX7_copyFrom_29 : decode cX7_copyFrom 29 = .ok (.iload_n 2, 1) := by decide +kernel
theorem dX7_copyFrom_30 : decode cX7_copyFrom 30 = .ok (.aaload, 1) := by decide +kernel
theorem dX7_copyFrom_31 : decode cX7_copyFrom 31 = .ok (.invokevirtual 156, 3) := by decide +kernel
theorem dX7_copyFrom_34 : decode cX7_copyFrom 34 = .ok (.iinc 2 1, 3) := by decide +kernel
theorem dX7_copyFrom_37 : decode cX7_copyFrom 37 = .ok (.goto (-24), 3) := by decide +kernel
theorem dX7_copyFrom_40 : decode cX7_copyFrom 40 = .ok (.aload_n 0, 1) := by decide +kernel
theorem dX7_copyFrom_41 : decode cX7_copyFrom 41 = .ok (.getfield 29, 3) := by decide +kernel
theorem dX7_copyFrom_44 : decode cX7_copyFrom 44 = .ok (.aload_n 1, 1) := by decide +kernel
theorem dX7_copyFrom_45 : decode cX7_copyFrom 45 = .ok (.getfield 29, 3) := by decide +kernel
theorem dX7_copyFrom_48 : decode cX7_copyFrom 48 = .ok (.invokevirtual 159, 3) := by decide +kernel
theorem dX7_copyFrom_51 : decode cX7_copyFrom 51 = .ok (.aload_n 0, 1) := by decide +kernel
theorem dX7_copyFrom_52 : decode cX7_copyFrom 52 = .ok (.getfield 33, 3) := by decide +kernel
theorem dX7_copyFrom_55 : decode cX7_copyFrom 55 = .ok (.aload_n 1, 1) := by decide +kernel
theorem dX7_copyFrom_56 : decode cX7_copyFrom 56 = .ok (.getfield 33, 3) := by decide +kernel
theorem dX7_copyFrom_59 : decode cX7_copyFrom 59 = .ok (.invokevirtual 159, 3) := by decide +kernel
theorem dX7_copyFrom_62 : decode cX7_copyFrom 62 = .ok (.aload_n 0, 1) := by decide +kernel
theorem dX7_copyFrom_63 : decode cX7_copyFrom 63 = .ok (.getfield 36, 3) := by decide +kernel
theorem dX7_copyFrom_66 : decode cX7_copyFrom 66 = .ok (.aload_n 1, 1) := by decide +kernel
theorem dX7_copyFrom_67 : decode cX7_copyFrom 67 = .ok (.getfield 36, 3) := by decide +kernel
theorem dX7_copyFrom_70 : decode cX7_copyFrom 70 = .ok (.invokevirtual 159, 3) := by decide +kernel
theorem dX7_copyFrom_73 : decode cX7_copyFrom 73 = .ok (.aload_n 0, 1) := by decide +kernel
theorem dX7_copyFrom_74 : decode cX7_copyFrom 74 = .ok (.aload_n 1, 1) := by decide +kernel
theorem dX7_copyFrom_75 : decode cX7_copyFrom 75 = .ok (.getfield 42, 3) := by decide +kernel
theorem dX7_copyFrom_78 : decode cX7_copyFrom 78 = .ok (.putfield 42, 3) := by decide +kernel
theorem dX7_copyFrom_81 : decode cX7_copyFrom 81 = .ok (.aload_n 0, 1) := by decide +kernel
theorem dX7_copyFrom_82 : decode cX7_copyFrom 82 = .ok (.aload_n 1, 1) := by decide +kernel
theorem dX7_copyFrom_83 : decode cX7_copyFrom 83 = .ok (.getfield 54, 3) := by decide +kernel
theorem dX7_copyFrom_86 : decode cX7_copyFrom 86 = .ok (.putfield 54, 3) := by decide +kernel
theorem dX7_copyFrom_89 : decode cX7_copyFrom 89 = .ok (.aload_n 0, 1) := by decide +kernel
theorem dX7_copyFrom_90 : decode cX7_copyFrom 90 = .ok (.aload_n 1, 1) := by decide +kernel
theorem dX7_copyFrom_91 : decode cX7_copyFrom 91 = .ok (.getfield 46, 3) := by decide +kernel
theorem dX7_copyFrom_94 : decode cX7_copyFrom 94 = .ok (.putfield 46, 3) := by decide +kernel
theorem dX7_copyFrom_97 : decode cX7_copyFrom 97 = .ok (.aload_n 0, 1) := by decide +kernel
theorem dX7_copyFrom_98 : decode cX7_copyFrom 98 = .ok (.aload_n 1, 1) := by decide +kernel
theorem dX7_copyFrom_99 : decode cX7_copyFrom 99 = .ok (.getfield 146, 3) := by decide +kernel
theorem dX7_copyFrom_102 : decode cX7_copyFrom 102 = .ok (.putfield 146, 3) := by decide +kernel
theorem dX7_copyFrom_105 : decode cX7_copyFrom 105 = .ok (.aload_n 0, 1) := by decide +kernel
theorem dX7_copyFrom_106 : decode cX7_copyFrom 106 = .ok (.aload_n 1, 1) := by decide +kernel
theorem dX7_copyFrom_107 : decode cX7_copyFrom 107 = .ok (.getfield 80, 3) := by decide +kernel
theorem dX7_copyFrom_110 : decode cX7_copyFrom 110 = .ok (.putfield 80, 3) := by decide +kernel
theorem dX7_copyFrom_113 : decode cX7_copyFrom 113 = .ok (.aload_n 0, 1) := by decide +kernel
theorem dX7_copyFrom_114 : decode cX7_copyFrom 114 = .ok (.iconst 0, 1) := by decide +kernel
theorem dX7_copyFrom_115 : decode cX7_copyFrom 115 = .ok (.putfield 83, 3) := by decide +kernel
theorem dX7_copyFrom_118 : decode cX7_copyFrom 118 = .ok (.aload_n 0, 1) := by decide +kernel
theorem dX7_copyFrom_119 : decode cX7_copyFrom 119 = .ok (.iconst (-1), 1) := by decide +kernel
theorem dX7_copyFrom_120 : decode cX7_copyFrom 120 = .ok (.putfield 50, 3) := by decide +kernel
theorem dX7_copyFrom_123 : decode cX7_copyFrom 123 = .ok (.return_, 1) := by decide +kernel
def f_X7_copyFrom_L13 (X : x_X) (k40 : Nat → Nat → x_M → Option (Unit × x_M)) : Nat → Nat → Nat → Int32 → x_M → Option (Unit × x_M)
  | 0, _, _, _, _ => none
  | n + 1, v6, v7, v8, μ9 =>
    (if (6 : Int32) ≤ v8 then (k40 v6 v7 μ9) else (ck (x_kd X v6 = 7 + 1) (lt (μ9.2.1 v6 1) (fun (v10 : Nat) => (ck ((x_kd X v10 = 23 ∨ x_kd X v10 = 24 ∨ x_kd X v10 = 25) ∧ x_ix v8 (x_ln X v10)) (lt (μ9.2.1 v10 (v8).toNatClampNeg) (fun (v11 : Nat) => (ck (x_kd X v7 = 7 + 1) (lt (μ9.2.1 v7 1) (fun (v12 : Nat) => (ck ((x_kd X v12 = 23 ∨ x_kd X v12 = 24 ∨ x_kd X v12 = 25) ∧ x_ix v8 (x_ln X v12)) (lt (μ9.2.1 v12 (v8).toNatClampNeg) (fun (v13 : Nat) => (ck (x_kd X v11 = 0 + 1) (bd (f_X0_copyFrom X v11 v13 μ9) (fun (_ : Unit) (μ14 : x_M) => (f_X7_copyFrom_L13 X k40 n v6 v7 (v8 + (1 : Int32)) μ14)))))))))))))))))
set_option maxRecDepth 100000 in
theorem j_X7_copyFrom_L13 (hI : x_I X) (hC : x_C X x_Z0 p (x_rm 3) s m c cX7_copyFrom RX7 3 0 0 3) (hr : meth.sig.returnType = none) (hlk : meth.locks = false) {k40 : Nat → Nat → x_M → Option (Unit × x_M)} (hk40 : ∀ (b0 : Nat) (b1 : Nat) (μ : x_M), SM X 3 3 rkV p l e s m args below meth c 40 [(0, vR b0), (1, vR b1)] [] μ (k40 b0 b1 μ)) : ∀ (n : Nat) (v6 : Nat) (v7 : Nat) (v8 : Int32) (μ9 : x_M), SM X 3 3 rkV p l e s m args below meth c 13 [(0, vR v6), (1, vR v7), (2, vI v8)] [] μ9 (f_X7_copyFrom_L13 X k40 n v6 v7 v8 μ9) := by
  intro n
  induction n with
  | zero => intro v6 v7 v8 μ9; exact s_none
  | succ n ih =>
    intro v6 v7 v8 μ9
    unfold f_X7_copyFrom_L13
    refine s_iload_n hC 2 dX7_copyFrom_13 rfl ?_
    refine s_bipush hC dX7_copyFrom_14 (v := 6) (by decide) ?_
    refine s_icmp_ge hC dX7_copyFrom_16 (tgt := 40) (by decide) ?_ ?_
    · refine s_lv (lv' := [(0, vR v6), (1, vR v7)]) [0, 1] rfl ?_
      exact hk40 _ _ _
    refine s_aload_n hC 0 dX7_copyFrom_19 rfl ?_
    refine s_getR hC xc7 (by decide) rfl qf_X7_20 dX7_copyFrom_20 ?_
    refine s_ltR (fun v10 => ?_)
    refine s_iload_n hC 2 dX7_copyFrom_23 rfl ?_
    refine s_aald hC dX7_copyFrom_24 ?_
    refine s_ltR (fun v11 => ?_)
    refine s_aload_n hC 1 dX7_copyFrom_25 rfl ?_
    refine s_getR hC xc7 (by decide) rfl qf_X7_20 dX7_copyFrom_26 ?_
    refine s_ltR (fun v12 => ?_)
    refine s_iload_n hC 2 dX7_copyFrom_29 rfl ?_
    refine s_aald hC dX7_copyFrom_30 ?_
    refine s_ltR (fun v13 => ?_)
    refine s_callV hC (x := v11) (avs := [vR v13]) (st := []) (nest := false) xc0 (m_X0_copyFrom hI v11 v13 μ9) dX7_copyFrom_31 qm_X7_156 qi_X0_copyFrom qs_X0_copyFrom qc_X0 qd_X0_copyFrom qh_X0_copyFrom (by decide) (fun _ => Nat.le_of_ble_eq_true rfl) (Nat.le_of_ble_eq_true rfl) (fun _ μ14 => ?_)
    refine s_iinc hC 2 dX7_copyFrom_34 rfl (w := 1) (by decide) (by decide) (lv' := [(2, vI (v8 + (1 : Int32))), (0, vR v6), (1, vR v7)]) rfl ?_
    refine s_goto hC dX7_copyFrom_37 (tgt := 13) (by decide) ?_
    refine s_lv (lv' := [(0, vR v6), (1, vR v7), (2, vI (v8 + (1 : Int32)))]) [1, 2, 0] rfl ?_
    exact ih _ _ _ _
def f_X7_copyFrom (X : x_X) (v0 : Nat) (v1 : Nat) (μ : x_M) : Option (Unit × x_M) :=
  (ck (x_kd X v0 = 7 + 1) (lt (μ.2.1 v0 0) (fun (v3 : Nat) => (ck (x_kd X v1 = 7 + 1) (lt (μ.2.1 v1 0) (fun (v4 : Nat) => (ck (x_kd X v3 = 3 + 1) (bd (f_X3_copyFrom X v3 v4 μ) (fun (_ : Unit) (μ5 : x_M) => (f_X7_copyFrom_L13 X (fun (v15 : Nat) (v16 : Nat) (μ17 : x_M) => (ck (x_kd X v15 = 7 + 1) (lt (μ17.2.1 v15 2) (fun (v18 : Nat) => (ck (x_kd X v16 = 7 + 1) (lt (μ17.2.1 v16 2) (fun (v19 : Nat) => (ck (x_kd X v18 = 6 + 1) (bd (f_X6_copyFrom X v18 v19 μ17) (fun (_ : Unit) (μ20 : x_M) => (ck (x_kd X v15 = 7 + 1) (lt (μ20.2.1 v15 3) (fun (v21 : Nat) => (ck (x_kd X v16 = 7 + 1) (lt (μ20.2.1 v16 3) (fun (v22 : Nat) => (ck (x_kd X v21 = 6 + 1) (bd (f_X6_copyFrom X v21 v22 μ20) (fun (_ : Unit) (μ23 : x_M) => (ck (x_kd X v15 = 7 + 1) (lt (μ23.2.1 v15 4) (fun (v24 : Nat) => (ck (x_kd X v16 = 7 + 1) (lt (μ23.2.1 v16 4) (fun (v25 : Nat) => (ck (x_kd X v24 = 6 + 1) (bd (f_X6_copyFrom X v24 v25 μ23) (fun (_ : Unit) (μ26 : x_M) => (ck (x_kd X v16 = 7 + 1) (lt (μ26.2.1 v16 5) (fun (v27 : Nat) => (ck (x_kd X v15 = 7 + 1) (lt (x_sR μ26 v15 5 v27) (fun (μ28 : x_M) => (ck (x_kd X v16 = 7 + 1) (ck (x_kd X v15 = 7 + 1) (lt (x_sI μ28 v15 6 (μ28.1 v16 6)) (fun (μ29 : x_M) => (ck (x_kd X v16 = 7 + 1) (ck (x_kd X v15 = 7 + 1) (lt (x_sI μ29 v15 7 (μ29.1 v16 7)) (fun (μ30 : x_M) => (ck (x_kd X v16 = 7 + 1) (ck (x_kd X v15 = 7 + 1) (lt (x_sI μ30 v15 8 (μ30.1 v16 8)) (fun (μ31 : x_M) => (ck (x_kd X v16 = 7 + 1) (ck (x_kd X v15 = 7 + 1) (lt (x_sI μ31 v15 9 (μ31.1 v16 9)) (fun (μ32 : x_M) => (ck (x_kd X v15 = 7 + 1) (lt (x_sI μ32 v15 10 (0 : Int32)) (fun (μ33 : x_M) => (ck (x_kd X v15 = 7 + 1) (lt (x_sI μ33 v15 11 (-1 : Int32)) (fun (μ34 : x_M) => (some ((), μ34)))))))))))))))))))))))))))))))))))))))))))))))))))))))))) 4096 v0 v1 (0 : Int32) μ5))))))))))
set_option maxRecDepth 100000 in
theorem m_X7_copyFrom (hI : x_I X) (v0 : Nat) (v1 : Nat) (μ : x_M) : x_Met X x_Z0 l yX7_copyFrom cX7_copyFrom 3 none 3 [vR v0, vR v1] μ rkV (f_X7_copyFrom X v0 v1 μ) := by
  refine x_enter hI (by decide +kernel) (Nat.le_of_ble_eq_true rfl) (fun p e s m args below meth c hC hr hlk => ?_)
  unfold f_X7_copyFrom
  refine s_lv (lv' := [(0, vR v0), (1, vR v1)]) [0, 1] rfl ?_
  refine s_aload_n hC 0 dX7_copyFrom_0 rfl ?_
  refine s_getR hC xc7 (by decide) rfl qf_X7_12 dX7_copyFrom_1 ?_
  refine s_ltR (fun v3 => ?_)
  refine s_aload_n hC 1 dX7_copyFrom_4 rfl ?_
  refine s_getR hC xc7 (by decide) rfl qf_X7_12 dX7_copyFrom_5 ?_
  refine s_ltR (fun v4 => ?_)
  refine s_callV hC (x := v3) (avs := [vR v4]) (st := []) (nest := false) xc3 (m_X3_copyFrom hI v3 v4 μ) dX7_copyFrom_8 qm_X7_152 qi_X3_copyFrom qs_X3_copyFrom qc_X3 qd_X3_copyFrom qh_X3_copyFrom (by decide) (fun _ => Nat.le_of_ble_eq_true rfl) (Nat.le_of_ble_eq_true rfl) (fun _ μ5 => ?_)
  refine s_iconst hC dX7_copyFrom_11 (v := 0) (by decide) ?_
  refine s_istore_n hC dX7_copyFrom_12 (by decide) (lv' := [(2, vI (0 : Int32)), (0, vR v0), (1, vR v1)]) rfl ?_
  refine s_lv (lv' := [(0, vR v0), (1, vR v1), (2, vI (0 : Int32))]) [1, 2, 0] rfl ?_
  refine j_X7_copyFrom_L13 hI hC hr hlk (fun v15 v16 μ17 => ?_) 4096 _ _ _ _
  refine s_aload_n hC 0 dX7_copyFrom_40 rfl ?_
  refine s_getR hC xc7 (by decide) rfl qf_X7_29 dX7_copyFrom_41 ?_
  refine s_ltR (fun v18 => ?_)
  refine s_aload_n hC 1 dX7_copyFrom_44 rfl ?_
  refine s_getR hC xc7 (by decide) rfl qf_X7_29 dX7_copyFrom_45 ?_
  refine s_ltR (fun v19 => ?_)
  refine s_callV hC (x := v18) (avs := [vR v19]) (st := []) (nest := false) xc6 (m_X6_copyFrom hI v18 v19 μ17) dX7_copyFrom_48 qm_X7_159 qi_X6_copyFrom qs_X6_copyFrom qc_X6 qd_X6_copyFrom qh_X6_copyFrom (by decide) (fun _ => Nat.le_of_ble_eq_true rfl) (Nat.le_of_ble_eq_true rfl) (fun _ μ20 => ?_)
  refine s_aload_n hC 0 dX7_copyFrom_51 rfl ?_
  refine s_getR hC xc7 (by decide) rfl qf_X7_33 dX7_copyFrom_52 ?_
  refine s_ltR (fun v21 => ?_)
  refine s_aload_n hC 1 dX7_copyFrom_55 rfl ?_
  refine s_getR hC xc7 (by decide) rfl qf_X7_33 dX7_copyFrom_56 ?_
  refine s_ltR (fun v22 => ?_)
  refine s_callV hC (x := v21) (avs := [vR v22]) (st := []) (nest := false) xc6 (m_X6_copyFrom hI v21 v22 μ20) dX7_copyFrom_59 qm_X7_159 qi_X6_copyFrom qs_X6_copyFrom qc_X6 qd_X6_copyFrom qh_X6_copyFrom (by decide) (fun _ => Nat.le_of_ble_eq_true rfl) (Nat.le_of_ble_eq_true rfl) (fun _ μ23 => ?_)
  refine s_aload_n hC 0 dX7_copyFrom_62 rfl ?_
  refine s_getR hC xc7 (by decide) rfl qf_X7_36 dX7_copyFrom_63 ?_
  refine s_ltR (fun v24 => ?_)
  refine s_aload_n hC 1 dX7_copyFrom_66 rfl ?_
  refine s_getR hC xc7 (by decide) rfl qf_X7_36 dX7_copyFrom_67 ?_
  refine s_ltR (fun v25 => ?_)
  refine s_callV hC (x := v24) (avs := [vR v25]) (st := []) (nest := false) xc6 (m_X6_copyFrom hI v24 v25 μ23) dX7_copyFrom_70 qm_X7_159 qi_X6_copyFrom qs_X6_copyFrom qc_X6 qd_X6_copyFrom qh_X6_copyFrom (by decide) (fun _ => Nat.le_of_ble_eq_true rfl) (Nat.le_of_ble_eq_true rfl) (fun _ μ26 => ?_)
  refine s_aload_n hC 0 dX7_copyFrom_73 rfl ?_
  refine s_aload_n hC 1 dX7_copyFrom_74 rfl ?_
  refine s_getR hC xc7 (by decide) rfl qf_X7_42 dX7_copyFrom_75 ?_
  refine s_ltR (fun v27 => ?_)
  refine s_putR hC xc7 (by decide) rfl rfl qf_X7_42 dX7_copyFrom_78 ?_
  refine s_ltM (fun μ28 => ?_)
  refine s_aload_n hC 0 dX7_copyFrom_81 rfl ?_
  refine s_aload_n hC 1 dX7_copyFrom_82 rfl ?_
  refine s_getI hC xc7 (by decide) rfl qf_X7_54 dX7_copyFrom_83 ?_
  refine s_putI hC xc7 (by decide) rfl rfl qf_X7_54 dX7_copyFrom_86 ?_
  refine s_ltM (fun μ29 => ?_)
  refine s_aload_n hC 0 dX7_copyFrom_89 rfl ?_
  refine s_aload_n hC 1 dX7_copyFrom_90 rfl ?_
  refine s_getI hC xc7 (by decide) rfl qf_X7_46 dX7_copyFrom_91 ?_
  refine s_putI hC xc7 (by decide) rfl rfl qf_X7_46 dX7_copyFrom_94 ?_
  refine s_ltM (fun μ30 => ?_)
  refine s_aload_n hC 0 dX7_copyFrom_97 rfl ?_
  refine s_aload_n hC 1 dX7_copyFrom_98 rfl ?_
  refine s_getI hC xc7 (by decide) rfl qf_X7_146 dX7_copyFrom_99 ?_
  refine s_putI hC xc7 (by decide) rfl rfl qf_X7_146 dX7_copyFrom_102 ?_
  refine s_ltM (fun μ31 => ?_)
  refine s_aload_n hC 0 dX7_copyFrom_105 rfl ?_
  refine s_aload_n hC 1 dX7_copyFrom_106 rfl ?_
  refine s_getI hC xc7 (by decide) rfl qf_X7_80 dX7_copyFrom_107 ?_
  refine s_putI hC xc7 (by decide) rfl rfl qf_X7_80 dX7_copyFrom_110 ?_
  refine s_ltM (fun μ32 => ?_)
  refine s_aload_n hC 0 dX7_copyFrom_113 rfl ?_
  refine s_iconst hC dX7_copyFrom_114 (v := 0) (by decide) ?_
  refine s_putI hC xc7 (by decide) rfl rfl qf_X7_83 dX7_copyFrom_115 ?_
  refine s_ltM (fun μ33 => ?_)
  refine s_aload_n hC 0 dX7_copyFrom_118 rfl ?_
  refine s_iconst hC dX7_copyFrom_119 (v := -1) (by decide) ?_
  refine s_putI hC xc7 (by decide) rfl rfl qf_X7_50 dX7_copyFrom_120 ?_
  refine s_ltM (fun μ34 => ?_)
  exact s_vret hC hr hlk dX7_copyFrom_123
theorem dX7_isDry_0 : decode cX7_isDry 0 = .ok (.aload_n 0, 1) := by decide +kernel
theorem dX7_isDry_1 : decode cX7_isDry 1 = .ok (.invokevirtual 94, 3) := by decide +kernel
theorem dX7_isDry_4 : decode cX7_isDry 4 = .ok (.aload_n 0, 1) := by decide +kernel
theorem dX7_isDry_5 : decode cX7_isDry 5 = .ok (.getfield 42, 3) := by decide +kernel
theorem dX7_isDry_8 : decode cX7_isDry 8 = .ok (.getfield 97, 3) := by decide +kernel
theorem dX7_isDry_11 : decode cX7_isDry 11 = .ok (.if_icmp .gt 7, 3) := by decide +kernel
theorem dX7_isDry_14 : decode cX7_isDry 14 = .ok (.iconst 1, 1) := by decide +kernel
theorem dX7_isDry_15 : decode cX7_isDry 15 = .ok (.goto 4, 3) := by decide +kernel
theorem dX7_isDry_18 : decode cX7_isDry 18 = .ok (.iconst 0, 1) := by decide +kernel
theorem dX7_isDry_19 : decode cX7_isDry 19 = .ok (.ireturn, 1) := by decide +kernel
def f_X7_isDry (X : x_X) (v0 : Nat) (μ : x_M) : Option (Int32 × x_M) :=
  (ck (x_kd X v0 = 7 + 1) (bd (f_X7_level X v0 μ) (fun (v2 : Int32) (μ3 : x_M) => (ck (x_kd X v0 = 7 + 1) (lt (μ3.2.1 v0 5) (fun (v4 : Nat) => (ck (x_kd X v4 = 4 + 1) (if (μ3.1 v4 8) < v2 then (ck ((0 : Int32) = 0 ∨ (0 : Int32) = 1) (some ((0 : Int32), μ3))) else (ck ((1 : Int32) = 0 ∨ (1 : Int32) = 1) (some ((1 : Int32), μ3)))))))))))
set_option maxRecDepth 100000 in
theorem m_X7_isDry (hI : x_I X) (v0 : Nat) (μ : x_M) : x_Met X x_Z0 l yX7_isDry cX7_isDry 1 (some .boolean) 3 [vR v0] μ rkI (f_X7_isDry X v0 μ) := by
  refine x_enter hI (by decide +kernel) (Nat.le_of_ble_eq_true rfl) (fun p e s m args below meth c hC hr hlk => ?_)
  unfold f_X7_isDry
  refine s_lv (lv' := [(0, vR v0)]) [0] rfl ?_
  refine s_aload_n hC 0 dX7_isDry_0 rfl ?_
  refine s_callV hC (x := v0) (avs := []) (st := []) (nest := false) xc7 (m_X7_level hI v0 μ) dX7_isDry_1 qm_X7_94 qi_X7_level qs_X7_level qc_X7 qd_X7_level qh_X7_level (by decide) (fun _ => Nat.le_of_ble_eq_true rfl) (Nat.le_of_ble_eq_true rfl) (fun v2 μ3 => ?_)
  refine s_aload_n hC 0 dX7_isDry_4 rfl ?_
  refine s_getR hC xc7 (by decide) rfl qf_X7_42 dX7_isDry_5 ?_
  refine s_ltR (fun v4 => ?_)
  refine s_getI hC xc4 (by decide) rfl qf_X7_97 dX7_isDry_8 ?_
  refine s_icmp_gt hC dX7_isDry_11 (tgt := 18) (by decide) ?_ ?_
  · refine s_iconst hC dX7_isDry_18 (v := 0) (by decide) ?_
    exact s_zret hC hr hlk dX7_isDry_19
  refine s_iconst hC dX7_isDry_14 (v := 1) (by decide) ?_
  refine s_goto hC dX7_isDry_15 (tgt := 19) (by decide) ?_
  exact s_zret hC hr hlk dX7_isDry_19
theorem dX7_firstBelow_0 : decode cX7_firstBelow 0 = .ok (.iconst 0, 1) := by decide +kernel
theorem dX7_firstBelow_1 : decode cX7_firstBelow 1 = .ok (.istore_n 2, 1) := by decide +kernel
theorem dX7_firstBelow_2 : decode cX7_firstBelow 2 = .ok (.iload_n 2, 1) := by decide +kernel
theorem dX7_firstBelow_3 : decode cX7_firstBelow 3 = .ok (.aload_n 0, 1) := by decide +kernel
theorem dX7_firstBelow_4 : decode cX7_firstBelow 4 = .ok (.getfield 54, 3) := by decide +kernel
theorem dX7_firstBelow_7 : decode cX7_firstBelow 7 = .ok (.if_icmp .ge 20, 3) := by decide +kernel
theorem dX7_firstBelow_10 : decode cX7_firstBelow 10 = .ok (.aload_n 0, 1) := by decide +kernel
theorem dX7_firstBelow_11 : decode cX7_firstBelow 11 = .ok (.iload_n 2, 1) := by decide +kernel
theorem dX7_firstBelow_12 : decode cX7_firstBelow 12 = .ok (.invokevirtual 100, 3) := by decide +kernel
theorem dX7_firstBelow_15 : decode cX7_firstBelow 15 = .ok (.iload_n 1, 1) := by decide +kernel
theorem dX7_firstBelow_16 : decode cX7_firstBelow 16 = .ok (.if_icmp .ge 5, 3) := by decide +kernel
theorem dX7_firstBelow_19 : decode cX7_firstBelow 19 = .ok (.iload_n 2, 1) := by decide +kernel
theorem dX7_firstBelow_20 : decode cX7_firstBelow 20 = .ok (.ireturn, 1) := by decide +kernel
theorem dX7_firstBelow_21 : decode cX7_firstBelow 21 = .ok (.iinc 2 1, 3) := by decide +kernel
theorem dX7_firstBelow_24 : decode cX7_firstBelow 24 = .ok (.goto (-22), 3) := by decide +kernel
theorem dX7_firstBelow_27 : decode cX7_firstBelow 27 = .ok (.bipush (-5), 2) := by decide +kernel
theorem dX7_firstBelow_29 : decode cX7_firstBelow 29 = .ok (.ireturn, 1) := by decide +kernel
def f_X7_firstBelow_L2 (X : x_X) : Nat → Nat → Int32 → Int32 → x_M → Option (Int32 × x_M)
  | 0, _, _, _, _ => none
  | n + 1, v3, v4, v5, μ6 =>
    (ck (x_kd X v3 = 7 + 1) (if (μ6.1 v3 6) ≤ v5 then (some ((-5 : Int32), μ6)) else (ck (x_kd X v3 = 7 + 1) (bd (f_X7_bucketsOf X v3 v5 μ6) (fun (v7 : Int32) (μ8 : x_M) => (if v4 ≤ v7 then (f_X7_firstBelow_L2 X n v3 v4 (v5 + (1 : Int32)) μ8) else (some (v5, μ8))))))))
set_option maxRecDepth 100000 in
theorem j_X7_firstBelow_L2 (hI : x_I X) (hC : x_C X x_Z0 p (x_rm 3) s m c cX7_firstBelow RX7 3 0 0 3) (hr : meth.sig.returnType = (some .int)) (hlk : meth.locks = false) : ∀ (n : Nat) (v3 : Nat) (v4 : Int32) (v5 : Int32) (μ6 : x_M), SM X 3 3 rkI p l e s m args below meth c 2 [(0, vR v3), (1, vI v4), (2, vI v5)] [] μ6 (f_X7_firstBelow_L2 X n v3 v4 v5 μ6) := by
  intro n
  induction n with
  | zero => intro v3 v4 v5 μ6; exact s_none
  | succ n ih =>
    intro v3 v4 v5 μ6
    unfold f_X7_firstBelow_L2
    refine s_iload_n hC 2 dX7_firstBelow_2 rfl ?_
    refine s_aload_n hC 0 dX7_firstBelow_3 rfl ?_
    refine s_getI hC xc7 (by decide) rfl qf_X7_54 dX7_firstBelow_4 ?_
    refine s_icmp_ge hC dX7_firstBelow_7 (tgt := 27) (by decide) ?_ ?_
    · refine s_bipush hC dX7_firstBelow_27 (v := -5) (by decide) ?_
      exact s_iret hC hr hlk dX7_firstBelow_29
    refine s_aload_n hC 0 dX7_firstBelow_10 rfl ?_
    refine s_iload_n hC 2 dX7_firstBelow_11 rfl ?_
    refine s_callV hC (x := v3) (avs := [vI v5]) (st := []) (nest := false) xc7 (m_X7_bucketsOf hI v3 v5 μ6) dX7_firstBelow_12 qm_X7_100 qi_X7_bucketsOf qs_X7_bucketsOf qc_X7 qd_X7_bucketsOf qh_X7_bucketsOf (by decide) (fun _ => Nat.le_of_ble_eq_true rfl) (Nat.le_of_ble_eq_true rfl) (fun v7 μ8 => ?_)
    refine s_iload_n hC 1 dX7_firstBelow_15 rfl ?_
    refine s_icmp_ge hC dX7_firstBelow_16 (tgt := 21) (by decide) ?_ ?_
    · refine s_iinc hC 2 dX7_firstBelow_21 rfl (w := 1) (by decide) (by decide) (lv' := [(2, vI (v5 + (1 : Int32))), (0, vR v3), (1, vI v4)]) rfl ?_
      refine s_goto hC dX7_firstBelow_24 (tgt := 2) (by decide) ?_
      refine s_lv (lv' := [(0, vR v3), (1, vI v4), (2, vI (v5 + (1 : Int32)))]) [1, 2, 0] rfl ?_
      exact ih _ _ _ _
    refine s_iload_n hC 2 dX7_firstBelow_19 rfl ?_
    exact s_iret hC hr hlk dX7_firstBelow_20
def f_X7_firstBelow (X : x_X) (v0 : Nat) (v1 : Int32) (μ : x_M) : Option (Int32 × x_M) :=
  (f_X7_firstBelow_L2 X 4096 v0 v1 (0 : Int32) μ)
set_option maxRecDepth 100000 in
theorem m_X7_firstBelow (hI : x_I X) (v0 : Nat) (v1 : Int32) (μ : x_M) : x_Met X x_Z0 l yX7_firstBelow cX7_firstBelow 3 (some .int) 3 [vR v0, vI v1] μ rkI (f_X7_firstBelow X v0 v1 μ) := by
  refine x_enter hI (by decide +kernel) (Nat.le_of_ble_eq_true rfl) (fun p e s m args below meth c hC hr hlk => ?_)
  unfold f_X7_firstBelow
  refine s_lv (lv' := [(0, vR v0), (1, vI v1)]) [0, 1] rfl ?_
  refine s_iconst hC dX7_firstBelow_0 (v := 0) (by decide) ?_
  refine s_istore_n hC dX7_firstBelow_1 (by decide) (lv' := [(2, vI (0 : Int32)), (0, vR v0), (1, vI v1)]) rfl ?_
  refine s_lv (lv' := [(0, vR v0), (1, vI v1), (2, vI (0 : Int32))]) [1, 2, 0] rfl ?_
  refine j_X7_firstBelow_L2 hI hC hr hlk 4096 _ _ _ _
theorem dX7_richestNow_0 : decode cX7_richestNow 0 = .ok (.bipush (-5), 2) := by decide +kernel
theorem dX7_richestNow_2 : decode cX7_richestNow 2 = .ok (.istore_n 1, 1) := by decide +kernel
theorem dX7_richestNow_3 : decode cX7_richestNow 3 = .ok (.iconst 0, 1) := by decide +kernel
theorem dX7_richestNow_4 : decode cX7_richestNow 4 = .ok (.istore_n 2, 1) := by decide +kernel
theorem dX7_richestNow_5 : decode cX7_richestNow 5 = .ok (.iload_n 2, 1) := by decide +kernel
theorem dX7_richestNow_6 : decode cX7_richestNow 6 = .ok (.aload_n 0, 1) := by decide +kernel
theorem dX7_richestNow_7 : decode cX7_richestNow 7 = .ok (.getfield 54, 3) := by decide +kernel
theorem dX7_richestNow_10 : decode cX7_richestNow 10 = .ok (.if_icmp .ge 30, 3) := by decide +kernel
theorem dX7_richestNow_13 : decode cX7_richestNow 13 = .ok (.iload_n 1, 1) := by decide +kernel
theorem dX7_richestNow_14 : decode cX7_richestNow 14 = .ok (.bipush (-5), 2) := by decide +kernel
theorem dX7_richestNow_16 : decode cX7_richestNow 16 = .ok (.if_icmp .eq 16, 3) := by decide +kernel
theorem dX7_richestNow_19 : decode cX7_richestNow 19 = .ok (.aload_n 0, 1) := by decide +kernel
theorem dX7_richestNow_20 : decode cX7_richestNow 20 = .ok (.iload_n 2, 1) := by decide +kernel
theorem dX7_richestNow_21 : decode cX7_richestNow 21 = .ok (.invokevirtual 100, 3) := by decide +kernel
theorem dX7_richestNow_24 : decode cX7_richestNow 24 = .ok (.aload_n 0, 1) := by decide +kernel
theorem dX7_richestNow_25 : decode cX7_richestNow 25 = .ok (.iload_n 1, 1) := by decide +kernel
theorem dX7_richestNow_26 : decode cX7_richestNow 26 = .ok (.invokevirtual 100, 3) := by decide +kernel
theorem dX7_richestNow_29 : decode cX7_richestNow 29 = .ok (.if_icmp .le 5, 3) := by decide +kernel
theorem dX7_richestNow_32 : decode cX7_richestNow 32 = .ok (.iload_n 2, 1) := by decide +kernel
theorem dX7_richestNow_33 : decode cX7_richestNow 33 = .ok (.istore_n 1, 1) := by decide +kernel
theorem dX7_richestNow_34 : decode cX7_richestNow 34 = .ok (.iinc 2 1, 3) := by decide +kernel
theorem dX7_richestNow_37 : decode cX7_richestNow 37 = .ok (.goto (-32), 3) := by decide +kernel
theorem dX7_richestNow_40 : decode cX7_richestNow 40 = .ok (.iload_n 1, 1) := by decide +kernel
theorem dX7_richestNow_41 : decode cX7_richestNow 41 = .ok (.ireturn, 1) := by decide +kernel
def f_X7_richestNow_L5 (X : x_X) : Nat → Nat → Int32 → Int32 → x_M → Option (Int32 × x_M)
  | 0, _, _, _, _ => none
  | n + 1, v2, v3, v4, μ5 =>
    (ck (x_kd X v2 = 7 + 1) (if (μ5.1 v2 6) ≤ v4 then (some (v3, μ5)) else (if v3 = (-5 : Int32) then (f_X7_richestNow_L5 X n v2 v4 (v4 + (1 : Int32)) μ5) else (ck (x_kd X v2 = 7 + 1) (bd (f_X7_bucketsOf X v2 v4 μ5) (fun (v6 : Int32) (μ7 : x_M) => (ck (x_kd X v2 = 7 + 1) (bd (f_X7_bucketsOf X v2 v3 μ7) (fun (v8 : Int32) (μ9 : x_M) => (if v6 ≤ v8 then (f_X7_richestNow_L5 X n v2 v3 (v4 + (1 : Int32)) μ9) else (f_X7_richestNow_L5 X n v2 v4 (v4 + (1 : Int32)) μ9)))))))))))
set_option maxRecDepth 100000 in
theorem j_X7_richestNow_L5 (hI : x_I X) (hC : x_C X x_Z0 p (x_rm 3) s m c cX7_richestNow RX7 3 0 0 3) (hr : meth.sig.returnType = (some .int)) (hlk : meth.locks = false) : ∀ (n : Nat) (v2 : Nat) (v3 : Int32) (v4 : Int32) (μ5 : x_M), SM X 3 3 rkI p l e s m args below meth c 5 [(0, vR v2), (1, vI v3), (2, vI v4)] [] μ5 (f_X7_richestNow_L5 X n v2 v3 v4 μ5) := by
  intro n
  induction n with
  | zero => intro v2 v3 v4 μ5; exact s_none
  | succ n ih =>
    intro v2 v3 v4 μ5
    unfold f_X7_richestNow_L5
    refine s_iload_n hC 2 dX7_richestNow_5 rfl ?_
    refine s_aload_n hC 0 dX7_richestNow_6 rfl ?_
    refine s_getI hC xc7 (by decide) rfl qf_X7_54 dX7_richestNow_7 ?_
    refine s_icmp_ge hC dX7_richestNow_10 (tgt := 40) (by decide) ?_ ?_
    · refine s_iload_n hC 1 dX7_richestNow_40 rfl ?_
      exact s_iret hC hr hlk dX7_richestNow_41
    refine s_iload_n hC 1 dX7_richestNow_13 rfl ?_
    refine s_bipush hC dX7_richestNow_14 (v := -5) (by decide) ?_
    refine s_icmp_eq hC dX7_richestNow_16 (tgt := 32) (by decide) ?_ ?_
    · refine s_iload_n hC 2 dX7_richestNow_32 rfl ?_
      refine s_istore_n hC dX7_richestNow_33 (by decide) (lv' := [(1, vI v4), (0, vR v2), (2, vI v4)]) rfl ?_
      refine s_iinc hC 2 dX7_richestNow_34 rfl (w := 1) (by decide) (by decide) (lv' := [(2, vI (v4 + (1 : Int32))), (1, vI v4), (0, vR v2)]) rfl ?_
      refine s_goto hC dX7_richestNow_37 (tgt := 5) (by decide) ?_
      refine s_lv (lv' := [(0, vR v2), (1, vI v4), (2, vI (v4 + (1 : Int32)))]) [2, 1, 0] rfl ?_
      exact ih _ _ _ _
    refine s_aload_n hC 0 dX7_richestNow_19 rfl ?_
    refine s_iload_n hC 2 dX7_richestNow_20 rfl ?_
    refine s_callV hC (x := v2) (avs := [vI v4]) (st := []) (nest := false) xc7 (m_X7_bucketsOf hI v2 v4 μ5) dX7_richestNow_21 qm_X7_100 qi_X7_bucketsOf qs_X7_bucketsOf qc_X7 qd_X7_bucketsOf qh_X7_bucketsOf (by decide) (fun _ => Nat.le_of_ble_eq_true rfl) (Nat.le_of_ble_eq_true rfl) (fun v6 μ7 => ?_)
    refine s_aload_n hC 0 dX7_richestNow_24 rfl ?_
    refine s_iload_n hC 1 dX7_richestNow_25 rfl ?_
    refine s_callV hC (x := v2) (avs := [vI v3]) (st := [vI v6]) (nest := false) xc7 (m_X7_bucketsOf hI v2 v3 μ7) dX7_richestNow_26 qm_X7_100 qi_X7_bucketsOf qs_X7_bucketsOf qc_X7 qd_X7_bucketsOf qh_X7_bucketsOf (by decide) (fun _ => Nat.le_of_ble_eq_true rfl) (Nat.le_of_ble_eq_true rfl) (fun v8 μ9 => ?_)
    refine s_icmp_le hC dX7_richestNow_29 (tgt := 34) (by decide) ?_ ?_
    · refine s_iinc hC 2 dX7_richestNow_34 rfl (w := 1) (by decide) (by decide) (lv' := [(2, vI (v4 + (1 : Int32))), (0, vR v2), (1, vI v3)]) rfl ?_
      refine s_goto hC dX7_richestNow_37 (tgt := 5) (by decide) ?_
      refine s_lv (lv' := [(0, vR v2), (1, vI v3), (2, vI (v4 + (1 : Int32)))]) [1, 2, 0] rfl ?_
      exact ih _ _ _ _
    refine s_iload_n hC 2 dX7_richestNow_32 rfl ?_
    refine s_istore_n hC dX7_richestNow_33 (by decide) (lv' := [(1, vI v4), (0, vR v2), (2, vI v4)]) rfl ?_
    refine s_iinc hC 2 dX7_richestNow_34 rfl (w := 1) (by decide) (by decide) (lv' := [(2, vI (v4 + (1 : Int32))), (1, vI v4), (0, vR v2)]) rfl ?_
    refine s_goto hC dX7_richestNow_37 (tgt := 5) (by decide) ?_
    refine s_lv (lv' := [(0, vR v2), (1, vI v4), (2, vI (v4 + (1 : Int32)))]) [2, 1, 0] rfl ?_
    exact ih _ _ _ _
def f_X7_richestNow (X : x_X) (v0 : Nat) (μ : x_M) : Option (Int32 × x_M) :=
  (f_X7_richestNow_L5 X 4096 v0 (-5 : Int32) (0 : Int32) μ)
set_option maxRecDepth 100000 in
theorem m_X7_richestNow (hI : x_I X) (v0 : Nat) (μ : x_M) : x_Met X x_Z0 l yX7_richestNow cX7_richestNow 3 (some .int) 3 [vR v0] μ rkI (f_X7_richestNow X v0 μ) := by
  refine x_enter hI (by decide +kernel) (Nat.le_of_ble_eq_true rfl) (fun p e s m args below meth c hC hr hlk => ?_)
  unfold f_X7_richestNow
  refine s_lv (lv' := [(0, vR v0)]) [0] rfl ?_
  refine s_bipush hC dX7_richestNow_0 (v := -5) (by decide) ?_
  refine s_istore_n hC dX7_richestNow_2 (by decide) (lv' := [(1, vI (-5 : Int32)), (0, vR v0)]) rfl ?_
  refine s_iconst hC dX7_richestNow_3 (v := 0) (by decide) ?_
  refine s_istore_n hC dX7_richestNow_4 (by decide) (lv' := [(2, vI (0 : Int32)), (1, vI (-5 : Int32)), (0, vR v0)]) rfl ?_
  refine s_lv (lv' := [(0, vR v0), (1, vI (-5 : Int32)), (2, vI (0 : Int32))]) [2, 1, 0] rfl ?_
  refine j_X7_richestNow_L5 hI hC hr hlk 4096 _ _ _ _
theorem dX7_spring_0 : decode cX7_spring 0 = .ok (.aload_n 0, 1) := by decide +kernel
theorem dX7_spring_1 : decode cX7_spring 1 = .ok (.getfield 80, 3) := by decide +kernel
theorem dX7_spring_4 : decode cX7_spring 4 = .ok (.aload_n 0, 1) := by decide +kernel
theorem dX7_spring_5 : decode cX7_spring 5 = .ok (.getfield 50, 3) := by decide +kernel
theorem dX7_spring_8 : decode cX7_spring 8 = .ok (.if_icmp .ne 7, 3) := by decide +kernel
theorem dX7_spring_11 : decode cX7_spring 11 = .ok (.iconst 0, 1) := by decide +kernel
theorem dX7_spring_12 : decode cX7_spring 12 = .ok (.goto 24, 3) := by decide +kernel
theorem dX7_spring_15 : decode cX7_spring 15 = .ok (.iconst 5, 1) := by decide +kernel
theorem dX7_spring_16 : decode cX7_spring 16 = .ok (.aload_n 0, 1) := by decide +kernel
theorem dX7_spring_17 : decode cX7_spring 17 = .ok (.getfield 83, 3) := by decide +kernel
theorem dX7_spring_20 : decode cX7_spring 20 = .ok (.iadd, 1) := by decide +kernel
theorem dX7_spring_21 : decode cX7_spring 21 = .ok (.aload_n 0, 1) := by decide +kernel
theorem dX7_spring_22 : decode cX7_spring 22 = .ok (.getfield 42, 3) := by decide +kernel
theorem dX7_spring_25 : decode cX7_spring 25 = .ok (.iconst 0, 1) := by decide +kernel
theorem dX7_spring_26 : decode cX7_spring 26 = .ok (.aconst_null, 1) := by decide +kernel
theorem dX7_spring_27 : decode cX7_spring 27 = .ok (.iload_n 1, 1) := by decide +kernel
theorem dX7_spring_28 : decode cX7_spring 28 = .ok (.aload_n 0, 1) := by decide +kernel
theorem dX7_spring_29 : decode cX7_spring 29 = .ok (.getfield 80, 3) := by decide +kernel
theorem dX7_spring_32 : decode cX7_spring 32 = .ok (.invokevirtual 86, 3) := by decide +kernel
theorem dX7_spring_35 : decode cX7_spring 35 = .ok (.iadd, 1) := by decide +kernel
theorem dX7_spring_36 : decode cX7_spring 36 = .ok (.ireturn, 1) := by decide +kernel
def f_X7_spring (X : x_X) (v0 : Nat) (v1 : Int32) (μ : x_M) : Option (Int32 × x_M) :=
  (ck (x_kd X v0 = 7 + 1) (ck (x_kd X v0 = 7 + 1) (if (μ.1 v0 9) = (μ.1 v0 11) then (some ((0 : Int32), μ)) else (ck (x_kd X v0 = 7 + 1) (ck (x_kd X v0 = 7 + 1) (lt (μ.2.1 v0 5) (fun (v3 : Nat) => (ck (x_kd X v0 = 7 + 1) (ck (x_kd X v3 = 4 + 1) (bd (f_X4_together X v3 (0 : Int32) 0 v1 (μ.1 v0 9) μ) (fun (v4 : Int32) (μ5 : x_M) => (some ((((5 : Int32) + (μ.1 v0 10)) + v4), μ5)))))))))))))
set_option maxRecDepth 100000 in
theorem m_X7_spring (hI : x_I X) (v0 : Nat) (v1 : Int32) (μ : x_M) : x_Met X x_Z0 l yX7_spring cX7_spring 2 (some .int) 4 [vR v0, vI v1] μ rkI (f_X7_spring X v0 v1 μ) := by
  refine x_enter hI (by decide +kernel) (Nat.le_of_ble_eq_true rfl) (fun p e s m args below meth c hC hr hlk => ?_)
  unfold f_X7_spring
  refine s_lv (lv' := [(0, vR v0), (1, vI v1)]) [0, 1] rfl ?_
  refine s_aload_n hC 0 dX7_spring_0 rfl ?_
  refine s_getI hC xc7 (by decide) rfl qf_X7_80 dX7_spring_1 ?_
  refine s_aload_n hC 0 dX7_spring_4 rfl ?_
  refine s_getI hC xc7 (by decide) rfl qf_X7_50 dX7_spring_5 ?_
  refine s_icmp_ne hC dX7_spring_8 (tgt := 15) (by decide) ?_ ?_
  · refine s_iconst hC dX7_spring_15 (v := 5) (by decide) ?_
    refine s_aload_n hC 0 dX7_spring_16 rfl ?_
    refine s_getI hC xc7 (by decide) rfl qf_X7_83 dX7_spring_17 ?_
    refine s_iadd hC dX7_spring_20 ?_
    refine s_aload_n hC 0 dX7_spring_21 rfl ?_
    refine s_getR hC xc7 (by decide) rfl qf_X7_42 dX7_spring_22 ?_
    refine s_ltR (fun v3 => ?_)
    refine s_iconst hC dX7_spring_25 (v := 0) (by decide) ?_
    refine s_null hC dX7_spring_26 ?_
    refine s_iload_n hC 1 dX7_spring_27 rfl ?_
    refine s_aload_n hC 0 dX7_spring_28 rfl ?_
    refine s_getI hC xc7 (by decide) rfl qf_X7_80 dX7_spring_29 ?_
    refine s_callV hC (x := v3) (avs := [vI (0 : Int32), vR 0, vI v1, vI (μ.1 v0 9)]) (st := [vI ((5 : Int32) + (μ.1 v0 10))]) (nest := false) xc4 (m_X4_together hI v3 (0 : Int32) 0 v1 (μ.1 v0 9) μ) dX7_spring_32 qm_X7_86 qi_X4_together qs_X4_together qc_X4 qd_X4_together qh_X4_together (by decide) (fun _ => Nat.le_of_ble_eq_true rfl) (Nat.le_of_ble_eq_true rfl) (fun v4 μ5 => ?_)
    refine s_iadd hC dX7_spring_35 ?_
    exact s_iret hC hr hlk dX7_spring_36
  refine s_iconst hC dX7_spring_11 (v := 0) (by decide) ?_
  refine s_goto hC dX7_spring_12 (tgt := 36) (by decide) ?_
  exact s_iret hC hr hlk dX7_spring_36
theorem dX7_sunOf_0 : decode cX7_sunOf 0 = .ok (.aload_n 1, 1) := by decide +kernel
theorem dX7_sunOf_1 : decode cX7_sunOf 1 = .ok (.getfield 90, 3) := by decide +kernel
theorem dX7_sunOf_4 : decode cX7_sunOf 4 = .ok (.ifCond .eq 20, 3) := by decide +kernel
theorem dX7_sunOf_7 : decode cX7_sunOf 7 = .ok (.aload_n 0, 1) := by decide +kernel
theorem dX7_sunOf_8 : decode cX7_sunOf 8 = .ok (.getfield 42, 3) := by decide +kernel
theorem dX7_sunOf_11 : decode cX7_sunOf 11 = .ok (.iconst 1, 1) := by decide +kernel
theorem dX7_sunOf_12 : decode cX7_sunOf 12 = .ok (.aload_n 1, 1) := by decide +kernel
theorem dX7_sunOf_13 : decode cX7_sunOf 13 = .ok (.iload_n 2, 1) := by decide +kernel
theorem dX7_sunOf_14 : decode cX7_sunOf 14 = .ok (.aload_n 0, 1) := by decide +kernel
theorem dX7_sunOf_15 : decode cX7_sunOf 15 = .ok (.getfield 80, 3) := by decide +kernel
theorem dX7_sunOf_18 : decode cX7_sunOf 18 = .ok (.invokevirtual 86, 3) := by decide +kernel
theorem dX7_sunOf_21 : decode cX7_sunOf 21 = .ok (.goto 4, 3) := by decide +kernel
theorem dX7_sunOf_24 : decode cX7_sunOf 24 = .ok (.iconst 0, 1) := by decide +kernel
theorem dX7_sunOf_25 : decode cX7_sunOf 25 = .ok (.ireturn, 1) := by decide +kernel
def f_X7_sunOf (X : x_X) (v0 : Nat) (v1 : Nat) (v2 : Int32) (μ : x_M) : Option (Int32 × x_M) :=
  (ck (x_kd X v1 = 0 + 1) (if (μ.1 v1 2) = 0 then (some ((0 : Int32), μ)) else (ck (x_kd X v0 = 7 + 1) (lt (μ.2.1 v0 5) (fun (v4 : Nat) => (ck (x_kd X v0 = 7 + 1) (ck (x_kd X v4 = 4 + 1) (bd (f_X4_together X v4 (1 : Int32) v1 v2 (μ.1 v0 9) μ) (fun (v5 : Int32) (μ6 : x_M) => (some (v5, μ6)))))))))))
set_option maxRecDepth 100000 in
theorem m_X7_sunOf (hI : x_I X) (v0 : Nat) (v1 : Nat) (v2 : Int32) (μ : x_M) : x_Met X x_Z0 l yX7_sunOf cX7_sunOf 3 (some .int) 4 [vR v0, vR v1, vI v2] μ rkI (f_X7_sunOf X v0 v1 v2 μ) := by
  refine x_enter hI (by decide +kernel) (Nat.le_of_ble_eq_true rfl) (fun p e s m args below meth c hC hr hlk => ?_)
  unfold f_X7_sunOf
  refine s_lv (lv' := [(0, vR v0), (1, vR v1), (2, vI v2)]) [0, 1, 2] rfl ?_
  refine s_aload_n hC 1 dX7_sunOf_0 rfl ?_
  refine s_getI hC xc0 (by decide) rfl qf_X7_90 dX7_sunOf_1 ?_
  refine s_if_eq hC dX7_sunOf_4 (tgt := 24) (by decide) ?_ ?_
  · refine s_iconst hC dX7_sunOf_24 (v := 0) (by decide) ?_
    exact s_iret hC hr hlk dX7_sunOf_25
  refine s_aload_n hC 0 dX7_sunOf_7 rfl ?_
  refine s_getR hC xc7 (by decide) rfl qf_X7_42 dX7_sunOf_8 ?_
  refine s_ltR (fun v4 => ?_)
  refine s_iconst hC dX7_sunOf_11 (v := 1) (by decide) ?_
  refine s_aload_n hC 1 dX7_sunOf_12 rfl ?_
  refine s_iload_n hC 2 dX7_sunOf_13 rfl ?_
  refine s_aload_n hC 0 dX7_sunOf_14 rfl ?_
  refine s_getI hC xc7 (by decide) rfl qf_X7_80 dX7_sunOf_15 ?_
  refine s_callV hC (x := v4) (avs := [vI (1 : Int32), vR v1, vI v2, vI (μ.1 v0 9)]) (st := []) (nest := false) xc4 (m_X4_together hI v4 (1 : Int32) v1 v2 (μ.1 v0 9) μ) dX7_sunOf_18 qm_X7_86 qi_X4_together qs_X4_together qc_X4 qd_X4_together qh_X4_together (by decide) (fun _ => Nat.le_of_ble_eq_true rfl) (Nat.le_of_ble_eq_true rfl) (fun v5 μ6 => ?_)
  refine s_goto hC dX7_sunOf_21 (tgt := 25) (by decide) ?_
  exact s_iret hC hr hlk dX7_sunOf_25
theorem dX7_pass_0 : decode cX7_pass 0 = .ok (.aload_n 0, 1) := by decide +kernel
theorem dX7_pass_1 : decode cX7_pass 1 = .ok (.invokevirtual 94, 3) := by decide +kernel
theorem dX7_pass_4 : decode cX7_pass 4 = .ok (.istore_n 1, 1) := by decide +kernel
theorem dX7_pass_5 : decode cX7_pass 5 = .ok (.aload_n 0, 1) := by decide +kernel
theorem dX7_pass_6 : decode cX7_pass 6 = .ok (.iload_n 1, 1) := by decide +kernel
theorem dX7_pass_7 : decode cX7_pass 7 = .ok (.invokevirtual 106, 3) := by decide +kernel
theorem dX7_pass_10 : decode cX7_pass 10 = .ok (.istore_n 2, 1) := by decide +kernel
theorem dX7_pass_11 : decode cX7_pass 11 = .ok (.aload_n 0, 1) := by decide +kernel
theorem dX7_pass_12 : decode cX7_pass 12 = .ok (.getfield 20, 3) := by decide +kernel
theorem dX7_pass_15 : decode cX7_pass 15 = .ok (.astore_n 3, 1) := by decide +kernel
theorem dX7_pass_16 : decode cX7_pass 16 = .ok (.aload_n 3, 1) := by decide +kernel
theorem dX7_pass_17 : decode cX7_pass 17 = .ok (.arraylength, 1) := by decide +kernel
theorem dX7_pass_18 : decode cX7_pass 18 = .ok (.istore 4, 2) := by decide +kernel
theorem dX7_pass_20 : decode cX7_pass 20 = .ok (.iconst 0, 1) := by decide +kernel
theorem dX7_pass_21 : decode cX7_pass 21 = .ok (.istore 5, 2) := by decide +kernel
theorem dX7_pass_23 : decode cX7_pass 23 = .ok (.iload 5, 2) := by decide +kernel
theorem dX7_pass_25 : decode cX7_pass 25 = .ok (.iload 4, 2) := by decide +kernel
theorem dX7_pass_27 : decode cX7_pass 27 = .ok (.if_icmp .ge 49, 3) := by decide +kernel
theorem dX7_pass_30 : decode cX7_pass 30 = .ok (.aload_n 3, 1) := by decide +kernel
theorem dX7_pass_31 : decode cX7_pass 31 = .ok (.iload 5, 2) := by decide +kernel
theorem dX7_pass_33 : decode cX7_pass 33 = .ok (.aaload, 1) := by decide +kernel
theorem dX7_pass_34 : decode cX7_pass 34 = .ok (.astore 6, 2) := by decide +kernel
theorem dX7_pass_36 : decode cX7_pass 36 = .ok (.aload 6, 2) := by decide +kernel
theorem dX7_pass_38 : decode cX7_pass 38 = .ok (.aload 6, 2) := by decide +kernel
theorem dX7_pass_40 : decode cX7_pass 40 = .ok (.iload_n 1, 1) := by decide +kernel
theorem dX7_pass_41 : decode cX7_pass 41 = .ok (.aload_n 0, 1) := by decide +kernel
theorem dX7_pass_42 : decode cX7_pass 42 = .ok (.getfield 42, 3) := by decide +kernel
theorem dX7_pass_45 : decode cX7_pass 45 = .ok (.getfield 109, 3) := by decide +kernel
theorem dX7_pass_48 : decode cX7_pass 48 = .ok (.aload_n 0, 1) := by decide +kernel
theorem dX7_pass_49 : decode cX7_pass 49 = .ok (.getfield 80, 3) := by decide +kernel
theorem dX7_pass_52 : decode cX7_pass 52 = .ok (.invokevirtual 112, 3) := by decide +kernel
theorem dX7_pass_55 : decode cX7_pass 55 = .ok (.putfield 116, 3) := by decide +kernel
theorem dX7_pass_58 : decode cX7_pass 58 = .ok (.aload 6, 2) := by decide +kernel
theorem dX7_pass_60 : decode cX7_pass 60 = .ok (.aload_n 0, 1) := by decide +kernel
theorem dX7_pass_61 : decode cX7_pass 61 = .ok (.aload 6, 2) := by decide +kernel
theorem dX7_pass_63 : decode cX7_pass 63 = .ok (.iload_n 1, 1) := by decide +kernel
theorem dX7_pass_64 : decode cX7_pass 64 = .ok (.invokevirtual 119, 3) := by decide +kernel
theorem dX7_pass_67 : decode cX7_pass 67 = .ok (.putfield 103, 3) := by decide +kernel
theorem dX7_pass_70 : decode cX7_pass 70 = .ok (.iinc 5 1, 3) := by decide +kernel
theorem dX7_pass_73 : decode cX7_pass 73 = .ok (.goto (-50), 3) := by decide +kernel
theorem dX7_pass_76 : decode cX7_pass 76 = .ok (.aload_n 0, 1) := by decide +kernel
theorem dX7_pass_77 : decode cX7_pass 77 = .ok (.getfield 12, 3) := by decide +kernel
theorem dX7_pass_80 : decode cX7_pass 80 = .ok (.aload_n 0, 1) := by decide +kernel
theorem dX7_pass_81 : decode cX7_pass 81 = .ok (.getfield 42, 3) := by decide +kernel
theorem dX7_pass_84 : decode cX7_pass 84 = .ok (.getfield 97, 3) := by decide +kernel
theorem dX7_pass_87 : decode cX7_pass 87 = .ok (.invokevirtual 123, 3) := by decide +kernel
theorem dX7_pass_90 : decode cX7_pass 90 = .ok (.istore_n 3, 1) := by decide +kernel
theorem dX7_pass_91 : decode cX7_pass 91 = .ok (.aload_n 0, 1) := by decide +kernel
theorem dX7_pass_92 : decode cX7_pass 92 = .ok (.getfield 20, 3) := by decide +kernel
theorem dX7_pass_95 : decode cX7_pass 95 = .ok (.astore 4, 2) := by decide +kernel
theorem dX7_pass_97 : decode cX7_pass 97 = .ok (.aload 4, 2) := by decide +kernel
theorem dX7_pass_99 : decode cX7_pass 99 = .ok (.arraylength, 1) := by decide +kernel
theorem dX7_pass_100 : decode cX7_pass 100 = .ok (.istore 5, 2) := by decide +kernel
theorem dX7_pass_102 : decode cX7_pass 102 = .ok (.iconst 0, 1) := by decide +kernel
theorem dX7_pass_103 : decode cX7_pass 103 = .ok (.istore 6, 2) := by decide +kernel
theorem dX7_pass_105 : decode cX7_pass 105 = .ok (.iload 6, 2) := by decide +kernel
theorem dX7_pass_107 : decode cX7_pass 107 = .ok (.iload 5, 2) := by decide +kernel
theorem dX7_pass_109 : decode cX7_pass 109 = .ok (.if_icmp .ge 23, 3) := by decide +kernel
theorem dX7_pass_112 : decode cX7_pass 112 = .ok (.aload 4, 2) := by decide +kernel
theorem dX7_pass_114 : decode cX7_pass 114 = .ok (.iload 6, 2) := by decide +kernel
theorem dX7_pass_116 : decode cX7_pass 116 = .ok (.aaload, 1) := by decide +kernel
theorem dX7_pass_117 : decode cX7_pass 117 = .ok (.astore 7, 2) := by decide +kernel
theorem dX7_pass_119 : decode cX7_pass 119 = .ok (.aload_n 0, 1) := by decide +kernel
theorem dX7_pass_120 : decode cX7_pass 120 = .ok (.aload 7, 2) := by decide +kernel
theorem dX7_pass_122 : decode cX7_pass 122 = .ok (.iload_n 3, 1) := by decide +kernel
theorem dX7_pass_123 : decode cX7_pass 123 = .ok (.invokevirtual 126, 3) := by decide +kernel
theorem dX7_pass_126 : decode cX7_pass 126 = .ok (.iinc 6 1, 3) := by decide +kernel
theorem dX7_pass_129 : decode cX7_pass 129 = .ok (.goto (-24), 3) := by decide +kernel
theorem dX7_pass_132 : decode cX7_pass 132 = .ok (.aload_n 0, 1) := by decide +kernel
theorem dX7_pass_133 : decode cX7_pass 133 = .ok (.getfield 20, 3) := by decide +kernel
theorem dX7_pass_136 : decode cX7_pass 136 = .ok (.astore 4, 2) := by decide +kernel
theorem dX7_pass_138 : decode cX7_pass 138 = .ok (.aload 4, 2) := by decide +kernel
theorem dX7_pass_140 : decode cX7_pass 140 = .ok (.arraylength, 1) := by decide +kernel
theorem dX7_pass_141 : decode cX7_pass 141 = .ok (.istore 5, 2) := by decide +kernel
theorem dX7_pass_143 : decode cX7_pass 143 = .ok (.iconst 0, 1) := by decide +kernel
theorem dX7_pass_144 : decode cX7_pass 144 = .ok (.istore 6, 2) := by decide +kernel
theorem dX7_pass_146 : decode cX7_pass 146 = .ok (.iload 6, 2) := by decide +kernel
theorem dX7_pass_148 : decode cX7_pass 148 = .ok (.iload 5, 2) := by decide +kernel
theorem dX7_pass_150 : decode cX7_pass 150 = .ok (.if_icmp .ge 49, 3) := by decide +kernel
theorem dX7_pass_153 : decode cX7_pass 153 = .ok (.aload 4, 2) := by decide +kernel
theorem dX7_pass_155 : decode cX7_pass 155 = .ok (.iload 6, 2) := by decide +kernel
theorem dX7_pass_157 : decode cX7_pass 157 = .ok (.aaload, 1) := by decide +kernel
theorem dX7_pass_158 : decode cX7_pass 158 = .ok (.astore 7, 2) := by decide +kernel
theorem dX7_pass_160 : decode cX7_pass 160 = .ok (.aload 7, 2) := by decide +kernel
theorem dX7_pass_162 : decode cX7_pass 162 = .ok (.dup, 1) := by decide +kernel
theorem dX7_pass_163 : decode cX7_pass 163 = .ok (.getfield 69, 3) := by decide +kernel
theorem dX7_pass_166 : decode cX7_pass 166 = .ok (.aload 7, 2) := by decide +kernel
theorem dX7_pass_168 : decode cX7_pass 168 = .ok (.getfield 103, 3) := by decide +kernel
theorem dX7_pass_171 : decode cX7_pass 171 = .ok (.isub, 1) := by decide +kernel
theorem dX7_pass_172 : decode cX7_pass 172 = .ok (.putfield 69, 3) := by decide +kernel
theorem dX7_pass_175 : decode cX7_pass 175 = .ok (.aload_n 0, 1) := by decide +kernel
theorem dX7_pass_176 : decode cX7_pass 176 = .ok (.iconst 0, 1) := by decide +kernel
theorem dX7_pass_177 : decode cX7_pass 177 = .ok (.aload_n 0, 1) := by decide +kernel
theorem dX7_pass_178 : decode cX7_pass 178 = .ok (.getfield 46, 3) := by decide +kernel
theorem dX7_pass_181 : decode cX7_pass 181 = .ok (.aload 7, 2) := by decide +kernel
theorem dX7_pass_183 : decode cX7_pass 183 = .ok (.getfield 103, 3) := by decide +kernel
theorem dX7_pass_186 : decode cX7_pass 186 = .ok (.isub, 1) := by decide +kernel
theorem dX7_pass_187 : decode cX7_pass 187 = .ok (.invokestatic 130, 3) := by decide +kernel
theorem dX7_pass_190 : decode cX7_pass 190 = .ok (.putfield 46, 3) := by decide +kernel
theorem dX7_pass_193 : decode cX7_pass 193 = .ok (.iinc 6 1, 3) := by decide +kernel
theorem dX7_pass_196 : decode cX7_pass 196 = .ok (.goto (-50), 3) := by decide +kernel
theorem dX7_pass_199 : decode cX7_pass 199 = .ok (.aload_n 0, 1) := by decide +kernel
theorem dX7_pass_200 : decode cX7_pass 200 = .ok (.dup, 1) := by decide +kernel
theorem dX7_pass_201 : decode cX7_pass 201 = .ok (.getfield 46, 3) := by decide +kernel
theorem dX7_pass_204 : decode cX7_pass 204 = .ok (.iload_n 2, 1) := by decide +kernel
theorem dX7_pass_205 : decode cX7_pass 205 = .ok (.iadd, 1) := by decide +kernel
theorem dX7_pass_206 : decode cX7_pass 206 = .ok (.putfield 46, 3) := by decide +kernel
theorem dX7_pass_209 : decode cX7_pass 209 = .ok (.aload_n 0, 1) := by decide +kernel
theorem dX7_pass_210 : decode cX7_pass 210 = .ok (.aload_n 0, 1) := by decide +kernel
theorem dX7_pass_211 : decode cX7_pass 211 = .ok (.getfield 12, 3) := by decide +kernel
theorem dX7_pass_214 : decode cX7_pass 214 = .ok (.aload_n 0, 1) := by decide +kernel
theorem dX7_pass_215 : decode cX7_pass 215 = .ok (.getfield 42, 3) := by decide +kernel
theorem dX7_pass_218 : decode cX7_pass 218 = .ok (.getfield 136, 3) := by decide +kernel
theorem dX7_pass_221 : decode cX7_pass 221 = .ok (.invokevirtual 123, 3) := by decide +kernel
theorem dX7_pass_224 : decode cX7_pass 224 = .ok (.invokevirtual 139, 3) := by decide +kernel
theorem dX7_pass_227 : decode cX7_pass 227 = .ok (.aload_n 0, 1) := by decide +kernel
theorem dX7_pass_228 : decode cX7_pass 228 = .ok (.getfield 20, 3) := by decide +kernel
theorem dX7_pass_231 : decode cX7_pass 231 = .ok (.astore 4, 2) := by decide +kernel
theorem dX7_pass_233 : decode cX7_pass 233 = .ok (.aload 4, 2) := by decide +kernel
theorem dX7_pass_235 : decode cX7_pass 235 = .ok (.arraylength, 1) := by decide +kernel
theorem dX7_pass_236 : decode cX7_pass 236 = .ok (.istore 5, 2) := by decide +kernel
theorem dX7_pass_238 : decode cX7_pass 238 = .ok (.iconst 0, 1) := by decide +kernel
theorem dX7_pass_239 : decode cX7_pass 239 = .ok (.istore 6, 2) := by decide +kernel
theorem dX7_pass_241 : decode cX7_pass 241 = .ok (.iload 6, 2) := by decide +kernel
theorem dX7_pass_243 : decode cX7_pass 243 = .ok (.iload 5, 2) := by decide +kernel
theorem dX7_pass_245 : decode cX7_pass 245 = .ok (.if_icmp .ge 21, 3) := by decide +kernel
theorem dX7_pass_248 : decode cX7_pass 248 = .ok (.aload 4, 2) := by decide +kernel
theorem dX7_pass_250 : decode cX7_pass 250 = .ok (.iload 6, 2) := by decide +kernel
theorem dX7_pass_252 : decode cX7_pass 252 = .ok (.aaload, 1) := by decide +kernel
theorem dX7_pass_253 : decode cX7_pass 253 = .ok (.astore 7, 2) := by decide +kernel
theorem dX7_pass_255 : decode cX7_pass 255 = .ok (.aload 7, 2) := by decide +kernel
theorem dX7_pass_257 : decode cX7_pass 257 = .ok (.invokevirtual 142, 3) := by decide +kernel
theorem dX7_pass_260 : decode cX7_pass 260 = .ok (.iinc 6 1, 3) := by decide +kernel
theorem dX7_pass_263 : decode cX7_pass 263 = .ok (.goto (-22), 3) := by decide +kernel
theorem dX7_pass_266 : decode cX7_pass 266 = .ok (.aload_n 0, 1) := by decide +kernel
theorem dX7_pass_267 : decode cX7_pass 267 = .ok (.dup, 1) := by decide +kernel
theorem dX7_pass_268 : decode cX7_pass 268 = .ok (.getfield 80, 3) := by decide +kernel
theorem dX7_pass_271 : decode cX7_pass 271 = .ok (.iconst 1, 1) := by decide +kernel
theorem dX7_pass_272 : decode cX7_pass 272 = .ok (.iadd, 1) := by decide +kernel
theorem dX7_pass_273 : decode cX7_pass 273 = .ok (.putfield 80, 3) := by decide +kernel
theorem dX7_pass_276 : decode cX7_pass 276 = .ok (.return_, 1) := by decide +kernel
def f_X7_pass_L23 (X : x_X) (k76 : Nat → Int32 → x_M → Option (Unit × x_M)) : Nat → Nat → Int32 → Int32 → Nat → Int32 → Int32 → x_M → Option (Unit × x_M)
  | 0, _, _, _, _, _, _, _ => none
  | n + 1, v8, v9, v10, v11, v12, v13, μ14 =>
    (if v12 ≤ v13 then (k76 v8 v10 μ14) else (ck ((x_kd X v11 = 23 ∨ x_kd X v11 = 24 ∨ x_kd X v11 = 25) ∧ x_ix v13 (x_ln X v11)) (lt (μ14.2.1 v11 (v13).toNatClampNeg) (fun (v15 : Nat) => (ck (x_kd X v8 = 7 + 1) (lt (μ14.2.1 v8 5) (fun (v16 : Nat) => (ck (x_kd X v16 = 4 + 1) (ck (x_kd X v8 = 7 + 1) (ck (x_kd X v15 = 0 + 1) (bd (f_X0_pours X v15 v9 (μ14.1 v16 9) (μ14.1 v8 9) μ14) (fun (v17 : Int32) (μ18 : x_M) => (ck (x_kd X v15 = 0 + 1) (lt (x_sI μ18 v15 8 v17) (fun (μ19 : x_M) => (ck (x_kd X v8 = 7 + 1) (bd (f_X7_sunOf X v8 v15 v9 μ19) (fun (v20 : Int32) (μ21 : x_M) => (ck (x_kd X v15 = 0 + 1) (lt (x_sI μ21 v15 9 v20) (fun (μ22 : x_M) => (f_X7_pass_L23 X k76 n v8 v9 v10 v11 v12 (v13 + (1 : Int32)) μ22))))))))))))))))))))))
set_option maxRecDepth 100000 in
theorem j_X7_pass_L23 (hI : x_I X) (hC : x_C X x_Z0 p (x_rm 5) s m c cX7_pass RX7 8 0 0 5) (hr : meth.sig.returnType = none) (hlk : meth.locks = false) {k76 : Nat → Int32 → x_M → Option (Unit × x_M)} (hk76 : ∀ (b0 : Nat) (b2 : Int32) (μ : x_M), SM X 8 5 rkV p l e s m args below meth c 76 [(0, vR b0), (2, vI b2)] [] μ (k76 b0 b2 μ)) : ∀ (n : Nat) (v8 : Nat) (v9 : Int32) (v10 : Int32) (v11 : Nat) (v12 : Int32) (v13 : Int32) (μ14 : x_M), SM X 8 5 rkV p l e s m args below meth c 23 [(0, vR v8), (1, vI v9), (2, vI v10), (3, vR v11), (4, vI v12), (5, vI v13)] [] μ14 (f_X7_pass_L23 X k76 n v8 v9 v10 v11 v12 v13 μ14) := by
  intro n
  induction n with
  | zero => intro v8 v9 v10 v11 v12 v13 μ14; exact s_none
  | succ n ih =>
    intro v8 v9 v10 v11 v12 v13 μ14
    unfold f_X7_pass_L23
    refine s_iload hC 5 dX7_pass_23 rfl ?_
    refine s_iload hC 4 dX7_pass_25 rfl ?_
    refine s_icmp_ge hC dX7_pass_27 (tgt := 76) (by decide) ?_ ?_
    · refine s_lv (lv' := [(0, vR v8), (2, vI v10)]) [0, 2] rfl ?_
      exact hk76 _ _ _
    refine s_aload_n hC 3 dX7_pass_30 rfl ?_
    refine s_iload hC 5 dX7_pass_31 rfl ?_
    refine s_aald hC dX7_pass_33 ?_
    refine s_ltR (fun v15 => ?_)
    refine s_astore hC dX7_pass_34 (by decide) (lv' := [(6, vR v15), (0, vR v8), (1, vI v9), (2, vI v10), (3, vR v11), (4, vI v12), (5, vI v13)]) rfl ?_
    refine s_aload hC 0 dX7_pass_36 rfl ?_
    refine s_aload hC 0 dX7_pass_38 rfl ?_
    refine s_iload_n hC 2 dX7_pass_40 rfl ?_
    refine s_aload_n hC 1 dX7_pass_41 rfl ?_
    refine s_getR hC xc7 (by decide) rfl qf_X7_42 dX7_pass_42 ?_
    refine s_ltR (fun v16 => ?_)
    refine s_getI hC xc4 (by decide) rfl qf_X7_109 dX7_pass_45 ?_
    refine s_aload_n hC 1 dX7_pass_48 rfl ?_
    refine s_getI hC xc7 (by decide) rfl qf_X7_80 dX7_pass_49 ?_
    refine s_callV hC (x := v15) (avs := [vI v9, vI (μ14.1 v16 9), vI (μ14.1 v8 9)]) (st := [vR v15]) (nest := false) xc0 (m_X0_pours hI v15 v9 (μ14.1 v16 9) (μ14.1 v8 9) μ14) dX7_pass_52 qm_X7_112 qi_X0_pours qs_X0_pours qc_X0 qd_X0_pours qh_X0_pours (by decide) (fun _ => Nat.le_of_ble_eq_true rfl) (Nat.le_of_ble_eq_true rfl) (fun v17 μ18 => ?_)
    refine s_putI hC xc0 (by decide) rfl rfl qf_X7_116 dX7_pass_55 ?_
    refine s_ltM (fun μ19 => ?_)
    refine s_aload hC 0 dX7_pass_58 rfl ?_
    refine s_aload_n hC 1 dX7_pass_60 rfl ?_
    refine s_aload hC 0 dX7_pass_61 rfl ?_
    refine s_iload_n hC 2 dX7_pass_63 rfl ?_
    refine s_callV hC (x := v8) (avs := [vR v15, vI v9]) (st := [vR v15]) (nest := false) xc7 (m_X7_sunOf hI v8 v15 v9 μ19) dX7_pass_64 qm_X7_119 qi_X7_sunOf qs_X7_sunOf qc_X7 qd_X7_sunOf qh_X7_sunOf (by decide) (fun _ => Nat.le_of_ble_eq_true rfl) (Nat.le_of_ble_eq_true rfl) (fun v20 μ21 => ?_)
    refine s_putI hC xc0 (by decide) rfl rfl qf_X7_103 dX7_pass_67 ?_
    refine s_ltM (fun μ22 => ?_)
    refine s_iinc hC 6 dX7_pass_70 rfl (w := 1) (by decide) (by decide) (lv' := [(5, vI (v13 + (1 : Int32))), (6, vR v15), (0, vR v8), (1, vI v9), (2, vI v10), (3, vR v11), (4, vI v12)]) rfl ?_
    refine s_goto hC dX7_pass_73 (tgt := 23) (by decide) ?_
    refine s_lv (lv' := [(0, vR v8), (1, vI v9), (2, vI v10), (3, vR v11), (4, vI v12), (5, vI (v13 + (1 : Int32)))]) [2, 3, 4, 5, 6, 0] rfl ?_
    exact ih _ _ _ _ _ _ _
def f_X7_pass_L105 (X : x_X) (k132 : Nat → Int32 → x_M → Option (Unit × x_M)) : Nat → Nat → Int32 → Int32 → Nat → Int32 → Int32 → x_M → Option (Unit × x_M)
  | 0, _, _, _, _, _, _, _ => none
  | n + 1, v32, v33, v34, v35, v36, v37, μ38 =>
    (if v36 ≤ v37 then (k132 v32 v33 μ38) else (ck ((x_kd X v35 = 23 ∨ x_kd X v35 = 24 ∨ x_kd X v35 = 25) ∧ x_ix v37 (x_ln X v35)) (lt (μ38.2.1 v35 (v37).toNatClampNeg) (fun (v39 : Nat) => (ck (x_kd X v32 = 7 + 1) (bd (f_X7_pourBy X v32 v39 v34 μ38) (fun (_ : Unit) (μ40 : x_M) => (f_X7_pass_L105 X k132 n v32 v33 v34 v35 v36 (v37 + (1 : Int32)) μ40))))))))
set_option maxRecDepth 100000 in
theorem j_X7_pass_L105 (hI : x_I X) (hC : x_C X x_Z0 p (x_rm 5) s m c cX7_pass RX7 8 0 0 5) (hr : meth.sig.returnType = none) (hlk : meth.locks = false) {k132 : Nat → Int32 → x_M → Option (Unit × x_M)} (hk132 : ∀ (b0 : Nat) (b2 : Int32) (μ : x_M), SM X 8 5 rkV p l e s m args below meth c 132 [(0, vR b0), (2, vI b2)] [] μ (k132 b0 b2 μ)) : ∀ (n : Nat) (v32 : Nat) (v33 : Int32) (v34 : Int32) (v35 : Nat) (v36 : Int32) (v37 : Int32) (μ38 : x_M), SM X 8 5 rkV p l e s m args below meth c 105 [(0, vR v32), (2, vI v33), (3, vI v34), (4, vR v35), (5, vI v36), (6, vI v37)] [] μ38 (f_X7_pass_L105 X k132 n v32 v33 v34 v35 v36 v37 μ38) := by
  intro n
  induction n with
  | zero => intro v32 v33 v34 v35 v36 v37 μ38; exact s_none
  | succ n ih =>
    intro v32 v33 v34 v35 v36 v37 μ38
    unfold f_X7_pass_L105
    refine s_iload hC 5 dX7_pass_105 rfl ?_
    refine s_iload hC 4 dX7_pass_107 rfl ?_
    refine s_icmp_ge hC dX7_pass_109 (tgt := 132) (by decide) ?_ ?_
    · refine s_lv (lv' := [(0, vR v32), (2, vI v33)]) [0, 1] rfl ?_
      exact hk132 _ _ _
    refine s_aload hC 3 dX7_pass_112 rfl ?_
    refine s_iload hC 5 dX7_pass_114 rfl ?_
    refine s_aald hC dX7_pass_116 ?_
    refine s_ltR (fun v39 => ?_)
    refine s_astore hC dX7_pass_117 (by decide) (lv' := [(7, vR v39), (0, vR v32), (2, vI v33), (3, vI v34), (4, vR v35), (5, vI v36), (6, vI v37)]) rfl ?_
    refine s_aload_n hC 1 dX7_pass_119 rfl ?_
    refine s_aload hC 0 dX7_pass_120 rfl ?_
    refine s_iload_n hC 3 dX7_pass_122 rfl ?_
    refine s_callV hC (x := v32) (avs := [vR v39, vI v34]) (st := []) (nest := false) xc7 (m_X7_pourBy hI v32 v39 v34 μ38) dX7_pass_123 qm_X7_126 qi_X7_pourBy qs_X7_pourBy qc_X7 qd_X7_pourBy qh_X7_pourBy (by decide) (fun _ => Nat.le_of_ble_eq_true rfl) (Nat.le_of_ble_eq_true rfl) (fun _ μ40 => ?_)
    refine s_iinc hC 6 dX7_pass_126 rfl (w := 1) (by decide) (by decide) (lv' := [(6, vI (v37 + (1 : Int32))), (7, vR v39), (0, vR v32), (2, vI v33), (3, vI v34), (4, vR v35), (5, vI v36)]) rfl ?_
    refine s_goto hC dX7_pass_129 (tgt := 105) (by decide) ?_
    refine s_lv (lv' := [(0, vR v32), (2, vI v33), (3, vI v34), (4, vR v35), (5, vI v36), (6, vI (v37 + (1 : Int32)))]) [2, 3, 4, 5, 6, 0] rfl ?_
    exact ih _ _ _ _ _ _ _
def f_X7_pass_L146 (X : x_X) (k199 : Nat → Int32 → x_M → Option (Unit × x_M)) : Nat → Nat → Int32 → Nat → Int32 → Int32 → x_M → Option (Unit × x_M)
  | 0, _, _, _, _, _, _ => none
  | n + 1, v46, v47, v48, v49, v50, μ51 =>
    (if v49 ≤ v50 then (k199 v46 v47 μ51) else (ck ((x_kd X v48 = 23 ∨ x_kd X v48 = 24 ∨ x_kd X v48 = 25) ∧ x_ix v50 (x_ln X v48)) (lt (μ51.2.1 v48 (v50).toNatClampNeg) (fun (v52 : Nat) => (ck (x_kd X v52 = 0 + 1) (ck (x_kd X v52 = 0 + 1) (ck (x_kd X v52 = 0 + 1) (lt (x_sI μ51 v52 5 ((μ51.1 v52 5) - (μ51.1 v52 9))) (fun (μ53 : x_M) => (ck (x_kd X v46 = 7 + 1) (ck (x_kd X v52 = 0 + 1) (lt ((μ53.1 v46 7) - (μ53.1 v52 9)) (fun (v54 : Int32) => (ck (x_kd X v46 = 7 + 1) (lt (x_sI μ53 v46 7 (if (0 : Int32) < v54 then v54 else (0 : Int32))) (fun (μ55 : x_M) => (f_X7_pass_L146 X k199 n v46 v47 v48 v49 (v50 + (1 : Int32)) μ55)))))))))))))))))
set_option maxRecDepth 100000 in
theorem j_X7_pass_L146 (hI : x_I X) (hC : x_C X x_Z0 p (x_rm 5) s m c cX7_pass RX7 8 0 0 5) (hr : meth.sig.returnType = none) (hlk : meth.locks = false) {k199 : Nat → Int32 → x_M → Option (Unit × x_M)} (hk199 : ∀ (b0 : Nat) (b2 : Int32) (μ : x_M), SM X 8 5 rkV p l e s m args below meth c 199 [(0, vR b0), (2, vI b2)] [] μ (k199 b0 b2 μ)) : ∀ (n : Nat) (v46 : Nat) (v47 : Int32) (v48 : Nat) (v49 : Int32) (v50 : Int32) (μ51 : x_M), SM X 8 5 rkV p l e s m args below meth c 146 [(0, vR v46), (2, vI v47), (4, vR v48), (5, vI v49), (6, vI v50)] [] μ51 (f_X7_pass_L146 X k199 n v46 v47 v48 v49 v50 μ51) := by
  intro n
  induction n with
  | zero => intro v46 v47 v48 v49 v50 μ51; exact s_none
  | succ n ih =>
    intro v46 v47 v48 v49 v50 μ51
    unfold f_X7_pass_L146
    refine s_iload hC 4 dX7_pass_146 rfl ?_
    refine s_iload hC 3 dX7_pass_148 rfl ?_
    refine s_icmp_ge hC dX7_pass_150 (tgt := 199) (by decide) ?_ ?_
    · refine s_lv (lv' := [(0, vR v46), (2, vI v47)]) [0, 1] rfl ?_
      exact hk199 _ _ _
    refine s_aload hC 2 dX7_pass_153 rfl ?_
    refine s_iload hC 4 dX7_pass_155 rfl ?_
    refine s_aald hC dX7_pass_157 ?_
    refine s_ltR (fun v52 => ?_)
    refine s_astore hC dX7_pass_158 (by decide) (lv' := [(7, vR v52), (0, vR v46), (2, vI v47), (4, vR v48), (5, vI v49), (6, vI v50)]) rfl ?_
    refine s_aload hC 0 dX7_pass_160 rfl ?_
    refine s_dupR hC dX7_pass_162 ?_
    refine s_getI hC xc0 (by decide) rfl qf_X7_69 dX7_pass_163 ?_
    refine s_aload hC 0 dX7_pass_166 rfl ?_
    refine s_getI hC xc0 (by decide) rfl qf_X7_103 dX7_pass_168 ?_
    refine s_isub hC dX7_pass_171 ?_
    refine s_putI hC xc0 (by decide) rfl rfl qf_X7_69 dX7_pass_172 ?_
    refine s_ltM (fun μ53 => ?_)
    refine s_aload_n hC 1 dX7_pass_175 rfl ?_
    refine s_iconst hC dX7_pass_176 (v := 0) (by decide) ?_
    refine s_aload_n hC 1 dX7_pass_177 rfl ?_
    refine s_getI hC xc7 (by decide) rfl qf_X7_46 dX7_pass_178 ?_
    refine s_aload hC 0 dX7_pass_181 rfl ?_
    refine s_getI hC xc0 (by decide) rfl qf_X7_103 dX7_pass_183 ?_
    refine s_isub hC dX7_pass_186 ?_
    refine s_ltI (fun v54 => ?_)
    refine s_max hC dX7_pass_187 qm_X7_130 qt_Math_max qc_Math qd_Math_max (by decide) (Nat.le_of_ble_eq_true rfl) ?_
    refine s_putI hC xc7 (by decide) rfl rfl qf_X7_46 dX7_pass_190 ?_
    refine s_ltM (fun μ55 => ?_)
    refine s_iinc hC 5 dX7_pass_193 rfl (w := 1) (by decide) (by decide) (lv' := [(6, vI (v50 + (1 : Int32))), (7, vR v52), (0, vR v46), (2, vI v47), (4, vR v48), (5, vI v49)]) rfl ?_
    refine s_goto hC dX7_pass_196 (tgt := 146) (by decide) ?_
    refine s_lv (lv' := [(0, vR v46), (2, vI v47), (4, vR v48), (5, vI v49), (6, vI (v50 + (1 : Int32)))]) [2, 3, 4, 5, 0] rfl ?_
    exact ih _ _ _ _ _ _
def f_X7_pass_L241 (X : x_X) (k266 : Nat → x_M → Option (Unit × x_M)) : Nat → Nat → Nat → Int32 → Int32 → x_M → Option (Unit × x_M)
  | 0, _, _, _, _, _ => none
  | n + 1, v67, v68, v69, v70, μ71 =>
    (if v69 ≤ v70 then (k266 v67 μ71) else (ck ((x_kd X v68 = 23 ∨ x_kd X v68 = 24 ∨ x_kd X v68 = 25) ∧ x_ix v70 (x_ln X v68)) (lt (μ71.2.1 v68 (v70).toNatClampNeg) (fun (v72 : Nat) => (ck (x_kd X v72 = 0 + 1) (bd (f_X0_holdBuckets X v72 μ71) (fun (_ : Unit) (μ73 : x_M) => (f_X7_pass_L241 X k266 n v67 v68 v69 (v70 + (1 : Int32)) μ73))))))))
set_option maxRecDepth 100000 in
theorem j_X7_pass_L241 (hI : x_I X) (hC : x_C X x_Z0 p (x_rm 5) s m c cX7_pass RX7 8 0 0 5) (hr : meth.sig.returnType = none) (hlk : meth.locks = false) {k266 : Nat → x_M → Option (Unit × x_M)} (hk266 : ∀ (b0 : Nat) (μ : x_M), SM X 8 5 rkV p l e s m args below meth c 266 [(0, vR b0)] [] μ (k266 b0 μ)) : ∀ (n : Nat) (v67 : Nat) (v68 : Nat) (v69 : Int32) (v70 : Int32) (μ71 : x_M), SM X 8 5 rkV p l e s m args below meth c 241 [(0, vR v67), (4, vR v68), (5, vI v69), (6, vI v70)] [] μ71 (f_X7_pass_L241 X k266 n v67 v68 v69 v70 μ71) := by
  intro n
  induction n with
  | zero => intro v67 v68 v69 v70 μ71; exact s_none
  | succ n ih =>
    intro v67 v68 v69 v70 μ71
    unfold f_X7_pass_L241
    refine s_iload hC 3 dX7_pass_241 rfl ?_
    refine s_iload hC 2 dX7_pass_243 rfl ?_
    refine s_icmp_ge hC dX7_pass_245 (tgt := 266) (by decide) ?_ ?_
    · refine s_lv (lv' := [(0, vR v67)]) [0] rfl ?_
      exact hk266 _ _
    refine s_aload hC 1 dX7_pass_248 rfl ?_
    refine s_iload hC 3 dX7_pass_250 rfl ?_
    refine s_aald hC dX7_pass_252 ?_
    refine s_ltR (fun v72 => ?_)
    refine s_astore hC dX7_pass_253 (by decide) (lv' := [(7, vR v72), (0, vR v67), (4, vR v68), (5, vI v69), (6, vI v70)]) rfl ?_
    refine s_aload hC 0 dX7_pass_255 rfl ?_
    refine s_callV hC (x := v72) (avs := []) (st := []) (nest := false) xc0 (m_X0_holdBuckets hI v72 μ71) dX7_pass_257 qm_X7_142 qi_X0_holdBuckets qs_X0_holdBuckets qc_X0 qd_X0_holdBuckets qh_X0_holdBuckets (by decide) (fun _ => Nat.le_of_ble_eq_true rfl) (Nat.le_of_ble_eq_true rfl) (fun _ μ73 => ?_)
    refine s_iinc hC 4 dX7_pass_260 rfl (w := 1) (by decide) (by decide) (lv' := [(6, vI (v70 + (1 : Int32))), (7, vR v72), (0, vR v67), (4, vR v68), (5, vI v69)]) rfl ?_
    refine s_goto hC dX7_pass_263 (tgt := 241) (by decide) ?_
    refine s_lv (lv' := [(0, vR v67), (4, vR v68), (5, vI v69), (6, vI (v70 + (1 : Int32)))]) [2, 3, 4, 0] rfl ?_
    exact ih _ _ _ _ _
def f_X7_pass (X : x_X) (v0 : Nat) (μ : x_M) : Option (Unit × x_M) :=
  (ck (x_kd X v0 = 7 + 1) (bd (f_X7_level X v0 μ) (fun (v2 : Int32) (μ3 : x_M) => (ck (x_kd X v0 = 7 + 1) (bd (f_X7_spring X v0 v2 μ3) (fun (v4 : Int32) (μ5 : x_M) => (ck (x_kd X v0 = 7 + 1) (lt (μ5.2.1 v0 1) (fun (v6 : Nat) => (ck (x_kd X v6 = 20 ∨ x_kd X v6 = 23 ∨ x_kd X v6 = 40 ∨ x_kd X v6 = 41) (lt (nI (x_ln X v6)) (fun (v7 : Int32) => (f_X7_pass_L23 X (fun (v23 : Nat) (v24 : Int32) (μ25 : x_M) => (ck (x_kd X v23 = 7 + 1) (lt (μ25.2.1 v23 0) (fun (v26 : Nat) => (ck (x_kd X v23 = 7 + 1) (lt (μ25.2.1 v23 5) (fun (v27 : Nat) => (ck (x_kd X v27 = 4 + 1) (ck (x_kd X v26 = 3 + 1) (bd (f_X3_volumeOf X v26 (μ25.1 v27 8) μ25) (fun (v28 : Int32) (μ29 : x_M) => (ck (x_kd X v23 = 7 + 1) (lt (μ29.2.1 v23 1) (fun (v30 : Nat) => (ck (x_kd X v30 = 20 ∨ x_kd X v30 = 23 ∨ x_kd X v30 = 40 ∨ x_kd X v30 = 41) (lt (nI (x_ln X v30)) (fun (v31 : Int32) => (f_X7_pass_L105 X (fun (v41 : Nat) (v42 : Int32) (μ43 : x_M) => (ck (x_kd X v41 = 7 + 1) (lt (μ43.2.1 v41 1) (fun (v44 : Nat) => (ck (x_kd X v44 = 20 ∨ x_kd X v44 = 23 ∨ x_kd X v44 = 40 ∨ x_kd X v44 = 41) (lt (nI (x_ln X v44)) (fun (v45 : Int32) => (f_X7_pass_L146 X (fun (v56 : Nat) (v57 : Int32) (μ58 : x_M) => (ck (x_kd X v56 = 7 + 1) (ck (x_kd X v56 = 7 + 1) (lt (x_sI μ58 v56 7 ((μ58.1 v56 7) + v57)) (fun (μ59 : x_M) => (ck (x_kd X v56 = 7 + 1) (lt (μ59.2.1 v56 0) (fun (v60 : Nat) => (ck (x_kd X v56 = 7 + 1) (lt (μ59.2.1 v56 5) (fun (v61 : Nat) => (ck (x_kd X v61 = 4 + 1) (ck (x_kd X v60 = 3 + 1) (bd (f_X3_volumeOf X v60 (μ59.1 v61 7) μ59) (fun (v62 : Int32) (μ63 : x_M) => (ck (x_kd X v56 = 7 + 1) (bd (f_X7_spillTo X v56 v62 μ63) (fun (_ : Unit) (μ64 : x_M) => (ck (x_kd X v56 = 7 + 1) (lt (μ64.2.1 v56 1) (fun (v65 : Nat) => (ck (x_kd X v65 = 20 ∨ x_kd X v65 = 23 ∨ x_kd X v65 = 40 ∨ x_kd X v65 = 41) (lt (nI (x_ln X v65)) (fun (v66 : Int32) => (f_X7_pass_L241 X (fun (v74 : Nat) (μ75 : x_M) => (ck (x_kd X v74 = 7 + 1) (ck (x_kd X v74 = 7 + 1) (lt (x_sI μ75 v74 9 ((μ75.1 v74 9) + (1 : Int32))) (fun (μ76 : x_M) => (some ((), μ76))))))) 4096 v56 v65 v66 (0 : Int32) μ64))))))))))))))))))))))))) 4096 v41 v42 v44 v45 (0 : Int32) μ43)))))))) 4096 v23 v24 v28 v30 v31 (0 : Int32) μ29)))))))))))))))))) 4096 v0 v2 v4 v6 v7 (0 : Int32) μ5)))))))))))))
set_option maxRecDepth 100000 in
theorem m_X7_pass (hI : x_I X) (v0 : Nat) (μ : x_M) : x_Met X x_Z0 l yX7_pass cX7_pass 8 none 5 [vR v0] μ rkV (f_X7_pass X v0 μ) := by
  refine x_enter hI (by decide +kernel) (Nat.le_of_ble_eq_true rfl) (fun p e s m args below meth c hC hr hlk => ?_)
  unfold f_X7_pass
  refine s_lv (lv' := [(0, vR v0)]) [0] rfl ?_
  refine s_aload_n hC 0 dX7_pass_0 rfl ?_
  refine s_callV hC (x := v0) (avs := []) (st := []) (nest := false) xc7 (m_X7_level hI v0 μ) dX7_pass_1 qm_X7_94 qi_X7_level qs_X7_level qc_X7 qd_X7_level qh_X7_level (by decide) (fun _ => Nat.le_of_ble_eq_true rfl) (Nat.le_of_ble_eq_true rfl) (fun v2 μ3 => ?_)
  refine s_istore_n hC dX7_pass_4 (by decide) (lv' := [(1, vI v2), (0, vR v0)]) rfl ?_
  refine s_aload_n hC 1 dX7_pass_5 rfl ?_
  refine s_iload_n hC 0 dX7_pass_6 rfl ?_
  refine s_callV hC (x := v0) (avs := [vI v2]) (st := []) (nest := false) xc7 (m_X7_spring hI v0 v2 μ3) dX7_pass_7 qm_X7_106 qi_X7_spring qs_X7_spring qc_X7 qd_X7_spring qh_X7_spring (by decide) (fun _ => Nat.le_of_ble_eq_true rfl) (Nat.le_of_ble_eq_true rfl) (fun v4 μ5 => ?_)
  refine s_istore_n hC dX7_pass_10 (by decide) (lv' := [(2, vI v4), (1, vI v2), (0, vR v0)]) rfl ?_
  refine s_aload_n hC 2 dX7_pass_11 rfl ?_
  refine s_getR hC xc7 (by decide) rfl qf_X7_20 dX7_pass_12 ?_
  refine s_ltR (fun v6 => ?_)
  refine s_astore_n hC dX7_pass_15 (by decide) (lv' := [(3, vR v6), (2, vI v4), (1, vI v2), (0, vR v0)]) rfl ?_
  refine s_aload_n hC 0 dX7_pass_16 rfl ?_
  refine s_alen hC dX7_pass_17 ?_
  refine s_ltI (fun v7 => ?_)
  refine s_istore hC dX7_pass_18 (by decide) (lv' := [(4, vI v7), (3, vR v6), (2, vI v4), (1, vI v2), (0, vR v0)]) rfl ?_
  refine s_iconst hC dX7_pass_20 (v := 0) (by decide) ?_
  refine s_istore hC dX7_pass_21 (by decide) (lv' := [(5, vI (0 : Int32)), (4, vI v7), (3, vR v6), (2, vI v4), (1, vI v2), (0, vR v0)]) rfl ?_
  refine s_lv (lv' := [(0, vR v0), (1, vI v2), (2, vI v4), (3, vR v6), (4, vI v7), (5, vI (0 : Int32))]) [5, 4, 3, 2, 1, 0] rfl ?_
  refine j_X7_pass_L23 hI hC hr hlk (fun v23 v24 μ25 => ?_) 4096 _ _ _ _ _ _ _
  refine s_aload_n hC 0 dX7_pass_76 rfl ?_
  refine s_getR hC xc7 (by decide) rfl qf_X7_12 dX7_pass_77 ?_
  refine s_ltR (fun v26 => ?_)
  refine s_aload_n hC 0 dX7_pass_80 rfl ?_
  refine s_getR hC xc7 (by decide) rfl qf_X7_42 dX7_pass_81 ?_
  refine s_ltR (fun v27 => ?_)
  refine s_getI hC xc4 (by decide) rfl qf_X7_97 dX7_pass_84 ?_
  refine s_callV hC (x := v26) (avs := [vI (μ25.1 v27 8)]) (st := []) (nest := false) xc3 (m_X3_volumeOf hI v26 (μ25.1 v27 8) μ25) dX7_pass_87 qm_X7_123 qi_X3_volumeOf qs_X3_volumeOf qc_X3 qd_X3_volumeOf qh_X3_volumeOf (by decide) (fun _ => Nat.le_of_ble_eq_true rfl) (Nat.le_of_ble_eq_true rfl) (fun v28 μ29 => ?_)
  refine s_istore_n hC dX7_pass_90 (by decide) (lv' := [(3, vI v28), (0, vR v23), (2, vI v24)]) rfl ?_
  refine s_aload_n hC 1 dX7_pass_91 rfl ?_
  refine s_getR hC xc7 (by decide) rfl qf_X7_20 dX7_pass_92 ?_
  refine s_ltR (fun v30 => ?_)
  refine s_astore hC dX7_pass_95 (by decide) (lv' := [(4, vR v30), (3, vI v28), (0, vR v23), (2, vI v24)]) rfl ?_
  refine s_aload hC 0 dX7_pass_97 rfl ?_
  refine s_alen hC dX7_pass_99 ?_
  refine s_ltI (fun v31 => ?_)
  refine s_istore hC dX7_pass_100 (by decide) (lv' := [(5, vI v31), (4, vR v30), (3, vI v28), (0, vR v23), (2, vI v24)]) rfl ?_
  refine s_iconst hC dX7_pass_102 (v := 0) (by decide) ?_
  refine s_istore hC dX7_pass_103 (by decide) (lv' := [(6, vI (0 : Int32)), (5, vI v31), (4, vR v30), (3, vI v28), (0, vR v23), (2, vI v24)]) rfl ?_
  refine s_lv (lv' := [(0, vR v23), (2, vI v24), (3, vI v28), (4, vR v30), (5, vI v31), (6, vI (0 : Int32))]) [4, 5, 3, 2, 1, 0] rfl ?_
  refine j_X7_pass_L105 hI hC hr hlk (fun v41 v42 μ43 => ?_) 4096 _ _ _ _ _ _ _
  refine s_aload_n hC 0 dX7_pass_132 rfl ?_
  refine s_getR hC xc7 (by decide) rfl qf_X7_20 dX7_pass_133 ?_
  refine s_ltR (fun v44 => ?_)
  refine s_astore hC dX7_pass_136 (by decide) (lv' := [(4, vR v44), (0, vR v41), (2, vI v42)]) rfl ?_
  refine s_aload hC 0 dX7_pass_138 rfl ?_
  refine s_alen hC dX7_pass_140 ?_
  refine s_ltI (fun v45 => ?_)
  refine s_istore hC dX7_pass_141 (by decide) (lv' := [(5, vI v45), (4, vR v44), (0, vR v41), (2, vI v42)]) rfl ?_
  refine s_iconst hC dX7_pass_143 (v := 0) (by decide) ?_
  refine s_istore hC dX7_pass_144 (by decide) (lv' := [(6, vI (0 : Int32)), (5, vI v45), (4, vR v44), (0, vR v41), (2, vI v42)]) rfl ?_
  refine s_lv (lv' := [(0, vR v41), (2, vI v42), (4, vR v44), (5, vI v45), (6, vI (0 : Int32))]) [3, 4, 2, 1, 0] rfl ?_
  refine j_X7_pass_L146 hI hC hr hlk (fun v56 v57 μ58 => ?_) 4096 _ _ _ _ _ _
  refine s_aload_n hC 0 dX7_pass_199 rfl ?_
  refine s_dupR hC dX7_pass_200 ?_
  refine s_getI hC xc7 (by decide) rfl qf_X7_46 dX7_pass_201 ?_
  refine s_iload_n hC 1 dX7_pass_204 rfl ?_
  refine s_iadd hC dX7_pass_205 ?_
  refine s_putI hC xc7 (by decide) rfl rfl qf_X7_46 dX7_pass_206 ?_
  refine s_ltM (fun μ59 => ?_)
  refine s_aload_n hC 0 dX7_pass_209 rfl ?_
  refine s_aload_n hC 0 dX7_pass_210 rfl ?_
  refine s_getR hC xc7 (by decide) rfl qf_X7_12 dX7_pass_211 ?_
  refine s_ltR (fun v60 => ?_)
  refine s_aload_n hC 0 dX7_pass_214 rfl ?_
  refine s_getR hC xc7 (by decide) rfl qf_X7_42 dX7_pass_215 ?_
  refine s_ltR (fun v61 => ?_)
  refine s_getI hC xc4 (by decide) rfl qf_X7_136 dX7_pass_218 ?_
  refine s_callV hC (x := v60) (avs := [vI (μ59.1 v61 7)]) (st := [vR v56]) (nest := false) xc3 (m_X3_volumeOf hI v60 (μ59.1 v61 7) μ59) dX7_pass_221 qm_X7_123 qi_X3_volumeOf qs_X3_volumeOf qc_X3 qd_X3_volumeOf qh_X3_volumeOf (by decide) (fun _ => Nat.le_of_ble_eq_true rfl) (Nat.le_of_ble_eq_true rfl) (fun v62 μ63 => ?_)
  refine s_callV hC (x := v56) (avs := [vI v62]) (st := []) (nest := false) xc7 (m_X7_spillTo hI v56 v62 μ63) dX7_pass_224 qm_X7_139 qi_X7_spillTo qs_X7_spillTo qc_X7 qd_X7_spillTo qh_X7_spillTo (by decide) (fun _ => Nat.le_of_ble_eq_true rfl) (Nat.le_of_ble_eq_true rfl) (fun _ μ64 => ?_)
  refine s_aload_n hC 0 dX7_pass_227 rfl ?_
  refine s_getR hC xc7 (by decide) rfl qf_X7_20 dX7_pass_228 ?_
  refine s_ltR (fun v65 => ?_)
  refine s_astore hC dX7_pass_231 (by decide) (lv' := [(4, vR v65), (0, vR v56), (2, vI v57)]) rfl ?_
  refine s_aload hC 0 dX7_pass_233 rfl ?_
  refine s_alen hC dX7_pass_235 ?_
  refine s_ltI (fun v66 => ?_)
  refine s_istore hC dX7_pass_236 (by decide) (lv' := [(5, vI v66), (4, vR v65), (0, vR v56), (2, vI v57)]) rfl ?_
  refine s_iconst hC dX7_pass_238 (v := 0) (by decide) ?_
  refine s_istore hC dX7_pass_239 (by decide) (lv' := [(6, vI (0 : Int32)), (5, vI v66), (4, vR v65), (0, vR v56), (2, vI v57)]) rfl ?_
  refine s_lv (lv' := [(0, vR v56), (4, vR v65), (5, vI v66), (6, vI (0 : Int32))]) [3, 2, 1, 0] rfl ?_
  refine j_X7_pass_L241 hI hC hr hlk (fun v74 μ75 => ?_) 4096 _ _ _ _ _
  refine s_aload_n hC 0 dX7_pass_266 rfl ?_
  refine s_dupR hC dX7_pass_267 ?_
  refine s_getI hC xc7 (by decide) rfl qf_X7_80 dX7_pass_268 ?_
  refine s_iconst hC dX7_pass_271 (v := 1) (by decide) ?_
  refine s_iadd hC dX7_pass_272 ?_
  refine s_putI hC xc7 (by decide) rfl rfl qf_X7_80 dX7_pass_273 ?_
  refine s_ltM (fun μ76 => ?_)
  exact s_vret hC hr hlk dX7_pass_276
end
