section
-- ===== PART A: goes FIRST, ahead of the names: the tables' words, and 'selects' of the private methods out of them =====
/-- a private method of a class that the tables say can be made, by its rows of tables_1 -/
def lw_okq (q : MethodName × Nat) : Prop := (q.1.cls ≠ "java/lang/invoke/MethodHandle" ∧ q.1.cls ≠ "java/lang/invoke/VarHandle") ∧ Cond.instantiable q.1.cls q.2 ∈ tables_1 ∧ Cond.privateMethod q.1 ∈ tables_1 ∧ Cond.instanceMethod q.1 ∈ tables_1
theorem lw_p0 : lw_okq (⟨"BitmapVolume$Boot", "draw4", "(II)V"⟩, 2) := ⟨⟨by decide +kernel, by decide +kernel⟩, List.mem_of_getElem? (i := 52) (by decide +kernel), List.mem_of_getElem? (i := 364) (by decide +kernel), List.mem_of_getElem? (i := 365) (by decide +kernel)⟩
theorem lw_p1 : lw_okq (⟨"BitmapVolume$Boot", "sumOfThree", "()I"⟩, 2) := ⟨⟨by decide +kernel, by decide +kernel⟩, List.mem_of_getElem? (i := 52) (by decide +kernel), List.mem_of_getElem? (i := 370) (by decide +kernel), List.mem_of_getElem? (i := 371) (by decide +kernel)⟩
theorem lw_p2 : lw_okq (⟨"BitmapVolume$Check", "found", "(III)I"⟩, 18) := ⟨⟨by decide +kernel, by decide +kernel⟩, List.mem_of_getElem? (i := 168) (by decide +kernel), List.mem_of_getElem? (i := 457) (by decide +kernel), List.mem_of_getElem? (i := 458) (by decide +kernel)⟩
theorem lw_p3 : lw_okq (⟨"BitmapVolume$Check", "meetRoot", "()I"⟩, 18) := ⟨⟨by decide +kernel, by decide +kernel⟩, List.mem_of_getElem? (i := 168) (by decide +kernel), List.mem_of_getElem? (i := 467) (by decide +kernel), List.mem_of_getElem? (i := 468) (by decide +kernel)⟩
theorem lw_p4 : lw_okq (⟨"BitmapVolume$Check", "meet", "(I)V"⟩, 18) := ⟨⟨by decide +kernel, by decide +kernel⟩, List.mem_of_getElem? (i := 168) (by decide +kernel), List.mem_of_getElem? (i := 471) (by decide +kernel), List.mem_of_getElem? (i := 472) (by decide +kernel)⟩
theorem lw_p5 : lw_okq (⟨"BitmapVolume$Check", "isMet", "(I)Z"⟩, 18) := ⟨⟨by decide +kernel, by decide +kernel⟩, List.mem_of_getElem? (i := 168) (by decide +kernel), List.mem_of_getElem? (i := 479) (by decide +kernel), List.mem_of_getElem? (i := 480) (by decide +kernel)⟩
theorem lw_p6 : lw_okq (⟨"BitmapVolume$Check", "meetBitmap", "(I)Z"⟩, 18) := ⟨⟨by decide +kernel, by decide +kernel⟩, List.mem_of_getElem? (i := 168) (by decide +kernel), List.mem_of_getElem? (i := 484) (by decide +kernel), List.mem_of_getElem? (i := 485) (by decide +kernel)⟩
theorem lw_p7 : lw_okq (⟨"BitmapVolume$Check", "meetSingle", "(I)Z"⟩, 18) := ⟨⟨by decide +kernel, by decide +kernel⟩, List.mem_of_getElem? (i := 168) (by decide +kernel), List.mem_of_getElem? (i := 494) (by decide +kernel), List.mem_of_getElem? (i := 495) (by decide +kernel)⟩
theorem lw_p8 : lw_okq (⟨"BitmapVolume$Check", "meetCases", "(I)Z"⟩, 18) := ⟨⟨by decide +kernel, by decide +kernel⟩, List.mem_of_getElem? (i := 168) (by decide +kernel), List.mem_of_getElem? (i := 498) (by decide +kernel), List.mem_of_getElem? (i := 499) (by decide +kernel)⟩
theorem lw_p9 : lw_okq (⟨"BitmapVolume$Check", "askDirectory", "(I)Z"⟩, 18) := ⟨⟨by decide +kernel, by decide +kernel⟩, List.mem_of_getElem? (i := 168) (by decide +kernel), List.mem_of_getElem? (i := 516) (by decide +kernel), List.mem_of_getElem? (i := 517) (by decide +kernel)⟩
theorem lw_p10 : lw_okq (⟨"BitmapVolume$Check", "strike", "(II)Z"⟩, 18) := ⟨⟨by decide +kernel, by decide +kernel⟩, List.mem_of_getElem? (i := 168) (by decide +kernel), List.mem_of_getElem? (i := 573) (by decide +kernel), List.mem_of_getElem? (i := 574) (by decide +kernel)⟩
theorem lw_p11 : lw_okq (⟨"BitmapVolume$Check", "meetSet", "(I)I"⟩, 18) := ⟨⟨by decide +kernel, by decide +kernel⟩, List.mem_of_getElem? (i := 168) (by decide +kernel), List.mem_of_getElem? (i := 579) (by decide +kernel), List.mem_of_getElem? (i := 580) (by decide +kernel)⟩
theorem lw_p12 : lw_okq (⟨"BitmapVolume$Sets", "isRightStream", "(I)Z"⟩, 2) := ⟨⟨by decide +kernel, by decide +kernel⟩, List.mem_of_getElem? (i := 107) (by decide +kernel), List.mem_of_getElem? (i := 597) (by decide +kernel), List.mem_of_getElem? (i := 598) (by decide +kernel)⟩
theorem lw_p13 : lw_okq (⟨"BitmapVolume$Sets", "isRightLength", "(II)Z"⟩, 2) := ⟨⟨by decide +kernel, by decide +kernel⟩, List.mem_of_getElem? (i := 107) (by decide +kernel), List.mem_of_getElem? (i := 601) (by decide +kernel), List.mem_of_getElem? (i := 602) (by decide +kernel)⟩
theorem lw_p14 : lw_okq (⟨"BitmapVolume$Sets", "isRightName", "(IILBitmapVolume$Name;)Z"⟩, 2) := ⟨⟨by decide +kernel, by decide +kernel⟩, List.mem_of_getElem? (i := 107) (by decide +kernel), List.mem_of_getElem? (i := 611) (by decide +kernel), List.mem_of_getElem? (i := 612) (by decide +kernel)⟩
theorem lw_p15 : lw_okq (⟨"BitmapVolume$Check", "faultOf", "(II)I"⟩, 18) := ⟨⟨by decide +kernel, by decide +kernel⟩, List.mem_of_getElem? (i := 168) (by decide +kernel), List.mem_of_getElem? (i := 674) (by decide +kernel), List.mem_of_getElem? (i := 675) (by decide +kernel)⟩
def lw_privs_1 : List (MethodName × Nat) := [(⟨"BitmapVolume$Boot", "draw4", "(II)V"⟩, 2), (⟨"BitmapVolume$Boot", "sumOfThree", "()I"⟩, 2), (⟨"BitmapVolume$Check", "found", "(III)I"⟩, 18), (⟨"BitmapVolume$Check", "meetRoot", "()I"⟩, 18), (⟨"BitmapVolume$Check", "meet", "(I)V"⟩, 18), (⟨"BitmapVolume$Check", "isMet", "(I)Z"⟩, 18), (⟨"BitmapVolume$Check", "meetBitmap", "(I)Z"⟩, 18), (⟨"BitmapVolume$Check", "meetSingle", "(I)Z"⟩, 18), (⟨"BitmapVolume$Check", "meetCases", "(I)Z"⟩, 18), (⟨"BitmapVolume$Check", "askDirectory", "(I)Z"⟩, 18), (⟨"BitmapVolume$Check", "strike", "(II)Z"⟩, 18), (⟨"BitmapVolume$Check", "meetSet", "(I)I"⟩, 18), (⟨"BitmapVolume$Sets", "isRightStream", "(I)Z"⟩, 2), (⟨"BitmapVolume$Sets", "isRightLength", "(II)Z"⟩, 2), (⟨"BitmapVolume$Sets", "isRightName", "(IILBitmapVolume$Name;)Z"⟩, 2), (⟨"BitmapVolume$Check", "faultOf", "(II)I"⟩, 18)]
theorem lw_r1 : ∀ q ∈ lw_privs_1, lw_okq q := List.forall_mem_cons.mpr ⟨lw_p0, List.forall_mem_cons.mpr ⟨lw_p1, List.forall_mem_cons.mpr ⟨lw_p2, List.forall_mem_cons.mpr ⟨lw_p3, List.forall_mem_cons.mpr ⟨lw_p4, List.forall_mem_cons.mpr ⟨lw_p5, List.forall_mem_cons.mpr ⟨lw_p6, List.forall_mem_cons.mpr ⟨lw_p7, List.forall_mem_cons.mpr ⟨lw_p8, List.forall_mem_cons.mpr ⟨lw_p9, List.forall_mem_cons.mpr ⟨lw_p10, List.forall_mem_cons.mpr ⟨lw_p11, List.forall_mem_cons.mpr ⟨lw_p12, List.forall_mem_cons.mpr ⟨lw_p13, List.forall_mem_cons.mpr ⟨lw_p14, List.forall_mem_cons.mpr ⟨lw_p15, fun _ h => absurd h List.not_mem_nil⟩⟩⟩⟩⟩⟩⟩⟩⟩⟩⟩⟩⟩⟩⟩⟩
theorem lw_p16 : lw_okq (⟨"BitmapVolume$Check", "hasLikeBefore", "(I)Z"⟩, 18) := ⟨⟨by decide +kernel, by decide +kernel⟩, List.mem_of_getElem? (i := 168) (by decide +kernel), List.mem_of_getElem? (i := 682) (by decide +kernel), List.mem_of_getElem? (i := 683) (by decide +kernel)⟩
theorem lw_p17 : lw_okq (⟨"BitmapVolume$Check", "isRightBitmap", "()Z"⟩, 18) := ⟨⟨by decide +kernel, by decide +kernel⟩, List.mem_of_getElem? (i := 168) (by decide +kernel), List.mem_of_getElem? (i := 715) (by decide +kernel), List.mem_of_getElem? (i := 716) (by decide +kernel)⟩
theorem lw_p18 : lw_okq (⟨"BitmapVolume$Check", "bitmapOctet", "(I)I"⟩, 18) := ⟨⟨by decide +kernel, by decide +kernel⟩, List.mem_of_getElem? (i := 168) (by decide +kernel), List.mem_of_getElem? (i := 719) (by decide +kernel), List.mem_of_getElem? (i := 720) (by decide +kernel)⟩
theorem lw_p19 : lw_okq (⟨"BitmapVolume$Tree", "indexCluster", "(III)V"⟩, 8) := ⟨⟨by decide +kernel, by decide +kernel⟩, List.mem_of_getElem? (i := 120) (by decide +kernel), List.mem_of_getElem? (i := 730) (by decide +kernel), List.mem_of_getElem? (i := 731) (by decide +kernel)⟩
theorem lw_p20 : lw_okq (⟨"BitmapVolume$Disk", "differs", "(I)Z"⟩, 5) := ⟨⟨by decide +kernel, by decide +kernel⟩, List.mem_of_getElem? (i := 26) (by decide +kernel), List.mem_of_getElem? (i := 767) (by decide +kernel), List.mem_of_getElem? (i := 768) (by decide +kernel)⟩
theorem lw_p21 : lw_okq (⟨"BitmapVolume$Disk", "forget", "()V"⟩, 5) := ⟨⟨by decide +kernel, by decide +kernel⟩, List.mem_of_getElem? (i := 26) (by decide +kernel), List.mem_of_getElem? (i := 771) (by decide +kernel), List.mem_of_getElem? (i := 772) (by decide +kernel)⟩
theorem lw_p22 : lw_okq (⟨"BitmapVolume$Check", "layBitmap", "()V"⟩, 18) := ⟨⟨by decide +kernel, by decide +kernel⟩, List.mem_of_getElem? (i := 168) (by decide +kernel), List.mem_of_getElem? (i := 789) (by decide +kernel), List.mem_of_getElem? (i := 790) (by decide +kernel)⟩
theorem lw_p23 : lw_okq (⟨"BitmapVolume$Name", "add", "(I)V"⟩, 2) := ⟨⟨by decide +kernel, by decide +kernel⟩, List.mem_of_getElem? (i := 176) (by decide +kernel), List.mem_of_getElem? (i := 802) (by decide +kernel), List.mem_of_getElem? (i := 803) (by decide +kernel)⟩
theorem lw_p24 : lw_okq (⟨"BitmapVolume$Acts", "planRow", "(ILBitmapVolume$Name;)Z"⟩, 8) := ⟨⟨by decide +kernel, by decide +kernel⟩, List.mem_of_getElem? (i := 254) (by decide +kernel), List.mem_of_getElem? (i := 871) (by decide +kernel), List.mem_of_getElem? (i := 872) (by decide +kernel)⟩
theorem lw_p25 : lw_okq (⟨"BitmapVolume$Acts", "freeRow", "(I)I"⟩, 8) := ⟨⟨by decide +kernel, by decide +kernel⟩, List.mem_of_getElem? (i := 254) (by decide +kernel), List.mem_of_getElem? (i := 883) (by decide +kernel), List.mem_of_getElem? (i := 884) (by decide +kernel)⟩
theorem lw_p26 : lw_okq (⟨"BitmapVolume$Acts", "openRow", "(ILBitmapVolume$Name;)Z"⟩, 8) := ⟨⟨by decide +kernel, by decide +kernel⟩, List.mem_of_getElem? (i := 254) (by decide +kernel), List.mem_of_getElem? (i := 902) (by decide +kernel), List.mem_of_getElem? (i := 903) (by decide +kernel)⟩
theorem lw_p27 : lw_okq (⟨"BitmapVolume$Acts", "soil", "()Z"⟩, 8) := ⟨⟨by decide +kernel, by decide +kernel⟩, List.mem_of_getElem? (i := 254) (by decide +kernel), List.mem_of_getElem? (i := 906) (by decide +kernel), List.mem_of_getElem? (i := 907) (by decide +kernel)⟩
theorem lw_p28 : lw_okq (⟨"BitmapVolume$Growth", "layFat", "()V"⟩, 6) := ⟨⟨by decide +kernel, by decide +kernel⟩, List.mem_of_getElem? (i := 260) (by decide +kernel), List.mem_of_getElem? (i := 922) (by decide +kernel), List.mem_of_getElem? (i := 923) (by decide +kernel)⟩
theorem lw_p29 : lw_okq (⟨"BitmapVolume$Acts", "growDirectory", "(I)V"⟩, 8) := ⟨⟨by decide +kernel, by decide +kernel⟩, List.mem_of_getElem? (i := 254) (by decide +kernel), List.mem_of_getElem? (i := 934) (by decide +kernel), List.mem_of_getElem? (i := 935) (by decide +kernel)⟩
theorem lw_p30 : lw_okq (⟨"BitmapVolume", "settled", "(I)I"⟩, 9) := ⟨⟨by decide +kernel, by decide +kernel⟩, List.mem_of_getElem? (i := 18) (by decide +kernel), List.mem_of_getElem? (i := 978) (by decide +kernel), List.mem_of_getElem? (i := 979) (by decide +kernel)⟩
theorem lw_p31 : lw_okq (⟨"BitmapVolume$Acts", "openFile", "(I)V"⟩, 8) := ⟨⟨by decide +kernel, by decide +kernel⟩, List.mem_of_getElem? (i := 254) (by decide +kernel), List.mem_of_getElem? (i := 999) (by decide +kernel), List.mem_of_getElem? (i := 1000) (by decide +kernel)⟩
def lw_privs_2 : List (MethodName × Nat) := [(⟨"BitmapVolume$Check", "hasLikeBefore", "(I)Z"⟩, 18), (⟨"BitmapVolume$Check", "isRightBitmap", "()Z"⟩, 18), (⟨"BitmapVolume$Check", "bitmapOctet", "(I)I"⟩, 18), (⟨"BitmapVolume$Tree", "indexCluster", "(III)V"⟩, 8), (⟨"BitmapVolume$Disk", "differs", "(I)Z"⟩, 5), (⟨"BitmapVolume$Disk", "forget", "()V"⟩, 5), (⟨"BitmapVolume$Check", "layBitmap", "()V"⟩, 18), (⟨"BitmapVolume$Name", "add", "(I)V"⟩, 2), (⟨"BitmapVolume$Acts", "planRow", "(ILBitmapVolume$Name;)Z"⟩, 8), (⟨"BitmapVolume$Acts", "freeRow", "(I)I"⟩, 8), (⟨"BitmapVolume$Acts", "openRow", "(ILBitmapVolume$Name;)Z"⟩, 8), (⟨"BitmapVolume$Acts", "soil", "()Z"⟩, 8), (⟨"BitmapVolume$Growth", "layFat", "()V"⟩, 6), (⟨"BitmapVolume$Acts", "growDirectory", "(I)V"⟩, 8), (⟨"BitmapVolume", "settled", "(I)I"⟩, 9), (⟨"BitmapVolume$Acts", "openFile", "(I)V"⟩, 8)]
theorem lw_r2 : ∀ q ∈ lw_privs_2, lw_okq q := List.forall_mem_cons.mpr ⟨lw_p16, List.forall_mem_cons.mpr ⟨lw_p17, List.forall_mem_cons.mpr ⟨lw_p18, List.forall_mem_cons.mpr ⟨lw_p19, List.forall_mem_cons.mpr ⟨lw_p20, List.forall_mem_cons.mpr ⟨lw_p21, List.forall_mem_cons.mpr ⟨lw_p22, List.forall_mem_cons.mpr ⟨lw_p23, List.forall_mem_cons.mpr ⟨lw_p24, List.forall_mem_cons.mpr ⟨lw_p25, List.forall_mem_cons.mpr ⟨lw_p26, List.forall_mem_cons.mpr ⟨lw_p27, List.forall_mem_cons.mpr ⟨lw_p28, List.forall_mem_cons.mpr ⟨lw_p29, List.forall_mem_cons.mpr ⟨lw_p30, List.forall_mem_cons.mpr ⟨lw_p31, fun _ h => absurd h List.not_mem_nil⟩⟩⟩⟩⟩⟩⟩⟩⟩⟩⟩⟩⟩⟩⟩⟩
theorem lw_p32 : lw_okq (⟨"BitmapVolume$Acts", "relay", "(IZII)Z"⟩, 8) := ⟨⟨by decide +kernel, by decide +kernel⟩, List.mem_of_getElem? (i := 254) (by decide +kernel), List.mem_of_getElem? (i := 1003) (by decide +kernel), List.mem_of_getElem? (i := 1004) (by decide +kernel)⟩
theorem lw_p33 : lw_okq (⟨"BitmapVolumeModel", "layBoot", "(II)V"⟩, 49) := ⟨⟨by decide +kernel, by decide +kernel⟩, List.mem_of_getElem? (i := 1114) (by decide +kernel), List.mem_of_getElem? (i := 1279) (by decide +kernel), List.mem_of_getElem? (i := 1280) (by decide +kernel)⟩
theorem lw_p34 : lw_okq (⟨"BitmapVolumeModel", "layOwn", "(II)I"⟩, 49) := ⟨⟨by decide +kernel, by decide +kernel⟩, List.mem_of_getElem? (i := 1114) (by decide +kernel), List.mem_of_getElem? (i := 1306) (by decide +kernel), List.mem_of_getElem? (i := 1307) (by decide +kernel)⟩
theorem lw_p35 : lw_okq (⟨"BitmapVolumeModel", "layGreat", "(III)I"⟩, 49) := ⟨⟨by decide +kernel, by decide +kernel⟩, List.mem_of_getElem? (i := 1114) (by decide +kernel), List.mem_of_getElem? (i := 1311) (by decide +kernel), List.mem_of_getElem? (i := 1312) (by decide +kernel)⟩
theorem lw_p36 : lw_okq (⟨"BitmapVolumeModel", "isMountable", "()Z"⟩, 49) := ⟨⟨by decide +kernel, by decide +kernel⟩, List.mem_of_getElem? (i := 1114) (by decide +kernel), List.mem_of_getElem? (i := 1341) (by decide +kernel), List.mem_of_getElem? (i := 1342) (by decide +kernel)⟩
theorem lw_p37 : lw_okq (⟨"BitmapVolumeModel", "isBoot", "(I)Z"⟩, 49) := ⟨⟨by decide +kernel, by decide +kernel⟩, List.mem_of_getElem? (i := 1114) (by decide +kernel), List.mem_of_getElem? (i := 1345) (by decide +kernel), List.mem_of_getElem? (i := 1346) (by decide +kernel)⟩
theorem lw_p38 : lw_okq (⟨"BitmapVolumeModel", "isZero", "(II)Z"⟩, 49) := ⟨⟨by decide +kernel, by decide +kernel⟩, List.mem_of_getElem? (i := 1114) (by decide +kernel), List.mem_of_getElem? (i := 1353) (by decide +kernel), List.mem_of_getElem? (i := 1354) (by decide +kernel)⟩
theorem lw_p39 : lw_okq (⟨"BitmapVolumeModel", "meets", "(III)Z"⟩, 49) := ⟨⟨by decide +kernel, by decide +kernel⟩, List.mem_of_getElem? (i := 1114) (by decide +kernel), List.mem_of_getElem? (i := 1358) (by decide +kernel), List.mem_of_getElem? (i := 1359) (by decide +kernel)⟩
theorem lw_p40 : lw_okq (⟨"BitmapVolumeModel", "fat", "([BI)J"⟩, 49) := ⟨⟨by decide +kernel, by decide +kernel⟩, List.mem_of_getElem? (i := 1114) (by decide +kernel), List.mem_of_getElem? (i := 1362) (by decide +kernel), List.mem_of_getElem? (i := 1363) (by decide +kernel)⟩
theorem lw_p41 : lw_okq (⟨"BitmapVolumeModel", "isCluster", "(J)Z"⟩, 49) := ⟨⟨by decide +kernel, by decide +kernel⟩, List.mem_of_getElem? (i := 1114) (by decide +kernel), List.mem_of_getElem? (i := 1366) (by decide +kernel), List.mem_of_getElem? (i := 1367) (by decide +kernel)⟩
theorem lw_p42 : lw_okq (⟨"BitmapVolumeModel", "isMapThere", "()Z"⟩, 49) := ⟨⟨by decide +kernel, by decide +kernel⟩, List.mem_of_getElem? (i := 1114) (by decide +kernel), List.mem_of_getElem? (i := 1370) (by decide +kernel), List.mem_of_getElem? (i := 1371) (by decide +kernel)⟩
theorem lw_p43 : lw_okq (⟨"BitmapVolumeModel", "hasCluster", "(I)Z"⟩, 49) := ⟨⟨by decide +kernel, by decide +kernel⟩, List.mem_of_getElem? (i := 1114) (by decide +kernel), List.mem_of_getElem? (i := 1374) (by decide +kernel), List.mem_of_getElem? (i := 1375) (by decide +kernel)⟩
theorem lw_p44 : lw_okq (⟨"BitmapVolumeModel", "isTableThere", "()Z"⟩, 49) := ⟨⟨by decide +kernel, by decide +kernel⟩, List.mem_of_getElem? (i := 1114) (by decide +kernel), List.mem_of_getElem? (i := 1378) (by decide +kernel), List.mem_of_getElem? (i := 1379) (by decide +kernel)⟩
theorem lw_p45 : lw_okq (⟨"BitmapVolumeModel", "isTable", "(II)Z"⟩, 49) := ⟨⟨by decide +kernel, by decide +kernel⟩, List.mem_of_getElem? (i := 1114) (by decide +kernel), List.mem_of_getElem? (i := 1382) (by decide +kernel), List.mem_of_getElem? (i := 1383) (by decide +kernel)⟩
theorem lw_p46 : lw_okq (⟨"BitmapVolumeModel", "areSetsRight", "()Z"⟩, 49) := ⟨⟨by decide +kernel, by decide +kernel⟩, List.mem_of_getElem? (i := 1114) (by decide +kernel), List.mem_of_getElem? (i := 1387) (by decide +kernel), List.mem_of_getElem? (i := 1388) (by decide +kernel)⟩
theorem lw_p47 : lw_okq (⟨"BitmapVolumeModel", "beginSets", "()V"⟩, 49) := ⟨⟨by decide +kernel, by decide +kernel⟩, List.mem_of_getElem? (i := 1114) (by decide +kernel), List.mem_of_getElem? (i := 1391) (by decide +kernel), List.mem_of_getElem? (i := 1392) (by decide +kernel)⟩
def lw_privs_3 : List (MethodName × Nat) := [(⟨"BitmapVolume$Acts", "relay", "(IZII)Z"⟩, 8), (⟨"BitmapVolumeModel", "layBoot", "(II)V"⟩, 49), (⟨"BitmapVolumeModel", "layOwn", "(II)I"⟩, 49), (⟨"BitmapVolumeModel", "layGreat", "(III)I"⟩, 49), (⟨"BitmapVolumeModel", "isMountable", "()Z"⟩, 49), (⟨"BitmapVolumeModel", "isBoot", "(I)Z"⟩, 49), (⟨"BitmapVolumeModel", "isZero", "(II)Z"⟩, 49), (⟨"BitmapVolumeModel", "meets", "(III)Z"⟩, 49), (⟨"BitmapVolumeModel", "fat", "([BI)J"⟩, 49), (⟨"BitmapVolumeModel", "isCluster", "(J)Z"⟩, 49), (⟨"BitmapVolumeModel", "isMapThere", "()Z"⟩, 49), (⟨"BitmapVolumeModel", "hasCluster", "(I)Z"⟩, 49), (⟨"BitmapVolumeModel", "isTableThere", "()Z"⟩, 49), (⟨"BitmapVolumeModel", "isTable", "(II)Z"⟩, 49), (⟨"BitmapVolumeModel", "areSetsRight", "()Z"⟩, 49), (⟨"BitmapVolumeModel", "beginSets", "()V"⟩, 49)]
theorem lw_r3 : ∀ q ∈ lw_privs_3, lw_okq q := List.forall_mem_cons.mpr ⟨lw_p32, List.forall_mem_cons.mpr ⟨lw_p33, List.forall_mem_cons.mpr ⟨lw_p34, List.forall_mem_cons.mpr ⟨lw_p35, List.forall_mem_cons.mpr ⟨lw_p36, List.forall_mem_cons.mpr ⟨lw_p37, List.forall_mem_cons.mpr ⟨lw_p38, List.forall_mem_cons.mpr ⟨lw_p39, List.forall_mem_cons.mpr ⟨lw_p40, List.forall_mem_cons.mpr ⟨lw_p41, List.forall_mem_cons.mpr ⟨lw_p42, List.forall_mem_cons.mpr ⟨lw_p43, List.forall_mem_cons.mpr ⟨lw_p44, List.forall_mem_cons.mpr ⟨lw_p45, List.forall_mem_cons.mpr ⟨lw_p46, List.forall_mem_cons.mpr ⟨lw_p47, fun _ h => absurd h List.not_mem_nil⟩⟩⟩⟩⟩⟩⟩⟩⟩⟩⟩⟩⟩⟩⟩⟩
theorem lw_p48 : lw_okq (⟨"BitmapVolumeModel", "isDirectoryRight", "(I)Z"⟩, 49) := ⟨⟨by decide +kernel, by decide +kernel⟩, List.mem_of_getElem? (i := 1114) (by decide +kernel), List.mem_of_getElem? (i := 1395) (by decide +kernel), List.mem_of_getElem? (i := 1396) (by decide +kernel)⟩
theorem lw_p49 : lw_okq (⟨"BitmapVolumeModel", "rowOfSet", "(I)V"⟩, 49) := ⟨⟨by decide +kernel, by decide +kernel⟩, List.mem_of_getElem? (i := 1114) (by decide +kernel), List.mem_of_getElem? (i := 1399) (by decide +kernel), List.mem_of_getElem? (i := 1400) (by decide +kernel)⟩
theorem lw_p50 : lw_okq (⟨"BitmapVolumeModel", "rowOfRoot", "()V"⟩, 49) := ⟨⟨by decide +kernel, by decide +kernel⟩, List.mem_of_getElem? (i := 1114) (by decide +kernel), List.mem_of_getElem? (i := 1403) (by decide +kernel), List.mem_of_getElem? (i := 1404) (by decide +kernel)⟩
theorem lw_p51 : lw_okq (⟨"BitmapVolumeModel", "entries", "()I"⟩, 49) := ⟨⟨by decide +kernel, by decide +kernel⟩, List.mem_of_getElem? (i := 1114) (by decide +kernel), List.mem_of_getElem? (i := 1408) (by decide +kernel), List.mem_of_getElem? (i := 1409) (by decide +kernel)⟩
theorem lw_p52 : lw_okq (⟨"BitmapVolumeModel", "typeOf", "(I)I"⟩, 49) := ⟨⟨by decide +kernel, by decide +kernel⟩, List.mem_of_getElem? (i := 1114) (by decide +kernel), List.mem_of_getElem? (i := 1412) (by decide +kernel), List.mem_of_getElem? (i := 1413) (by decide +kernel)⟩
theorem lw_p53 : lw_okq (⟨"BitmapVolumeModel", "entryAt", "(I)I"⟩, 49) := ⟨⟨by decide +kernel, by decide +kernel⟩, List.mem_of_getElem? (i := 1114) (by decide +kernel), List.mem_of_getElem? (i := 1416) (by decide +kernel), List.mem_of_getElem? (i := 1417) (by decide +kernel)⟩
theorem lw_p54 : lw_okq (⟨"BitmapVolumeModel", "wantType", "(II)V"⟩, 49) := ⟨⟨by decide +kernel, by decide +kernel⟩, List.mem_of_getElem? (i := 1114) (by decide +kernel), List.mem_of_getElem? (i := 1420) (by decide +kernel), List.mem_of_getElem? (i := 1421) (by decide +kernel)⟩
theorem lw_p55 : lw_okq (⟨"BitmapVolumeModel", "isSet", "(I)Z"⟩, 49) := ⟨⟨by decide +kernel, by decide +kernel⟩, List.mem_of_getElem? (i := 1114) (by decide +kernel), List.mem_of_getElem? (i := 1424) (by decide +kernel), List.mem_of_getElem? (i := 1425) (by decide +kernel)⟩
theorem lw_p56 : lw_okq (⟨"BitmapVolumeModel", "isStream", "(I)Z"⟩, 49) := ⟨⟨by decide +kernel, by decide +kernel⟩, List.mem_of_getElem? (i := 1114) (by decide +kernel), List.mem_of_getElem? (i := 1428) (by decide +kernel), List.mem_of_getElem? (i := 1429) (by decide +kernel)⟩
theorem lw_p57 : lw_okq (⟨"BitmapVolumeModel", "isNamed", "(I)Z"⟩, 49) := ⟨⟨by decide +kernel, by decide +kernel⟩, List.mem_of_getElem? (i := 1114) (by decide +kernel), List.mem_of_getElem? (i := 1433) (by decide +kernel), List.mem_of_getElem? (i := 1434) (by decide +kernel)⟩
theorem lw_p58 : lw_okq (⟨"BitmapVolumeModel", "setSum", "([BII)I"⟩, 49) := ⟨⟨by decide +kernel, by decide +kernel⟩, List.mem_of_getElem? (i := 1114) (by decide +kernel), List.mem_of_getElem? (i := 1446) (by decide +kernel), List.mem_of_getElem? (i := 1447) (by decide +kernel)⟩
theorem lw_p59 : lw_okq (⟨"BitmapVolumeModel", "hashOf", "([II)I"⟩, 49) := ⟨⟨by decide +kernel, by decide +kernel⟩, List.mem_of_getElem? (i := 1114) (by decide +kernel), List.mem_of_getElem? (i := 1451) (by decide +kernel), List.mem_of_getElem? (i := 1452) (by decide +kernel)⟩
theorem lw_p60 : lw_okq (⟨"BitmapVolumeModel", "wrong", "(III)Z"⟩, 49) := ⟨⟨by decide +kernel, by decide +kernel⟩, List.mem_of_getElem? (i := 1114) (by decide +kernel), List.mem_of_getElem? (i := 1455) (by decide +kernel), List.mem_of_getElem? (i := 1456) (by decide +kernel)⟩
theorem lw_p61 : lw_okq (⟨"BitmapVolumeModel", "clustersWrong", "()I"⟩, 49) := ⟨⟨by decide +kernel, by decide +kernel⟩, List.mem_of_getElem? (i := 1114) (by decide +kernel), List.mem_of_getElem? (i := 1459) (by decide +kernel), List.mem_of_getElem? (i := 1460) (by decide +kernel)⟩
theorem lw_p62 : lw_okq (⟨"BitmapVolumeModel", "openEnd", "(I)I"⟩, 49) := ⟨⟨by decide +kernel, by decide +kernel⟩, List.mem_of_getElem? (i := 1114) (by decide +kernel), List.mem_of_getElem? (i := 1463) (by decide +kernel), List.mem_of_getElem? (i := 1464) (by decide +kernel)⟩
theorem lw_p63 : lw_okq (⟨"BitmapVolumeModel", "isThereBefore", "(II)Z"⟩, 49) := ⟨⟨by decide +kernel, by decide +kernel⟩, List.mem_of_getElem? (i := 1114) (by decide +kernel), List.mem_of_getElem? (i := 1467) (by decide +kernel), List.mem_of_getElem? (i := 1468) (by decide +kernel)⟩
def lw_privs_4 : List (MethodName × Nat) := [(⟨"BitmapVolumeModel", "isDirectoryRight", "(I)Z"⟩, 49), (⟨"BitmapVolumeModel", "rowOfSet", "(I)V"⟩, 49), (⟨"BitmapVolumeModel", "rowOfRoot", "()V"⟩, 49), (⟨"BitmapVolumeModel", "entries", "()I"⟩, 49), (⟨"BitmapVolumeModel", "typeOf", "(I)I"⟩, 49), (⟨"BitmapVolumeModel", "entryAt", "(I)I"⟩, 49), (⟨"BitmapVolumeModel", "wantType", "(II)V"⟩, 49), (⟨"BitmapVolumeModel", "isSet", "(I)Z"⟩, 49), (⟨"BitmapVolumeModel", "isStream", "(I)Z"⟩, 49), (⟨"BitmapVolumeModel", "isNamed", "(I)Z"⟩, 49), (⟨"BitmapVolumeModel", "setSum", "([BII)I"⟩, 49), (⟨"BitmapVolumeModel", "hashOf", "([II)I"⟩, 49), (⟨"BitmapVolumeModel", "wrong", "(III)Z"⟩, 49), (⟨"BitmapVolumeModel", "clustersWrong", "()I"⟩, 49), (⟨"BitmapVolumeModel", "openEnd", "(I)I"⟩, 49), (⟨"BitmapVolumeModel", "isThereBefore", "(II)Z"⟩, 49)]
theorem lw_r4 : ∀ q ∈ lw_privs_4, lw_okq q := List.forall_mem_cons.mpr ⟨lw_p48, List.forall_mem_cons.mpr ⟨lw_p49, List.forall_mem_cons.mpr ⟨lw_p50, List.forall_mem_cons.mpr ⟨lw_p51, List.forall_mem_cons.mpr ⟨lw_p52, List.forall_mem_cons.mpr ⟨lw_p53, List.forall_mem_cons.mpr ⟨lw_p54, List.forall_mem_cons.mpr ⟨lw_p55, List.forall_mem_cons.mpr ⟨lw_p56, List.forall_mem_cons.mpr ⟨lw_p57, List.forall_mem_cons.mpr ⟨lw_p58, List.forall_mem_cons.mpr ⟨lw_p59, List.forall_mem_cons.mpr ⟨lw_p60, List.forall_mem_cons.mpr ⟨lw_p61, List.forall_mem_cons.mpr ⟨lw_p62, List.forall_mem_cons.mpr ⟨lw_p63, fun _ h => absurd h List.not_mem_nil⟩⟩⟩⟩⟩⟩⟩⟩⟩⟩⟩⟩⟩⟩⟩⟩
theorem lw_p64 : lw_okq (⟨"BitmapVolumeModel", "keepName", "()V"⟩, 49) := ⟨⟨by decide +kernel, by decide +kernel⟩, List.mem_of_getElem? (i := 1114) (by decide +kernel), List.mem_of_getElem? (i := 1471) (by decide +kernel), List.mem_of_getElem? (i := 1472) (by decide +kernel)⟩
theorem lw_p65 : lw_okq (⟨"BitmapVolumeModel", "isLike", "(I)Z"⟩, 49) := ⟨⟨by decide +kernel, by decide +kernel⟩, List.mem_of_getElem? (i := 1114) (by decide +kernel), List.mem_of_getElem? (i := 1475) (by decide +kernel), List.mem_of_getElem? (i := 1476) (by decide +kernel)⟩
theorem lw_p66 : lw_okq (⟨"BitmapVolumeModel", "wantFat", "(IJ)V"⟩, 49) := ⟨⟨by decide +kernel, by decide +kernel⟩, List.mem_of_getElem? (i := 1114) (by decide +kernel), List.mem_of_getElem? (i := 1479) (by decide +kernel), List.mem_of_getElem? (i := 1480) (by decide +kernel)⟩
theorem lw_p67 : lw_okq (⟨"BitmapVolumeModel", "meetClusters", "()V"⟩, 49) := ⟨⟨by decide +kernel, by decide +kernel⟩, List.mem_of_getElem? (i := 1114) (by decide +kernel), List.mem_of_getElem? (i := 1483) (by decide +kernel), List.mem_of_getElem? (i := 1484) (by decide +kernel)⟩
theorem lw_p68 : lw_okq (⟨"BitmapVolumeModel", "addSet", "(II)V"⟩, 49) := ⟨⟨by decide +kernel, by decide +kernel⟩, List.mem_of_getElem? (i := 1114) (by decide +kernel), List.mem_of_getElem? (i := 1487) (by decide +kernel), List.mem_of_getElem? (i := 1488) (by decide +kernel)⟩
theorem lw_p69 : lw_okq (⟨"BitmapVolumeModel", "isMapRight", "()Z"⟩, 49) := ⟨⟨by decide +kernel, by decide +kernel⟩, List.mem_of_getElem? (i := 1114) (by decide +kernel), List.mem_of_getElem? (i := 1491) (by decide +kernel), List.mem_of_getElem? (i := 1492) (by decide +kernel)⟩
theorem lw_p70 : lw_okq (⟨"BitmapVolumeModel", "mapOctet", "(I)I"⟩, 49) := ⟨⟨by decide +kernel, by decide +kernel⟩, List.mem_of_getElem? (i := 1114) (by decide +kernel), List.mem_of_getElem? (i := 1495) (by decide +kernel), List.mem_of_getElem? (i := 1496) (by decide +kernel)⟩
theorem lw_p71 : lw_okq (⟨"BitmapVolumeModel", "freeMany", "()I"⟩, 49) := ⟨⟨by decide +kernel, by decide +kernel⟩, List.mem_of_getElem? (i := 1114) (by decide +kernel), List.mem_of_getElem? (i := 1503) (by decide +kernel), List.mem_of_getElem? (i := 1504) (by decide +kernel)⟩
theorem lw_p72 : lw_okq (⟨"BitmapVolumeModel", "isTaken", "([BI)Z"⟩, 49) := ⟨⟨by decide +kernel, by decide +kernel⟩, List.mem_of_getElem? (i := 1114) (by decide +kernel), List.mem_of_getElem? (i := 1507) (by decide +kernel), List.mem_of_getElem? (i := 1508) (by decide +kernel)⟩
theorem lw_p73 : lw_okq (⟨"BitmapVolumeModel", "beginWrite", "()V"⟩, 49) := ⟨⟨by decide +kernel, by decide +kernel⟩, List.mem_of_getElem? (i := 1114) (by decide +kernel), List.mem_of_getElem? (i := 1511) (by decide +kernel), List.mem_of_getElem? (i := 1512) (by decide +kernel)⟩
theorem lw_p74 : lw_okq (⟨"BitmapVolumeModel", "flush", "()Z"⟩, 49) := ⟨⟨by decide +kernel, by decide +kernel⟩, List.mem_of_getElem? (i := 1114) (by decide +kernel), List.mem_of_getElem? (i := 1515) (by decide +kernel), List.mem_of_getElem? (i := 1516) (by decide +kernel)⟩
theorem lw_p75 : lw_okq (⟨"BitmapVolumeModel", "usedDraft", "()I"⟩, 49) := ⟨⟨by decide +kernel, by decide +kernel⟩, List.mem_of_getElem? (i := 1114) (by decide +kernel), List.mem_of_getElem? (i := 1539) (by decide +kernel), List.mem_of_getElem? (i := 1540) (by decide +kernel)⟩
theorem lw_p76 : lw_okq (⟨"BitmapVolumeModel", "directoryAt", "(I)I"⟩, 49) := ⟨⟨by decide +kernel, by decide +kernel⟩, List.mem_of_getElem? (i := 1114) (by decide +kernel), List.mem_of_getElem? (i := 1543) (by decide +kernel), List.mem_of_getElem? (i := 1544) (by decide +kernel)⟩
theorem lw_p77 : lw_okq (⟨"BitmapVolumeModel", "setAt", "(I)I"⟩, 49) := ⟨⟨by decide +kernel, by decide +kernel⟩, List.mem_of_getElem? (i := 1114) (by decide +kernel), List.mem_of_getElem? (i := 1547) (by decide +kernel), List.mem_of_getElem? (i := 1548) (by decide +kernel)⟩
theorem lw_p78 : lw_okq (⟨"BitmapVolumeModel", "scan", "()V"⟩, 49) := ⟨⟨by decide +kernel, by decide +kernel⟩, List.mem_of_getElem? (i := 1114) (by decide +kernel), List.mem_of_getElem? (i := 1551) (by decide +kernel), List.mem_of_getElem? (i := 1552) (by decide +kernel)⟩
theorem lw_p79 : lw_okq (⟨"BitmapVolumeModel", "like", "(II)I"⟩, 49) := ⟨⟨by decide +kernel, by decide +kernel⟩, List.mem_of_getElem? (i := 1114) (by decide +kernel), List.mem_of_getElem? (i := 1555) (by decide +kernel), List.mem_of_getElem? (i := 1556) (by decide +kernel)⟩
def lw_privs_5 : List (MethodName × Nat) := [(⟨"BitmapVolumeModel", "keepName", "()V"⟩, 49), (⟨"BitmapVolumeModel", "isLike", "(I)Z"⟩, 49), (⟨"BitmapVolumeModel", "wantFat", "(IJ)V"⟩, 49), (⟨"BitmapVolumeModel", "meetClusters", "()V"⟩, 49), (⟨"BitmapVolumeModel", "addSet", "(II)V"⟩, 49), (⟨"BitmapVolumeModel", "isMapRight", "()Z"⟩, 49), (⟨"BitmapVolumeModel", "mapOctet", "(I)I"⟩, 49), (⟨"BitmapVolumeModel", "freeMany", "()I"⟩, 49), (⟨"BitmapVolumeModel", "isTaken", "([BI)Z"⟩, 49), (⟨"BitmapVolumeModel", "beginWrite", "()V"⟩, 49), (⟨"BitmapVolumeModel", "flush", "()Z"⟩, 49), (⟨"BitmapVolumeModel", "usedDraft", "()I"⟩, 49), (⟨"BitmapVolumeModel", "directoryAt", "(I)I"⟩, 49), (⟨"BitmapVolumeModel", "setAt", "(I)I"⟩, 49), (⟨"BitmapVolumeModel", "scan", "()V"⟩, 49), (⟨"BitmapVolumeModel", "like", "(II)I"⟩, 49)]
theorem lw_r5 : ∀ q ∈ lw_privs_5, lw_okq q := List.forall_mem_cons.mpr ⟨lw_p64, List.forall_mem_cons.mpr ⟨lw_p65, List.forall_mem_cons.mpr ⟨lw_p66, List.forall_mem_cons.mpr ⟨lw_p67, List.forall_mem_cons.mpr ⟨lw_p68, List.forall_mem_cons.mpr ⟨lw_p69, List.forall_mem_cons.mpr ⟨lw_p70, List.forall_mem_cons.mpr ⟨lw_p71, List.forall_mem_cons.mpr ⟨lw_p72, List.forall_mem_cons.mpr ⟨lw_p73, List.forall_mem_cons.mpr ⟨lw_p74, List.forall_mem_cons.mpr ⟨lw_p75, List.forall_mem_cons.mpr ⟨lw_p76, List.forall_mem_cons.mpr ⟨lw_p77, List.forall_mem_cons.mpr ⟨lw_p78, List.forall_mem_cons.mpr ⟨lw_p79, fun _ h => absurd h List.not_mem_nil⟩⟩⟩⟩⟩⟩⟩⟩⟩⟩⟩⟩⟩⟩⟩⟩
theorem lw_p80 : lw_okq (⟨"BitmapVolumeModel", "noPlans", "()V"⟩, 49) := ⟨⟨by decide +kernel, by decide +kernel⟩, List.mem_of_getElem? (i := 1114) (by decide +kernel), List.mem_of_getElem? (i := 1567) (by decide +kernel), List.mem_of_getElem? (i := 1568) (by decide +kernel)⟩
theorem lw_p81 : lw_okq (⟨"BitmapVolumeModel", "plans", "(II)Z"⟩, 49) := ⟨⟨by decide +kernel, by decide +kernel⟩, List.mem_of_getElem? (i := 1114) (by decide +kernel), List.mem_of_getElem? (i := 1571) (by decide +kernel), List.mem_of_getElem? (i := 1572) (by decide +kernel)⟩
theorem lw_p82 : lw_okq (⟨"BitmapVolumeModel", "isFree", "(I)Z"⟩, 49) := ⟨⟨by decide +kernel, by decide +kernel⟩, List.mem_of_getElem? (i := 1114) (by decide +kernel), List.mem_of_getElem? (i := 1575) (by decide +kernel), List.mem_of_getElem? (i := 1576) (by decide +kernel)⟩
theorem lw_p83 : lw_okq (⟨"BitmapVolumeModel", "areFree", "(II)Z"⟩, 49) := ⟨⟨by decide +kernel, by decide +kernel⟩, List.mem_of_getElem? (i := 1114) (by decide +kernel), List.mem_of_getElem? (i := 1579) (by decide +kernel), List.mem_of_getElem? (i := 1580) (by decide +kernel)⟩
theorem lw_p84 : lw_okq (⟨"BitmapVolumeModel", "reserve", "(II)V"⟩, 49) := ⟨⟨by decide +kernel, by decide +kernel⟩, List.mem_of_getElem? (i := 1114) (by decide +kernel), List.mem_of_getElem? (i := 1583) (by decide +kernel), List.mem_of_getElem? (i := 1584) (by decide +kernel)⟩
theorem lw_p85 : lw_okq (⟨"BitmapVolumeModel", "planSpace", "(II)I"⟩, 49) := ⟨⟨by decide +kernel, by decide +kernel⟩, List.mem_of_getElem? (i := 1114) (by decide +kernel), List.mem_of_getElem? (i := 1587) (by decide +kernel), List.mem_of_getElem? (i := 1588) (by decide +kernel)⟩
theorem lw_p86 : lw_okq (⟨"BitmapVolumeModel", "planFor", "(II)V"⟩, 49) := ⟨⟨by decide +kernel, by decide +kernel⟩, List.mem_of_getElem? (i := 1114) (by decide +kernel), List.mem_of_getElem? (i := 1591) (by decide +kernel), List.mem_of_getElem? (i := 1592) (by decide +kernel)⟩
theorem lw_p87 : lw_okq (⟨"BitmapVolumeModel", "rowOfPlan", "(I)V"⟩, 49) := ⟨⟨by decide +kernel, by decide +kernel⟩, List.mem_of_getElem? (i := 1114) (by decide +kernel), List.mem_of_getElem? (i := 1595) (by decide +kernel), List.mem_of_getElem? (i := 1596) (by decide +kernel)⟩
theorem lw_p88 : lw_okq (⟨"BitmapVolumeModel", "plannedAt", "(II)I"⟩, 49) := ⟨⟨by decide +kernel, by decide +kernel⟩, List.mem_of_getElem? (i := 1114) (by decide +kernel), List.mem_of_getElem? (i := 1599) (by decide +kernel), List.mem_of_getElem? (i := 1600) (by decide +kernel)⟩
theorem lw_p89 : lw_okq (⟨"BitmapVolumeModel", "spaceFor", "(I)I"⟩, 49) := ⟨⟨by decide +kernel, by decide +kernel⟩, List.mem_of_getElem? (i := 1114) (by decide +kernel), List.mem_of_getElem? (i := 1603) (by decide +kernel), List.mem_of_getElem? (i := 1604) (by decide +kernel)⟩
theorem lw_p90 : lw_okq (⟨"BitmapVolumeModel", "wantedType", "(I)I"⟩, 49) := ⟨⟨by decide +kernel, by decide +kernel⟩, List.mem_of_getElem? (i := 1114) (by decide +kernel), List.mem_of_getElem? (i := 1607) (by decide +kernel), List.mem_of_getElem? (i := 1608) (by decide +kernel)⟩
theorem lw_p91 : lw_okq (⟨"BitmapVolumeModel", "firstSpace", "(I)I"⟩, 49) := ⟨⟨by decide +kernel, by decide +kernel⟩, List.mem_of_getElem? (i := 1114) (by decide +kernel), List.mem_of_getElem? (i := 1611) (by decide +kernel), List.mem_of_getElem? (i := 1612) (by decide +kernel)⟩
theorem lw_p92 : lw_okq (⟨"BitmapVolumeModel", "areUnused", "(II)Z"⟩, 49) := ⟨⟨by decide +kernel, by decide +kernel⟩, List.mem_of_getElem? (i := 1114) (by decide +kernel), List.mem_of_getElem? (i := 1618) (by decide +kernel), List.mem_of_getElem? (i := 1619) (by decide +kernel)⟩
theorem lw_p93 : lw_okq (⟨"BitmapVolumeModel", "dirty", "()Z"⟩, 49) := ⟨⟨by decide +kernel, by decide +kernel⟩, List.mem_of_getElem? (i := 1114) (by decide +kernel), List.mem_of_getElem? (i := 1622) (by decide +kernel), List.mem_of_getElem? (i := 1623) (by decide +kernel)⟩
theorem lw_p94 : lw_okq (⟨"BitmapVolumeModel", "comesIn", "(Z)Z"⟩, 49) := ⟨⟨by decide +kernel, by decide +kernel⟩, List.mem_of_getElem? (i := 1114) (by decide +kernel), List.mem_of_getElem? (i := 1626) (by decide +kernel), List.mem_of_getElem? (i := 1627) (by decide +kernel)⟩
theorem lw_p95 : lw_okq (⟨"BitmapVolumeModel", "emptyNew", "(I)V"⟩, 49) := ⟨⟨by decide +kernel, by decide +kernel⟩, List.mem_of_getElem? (i := 1114) (by decide +kernel), List.mem_of_getElem? (i := 1630) (by decide +kernel), List.mem_of_getElem? (i := 1631) (by decide +kernel)⟩
def lw_privs_6 : List (MethodName × Nat) := [(⟨"BitmapVolumeModel", "noPlans", "()V"⟩, 49), (⟨"BitmapVolumeModel", "plans", "(II)Z"⟩, 49), (⟨"BitmapVolumeModel", "isFree", "(I)Z"⟩, 49), (⟨"BitmapVolumeModel", "areFree", "(II)Z"⟩, 49), (⟨"BitmapVolumeModel", "reserve", "(II)V"⟩, 49), (⟨"BitmapVolumeModel", "planSpace", "(II)I"⟩, 49), (⟨"BitmapVolumeModel", "planFor", "(II)V"⟩, 49), (⟨"BitmapVolumeModel", "rowOfPlan", "(I)V"⟩, 49), (⟨"BitmapVolumeModel", "plannedAt", "(II)I"⟩, 49), (⟨"BitmapVolumeModel", "spaceFor", "(I)I"⟩, 49), (⟨"BitmapVolumeModel", "wantedType", "(I)I"⟩, 49), (⟨"BitmapVolumeModel", "firstSpace", "(I)I"⟩, 49), (⟨"BitmapVolumeModel", "areUnused", "(II)Z"⟩, 49), (⟨"BitmapVolumeModel", "dirty", "()Z"⟩, 49), (⟨"BitmapVolumeModel", "comesIn", "(Z)Z"⟩, 49), (⟨"BitmapVolumeModel", "emptyNew", "(I)V"⟩, 49)]
theorem lw_r6 : ∀ q ∈ lw_privs_6, lw_okq q := List.forall_mem_cons.mpr ⟨lw_p80, List.forall_mem_cons.mpr ⟨lw_p81, List.forall_mem_cons.mpr ⟨lw_p82, List.forall_mem_cons.mpr ⟨lw_p83, List.forall_mem_cons.mpr ⟨lw_p84, List.forall_mem_cons.mpr ⟨lw_p85, List.forall_mem_cons.mpr ⟨lw_p86, List.forall_mem_cons.mpr ⟨lw_p87, List.forall_mem_cons.mpr ⟨lw_p88, List.forall_mem_cons.mpr ⟨lw_p89, List.forall_mem_cons.mpr ⟨lw_p90, List.forall_mem_cons.mpr ⟨lw_p91, List.forall_mem_cons.mpr ⟨lw_p92, List.forall_mem_cons.mpr ⟨lw_p93, List.forall_mem_cons.mpr ⟨lw_p94, List.forall_mem_cons.mpr ⟨lw_p95, fun _ h => absurd h List.not_mem_nil⟩⟩⟩⟩⟩⟩⟩⟩⟩⟩⟩⟩⟩⟩⟩⟩
theorem lw_p96 : lw_okq (⟨"BitmapVolumeModel", "chains", "()Z"⟩, 49) := ⟨⟨by decide +kernel, by decide +kernel⟩, List.mem_of_getElem? (i := 1114) (by decide +kernel), List.mem_of_getElem? (i := 1634) (by decide +kernel), List.mem_of_getElem? (i := 1635) (by decide +kernel)⟩
theorem lw_p97 : lw_okq (⟨"BitmapVolumeModel", "wantChain", "(I)V"⟩, 49) := ⟨⟨by decide +kernel, by decide +kernel⟩, List.mem_of_getElem? (i := 1114) (by decide +kernel), List.mem_of_getElem? (i := 1638) (by decide +kernel), List.mem_of_getElem? (i := 1639) (by decide +kernel)⟩
theorem lw_p98 : lw_okq (⟨"BitmapVolumeModel", "wantJoint", "(I)V"⟩, 49) := ⟨⟨by decide +kernel, by decide +kernel⟩, List.mem_of_getElem? (i := 1114) (by decide +kernel), List.mem_of_getElem? (i := 1642) (by decide +kernel), List.mem_of_getElem? (i := 1643) (by decide +kernel)⟩
theorem lw_p99 : lw_okq (⟨"BitmapVolumeModel", "wantTaken", "(I)V"⟩, 49) := ⟨⟨by decide +kernel, by decide +kernel⟩, List.mem_of_getElem? (i := 1114) (by decide +kernel), List.mem_of_getElem? (i := 1646) (by decide +kernel), List.mem_of_getElem? (i := 1647) (by decide +kernel)⟩
theorem lw_p100 : lw_okq (⟨"BitmapVolumeModel", "wantBit", "(IZ)V"⟩, 49) := ⟨⟨by decide +kernel, by decide +kernel⟩, List.mem_of_getElem? (i := 1114) (by decide +kernel), List.mem_of_getElem? (i := 1650) (by decide +kernel), List.mem_of_getElem? (i := 1651) (by decide +kernel)⟩
theorem lw_p101 : lw_okq (⟨"BitmapVolumeModel", "grow", "(I)V"⟩, 49) := ⟨⟨by decide +kernel, by decide +kernel⟩, List.mem_of_getElem? (i := 1114) (by decide +kernel), List.mem_of_getElem? (i := 1654) (by decide +kernel), List.mem_of_getElem? (i := 1655) (by decide +kernel)⟩
theorem lw_p102 : lw_okq (⟨"BitmapVolumeModel", "changeSet", "(IJIZ)V"⟩, 49) := ⟨⟨by decide +kernel, by decide +kernel⟩, List.mem_of_getElem? (i := 1114) (by decide +kernel), List.mem_of_getElem? (i := 1658) (by decide +kernel), List.mem_of_getElem? (i := 1659) (by decide +kernel)⟩
theorem lw_p103 : lw_okq (⟨"BitmapVolumeModel", "wantStream", "(IJIZ)V"⟩, 49) := ⟨⟨by decide +kernel, by decide +kernel⟩, List.mem_of_getElem? (i := 1114) (by decide +kernel), List.mem_of_getElem? (i := 1662) (by decide +kernel), List.mem_of_getElem? (i := 1663) (by decide +kernel)⟩
theorem lw_p104 : lw_okq (⟨"BitmapVolumeModel", "seal", "(II)V"⟩, 49) := ⟨⟨by decide +kernel, by decide +kernel⟩, List.mem_of_getElem? (i := 1114) (by decide +kernel), List.mem_of_getElem? (i := 1666) (by decide +kernel), List.mem_of_getElem? (i := 1667) (by decide +kernel)⟩
theorem lw_p105 : lw_okq (⟨"BitmapVolumeModel", "laySet", "(IIIJJJIZ)V"⟩, 49) := ⟨⟨by decide +kernel, by decide +kernel⟩, List.mem_of_getElem? (i := 1114) (by decide +kernel), List.mem_of_getElem? (i := 1670) (by decide +kernel), List.mem_of_getElem? (i := 1671) (by decide +kernel)⟩
theorem lw_p106 : lw_okq (⟨"BitmapVolumeModel", "fileAt", "(I)I"⟩, 49) := ⟨⟨by decide +kernel, by decide +kernel⟩, List.mem_of_getElem? (i := 1114) (by decide +kernel), List.mem_of_getElem? (i := 1678) (by decide +kernel), List.mem_of_getElem? (i := 1679) (by decide +kernel)⟩
theorem lw_p107 : lw_okq (⟨"BitmapVolumeModel", "frees", "(I)Z"⟩, 49) := ⟨⟨by decide +kernel, by decide +kernel⟩, List.mem_of_getElem? (i := 1114) (by decide +kernel), List.mem_of_getElem? (i := 1690) (by decide +kernel), List.mem_of_getElem? (i := 1691) (by decide +kernel)⟩
theorem lw_p108 : lw_okq (⟨"BitmapVolumeModel", "unuse", "(I)V"⟩, 49) := ⟨⟨by decide +kernel, by decide +kernel⟩, List.mem_of_getElem? (i := 1114) (by decide +kernel), List.mem_of_getElem? (i := 1698) (by decide +kernel), List.mem_of_getElem? (i := 1699) (by decide +kernel)⟩
theorem lw_p109 : lw_okq (⟨"BitmapVolumeModel", "isWithin", "(II)Z"⟩, 49) := ⟨⟨by decide +kernel, by decide +kernel⟩, List.mem_of_getElem? (i := 1114) (by decide +kernel), List.mem_of_getElem? (i := 1706) (by decide +kernel), List.mem_of_getElem? (i := 1707) (by decide +kernel)⟩
theorem lw_p110 : lw_okq (⟨"BitmapVolumeModel", "longestFree", "()I"⟩, 49) := ⟨⟨by decide +kernel, by decide +kernel⟩, List.mem_of_getElem? (i := 1114) (by decide +kernel), List.mem_of_getElem? (i := 1735) (by decide +kernel), List.mem_of_getElem? (i := 1736) (by decide +kernel)⟩
def lw_privs_7 : List (MethodName × Nat) := [(⟨"BitmapVolumeModel", "chains", "()Z"⟩, 49), (⟨"BitmapVolumeModel", "wantChain", "(I)V"⟩, 49), (⟨"BitmapVolumeModel", "wantJoint", "(I)V"⟩, 49), (⟨"BitmapVolumeModel", "wantTaken", "(I)V"⟩, 49), (⟨"BitmapVolumeModel", "wantBit", "(IZ)V"⟩, 49), (⟨"BitmapVolumeModel", "grow", "(I)V"⟩, 49), (⟨"BitmapVolumeModel", "changeSet", "(IJIZ)V"⟩, 49), (⟨"BitmapVolumeModel", "wantStream", "(IJIZ)V"⟩, 49), (⟨"BitmapVolumeModel", "seal", "(II)V"⟩, 49), (⟨"BitmapVolumeModel", "laySet", "(IIIJJJIZ)V"⟩, 49), (⟨"BitmapVolumeModel", "fileAt", "(I)I"⟩, 49), (⟨"BitmapVolumeModel", "frees", "(I)Z"⟩, 49), (⟨"BitmapVolumeModel", "unuse", "(I)V"⟩, 49), (⟨"BitmapVolumeModel", "isWithin", "(II)Z"⟩, 49), (⟨"BitmapVolumeModel", "longestFree", "()I"⟩, 49)]
theorem lw_r7 : ∀ q ∈ lw_privs_7, lw_okq q := List.forall_mem_cons.mpr ⟨lw_p96, List.forall_mem_cons.mpr ⟨lw_p97, List.forall_mem_cons.mpr ⟨lw_p98, List.forall_mem_cons.mpr ⟨lw_p99, List.forall_mem_cons.mpr ⟨lw_p100, List.forall_mem_cons.mpr ⟨lw_p101, List.forall_mem_cons.mpr ⟨lw_p102, List.forall_mem_cons.mpr ⟨lw_p103, List.forall_mem_cons.mpr ⟨lw_p104, List.forall_mem_cons.mpr ⟨lw_p105, List.forall_mem_cons.mpr ⟨lw_p106, List.forall_mem_cons.mpr ⟨lw_p107, List.forall_mem_cons.mpr ⟨lw_p108, List.forall_mem_cons.mpr ⟨lw_p109, List.forall_mem_cons.mpr ⟨lw_p110, fun _ h => absurd h List.not_mem_nil⟩⟩⟩⟩⟩⟩⟩⟩⟩⟩⟩⟩⟩⟩⟩
def lw_privs : List (MethodName × Nat) := lw_privs_1 ++ (lw_privs_2 ++ (lw_privs_3 ++ (lw_privs_4 ++ (lw_privs_5 ++ (lw_privs_6 ++ (lw_privs_7))))))
def lw_tbl : List Cond := k2_sels lw_privs ++ tables_1
theorem lw_privs_ok : ∀ q ∈ lw_privs, lw_okq q := by
  show ∀ q ∈ lw_privs_1 ++ (lw_privs_2 ++ (lw_privs_3 ++ (lw_privs_4 ++ (lw_privs_5 ++ (lw_privs_6 ++ (lw_privs_7)))))), lw_okq q
  exact List.forall_mem_append.mpr ⟨lw_r1, List.forall_mem_append.mpr ⟨lw_r2, List.forall_mem_append.mpr ⟨lw_r3, List.forall_mem_append.mpr ⟨lw_r4, List.forall_mem_append.mpr ⟨lw_r5, List.forall_mem_append.mpr ⟨lw_r6, lw_r7⟩⟩⟩⟩⟩⟩
-- ===== end of PART A; then your names; then what follows =====
end
section
/-! names of the program, as the command prints them: classes, fields, methods; then the layout of the 60 things, and tables -/
def RX0 : String := "BitmapVolume$Acts"
def TX0 : u_T := fun k => match k with
  | 0 => ("BitmapVolume$Acts", "disk", "LBitmapVolume$Disk;", true)
  | 1 => ("BitmapVolume$Acts", "space", "LBitmapVolume$Space;", true)
  | 2 => ("BitmapVolume$Acts", "sets", "LBitmapVolume$Sets;", true)
  | 3 => ("BitmapVolume$Acts", "tree", "LBitmapVolume$Tree;", true)
  | 4 => ("BitmapVolume$Acts", "growth", "LBitmapVolume$Growth;", true)
  | 5 => ("BitmapVolume$Acts", "time", "I", false)
  | 6 => ("BitmapVolume$Acts", "newHead", "I", false)
  | _ => ("BitmapVolume$Acts", "newTail", "I", false)
def tyX0 : Nat → FieldType := fun k => match k with
  | 0 => .object "BitmapVolume$Disk"
  | 1 => .object "BitmapVolume$Space"
  | 2 => .object "BitmapVolume$Sets"
  | 3 => .object "BitmapVolume$Tree"
  | 4 => .object "BitmapVolume$Growth"
  | 5 => .int
  | 6 => .int
  | _ => .int
abbrev wsX00 : List Cond := u_ws RX0 TX0 8
theorem nmX0 : ∀ a, a < 8 → ∀ b, b < 8 → a ≠ b → (TX0 a).2.1 ≠ (TX0 b).2.1 := by decide +kernel
theorem tyX0_ok : ∀ k, k < 8 → parseFieldDescriptor (TX0 k).2.2.1 = some (tyX0 k) := by decide +kernel
abbrev cX0_init : ByteArray := prog_2_method_1_code
def yX0_init : MethodName := ⟨RX0, "<init>", "(LBitmapVolume$Disk;LBitmapVolume$Space;LBitmapVolume$Sets;LBitmapVolume$Tree;)V"⟩
abbrev cX0_create : ByteArray := prog_2_method_2_code
def yX0_create : MethodName := ⟨RX0, "create", "(ILBitmapVolume$Name;Z)I"⟩
abbrev cX0_rename : ByteArray := prog_2_method_3_code
def yX0_rename : MethodName := ⟨RX0, "rename", "(IILBitmapVolume$Name;)I"⟩
abbrev cX0_planRow : ByteArray := prog_2_method_4_code
def yX0_planRow : MethodName := ⟨RX0, "planRow", "(ILBitmapVolume$Name;)Z"⟩
abbrev cX0_freeRow : ByteArray := prog_2_method_5_code
def yX0_freeRow : MethodName := ⟨RX0, "freeRow", "(I)I"⟩
abbrev cX0_openRow : ByteArray := prog_2_method_6_code
def yX0_openRow : MethodName := ⟨RX0, "openRow", "(ILBitmapVolume$Name;)Z"⟩
abbrev cX0_growDirectory : ByteArray := prog_2_method_7_code
def yX0_growDirectory : MethodName := ⟨RX0, "growDirectory", "(I)V"⟩
abbrev cX0_fill : ByteArray := prog_2_method_8_code
def yX0_fill : MethodName := ⟨RX0, "fill", "(IIII)I"⟩
abbrev cX0_shorten : ByteArray := prog_2_method_9_code
def yX0_shorten : MethodName := ⟨RX0, "shorten", "(II)I"⟩
abbrev cX0_remove : ByteArray := prog_2_method_10_code
def yX0_remove : MethodName := ⟨RX0, "remove", "(I)I"⟩
abbrev cX0_protect : ByteArray := prog_2_method_11_code
def yX0_protect : MethodName := ⟨RX0, "protect", "(IZ)I"⟩
abbrev cX0_openFile : ByteArray := prog_2_method_12_code
def yX0_openFile : MethodName := ⟨RX0, "openFile", "(I)V"⟩
abbrev cX0_relay : ByteArray := prog_2_method_13_code
def yX0_relay : MethodName := ⟨RX0, "relay", "(IZII)Z"⟩
abbrev cX0_soil : ByteArray := prog_2_method_14_code
def yX0_soil : MethodName := ⟨RX0, "soil", "()Z"⟩
def RX1 : String := "BitmapVolume$Boot"
def TX1 : u_T := fun k => match k with
  | 0 => ("BitmapVolume$Boot", "disk", "LBitmapVolume$Disk;", true)
  | _ => ("BitmapVolume$Boot", "image", "[I", true)
def tyX1 : Nat → FieldType := fun k => match k with
  | 0 => .object "BitmapVolume$Disk"
  | _ => .array .int
abbrev wsX10 : List Cond := u_ws RX1 TX1 2
theorem nmX1 : ∀ a, a < 2 → ∀ b, b < 2 → a ≠ b → (TX1 a).2.1 ≠ (TX1 b).2.1 := by decide +kernel
theorem tyX1_ok : ∀ k, k < 2 → parseFieldDescriptor (TX1 k).2.2.1 = some (tyX1 k) := by decide +kernel
abbrev cX1_init : ByteArray := prog_3_method_1_code
def yX1_init : MethodName := ⟨RX1, "<init>", "(LBitmapVolume$Disk;)V"⟩
abbrev cX1_draw : ByteArray := prog_3_method_2_code
def yX1_draw : MethodName := ⟨RX1, "draw", "(IIIII)V"⟩
abbrev cX1_draw4 : ByteArray := prog_3_method_3_code
def yX1_draw4 : MethodName := ⟨RX1, "draw4", "(II)V"⟩
abbrev cX1_sumOfThree : ByteArray := prog_3_method_4_code
def yX1_sumOfThree : MethodName := ⟨RX1, "sumOfThree", "()I"⟩
abbrev cX1_lay : ByteArray := prog_3_method_5_code
def yX1_lay : MethodName := ⟨RX1, "lay", "(I)V"⟩
abbrev cX1_isRight : ByteArray := prog_3_method_6_code
def yX1_isRight : MethodName := ⟨RX1, "isRight", "(I)Z"⟩
def RX2 : String := "BitmapVolume$Cases"
def TX2 : u_T := fun k => match k with
  | 0 => ("BitmapVolume$Cases", "disk", "LBitmapVolume$Disk;", true)
  | _ => ("BitmapVolume$Cases", "great", "[I", true)
def tyX2 : Nat → FieldType := fun k => match k with
  | 0 => .object "BitmapVolume$Disk"
  | _ => .array .int
abbrev wsX20 : List Cond := u_ws RX2 TX2 2
theorem nmX2 : ∀ a, a < 2 → ∀ b, b < 2 → a ≠ b → (TX2 a).2.1 ≠ (TX2 b).2.1 := by decide +kernel
theorem tyX2_ok : ∀ k, k < 2 → parseFieldDescriptor (TX2 k).2.2.1 = some (tyX2 k) := by decide +kernel
abbrev cX2_init : ByteArray := prog_4_method_1_code
def yX2_init : MethodName := ⟨RX2, "<init>", "(LBitmapVolume$Disk;)V"⟩
abbrev cX2_learn : ByteArray := prog_4_method_2_code
def yX2_learn : MethodName := ⟨RX2, "learn", "(II)Z"⟩
abbrev cX2_greatOf : ByteArray := prog_4_method_3_code
def yX2_greatOf : MethodName := ⟨RX2, "greatOf", "(I)I"⟩
abbrev cX2_hash : ByteArray := prog_4_method_4_code
def yX2_hash : MethodName := ⟨RX2, "hash", "(LBitmapVolume$Name;)I"⟩
abbrev cX2_sum : ByteArray := prog_4_method_5_code
def yX2_sum : MethodName := ⟨RX2, "sum", "(LBitmapVolume$Disk;II)I"⟩
abbrev cX2_layUsual : ByteArray := prog_4_method_6_code
def yX2_layUsual : MethodName := ⟨RX2, "layUsual", "(LBitmapVolume$Disk;I)I"⟩
abbrev cX2_layOwn : ByteArray := prog_4_method_7_code
def yX2_layOwn : MethodName := ⟨RX2, "layOwn", "(LBitmapVolume$Disk;II)I"⟩
abbrev cX2_layGreat : ByteArray := prog_4_method_8_code
def yX2_layGreat : MethodName := ⟨RX2, "layGreat", "(LBitmapVolume$Disk;III)I"⟩
def RX3 : String := "BitmapVolume$Chain"
def TX3 : u_T := fun k => match k with
  | 0 => ("BitmapVolume$Chain", "row", "[I", true)
  | _ => ("BitmapVolume$Chain", "size", "I", false)
def tyX3 : Nat → FieldType := fun k => match k with
  | 0 => .array .int
  | _ => .int
abbrev wsX30 : List Cond := u_ws RX3 TX3 2
theorem nmX3 : ∀ a, a < 2 → ∀ b, b < 2 → a ≠ b → (TX3 a).2.1 ≠ (TX3 b).2.1 := by decide +kernel
theorem tyX3_ok : ∀ k, k < 2 → parseFieldDescriptor (TX3 k).2.2.1 = some (tyX3 k) := by decide +kernel
abbrev cX3_init : ByteArray := prog_5_method_1_code
def yX3_init : MethodName := ⟨RX3, "<init>", "()V"⟩
abbrev cX3_add : ByteArray := prog_5_method_2_code
def yX3_add : MethodName := ⟨RX3, "add", "(I)V"⟩
abbrev cX3_at : ByteArray := prog_5_method_3_code
def yX3_at : MethodName := ⟨RX3, "at", "(I)I"⟩
abbrev cX3_last : ByteArray := prog_5_method_4_code
def yX3_last : MethodName := ⟨RX3, "last", "()I"⟩
abbrev cX3_trace : ByteArray := prog_5_method_5_code
def yX3_trace : MethodName := ⟨RX3, "trace", "(LBitmapVolume$Space;IZI)I"⟩
abbrev cX3_traceToEnd : ByteArray := prog_5_method_6_code
def yX3_traceToEnd : MethodName := ⟨RX3, "traceToEnd", "(LBitmapVolume$Space;I)V"⟩
abbrev cX3_hasTwice : ByteArray := prog_5_method_7_code
def yX3_hasTwice : MethodName := ⟨RX3, "hasTwice", "()Z"⟩
abbrev cX3_places : ByteArray := prog_5_method_8_code
def yX3_places : MethodName := ⟨RX3, "places", "()I"⟩
abbrev cX3_entry : ByteArray := prog_5_method_9_code
def yX3_entry : MethodName := ⟨RX3, "entry", "(I)I"⟩
def RX4 : String := "BitmapVolume$Check"
def TX4 : u_T := fun k => match k with
  | 0 => ("BitmapVolume$Check", "disk", "LBitmapVolume$Disk;", true)
  | 1 => ("BitmapVolume$Check", "boot", "LBitmapVolume$Boot;", true)
  | 2 => ("BitmapVolume$Check", "space", "LBitmapVolume$Space;", true)
  | 3 => ("BitmapVolume$Check", "sets", "LBitmapVolume$Sets;", true)
  | 4 => ("BitmapVolume$Check", "cases", "LBitmapVolume$Cases;", true)
  | 5 => ("BitmapVolume$Check", "tree", "LBitmapVolume$Tree;", true)
  | 6 => ("BitmapVolume$Check", "dir", "LBitmapVolume$Chain;", true)
  | 7 => ("BitmapVolume$Check", "own", "LBitmapVolume$Chain;", true)
  | 8 => ("BitmapVolume$Check", "name", "LBitmapVolume$Name;", true)
  | 9 => ("BitmapVolume$Check", "met", "[Z", true)
  | 10 => ("BitmapVolume$Check", "queue", "[I", true)
  | 11 => ("BitmapVolume$Check", "queued", "I", false)
  | 12 => ("BitmapVolume$Check", "mends", "Z", false)
  | 13 => ("BitmapVolume$Check", "mended", "I", false)
  | 14 => ("BitmapVolume$Check", "bySecond", "Z", false)
  | 15 => ("BitmapVolume$Check", "faultNumber", "I", false)
  | 16 => ("BitmapVolume$Check", "faultCluster", "I", false)
  | _ => ("BitmapVolume$Check", "faultEntry", "I", false)
def tyX4 : Nat → FieldType := fun k => match k with
  | 0 => .object "BitmapVolume$Disk"
  | 1 => .object "BitmapVolume$Boot"
  | 2 => .object "BitmapVolume$Space"
  | 3 => .object "BitmapVolume$Sets"
  | 4 => .object "BitmapVolume$Cases"
  | 5 => .object "BitmapVolume$Tree"
  | 6 => .object "BitmapVolume$Chain"
  | 7 => .object "BitmapVolume$Chain"
  | 8 => .object "BitmapVolume$Name"
  | 9 => .array .boolean
  | 10 => .array .int
  | 11 => .int
  | 12 => .boolean
  | 13 => .int
  | 14 => .boolean
  | 15 => .int
  | 16 => .int
  | _ => .int
abbrev wsX40 : List Cond := u_ws RX4 TX4 18
theorem nmX4 : ∀ a, a < 18 → ∀ b, b < 18 → a ≠ b → (TX4 a).2.1 ≠ (TX4 b).2.1 := by decide +kernel
theorem tyX4_ok : ∀ k, k < 18 → parseFieldDescriptor (TX4 k).2.2.1 = some (tyX4 k) := by decide +kernel
abbrev cX4_init : ByteArray := prog_6_method_1_code
def yX4_init : MethodName := ⟨RX4, "<init>", "(LBitmapVolume$Disk;LBitmapVolume$Boot;LBitmapVolume$Space;LBitmapVolume$Sets;LBitmapVolume$Cases;LBitmapVolume$Tree;)V"⟩
abbrev cX4_found : ByteArray := prog_6_method_2_code
def yX4_found : MethodName := ⟨RX4, "found", "(III)I"⟩
abbrev cX4_askBase : ByteArray := prog_6_method_3_code
def yX4_askBase : MethodName := ⟨RX4, "askBase", "()I"⟩
abbrev cX4_meetRoot : ByteArray := prog_6_method_4_code
def yX4_meetRoot : MethodName := ⟨RX4, "meetRoot", "()I"⟩
abbrev cX4_meet : ByteArray := prog_6_method_5_code
def yX4_meet : MethodName := ⟨RX4, "meet", "(I)V"⟩
abbrev cX4_isMet : ByteArray := prog_6_method_6_code
def yX4_isMet : MethodName := ⟨RX4, "isMet", "(I)Z"⟩
abbrev cX4_meetSingle : ByteArray := prog_6_method_7_code
def yX4_meetSingle : MethodName := ⟨RX4, "meetSingle", "(I)Z"⟩
abbrev cX4_meetBitmap : ByteArray := prog_6_method_8_code
def yX4_meetBitmap : MethodName := ⟨RX4, "meetBitmap", "(I)Z"⟩
abbrev cX4_meetCases : ByteArray := prog_6_method_9_code
def yX4_meetCases : MethodName := ⟨RX4, "meetCases", "(I)Z"⟩
abbrev cX4_askBitmap : ByteArray := prog_6_method_10_code
def yX4_askBitmap : MethodName := ⟨RX4, "askBitmap", "()I"⟩
abbrev cX4_mendBoot : ByteArray := prog_6_method_11_code
def yX4_mendBoot : MethodName := ⟨RX4, "mendBoot", "()Z"⟩
abbrev cX4_mendRest : ByteArray := prog_6_method_12_code
def yX4_mendRest : MethodName := ⟨RX4, "mendRest", "()Z"⟩
abbrev cX4_askTree : ByteArray := prog_6_method_13_code
def yX4_askTree : MethodName := ⟨RX4, "askTree", "(Z)I"⟩
abbrev cX4_askDirectory : ByteArray := prog_6_method_14_code
def yX4_askDirectory : MethodName := ⟨RX4, "askDirectory", "(I)Z"⟩
abbrev cX4_strike : ByteArray := prog_6_method_15_code
def yX4_strike : MethodName := ⟨RX4, "strike", "(II)Z"⟩
abbrev cX4_meetSet : ByteArray := prog_6_method_16_code
def yX4_meetSet : MethodName := ⟨RX4, "meetSet", "(I)I"⟩
abbrev cX4_faultOf : ByteArray := prog_6_method_17_code
def yX4_faultOf : MethodName := ⟨RX4, "faultOf", "(II)I"⟩
abbrev cX4_hasLikeBefore : ByteArray := prog_6_method_18_code
def yX4_hasLikeBefore : MethodName := ⟨RX4, "hasLikeBefore", "(I)Z"⟩
abbrev cX4_bitmapOctet : ByteArray := prog_6_method_19_code
def yX4_bitmapOctet : MethodName := ⟨RX4, "bitmapOctet", "(I)I"⟩
abbrev cX4_isRightBitmap : ByteArray := prog_6_method_20_code
def yX4_isRightBitmap : MethodName := ⟨RX4, "isRightBitmap", "()Z"⟩
abbrev cX4_layBitmap : ByteArray := prog_6_method_21_code
def yX4_layBitmap : MethodName := ⟨RX4, "layBitmap", "()V"⟩
def RX5 : String := "BitmapVolume$Disk"
def TX5 : u_T := fun k => match k with
  | 0 => ("BitmapVolume$Disk", "now", "[I", true)
  | 1 => ("BitmapVolume$Disk", "next", "[I", true)
  | 2 => ("BitmapVolume$Disk", "touched", "[Z", true)
  | 3 => ("BitmapVolume$Disk", "failsIn", "I", false)
  | _ => ("BitmapVolume$Disk", "written", "I", false)
def tyX5 : Nat → FieldType := fun k => match k with
  | 0 => .array .int
  | 1 => .array .int
  | 2 => .array .boolean
  | 3 => .int
  | _ => .int
abbrev wsX50 : List Cond := u_ws RX5 TX5 5
theorem nmX5 : ∀ a, a < 5 → ∀ b, b < 5 → a ≠ b → (TX5 a).2.1 ≠ (TX5 b).2.1 := by decide +kernel
theorem tyX5_ok : ∀ k, k < 5 → parseFieldDescriptor (TX5 k).2.2.1 = some (tyX5 k) := by decide +kernel
abbrev cX5_init : ByteArray := prog_7_method_1_code
def yX5_init : MethodName := ⟨RX5, "<init>", "()V"⟩
abbrev cX5_isOctet : ByteArray := prog_7_method_2_code
def yX5_isOctet : MethodName := ⟨RX5, "isOctet", "(II)Z"⟩
abbrev cX5_get : ByteArray := prog_7_method_3_code
def yX5_get : MethodName := ⟨RX5, "get", "(I)I"⟩
abbrev cX5_get2 : ByteArray := prog_7_method_4_code
def yX5_get2 : MethodName := ⟨RX5, "get2", "(I)I"⟩
abbrev cX5_get4 : ByteArray := prog_7_method_5_code
def yX5_get4 : MethodName := ⟨RX5, "get4", "(I)I"⟩
abbrev cX5_put : ByteArray := prog_7_method_6_code
def yX5_put : MethodName := ⟨RX5, "put", "(II)V"⟩
abbrev cX5_put2 : ByteArray := prog_7_method_7_code
def yX5_put2 : MethodName := ⟨RX5, "put2", "(II)V"⟩
abbrev cX5_put4 : ByteArray := prog_7_method_8_code
def yX5_put4 : MethodName := ⟨RX5, "put4", "(II)V"⟩
abbrev cX5_blank : ByteArray := prog_7_method_9_code
def yX5_blank : MethodName := ⟨RX5, "blank", "(II)V"⟩
abbrev cX5_isBlank : ByteArray := prog_7_method_10_code
def yX5_isBlank : MethodName := ⟨RX5, "isBlank", "(II)Z"⟩
abbrev cX5_wipe : ByteArray := prog_7_method_11_code
def yX5_wipe : MethodName := ⟨RX5, "wipe", "()V"⟩
abbrev cX5_settle : ByteArray := prog_7_method_12_code
def yX5_settle : MethodName := ⟨RX5, "settle", "()V"⟩
abbrev cX5_flush : ByteArray := prog_7_method_13_code
def yX5_flush : MethodName := ⟨RX5, "flush", "()Z"⟩
abbrev cX5_flush_ : ByteArray := prog_7_method_14_code
def yX5_flush_ : MethodName := ⟨RX5, "flush", "(II)Z"⟩
abbrev cX5_differs : ByteArray := prog_7_method_15_code
def yX5_differs : MethodName := ⟨RX5, "differs", "(I)Z"⟩
abbrev cX5_forget : ByteArray := prog_7_method_16_code
def yX5_forget : MethodName := ⟨RX5, "forget", "()V"⟩
def RX6 : String := "BitmapVolume$Growth"
def TX6 : u_T := fun k => match k with
  | 0 => ("BitmapVolume$Growth", "disk", "LBitmapVolume$Disk;", true)
  | 1 => ("BitmapVolume$Growth", "space", "LBitmapVolume$Space;", true)
  | 2 => ("BitmapVolume$Growth", "own", "LBitmapVolume$Chain;", true)
  | 3 => ("BitmapVolume$Growth", "fresh", "LBitmapVolume$Chain;", true)
  | 4 => ("BitmapVolume$Growth", "wasRun", "Z", false)
  | _ => ("BitmapVolume$Growth", "isRun", "Z", false)
def tyX6 : Nat → FieldType := fun k => match k with
  | 0 => .object "BitmapVolume$Disk"
  | 1 => .object "BitmapVolume$Space"
  | 2 => .object "BitmapVolume$Chain"
  | 3 => .object "BitmapVolume$Chain"
  | 4 => .boolean
  | _ => .boolean
abbrev wsX60 : List Cond := u_ws RX6 TX6 6
theorem nmX6 : ∀ a, a < 6 → ∀ b, b < 6 → a ≠ b → (TX6 a).2.1 ≠ (TX6 b).2.1 := by decide +kernel
theorem tyX6_ok : ∀ k, k < 6 → parseFieldDescriptor (TX6 k).2.2.1 = some (tyX6 k) := by decide +kernel
abbrev cX6_init : ByteArray := prog_8_method_1_code
def yX6_init : MethodName := ⟨RX6, "<init>", "(LBitmapVolume$Disk;LBitmapVolume$Space;)V"⟩
abbrev cX6_begin : ByteArray := prog_8_method_2_code
def yX6_begin : MethodName := ⟨RX6, "begin", "(Z)V"⟩
abbrev cX6_choose : ByteArray := prog_8_method_3_code
def yX6_choose : MethodName := ⟨RX6, "choose", "(I)Z"⟩
abbrev cX6_at : ByteArray := prog_8_method_4_code
def yX6_at : MethodName := ⟨RX6, "at", "(I)I"⟩
abbrev cX6_take : ByteArray := prog_8_method_5_code
def yX6_take : MethodName := ⟨RX6, "take", "()Z"⟩
abbrev cX6_layFat : ByteArray := prog_8_method_6_code
def yX6_layFat : MethodName := ⟨RX6, "layFat", "()V"⟩
abbrev cX6_free : ByteArray := prog_8_method_7_code
def yX6_free : MethodName := ⟨RX6, "free", "(I)Z"⟩
def RX7 : String := "BitmapVolume$Name"
def TX7 : u_T := fun k => match k with
  | 0 => ("BitmapVolume$Name", "row", "[I", true)
  | _ => ("BitmapVolume$Name", "size", "I", false)
def tyX7 : Nat → FieldType := fun k => match k with
  | 0 => .array .int
  | _ => .int
abbrev wsX70 : List Cond := u_ws RX7 TX7 2
theorem nmX7 : ∀ a, a < 2 → ∀ b, b < 2 → a ≠ b → (TX7 a).2.1 ≠ (TX7 b).2.1 := by decide +kernel
theorem tyX7_ok : ∀ k, k < 2 → parseFieldDescriptor (TX7 k).2.2.1 = some (tyX7 k) := by decide +kernel
abbrev cX7_init : ByteArray := prog_9_method_1_code
def yX7_init : MethodName := ⟨RX7, "<init>", "()V"⟩
abbrev cX7_at : ByteArray := prog_9_method_2_code
def yX7_at : MethodName := ⟨RX7, "at", "(I)I"⟩
abbrev cX7_append : ByteArray := prog_9_method_3_code
def yX7_append : MethodName := ⟨RX7, "append", "(J)Z"⟩
abbrev cX7_add : ByteArray := prog_9_method_4_code
def yX7_add : MethodName := ⟨RX7, "add", "(I)V"⟩
abbrev cX7_isRight : ByteArray := prog_9_method_5_code
def yX7_isRight : MethodName := ⟨RX7, "isRight", "()Z"⟩
abbrev cX7_isLetter : ByteArray := prog_9_method_6_code
def yX7_isLetter : MethodName := ⟨RX7, "isLetter", "(I)Z"⟩
abbrev cX7_entriesOf : ByteArray := prog_9_method_7_code
def yX7_entriesOf : MethodName := ⟨RX7, "entriesOf", "(I)I"⟩
def RX8 : String := "BitmapVolume$Sets"
def TX8 : u_T := fun k => match k with
  | 0 => ("BitmapVolume$Sets", "disk", "LBitmapVolume$Disk;", true)
  | _ => ("BitmapVolume$Sets", "cases", "LBitmapVolume$Cases;", true)
def tyX8 : Nat → FieldType := fun k => match k with
  | 0 => .object "BitmapVolume$Disk"
  | _ => .object "BitmapVolume$Cases"
abbrev wsX80 : List Cond := u_ws RX8 TX8 2
theorem nmX8 : ∀ a, a < 2 → ∀ b, b < 2 → a ≠ b → (TX8 a).2.1 ≠ (TX8 b).2.1 := by decide +kernel
theorem tyX8_ok : ∀ k, k < 2 → parseFieldDescriptor (TX8 k).2.2.1 = some (tyX8 k) := by decide +kernel
abbrev cX8_init : ByteArray := prog_10_method_1_code
def yX8_init : MethodName := ⟨RX8, "<init>", "(LBitmapVolume$Disk;LBitmapVolume$Cases;)V"⟩
abbrev cX8_roll : ByteArray := prog_10_method_2_code
def yX8_roll : MethodName := ⟨RX8, "roll", "(II)I"⟩
abbrev cX8_entries : ByteArray := prog_10_method_3_code
def yX8_entries : MethodName := ⟨RX8, "entries", "(I)I"⟩
abbrev cX8_attributes : ByteArray := prog_10_method_4_code
def yX8_attributes : MethodName := ⟨RX8, "attributes", "(I)I"⟩
abbrev cX8_isDirectory : ByteArray := prog_10_method_5_code
def yX8_isDirectory : MethodName := ⟨RX8, "isDirectory", "(I)Z"⟩
abbrev cX8_isReadOnly : ByteArray := prog_10_method_6_code
def yX8_isReadOnly : MethodName := ⟨RX8, "isReadOnly", "(I)Z"⟩
abbrev cX8_isRun : ByteArray := prog_10_method_7_code
def yX8_isRun : MethodName := ⟨RX8, "isRun", "(I)Z"⟩
abbrev cX8_nameSize : ByteArray := prog_10_method_8_code
def yX8_nameSize : MethodName := ⟨RX8, "nameSize", "(I)I"⟩
abbrev cX8_first : ByteArray := prog_10_method_9_code
def yX8_first : MethodName := ⟨RX8, "first", "(I)I"⟩
abbrev cX8_length : ByteArray := prog_10_method_10_code
def yX8_length : MethodName := ⟨RX8, "length", "(I)I"⟩
abbrev cX8_clusters : ByteArray := prog_10_method_11_code
def yX8_clusters : MethodName := ⟨RX8, "clusters", "(I)I"⟩
abbrev cX8_letterAt : ByteArray := prog_10_method_12_code
def yX8_letterAt : MethodName := ⟨RX8, "letterAt", "(II)I"⟩
abbrev cX8_letterAddress : ByteArray := prog_10_method_13_code
def yX8_letterAddress : MethodName := ⟨RX8, "letterAddress", "(II)I"⟩
abbrev cX8_tells : ByteArray := prog_10_method_14_code
def yX8_tells : MethodName := ⟨RX8, "tells", "(II)I"⟩
abbrev cX8_sum : ByteArray := prog_10_method_15_code
def yX8_sum : MethodName := ⟨RX8, "sum", "(II)I"⟩
abbrev cX8_readName : ByteArray := prog_10_method_16_code
def yX8_readName : MethodName := ⟨RX8, "readName", "(LBitmapVolume$Name;II)V"⟩
abbrev cX8_isLike : ByteArray := prog_10_method_17_code
def yX8_isLike : MethodName := ⟨RX8, "isLike", "(LBitmapVolume$Name;II)Z"⟩
abbrev cX8_isRight : ByteArray := prog_10_method_18_code
def yX8_isRight : MethodName := ⟨RX8, "isRight", "(IIIILBitmapVolume$Name;)Z"⟩
abbrev cX8_isRightStream : ByteArray := prog_10_method_19_code
def yX8_isRightStream : MethodName := ⟨RX8, "isRightStream", "(I)Z"⟩
abbrev cX8_isRightLength : ByteArray := prog_10_method_20_code
def yX8_isRightLength : MethodName := ⟨RX8, "isRightLength", "(II)Z"⟩
abbrev cX8_isRightName : ByteArray := prog_10_method_21_code
def yX8_isRightName : MethodName := ⟨RX8, "isRightName", "(IILBitmapVolume$Name;)Z"⟩
abbrev cX8_begin : ByteArray := prog_10_method_22_code
def yX8_begin : MethodName := ⟨RX8, "begin", "(IILBitmapVolume$Name;)V"⟩
abbrev cX8_setAttributes : ByteArray := prog_10_method_23_code
def yX8_setAttributes : MethodName := ⟨RX8, "setAttributes", "(II)V"⟩
abbrev cX8_setMade : ByteArray := prog_10_method_24_code
def yX8_setMade : MethodName := ⟨RX8, "setMade", "(II)V"⟩
abbrev cX8_setChanged : ByteArray := prog_10_method_25_code
def yX8_setChanged : MethodName := ⟨RX8, "setChanged", "(II)V"⟩
abbrev cX8_setStream : ByteArray := prog_10_method_26_code
def yX8_setStream : MethodName := ⟨RX8, "setStream", "(IZII)V"⟩
abbrev cX8_copyBody : ByteArray := prog_10_method_27_code
def yX8_copyBody : MethodName := ⟨RX8, "copyBody", "(II)V"⟩
abbrev cX8_seal : ByteArray := prog_10_method_28_code
def yX8_seal : MethodName := ⟨RX8, "seal", "(II)V"⟩
abbrev cX8_unuse : ByteArray := prog_10_method_29_code
def yX8_unuse : MethodName := ⟨RX8, "unuse", "(II)V"⟩
abbrev cX8_unuseEntry : ByteArray := prog_10_method_30_code
def yX8_unuseEntry : MethodName := ⟨RX8, "unuseEntry", "(I)V"⟩
def RX9 : String := "BitmapVolume$Space"
def TX9 : u_T := fun k => match k with
  | 0 => ("BitmapVolume$Space", "disk", "LBitmapVolume$Disk;", true)
  | 1 => ("BitmapVolume$Space", "n", "I", false)
  | 2 => ("BitmapVolume$Space", "root", "I", false)
  | 3 => ("BitmapVolume$Space", "bitmap", "I", false)
  | _ => ("BitmapVolume$Space", "promised", "I", false)
def tyX9 : Nat → FieldType := fun k => match k with
  | 0 => .object "BitmapVolume$Disk"
  | 1 => .int
  | 2 => .int
  | 3 => .int
  | _ => .int
abbrev wsX90 : List Cond := u_ws RX9 TX9 5
theorem nmX9 : ∀ a, a < 5 → ∀ b, b < 5 → a ≠ b → (TX9 a).2.1 ≠ (TX9 b).2.1 := by decide +kernel
theorem tyX9_ok : ∀ k, k < 5 → parseFieldDescriptor (TX9 k).2.2.1 = some (tyX9 k) := by decide +kernel
abbrev cX9_init : ByteArray := prog_11_method_1_code
def yX9_init : MethodName := ⟨RX9, "<init>", "(LBitmapVolume$Disk;)V"⟩
abbrev cX9_address : ByteArray := prog_11_method_2_code
def yX9_address : MethodName := ⟨RX9, "address", "(I)I"⟩
abbrev cX9_isCluster : ByteArray := prog_11_method_3_code
def yX9_isCluster : MethodName := ⟨RX9, "isCluster", "(I)Z"⟩
abbrev cX9_fat : ByteArray := prog_11_method_4_code
def yX9_fat : MethodName := ⟨RX9, "fat", "(I)I"⟩
abbrev cX9_setFat : ByteArray := prog_11_method_5_code
def yX9_setFat : MethodName := ⟨RX9, "setFat", "(II)V"⟩
abbrev cX9_isTaken : ByteArray := prog_11_method_6_code
def yX9_isTaken : MethodName := ⟨RX9, "isTaken", "(I)Z"⟩
abbrev cX9_setTaken : ByteArray := prog_11_method_7_code
def yX9_setTaken : MethodName := ⟨RX9, "setTaken", "(IZ)V"⟩
abbrev cX9_isFree : ByteArray := prog_11_method_8_code
def yX9_isFree : MethodName := ⟨RX9, "isFree", "(I)Z"⟩
abbrev cX9_firstFree : ByteArray := prog_11_method_9_code
def yX9_firstFree : MethodName := ⟨RX9, "firstFree", "()I"⟩
abbrev cX9_isFreeRow : ByteArray := prog_11_method_10_code
def yX9_isFreeRow : MethodName := ⟨RX9, "isFreeRow", "(II)Z"⟩
abbrev cX9_firstRow : ByteArray := prog_11_method_11_code
def yX9_firstRow : MethodName := ⟨RX9, "firstRow", "(I)I"⟩
abbrev cX9_freeOnes : ByteArray := prog_11_method_12_code
def yX9_freeOnes : MethodName := ⟨RX9, "freeOnes", "()I"⟩
abbrev cX9_longestRow : ByteArray := prog_11_method_13_code
def yX9_longestRow : MethodName := ⟨RX9, "longestRow", "()I"⟩
abbrev cX9_percent : ByteArray := prog_11_method_14_code
def yX9_percent : MethodName := ⟨RX9, "percent", "()I"⟩
def RX10 : String := "BitmapVolume$Tree"
def TX10 : u_T := fun k => match k with
  | 0 => ("BitmapVolume$Tree", "disk", "LBitmapVolume$Disk;", true)
  | 1 => ("BitmapVolume$Tree", "space", "LBitmapVolume$Space;", true)
  | 2 => ("BitmapVolume$Tree", "sets", "LBitmapVolume$Sets;", true)
  | 3 => ("BitmapVolume$Tree", "holder", "[I", true)
  | 4 => ("BitmapVolume$Tree", "behind", "[I", true)
  | 5 => ("BitmapVolume$Tree", "queue", "[I", true)
  | 6 => ("BitmapVolume$Tree", "queued", "I", false)
  | _ => ("BitmapVolume$Tree", "chain", "LBitmapVolume$Chain;", true)
def tyX10 : Nat → FieldType := fun k => match k with
  | 0 => .object "BitmapVolume$Disk"
  | 1 => .object "BitmapVolume$Space"
  | 2 => .object "BitmapVolume$Sets"
  | 3 => .array .int
  | 4 => .array .int
  | 5 => .array .int
  | 6 => .int
  | _ => .object "BitmapVolume$Chain"
abbrev wsX100 : List Cond := u_ws RX10 TX10 8
theorem nmX10 : ∀ a, a < 8 → ∀ b, b < 8 → a ≠ b → (TX10 a).2.1 ≠ (TX10 b).2.1 := by decide +kernel
theorem tyX10_ok : ∀ k, k < 8 → parseFieldDescriptor (TX10 k).2.2.1 = some (tyX10 k) := by decide +kernel
abbrev cX10_init : ByteArray := prog_12_method_1_code
def yX10_init : MethodName := ⟨RX10, "<init>", "(LBitmapVolume$Disk;LBitmapVolume$Space;LBitmapVolume$Sets;)V"⟩
abbrev cX10_headOf : ByteArray := prog_12_method_2_code
def yX10_headOf : MethodName := ⟨RX10, "headOf", "(I)I"⟩
abbrev cX10_placeOf : ByteArray := prog_12_method_3_code
def yX10_placeOf : MethodName := ⟨RX10, "placeOf", "(I)I"⟩
abbrev cX10_tailOf : ByteArray := prog_12_method_4_code
def yX10_tailOf : MethodName := ⟨RX10, "tailOf", "(I)I"⟩
abbrev cX10_index : ByteArray := prog_12_method_5_code
def yX10_index : MethodName := ⟨RX10, "index", "()V"⟩
abbrev cX10_indexCluster : ByteArray := prog_12_method_6_code
def yX10_indexCluster : MethodName := ⟨RX10, "indexCluster", "(III)V"⟩
abbrev cX10_open : ByteArray := prog_12_method_7_code
def yX10_open : MethodName := ⟨RX10, "open", "(ILBitmapVolume$Chain;)V"⟩
abbrev cX10_isEntry : ByteArray := prog_12_method_8_code
def yX10_isEntry : MethodName := ⟨RX10, "isEntry", "(I)Z"⟩
abbrev cX10_isPlace : ByteArray := prog_12_method_9_code
def yX10_isPlace : MethodName := ⟨RX10, "isPlace", "(I)Z"⟩
abbrev cX10_isDirectory : ByteArray := prog_12_method_10_code
def yX10_isDirectory : MethodName := ⟨RX10, "isDirectory", "(I)Z"⟩
abbrev cX10_isFile : ByteArray := prog_12_method_11_code
def yX10_isFile : MethodName := ⟨RX10, "isFile", "(I)Z"⟩
abbrev cX10_isWithin : ByteArray := prog_12_method_12_code
def yX10_isWithin : MethodName := ⟨RX10, "isWithin", "(II)Z"⟩
abbrev cX10_find : ByteArray := prog_12_method_13_code
def yX10_find : MethodName := ⟨RX10, "find", "(ILBitmapVolume$Name;)I"⟩
abbrev cX10_findBut : ByteArray := prog_12_method_14_code
def yX10_findBut : MethodName := ⟨RX10, "findBut", "(ILBitmapVolume$Name;I)I"⟩
abbrev cX10_child : ByteArray := prog_12_method_15_code
def yX10_child : MethodName := ⟨RX10, "child", "(II)I"⟩
abbrev cX10_clusterOf : ByteArray := prog_12_method_16_code
def yX10_clusterOf : MethodName := ⟨RX10, "clusterOf", "(II)I"⟩
abbrev cX10_rootTells : ByteArray := prog_12_method_17_code
def yX10_rootTells : MethodName := ⟨RX10, "rootTells", "(I)I"⟩
abbrev cX10_octets : ByteArray := prog_12_method_18_code
def yX10_octets : MethodName := ⟨RX10, "octets", "(II)J"⟩
def RX11 : String := "BitmapVolume"
def TX11 : u_T := fun k => match k with
  | 0 => ("BitmapVolume", "disk", "LBitmapVolume$Disk;", true)
  | 1 => ("BitmapVolume", "boot", "LBitmapVolume$Boot;", true)
  | 2 => ("BitmapVolume", "space", "LBitmapVolume$Space;", true)
  | 3 => ("BitmapVolume", "sets", "LBitmapVolume$Sets;", true)
  | 4 => ("BitmapVolume", "check", "LBitmapVolume$Check;", true)
  | 5 => ("BitmapVolume", "tree", "LBitmapVolume$Tree;", true)
  | 6 => ("BitmapVolume", "acts", "LBitmapVolume$Acts;", true)
  | 7 => ("BitmapVolume", "draft", "LBitmapVolume$Name;", true)
  | _ => ("BitmapVolume", "mounted", "Z", false)
def tyX11 : Nat → FieldType := fun k => match k with
  | 0 => .object "BitmapVolume$Disk"
  | 1 => .object "BitmapVolume$Boot"
  | 2 => .object "BitmapVolume$Space"
  | 3 => .object "BitmapVolume$Sets"
  | 4 => .object "BitmapVolume$Check"
  | 5 => .object "BitmapVolume$Tree"
  | 6 => .object "BitmapVolume$Acts"
  | 7 => .object "BitmapVolume$Name"
  | _ => .boolean
abbrev wsX110 : List Cond := u_ws RX11 TX11 9
theorem nmX11 : ∀ a, a < 9 → ∀ b, b < 9 → a ≠ b → (TX11 a).2.1 ≠ (TX11 b).2.1 := by decide +kernel
theorem tyX11_ok : ∀ k, k < 9 → parseFieldDescriptor (TX11 k).2.2.1 = some (tyX11 k) := by decide +kernel
abbrev cX11_init : ByteArray := prog_1_method_1_code
def yX11_init : MethodName := ⟨RX11, "<init>", "()V"⟩
abbrev cX11_format : ByteArray := prog_1_method_2_code
def yX11_format : MethodName := ⟨RX11, "format", "(II)I"⟩
abbrev cX11_octet : ByteArray := prog_1_method_3_code
def yX11_octet : MethodName := ⟨RX11, "octet", "(II)I"⟩
abbrev cX11_spoil : ByteArray := prog_1_method_4_code
def yX11_spoil : MethodName := ⟨RX11, "spoil", "(III)I"⟩
abbrev cX11_fail : ByteArray := prog_1_method_5_code
def yX11_fail : MethodName := ⟨RX11, "fail", "(I)I"⟩
abbrev cX11_mount : ByteArray := prog_1_method_6_code
def yX11_mount : MethodName := ⟨RX11, "mount", "()I"⟩
abbrev cX11_fault : ByteArray := prog_1_method_7_code
def yX11_fault : MethodName := ⟨RX11, "fault", "(I)I"⟩
abbrev cX11_unmount : ByteArray := prog_1_method_8_code
def yX11_unmount : MethodName := ⟨RX11, "unmount", "()I"⟩
abbrev cX11_mend : ByteArray := prog_1_method_9_code
def yX11_mend : MethodName := ⟨RX11, "mend", "()I"⟩
abbrev cX11_letters : ByteArray := prog_1_method_10_code
def yX11_letters : MethodName := ⟨RX11, "letters", "(J)I"⟩
abbrev cX11_clear : ByteArray := prog_1_method_11_code
def yX11_clear : MethodName := ⟨RX11, "clear", "()I"⟩
abbrev cX11_clock : ByteArray := prog_1_method_12_code
def yX11_clock : MethodName := ⟨RX11, "clock", "(I)V"⟩
abbrev cX11_look : ByteArray := prog_1_method_13_code
def yX11_look : MethodName := ⟨RX11, "look", "(I)I"⟩
abbrev cX11_list : ByteArray := prog_1_method_14_code
def yX11_list : MethodName := ⟨RX11, "list", "(II)I"⟩
abbrev cX11_make : ByteArray := prog_1_method_15_code
def yX11_make : MethodName := ⟨RX11, "make", "(IZ)I"⟩
abbrev cX11_write : ByteArray := prog_1_method_16_code
def yX11_write : MethodName := ⟨RX11, "write", "(IIII)I"⟩
abbrev cX11_cut : ByteArray := prog_1_method_17_code
def yX11_cut : MethodName := ⟨RX11, "cut", "(II)I"⟩
abbrev cX11_drop : ByteArray := prog_1_method_18_code
def yX11_drop : MethodName := ⟨RX11, "drop", "(I)I"⟩
abbrev cX11_move : ByteArray := prog_1_method_19_code
def yX11_move : MethodName := ⟨RX11, "move", "(II)I"⟩
abbrev cX11_bar : ByteArray := prog_1_method_20_code
def yX11_bar : MethodName := ⟨RX11, "bar", "(IZ)I"⟩
abbrev cX11_read : ByteArray := prog_1_method_21_code
def yX11_read : MethodName := ⟨RX11, "read", "(II)J"⟩
abbrev cX11_told : ByteArray := prog_1_method_22_code
def yX11_told : MethodName := ⟨RX11, "told", "(II)I"⟩
abbrev cX11_letter : ByteArray := prog_1_method_23_code
def yX11_letter : MethodName := ⟨RX11, "letter", "(II)I"⟩
abbrev cX11_cluster : ByteArray := prog_1_method_24_code
def yX11_cluster : MethodName := ⟨RX11, "cluster", "(II)I"⟩
abbrev cX11_count : ByteArray := prog_1_method_25_code
def yX11_count : MethodName := ⟨RX11, "count", "(I)I"⟩
abbrev cX11_settled : ByteArray := prog_1_method_26_code
def yX11_settled : MethodName := ⟨RX11, "settled", "(I)I"⟩
def RX12 : String := "BitmapVolumeModel"
def TX12 : u_T := fun k => match k with
  | 0 => ("BitmapVolumeModel", "clusters", "I", false)
  | 1 => ("BitmapVolumeModel", "rootAt", "I", false)
  | 2 => ("BitmapVolumeModel", "mapAt", "I", false)
  | 3 => ("BitmapVolumeModel", "isMounted", "Z", false)
  | 4 => ("BitmapVolumeModel", "time", "I", false)
  | 5 => ("BitmapVolumeModel", "failsAt", "I", false)
  | 6 => ("BitmapVolumeModel", "written", "I", false)
  | 7 => ("BitmapVolumeModel", "disk", "[B", true)
  | 8 => ("BitmapVolumeModel", "want", "[B", true)
  | 9 => ("BitmapVolumeModel", "faultIs", "I", false)
  | 10 => ("BitmapVolumeModel", "faultCluster", "I", false)
  | 11 => ("BitmapVolumeModel", "faultEntry", "I", false)
  | 12 => ("BitmapVolumeModel", "bySecond", "Z", false)
  | 13 => ("BitmapVolumeModel", "isMet", "[Z", true)
  | 14 => ("BitmapVolumeModel", "great", "[I", true)
  | 15 => ("BitmapVolumeModel", "casesAt", "I", false)
  | 16 => ("BitmapVolumeModel", "rowOf", "[I", true)
  | 17 => ("BitmapVolumeModel", "rowMany", "I", false)
  | 18 => ("BitmapVolumeModel", "setMany", "I", false)
  | 19 => ("BitmapVolumeModel", "letterMany", "I", false)
  | 20 => ("BitmapVolumeModel", "name", "[I", true)
  | 21 => ("BitmapVolumeModel", "length", "J", false)
  | 22 => ("BitmapVolumeModel", "firstCluster", "J", false)
  | 23 => ("BitmapVolumeModel", "isRun", "Z", false)
  | 24 => ("BitmapVolumeModel", "attributes", "I", false)
  | 25 => ("BitmapVolumeModel", "placeOf", "[I", true)
  | 26 => ("BitmapVolumeModel", "parentOf", "[I", true)
  | 27 => ("BitmapVolumeModel", "entryOf", "[I", true)
  | 28 => ("BitmapVolumeModel", "manyOf", "[I", true)
  | 29 => ("BitmapVolumeModel", "isDir", "[Z", true)
  | 30 => ("BitmapVolumeModel", "isRunOf", "[Z", true)
  | 31 => ("BitmapVolumeModel", "lengthOf", "[J", true)
  | 32 => ("BitmapVolumeModel", "firstOf", "[I", true)
  | 33 => ("BitmapVolumeModel", "attributesOf", "[I", true)
  | 34 => ("BitmapVolumeModel", "sets", "I", false)
  | 35 => ("BitmapVolumeModel", "mends", "Z", false)
  | 36 => ("BitmapVolumeModel", "mended", "I", false)
  | 37 => ("BitmapVolumeModel", "likeName", "[I", true)
  | 38 => ("BitmapVolumeModel", "likeMany", "I", false)
  | 39 => ("BitmapVolumeModel", "chain", "[I", true)
  | 40 => ("BitmapVolumeModel", "draft", "[I", true)
  | 41 => ("BitmapVolumeModel", "draftMany", "I", false)
  | 42 => ("BitmapVolumeModel", "have", "[I", true)
  | 43 => ("BitmapVolumeModel", "haveMany", "[I", true)
  | 44 => ("BitmapVolumeModel", "got", "[I", true)
  | 45 => ("BitmapVolumeModel", "gotMany", "[I", true)
  | 46 => ("BitmapVolumeModel", "wasRun", "[Z", true)
  | 47 => ("BitmapVolumeModel", "becomesRun", "[Z", true)
  | _ => ("BitmapVolumeModel", "isReserved", "[Z", true)
def tyX12 : Nat → FieldType := fun k => match k with
  | 0 => .int
  | 1 => .int
  | 2 => .int
  | 3 => .boolean
  | 4 => .int
  | 5 => .int
  | 6 => .int
  | 7 => .array .byte
  | 8 => .array .byte
  | 9 => .int
  | 10 => .int
  | 11 => .int
  | 12 => .boolean
  | 13 => .array .boolean
  | 14 => .array .int
  | 15 => .int
  | 16 => .array .int
  | 17 => .int
  | 18 => .int
  | 19 => .int
  | 20 => .array .int
  | 21 => .long
  | 22 => .long
  | 23 => .boolean
  | 24 => .int
  | 25 => .array .int
  | 26 => .array .int
  | 27 => .array .int
  | 28 => .array .int
  | 29 => .array .boolean
  | 30 => .array .boolean
  | 31 => .array .long
  | 32 => .array .int
  | 33 => .array .int
  | 34 => .int
  | 35 => .boolean
  | 36 => .int
  | 37 => .array .int
  | 38 => .int
  | 39 => .array .int
  | 40 => .array .int
  | 41 => .int
  | 42 => .array .int
  | 43 => .array .int
  | 44 => .array .int
  | 45 => .array .int
  | 46 => .array .boolean
  | 47 => .array .boolean
  | _ => .array .boolean
abbrev wsX120 : List Cond := u_ws RX12 TX12 49
theorem nmX12 : ∀ a, a < 49 → ∀ b, b < 49 → a ≠ b → (TX12 a).2.1 ≠ (TX12 b).2.1 := by decide +kernel
theorem tyX12_ok : ∀ k, k < 49 → parseFieldDescriptor (TX12 k).2.2.1 = some (tyX12 k) := by decide +kernel
abbrev cX12_init : ByteArray := prog_14_method_1_code
def yX12_init : MethodName := ⟨RX12, "<init>", "()V"⟩
abbrev cX12_lesser : ByteArray := prog_14_method_2_code
def yX12_lesser : MethodName := ⟨RX12, "lesser", "(II)I"⟩
abbrev cX12_greater : ByteArray := prog_14_method_3_code
def yX12_greater : MethodName := ⟨RX12, "greater", "(JJ)J"⟩
abbrev cX12_in : ByteArray := prog_14_method_4_code
def yX12_in : MethodName := ⟨RX12, "in", "(JJJ)Z"⟩
abbrev cX12_get : ByteArray := prog_14_method_5_code
def yX12_get : MethodName := ⟨RX12, "get", "([BII)J"⟩
abbrev cX12_put : ByteArray := prog_14_method_6_code
def yX12_put : MethodName := ⟨RX12, "put", "([BIIJ)V"⟩
abbrev cX12_clusterAt : ByteArray := prog_14_method_7_code
def yX12_clusterAt : MethodName := ⟨RX12, "clusterAt", "(I)I"⟩
abbrev cX12_isCluster : ByteArray := prog_14_method_8_code
def yX12_isCluster : MethodName := ⟨RX12, "isCluster", "(J)Z"⟩
abbrev cX12_fat : ByteArray := prog_14_method_9_code
def yX12_fat : MethodName := ⟨RX12, "fat", "([BI)J"⟩
abbrev cX12_wantFat : ByteArray := prog_14_method_10_code
def yX12_wantFat : MethodName := ⟨RX12, "wantFat", "(IJ)V"⟩
abbrev cX12_isTaken : ByteArray := prog_14_method_11_code
def yX12_isTaken : MethodName := ⟨RX12, "isTaken", "([BI)Z"⟩
abbrev cX12_wantBit : ByteArray := prog_14_method_12_code
def yX12_wantBit : MethodName := ⟨RX12, "wantBit", "(IZ)V"⟩
abbrev cX12_rolled : ByteArray := prog_14_method_13_code
def yX12_rolled : MethodName := ⟨RX12, "rolled", "(JIJJ)J"⟩
abbrev cX12_sum4 : ByteArray := prog_14_method_14_code
def yX12_sum4 : MethodName := ⟨RX12, "sum4", "([BIIZ)J"⟩
abbrev cX12_beginWrite : ByteArray := prog_14_method_15_code
def yX12_beginWrite : MethodName := ⟨RX12, "beginWrite", "()V"⟩
abbrev cX12_flush : ByteArray := prog_14_method_16_code
def yX12_flush : MethodName := ⟨RX12, "flush", "()Z"⟩
abbrev cX12_dirty : ByteArray := prog_14_method_17_code
def yX12_dirty : MethodName := ⟨RX12, "dirty", "()Z"⟩
abbrev cX12_format : ByteArray := prog_14_method_18_code
def yX12_format : MethodName := ⟨RX12, "format", "(II)I"⟩
abbrev cX12_layOwn : ByteArray := prog_14_method_19_code
def yX12_layOwn : MethodName := ⟨RX12, "layOwn", "(II)I"⟩
abbrev cX12_layGreat : ByteArray := prog_14_method_20_code
def yX12_layGreat : MethodName := ⟨RX12, "layGreat", "(III)I"⟩
abbrev cX12_layBoot : ByteArray := prog_14_method_21_code
def yX12_layBoot : MethodName := ⟨RX12, "layBoot", "(II)V"⟩
abbrev cX12_bootName : ByteArray := prog_14_method_22_code
def yX12_bootName : MethodName := ⟨RX12, "bootName", "()J"⟩
abbrev cX12_octet : ByteArray := prog_14_method_23_code
def yX12_octet : MethodName := ⟨RX12, "octet", "(II)I"⟩
abbrev cX12_spoil : ByteArray := prog_14_method_24_code
def yX12_spoil : MethodName := ⟨RX12, "spoil", "(III)I"⟩
abbrev cX12_fail : ByteArray := prog_14_method_25_code
def yX12_fail : MethodName := ⟨RX12, "fail", "(I)I"⟩
abbrev cX12_meets : ByteArray := prog_14_method_26_code
def yX12_meets : MethodName := ⟨RX12, "meets", "(III)Z"⟩
abbrev cX12_fault : ByteArray := prog_14_method_27_code
def yX12_fault : MethodName := ⟨RX12, "fault", "(I)I"⟩
abbrev cX12_isZero : ByteArray := prog_14_method_28_code
def yX12_isZero : MethodName := ⟨RX12, "isZero", "(II)Z"⟩
abbrev cX12_isBoot : ByteArray := prog_14_method_29_code
def yX12_isBoot : MethodName := ⟨RX12, "isBoot", "(I)Z"⟩
abbrev cX12_isMountable : ByteArray := prog_14_method_30_code
def yX12_isMountable : MethodName := ⟨RX12, "isMountable", "()Z"⟩
abbrev cX12_hasCluster : ByteArray := prog_14_method_31_code
def yX12_hasCluster : MethodName := ⟨RX12, "hasCluster", "(I)Z"⟩
abbrev cX12_isMapThere : ByteArray := prog_14_method_32_code
def yX12_isMapThere : MethodName := ⟨RX12, "isMapThere", "()Z"⟩
abbrev cX12_isTableThere : ByteArray := prog_14_method_33_code
def yX12_isTableThere : MethodName := ⟨RX12, "isTableThere", "()Z"⟩
abbrev cX12_isTable : ByteArray := prog_14_method_34_code
def yX12_isTable : MethodName := ⟨RX12, "isTable", "(II)Z"⟩
abbrev cX12_entryAt : ByteArray := prog_14_method_35_code
def yX12_entryAt : MethodName := ⟨RX12, "entryAt", "(I)I"⟩
abbrev cX12_typeOf : ByteArray := prog_14_method_36_code
def yX12_typeOf : MethodName := ⟨RX12, "typeOf", "(I)I"⟩
abbrev cX12_entries : ByteArray := prog_14_method_37_code
def yX12_entries : MethodName := ⟨RX12, "entries", "()I"⟩
abbrev cX12_rowOfRoot : ByteArray := prog_14_method_38_code
def yX12_rowOfRoot : MethodName := ⟨RX12, "rowOfRoot", "()V"⟩
abbrev cX12_isLetter : ByteArray := prog_14_method_39_code
def yX12_isLetter : MethodName := ⟨RX12, "isLetter", "(I)Z"⟩
abbrev cX12_isName : ByteArray := prog_14_method_40_code
def yX12_isName : MethodName := ⟨RX12, "isName", "([II)Z"⟩
abbrev cX12_hashOf : ByteArray := prog_14_method_41_code
def yX12_hashOf : MethodName := ⟨RX12, "hashOf", "([II)I"⟩
abbrev cX12_setSum : ByteArray := prog_14_method_42_code
def yX12_setSum : MethodName := ⟨RX12, "setSum", "([BII)I"⟩
abbrev cX12_isSet : ByteArray := prog_14_method_43_code
def yX12_isSet : MethodName := ⟨RX12, "isSet", "(I)Z"⟩
abbrev cX12_isStream : ByteArray := prog_14_method_44_code
def yX12_isStream : MethodName := ⟨RX12, "isStream", "(I)Z"⟩
abbrev cX12_isNamed : ByteArray := prog_14_method_45_code
def yX12_isNamed : MethodName := ⟨RX12, "isNamed", "(I)Z"⟩
abbrev cX12_addSet : ByteArray := prog_14_method_46_code
def yX12_addSet : MethodName := ⟨RX12, "addSet", "(II)V"⟩
abbrev cX12_beginSets : ByteArray := prog_14_method_47_code
def yX12_beginSets : MethodName := ⟨RX12, "beginSets", "()V"⟩
abbrev cX12_rowOfSet : ByteArray := prog_14_method_48_code
def yX12_rowOfSet : MethodName := ⟨RX12, "rowOfSet", "(I)V"⟩
abbrev cX12_scan : ByteArray := prog_14_method_49_code
def yX12_scan : MethodName := ⟨RX12, "scan", "()V"⟩
abbrev cX12_setAt : ByteArray := prog_14_method_50_code
def yX12_setAt : MethodName := ⟨RX12, "setAt", "(I)I"⟩
abbrev cX12_directoryAt : ByteArray := prog_14_method_51_code
def yX12_directoryAt : MethodName := ⟨RX12, "directoryAt", "(I)I"⟩
abbrev cX12_fileAt : ByteArray := prog_14_method_52_code
def yX12_fileAt : MethodName := ⟨RX12, "fileAt", "(I)I"⟩
abbrev cX12_clustersWrong : ByteArray := prog_14_method_53_code
def yX12_clustersWrong : MethodName := ⟨RX12, "clustersWrong", "()I"⟩
abbrev cX12_openEnd : ByteArray := prog_14_method_54_code
def yX12_openEnd : MethodName := ⟨RX12, "openEnd", "(I)I"⟩
abbrev cX12_meetClusters : ByteArray := prog_14_method_55_code
def yX12_meetClusters : MethodName := ⟨RX12, "meetClusters", "()V"⟩
abbrev cX12_keepName : ByteArray := prog_14_method_56_code
def yX12_keepName : MethodName := ⟨RX12, "keepName", "()V"⟩
abbrev cX12_isLike : ByteArray := prog_14_method_57_code
def yX12_isLike : MethodName := ⟨RX12, "isLike", "(I)Z"⟩
abbrev cX12_isThereBefore : ByteArray := prog_14_method_58_code
def yX12_isThereBefore : MethodName := ⟨RX12, "isThereBefore", "(II)Z"⟩
abbrev cX12_wantType : ByteArray := prog_14_method_59_code
def yX12_wantType : MethodName := ⟨RX12, "wantType", "(II)V"⟩
abbrev cX12_wrong : ByteArray := prog_14_method_60_code
def yX12_wrong : MethodName := ⟨RX12, "wrong", "(III)Z"⟩
abbrev cX12_isDirectoryRight : ByteArray := prog_14_method_61_code
def yX12_isDirectoryRight : MethodName := ⟨RX12, "isDirectoryRight", "(I)Z"⟩
abbrev cX12_areSetsRight : ByteArray := prog_14_method_62_code
def yX12_areSetsRight : MethodName := ⟨RX12, "areSetsRight", "()Z"⟩
abbrev cX12_mapOctet : ByteArray := prog_14_method_63_code
def yX12_mapOctet : MethodName := ⟨RX12, "mapOctet", "(I)I"⟩
abbrev cX12_isMapRight : ByteArray := prog_14_method_64_code
def yX12_isMapRight : MethodName := ⟨RX12, "isMapRight", "()Z"⟩
abbrev cX12_mount : ByteArray := prog_14_method_65_code
def yX12_mount : MethodName := ⟨RX12, "mount", "()I"⟩
abbrev cX12_unmount : ByteArray := prog_14_method_66_code
def yX12_unmount : MethodName := ⟨RX12, "unmount", "()I"⟩
abbrev cX12_mend : ByteArray := prog_14_method_67_code
def yX12_mend : MethodName := ⟨RX12, "mend", "()I"⟩
abbrev cX12_letters : ByteArray := prog_14_method_68_code
def yX12_letters : MethodName := ⟨RX12, "letters", "(J)I"⟩
abbrev cX12_clear : ByteArray := prog_14_method_69_code
def yX12_clear : MethodName := ⟨RX12, "clear", "()I"⟩
abbrev cX12_clock : ByteArray := prog_14_method_70_code
def yX12_clock : MethodName := ⟨RX12, "clock", "(I)V"⟩
abbrev cX12_usedDraft : ByteArray := prog_14_method_71_code
def yX12_usedDraft : MethodName := ⟨RX12, "usedDraft", "()I"⟩
abbrev cX12_like : ByteArray := prog_14_method_72_code
def yX12_like : MethodName := ⟨RX12, "like", "(II)I"⟩
abbrev cX12_look : ByteArray := prog_14_method_73_code
def yX12_look : MethodName := ⟨RX12, "look", "(I)I"⟩
abbrev cX12_list : ByteArray := prog_14_method_74_code
def yX12_list : MethodName := ⟨RX12, "list", "(II)I"⟩
abbrev cX12_isFree : ByteArray := prog_14_method_75_code
def yX12_isFree : MethodName := ⟨RX12, "isFree", "(I)Z"⟩
abbrev cX12_freeMany : ByteArray := prog_14_method_76_code
def yX12_freeMany : MethodName := ⟨RX12, "freeMany", "()I"⟩
abbrev cX12_noPlans : ByteArray := prog_14_method_77_code
def yX12_noPlans : MethodName := ⟨RX12, "noPlans", "()V"⟩
abbrev cX12_planFor : ByteArray := prog_14_method_78_code
def yX12_planFor : MethodName := ⟨RX12, "planFor", "(II)V"⟩
abbrev cX12_reserve : ByteArray := prog_14_method_79_code
def yX12_reserve : MethodName := ⟨RX12, "reserve", "(II)V"⟩
abbrev cX12_areFree : ByteArray := prog_14_method_80_code
def yX12_areFree : MethodName := ⟨RX12, "areFree", "(II)Z"⟩
abbrev cX12_plans : ByteArray := prog_14_method_81_code
def yX12_plans : MethodName := ⟨RX12, "plans", "(II)Z"⟩
abbrev cX12_wantChain : ByteArray := prog_14_method_82_code
def yX12_wantChain : MethodName := ⟨RX12, "wantChain", "(I)V"⟩
abbrev cX12_wantJoint : ByteArray := prog_14_method_83_code
def yX12_wantJoint : MethodName := ⟨RX12, "wantJoint", "(I)V"⟩
abbrev cX12_chains : ByteArray := prog_14_method_84_code
def yX12_chains : MethodName := ⟨RX12, "chains", "()Z"⟩
abbrev cX12_wantTaken : ByteArray := prog_14_method_85_code
def yX12_wantTaken : MethodName := ⟨RX12, "wantTaken", "(I)V"⟩
abbrev cX12_plannedAt : ByteArray := prog_14_method_86_code
def yX12_plannedAt : MethodName := ⟨RX12, "plannedAt", "(II)I"⟩
abbrev cX12_emptyNew : ByteArray := prog_14_method_87_code
def yX12_emptyNew : MethodName := ⟨RX12, "emptyNew", "(I)V"⟩
abbrev cX12_rowOfPlan : ByteArray := prog_14_method_88_code
def yX12_rowOfPlan : MethodName := ⟨RX12, "rowOfPlan", "(I)V"⟩
abbrev cX12_wantedType : ByteArray := prog_14_method_89_code
def yX12_wantedType : MethodName := ⟨RX12, "wantedType", "(I)I"⟩
abbrev cX12_spaceFor : ByteArray := prog_14_method_90_code
def yX12_spaceFor : MethodName := ⟨RX12, "spaceFor", "(I)I"⟩
abbrev cX12_seal : ByteArray := prog_14_method_91_code
def yX12_seal : MethodName := ⟨RX12, "seal", "(II)V"⟩
abbrev cX12_laySet : ByteArray := prog_14_method_92_code
def yX12_laySet : MethodName := ⟨RX12, "laySet", "(IIIJJJIZ)V"⟩
abbrev cX12_wantStream : ByteArray := prog_14_method_93_code
def yX12_wantStream : MethodName := ⟨RX12, "wantStream", "(IJIZ)V"⟩
abbrev cX12_changeSet : ByteArray := prog_14_method_94_code
def yX12_changeSet : MethodName := ⟨RX12, "changeSet", "(IJIZ)V"⟩
abbrev cX12_unuse : ByteArray := prog_14_method_95_code
def yX12_unuse : MethodName := ⟨RX12, "unuse", "(I)V"⟩
abbrev cX12_planSpace : ByteArray := prog_14_method_96_code
def yX12_planSpace : MethodName := ⟨RX12, "planSpace", "(II)I"⟩
abbrev cX12_areUnused : ByteArray := prog_14_method_97_code
def yX12_areUnused : MethodName := ⟨RX12, "areUnused", "(II)Z"⟩
abbrev cX12_firstSpace : ByteArray := prog_14_method_98_code
def yX12_firstSpace : MethodName := ⟨RX12, "firstSpace", "(I)I"⟩
abbrev cX12_comesIn : ByteArray := prog_14_method_99_code
def yX12_comesIn : MethodName := ⟨RX12, "comesIn", "(Z)Z"⟩
abbrev cX12_grow : ByteArray := prog_14_method_100_code
def yX12_grow : MethodName := ⟨RX12, "grow", "(I)V"⟩
abbrev cX12_make : ByteArray := prog_14_method_101_code
def yX12_make : MethodName := ⟨RX12, "make", "(IZ)I"⟩
abbrev cX12_write : ByteArray := prog_14_method_102_code
def yX12_write : MethodName := ⟨RX12, "write", "(IIII)I"⟩
abbrev cX12_frees : ByteArray := prog_14_method_103_code
def yX12_frees : MethodName := ⟨RX12, "frees", "(I)Z"⟩
abbrev cX12_cut : ByteArray := prog_14_method_104_code
def yX12_cut : MethodName := ⟨RX12, "cut", "(II)I"⟩
abbrev cX12_drop : ByteArray := prog_14_method_105_code
def yX12_drop : MethodName := ⟨RX12, "drop", "(I)I"⟩
abbrev cX12_isWithin : ByteArray := prog_14_method_106_code
def yX12_isWithin : MethodName := ⟨RX12, "isWithin", "(II)Z"⟩
abbrev cX12_move : ByteArray := prog_14_method_107_code
def yX12_move : MethodName := ⟨RX12, "move", "(II)I"⟩
abbrev cX12_bar : ByteArray := prog_14_method_108_code
def yX12_bar : MethodName := ⟨RX12, "bar", "(IZ)I"⟩
abbrev cX12_read : ByteArray := prog_14_method_109_code
def yX12_read : MethodName := ⟨RX12, "read", "(II)J"⟩
abbrev cX12_told : ByteArray := prog_14_method_110_code
def yX12_told : MethodName := ⟨RX12, "told", "(II)I"⟩
abbrev cX12_letter : ByteArray := prog_14_method_111_code
def yX12_letter : MethodName := ⟨RX12, "letter", "(II)I"⟩
abbrev cX12_cluster : ByteArray := prog_14_method_112_code
def yX12_cluster : MethodName := ⟨RX12, "cluster", "(II)I"⟩
abbrev cX12_longestFree : ByteArray := prog_14_method_113_code
def yX12_longestFree : MethodName := ⟨RX12, "longestFree", "()I"⟩
abbrev cX12_count : ByteArray := prog_14_method_114_code
def yX12_count : MethodName := ⟨RX12, "count", "(I)I"⟩
def RL : String := "BitmapVolumeLaw"
abbrev cL_law : ByteArray := code
def yL_law : MethodName := ⟨RL, "law", "([I)Z"⟩
abbrev vwCl : List vw_C := [(RX0, TX0, 8), (RX1, TX1, 2), (RX2, TX2, 2), (RX3, TX3, 2), (RX4, TX4, 18), (RX5, TX5, 5), (RX6, TX6, 6), (RX7, TX7, 2), (RX8, TX8, 2), (RX9, TX9, 5), (RX10, TX10, 8), (RX11, TX11, 9), (RX12, TX12, 49)]
def ob_kd (o : Nat) : Nat := [11, 5, 14, 14, 16, 1, 14, 9, 2, 14, 8, 10, 14, 14, 14, 3, 14, 4, 3, 14, 3, 14, 7, 14, 16, 14, 0, 6, 3, 14, 3, 14, 7, 14, 12, 13, 13, 16, 14, 14, 14, 14, 14, 14, 14, 16, 16, 15, 14, 14, 14, 14, 14, 14, 14, 14, 14, 16, 16, 16].getD o 99
def ob_ln (o : Nat) : Nat := [0, 0, 13824, 13824, 216, 0, 256, 0, 0, 256, 0, 0, 102, 102, 102, 0, 102, 0, 0, 102, 0, 102, 0, 30, 102, 102, 0, 0, 0, 102, 0, 102, 0, 30, 0, 13824, 13824, 102, 256, 102, 30, 200, 200, 200, 200, 200, 200, 200, 200, 200, 30, 102, 30, 204, 2, 204, 2, 2, 2, 102].getD o 0
def ob_rf (o k : Nat) : Nat := (([[1, 5, 7, 10, 17, 11, 26, 32], [2, 3, 4], [], [], [], [1, 6], [], [1], [1, 9], [], [1, 8], [1, 7, 10, 12, 13, 14, 0, 15], [], [], [], [16], [], [1, 5, 7, 10, 8, 11, 18, 20, 22, 24, 25], [19], [], [21], [], [23], [], [], [], [1, 7, 10, 11, 27], [1, 7, 28, 30], [29], [], [31], [], [33], [], [0, 0, 0, 0, 0, 0, 0, 35, 36, 0, 0, 0, 0, 37, 38, 0, 39, 0, 0, 0, 40, 0, 0, 0, 0, 41, 42, 43, 44, 45, 46, 47, 48, 49, 0, 0, 0, 50, 0, 51, 52, 0, 53, 54, 55, 56, 57, 58, 59], [], [], [], [], [], [], [], [], [], [], [], [], [], [], [], [], [], [], [], [], [], [], [], [], []] : List (List Nat)).getD o []).getD k 0
def fd_k (ci k : Nat) : Nat := (([[3, 3, 3, 3, 3, 0, 0, 0], [3, 3], [3, 3], [3, 0], [3, 3, 3, 3, 3, 3, 3, 3, 3, 3, 3, 0, 1, 0, 1, 0, 0, 0], [3, 3, 3, 0, 0], [3, 3, 3, 3, 1, 1], [3, 0], [3, 3], [3, 0, 0, 0, 0], [3, 3, 3, 3, 3, 3, 0, 3], [3, 3, 3, 3, 3, 3, 3, 3, 1], [0, 0, 0, 1, 0, 0, 0, 3, 3, 0, 0, 0, 1, 3, 3, 0, 3, 0, 0, 0, 3, 2, 2, 1, 0, 3, 3, 3, 3, 3, 3, 3, 3, 3, 0, 1, 0, 3, 0, 3, 3, 0, 3, 3, 3, 3, 3, 3, 3]] : List (List Nat)).getD ci []).getD k 9
def fd_n (ci : Nat) : Nat := [8, 2, 2, 2, 18, 5, 6, 2, 2, 5, 8, 9, 49].getD ci 0
abbrev MT : Type := MethodName × ByteArray × Nat × Option FieldType × Nat × Nat × Nat
def oS (k : Nat) : String := [RX0, RX1, RX2, RX3, RX4, RX5, RX6, RX7, RX8, RX9, RX10, RX11, RX12, "java/util/Arrays"].getD k ""
def mD : MT := (⟨"", "", ""⟩, ⟨#[]⟩, 0, none, 0, 0, 99)
theorem tb1 : ∀ w ∈ tables_1_1, w ∈ lw_tbl := fun w h => List.mem_append_right _ (List.mem_append_left _ h)
theorem tb2 : ∀ w ∈ tables_1_2, w ∈ lw_tbl := fun w h => List.mem_append_right _ (List.mem_append_right _ (List.mem_append_left _ h))
theorem tb3 : ∀ w ∈ tables_1_3, w ∈ lw_tbl := fun w h => List.mem_append_right _ (List.mem_append_right _ (List.mem_append_right _ (List.mem_append_left _ h)))
theorem tb4 : ∀ w ∈ tables_1_4, w ∈ lw_tbl := fun w h => List.mem_append_right _ (List.mem_append_right _ (List.mem_append_right _ (List.mem_append_right _ (List.mem_append_left _ h))))
theorem tb5 : ∀ w ∈ tables_1_5, w ∈ lw_tbl := fun w h => List.mem_append_right _ (List.mem_append_right _ (List.mem_append_right _ (List.mem_append_right _ (List.mem_append_right _ (List.mem_append_left _ h)))))
theorem tb6 : ∀ w ∈ tables_1_6, w ∈ lw_tbl := fun w h => List.mem_append_right _ (List.mem_append_right _ (List.mem_append_right _ (List.mem_append_right _ (List.mem_append_right _ (List.mem_append_right _ (List.mem_append_left _ h))))))
theorem tb7 : ∀ w ∈ tables_1_7, w ∈ lw_tbl := fun w h => List.mem_append_right _ (List.mem_append_right _ (List.mem_append_right _ (List.mem_append_right _ (List.mem_append_right _ (List.mem_append_right _ (List.mem_append_right _ (List.mem_append_left _ h)))))))
theorem tb8 : ∀ w ∈ tables_1_8, w ∈ lw_tbl := fun w h => List.mem_append_right _ (List.mem_append_right _ (List.mem_append_right _ (List.mem_append_right _ (List.mem_append_right _ (List.mem_append_right _ (List.mem_append_right _ (List.mem_append_right _ (h))))))))
theorem tbp1 : ∀ w ∈ k2_sels lw_privs_1, w ∈ lw_tbl := fun w h => List.mem_append_left _ (by
  obtain ⟨q, hq, rfl⟩ := List.mem_map.mp h
  exact List.mem_map.mpr ⟨q, (show q ∈ lw_privs from List.mem_append_left _ hq), rfl⟩)
theorem tbp2 : ∀ w ∈ k2_sels lw_privs_2, w ∈ lw_tbl := fun w h => List.mem_append_left _ (by
  obtain ⟨q, hq, rfl⟩ := List.mem_map.mp h
  exact List.mem_map.mpr ⟨q, (show q ∈ lw_privs from List.mem_append_right _ (List.mem_append_left _ hq)), rfl⟩)
theorem tbp3 : ∀ w ∈ k2_sels lw_privs_3, w ∈ lw_tbl := fun w h => List.mem_append_left _ (by
  obtain ⟨q, hq, rfl⟩ := List.mem_map.mp h
  exact List.mem_map.mpr ⟨q, (show q ∈ lw_privs from List.mem_append_right _ (List.mem_append_right _ (List.mem_append_left _ hq))), rfl⟩)
theorem tbp4 : ∀ w ∈ k2_sels lw_privs_4, w ∈ lw_tbl := fun w h => List.mem_append_left _ (by
  obtain ⟨q, hq, rfl⟩ := List.mem_map.mp h
  exact List.mem_map.mpr ⟨q, (show q ∈ lw_privs from List.mem_append_right _ (List.mem_append_right _ (List.mem_append_right _ (List.mem_append_left _ hq)))), rfl⟩)
theorem tbp5 : ∀ w ∈ k2_sels lw_privs_5, w ∈ lw_tbl := fun w h => List.mem_append_left _ (by
  obtain ⟨q, hq, rfl⟩ := List.mem_map.mp h
  exact List.mem_map.mpr ⟨q, (show q ∈ lw_privs from List.mem_append_right _ (List.mem_append_right _ (List.mem_append_right _ (List.mem_append_right _ (List.mem_append_left _ hq))))), rfl⟩)
theorem tbp6 : ∀ w ∈ k2_sels lw_privs_6, w ∈ lw_tbl := fun w h => List.mem_append_left _ (by
  obtain ⟨q, hq, rfl⟩ := List.mem_map.mp h
  exact List.mem_map.mpr ⟨q, (show q ∈ lw_privs from List.mem_append_right _ (List.mem_append_right _ (List.mem_append_right _ (List.mem_append_right _ (List.mem_append_right _ (List.mem_append_left _ hq)))))), rfl⟩)
theorem tbp7 : ∀ w ∈ k2_sels lw_privs_7, w ∈ lw_tbl := fun w h => List.mem_append_left _ (by
  obtain ⟨q, hq, rfl⟩ := List.mem_map.mp h
  exact List.mem_map.mpr ⟨q, (show q ∈ lw_privs from List.mem_append_right _ (List.mem_append_right _ (List.mem_append_right _ (List.mem_append_right _ (List.mem_append_right _ (List.mem_append_right _ (hq))))))), rfl⟩)
def mtP (e : MT) : Prop := Cond.code e.1 e.2.1 e.2.2.1 e.2.2.2.1 ∈ lw_tbl ∧ Cond.initialized e.1.cls ∈ lw_tbl ∧ plainName e.1.cls = true ∧ e.1.cls ≠ "java/lang/invoke/MethodHandle" ∧ e.1.cls ≠ "java/lang/invoke/VarHandle" ∧ e.1.cls = oS e.2.2.2.2.2.2
theorem cn_BitmapVolume : plainName "BitmapVolume" = true ∧ "BitmapVolume" ≠ "java/lang/invoke/MethodHandle" ∧ "BitmapVolume" ≠ "java/lang/invoke/VarHandle" := by decide +kernel
theorem cn_BitmapVolume_Acts : plainName "BitmapVolume$Acts" = true ∧ "BitmapVolume$Acts" ≠ "java/lang/invoke/MethodHandle" ∧ "BitmapVolume$Acts" ≠ "java/lang/invoke/VarHandle" := by decide +kernel
theorem cn_BitmapVolume_Boot : plainName "BitmapVolume$Boot" = true ∧ "BitmapVolume$Boot" ≠ "java/lang/invoke/MethodHandle" ∧ "BitmapVolume$Boot" ≠ "java/lang/invoke/VarHandle" := by decide +kernel
theorem cn_BitmapVolume_Cases : plainName "BitmapVolume$Cases" = true ∧ "BitmapVolume$Cases" ≠ "java/lang/invoke/MethodHandle" ∧ "BitmapVolume$Cases" ≠ "java/lang/invoke/VarHandle" := by decide +kernel
theorem cn_BitmapVolume_Chain : plainName "BitmapVolume$Chain" = true ∧ "BitmapVolume$Chain" ≠ "java/lang/invoke/MethodHandle" ∧ "BitmapVolume$Chain" ≠ "java/lang/invoke/VarHandle" := by decide +kernel
theorem cn_BitmapVolume_Check : plainName "BitmapVolume$Check" = true ∧ "BitmapVolume$Check" ≠ "java/lang/invoke/MethodHandle" ∧ "BitmapVolume$Check" ≠ "java/lang/invoke/VarHandle" := by decide +kernel
theorem cn_BitmapVolume_Disk : plainName "BitmapVolume$Disk" = true ∧ "BitmapVolume$Disk" ≠ "java/lang/invoke/MethodHandle" ∧ "BitmapVolume$Disk" ≠ "java/lang/invoke/VarHandle" := by decide +kernel
theorem cn_BitmapVolume_Growth : plainName "BitmapVolume$Growth" = true ∧ "BitmapVolume$Growth" ≠ "java/lang/invoke/MethodHandle" ∧ "BitmapVolume$Growth" ≠ "java/lang/invoke/VarHandle" := by decide +kernel
theorem cn_BitmapVolume_Name : plainName "BitmapVolume$Name" = true ∧ "BitmapVolume$Name" ≠ "java/lang/invoke/MethodHandle" ∧ "BitmapVolume$Name" ≠ "java/lang/invoke/VarHandle" := by decide +kernel
theorem cn_BitmapVolume_Sets : plainName "BitmapVolume$Sets" = true ∧ "BitmapVolume$Sets" ≠ "java/lang/invoke/MethodHandle" ∧ "BitmapVolume$Sets" ≠ "java/lang/invoke/VarHandle" := by decide +kernel
theorem cn_BitmapVolume_Space : plainName "BitmapVolume$Space" = true ∧ "BitmapVolume$Space" ≠ "java/lang/invoke/MethodHandle" ∧ "BitmapVolume$Space" ≠ "java/lang/invoke/VarHandle" := by decide +kernel
theorem cn_BitmapVolume_Tree : plainName "BitmapVolume$Tree" = true ∧ "BitmapVolume$Tree" ≠ "java/lang/invoke/MethodHandle" ∧ "BitmapVolume$Tree" ≠ "java/lang/invoke/VarHandle" := by decide +kernel
theorem cn_BitmapVolumeModel : plainName "BitmapVolumeModel" = true ∧ "BitmapVolumeModel" ≠ "java/lang/invoke/MethodHandle" ∧ "BitmapVolumeModel" ≠ "java/lang/invoke/VarHandle" := by decide +kernel
theorem cn_java_util_Arrays : plainName "java/util/Arrays" = true ∧ "java/util/Arrays" ≠ "java/lang/invoke/MethodHandle" ∧ "java/util/Arrays" ≠ "java/lang/invoke/VarHandle" := by decide +kernel
def mt_0 : List MT := [(yX0_create, cX0_create, 5, some .int, 6, 138, 0), (yX0_rename, cX0_rename, 6, some .int, 6, 135, 0), (yX0_planRow, cX0_planRow, 3, some .boolean, 5, 109, 0), (yX0_freeRow, cX0_freeRow, 6, some .int, 2, 42, 0), (yX0_openRow, cX0_openRow, 5, some .boolean, 5, 111, 0), (yX0_growDirectory, cX0_growDirectory, 3, none, 4, 88, 0), (yX0_fill, cX0_fill, 9, some .int, 5, 115, 0), (yX0_shorten, cX0_shorten, 6, some .int, 5, 115, 0), (yX0_remove, cX0_remove, 3, some .int, 5, 116, 0), (yX0_protect, cX0_protect, 5, some .int, 5, 110, 0), (yX0_openFile, cX0_openFile, 2, none, 4, 91, 0), (yX0_relay, cX0_relay, 6, some .boolean, 4, 90, 0), (yX0_soil, cX0_soil, 1, some .boolean, 4, 90, 0), (yX1_draw, cX1_draw, 8, none, 1, 23, 1), (yX1_draw4, cX1_draw4, 4, none, 0, 0, 1), (yX1_sumOfThree, cX1_sumOfThree, 3, some .int, 0, 0, 1), (yX1_lay, cX1_lay, 3, none, 1, 22, 1), (yX1_isRight, cX1_isRight, 7, some .boolean, 2, 50, 1), (yX2_learn, cX2_learn, 6, some .boolean, 1, 21, 2), (yX2_greatOf, cX2_greatOf, 2, some .int, 0, 0, 2)]
set_option maxRecDepth 100000 in
theorem mt_ok_0 : ∀ e ∈ mt_0, mtP e := List.forall_mem_cons.mpr ⟨⟨(tb4 _ (List.mem_of_getElem? (i := 134) rfl)), (tb1 _ (List.mem_of_getElem? (i := 11) rfl)), cn_BitmapVolume_Acts.1, cn_BitmapVolume_Acts.2.1, cn_BitmapVolume_Acts.2.2, rfl⟩, List.forall_mem_cons.mpr ⟨⟨(tb5 _ (List.mem_of_getElem? (i := 77) rfl)), (tb1 _ (List.mem_of_getElem? (i := 11) rfl)), cn_BitmapVolume_Acts.1, cn_BitmapVolume_Acts.2.1, cn_BitmapVolume_Acts.2.2, rfl⟩, List.forall_mem_cons.mpr ⟨⟨(tb4 _ (List.mem_of_getElem? (i := 153) rfl)), (tb1 _ (List.mem_of_getElem? (i := 11) rfl)), cn_BitmapVolume_Acts.1, cn_BitmapVolume_Acts.2.1, cn_BitmapVolume_Acts.2.2, rfl⟩, List.forall_mem_cons.mpr ⟨⟨(tb4 _ (List.mem_of_getElem? (i := 165) rfl)), (tb1 _ (List.mem_of_getElem? (i := 11) rfl)), cn_BitmapVolume_Acts.1, cn_BitmapVolume_Acts.2.1, cn_BitmapVolume_Acts.2.2, rfl⟩, List.forall_mem_cons.mpr ⟨⟨(tb4 _ (List.mem_of_getElem? (i := 184) rfl)), (tb1 _ (List.mem_of_getElem? (i := 11) rfl)), cn_BitmapVolume_Acts.1, cn_BitmapVolume_Acts.2.1, cn_BitmapVolume_Acts.2.2, rfl⟩, List.forall_mem_cons.mpr ⟨⟨(tb4 _ (List.mem_of_getElem? (i := 216) rfl)), (tb1 _ (List.mem_of_getElem? (i := 11) rfl)), cn_BitmapVolume_Acts.1, cn_BitmapVolume_Acts.2.1, cn_BitmapVolume_Acts.2.2, rfl⟩, List.forall_mem_cons.mpr ⟨⟨(tb5 _ (List.mem_of_getElem? (i := 28) rfl)), (tb1 _ (List.mem_of_getElem? (i := 11) rfl)), cn_BitmapVolume_Acts.1, cn_BitmapVolume_Acts.2.1, cn_BitmapVolume_Acts.2.2, rfl⟩, List.forall_mem_cons.mpr ⟨⟨(tb5 _ (List.mem_of_getElem? (i := 53) rfl)), (tb1 _ (List.mem_of_getElem? (i := 11) rfl)), cn_BitmapVolume_Acts.1, cn_BitmapVolume_Acts.2.1, cn_BitmapVolume_Acts.2.2, rfl⟩, List.forall_mem_cons.mpr ⟨⟨(tb5 _ (List.mem_of_getElem? (i := 65) rfl)), (tb1 _ (List.mem_of_getElem? (i := 11) rfl)), cn_BitmapVolume_Acts.1, cn_BitmapVolume_Acts.2.1, cn_BitmapVolume_Acts.2.2, rfl⟩, List.forall_mem_cons.mpr ⟨⟨(tb5 _ (List.mem_of_getElem? (i := 98) rfl)), (tb1 _ (List.mem_of_getElem? (i := 11) rfl)), cn_BitmapVolume_Acts.1, cn_BitmapVolume_Acts.2.1, cn_BitmapVolume_Acts.2.2, rfl⟩, List.forall_mem_cons.mpr ⟨⟨(tb5 _ (List.mem_of_getElem? (i := 41) rfl)), (tb1 _ (List.mem_of_getElem? (i := 11) rfl)), cn_BitmapVolume_Acts.1, cn_BitmapVolume_Acts.2.1, cn_BitmapVolume_Acts.2.2, rfl⟩, List.forall_mem_cons.mpr ⟨⟨(tb5 _ (List.mem_of_getElem? (i := 45) rfl)), (tb1 _ (List.mem_of_getElem? (i := 11) rfl)), cn_BitmapVolume_Acts.1, cn_BitmapVolume_Acts.2.1, cn_BitmapVolume_Acts.2.2, rfl⟩, List.forall_mem_cons.mpr ⟨⟨(tb4 _ (List.mem_of_getElem? (i := 188) rfl)), (tb1 _ (List.mem_of_getElem? (i := 11) rfl)), cn_BitmapVolume_Acts.1, cn_BitmapVolume_Acts.2.1, cn_BitmapVolume_Acts.2.2, rfl⟩, List.forall_mem_cons.mpr ⟨⟨(tb2 _ (List.mem_of_getElem? (i := 120) rfl)), (tb1 _ (List.mem_of_getElem? (i := 3) rfl)), cn_BitmapVolume_Boot.1, cn_BitmapVolume_Boot.2.1, cn_BitmapVolume_Boot.2.2, rfl⟩, List.forall_mem_cons.mpr ⟨⟨(tb2 _ (List.mem_of_getElem? (i := 126) rfl)), (tb1 _ (List.mem_of_getElem? (i := 3) rfl)), cn_BitmapVolume_Boot.1, cn_BitmapVolume_Boot.2.1, cn_BitmapVolume_Boot.2.2, rfl⟩, List.forall_mem_cons.mpr ⟨⟨(tb2 _ (List.mem_of_getElem? (i := 132) rfl)), (tb1 _ (List.mem_of_getElem? (i := 3) rfl)), cn_BitmapVolume_Boot.1, cn_BitmapVolume_Boot.2.1, cn_BitmapVolume_Boot.2.2, rfl⟩, List.forall_mem_cons.mpr ⟨⟨(tb2 _ (List.mem_of_getElem? (i := 136) rfl)), (tb1 _ (List.mem_of_getElem? (i := 3) rfl)), cn_BitmapVolume_Boot.1, cn_BitmapVolume_Boot.2.1, cn_BitmapVolume_Boot.2.2, rfl⟩, List.forall_mem_cons.mpr ⟨⟨(tb2 _ (List.mem_of_getElem? (i := 205) rfl)), (tb1 _ (List.mem_of_getElem? (i := 3) rfl)), cn_BitmapVolume_Boot.1, cn_BitmapVolume_Boot.2.1, cn_BitmapVolume_Boot.2.2, rfl⟩, List.forall_mem_cons.mpr ⟨⟨(tb3 _ (List.mem_of_getElem? (i := 25) rfl)), (tb1 _ (List.mem_of_getElem? (i := 5) rfl)), cn_BitmapVolume_Cases.1, cn_BitmapVolume_Cases.2.1, cn_BitmapVolume_Cases.2.2, rfl⟩, List.forall_mem_cons.mpr ⟨⟨(tb3 _ (List.mem_of_getElem? (i := 30) rfl)), (tb1 _ (List.mem_of_getElem? (i := 5) rfl)), cn_BitmapVolume_Cases.1, cn_BitmapVolume_Cases.2.1, cn_BitmapVolume_Cases.2.2, rfl⟩, (fun _ h => absurd h List.not_mem_nil)⟩⟩⟩⟩⟩⟩⟩⟩⟩⟩⟩⟩⟩⟩⟩⟩⟩⟩⟩⟩
def mt_1 : List MT := [(yX2_hash, cX2_hash, 5, some .int, 1, 21, 2), (yX2_sum, cX2_sum, 5, some .int, 1, 21, 2), (yX2_layUsual, cX2_layUsual, 3, some .int, 3, 68, 2), (yX2_layOwn, cX2_layOwn, 3, some .int, 2, 44, 2), (yX2_layGreat, cX2_layGreat, 5, some .int, 2, 44, 2), (yX3_add, cX3_add, 2, none, 0, 0, 3), (yX3_at, cX3_at, 2, some .int, 0, 0, 3), (yX3_last, cX3_last, 1, some .int, 1, 21, 3), (yX3_trace, cX3_trace, 7, some .int, 2, 42, 3), (yX3_traceToEnd, cX3_traceToEnd, 5, none, 2, 42, 3), (yX3_hasTwice, cX3_hasTwice, 3, some .boolean, 1, 21, 3), (yX3_places, cX3_places, 1, some .int, 0, 0, 3), (yX3_entry, cX3_entry, 2, some .int, 1, 21, 3), (yX4_found, cX4_found, 4, some .int, 0, 0, 4), (yX4_askBase, cX4_askBase, 4, some .int, 4, 86, 4), (yX4_meetRoot, cX4_meetRoot, 4, some .int, 2, 42, 4), (yX4_meet, cX4_meet, 2, none, 0, 0, 4), (yX4_isMet, cX4_isMet, 2, some .boolean, 0, 0, 4), (yX4_meetSingle, cX4_meetSingle, 2, some .boolean, 2, 42, 4), (yX4_meetBitmap, cX4_meetBitmap, 2, some .boolean, 3, 63, 4)]
set_option maxRecDepth 100000 in
theorem mt_ok_1 : ∀ e ∈ mt_1, mtP e := List.forall_mem_cons.mpr ⟨⟨(tb3 _ (List.mem_of_getElem? (i := 165) rfl)), (tb1 _ (List.mem_of_getElem? (i := 5) rfl)), cn_BitmapVolume_Cases.1, cn_BitmapVolume_Cases.2.1, cn_BitmapVolume_Cases.2.2, rfl⟩, List.forall_mem_cons.mpr ⟨⟨(tb2 _ (List.mem_of_getElem? (i := 166) rfl)), (tb1 _ (List.mem_of_getElem? (i := 5) rfl)), cn_BitmapVolume_Cases.1, cn_BitmapVolume_Cases.2.1, cn_BitmapVolume_Cases.2.2, rfl⟩, List.forall_mem_cons.mpr ⟨⟨(tb2 _ (List.mem_of_getElem? (i := 152) rfl)), (tb1 _ (List.mem_of_getElem? (i := 5) rfl)), cn_BitmapVolume_Cases.1, cn_BitmapVolume_Cases.2.1, cn_BitmapVolume_Cases.2.2, rfl⟩, List.forall_mem_cons.mpr ⟨⟨(tb2 _ (List.mem_of_getElem? (i := 155) rfl)), (tb1 _ (List.mem_of_getElem? (i := 5) rfl)), cn_BitmapVolume_Cases.1, cn_BitmapVolume_Cases.2.1, cn_BitmapVolume_Cases.2.2, rfl⟩, List.forall_mem_cons.mpr ⟨⟨(tb2 _ (List.mem_of_getElem? (i := 163) rfl)), (tb1 _ (List.mem_of_getElem? (i := 5) rfl)), cn_BitmapVolume_Cases.1, cn_BitmapVolume_Cases.2.1, cn_BitmapVolume_Cases.2.2, rfl⟩, List.forall_mem_cons.mpr ⟨⟨(tb3 _ (List.mem_of_getElem? (i := 54) rfl)), (tb1 _ (List.mem_of_getElem? (i := 8) rfl)), cn_BitmapVolume_Chain.1, cn_BitmapVolume_Chain.2.1, cn_BitmapVolume_Chain.2.2, rfl⟩, List.forall_mem_cons.mpr ⟨⟨(tb3 _ (List.mem_of_getElem? (i := 90) rfl)), (tb1 _ (List.mem_of_getElem? (i := 8) rfl)), cn_BitmapVolume_Chain.1, cn_BitmapVolume_Chain.2.1, cn_BitmapVolume_Chain.2.2, rfl⟩, List.forall_mem_cons.mpr ⟨⟨(tb3 _ (List.mem_of_getElem? (i := 219) rfl)), (tb1 _ (List.mem_of_getElem? (i := 8) rfl)), cn_BitmapVolume_Chain.1, cn_BitmapVolume_Chain.2.1, cn_BitmapVolume_Chain.2.2, rfl⟩, List.forall_mem_cons.mpr ⟨⟨(tb3 _ (List.mem_of_getElem? (i := 77) rfl)), (tb1 _ (List.mem_of_getElem? (i := 8) rfl)), cn_BitmapVolume_Chain.1, cn_BitmapVolume_Chain.2.1, cn_BitmapVolume_Chain.2.2, rfl⟩, List.forall_mem_cons.mpr ⟨⟨(tb3 _ (List.mem_of_getElem? (i := 49) rfl)), (tb1 _ (List.mem_of_getElem? (i := 8) rfl)), cn_BitmapVolume_Chain.1, cn_BitmapVolume_Chain.2.1, cn_BitmapVolume_Chain.2.2, rfl⟩, List.forall_mem_cons.mpr ⟨⟨(tb3 _ (List.mem_of_getElem? (i := 200) rfl)), (tb1 _ (List.mem_of_getElem? (i := 8) rfl)), cn_BitmapVolume_Chain.1, cn_BitmapVolume_Chain.2.1, cn_BitmapVolume_Chain.2.2, rfl⟩, List.forall_mem_cons.mpr ⟨⟨(tb3 _ (List.mem_of_getElem? (i := 81) rfl)), (tb1 _ (List.mem_of_getElem? (i := 8) rfl)), cn_BitmapVolume_Chain.1, cn_BitmapVolume_Chain.2.1, cn_BitmapVolume_Chain.2.2, rfl⟩, List.forall_mem_cons.mpr ⟨⟨(tb3 _ (List.mem_of_getElem? (i := 85) rfl)), (tb1 _ (List.mem_of_getElem? (i := 8) rfl)), cn_BitmapVolume_Chain.1, cn_BitmapVolume_Chain.2.1, cn_BitmapVolume_Chain.2.2, rfl⟩, List.forall_mem_cons.mpr ⟨⟨(tb2 _ (List.mem_of_getElem? (i := 219) rfl)), (tb1 _ (List.mem_of_getElem? (i := 9) rfl)), cn_BitmapVolume_Check.1, cn_BitmapVolume_Check.2.1, cn_BitmapVolume_Check.2.2, rfl⟩, List.forall_mem_cons.mpr ⟨⟨(tb2 _ (List.mem_of_getElem? (i := 201) rfl)), (tb1 _ (List.mem_of_getElem? (i := 9) rfl)), cn_BitmapVolume_Check.1, cn_BitmapVolume_Check.2.1, cn_BitmapVolume_Check.2.2, rfl⟩, List.forall_mem_cons.mpr ⟨⟨(tb2 _ (List.mem_of_getElem? (i := 229) rfl)), (tb1 _ (List.mem_of_getElem? (i := 9) rfl)), cn_BitmapVolume_Check.1, cn_BitmapVolume_Check.2.1, cn_BitmapVolume_Check.2.2, rfl⟩, List.forall_mem_cons.mpr ⟨⟨(tb2 _ (List.mem_of_getElem? (i := 233) rfl)), (tb1 _ (List.mem_of_getElem? (i := 9) rfl)), cn_BitmapVolume_Check.1, cn_BitmapVolume_Check.2.1, cn_BitmapVolume_Check.2.2, rfl⟩, List.forall_mem_cons.mpr ⟨⟨(tb3 _ (List.mem_of_getElem? (i := 1) rfl)), (tb1 _ (List.mem_of_getElem? (i := 9) rfl)), cn_BitmapVolume_Check.1, cn_BitmapVolume_Check.2.1, cn_BitmapVolume_Check.2.2, rfl⟩, List.forall_mem_cons.mpr ⟨⟨(tb3 _ (List.mem_of_getElem? (i := 16) rfl)), (tb1 _ (List.mem_of_getElem? (i := 9) rfl)), cn_BitmapVolume_Check.1, cn_BitmapVolume_Check.2.1, cn_BitmapVolume_Check.2.2, rfl⟩, List.forall_mem_cons.mpr ⟨⟨(tb3 _ (List.mem_of_getElem? (i := 6) rfl)), (tb1 _ (List.mem_of_getElem? (i := 9) rfl)), cn_BitmapVolume_Check.1, cn_BitmapVolume_Check.2.1, cn_BitmapVolume_Check.2.2, rfl⟩, (fun _ h => absurd h List.not_mem_nil)⟩⟩⟩⟩⟩⟩⟩⟩⟩⟩⟩⟩⟩⟩⟩⟩⟩⟩⟩⟩
def mt_2 : List MT := [(yX4_meetCases, cX4_meetCases, 4, some .boolean, 3, 63, 4), (yX4_askBitmap, cX4_askBitmap, 1, some .int, 3, 66, 4), (yX4_mendBoot, cX4_mendBoot, 2, some .boolean, 4, 90, 4), (yX4_mendRest, cX4_mendRest, 1, some .boolean, 4, 90, 4), (yX4_askTree, cX4_askTree, 3, some .int, 6, 148, 4), (yX4_askDirectory, cX4_askDirectory, 6, some .boolean, 5, 123, 4), (yX4_strike, cX4_strike, 3, some .boolean, 1, 23, 4), (yX4_meetSet, cX4_meetSet, 8, some .int, 4, 96, 4), (yX4_faultOf, cX4_faultOf, 4, some .int, 3, 68, 4), (yX4_hasLikeBefore, cX4_hasLikeBefore, 4, some .boolean, 2, 45, 4), (yX4_bitmapOctet, cX4_bitmapOctet, 5, some .int, 1, 21, 4), (yX4_isRightBitmap, cX4_isRightBitmap, 2, some .boolean, 2, 45, 4), (yX4_layBitmap, cX4_layBitmap, 2, none, 2, 45, 4), (yX5_isOctet, cX5_isOctet, 2, some .boolean, 0, 0, 5), (yX5_get, cX5_get, 2, some .int, 0, 0, 5), (yX5_get2, cX5_get2, 2, some .int, 0, 0, 5), (yX5_get4, cX5_get4, 2, some .int, 0, 0, 5), (yX5_put, cX5_put, 3, none, 0, 0, 5), (yX5_put2, cX5_put2, 3, none, 1, 22, 5), (yX5_put4, cX5_put4, 4, none, 1, 22, 5)]
set_option maxRecDepth 100000 in
theorem mt_ok_2 : ∀ e ∈ mt_2, mtP e := List.forall_mem_cons.mpr ⟨⟨(tb3 _ (List.mem_of_getElem? (i := 20) rfl)), (tb1 _ (List.mem_of_getElem? (i := 9) rfl)), cn_BitmapVolume_Check.1, cn_BitmapVolume_Check.2.1, cn_BitmapVolume_Check.2.2, rfl⟩, List.forall_mem_cons.mpr ⟨⟨(tb3 _ (List.mem_of_getElem? (i := 233) rfl)), (tb1 _ (List.mem_of_getElem? (i := 9) rfl)), cn_BitmapVolume_Check.1, cn_BitmapVolume_Check.2.1, cn_BitmapVolume_Check.2.2, rfl⟩, List.forall_mem_cons.mpr ⟨⟨(tb4 _ (List.mem_of_getElem? (i := 61) rfl)), (tb1 _ (List.mem_of_getElem? (i := 9) rfl)), cn_BitmapVolume_Check.1, cn_BitmapVolume_Check.2.1, cn_BitmapVolume_Check.2.2, rfl⟩, List.forall_mem_cons.mpr ⟨⟨(tb4 _ (List.mem_of_getElem? (i := 66) rfl)), (tb1 _ (List.mem_of_getElem? (i := 9) rfl)), cn_BitmapVolume_Check.1, cn_BitmapVolume_Check.2.1, cn_BitmapVolume_Check.2.2, rfl⟩, List.forall_mem_cons.mpr ⟨⟨(tb3 _ (List.mem_of_getElem? (i := 34) rfl)), (tb1 _ (List.mem_of_getElem? (i := 9) rfl)), cn_BitmapVolume_Check.1, cn_BitmapVolume_Check.2.1, cn_BitmapVolume_Check.2.2, rfl⟩, List.forall_mem_cons.mpr ⟨⟨(tb3 _ (List.mem_of_getElem? (i := 38) rfl)), (tb1 _ (List.mem_of_getElem? (i := 9) rfl)), cn_BitmapVolume_Check.1, cn_BitmapVolume_Check.2.1, cn_BitmapVolume_Check.2.2, rfl⟩, List.forall_mem_cons.mpr ⟨⟨(tb3 _ (List.mem_of_getElem? (i := 95) rfl)), (tb1 _ (List.mem_of_getElem? (i := 9) rfl)), cn_BitmapVolume_Check.1, cn_BitmapVolume_Check.2.1, cn_BitmapVolume_Check.2.2, rfl⟩, List.forall_mem_cons.mpr ⟨⟨(tb3 _ (List.mem_of_getElem? (i := 101) rfl)), (tb1 _ (List.mem_of_getElem? (i := 9) rfl)), cn_BitmapVolume_Check.1, cn_BitmapVolume_Check.2.1, cn_BitmapVolume_Check.2.2, rfl⟩, List.forall_mem_cons.mpr ⟨⟨(tb3 _ (List.mem_of_getElem? (i := 196) rfl)), (tb1 _ (List.mem_of_getElem? (i := 9) rfl)), cn_BitmapVolume_Check.1, cn_BitmapVolume_Check.2.1, cn_BitmapVolume_Check.2.2, rfl⟩, List.forall_mem_cons.mpr ⟨⟨(tb3 _ (List.mem_of_getElem? (i := 204) rfl)), (tb1 _ (List.mem_of_getElem? (i := 9) rfl)), cn_BitmapVolume_Check.1, cn_BitmapVolume_Check.2.1, cn_BitmapVolume_Check.2.2, rfl⟩, List.forall_mem_cons.mpr ⟨⟨(tb4 _ (List.mem_of_getElem? (i := 1) rfl)), (tb1 _ (List.mem_of_getElem? (i := 9) rfl)), cn_BitmapVolume_Check.1, cn_BitmapVolume_Check.2.1, cn_BitmapVolume_Check.2.2, rfl⟩, List.forall_mem_cons.mpr ⟨⟨(tb3 _ (List.mem_of_getElem? (i := 237) rfl)), (tb1 _ (List.mem_of_getElem? (i := 9) rfl)), cn_BitmapVolume_Check.1, cn_BitmapVolume_Check.2.1, cn_BitmapVolume_Check.2.2, rfl⟩, List.forall_mem_cons.mpr ⟨⟨(tb4 _ (List.mem_of_getElem? (i := 71) rfl)), (tb1 _ (List.mem_of_getElem? (i := 9) rfl)), cn_BitmapVolume_Check.1, cn_BitmapVolume_Check.2.1, cn_BitmapVolume_Check.2.2, rfl⟩, List.forall_mem_cons.mpr ⟨⟨(tb2 _ (List.mem_of_getElem? (i := 184) rfl)), (tb1 _ (List.mem_of_getElem? (i := 2) rfl)), cn_BitmapVolume_Disk.1, cn_BitmapVolume_Disk.2.1, cn_BitmapVolume_Disk.2.2, rfl⟩, List.forall_mem_cons.mpr ⟨⟨(tb2 _ (List.mem_of_getElem? (i := 170) rfl)), (tb1 _ (List.mem_of_getElem? (i := 2) rfl)), cn_BitmapVolume_Disk.1, cn_BitmapVolume_Disk.2.1, cn_BitmapVolume_Disk.2.2, rfl⟩, List.forall_mem_cons.mpr ⟨⟨(tb2 _ (List.mem_of_getElem? (i := 213) rfl)), (tb1 _ (List.mem_of_getElem? (i := 2) rfl)), cn_BitmapVolume_Disk.1, cn_BitmapVolume_Disk.2.1, cn_BitmapVolume_Disk.2.2, rfl⟩, List.forall_mem_cons.mpr ⟨⟨(tb2 _ (List.mem_of_getElem? (i := 209) rfl)), (tb1 _ (List.mem_of_getElem? (i := 2) rfl)), cn_BitmapVolume_Disk.1, cn_BitmapVolume_Disk.2.1, cn_BitmapVolume_Disk.2.2, rfl⟩, List.forall_mem_cons.mpr ⟨⟨(tb2 _ (List.mem_of_getElem? (i := 140) rfl)), (tb1 _ (List.mem_of_getElem? (i := 2) rfl)), cn_BitmapVolume_Disk.1, cn_BitmapVolume_Disk.2.1, cn_BitmapVolume_Disk.2.2, rfl⟩, List.forall_mem_cons.mpr ⟨⟨(tb2 _ (List.mem_of_getElem? (i := 160) rfl)), (tb1 _ (List.mem_of_getElem? (i := 2) rfl)), cn_BitmapVolume_Disk.1, cn_BitmapVolume_Disk.2.1, cn_BitmapVolume_Disk.2.2, rfl⟩, List.forall_mem_cons.mpr ⟨⟨(tb2 _ (List.mem_of_getElem? (i := 144) rfl)), (tb1 _ (List.mem_of_getElem? (i := 2) rfl)), cn_BitmapVolume_Disk.1, cn_BitmapVolume_Disk.2.1, cn_BitmapVolume_Disk.2.2, rfl⟩, (fun _ h => absurd h List.not_mem_nil)⟩⟩⟩⟩⟩⟩⟩⟩⟩⟩⟩⟩⟩⟩⟩⟩⟩⟩⟩⟩
def mt_3 : List MT := [(yX5_blank, cX5_blank, 4, none, 1, 22, 5), (yX5_isBlank, cX5_isBlank, 4, some .boolean, 1, 21, 5), (yX5_wipe, cX5_wipe, 2, none, 1, 23, 5), (yX5_settle, cX5_settle, 2, none, 1, 26, 5), (yX5_flush, cX5_flush, 1, some .boolean, 3, 70, 5), (yX5_flush_, cX5_flush_, 4, some .boolean, 2, 47, 5), (yX5_differs, cX5_differs, 3, some .boolean, 0, 0, 5), (yX5_forget, cX5_forget, 2, none, 1, 26, 5), (yX6_begin, cX6_begin, 2, none, 0, 0, 6), (yX6_choose, cX6_choose, 4, some .boolean, 4, 86, 6), (yX6_at, cX6_at, 2, some .int, 1, 21, 6), (yX6_take, cX6_take, 2, some .boolean, 4, 90, 6), (yX6_layFat, cX6_layFat, 2, none, 3, 67, 6), (yX6_free, cX6_free, 3, some .boolean, 4, 90, 6), (yX7_at, cX7_at, 2, some .int, 0, 0, 7), (yX7_append, cX7_append, 5, some .boolean, 1, 21, 7), (yX7_add, cX7_add, 2, none, 0, 0, 7), (yX7_isRight, cX7_isRight, 2, some .boolean, 1, 21, 7), (yX7_isLetter, cX7_isLetter, 1, some .boolean, 0, 0, 7), (yX7_entriesOf, cX7_entriesOf, 1, some .int, 0, 0, 7)]
set_option maxRecDepth 100000 in
theorem mt_ok_3 : ∀ e ∈ mt_3, mtP e := List.forall_mem_cons.mpr ⟨⟨(tb4 _ (List.mem_of_getElem? (i := 195) rfl)), (tb1 _ (List.mem_of_getElem? (i := 2) rfl)), cn_BitmapVolume_Disk.1, cn_BitmapVolume_Disk.2.1, cn_BitmapVolume_Disk.2.2, rfl⟩, List.forall_mem_cons.mpr ⟨⟨(tb3 _ (List.mem_of_getElem? (i := 11) rfl)), (tb1 _ (List.mem_of_getElem? (i := 2) rfl)), cn_BitmapVolume_Disk.1, cn_BitmapVolume_Disk.2.1, cn_BitmapVolume_Disk.2.2, rfl⟩, List.forall_mem_cons.mpr ⟨⟨(tb2 _ (List.mem_of_getElem? (i := 113) rfl)), (tb1 _ (List.mem_of_getElem? (i := 2) rfl)), cn_BitmapVolume_Disk.1, cn_BitmapVolume_Disk.2.1, cn_BitmapVolume_Disk.2.2, rfl⟩, List.forall_mem_cons.mpr ⟨⟨(tb2 _ (List.mem_of_getElem? (i := 174) rfl)), (tb1 _ (List.mem_of_getElem? (i := 2) rfl)), cn_BitmapVolume_Disk.1, cn_BitmapVolume_Disk.2.1, cn_BitmapVolume_Disk.2.2, rfl⟩, List.forall_mem_cons.mpr ⟨⟨(tb4 _ (List.mem_of_getElem? (i := 40) rfl)), (tb1 _ (List.mem_of_getElem? (i := 2) rfl)), cn_BitmapVolume_Disk.1, cn_BitmapVolume_Disk.2.1, cn_BitmapVolume_Disk.2.2, rfl⟩, List.forall_mem_cons.mpr ⟨⟨(tb4 _ (List.mem_of_getElem? (i := 44) rfl)), (tb1 _ (List.mem_of_getElem? (i := 2) rfl)), cn_BitmapVolume_Disk.1, cn_BitmapVolume_Disk.2.1, cn_BitmapVolume_Disk.2.2, rfl⟩, List.forall_mem_cons.mpr ⟨⟨(tb4 _ (List.mem_of_getElem? (i := 49) rfl)), (tb1 _ (List.mem_of_getElem? (i := 2) rfl)), cn_BitmapVolume_Disk.1, cn_BitmapVolume_Disk.2.1, cn_BitmapVolume_Disk.2.2, rfl⟩, List.forall_mem_cons.mpr ⟨⟨(tb4 _ (List.mem_of_getElem? (i := 53) rfl)), (tb1 _ (List.mem_of_getElem? (i := 2) rfl)), cn_BitmapVolume_Disk.1, cn_BitmapVolume_Disk.2.1, cn_BitmapVolume_Disk.2.2, rfl⟩, List.forall_mem_cons.mpr ⟨⟨(tb4 _ (List.mem_of_getElem? (i := 160) rfl)), (tb1 _ (List.mem_of_getElem? (i := 12) rfl)), cn_BitmapVolume_Growth.1, cn_BitmapVolume_Growth.2.1, cn_BitmapVolume_Growth.2.2, rfl⟩, List.forall_mem_cons.mpr ⟨⟨(tb4 _ (List.mem_of_getElem? (i := 172) rfl)), (tb1 _ (List.mem_of_getElem? (i := 12) rfl)), cn_BitmapVolume_Growth.1, cn_BitmapVolume_Growth.2.1, cn_BitmapVolume_Growth.2.2, rfl⟩, List.forall_mem_cons.mpr ⟨⟨(tb4 _ (List.mem_of_getElem? (i := 220) rfl)), (tb1 _ (List.mem_of_getElem? (i := 12) rfl)), cn_BitmapVolume_Growth.1, cn_BitmapVolume_Growth.2.1, cn_BitmapVolume_Growth.2.2, rfl⟩, List.forall_mem_cons.mpr ⟨⟨(tb4 _ (List.mem_of_getElem? (i := 200) rfl)), (tb1 _ (List.mem_of_getElem? (i := 12) rfl)), cn_BitmapVolume_Growth.1, cn_BitmapVolume_Growth.2.1, cn_BitmapVolume_Growth.2.2, rfl⟩, List.forall_mem_cons.mpr ⟨⟨(tb4 _ (List.mem_of_getElem? (i := 204) rfl)), (tb1 _ (List.mem_of_getElem? (i := 12) rfl)), cn_BitmapVolume_Growth.1, cn_BitmapVolume_Growth.2.1, cn_BitmapVolume_Growth.2.2, rfl⟩, List.forall_mem_cons.mpr ⟨⟨(tb5 _ (List.mem_of_getElem? (i := 57) rfl)), (tb1 _ (List.mem_of_getElem? (i := 12) rfl)), cn_BitmapVolume_Growth.1, cn_BitmapVolume_Growth.2.1, cn_BitmapVolume_Growth.2.2, rfl⟩, List.forall_mem_cons.mpr ⟨⟨(tb3 _ (List.mem_of_getElem? (i := 158) rfl)), (tb1 _ (List.mem_of_getElem? (i := 10) rfl)), cn_BitmapVolume_Name.1, cn_BitmapVolume_Name.2.1, cn_BitmapVolume_Name.2.2, rfl⟩, List.forall_mem_cons.mpr ⟨⟨(tb4 _ (List.mem_of_getElem? (i := 79) rfl)), (tb1 _ (List.mem_of_getElem? (i := 10) rfl)), cn_BitmapVolume_Name.1, cn_BitmapVolume_Name.2.1, cn_BitmapVolume_Name.2.2, rfl⟩, List.forall_mem_cons.mpr ⟨⟨(tb4 _ (List.mem_of_getElem? (i := 84) rfl)), (tb1 _ (List.mem_of_getElem? (i := 10) rfl)), cn_BitmapVolume_Name.1, cn_BitmapVolume_Name.2.1, cn_BitmapVolume_Name.2.2, rfl⟩, List.forall_mem_cons.mpr ⟨⟨(tb3 _ (List.mem_of_getElem? (i := 154) rfl)), (tb1 _ (List.mem_of_getElem? (i := 10) rfl)), cn_BitmapVolume_Name.1, cn_BitmapVolume_Name.2.1, cn_BitmapVolume_Name.2.2, rfl⟩, List.forall_mem_cons.mpr ⟨⟨(tb3 _ (List.mem_of_getElem? (i := 161) rfl)), (tb1 _ (List.mem_of_getElem? (i := 10) rfl)), cn_BitmapVolume_Name.1, cn_BitmapVolume_Name.2.1, cn_BitmapVolume_Name.2.2, rfl⟩, List.forall_mem_cons.mpr ⟨⟨(tb3 _ (List.mem_of_getElem? (i := 140) rfl)), (tb1 _ (List.mem_of_getElem? (i := 10) rfl)), cn_BitmapVolume_Name.1, cn_BitmapVolume_Name.2.1, cn_BitmapVolume_Name.2.2, rfl⟩, (fun _ h => absurd h List.not_mem_nil)⟩⟩⟩⟩⟩⟩⟩⟩⟩⟩⟩⟩⟩⟩⟩⟩⟩⟩⟩⟩
def mt_4 : List MT := [(yX8_roll, cX8_roll, 2, some .int, 0, 0, 8), (yX8_entries, cX8_entries, 2, some .int, 1, 21, 8), (yX8_attributes, cX8_attributes, 2, some .int, 1, 21, 8), (yX8_isDirectory, cX8_isDirectory, 2, some .boolean, 1, 21, 8), (yX8_isReadOnly, cX8_isReadOnly, 2, some .boolean, 1, 21, 8), (yX8_isRun, cX8_isRun, 2, some .boolean, 1, 21, 8), (yX8_nameSize, cX8_nameSize, 2, some .int, 1, 21, 8), (yX8_first, cX8_first, 2, some .int, 1, 21, 8), (yX8_length, cX8_length, 2, some .int, 1, 21, 8), (yX8_clusters, cX8_clusters, 2, some .int, 2, 42, 8), (yX8_letterAt, cX8_letterAt, 3, some .int, 1, 21, 8), (yX8_letterAddress, cX8_letterAddress, 2, some .int, 0, 0, 8), (yX8_tells, cX8_tells, 3, some .int, 2, 42, 8), (yX8_sum, cX8_sum, 5, some .int, 2, 42, 8), (yX8_readName, cX8_readName, 6, none, 1, 21, 8), (yX8_isLike, cX8_isLike, 5, some .boolean, 1, 21, 8), (yX8_isRight, cX8_isRight, 6, some .boolean, 3, 71, 8), (yX8_isRightStream, cX8_isRightStream, 3, some .boolean, 2, 44, 8), (yX8_isRightLength, cX8_isRightLength, 4, some .boolean, 2, 42, 8), (yX8_isRightName, cX8_isRightName, 6, some .boolean, 2, 46, 8)]
set_option maxRecDepth 100000 in
theorem mt_ok_4 : ∀ e ∈ mt_4, mtP e := List.forall_mem_cons.mpr ⟨⟨(tb3 _ (List.mem_of_getElem? (i := 169) rfl)), (tb1 _ (List.mem_of_getElem? (i := 6) rfl)), cn_BitmapVolume_Sets.1, cn_BitmapVolume_Sets.2.1, cn_BitmapVolume_Sets.2.2, rfl⟩, List.forall_mem_cons.mpr ⟨⟨(tb3 _ (List.mem_of_getElem? (i := 109) rfl)), (tb1 _ (List.mem_of_getElem? (i := 6) rfl)), cn_BitmapVolume_Sets.1, cn_BitmapVolume_Sets.2.1, cn_BitmapVolume_Sets.2.2, rfl⟩, List.forall_mem_cons.mpr ⟨⟨(tb3 _ (List.mem_of_getElem? (i := 113) rfl)), (tb1 _ (List.mem_of_getElem? (i := 6) rfl)), cn_BitmapVolume_Sets.1, cn_BitmapVolume_Sets.2.1, cn_BitmapVolume_Sets.2.2, rfl⟩, List.forall_mem_cons.mpr ⟨⟨(tb3 _ (List.mem_of_getElem? (i := 127) rfl)), (tb1 _ (List.mem_of_getElem? (i := 6) rfl)), cn_BitmapVolume_Sets.1, cn_BitmapVolume_Sets.2.1, cn_BitmapVolume_Sets.2.2, rfl⟩, List.forall_mem_cons.mpr ⟨⟨(tb5 _ (List.mem_of_getElem? (i := 36) rfl)), (tb1 _ (List.mem_of_getElem? (i := 6) rfl)), cn_BitmapVolume_Sets.1, cn_BitmapVolume_Sets.2.1, cn_BitmapVolume_Sets.2.2, rfl⟩, List.forall_mem_cons.mpr ⟨⟨(tb3 _ (List.mem_of_getElem? (i := 64) rfl)), (tb1 _ (List.mem_of_getElem? (i := 6) rfl)), cn_BitmapVolume_Sets.1, cn_BitmapVolume_Sets.2.1, cn_BitmapVolume_Sets.2.2, rfl⟩, List.forall_mem_cons.mpr ⟨⟨(tb3 _ (List.mem_of_getElem? (i := 137) rfl)), (tb1 _ (List.mem_of_getElem? (i := 6) rfl)), cn_BitmapVolume_Sets.1, cn_BitmapVolume_Sets.2.1, cn_BitmapVolume_Sets.2.2, rfl⟩, List.forall_mem_cons.mpr ⟨⟨(tb3 _ (List.mem_of_getElem? (i := 59) rfl)), (tb1 _ (List.mem_of_getElem? (i := 6) rfl)), cn_BitmapVolume_Sets.1, cn_BitmapVolume_Sets.2.1, cn_BitmapVolume_Sets.2.2, rfl⟩, List.forall_mem_cons.mpr ⟨⟨(tb3 _ (List.mem_of_getElem? (i := 73) rfl)), (tb1 _ (List.mem_of_getElem? (i := 6) rfl)), cn_BitmapVolume_Sets.1, cn_BitmapVolume_Sets.2.1, cn_BitmapVolume_Sets.2.2, rfl⟩, List.forall_mem_cons.mpr ⟨⟨(tb3 _ (List.mem_of_getElem? (i := 69) rfl)), (tb1 _ (List.mem_of_getElem? (i := 6) rfl)), cn_BitmapVolume_Sets.1, cn_BitmapVolume_Sets.2.1, cn_BitmapVolume_Sets.2.2, rfl⟩, List.forall_mem_cons.mpr ⟨⟨(tb3 _ (List.mem_of_getElem? (i := 174) rfl)), (tb1 _ (List.mem_of_getElem? (i := 6) rfl)), cn_BitmapVolume_Sets.1, cn_BitmapVolume_Sets.2.1, cn_BitmapVolume_Sets.2.2, rfl⟩, List.forall_mem_cons.mpr ⟨⟨(tb3 _ (List.mem_of_getElem? (i := 150) rfl)), (tb1 _ (List.mem_of_getElem? (i := 6) rfl)), cn_BitmapVolume_Sets.1, cn_BitmapVolume_Sets.2.1, cn_BitmapVolume_Sets.2.2, rfl⟩, List.forall_mem_cons.mpr ⟨⟨(tb5 _ (List.mem_of_getElem? (i := 126) rfl)), (tb1 _ (List.mem_of_getElem? (i := 6) rfl)), cn_BitmapVolume_Sets.1, cn_BitmapVolume_Sets.2.1, cn_BitmapVolume_Sets.2.2, rfl⟩, List.forall_mem_cons.mpr ⟨⟨(tb3 _ (List.mem_of_getElem? (i := 178) rfl)), (tb1 _ (List.mem_of_getElem? (i := 6) rfl)), cn_BitmapVolume_Sets.1, cn_BitmapVolume_Sets.2.1, cn_BitmapVolume_Sets.2.2, rfl⟩, List.forall_mem_cons.mpr ⟨⟨(tb3 _ (List.mem_of_getElem? (i := 144) rfl)), (tb1 _ (List.mem_of_getElem? (i := 6) rfl)), cn_BitmapVolume_Sets.1, cn_BitmapVolume_Sets.2.1, cn_BitmapVolume_Sets.2.2, rfl⟩, List.forall_mem_cons.mpr ⟨⟨(tb3 _ (List.mem_of_getElem? (i := 208) rfl)), (tb1 _ (List.mem_of_getElem? (i := 6) rfl)), cn_BitmapVolume_Sets.1, cn_BitmapVolume_Sets.2.1, cn_BitmapVolume_Sets.2.2, rfl⟩, List.forall_mem_cons.mpr ⟨⟨(tb3 _ (List.mem_of_getElem? (i := 105) rfl)), (tb1 _ (List.mem_of_getElem? (i := 6) rfl)), cn_BitmapVolume_Sets.1, cn_BitmapVolume_Sets.2.1, cn_BitmapVolume_Sets.2.2, rfl⟩, List.forall_mem_cons.mpr ⟨⟨(tb3 _ (List.mem_of_getElem? (i := 119) rfl)), (tb1 _ (List.mem_of_getElem? (i := 6) rfl)), cn_BitmapVolume_Sets.1, cn_BitmapVolume_Sets.2.1, cn_BitmapVolume_Sets.2.2, rfl⟩, List.forall_mem_cons.mpr ⟨⟨(tb3 _ (List.mem_of_getElem? (i := 123) rfl)), (tb1 _ (List.mem_of_getElem? (i := 6) rfl)), cn_BitmapVolume_Sets.1, cn_BitmapVolume_Sets.2.1, cn_BitmapVolume_Sets.2.2, rfl⟩, List.forall_mem_cons.mpr ⟨⟨(tb3 _ (List.mem_of_getElem? (i := 133) rfl)), (tb1 _ (List.mem_of_getElem? (i := 6) rfl)), cn_BitmapVolume_Sets.1, cn_BitmapVolume_Sets.2.1, cn_BitmapVolume_Sets.2.2, rfl⟩, (fun _ h => absurd h List.not_mem_nil)⟩⟩⟩⟩⟩⟩⟩⟩⟩⟩⟩⟩⟩⟩⟩⟩⟩⟩⟩⟩
def mt_5 : List MT := [(yX8_begin, cX8_begin, 6, none, 2, 45, 8), (yX8_setAttributes, cX8_setAttributes, 3, none, 2, 44, 8), (yX8_setMade, cX8_setMade, 3, none, 2, 45, 8), (yX8_setChanged, cX8_setChanged, 3, none, 2, 45, 8), (yX8_setStream, cX8_setStream, 5, none, 2, 45, 8), (yX8_copyBody, cX8_copyBody, 3, none, 3, 69, 8), (yX8_seal, cX8_seal, 3, none, 3, 66, 8), (yX8_unuse, cX8_unuse, 5, none, 2, 43, 8), (yX8_unuseEntry, cX8_unuseEntry, 2, none, 1, 22, 8), (yX9_address, cX9_address, 1, some .int, 0, 0, 9), (yX9_isCluster, cX9_isCluster, 2, some .boolean, 0, 0, 9), (yX9_fat, cX9_fat, 2, some .int, 1, 21, 9), (yX9_setFat, cX9_setFat, 3, none, 2, 45, 9), (yX9_isTaken, cX9_isTaken, 2, some .boolean, 1, 21, 9), (yX9_setTaken, cX9_setTaken, 5, none, 1, 22, 9), (yX9_isFree, cX9_isFree, 2, some .boolean, 2, 42, 9), (yX9_firstFree, cX9_firstFree, 1, some .int, 4, 86, 9), (yX9_isFreeRow, cX9_isFreeRow, 4, some .boolean, 3, 63, 9), (yX9_firstRow, cX9_firstRow, 4, some .int, 3, 63, 9), (yX9_freeOnes, cX9_freeOnes, 3, some .int, 2, 42, 9)]
set_option maxRecDepth 100000 in
theorem mt_ok_5 : ∀ e ∈ mt_5, mtP e := List.forall_mem_cons.mpr ⟨⟨(tb5 _ (List.mem_of_getElem? (i := 5) rfl)), (tb1 _ (List.mem_of_getElem? (i := 6) rfl)), cn_BitmapVolume_Sets.1, cn_BitmapVolume_Sets.2.1, cn_BitmapVolume_Sets.2.2, rfl⟩, List.forall_mem_cons.mpr ⟨⟨(tb5 _ (List.mem_of_getElem? (i := 14) rfl)), (tb1 _ (List.mem_of_getElem? (i := 6) rfl)), cn_BitmapVolume_Sets.1, cn_BitmapVolume_Sets.2.1, cn_BitmapVolume_Sets.2.2, rfl⟩, List.forall_mem_cons.mpr ⟨⟨(tb5 _ (List.mem_of_getElem? (i := 10) rfl)), (tb1 _ (List.mem_of_getElem? (i := 6) rfl)), cn_BitmapVolume_Sets.1, cn_BitmapVolume_Sets.2.1, cn_BitmapVolume_Sets.2.2, rfl⟩, List.forall_mem_cons.mpr ⟨⟨(tb4 _ (List.mem_of_getElem? (i := 230) rfl)), (tb1 _ (List.mem_of_getElem? (i := 6) rfl)), cn_BitmapVolume_Sets.1, cn_BitmapVolume_Sets.2.1, cn_BitmapVolume_Sets.2.2, rfl⟩, List.forall_mem_cons.mpr ⟨⟨(tb4 _ (List.mem_of_getElem? (i := 225) rfl)), (tb1 _ (List.mem_of_getElem? (i := 6) rfl)), cn_BitmapVolume_Sets.1, cn_BitmapVolume_Sets.2.1, cn_BitmapVolume_Sets.2.2, rfl⟩, List.forall_mem_cons.mpr ⟨⟨(tb5 _ (List.mem_of_getElem? (i := 86) rfl)), (tb1 _ (List.mem_of_getElem? (i := 6) rfl)), cn_BitmapVolume_Sets.1, cn_BitmapVolume_Sets.2.1, cn_BitmapVolume_Sets.2.2, rfl⟩, List.forall_mem_cons.mpr ⟨⟨(tb4 _ (List.mem_of_getElem? (i := 239) rfl)), (tb1 _ (List.mem_of_getElem? (i := 6) rfl)), cn_BitmapVolume_Sets.1, cn_BitmapVolume_Sets.2.1, cn_BitmapVolume_Sets.2.2, rfl⟩, List.forall_mem_cons.mpr ⟨⟨(tb3 _ (List.mem_of_getElem? (i := 214) rfl)), (tb1 _ (List.mem_of_getElem? (i := 6) rfl)), cn_BitmapVolume_Sets.1, cn_BitmapVolume_Sets.2.1, cn_BitmapVolume_Sets.2.2, rfl⟩, List.forall_mem_cons.mpr ⟨⟨(tb3 _ (List.mem_of_getElem? (i := 183) rfl)), (tb1 _ (List.mem_of_getElem? (i := 6) rfl)), cn_BitmapVolume_Sets.1, cn_BitmapVolume_Sets.2.1, cn_BitmapVolume_Sets.2.2, rfl⟩, List.forall_mem_cons.mpr ⟨⟨(tb2 _ (List.mem_of_getElem? (i := 148) rfl)), (tb1 _ (List.mem_of_getElem? (i := 4) rfl)), cn_BitmapVolume_Space.1, cn_BitmapVolume_Space.2.1, cn_BitmapVolume_Space.2.2, rfl⟩, List.forall_mem_cons.mpr ⟨⟨(tb2 _ (List.mem_of_getElem? (i := 237) rfl)), (tb1 _ (List.mem_of_getElem? (i := 4) rfl)), cn_BitmapVolume_Space.1, cn_BitmapVolume_Space.2.1, cn_BitmapVolume_Space.2.2, rfl⟩, List.forall_mem_cons.mpr ⟨⟨(tb2 _ (List.mem_of_getElem? (i := 224) rfl)), (tb1 _ (List.mem_of_getElem? (i := 4) rfl)), cn_BitmapVolume_Space.1, cn_BitmapVolume_Space.2.1, cn_BitmapVolume_Space.2.2, rfl⟩, List.forall_mem_cons.mpr ⟨⟨(tb3 _ (List.mem_of_getElem? (i := 223) rfl)), (tb1 _ (List.mem_of_getElem? (i := 4) rfl)), cn_BitmapVolume_Space.1, cn_BitmapVolume_Space.2.1, cn_BitmapVolume_Space.2.2, rfl⟩, List.forall_mem_cons.mpr ⟨⟨(tb4 _ (List.mem_of_getElem? (i := 34) rfl)), (tb1 _ (List.mem_of_getElem? (i := 4) rfl)), cn_BitmapVolume_Space.1, cn_BitmapVolume_Space.2.1, cn_BitmapVolume_Space.2.2, rfl⟩, List.forall_mem_cons.mpr ⟨⟨(tb4 _ (List.mem_of_getElem? (i := 211) rfl)), (tb1 _ (List.mem_of_getElem? (i := 4) rfl)), cn_BitmapVolume_Space.1, cn_BitmapVolume_Space.2.1, cn_BitmapVolume_Space.2.2, rfl⟩, List.forall_mem_cons.mpr ⟨⟨(tb4 _ (List.mem_of_getElem? (i := 149) rfl)), (tb1 _ (List.mem_of_getElem? (i := 4) rfl)), cn_BitmapVolume_Space.1, cn_BitmapVolume_Space.2.1, cn_BitmapVolume_Space.2.2, rfl⟩, List.forall_mem_cons.mpr ⟨⟨(tb4 _ (List.mem_of_getElem? (i := 141) rfl)), (tb1 _ (List.mem_of_getElem? (i := 4) rfl)), cn_BitmapVolume_Space.1, cn_BitmapVolume_Space.2.1, cn_BitmapVolume_Space.2.2, rfl⟩, List.forall_mem_cons.mpr ⟨⟨(tb4 _ (List.mem_of_getElem? (i := 178) rfl)), (tb1 _ (List.mem_of_getElem? (i := 4) rfl)), cn_BitmapVolume_Space.1, cn_BitmapVolume_Space.2.1, cn_BitmapVolume_Space.2.2, rfl⟩, List.forall_mem_cons.mpr ⟨⟨(tb4 _ (List.mem_of_getElem? (i := 145) rfl)), (tb1 _ (List.mem_of_getElem? (i := 4) rfl)), cn_BitmapVolume_Space.1, cn_BitmapVolume_Space.2.1, cn_BitmapVolume_Space.2.2, rfl⟩, List.forall_mem_cons.mpr ⟨⟨(tb4 _ (List.mem_of_getElem? (i := 30) rfl)), (tb1 _ (List.mem_of_getElem? (i := 4) rfl)), cn_BitmapVolume_Space.1, cn_BitmapVolume_Space.2.1, cn_BitmapVolume_Space.2.2, rfl⟩, (fun _ h => absurd h List.not_mem_nil)⟩⟩⟩⟩⟩⟩⟩⟩⟩⟩⟩⟩⟩⟩⟩⟩⟩⟩⟩⟩
def mt_6 : List MT := [(yX9_longestRow, cX9_longestRow, 4, some .int, 2, 42, 9), (yX9_percent, cX9_percent, 1, some .int, 3, 64, 9), (yX10_headOf, cX10_headOf, 1, some .int, 0, 0, 10), (yX10_placeOf, cX10_placeOf, 1, some .int, 0, 0, 10), (yX10_tailOf, cX10_tailOf, 3, some .int, 1, 20, 10), (yX10_index, cX10_index, 3, none, 4, 91, 10), (yX10_indexCluster, cX10_indexCluster, 6, none, 2, 42, 10), (yX10_open, cX10_open, 4, none, 3, 68, 10), (yX10_isEntry, cX10_isEntry, 3, some .boolean, 1, 21, 10), (yX10_isPlace, cX10_isPlace, 2, some .boolean, 2, 43, 10), (yX10_isDirectory, cX10_isDirectory, 2, some .boolean, 2, 43, 10), (yX10_isFile, cX10_isFile, 2, some .boolean, 2, 43, 10), (yX10_isWithin, cX10_isWithin, 6, some .boolean, 0, 0, 10), (yX10_find, cX10_find, 3, some .int, 5, 116, 10), (yX10_findBut, cX10_findBut, 6, some .int, 4, 91, 10), (yX10_child, cX10_child, 6, some .int, 4, 91, 10), (yX10_clusterOf, cX10_clusterOf, 3, some .int, 4, 91, 10), (yX10_rootTells, cX10_rootTells, 2, some .int, 4, 91, 10), (yX10_octets, cX10_octets, 8, some .long, 4, 91, 10), (yX11_format, cX11_format, 5, some .int, 4, 90, 11)]
set_option maxRecDepth 100000 in
theorem mt_ok_6 : ∀ e ∈ mt_6, mtP e := List.forall_mem_cons.mpr ⟨⟨(tb5 _ (List.mem_of_getElem? (i := 151) rfl)), (tb1 _ (List.mem_of_getElem? (i := 4) rfl)), cn_BitmapVolume_Space.1, cn_BitmapVolume_Space.2.1, cn_BitmapVolume_Space.2.2, rfl⟩, List.forall_mem_cons.mpr ⟨⟨(tb4 _ (List.mem_of_getElem? (i := 26) rfl)), (tb1 _ (List.mem_of_getElem? (i := 4) rfl)), cn_BitmapVolume_Space.1, cn_BitmapVolume_Space.2.1, cn_BitmapVolume_Space.2.2, rfl⟩, List.forall_mem_cons.mpr ⟨⟨(tb3 _ (List.mem_of_getElem? (i := 45) rfl)), (tb1 _ (List.mem_of_getElem? (i := 7) rfl)), cn_BitmapVolume_Tree.1, cn_BitmapVolume_Tree.2.1, cn_BitmapVolume_Tree.2.2, rfl⟩, List.forall_mem_cons.mpr ⟨⟨(tb3 _ (List.mem_of_getElem? (i := 229) rfl)), (tb1 _ (List.mem_of_getElem? (i := 7) rfl)), cn_BitmapVolume_Tree.1, cn_BitmapVolume_Tree.2.1, cn_BitmapVolume_Tree.2.2, rfl⟩, List.forall_mem_cons.mpr ⟨⟨(tb4 _ (List.mem_of_getElem? (i := 234) rfl)), (tb1 _ (List.mem_of_getElem? (i := 7) rfl)), cn_BitmapVolume_Tree.1, cn_BitmapVolume_Tree.2.1, cn_BitmapVolume_Tree.2.2, rfl⟩, List.forall_mem_cons.mpr ⟨⟨(tb4 _ (List.mem_of_getElem? (i := 5) rfl)), (tb1 _ (List.mem_of_getElem? (i := 7) rfl)), cn_BitmapVolume_Tree.1, cn_BitmapVolume_Tree.2.1, cn_BitmapVolume_Tree.2.2, rfl⟩, List.forall_mem_cons.mpr ⟨⟨(tb4 _ (List.mem_of_getElem? (i := 12) rfl)), (tb1 _ (List.mem_of_getElem? (i := 7) rfl)), cn_BitmapVolume_Tree.1, cn_BitmapVolume_Tree.2.1, cn_BitmapVolume_Tree.2.2, rfl⟩, List.forall_mem_cons.mpr ⟨⟨(tb3 _ (List.mem_of_getElem? (i := 42) rfl)), (tb1 _ (List.mem_of_getElem? (i := 7) rfl)), cn_BitmapVolume_Tree.1, cn_BitmapVolume_Tree.2.1, cn_BitmapVolume_Tree.2.2, rfl⟩, List.forall_mem_cons.mpr ⟨⟨(tb4 _ (List.mem_of_getElem? (i := 104) rfl)), (tb1 _ (List.mem_of_getElem? (i := 7) rfl)), cn_BitmapVolume_Tree.1, cn_BitmapVolume_Tree.2.1, cn_BitmapVolume_Tree.2.2, rfl⟩, List.forall_mem_cons.mpr ⟨⟨(tb5 _ (List.mem_of_getElem? (i := 117) rfl)), (tb1 _ (List.mem_of_getElem? (i := 7) rfl)), cn_BitmapVolume_Tree.1, cn_BitmapVolume_Tree.2.1, cn_BitmapVolume_Tree.2.2, rfl⟩, List.forall_mem_cons.mpr ⟨⟨(tb4 _ (List.mem_of_getElem? (i := 100) rfl)), (tb1 _ (List.mem_of_getElem? (i := 7) rfl)), cn_BitmapVolume_Tree.1, cn_BitmapVolume_Tree.2.1, cn_BitmapVolume_Tree.2.2, rfl⟩, List.forall_mem_cons.mpr ⟨⟨(tb5 _ (List.mem_of_getElem? (i := 32) rfl)), (tb1 _ (List.mem_of_getElem? (i := 7) rfl)), cn_BitmapVolume_Tree.1, cn_BitmapVolume_Tree.2.1, cn_BitmapVolume_Tree.2.2, rfl⟩, List.forall_mem_cons.mpr ⟨⟨(tb5 _ (List.mem_of_getElem? (i := 81) rfl)), (tb1 _ (List.mem_of_getElem? (i := 7) rfl)), cn_BitmapVolume_Tree.1, cn_BitmapVolume_Tree.2.1, cn_BitmapVolume_Tree.2.2, rfl⟩, List.forall_mem_cons.mpr ⟨⟨(tb4 _ (List.mem_of_getElem? (i := 110) rfl)), (tb1 _ (List.mem_of_getElem? (i := 7) rfl)), cn_BitmapVolume_Tree.1, cn_BitmapVolume_Tree.2.1, cn_BitmapVolume_Tree.2.2, rfl⟩, List.forall_mem_cons.mpr ⟨⟨(tb4 _ (List.mem_of_getElem? (i := 114) rfl)), (tb1 _ (List.mem_of_getElem? (i := 7) rfl)), cn_BitmapVolume_Tree.1, cn_BitmapVolume_Tree.2.1, cn_BitmapVolume_Tree.2.2, rfl⟩, List.forall_mem_cons.mpr ⟨⟨(tb4 _ (List.mem_of_getElem? (i := 126) rfl)), (tb1 _ (List.mem_of_getElem? (i := 7) rfl)), cn_BitmapVolume_Tree.1, cn_BitmapVolume_Tree.2.1, cn_BitmapVolume_Tree.2.2, rfl⟩, List.forall_mem_cons.mpr ⟨⟨(tb5 _ (List.mem_of_getElem? (i := 142) rfl)), (tb1 _ (List.mem_of_getElem? (i := 7) rfl)), cn_BitmapVolume_Tree.1, cn_BitmapVolume_Tree.2.1, cn_BitmapVolume_Tree.2.2, rfl⟩, List.forall_mem_cons.mpr ⟨⟨(tb5 _ (List.mem_of_getElem? (i := 121) rfl)), (tb1 _ (List.mem_of_getElem? (i := 7) rfl)), cn_BitmapVolume_Tree.1, cn_BitmapVolume_Tree.2.1, cn_BitmapVolume_Tree.2.2, rfl⟩, List.forall_mem_cons.mpr ⟨⟨(tb5 _ (List.mem_of_getElem? (i := 108) rfl)), (tb1 _ (List.mem_of_getElem? (i := 7) rfl)), cn_BitmapVolume_Tree.1, cn_BitmapVolume_Tree.2.1, cn_BitmapVolume_Tree.2.2, rfl⟩, List.forall_mem_cons.mpr ⟨⟨(tb2 _ (List.mem_of_getElem? (i := 109) rfl)), (tb1 _ (List.mem_of_getElem? (i := 1) rfl)), cn_BitmapVolume.1, cn_BitmapVolume.2.1, cn_BitmapVolume.2.2, rfl⟩, (fun _ h => absurd h List.not_mem_nil)⟩⟩⟩⟩⟩⟩⟩⟩⟩⟩⟩⟩⟩⟩⟩⟩⟩⟩⟩⟩
def mt_7 : List MT := [(yX11_octet, cX11_octet, 3, some .int, 1, 21, 11), (yX11_spoil, cX11_spoil, 5, some .int, 2, 47, 11), (yX11_fail, cX11_fail, 2, some .int, 0, 0, 11), (yX11_mount, cX11_mount, 2, some .int, 7, 170, 11), (yX11_fault, cX11_fault, 2, some .int, 0, 0, 11), (yX11_unmount, cX11_unmount, 1, some .int, 4, 90, 11), (yX11_mend, cX11_mend, 2, some .int, 7, 170, 11), (yX11_letters, cX11_letters, 3, some .int, 2, 45, 11), (yX11_clear, cX11_clear, 2, some .int, 0, 0, 11), (yX11_clock, cX11_clock, 2, none, 0, 0, 11), (yX11_look, cX11_look, 3, some .int, 6, 138, 11), (yX11_list, cX11_list, 3, some .int, 5, 116, 11), (yX11_make, cX11_make, 4, some .int, 7, 162, 11), (yX11_write, cX11_write, 5, some .int, 6, 143, 11), (yX11_cut, cX11_cut, 3, some .int, 6, 140, 11), (yX11_drop, cX11_drop, 2, some .int, 6, 138, 11), (yX11_move, cX11_move, 4, some .int, 7, 160, 11), (yX11_bar, cX11_bar, 3, some .int, 6, 134, 11), (yX11_read, cX11_read, 3, some .long, 5, 118, 11), (yX11_told, cX11_told, 3, some .int, 5, 112, 11)]
set_option maxRecDepth 100000 in
theorem mt_ok_7 : ∀ e ∈ mt_7, mtP e := List.forall_mem_cons.mpr ⟨⟨(tb2 _ (List.mem_of_getElem? (i := 181) rfl)), (tb1 _ (List.mem_of_getElem? (i := 1) rfl)), cn_BitmapVolume.1, cn_BitmapVolume.2.1, cn_BitmapVolume.2.2, rfl⟩, List.forall_mem_cons.mpr ⟨⟨(tb2 _ (List.mem_of_getElem? (i := 189) rfl)), (tb1 _ (List.mem_of_getElem? (i := 1) rfl)), cn_BitmapVolume.1, cn_BitmapVolume.2.1, cn_BitmapVolume.2.2, rfl⟩, List.forall_mem_cons.mpr ⟨⟨(tb2 _ (List.mem_of_getElem? (i := 193) rfl)), (tb1 _ (List.mem_of_getElem? (i := 1) rfl)), cn_BitmapVolume.1, cn_BitmapVolume.2.1, cn_BitmapVolume.2.2, rfl⟩, List.forall_mem_cons.mpr ⟨⟨(tb2 _ (List.mem_of_getElem? (i := 197) rfl)), (tb1 _ (List.mem_of_getElem? (i := 1) rfl)), cn_BitmapVolume.1, cn_BitmapVolume.2.1, cn_BitmapVolume.2.2, rfl⟩, List.forall_mem_cons.mpr ⟨⟨(tb4 _ (List.mem_of_getElem? (i := 18) rfl)), (tb1 _ (List.mem_of_getElem? (i := 1) rfl)), cn_BitmapVolume.1, cn_BitmapVolume.2.1, cn_BitmapVolume.2.2, rfl⟩, List.forall_mem_cons.mpr ⟨⟨(tb4 _ (List.mem_of_getElem? (i := 22) rfl)), (tb1 _ (List.mem_of_getElem? (i := 1) rfl)), cn_BitmapVolume.1, cn_BitmapVolume.2.1, cn_BitmapVolume.2.2, rfl⟩, List.forall_mem_cons.mpr ⟨⟨(tb4 _ (List.mem_of_getElem? (i := 57) rfl)), (tb1 _ (List.mem_of_getElem? (i := 1) rfl)), cn_BitmapVolume.1, cn_BitmapVolume.2.1, cn_BitmapVolume.2.2, rfl⟩, List.forall_mem_cons.mpr ⟨⟨(tb4 _ (List.mem_of_getElem? (i := 75) rfl)), (tb1 _ (List.mem_of_getElem? (i := 1) rfl)), cn_BitmapVolume.1, cn_BitmapVolume.2.1, cn_BitmapVolume.2.2, rfl⟩, List.forall_mem_cons.mpr ⟨⟨(tb4 _ (List.mem_of_getElem? (i := 88) rfl)), (tb1 _ (List.mem_of_getElem? (i := 1) rfl)), cn_BitmapVolume.1, cn_BitmapVolume.2.1, cn_BitmapVolume.2.2, rfl⟩, List.forall_mem_cons.mpr ⟨⟨(tb4 _ (List.mem_of_getElem? (i := 92) rfl)), (tb1 _ (List.mem_of_getElem? (i := 1) rfl)), cn_BitmapVolume.1, cn_BitmapVolume.2.1, cn_BitmapVolume.2.2, rfl⟩, List.forall_mem_cons.mpr ⟨⟨(tb4 _ (List.mem_of_getElem? (i := 96) rfl)), (tb1 _ (List.mem_of_getElem? (i := 1) rfl)), cn_BitmapVolume.1, cn_BitmapVolume.2.1, cn_BitmapVolume.2.2, rfl⟩, List.forall_mem_cons.mpr ⟨⟨(tb4 _ (List.mem_of_getElem? (i := 122) rfl)), (tb1 _ (List.mem_of_getElem? (i := 1) rfl)), cn_BitmapVolume.1, cn_BitmapVolume.2.1, cn_BitmapVolume.2.2, rfl⟩, List.forall_mem_cons.mpr ⟨⟨(tb4 _ (List.mem_of_getElem? (i := 130) rfl)), (tb1 _ (List.mem_of_getElem? (i := 1) rfl)), cn_BitmapVolume.1, cn_BitmapVolume.2.1, cn_BitmapVolume.2.2, rfl⟩, List.forall_mem_cons.mpr ⟨⟨(tb5 _ (List.mem_of_getElem? (i := 24) rfl)), (tb1 _ (List.mem_of_getElem? (i := 1) rfl)), cn_BitmapVolume.1, cn_BitmapVolume.2.1, cn_BitmapVolume.2.2, rfl⟩, List.forall_mem_cons.mpr ⟨⟨(tb5 _ (List.mem_of_getElem? (i := 49) rfl)), (tb1 _ (List.mem_of_getElem? (i := 1) rfl)), cn_BitmapVolume.1, cn_BitmapVolume.2.1, cn_BitmapVolume.2.2, rfl⟩, List.forall_mem_cons.mpr ⟨⟨(tb5 _ (List.mem_of_getElem? (i := 61) rfl)), (tb1 _ (List.mem_of_getElem? (i := 1) rfl)), cn_BitmapVolume.1, cn_BitmapVolume.2.1, cn_BitmapVolume.2.2, rfl⟩, List.forall_mem_cons.mpr ⟨⟨(tb5 _ (List.mem_of_getElem? (i := 73) rfl)), (tb1 _ (List.mem_of_getElem? (i := 1) rfl)), cn_BitmapVolume.1, cn_BitmapVolume.2.1, cn_BitmapVolume.2.2, rfl⟩, List.forall_mem_cons.mpr ⟨⟨(tb5 _ (List.mem_of_getElem? (i := 94) rfl)), (tb1 _ (List.mem_of_getElem? (i := 1) rfl)), cn_BitmapVolume.1, cn_BitmapVolume.2.1, cn_BitmapVolume.2.2, rfl⟩, List.forall_mem_cons.mpr ⟨⟨(tb5 _ (List.mem_of_getElem? (i := 103) rfl)), (tb1 _ (List.mem_of_getElem? (i := 1) rfl)), cn_BitmapVolume.1, cn_BitmapVolume.2.1, cn_BitmapVolume.2.2, rfl⟩, List.forall_mem_cons.mpr ⟨⟨(tb5 _ (List.mem_of_getElem? (i := 113) rfl)), (tb1 _ (List.mem_of_getElem? (i := 1) rfl)), cn_BitmapVolume.1, cn_BitmapVolume.2.1, cn_BitmapVolume.2.2, rfl⟩, (fun _ h => absurd h List.not_mem_nil)⟩⟩⟩⟩⟩⟩⟩⟩⟩⟩⟩⟩⟩⟩⟩⟩⟩⟩⟩⟩
def mt_8 : List MT := [(yX11_letter, cX11_letter, 3, some .int, 2, 43, 11), (yX11_cluster, cX11_cluster, 3, some .int, 5, 113, 11), (yX11_count, cX11_count, 2, some .int, 3, 65, 11), (yX11_settled, cX11_settled, 2, some .int, 0, 0, 11), (yX12_lesser, cX12_lesser, 2, some .int, 0, 0, 12), (yX12_greater, cX12_greater, 4, some .long, 0, 0, 12), (yX12_in, cX12_in, 6, some .boolean, 0, 0, 12), (yX12_get, cX12_get, 6, some .long, 0, 0, 12), (yX12_put, cX12_put, 6, none, 0, 0, 12), (yX12_clusterAt, cX12_clusterAt, 1, some .int, 0, 0, 12), (yX12_isCluster, cX12_isCluster, 3, some .boolean, 1, 25, 12), (yX12_fat, cX12_fat, 3, some .long, 1, 25, 12), (yX12_wantFat, cX12_wantFat, 4, none, 1, 25, 12), (yX12_isTaken, cX12_isTaken, 3, some .boolean, 1, 20, 12), (yX12_wantBit, cX12_wantBit, 5, none, 1, 20, 12), (yX12_rolled, cX12_rolled, 7, some .long, 0, 0, 12), (yX12_sum4, cX12_sum4, 7, some .long, 1, 26, 12), (yX12_beginWrite, cX12_beginWrite, 2, none, 0, 0, 12), (yX12_flush, cX12_flush, 4, some .boolean, 0, 0, 12), (yX12_dirty, cX12_dirty, 1, some .boolean, 1, 23, 12)]
set_option maxRecDepth 100000 in
theorem mt_ok_8 : ∀ e ∈ mt_8, mtP e := List.forall_mem_cons.mpr ⟨⟨(tb5 _ (List.mem_of_getElem? (i := 130) rfl)), (tb1 _ (List.mem_of_getElem? (i := 1) rfl)), cn_BitmapVolume.1, cn_BitmapVolume.2.1, cn_BitmapVolume.2.2, rfl⟩, List.forall_mem_cons.mpr ⟨⟨(tb5 _ (List.mem_of_getElem? (i := 138) rfl)), (tb1 _ (List.mem_of_getElem? (i := 1) rfl)), cn_BitmapVolume.1, cn_BitmapVolume.2.1, cn_BitmapVolume.2.2, rfl⟩, List.forall_mem_cons.mpr ⟨⟨(tb5 _ (List.mem_of_getElem? (i := 146) rfl)), (tb1 _ (List.mem_of_getElem? (i := 1) rfl)), cn_BitmapVolume.1, cn_BitmapVolume.2.1, cn_BitmapVolume.2.2, rfl⟩, List.forall_mem_cons.mpr ⟨⟨(tb5 _ (List.mem_of_getElem? (i := 20) rfl)), (tb1 _ (List.mem_of_getElem? (i := 1) rfl)), cn_BitmapVolume.1, cn_BitmapVolume.2.1, cn_BitmapVolume.2.2, rfl⟩, List.forall_mem_cons.mpr ⟨⟨(tb7 _ (List.mem_of_getElem? (i := 176) rfl)), (tb1 _ (List.mem_of_getElem? (i := 13) rfl)), cn_BitmapVolumeModel.1, cn_BitmapVolumeModel.2.1, cn_BitmapVolumeModel.2.2, rfl⟩, List.forall_mem_cons.mpr ⟨⟨(tb8 _ (List.mem_of_getElem? (i := 4) rfl)), (tb1 _ (List.mem_of_getElem? (i := 13) rfl)), cn_BitmapVolumeModel.1, cn_BitmapVolumeModel.2.1, cn_BitmapVolumeModel.2.2, rfl⟩, List.forall_mem_cons.mpr ⟨⟨(tb6 _ (List.mem_of_getElem? (i := 77) rfl)), (tb1 _ (List.mem_of_getElem? (i := 13) rfl)), cn_BitmapVolumeModel.1, cn_BitmapVolumeModel.2.1, cn_BitmapVolumeModel.2.2, rfl⟩, List.forall_mem_cons.mpr ⟨⟨(tb6 _ (List.mem_of_getElem? (i := 150) rfl)), (tb1 _ (List.mem_of_getElem? (i := 13) rfl)), cn_BitmapVolumeModel.1, cn_BitmapVolumeModel.2.1, cn_BitmapVolumeModel.2.2, rfl⟩, List.forall_mem_cons.mpr ⟨⟨(tb6 _ (List.mem_of_getElem? (i := 88) rfl)), (tb1 _ (List.mem_of_getElem? (i := 13) rfl)), cn_BitmapVolumeModel.1, cn_BitmapVolumeModel.2.1, cn_BitmapVolumeModel.2.2, rfl⟩, List.forall_mem_cons.mpr ⟨⟨(tb6 _ (List.mem_of_getElem? (i := 104) rfl)), (tb1 _ (List.mem_of_getElem? (i := 13) rfl)), cn_BitmapVolumeModel.1, cn_BitmapVolumeModel.2.1, cn_BitmapVolumeModel.2.2, rfl⟩, List.forall_mem_cons.mpr ⟨⟨(tb6 _ (List.mem_of_getElem? (i := 168) rfl)), (tb1 _ (List.mem_of_getElem? (i := 13) rfl)), cn_BitmapVolumeModel.1, cn_BitmapVolumeModel.2.1, cn_BitmapVolumeModel.2.2, rfl⟩, List.forall_mem_cons.mpr ⟨⟨(tb6 _ (List.mem_of_getElem? (i := 164) rfl)), (tb1 _ (List.mem_of_getElem? (i := 13) rfl)), cn_BitmapVolumeModel.1, cn_BitmapVolumeModel.2.1, cn_BitmapVolumeModel.2.2, rfl⟩, List.forall_mem_cons.mpr ⟨⟨(tb7 _ (List.mem_of_getElem? (i := 41) rfl)), (tb1 _ (List.mem_of_getElem? (i := 13) rfl)), cn_BitmapVolumeModel.1, cn_BitmapVolumeModel.2.1, cn_BitmapVolumeModel.2.2, rfl⟩, List.forall_mem_cons.mpr ⟨⟨(tb7 _ (List.mem_of_getElem? (i := 69) rfl)), (tb1 _ (List.mem_of_getElem? (i := 13) rfl)), cn_BitmapVolumeModel.1, cn_BitmapVolumeModel.2.1, cn_BitmapVolumeModel.2.2, rfl⟩, List.forall_mem_cons.mpr ⟨⟨(tb7 _ (List.mem_of_getElem? (i := 212) rfl)), (tb1 _ (List.mem_of_getElem? (i := 13) rfl)), cn_BitmapVolumeModel.1, cn_BitmapVolumeModel.2.1, cn_BitmapVolumeModel.2.2, rfl⟩, List.forall_mem_cons.mpr ⟨⟨(tb6 _ (List.mem_of_getElem? (i := 99) rfl)), (tb1 _ (List.mem_of_getElem? (i := 13) rfl)), cn_BitmapVolumeModel.1, cn_BitmapVolumeModel.2.1, cn_BitmapVolumeModel.2.2, rfl⟩, List.forall_mem_cons.mpr ⟨⟨(tb6 _ (List.mem_of_getElem? (i := 94) rfl)), (tb1 _ (List.mem_of_getElem? (i := 13) rfl)), cn_BitmapVolumeModel.1, cn_BitmapVolumeModel.2.1, cn_BitmapVolumeModel.2.2, rfl⟩, List.forall_mem_cons.mpr ⟨⟨(tb7 _ (List.mem_of_getElem? (i := 73) rfl)), (tb1 _ (List.mem_of_getElem? (i := 13) rfl)), cn_BitmapVolumeModel.1, cn_BitmapVolumeModel.2.1, cn_BitmapVolumeModel.2.2, rfl⟩, List.forall_mem_cons.mpr ⟨⟨(tb7 _ (List.mem_of_getElem? (i := 77) rfl)), (tb1 _ (List.mem_of_getElem? (i := 13) rfl)), cn_BitmapVolumeModel.1, cn_BitmapVolumeModel.2.1, cn_BitmapVolumeModel.2.2, rfl⟩, List.forall_mem_cons.mpr ⟨⟨(tb7 _ (List.mem_of_getElem? (i := 184) rfl)), (tb1 _ (List.mem_of_getElem? (i := 13) rfl)), cn_BitmapVolumeModel.1, cn_BitmapVolumeModel.2.1, cn_BitmapVolumeModel.2.2, rfl⟩, (fun _ h => absurd h List.not_mem_nil)⟩⟩⟩⟩⟩⟩⟩⟩⟩⟩⟩⟩⟩⟩⟩⟩⟩⟩⟩⟩
def mt_9 : List MT := [(yX12_format, cX12_format, 5, some .int, 3, 77, 12), (yX12_layOwn, cX12_layOwn, 3, some .int, 1, 25, 12), (yX12_layGreat, cX12_layGreat, 6, some .int, 1, 25, 12), (yX12_layBoot, cX12_layBoot, 6, none, 2, 52, 12), (yX12_bootName, cX12_bootName, 0, some .long, 0, 0, 12), (yX12_octet, cX12_octet, 3, some .int, 1, 25, 12), (yX12_spoil, cX12_spoil, 5, some .int, 1, 25, 12), (yX12_fail, cX12_fail, 2, some .int, 1, 25, 12), (yX12_meets, cX12_meets, 4, some .boolean, 0, 0, 12), (yX12_fault, cX12_fault, 2, some .int, 0, 0, 12), (yX12_isZero, cX12_isZero, 5, some .boolean, 0, 0, 12), (yX12_isBoot, cX12_isBoot, 10, some .boolean, 2, 52, 12), (yX12_isMountable, cX12_isMountable, 5, some .boolean, 4, 94, 12), (yX12_hasCluster, cX12_hasCluster, 4, some .boolean, 2, 47, 12), (yX12_isMapThere, cX12_isMapThere, 3, some .boolean, 3, 70, 12), (yX12_isTableThere, cX12_isTableThere, 5, some .boolean, 3, 70, 12), (yX12_isTable, cX12_isTable, 8, some .boolean, 1, 25, 12), (yX12_entryAt, cX12_entryAt, 2, some .int, 1, 20, 12), (yX12_typeOf, cX12_typeOf, 2, some .int, 2, 41, 12), (yX12_entries, cX12_entries, 1, some .int, 0, 0, 12)]
set_option maxRecDepth 100000 in
theorem mt_ok_9 : ∀ e ∈ mt_9, mtP e := List.forall_mem_cons.mpr ⟨⟨(tb6 _ (List.mem_of_getElem? (i := 72) rfl)), (tb1 _ (List.mem_of_getElem? (i := 13) rfl)), cn_BitmapVolumeModel.1, cn_BitmapVolumeModel.2.1, cn_BitmapVolumeModel.2.2, rfl⟩, List.forall_mem_cons.mpr ⟨⟨(tb6 _ (List.mem_of_getElem? (i := 108) rfl)), (tb1 _ (List.mem_of_getElem? (i := 13) rfl)), cn_BitmapVolumeModel.1, cn_BitmapVolumeModel.2.1, cn_BitmapVolumeModel.2.2, rfl⟩, List.forall_mem_cons.mpr ⟨⟨(tb6 _ (List.mem_of_getElem? (i := 113) rfl)), (tb1 _ (List.mem_of_getElem? (i := 13) rfl)), cn_BitmapVolumeModel.1, cn_BitmapVolumeModel.2.1, cn_BitmapVolumeModel.2.2, rfl⟩, List.forall_mem_cons.mpr ⟨⟨(tb6 _ (List.mem_of_getElem? (i := 81) rfl)), (tb1 _ (List.mem_of_getElem? (i := 13) rfl)), cn_BitmapVolumeModel.1, cn_BitmapVolumeModel.2.1, cn_BitmapVolumeModel.2.2, rfl⟩, List.forall_mem_cons.mpr ⟨⟨(tb6 _ (List.mem_of_getElem? (i := 84) rfl)), (tb1 _ (List.mem_of_getElem? (i := 13) rfl)), cn_BitmapVolumeModel.1, cn_BitmapVolumeModel.2.1, cn_BitmapVolumeModel.2.2, rfl⟩, List.forall_mem_cons.mpr ⟨⟨(tb6 _ (List.mem_of_getElem? (i := 119) rfl)), (tb1 _ (List.mem_of_getElem? (i := 13) rfl)), cn_BitmapVolumeModel.1, cn_BitmapVolumeModel.2.1, cn_BitmapVolumeModel.2.2, rfl⟩, List.forall_mem_cons.mpr ⟨⟨(tb6 _ (List.mem_of_getElem? (i := 125) rfl)), (tb1 _ (List.mem_of_getElem? (i := 13) rfl)), cn_BitmapVolumeModel.1, cn_BitmapVolumeModel.2.1, cn_BitmapVolumeModel.2.2, rfl⟩, List.forall_mem_cons.mpr ⟨⟨(tb6 _ (List.mem_of_getElem? (i := 130) rfl)), (tb1 _ (List.mem_of_getElem? (i := 13) rfl)), cn_BitmapVolumeModel.1, cn_BitmapVolumeModel.2.1, cn_BitmapVolumeModel.2.2, rfl⟩, List.forall_mem_cons.mpr ⟨⟨(tb6 _ (List.mem_of_getElem? (i := 160) rfl)), (tb1 _ (List.mem_of_getElem? (i := 13) rfl)), cn_BitmapVolumeModel.1, cn_BitmapVolumeModel.2.1, cn_BitmapVolumeModel.2.2, rfl⟩, List.forall_mem_cons.mpr ⟨⟨(tb6 _ (List.mem_of_getElem? (i := 135) rfl)), (tb1 _ (List.mem_of_getElem? (i := 13) rfl)), cn_BitmapVolumeModel.1, cn_BitmapVolumeModel.2.1, cn_BitmapVolumeModel.2.2, rfl⟩, List.forall_mem_cons.mpr ⟨⟨(tb6 _ (List.mem_of_getElem? (i := 155) rfl)), (tb1 _ (List.mem_of_getElem? (i := 13) rfl)), cn_BitmapVolumeModel.1, cn_BitmapVolumeModel.2.1, cn_BitmapVolumeModel.2.2, rfl⟩, List.forall_mem_cons.mpr ⟨⟨(tb6 _ (List.mem_of_getElem? (i := 147) rfl)), (tb1 _ (List.mem_of_getElem? (i := 13) rfl)), cn_BitmapVolumeModel.1, cn_BitmapVolumeModel.2.1, cn_BitmapVolumeModel.2.2, rfl⟩, List.forall_mem_cons.mpr ⟨⟨(tb6 _ (List.mem_of_getElem? (i := 143) rfl)), (tb1 _ (List.mem_of_getElem? (i := 13) rfl)), cn_BitmapVolumeModel.1, cn_BitmapVolumeModel.2.1, cn_BitmapVolumeModel.2.2, rfl⟩, List.forall_mem_cons.mpr ⟨⟨(tb6 _ (List.mem_of_getElem? (i := 176) rfl)), (tb1 _ (List.mem_of_getElem? (i := 13) rfl)), cn_BitmapVolumeModel.1, cn_BitmapVolumeModel.2.1, cn_BitmapVolumeModel.2.2, rfl⟩, List.forall_mem_cons.mpr ⟨⟨(tb6 _ (List.mem_of_getElem? (i := 172) rfl)), (tb1 _ (List.mem_of_getElem? (i := 13) rfl)), cn_BitmapVolumeModel.1, cn_BitmapVolumeModel.2.1, cn_BitmapVolumeModel.2.2, rfl⟩, List.forall_mem_cons.mpr ⟨⟨(tb6 _ (List.mem_of_getElem? (i := 180) rfl)), (tb1 _ (List.mem_of_getElem? (i := 13) rfl)), cn_BitmapVolumeModel.1, cn_BitmapVolumeModel.2.1, cn_BitmapVolumeModel.2.2, rfl⟩, List.forall_mem_cons.mpr ⟨⟨(tb6 _ (List.mem_of_getElem? (i := 184) rfl)), (tb1 _ (List.mem_of_getElem? (i := 13) rfl)), cn_BitmapVolumeModel.1, cn_BitmapVolumeModel.2.1, cn_BitmapVolumeModel.2.2, rfl⟩, List.forall_mem_cons.mpr ⟨⟨(tb6 _ (List.mem_of_getElem? (i := 218) rfl)), (tb1 _ (List.mem_of_getElem? (i := 13) rfl)), cn_BitmapVolumeModel.1, cn_BitmapVolumeModel.2.1, cn_BitmapVolumeModel.2.2, rfl⟩, List.forall_mem_cons.mpr ⟨⟨(tb6 _ (List.mem_of_getElem? (i := 214) rfl)), (tb1 _ (List.mem_of_getElem? (i := 13) rfl)), cn_BitmapVolumeModel.1, cn_BitmapVolumeModel.2.1, cn_BitmapVolumeModel.2.2, rfl⟩, List.forall_mem_cons.mpr ⟨⟨(tb6 _ (List.mem_of_getElem? (i := 210) rfl)), (tb1 _ (List.mem_of_getElem? (i := 13) rfl)), cn_BitmapVolumeModel.1, cn_BitmapVolumeModel.2.1, cn_BitmapVolumeModel.2.2, rfl⟩, (fun _ h => absurd h List.not_mem_nil)⟩⟩⟩⟩⟩⟩⟩⟩⟩⟩⟩⟩⟩⟩⟩⟩⟩⟩⟩⟩
def mt_10 : List MT := [(yX12_rowOfRoot, cX12_rowOfRoot, 3, none, 2, 47, 12), (yX12_isLetter, cX12_isLetter, 2, some .boolean, 1, 25, 12), (yX12_isName, cX12_isName, 4, some .boolean, 2, 46, 12), (yX12_hashOf, cX12_hashOf, 7, some .int, 1, 26, 12), (yX12_setSum, cX12_setSum, 8, some .int, 2, 41, 12), (yX12_isSet, cX12_isSet, 4, some .boolean, 4, 93, 12), (yX12_isStream, cX12_isStream, 4, some .boolean, 2, 47, 12), (yX12_isNamed, cX12_isNamed, 5, some .boolean, 3, 69, 12), (yX12_addSet, cX12_addSet, 3, none, 0, 0, 12), (yX12_beginSets, cX12_beginSets, 1, none, 0, 0, 12), (yX12_rowOfSet, cX12_rowOfSet, 6, none, 3, 69, 12), (yX12_scan, cX12_scan, 4, none, 5, 116, 12), (yX12_setAt, cX12_setAt, 3, some .int, 6, 139, 12), (yX12_directoryAt, cX12_directoryAt, 3, some .int, 7, 161, 12), (yX12_fileAt, cX12_fileAt, 3, some .int, 7, 161, 12), (yX12_clustersWrong, cX12_clustersWrong, 5, some .int, 3, 73, 12), (yX12_openEnd, cX12_openEnd, 7, some .int, 2, 47, 12), (yX12_meetClusters, cX12_meetClusters, 5, none, 2, 47, 12), (yX12_keepName, cX12_keepName, 2, none, 0, 0, 12), (yX12_isLike, cX12_isLike, 4, some .boolean, 5, 116, 12)]
set_option maxRecDepth 100000 in
theorem mt_ok_10 : ∀ e ∈ mt_10, mtP e := List.forall_mem_cons.mpr ⟨⟨(tb6 _ (List.mem_of_getElem? (i := 205) rfl)), (tb1 _ (List.mem_of_getElem? (i := 13) rfl)), cn_BitmapVolumeModel.1, cn_BitmapVolumeModel.2.1, cn_BitmapVolumeModel.2.2, rfl⟩, List.forall_mem_cons.mpr ⟨⟨(tb7 _ (List.mem_of_getElem? (i := 1) rfl)), (tb1 _ (List.mem_of_getElem? (i := 13) rfl)), cn_BitmapVolumeModel.1, cn_BitmapVolumeModel.2.1, cn_BitmapVolumeModel.2.2, rfl⟩, List.forall_mem_cons.mpr ⟨⟨(tb6 _ (List.mem_of_getElem? (i := 238) rfl)), (tb1 _ (List.mem_of_getElem? (i := 13) rfl)), cn_BitmapVolumeModel.1, cn_BitmapVolumeModel.2.1, cn_BitmapVolumeModel.2.2, rfl⟩, List.forall_mem_cons.mpr ⟨⟨(tb7 _ (List.mem_of_getElem? (i := 13) rfl)), (tb1 _ (List.mem_of_getElem? (i := 13) rfl)), cn_BitmapVolumeModel.1, cn_BitmapVolumeModel.2.1, cn_BitmapVolumeModel.2.2, rfl⟩, List.forall_mem_cons.mpr ⟨⟨(tb7 _ (List.mem_of_getElem? (i := 8) rfl)), (tb1 _ (List.mem_of_getElem? (i := 13) rfl)), cn_BitmapVolumeModel.1, cn_BitmapVolumeModel.2.1, cn_BitmapVolumeModel.2.2, rfl⟩, List.forall_mem_cons.mpr ⟨⟨(tb6 _ (List.mem_of_getElem? (i := 226) rfl)), (tb1 _ (List.mem_of_getElem? (i := 13) rfl)), cn_BitmapVolumeModel.1, cn_BitmapVolumeModel.2.1, cn_BitmapVolumeModel.2.2, rfl⟩, List.forall_mem_cons.mpr ⟨⟨(tb6 _ (List.mem_of_getElem? (i := 230) rfl)), (tb1 _ (List.mem_of_getElem? (i := 13) rfl)), cn_BitmapVolumeModel.1, cn_BitmapVolumeModel.2.1, cn_BitmapVolumeModel.2.2, rfl⟩, List.forall_mem_cons.mpr ⟨⟨(tb6 _ (List.mem_of_getElem? (i := 235) rfl)), (tb1 _ (List.mem_of_getElem? (i := 13) rfl)), cn_BitmapVolumeModel.1, cn_BitmapVolumeModel.2.1, cn_BitmapVolumeModel.2.2, rfl⟩, List.forall_mem_cons.mpr ⟨⟨(tb7 _ (List.mem_of_getElem? (i := 49) rfl)), (tb1 _ (List.mem_of_getElem? (i := 13) rfl)), cn_BitmapVolumeModel.1, cn_BitmapVolumeModel.2.1, cn_BitmapVolumeModel.2.2, rfl⟩, List.forall_mem_cons.mpr ⟨⟨(tb6 _ (List.mem_of_getElem? (i := 193) rfl)), (tb1 _ (List.mem_of_getElem? (i := 13) rfl)), cn_BitmapVolumeModel.1, cn_BitmapVolumeModel.2.1, cn_BitmapVolumeModel.2.2, rfl⟩, List.forall_mem_cons.mpr ⟨⟨(tb6 _ (List.mem_of_getElem? (i := 201) rfl)), (tb1 _ (List.mem_of_getElem? (i := 13) rfl)), cn_BitmapVolumeModel.1, cn_BitmapVolumeModel.2.1, cn_BitmapVolumeModel.2.2, rfl⟩, List.forall_mem_cons.mpr ⟨⟨(tb7 _ (List.mem_of_getElem? (i := 113) rfl)), (tb1 _ (List.mem_of_getElem? (i := 13) rfl)), cn_BitmapVolumeModel.1, cn_BitmapVolumeModel.2.1, cn_BitmapVolumeModel.2.2, rfl⟩, List.forall_mem_cons.mpr ⟨⟨(tb7 _ (List.mem_of_getElem? (i := 109) rfl)), (tb1 _ (List.mem_of_getElem? (i := 13) rfl)), cn_BitmapVolumeModel.1, cn_BitmapVolumeModel.2.1, cn_BitmapVolumeModel.2.2, rfl⟩, List.forall_mem_cons.mpr ⟨⟨(tb7 _ (List.mem_of_getElem? (i := 105) rfl)), (tb1 _ (List.mem_of_getElem? (i := 13) rfl)), cn_BitmapVolumeModel.1, cn_BitmapVolumeModel.2.1, cn_BitmapVolumeModel.2.2, rfl⟩, List.forall_mem_cons.mpr ⟨⟨(tb8 _ (List.mem_of_getElem? (i := 0) rfl)), (tb1 _ (List.mem_of_getElem? (i := 13) rfl)), cn_BitmapVolumeModel.1, cn_BitmapVolumeModel.2.1, cn_BitmapVolumeModel.2.2, rfl⟩, List.forall_mem_cons.mpr ⟨⟨(tb7 _ (List.mem_of_getElem? (i := 21) rfl)), (tb1 _ (List.mem_of_getElem? (i := 13) rfl)), cn_BitmapVolumeModel.1, cn_BitmapVolumeModel.2.1, cn_BitmapVolumeModel.2.2, rfl⟩, List.forall_mem_cons.mpr ⟨⟨(tb7 _ (List.mem_of_getElem? (i := 25) rfl)), (tb1 _ (List.mem_of_getElem? (i := 13) rfl)), cn_BitmapVolumeModel.1, cn_BitmapVolumeModel.2.1, cn_BitmapVolumeModel.2.2, rfl⟩, List.forall_mem_cons.mpr ⟨⟨(tb7 _ (List.mem_of_getElem? (i := 45) rfl)), (tb1 _ (List.mem_of_getElem? (i := 13) rfl)), cn_BitmapVolumeModel.1, cn_BitmapVolumeModel.2.1, cn_BitmapVolumeModel.2.2, rfl⟩, List.forall_mem_cons.mpr ⟨⟨(tb7 _ (List.mem_of_getElem? (i := 33) rfl)), (tb1 _ (List.mem_of_getElem? (i := 13) rfl)), cn_BitmapVolumeModel.1, cn_BitmapVolumeModel.2.1, cn_BitmapVolumeModel.2.2, rfl⟩, List.forall_mem_cons.mpr ⟨⟨(tb7 _ (List.mem_of_getElem? (i := 37) rfl)), (tb1 _ (List.mem_of_getElem? (i := 13) rfl)), cn_BitmapVolumeModel.1, cn_BitmapVolumeModel.2.1, cn_BitmapVolumeModel.2.2, rfl⟩, (fun _ h => absurd h List.not_mem_nil)⟩⟩⟩⟩⟩⟩⟩⟩⟩⟩⟩⟩⟩⟩⟩⟩⟩⟩⟩⟩
def mt_11 : List MT := [(yX12_isThereBefore, cX12_isThereBefore, 5, some .boolean, 6, 139, 12), (yX12_wantType, cX12_wantType, 3, none, 2, 41, 12), (yX12_wrong, cX12_wrong, 6, some .boolean, 3, 63, 12), (yX12_isDirectoryRight, cX12_isDirectoryRight, 8, some .boolean, 7, 163, 12), (yX12_areSetsRight, cX12_areSetsRight, 2, some .boolean, 8, 190, 12), (yX12_mapOctet, cX12_mapOctet, 5, some .int, 0, 0, 12), (yX12_isMapRight, cX12_isMapRight, 3, some .boolean, 1, 24, 12), (yX12_mount, cX12_mount, 2, some .int, 9, 211, 12), (yX12_unmount, cX12_unmount, 3, some .int, 3, 64, 12), (yX12_mend, cX12_mend, 4, some .int, 9, 211, 12), (yX12_letters, cX12_letters, 6, some .int, 0, 0, 12), (yX12_clear, cX12_clear, 2, some .int, 0, 0, 12), (yX12_clock, cX12_clock, 2, none, 0, 0, 12), (yX12_usedDraft, cX12_usedDraft, 2, some .int, 0, 0, 12), (yX12_like, cX12_like, 4, some .int, 6, 139, 12), (yX12_look, cX12_look, 5, some .int, 8, 183, 12), (yX12_list, cX12_list, 6, some .int, 8, 183, 12), (yX12_isFree, cX12_isFree, 2, some .boolean, 2, 42, 12), (yX12_freeMany, cX12_freeMany, 3, some .int, 2, 42, 12), (yX12_noPlans, cX12_noPlans, 2, none, 0, 0, 12)]
set_option maxRecDepth 100000 in
theorem mt_ok_11 : ∀ e ∈ mt_11, mtP e := List.forall_mem_cons.mpr ⟨⟨(tb7 _ (List.mem_of_getElem? (i := 29) rfl)), (tb1 _ (List.mem_of_getElem? (i := 13) rfl)), cn_BitmapVolumeModel.1, cn_BitmapVolumeModel.2.1, cn_BitmapVolumeModel.2.2, rfl⟩, List.forall_mem_cons.mpr ⟨⟨(tb6 _ (List.mem_of_getElem? (i := 222) rfl)), (tb1 _ (List.mem_of_getElem? (i := 13) rfl)), cn_BitmapVolumeModel.1, cn_BitmapVolumeModel.2.1, cn_BitmapVolumeModel.2.2, rfl⟩, List.forall_mem_cons.mpr ⟨⟨(tb7 _ (List.mem_of_getElem? (i := 17) rfl)), (tb1 _ (List.mem_of_getElem? (i := 13) rfl)), cn_BitmapVolumeModel.1, cn_BitmapVolumeModel.2.1, cn_BitmapVolumeModel.2.2, rfl⟩, List.forall_mem_cons.mpr ⟨⟨(tb6 _ (List.mem_of_getElem? (i := 197) rfl)), (tb1 _ (List.mem_of_getElem? (i := 13) rfl)), cn_BitmapVolumeModel.1, cn_BitmapVolumeModel.2.1, cn_BitmapVolumeModel.2.2, rfl⟩, List.forall_mem_cons.mpr ⟨⟨(tb6 _ (List.mem_of_getElem? (i := 189) rfl)), (tb1 _ (List.mem_of_getElem? (i := 13) rfl)), cn_BitmapVolumeModel.1, cn_BitmapVolumeModel.2.1, cn_BitmapVolumeModel.2.2, rfl⟩, List.forall_mem_cons.mpr ⟨⟨(tb7 _ (List.mem_of_getElem? (i := 57) rfl)), (tb1 _ (List.mem_of_getElem? (i := 13) rfl)), cn_BitmapVolumeModel.1, cn_BitmapVolumeModel.2.1, cn_BitmapVolumeModel.2.2, rfl⟩, List.forall_mem_cons.mpr ⟨⟨(tb7 _ (List.mem_of_getElem? (i := 53) rfl)), (tb1 _ (List.mem_of_getElem? (i := 13) rfl)), cn_BitmapVolumeModel.1, cn_BitmapVolumeModel.2.1, cn_BitmapVolumeModel.2.2, rfl⟩, List.forall_mem_cons.mpr ⟨⟨(tb6 _ (List.mem_of_getElem? (i := 139) rfl)), (tb1 _ (List.mem_of_getElem? (i := 13) rfl)), cn_BitmapVolumeModel.1, cn_BitmapVolumeModel.2.1, cn_BitmapVolumeModel.2.2, rfl⟩, List.forall_mem_cons.mpr ⟨⟨(tb7 _ (List.mem_of_getElem? (i := 61) rfl)), (tb1 _ (List.mem_of_getElem? (i := 13) rfl)), cn_BitmapVolumeModel.1, cn_BitmapVolumeModel.2.1, cn_BitmapVolumeModel.2.2, rfl⟩, List.forall_mem_cons.mpr ⟨⟨(tb7 _ (List.mem_of_getElem? (i := 81) rfl)), (tb1 _ (List.mem_of_getElem? (i := 13) rfl)), cn_BitmapVolumeModel.1, cn_BitmapVolumeModel.2.1, cn_BitmapVolumeModel.2.2, rfl⟩, List.forall_mem_cons.mpr ⟨⟨(tb7 _ (List.mem_of_getElem? (i := 85) rfl)), (tb1 _ (List.mem_of_getElem? (i := 13) rfl)), cn_BitmapVolumeModel.1, cn_BitmapVolumeModel.2.1, cn_BitmapVolumeModel.2.2, rfl⟩, List.forall_mem_cons.mpr ⟨⟨(tb7 _ (List.mem_of_getElem? (i := 89) rfl)), (tb1 _ (List.mem_of_getElem? (i := 13) rfl)), cn_BitmapVolumeModel.1, cn_BitmapVolumeModel.2.1, cn_BitmapVolumeModel.2.2, rfl⟩, List.forall_mem_cons.mpr ⟨⟨(tb7 _ (List.mem_of_getElem? (i := 93) rfl)), (tb1 _ (List.mem_of_getElem? (i := 13) rfl)), cn_BitmapVolumeModel.1, cn_BitmapVolumeModel.2.1, cn_BitmapVolumeModel.2.2, rfl⟩, List.forall_mem_cons.mpr ⟨⟨(tb7 _ (List.mem_of_getElem? (i := 101) rfl)), (tb1 _ (List.mem_of_getElem? (i := 13) rfl)), cn_BitmapVolumeModel.1, cn_BitmapVolumeModel.2.1, cn_BitmapVolumeModel.2.2, rfl⟩, List.forall_mem_cons.mpr ⟨⟨(tb7 _ (List.mem_of_getElem? (i := 117) rfl)), (tb1 _ (List.mem_of_getElem? (i := 13) rfl)), cn_BitmapVolumeModel.1, cn_BitmapVolumeModel.2.1, cn_BitmapVolumeModel.2.2, rfl⟩, List.forall_mem_cons.mpr ⟨⟨(tb7 _ (List.mem_of_getElem? (i := 97) rfl)), (tb1 _ (List.mem_of_getElem? (i := 13) rfl)), cn_BitmapVolumeModel.1, cn_BitmapVolumeModel.2.1, cn_BitmapVolumeModel.2.2, rfl⟩, List.forall_mem_cons.mpr ⟨⟨(tb7 _ (List.mem_of_getElem? (i := 121) rfl)), (tb1 _ (List.mem_of_getElem? (i := 13) rfl)), cn_BitmapVolumeModel.1, cn_BitmapVolumeModel.2.1, cn_BitmapVolumeModel.2.2, rfl⟩, List.forall_mem_cons.mpr ⟨⟨(tb7 _ (List.mem_of_getElem? (i := 137) rfl)), (tb1 _ (List.mem_of_getElem? (i := 13) rfl)), cn_BitmapVolumeModel.1, cn_BitmapVolumeModel.2.1, cn_BitmapVolumeModel.2.2, rfl⟩, List.forall_mem_cons.mpr ⟨⟨(tb7 _ (List.mem_of_getElem? (i := 65) rfl)), (tb1 _ (List.mem_of_getElem? (i := 13) rfl)), cn_BitmapVolumeModel.1, cn_BitmapVolumeModel.2.1, cn_BitmapVolumeModel.2.2, rfl⟩, List.forall_mem_cons.mpr ⟨⟨(tb7 _ (List.mem_of_getElem? (i := 129) rfl)), (tb1 _ (List.mem_of_getElem? (i := 13) rfl)), cn_BitmapVolumeModel.1, cn_BitmapVolumeModel.2.1, cn_BitmapVolumeModel.2.2, rfl⟩, (fun _ h => absurd h List.not_mem_nil)⟩⟩⟩⟩⟩⟩⟩⟩⟩⟩⟩⟩⟩⟩⟩⟩⟩⟩⟩⟩
def mt_12 : List MT := [(yX12_planFor, cX12_planFor, 4, none, 4, 94, 12), (yX12_reserve, cX12_reserve, 3, none, 0, 0, 12), (yX12_areFree, cX12_areFree, 5, some .boolean, 3, 63, 12), (yX12_plans, cX12_plans, 7, some .boolean, 4, 87, 12), (yX12_wantChain, cX12_wantChain, 3, none, 2, 48, 12), (yX12_wantJoint, cX12_wantJoint, 2, none, 2, 48, 12), (yX12_chains, cX12_chains, 1, some .boolean, 3, 70, 12), (yX12_wantTaken, cX12_wantTaken, 3, none, 2, 44, 12), (yX12_plannedAt, cX12_plannedAt, 3, some .int, 0, 0, 12), (yX12_emptyNew, cX12_emptyNew, 4, none, 1, 20, 12), (yX12_rowOfPlan, cX12_rowOfPlan, 3, none, 1, 22, 12), (yX12_wantedType, cX12_wantedType, 2, some .int, 2, 41, 12), (yX12_spaceFor, cX12_spaceFor, 5, some .int, 3, 62, 12), (yX12_seal, cX12_seal, 3, none, 3, 68, 12), (yX12_laySet, cX12_laySet, 16, none, 4, 90, 12), (yX12_wantStream, cX12_wantStream, 6, none, 1, 25, 12), (yX12_changeSet, cX12_changeSet, 7, none, 4, 94, 12), (yX12_unuse, cX12_unuse, 3, none, 4, 94, 12), (yX12_planSpace, cX12_planSpace, 4, some .int, 5, 117, 12), (yX12_areUnused, cX12_areUnused, 5, some .boolean, 3, 62, 12)]
set_option maxRecDepth 100000 in
theorem mt_ok_12 : ∀ e ∈ mt_12, mtP e := List.forall_mem_cons.mpr ⟨⟨(tb7 _ (List.mem_of_getElem? (i := 153) rfl)), (tb1 _ (List.mem_of_getElem? (i := 13) rfl)), cn_BitmapVolumeModel.1, cn_BitmapVolumeModel.2.1, cn_BitmapVolumeModel.2.2, rfl⟩, List.forall_mem_cons.mpr ⟨⟨(tb7 _ (List.mem_of_getElem? (i := 145) rfl)), (tb1 _ (List.mem_of_getElem? (i := 13) rfl)), cn_BitmapVolumeModel.1, cn_BitmapVolumeModel.2.1, cn_BitmapVolumeModel.2.2, rfl⟩, List.forall_mem_cons.mpr ⟨⟨(tb7 _ (List.mem_of_getElem? (i := 141) rfl)), (tb1 _ (List.mem_of_getElem? (i := 13) rfl)), cn_BitmapVolumeModel.1, cn_BitmapVolumeModel.2.1, cn_BitmapVolumeModel.2.2, rfl⟩, List.forall_mem_cons.mpr ⟨⟨(tb7 _ (List.mem_of_getElem? (i := 133) rfl)), (tb1 _ (List.mem_of_getElem? (i := 13) rfl)), cn_BitmapVolumeModel.1, cn_BitmapVolumeModel.2.1, cn_BitmapVolumeModel.2.2, rfl⟩, List.forall_mem_cons.mpr ⟨⟨(tb7 _ (List.mem_of_getElem? (i := 200) rfl)), (tb1 _ (List.mem_of_getElem? (i := 13) rfl)), cn_BitmapVolumeModel.1, cn_BitmapVolumeModel.2.1, cn_BitmapVolumeModel.2.2, rfl⟩, List.forall_mem_cons.mpr ⟨⟨(tb7 _ (List.mem_of_getElem? (i := 204) rfl)), (tb1 _ (List.mem_of_getElem? (i := 13) rfl)), cn_BitmapVolumeModel.1, cn_BitmapVolumeModel.2.1, cn_BitmapVolumeModel.2.2, rfl⟩, List.forall_mem_cons.mpr ⟨⟨(tb7 _ (List.mem_of_getElem? (i := 196) rfl)), (tb1 _ (List.mem_of_getElem? (i := 13) rfl)), cn_BitmapVolumeModel.1, cn_BitmapVolumeModel.2.1, cn_BitmapVolumeModel.2.2, rfl⟩, List.forall_mem_cons.mpr ⟨⟨(tb7 _ (List.mem_of_getElem? (i := 208) rfl)), (tb1 _ (List.mem_of_getElem? (i := 13) rfl)), cn_BitmapVolumeModel.1, cn_BitmapVolumeModel.2.1, cn_BitmapVolumeModel.2.2, rfl⟩, List.forall_mem_cons.mpr ⟨⟨(tb7 _ (List.mem_of_getElem? (i := 161) rfl)), (tb1 _ (List.mem_of_getElem? (i := 13) rfl)), cn_BitmapVolumeModel.1, cn_BitmapVolumeModel.2.1, cn_BitmapVolumeModel.2.2, rfl⟩, List.forall_mem_cons.mpr ⟨⟨(tb7 _ (List.mem_of_getElem? (i := 192) rfl)), (tb1 _ (List.mem_of_getElem? (i := 13) rfl)), cn_BitmapVolumeModel.1, cn_BitmapVolumeModel.2.1, cn_BitmapVolumeModel.2.2, rfl⟩, List.forall_mem_cons.mpr ⟨⟨(tb7 _ (List.mem_of_getElem? (i := 157) rfl)), (tb1 _ (List.mem_of_getElem? (i := 13) rfl)), cn_BitmapVolumeModel.1, cn_BitmapVolumeModel.2.1, cn_BitmapVolumeModel.2.2, rfl⟩, List.forall_mem_cons.mpr ⟨⟨(tb7 _ (List.mem_of_getElem? (i := 169) rfl)), (tb1 _ (List.mem_of_getElem? (i := 13) rfl)), cn_BitmapVolumeModel.1, cn_BitmapVolumeModel.2.1, cn_BitmapVolumeModel.2.2, rfl⟩, List.forall_mem_cons.mpr ⟨⟨(tb7 _ (List.mem_of_getElem? (i := 165) rfl)), (tb1 _ (List.mem_of_getElem? (i := 13) rfl)), cn_BitmapVolumeModel.1, cn_BitmapVolumeModel.2.1, cn_BitmapVolumeModel.2.2, rfl⟩, List.forall_mem_cons.mpr ⟨⟨(tb7 _ (List.mem_of_getElem? (i := 228) rfl)), (tb1 _ (List.mem_of_getElem? (i := 13) rfl)), cn_BitmapVolumeModel.1, cn_BitmapVolumeModel.2.1, cn_BitmapVolumeModel.2.2, rfl⟩, List.forall_mem_cons.mpr ⟨⟨(tb7 _ (List.mem_of_getElem? (i := 232) rfl)), (tb1 _ (List.mem_of_getElem? (i := 13) rfl)), cn_BitmapVolumeModel.1, cn_BitmapVolumeModel.2.1, cn_BitmapVolumeModel.2.2, rfl⟩, List.forall_mem_cons.mpr ⟨⟨(tb7 _ (List.mem_of_getElem? (i := 224) rfl)), (tb1 _ (List.mem_of_getElem? (i := 13) rfl)), cn_BitmapVolumeModel.1, cn_BitmapVolumeModel.2.1, cn_BitmapVolumeModel.2.2, rfl⟩, List.forall_mem_cons.mpr ⟨⟨(tb7 _ (List.mem_of_getElem? (i := 220) rfl)), (tb1 _ (List.mem_of_getElem? (i := 13) rfl)), cn_BitmapVolumeModel.1, cn_BitmapVolumeModel.2.1, cn_BitmapVolumeModel.2.2, rfl⟩, List.forall_mem_cons.mpr ⟨⟨(tb8 _ (List.mem_of_getElem? (i := 20) rfl)), (tb1 _ (List.mem_of_getElem? (i := 13) rfl)), cn_BitmapVolumeModel.1, cn_BitmapVolumeModel.2.1, cn_BitmapVolumeModel.2.2, rfl⟩, List.forall_mem_cons.mpr ⟨⟨(tb7 _ (List.mem_of_getElem? (i := 149) rfl)), (tb1 _ (List.mem_of_getElem? (i := 13) rfl)), cn_BitmapVolumeModel.1, cn_BitmapVolumeModel.2.1, cn_BitmapVolumeModel.2.2, rfl⟩, List.forall_mem_cons.mpr ⟨⟨(tb7 _ (List.mem_of_getElem? (i := 180) rfl)), (tb1 _ (List.mem_of_getElem? (i := 13) rfl)), cn_BitmapVolumeModel.1, cn_BitmapVolumeModel.2.1, cn_BitmapVolumeModel.2.2, rfl⟩, (fun _ h => absurd h List.not_mem_nil)⟩⟩⟩⟩⟩⟩⟩⟩⟩⟩⟩⟩⟩⟩⟩⟩⟩⟩⟩⟩
def mt_13 : List MT := [(yX12_firstSpace, cX12_firstSpace, 3, some .int, 4, 86, 12), (yX12_comesIn, cX12_comesIn, 2, some .boolean, 4, 90, 12), (yX12_grow, cX12_grow, 2, none, 5, 120, 12), (yX12_make, cX12_make, 7, some .int, 8, 183, 12), (yX12_write, cX12_write, 10, some .int, 8, 183, 12), (yX12_frees, cX12_frees, 4, some .boolean, 2, 48, 12), (yX12_cut, cX12_cut, 6, some .int, 8, 183, 12), (yX12_drop, cX12_drop, 4, some .int, 7, 161, 12), (yX12_isWithin, cX12_isWithin, 4, some .boolean, 0, 0, 12), (yX12_move, cX12_move, 13, some .int, 8, 183, 12), (yX12_bar, cX12_bar, 5, some .int, 7, 161, 12), (yX12_read, cX12_read, 9, some .long, 8, 183, 12), (yX12_told, cX12_told, 6, some .int, 7, 161, 12), (yX12_letter, cX12_letter, 5, some .int, 7, 161, 12), (yX12_cluster, cX12_cluster, 4, some .int, 7, 161, 12), (yX12_longestFree, cX12_longestFree, 4, some .int, 2, 42, 12), (yX12_count, cX12_count, 2, some .int, 3, 65, 12), (⟨"java/util/Arrays", "fill", "([II)V"⟩, prog_17_method_103_code, 4, none, 0, 0, 13)]
set_option maxRecDepth 100000 in
theorem mt_ok_13 : ∀ e ∈ mt_13, mtP e := List.forall_mem_cons.mpr ⟨⟨(tb7 _ (List.mem_of_getElem? (i := 173) rfl)), (tb1 _ (List.mem_of_getElem? (i := 13) rfl)), cn_BitmapVolumeModel.1, cn_BitmapVolumeModel.2.1, cn_BitmapVolumeModel.2.2, rfl⟩, List.forall_mem_cons.mpr ⟨⟨(tb7 _ (List.mem_of_getElem? (i := 188) rfl)), (tb1 _ (List.mem_of_getElem? (i := 13) rfl)), cn_BitmapVolumeModel.1, cn_BitmapVolumeModel.2.1, cn_BitmapVolumeModel.2.2, rfl⟩, List.forall_mem_cons.mpr ⟨⟨(tb7 _ (List.mem_of_getElem? (i := 216) rfl)), (tb1 _ (List.mem_of_getElem? (i := 13) rfl)), cn_BitmapVolumeModel.1, cn_BitmapVolumeModel.2.1, cn_BitmapVolumeModel.2.2, rfl⟩, List.forall_mem_cons.mpr ⟨⟨(tb7 _ (List.mem_of_getElem? (i := 125) rfl)), (tb1 _ (List.mem_of_getElem? (i := 13) rfl)), cn_BitmapVolumeModel.1, cn_BitmapVolumeModel.2.1, cn_BitmapVolumeModel.2.2, rfl⟩, List.forall_mem_cons.mpr ⟨⟨(tb7 _ (List.mem_of_getElem? (i := 236) rfl)), (tb1 _ (List.mem_of_getElem? (i := 13) rfl)), cn_BitmapVolumeModel.1, cn_BitmapVolumeModel.2.1, cn_BitmapVolumeModel.2.2, rfl⟩, List.forall_mem_cons.mpr ⟨⟨(tb8 _ (List.mem_of_getElem? (i := 12) rfl)), (tb1 _ (List.mem_of_getElem? (i := 13) rfl)), cn_BitmapVolumeModel.1, cn_BitmapVolumeModel.2.1, cn_BitmapVolumeModel.2.2, rfl⟩, List.forall_mem_cons.mpr ⟨⟨(tb8 _ (List.mem_of_getElem? (i := 8) rfl)), (tb1 _ (List.mem_of_getElem? (i := 13) rfl)), cn_BitmapVolumeModel.1, cn_BitmapVolumeModel.2.1, cn_BitmapVolumeModel.2.2, rfl⟩, List.forall_mem_cons.mpr ⟨⟨(tb8 _ (List.mem_of_getElem? (i := 16) rfl)), (tb1 _ (List.mem_of_getElem? (i := 13) rfl)), cn_BitmapVolumeModel.1, cn_BitmapVolumeModel.2.1, cn_BitmapVolumeModel.2.2, rfl⟩, List.forall_mem_cons.mpr ⟨⟨(tb8 _ (List.mem_of_getElem? (i := 28) rfl)), (tb1 _ (List.mem_of_getElem? (i := 13) rfl)), cn_BitmapVolumeModel.1, cn_BitmapVolumeModel.2.1, cn_BitmapVolumeModel.2.2, rfl⟩, List.forall_mem_cons.mpr ⟨⟨(tb8 _ (List.mem_of_getElem? (i := 24) rfl)), (tb1 _ (List.mem_of_getElem? (i := 13) rfl)), cn_BitmapVolumeModel.1, cn_BitmapVolumeModel.2.1, cn_BitmapVolumeModel.2.2, rfl⟩, List.forall_mem_cons.mpr ⟨⟨(tb8 _ (List.mem_of_getElem? (i := 32) rfl)), (tb1 _ (List.mem_of_getElem? (i := 13) rfl)), cn_BitmapVolumeModel.1, cn_BitmapVolumeModel.2.1, cn_BitmapVolumeModel.2.2, rfl⟩, List.forall_mem_cons.mpr ⟨⟨(tb8 _ (List.mem_of_getElem? (i := 36) rfl)), (tb1 _ (List.mem_of_getElem? (i := 13) rfl)), cn_BitmapVolumeModel.1, cn_BitmapVolumeModel.2.1, cn_BitmapVolumeModel.2.2, rfl⟩, List.forall_mem_cons.mpr ⟨⟨(tb8 _ (List.mem_of_getElem? (i := 40) rfl)), (tb1 _ (List.mem_of_getElem? (i := 13) rfl)), cn_BitmapVolumeModel.1, cn_BitmapVolumeModel.2.1, cn_BitmapVolumeModel.2.2, rfl⟩, List.forall_mem_cons.mpr ⟨⟨(tb8 _ (List.mem_of_getElem? (i := 44) rfl)), (tb1 _ (List.mem_of_getElem? (i := 13) rfl)), cn_BitmapVolumeModel.1, cn_BitmapVolumeModel.2.1, cn_BitmapVolumeModel.2.2, rfl⟩, List.forall_mem_cons.mpr ⟨⟨(tb8 _ (List.mem_of_getElem? (i := 48) rfl)), (tb1 _ (List.mem_of_getElem? (i := 13) rfl)), cn_BitmapVolumeModel.1, cn_BitmapVolumeModel.2.1, cn_BitmapVolumeModel.2.2, rfl⟩, List.forall_mem_cons.mpr ⟨⟨(tb8 _ (List.mem_of_getElem? (i := 57) rfl)), (tb1 _ (List.mem_of_getElem? (i := 13) rfl)), cn_BitmapVolumeModel.1, cn_BitmapVolumeModel.2.1, cn_BitmapVolumeModel.2.2, rfl⟩, List.forall_mem_cons.mpr ⟨⟨(tb8 _ (List.mem_of_getElem? (i := 52) rfl)), (tb1 _ (List.mem_of_getElem? (i := 13) rfl)), cn_BitmapVolumeModel.1, cn_BitmapVolumeModel.2.1, cn_BitmapVolumeModel.2.2, rfl⟩, List.forall_mem_cons.mpr ⟨⟨(tb2 _ (List.mem_of_getElem? (i := 116) rfl)), (tb1 _ (List.mem_of_getElem? (i := 14) rfl)), cn_java_util_Arrays.1, cn_java_util_Arrays.2.1, cn_java_util_Arrays.2.2, rfl⟩, (fun _ h => absurd h List.not_mem_nil)⟩⟩⟩⟩⟩⟩⟩⟩⟩⟩⟩⟩⟩⟩⟩⟩⟩⟩
def mtb : List (List MT) := [mt_0, mt_1, mt_2, mt_3, mt_4, mt_5, mt_6, mt_7, mt_8, mt_9, mt_10, mt_11, mt_12, mt_13]
theorem mt_all : ∀ ch ∈ mtb, ∀ e ∈ ch, mtP e := List.forall_mem_cons.mpr ⟨mt_ok_0, List.forall_mem_cons.mpr ⟨mt_ok_1, List.forall_mem_cons.mpr ⟨mt_ok_2, List.forall_mem_cons.mpr ⟨mt_ok_3, List.forall_mem_cons.mpr ⟨mt_ok_4, List.forall_mem_cons.mpr ⟨mt_ok_5, List.forall_mem_cons.mpr ⟨mt_ok_6, List.forall_mem_cons.mpr ⟨mt_ok_7, List.forall_mem_cons.mpr ⟨mt_ok_8, List.forall_mem_cons.mpr ⟨mt_ok_9, List.forall_mem_cons.mpr ⟨mt_ok_10, List.forall_mem_cons.mpr ⟨mt_ok_11, List.forall_mem_cons.mpr ⟨mt_ok_12, List.forall_mem_cons.mpr ⟨mt_ok_13, (fun _ h => absurd h List.not_mem_nil)⟩⟩⟩⟩⟩⟩⟩⟩⟩⟩⟩⟩⟩⟩
def mI (i : Nat) : MT := (mtb.getD (i / 20) []).getD (i % 20) mD
abbrev mN (i : Nat) : MethodName := (mI i).1
abbrev mC (i : Nat) : ByteArray := (mI i).2.1
abbrev mL (i : Nat) : Nat := (mI i).2.2.1
abbrev mR (i : Nat) : Option FieldType := (mI i).2.2.2.1
abbrev mF (i : Nat) : Nat := (mI i).2.2.2.2.1
abbrev mO (i : Nat) : Nat := (mI i).2.2.2.2.2.1
abbrev mK (i : Nat) : Nat := (mI i).2.2.2.2.2.2
abbrev mW (i : Nat) : Cond := .code (mN i) (mC i) (mL i) (mR i)
abbrev LK : Type := Nat × Nat × Nat × Bool × Nat
def mlP (e : LK) : Prop := Cond.methodLink (oS e.1) e.2.1 (mN e.2.2.1) ∈ lw_tbl ∧ (parseMethodDescriptor (mN e.2.2.1).desc).map (fun d => d.parameters.length) = some e.2.2.2.2 ∧ (e.2.2.2.1 = true → Cond.static (mN e.2.2.1) ∈ lw_tbl) ∧ (e.2.2.2.1 = false → Cond.instanceMethod (mN e.2.2.1) ∈ lw_tbl ∧ Cond.selects (mN e.2.2.1).cls (mN e.2.2.1) (mN e.2.2.1) ∈ lw_tbl)
def mlt_0 : List LK := [(11, 82, 62, false, 0), (5, 30, 277, true, 2), (11, 85, 13, false, 5), (1, 19, 277, true, 2), (1, 26, 14, false, 2), (1, 32, 15, false, 0), (11, 89, 16, false, 1), (1, 36, 57, false, 2), (11, 93, 59, false, 2), (5, 22, 57, false, 2), (11, 97, 109, true, 1), (11, 101, 57, false, 2), (11, 104, 22, true, 2), (2, 47, 23, true, 3), (2, 55, 58, false, 2), (2, 51, 24, true, 4), (11, 108, 21, true, 3), (2, 44, 54, false, 1), (11, 112, 63, false, 0), (11, 115, 53, true, 2)]
set_option maxRecDepth 100000 in
theorem mlt_ok_0 : ∀ e ∈ mlt_0, mlP e := List.forall_mem_cons.mpr ⟨⟨(tb2 _ (List.mem_of_getElem? (i := 110) rfl)), rfl, fun h => absurd h (by decide), fun _ => ⟨(tb2 _ (List.mem_of_getElem? (i := 111) rfl)), (tb2 _ (List.mem_of_getElem? (i := 112) rfl))⟩⟩, List.forall_mem_cons.mpr ⟨⟨(tb2 _ (List.mem_of_getElem? (i := 114) rfl)), rfl, fun _ => (tb2 _ (List.mem_of_getElem? (i := 115) rfl)), fun h => absurd h (by decide)⟩, List.forall_mem_cons.mpr ⟨⟨(tb2 _ (List.mem_of_getElem? (i := 117) rfl)), rfl, fun h => absurd h (by decide), fun _ => ⟨(tb2 _ (List.mem_of_getElem? (i := 118) rfl)), (tb2 _ (List.mem_of_getElem? (i := 119) rfl))⟩⟩, List.forall_mem_cons.mpr ⟨⟨(tb2 _ (List.mem_of_getElem? (i := 121) rfl)), rfl, fun _ => (tb2 _ (List.mem_of_getElem? (i := 115) rfl)), fun h => absurd h (by decide)⟩, List.forall_mem_cons.mpr ⟨⟨(tb2 _ (List.mem_of_getElem? (i := 123) rfl)), rfl, fun h => absurd h (by decide), fun _ => ⟨(tb2 _ (List.mem_of_getElem? (i := 125) rfl)), (tbp1 _ (List.mem_of_getElem? (i := 0) rfl))⟩⟩, List.forall_mem_cons.mpr ⟨⟨(tb2 _ (List.mem_of_getElem? (i := 129) rfl)), rfl, fun h => absurd h (by decide), fun _ => ⟨(tb2 _ (List.mem_of_getElem? (i := 131) rfl)), (tbp1 _ (List.mem_of_getElem? (i := 1) rfl))⟩⟩, List.forall_mem_cons.mpr ⟨⟨(tb2 _ (List.mem_of_getElem? (i := 133) rfl)), rfl, fun h => absurd h (by decide), fun _ => ⟨(tb2 _ (List.mem_of_getElem? (i := 134) rfl)), (tb2 _ (List.mem_of_getElem? (i := 135) rfl))⟩⟩, List.forall_mem_cons.mpr ⟨⟨(tb2 _ (List.mem_of_getElem? (i := 137) rfl)), rfl, fun h => absurd h (by decide), fun _ => ⟨(tb2 _ (List.mem_of_getElem? (i := 138) rfl)), (tb2 _ (List.mem_of_getElem? (i := 139) rfl))⟩⟩, List.forall_mem_cons.mpr ⟨⟨(tb2 _ (List.mem_of_getElem? (i := 141) rfl)), rfl, fun h => absurd h (by decide), fun _ => ⟨(tb2 _ (List.mem_of_getElem? (i := 142) rfl)), (tb2 _ (List.mem_of_getElem? (i := 143) rfl))⟩⟩, List.forall_mem_cons.mpr ⟨⟨(tb2 _ (List.mem_of_getElem? (i := 145) rfl)), rfl, fun h => absurd h (by decide), fun _ => ⟨(tb2 _ (List.mem_of_getElem? (i := 138) rfl)), (tb2 _ (List.mem_of_getElem? (i := 139) rfl))⟩⟩, List.forall_mem_cons.mpr ⟨⟨(tb2 _ (List.mem_of_getElem? (i := 146) rfl)), rfl, fun _ => (tb2 _ (List.mem_of_getElem? (i := 147) rfl)), fun h => absurd h (by decide)⟩, List.forall_mem_cons.mpr ⟨⟨(tb2 _ (List.mem_of_getElem? (i := 149) rfl)), rfl, fun h => absurd h (by decide), fun _ => ⟨(tb2 _ (List.mem_of_getElem? (i := 138) rfl)), (tb2 _ (List.mem_of_getElem? (i := 139) rfl))⟩⟩, List.forall_mem_cons.mpr ⟨⟨(tb2 _ (List.mem_of_getElem? (i := 150) rfl)), rfl, fun _ => (tb2 _ (List.mem_of_getElem? (i := 151) rfl)), fun h => absurd h (by decide)⟩, List.forall_mem_cons.mpr ⟨⟨(tb2 _ (List.mem_of_getElem? (i := 153) rfl)), rfl, fun _ => (tb2 _ (List.mem_of_getElem? (i := 154) rfl)), fun h => absurd h (by decide)⟩, List.forall_mem_cons.mpr ⟨⟨(tb2 _ (List.mem_of_getElem? (i := 157) rfl)), rfl, fun h => absurd h (by decide), fun _ => ⟨(tb2 _ (List.mem_of_getElem? (i := 158) rfl)), (tb2 _ (List.mem_of_getElem? (i := 159) rfl))⟩⟩, List.forall_mem_cons.mpr ⟨⟨(tb2 _ (List.mem_of_getElem? (i := 161) rfl)), rfl, fun _ => (tb2 _ (List.mem_of_getElem? (i := 162) rfl)), fun h => absurd h (by decide)⟩, List.forall_mem_cons.mpr ⟨⟨(tb2 _ (List.mem_of_getElem? (i := 164) rfl)), rfl, fun _ => (tb2 _ (List.mem_of_getElem? (i := 165) rfl)), fun h => absurd h (by decide)⟩, List.forall_mem_cons.mpr ⟨⟨(tb2 _ (List.mem_of_getElem? (i := 167) rfl)), rfl, fun h => absurd h (by decide), fun _ => ⟨(tb2 _ (List.mem_of_getElem? (i := 168) rfl)), (tb2 _ (List.mem_of_getElem? (i := 169) rfl))⟩⟩, List.forall_mem_cons.mpr ⟨⟨(tb2 _ (List.mem_of_getElem? (i := 171) rfl)), rfl, fun h => absurd h (by decide), fun _ => ⟨(tb2 _ (List.mem_of_getElem? (i := 172) rfl)), (tb2 _ (List.mem_of_getElem? (i := 173) rfl))⟩⟩, List.forall_mem_cons.mpr ⟨⟨(tb2 _ (List.mem_of_getElem? (i := 182) rfl)), rfl, fun _ => (tb2 _ (List.mem_of_getElem? (i := 183) rfl)), fun h => absurd h (by decide)⟩, (fun _ h => absurd h List.not_mem_nil)⟩⟩⟩⟩⟩⟩⟩⟩⟩⟩⟩⟩⟩⟩⟩⟩⟩⟩⟩⟩
def mlt_1 : List LK := [(11, 119, 54, false, 1), (11, 126, 34, false, 0), (4, 70, 17, false, 1), (1, 41, 56, false, 1), (1, 45, 55, false, 1), (1, 48, 54, false, 1), (1, 51, 13, false, 5), (4, 76, 33, false, 3), (4, 84, 56, false, 1), (4, 98, 111, false, 1), (9, 19, 56, false, 1), (4, 101, 35, false, 0), (4, 114, 36, false, 1), (4, 118, 110, false, 1), (4, 121, 37, false, 1), (4, 105, 109, true, 1), (4, 108, 39, false, 1), (4, 124, 54, false, 1), (4, 127, 61, false, 2), (5, 26, 54, false, 1)]
set_option maxRecDepth 100000 in
theorem mlt_ok_1 : ∀ e ∈ mlt_1, mlP e := List.forall_mem_cons.mpr ⟨⟨(tb2 _ (List.mem_of_getElem? (i := 185) rfl)), rfl, fun h => absurd h (by decide), fun _ => ⟨(tb2 _ (List.mem_of_getElem? (i := 168) rfl)), (tb2 _ (List.mem_of_getElem? (i := 169) rfl))⟩⟩, List.forall_mem_cons.mpr ⟨⟨(tb2 _ (List.mem_of_getElem? (i := 198) rfl)), rfl, fun h => absurd h (by decide), fun _ => ⟨(tb2 _ (List.mem_of_getElem? (i := 199) rfl)), (tb2 _ (List.mem_of_getElem? (i := 200) rfl))⟩⟩, List.forall_mem_cons.mpr ⟨⟨(tb2 _ (List.mem_of_getElem? (i := 202) rfl)), rfl, fun h => absurd h (by decide), fun _ => ⟨(tb2 _ (List.mem_of_getElem? (i := 203) rfl)), (tb2 _ (List.mem_of_getElem? (i := 204) rfl))⟩⟩, List.forall_mem_cons.mpr ⟨⟨(tb2 _ (List.mem_of_getElem? (i := 206) rfl)), rfl, fun h => absurd h (by decide), fun _ => ⟨(tb2 _ (List.mem_of_getElem? (i := 207) rfl)), (tb2 _ (List.mem_of_getElem? (i := 208) rfl))⟩⟩, List.forall_mem_cons.mpr ⟨⟨(tb2 _ (List.mem_of_getElem? (i := 210) rfl)), rfl, fun h => absurd h (by decide), fun _ => ⟨(tb2 _ (List.mem_of_getElem? (i := 211) rfl)), (tb2 _ (List.mem_of_getElem? (i := 212) rfl))⟩⟩, List.forall_mem_cons.mpr ⟨⟨(tb2 _ (List.mem_of_getElem? (i := 214) rfl)), rfl, fun h => absurd h (by decide), fun _ => ⟨(tb2 _ (List.mem_of_getElem? (i := 168) rfl)), (tb2 _ (List.mem_of_getElem? (i := 169) rfl))⟩⟩, List.forall_mem_cons.mpr ⟨⟨(tb2 _ (List.mem_of_getElem? (i := 215) rfl)), rfl, fun h => absurd h (by decide), fun _ => ⟨(tb2 _ (List.mem_of_getElem? (i := 118) rfl)), (tb2 _ (List.mem_of_getElem? (i := 119) rfl))⟩⟩, List.forall_mem_cons.mpr ⟨⟨(tb2 _ (List.mem_of_getElem? (i := 216) rfl)), rfl, fun h => absurd h (by decide), fun _ => ⟨(tb2 _ (List.mem_of_getElem? (i := 218) rfl)), (tbp1 _ (List.mem_of_getElem? (i := 2) rfl))⟩⟩, List.forall_mem_cons.mpr ⟨⟨(tb2 _ (List.mem_of_getElem? (i := 220) rfl)), rfl, fun h => absurd h (by decide), fun _ => ⟨(tb2 _ (List.mem_of_getElem? (i := 207) rfl)), (tb2 _ (List.mem_of_getElem? (i := 208) rfl))⟩⟩, List.forall_mem_cons.mpr ⟨⟨(tb2 _ (List.mem_of_getElem? (i := 221) rfl)), rfl, fun h => absurd h (by decide), fun _ => ⟨(tb2 _ (List.mem_of_getElem? (i := 222) rfl)), (tb2 _ (List.mem_of_getElem? (i := 223) rfl))⟩⟩, List.forall_mem_cons.mpr ⟨⟨(tb2 _ (List.mem_of_getElem? (i := 225) rfl)), rfl, fun h => absurd h (by decide), fun _ => ⟨(tb2 _ (List.mem_of_getElem? (i := 207) rfl)), (tb2 _ (List.mem_of_getElem? (i := 208) rfl))⟩⟩, List.forall_mem_cons.mpr ⟨⟨(tb2 _ (List.mem_of_getElem? (i := 226) rfl)), rfl, fun h => absurd h (by decide), fun _ => ⟨(tb2 _ (List.mem_of_getElem? (i := 228) rfl)), (tbp1 _ (List.mem_of_getElem? (i := 3) rfl))⟩⟩, List.forall_mem_cons.mpr ⟨⟨(tb2 _ (List.mem_of_getElem? (i := 230) rfl)), rfl, fun h => absurd h (by decide), fun _ => ⟨(tb2 _ (List.mem_of_getElem? (i := 232) rfl)), (tbp1 _ (List.mem_of_getElem? (i := 4) rfl))⟩⟩, List.forall_mem_cons.mpr ⟨⟨(tb2 _ (List.mem_of_getElem? (i := 234) rfl)), rfl, fun h => absurd h (by decide), fun _ => ⟨(tb2 _ (List.mem_of_getElem? (i := 235) rfl)), (tb2 _ (List.mem_of_getElem? (i := 236) rfl))⟩⟩, List.forall_mem_cons.mpr ⟨⟨(tb2 _ (List.mem_of_getElem? (i := 238) rfl)), rfl, fun h => absurd h (by decide), fun _ => ⟨(tb3 _ (List.mem_of_getElem? (i := 0) rfl)), (tbp1 _ (List.mem_of_getElem? (i := 5) rfl))⟩⟩, List.forall_mem_cons.mpr ⟨⟨(tb3 _ (List.mem_of_getElem? (i := 2) rfl)), rfl, fun _ => (tb2 _ (List.mem_of_getElem? (i := 147) rfl)), fun h => absurd h (by decide)⟩, List.forall_mem_cons.mpr ⟨⟨(tb3 _ (List.mem_of_getElem? (i := 3) rfl)), rfl, fun h => absurd h (by decide), fun _ => ⟨(tb3 _ (List.mem_of_getElem? (i := 5) rfl)), (tbp1 _ (List.mem_of_getElem? (i := 6) rfl))⟩⟩, List.forall_mem_cons.mpr ⟨⟨(tb3 _ (List.mem_of_getElem? (i := 7) rfl)), rfl, fun h => absurd h (by decide), fun _ => ⟨(tb2 _ (List.mem_of_getElem? (i := 168) rfl)), (tb2 _ (List.mem_of_getElem? (i := 169) rfl))⟩⟩, List.forall_mem_cons.mpr ⟨⟨(tb3 _ (List.mem_of_getElem? (i := 8) rfl)), rfl, fun h => absurd h (by decide), fun _ => ⟨(tb3 _ (List.mem_of_getElem? (i := 9) rfl)), (tb3 _ (List.mem_of_getElem? (i := 10) rfl))⟩⟩, List.forall_mem_cons.mpr ⟨⟨(tb3 _ (List.mem_of_getElem? (i := 12) rfl)), rfl, fun h => absurd h (by decide), fun _ => ⟨(tb2 _ (List.mem_of_getElem? (i := 168) rfl)), (tb2 _ (List.mem_of_getElem? (i := 169) rfl))⟩⟩, (fun _ h => absurd h List.not_mem_nil)⟩⟩⟩⟩⟩⟩⟩⟩⟩⟩⟩⟩⟩⟩⟩⟩⟩⟩⟩⟩
def mlt_2 : List LK := [(4, 134, 38, false, 1), (4, 111, 40, false, 1), (4, 137, 21, true, 3), (4, 143, 18, false, 2), (2, 19, 55, false, 1), (2, 26, 19, false, 1), (11, 130, 44, false, 1), (4, 171, 45, false, 1), (4, 174, 127, false, 2), (10, 40, 122, true, 1), (10, 87, 29, false, 2), (3, 23, 110, false, 1), (3, 29, 25, false, 1), (3, 33, 111, false, 1), (10, 91, 87, false, 1), (8, 29, 56, false, 1), (10, 94, 85, false, 1), (8, 20, 54, false, 1), (10, 97, 89, false, 1), (8, 32, 88, false, 1)]
set_option maxRecDepth 100000 in
theorem mlt_ok_2 : ∀ e ∈ mlt_2, mlP e := List.forall_mem_cons.mpr ⟨⟨(tb3 _ (List.mem_of_getElem? (i := 13) rfl)), rfl, fun h => absurd h (by decide), fun _ => ⟨(tb3 _ (List.mem_of_getElem? (i := 15) rfl)), (tbp1 _ (List.mem_of_getElem? (i := 7) rfl))⟩⟩, List.forall_mem_cons.mpr ⟨⟨(tb3 _ (List.mem_of_getElem? (i := 17) rfl)), rfl, fun h => absurd h (by decide), fun _ => ⟨(tb3 _ (List.mem_of_getElem? (i := 19) rfl)), (tbp1 _ (List.mem_of_getElem? (i := 8) rfl))⟩⟩, List.forall_mem_cons.mpr ⟨⟨(tb3 _ (List.mem_of_getElem? (i := 21) rfl)), rfl, fun _ => (tb2 _ (List.mem_of_getElem? (i := 165) rfl)), fun h => absurd h (by decide)⟩, List.forall_mem_cons.mpr ⟨⟨(tb3 _ (List.mem_of_getElem? (i := 22) rfl)), rfl, fun h => absurd h (by decide), fun _ => ⟨(tb3 _ (List.mem_of_getElem? (i := 23) rfl)), (tb3 _ (List.mem_of_getElem? (i := 24) rfl))⟩⟩, List.forall_mem_cons.mpr ⟨⟨(tb3 _ (List.mem_of_getElem? (i := 26) rfl)), rfl, fun h => absurd h (by decide), fun _ => ⟨(tb2 _ (List.mem_of_getElem? (i := 211) rfl)), (tb2 _ (List.mem_of_getElem? (i := 212) rfl))⟩⟩, List.forall_mem_cons.mpr ⟨⟨(tb3 _ (List.mem_of_getElem? (i := 27) rfl)), rfl, fun h => absurd h (by decide), fun _ => ⟨(tb3 _ (List.mem_of_getElem? (i := 28) rfl)), (tb3 _ (List.mem_of_getElem? (i := 29) rfl))⟩⟩, List.forall_mem_cons.mpr ⟨⟨(tb3 _ (List.mem_of_getElem? (i := 31) rfl)), rfl, fun h => absurd h (by decide), fun _ => ⟨(tb3 _ (List.mem_of_getElem? (i := 32) rfl)), (tb3 _ (List.mem_of_getElem? (i := 33) rfl))⟩⟩, List.forall_mem_cons.mpr ⟨⟨(tb3 _ (List.mem_of_getElem? (i := 35) rfl)), rfl, fun h => absurd h (by decide), fun _ => ⟨(tb3 _ (List.mem_of_getElem? (i := 37) rfl)), (tbp1 _ (List.mem_of_getElem? (i := 9) rfl))⟩⟩, List.forall_mem_cons.mpr ⟨⟨(tb3 _ (List.mem_of_getElem? (i := 39) rfl)), rfl, fun h => absurd h (by decide), fun _ => ⟨(tb3 _ (List.mem_of_getElem? (i := 40) rfl)), (tb3 _ (List.mem_of_getElem? (i := 41) rfl))⟩⟩, List.forall_mem_cons.mpr ⟨⟨(tb3 _ (List.mem_of_getElem? (i := 43) rfl)), rfl, fun _ => (tb3 _ (List.mem_of_getElem? (i := 44) rfl)), fun h => absurd h (by decide)⟩, List.forall_mem_cons.mpr ⟨⟨(tb3 _ (List.mem_of_getElem? (i := 46) rfl)), rfl, fun h => absurd h (by decide), fun _ => ⟨(tb3 _ (List.mem_of_getElem? (i := 47) rfl)), (tb3 _ (List.mem_of_getElem? (i := 48) rfl))⟩⟩, List.forall_mem_cons.mpr ⟨⟨(tb3 _ (List.mem_of_getElem? (i := 50) rfl)), rfl, fun h => absurd h (by decide), fun _ => ⟨(tb2 _ (List.mem_of_getElem? (i := 235) rfl)), (tb2 _ (List.mem_of_getElem? (i := 236) rfl))⟩⟩, List.forall_mem_cons.mpr ⟨⟨(tb3 _ (List.mem_of_getElem? (i := 51) rfl)), rfl, fun h => absurd h (by decide), fun _ => ⟨(tb3 _ (List.mem_of_getElem? (i := 52) rfl)), (tb3 _ (List.mem_of_getElem? (i := 53) rfl))⟩⟩, List.forall_mem_cons.mpr ⟨⟨(tb3 _ (List.mem_of_getElem? (i := 55) rfl)), rfl, fun h => absurd h (by decide), fun _ => ⟨(tb2 _ (List.mem_of_getElem? (i := 222) rfl)), (tb2 _ (List.mem_of_getElem? (i := 223) rfl))⟩⟩, List.forall_mem_cons.mpr ⟨⟨(tb3 _ (List.mem_of_getElem? (i := 56) rfl)), rfl, fun h => absurd h (by decide), fun _ => ⟨(tb3 _ (List.mem_of_getElem? (i := 57) rfl)), (tb3 _ (List.mem_of_getElem? (i := 58) rfl))⟩⟩, List.forall_mem_cons.mpr ⟨⟨(tb3 _ (List.mem_of_getElem? (i := 60) rfl)), rfl, fun h => absurd h (by decide), fun _ => ⟨(tb2 _ (List.mem_of_getElem? (i := 207) rfl)), (tb2 _ (List.mem_of_getElem? (i := 208) rfl))⟩⟩, List.forall_mem_cons.mpr ⟨⟨(tb3 _ (List.mem_of_getElem? (i := 61) rfl)), rfl, fun h => absurd h (by decide), fun _ => ⟨(tb3 _ (List.mem_of_getElem? (i := 62) rfl)), (tb3 _ (List.mem_of_getElem? (i := 63) rfl))⟩⟩, List.forall_mem_cons.mpr ⟨⟨(tb3 _ (List.mem_of_getElem? (i := 65) rfl)), rfl, fun h => absurd h (by decide), fun _ => ⟨(tb2 _ (List.mem_of_getElem? (i := 168) rfl)), (tb2 _ (List.mem_of_getElem? (i := 169) rfl))⟩⟩, List.forall_mem_cons.mpr ⟨⟨(tb3 _ (List.mem_of_getElem? (i := 66) rfl)), rfl, fun h => absurd h (by decide), fun _ => ⟨(tb3 _ (List.mem_of_getElem? (i := 67) rfl)), (tb3 _ (List.mem_of_getElem? (i := 68) rfl))⟩⟩, List.forall_mem_cons.mpr ⟨⟨(tb3 _ (List.mem_of_getElem? (i := 70) rfl)), rfl, fun h => absurd h (by decide), fun _ => ⟨(tb3 _ (List.mem_of_getElem? (i := 71) rfl)), (tb3 _ (List.mem_of_getElem? (i := 72) rfl))⟩⟩, (fun _ h => absurd h List.not_mem_nil)⟩⟩⟩⟩⟩⟩⟩⟩⟩⟩⟩⟩⟩⟩⟩⟩⟩⟩⟩⟩
def mlt_3 : List LK := [(10, 100, 28, false, 4), (4, 180, 31, false, 0), (4, 183, 32, false, 1), (3, 36, 31, false, 0), (3, 19, 26, false, 1), (3, 40, 109, true, 1), (4, 186, 46, false, 2), (4, 192, 26, false, 1), (4, 150, 57, false, 2), (4, 189, 47, false, 1), (4, 195, 96, false, 5), (8, 55, 81, false, 1), (8, 39, 82, false, 1), (8, 26, 55, false, 1), (8, 81, 61, false, 2), (8, 85, 97, false, 1), (8, 88, 98, false, 2), (8, 98, 83, false, 1), (8, 42, 87, false, 1), (8, 45, 85, false, 1)]
set_option maxRecDepth 100000 in
theorem mlt_ok_3 : ∀ e ∈ mlt_3, mlP e := List.forall_mem_cons.mpr ⟨⟨(tb3 _ (List.mem_of_getElem? (i := 74) rfl)), rfl, fun h => absurd h (by decide), fun _ => ⟨(tb3 _ (List.mem_of_getElem? (i := 75) rfl)), (tb3 _ (List.mem_of_getElem? (i := 76) rfl))⟩⟩, List.forall_mem_cons.mpr ⟨⟨(tb3 _ (List.mem_of_getElem? (i := 78) rfl)), rfl, fun h => absurd h (by decide), fun _ => ⟨(tb3 _ (List.mem_of_getElem? (i := 79) rfl)), (tb3 _ (List.mem_of_getElem? (i := 80) rfl))⟩⟩, List.forall_mem_cons.mpr ⟨⟨(tb3 _ (List.mem_of_getElem? (i := 82) rfl)), rfl, fun h => absurd h (by decide), fun _ => ⟨(tb3 _ (List.mem_of_getElem? (i := 83) rfl)), (tb3 _ (List.mem_of_getElem? (i := 84) rfl))⟩⟩, List.forall_mem_cons.mpr ⟨⟨(tb3 _ (List.mem_of_getElem? (i := 86) rfl)), rfl, fun h => absurd h (by decide), fun _ => ⟨(tb3 _ (List.mem_of_getElem? (i := 79) rfl)), (tb3 _ (List.mem_of_getElem? (i := 80) rfl))⟩⟩, List.forall_mem_cons.mpr ⟨⟨(tb3 _ (List.mem_of_getElem? (i := 87) rfl)), rfl, fun h => absurd h (by decide), fun _ => ⟨(tb3 _ (List.mem_of_getElem? (i := 88) rfl)), (tb3 _ (List.mem_of_getElem? (i := 89) rfl))⟩⟩, List.forall_mem_cons.mpr ⟨⟨(tb3 _ (List.mem_of_getElem? (i := 91) rfl)), rfl, fun _ => (tb2 _ (List.mem_of_getElem? (i := 147) rfl)), fun h => absurd h (by decide)⟩, List.forall_mem_cons.mpr ⟨⟨(tb3 _ (List.mem_of_getElem? (i := 92) rfl)), rfl, fun h => absurd h (by decide), fun _ => ⟨(tb3 _ (List.mem_of_getElem? (i := 94) rfl)), (tbp1 _ (List.mem_of_getElem? (i := 10) rfl))⟩⟩, List.forall_mem_cons.mpr ⟨⟨(tb3 _ (List.mem_of_getElem? (i := 96) rfl)), rfl, fun h => absurd h (by decide), fun _ => ⟨(tb3 _ (List.mem_of_getElem? (i := 88) rfl)), (tb3 _ (List.mem_of_getElem? (i := 89) rfl))⟩⟩, List.forall_mem_cons.mpr ⟨⟨(tb3 _ (List.mem_of_getElem? (i := 97) rfl)), rfl, fun h => absurd h (by decide), fun _ => ⟨(tb2 _ (List.mem_of_getElem? (i := 138) rfl)), (tb2 _ (List.mem_of_getElem? (i := 139) rfl))⟩⟩, List.forall_mem_cons.mpr ⟨⟨(tb3 _ (List.mem_of_getElem? (i := 98) rfl)), rfl, fun h => absurd h (by decide), fun _ => ⟨(tb3 _ (List.mem_of_getElem? (i := 100) rfl)), (tbp1 _ (List.mem_of_getElem? (i := 11) rfl))⟩⟩, List.forall_mem_cons.mpr ⟨⟨(tb3 _ (List.mem_of_getElem? (i := 102) rfl)), rfl, fun h => absurd h (by decide), fun _ => ⟨(tb3 _ (List.mem_of_getElem? (i := 103) rfl)), (tb3 _ (List.mem_of_getElem? (i := 104) rfl))⟩⟩, List.forall_mem_cons.mpr ⟨⟨(tb3 _ (List.mem_of_getElem? (i := 106) rfl)), rfl, fun h => absurd h (by decide), fun _ => ⟨(tb3 _ (List.mem_of_getElem? (i := 107) rfl)), (tb3 _ (List.mem_of_getElem? (i := 108) rfl))⟩⟩, List.forall_mem_cons.mpr ⟨⟨(tb3 _ (List.mem_of_getElem? (i := 110) rfl)), rfl, fun h => absurd h (by decide), fun _ => ⟨(tb3 _ (List.mem_of_getElem? (i := 111) rfl)), (tb3 _ (List.mem_of_getElem? (i := 112) rfl))⟩⟩, List.forall_mem_cons.mpr ⟨⟨(tb3 _ (List.mem_of_getElem? (i := 114) rfl)), rfl, fun h => absurd h (by decide), fun _ => ⟨(tb2 _ (List.mem_of_getElem? (i := 211) rfl)), (tb2 _ (List.mem_of_getElem? (i := 212) rfl))⟩⟩, List.forall_mem_cons.mpr ⟨⟨(tb3 _ (List.mem_of_getElem? (i := 115) rfl)), rfl, fun h => absurd h (by decide), fun _ => ⟨(tb3 _ (List.mem_of_getElem? (i := 9) rfl)), (tb3 _ (List.mem_of_getElem? (i := 10) rfl))⟩⟩, List.forall_mem_cons.mpr ⟨⟨(tb3 _ (List.mem_of_getElem? (i := 116) rfl)), rfl, fun h => absurd h (by decide), fun _ => ⟨(tb3 _ (List.mem_of_getElem? (i := 118) rfl)), (tbp1 _ (List.mem_of_getElem? (i := 12) rfl))⟩⟩, List.forall_mem_cons.mpr ⟨⟨(tb3 _ (List.mem_of_getElem? (i := 120) rfl)), rfl, fun h => absurd h (by decide), fun _ => ⟨(tb3 _ (List.mem_of_getElem? (i := 122) rfl)), (tbp1 _ (List.mem_of_getElem? (i := 13) rfl))⟩⟩, List.forall_mem_cons.mpr ⟨⟨(tb3 _ (List.mem_of_getElem? (i := 124) rfl)), rfl, fun h => absurd h (by decide), fun _ => ⟨(tb3 _ (List.mem_of_getElem? (i := 125) rfl)), (tb3 _ (List.mem_of_getElem? (i := 126) rfl))⟩⟩, List.forall_mem_cons.mpr ⟨⟨(tb3 _ (List.mem_of_getElem? (i := 128) rfl)), rfl, fun h => absurd h (by decide), fun _ => ⟨(tb3 _ (List.mem_of_getElem? (i := 57) rfl)), (tb3 _ (List.mem_of_getElem? (i := 58) rfl))⟩⟩, List.forall_mem_cons.mpr ⟨⟨(tb3 _ (List.mem_of_getElem? (i := 129) rfl)), rfl, fun h => absurd h (by decide), fun _ => ⟨(tb3 _ (List.mem_of_getElem? (i := 62) rfl)), (tb3 _ (List.mem_of_getElem? (i := 63) rfl))⟩⟩, (fun _ h => absurd h List.not_mem_nil)⟩⟩⟩⟩⟩⟩⟩⟩⟩⟩⟩⟩⟩⟩⟩⟩⟩⟩⟩⟩
def mlt_4 : List LK := [(8, 91, 99, false, 3), (8, 49, 86, false, 1), (8, 101, 79, true, 1), (8, 104, 94, false, 3), (8, 35, 91, true, 2), (8, 108, 77, false, 0), (7, 25, 74, false, 1), (7, 29, 78, true, 1), (8, 112, 20, false, 1), (2, 35, 74, false, 1), (2, 38, 80, true, 2), (8, 116, 90, false, 2), (8, 95, 93, false, 2), (8, 52, 80, true, 2), (4, 200, 108, false, 1), (8, 123, 57, false, 2), (4, 203, 81, false, 1), (4, 206, 87, false, 1), (4, 209, 85, false, 1), (4, 212, 89, false, 1)]
set_option maxRecDepth 100000 in
theorem mlt_ok_4 : ∀ e ∈ mlt_4, mlP e := List.forall_mem_cons.mpr ⟨⟨(tb3 _ (List.mem_of_getElem? (i := 130) rfl)), rfl, fun h => absurd h (by decide), fun _ => ⟨(tb3 _ (List.mem_of_getElem? (i := 132) rfl)), (tbp1 _ (List.mem_of_getElem? (i := 14) rfl))⟩⟩, List.forall_mem_cons.mpr ⟨⟨(tb3 _ (List.mem_of_getElem? (i := 134) rfl)), rfl, fun h => absurd h (by decide), fun _ => ⟨(tb3 _ (List.mem_of_getElem? (i := 135) rfl)), (tb3 _ (List.mem_of_getElem? (i := 136) rfl))⟩⟩, List.forall_mem_cons.mpr ⟨⟨(tb3 _ (List.mem_of_getElem? (i := 138) rfl)), rfl, fun _ => (tb3 _ (List.mem_of_getElem? (i := 139) rfl)), fun h => absurd h (by decide)⟩, List.forall_mem_cons.mpr ⟨⟨(tb3 _ (List.mem_of_getElem? (i := 141) rfl)), rfl, fun h => absurd h (by decide), fun _ => ⟨(tb3 _ (List.mem_of_getElem? (i := 142) rfl)), (tb3 _ (List.mem_of_getElem? (i := 143) rfl))⟩⟩, List.forall_mem_cons.mpr ⟨⟨(tb3 _ (List.mem_of_getElem? (i := 148) rfl)), rfl, fun _ => (tb3 _ (List.mem_of_getElem? (i := 149) rfl)), fun h => absurd h (by decide)⟩, List.forall_mem_cons.mpr ⟨⟨(tb3 _ (List.mem_of_getElem? (i := 151) rfl)), rfl, fun h => absurd h (by decide), fun _ => ⟨(tb3 _ (List.mem_of_getElem? (i := 152) rfl)), (tb3 _ (List.mem_of_getElem? (i := 153) rfl))⟩⟩, List.forall_mem_cons.mpr ⟨⟨(tb3 _ (List.mem_of_getElem? (i := 155) rfl)), rfl, fun h => absurd h (by decide), fun _ => ⟨(tb3 _ (List.mem_of_getElem? (i := 156) rfl)), (tb3 _ (List.mem_of_getElem? (i := 157) rfl))⟩⟩, List.forall_mem_cons.mpr ⟨⟨(tb3 _ (List.mem_of_getElem? (i := 159) rfl)), rfl, fun _ => (tb3 _ (List.mem_of_getElem? (i := 160) rfl)), fun h => absurd h (by decide)⟩, List.forall_mem_cons.mpr ⟨⟨(tb3 _ (List.mem_of_getElem? (i := 162) rfl)), rfl, fun h => absurd h (by decide), fun _ => ⟨(tb3 _ (List.mem_of_getElem? (i := 163) rfl)), (tb3 _ (List.mem_of_getElem? (i := 164) rfl))⟩⟩, List.forall_mem_cons.mpr ⟨⟨(tb3 _ (List.mem_of_getElem? (i := 166) rfl)), rfl, fun h => absurd h (by decide), fun _ => ⟨(tb3 _ (List.mem_of_getElem? (i := 156) rfl)), (tb3 _ (List.mem_of_getElem? (i := 157) rfl))⟩⟩, List.forall_mem_cons.mpr ⟨⟨(tb3 _ (List.mem_of_getElem? (i := 167) rfl)), rfl, fun _ => (tb3 _ (List.mem_of_getElem? (i := 168) rfl)), fun h => absurd h (by decide)⟩, List.forall_mem_cons.mpr ⟨⟨(tb3 _ (List.mem_of_getElem? (i := 171) rfl)), rfl, fun h => absurd h (by decide), fun _ => ⟨(tb3 _ (List.mem_of_getElem? (i := 172) rfl)), (tb3 _ (List.mem_of_getElem? (i := 173) rfl))⟩⟩, List.forall_mem_cons.mpr ⟨⟨(tb3 _ (List.mem_of_getElem? (i := 175) rfl)), rfl, fun h => absurd h (by decide), fun _ => ⟨(tb3 _ (List.mem_of_getElem? (i := 176) rfl)), (tb3 _ (List.mem_of_getElem? (i := 177) rfl))⟩⟩, List.forall_mem_cons.mpr ⟨⟨(tb3 _ (List.mem_of_getElem? (i := 179) rfl)), rfl, fun _ => (tb3 _ (List.mem_of_getElem? (i := 168) rfl)), fun h => absurd h (by decide)⟩, List.forall_mem_cons.mpr ⟨⟨(tb3 _ (List.mem_of_getElem? (i := 180) rfl)), rfl, fun h => absurd h (by decide), fun _ => ⟨(tb3 _ (List.mem_of_getElem? (i := 181) rfl)), (tb3 _ (List.mem_of_getElem? (i := 182) rfl))⟩⟩, List.forall_mem_cons.mpr ⟨⟨(tb3 _ (List.mem_of_getElem? (i := 187) rfl)), rfl, fun h => absurd h (by decide), fun _ => ⟨(tb2 _ (List.mem_of_getElem? (i := 138) rfl)), (tb2 _ (List.mem_of_getElem? (i := 139) rfl))⟩⟩, List.forall_mem_cons.mpr ⟨⟨(tb3 _ (List.mem_of_getElem? (i := 188) rfl)), rfl, fun h => absurd h (by decide), fun _ => ⟨(tb3 _ (List.mem_of_getElem? (i := 107) rfl)), (tb3 _ (List.mem_of_getElem? (i := 108) rfl))⟩⟩, List.forall_mem_cons.mpr ⟨⟨(tb3 _ (List.mem_of_getElem? (i := 189) rfl)), rfl, fun h => absurd h (by decide), fun _ => ⟨(tb3 _ (List.mem_of_getElem? (i := 57) rfl)), (tb3 _ (List.mem_of_getElem? (i := 58) rfl))⟩⟩, List.forall_mem_cons.mpr ⟨⟨(tb3 _ (List.mem_of_getElem? (i := 190) rfl)), rfl, fun h => absurd h (by decide), fun _ => ⟨(tb3 _ (List.mem_of_getElem? (i := 62) rfl)), (tb3 _ (List.mem_of_getElem? (i := 63) rfl))⟩⟩, List.forall_mem_cons.mpr ⟨⟨(tb3 _ (List.mem_of_getElem? (i := 191) rfl)), rfl, fun h => absurd h (by decide), fun _ => ⟨(tb3 _ (List.mem_of_getElem? (i := 67) rfl)), (tb3 _ (List.mem_of_getElem? (i := 68) rfl))⟩⟩, (fun _ h => absurd h List.not_mem_nil)⟩⟩⟩⟩⟩⟩⟩⟩⟩⟩⟩⟩⟩⟩⟩⟩⟩⟩⟩⟩
def mlt_5 : List LK := [(4, 215, 28, false, 4), (4, 219, 48, false, 2), (4, 241, 30, false, 0), (4, 244, 49, false, 1), (4, 247, 95, false, 3), (8, 73, 74, false, 1), (8, 76, 19, false, 1), (4, 223, 107, false, 2), (8, 145, 108, false, 1), (4, 226, 27, false, 0), (4, 229, 112, false, 2), (9, 25, 110, false, 1), (9, 29, 59, false, 2), (4, 235, 83, false, 1), (4, 238, 123, true, 1), (11, 134, 41, false, 0), (4, 146, 51, false, 0), (4, 251, 50, false, 1), (11, 137, 125, false, 0), (10, 49, 277, true, 2)]
set_option maxRecDepth 100000 in
theorem mlt_ok_5 : ∀ e ∈ mlt_5, mlP e := List.forall_mem_cons.mpr ⟨⟨(tb3 _ (List.mem_of_getElem? (i := 192) rfl)), rfl, fun h => absurd h (by decide), fun _ => ⟨(tb3 _ (List.mem_of_getElem? (i := 75) rfl)), (tb3 _ (List.mem_of_getElem? (i := 76) rfl))⟩⟩, List.forall_mem_cons.mpr ⟨⟨(tb3 _ (List.mem_of_getElem? (i := 193) rfl)), rfl, fun h => absurd h (by decide), fun _ => ⟨(tb3 _ (List.mem_of_getElem? (i := 195) rfl)), (tbp1 _ (List.mem_of_getElem? (i := 15) rfl))⟩⟩, List.forall_mem_cons.mpr ⟨⟨(tb3 _ (List.mem_of_getElem? (i := 197) rfl)), rfl, fun h => absurd h (by decide), fun _ => ⟨(tb3 _ (List.mem_of_getElem? (i := 198) rfl)), (tb3 _ (List.mem_of_getElem? (i := 199) rfl))⟩⟩, List.forall_mem_cons.mpr ⟨⟨(tb3 _ (List.mem_of_getElem? (i := 201) rfl)), rfl, fun h => absurd h (by decide), fun _ => ⟨(tb3 _ (List.mem_of_getElem? (i := 203) rfl)), (tbp2 _ (List.mem_of_getElem? (i := 0) rfl))⟩⟩, List.forall_mem_cons.mpr ⟨⟨(tb3 _ (List.mem_of_getElem? (i := 205) rfl)), rfl, fun h => absurd h (by decide), fun _ => ⟨(tb3 _ (List.mem_of_getElem? (i := 206) rfl)), (tb3 _ (List.mem_of_getElem? (i := 207) rfl))⟩⟩, List.forall_mem_cons.mpr ⟨⟨(tb3 _ (List.mem_of_getElem? (i := 209) rfl)), rfl, fun h => absurd h (by decide), fun _ => ⟨(tb3 _ (List.mem_of_getElem? (i := 156) rfl)), (tb3 _ (List.mem_of_getElem? (i := 157) rfl))⟩⟩, List.forall_mem_cons.mpr ⟨⟨(tb3 _ (List.mem_of_getElem? (i := 210) rfl)), rfl, fun h => absurd h (by decide), fun _ => ⟨(tb3 _ (List.mem_of_getElem? (i := 28) rfl)), (tb3 _ (List.mem_of_getElem? (i := 29) rfl))⟩⟩, List.forall_mem_cons.mpr ⟨⟨(tb3 _ (List.mem_of_getElem? (i := 211) rfl)), rfl, fun h => absurd h (by decide), fun _ => ⟨(tb3 _ (List.mem_of_getElem? (i := 212) rfl)), (tb3 _ (List.mem_of_getElem? (i := 213) rfl))⟩⟩, List.forall_mem_cons.mpr ⟨⟨(tb3 _ (List.mem_of_getElem? (i := 215) rfl)), rfl, fun h => absurd h (by decide), fun _ => ⟨(tb3 _ (List.mem_of_getElem? (i := 181) rfl)), (tb3 _ (List.mem_of_getElem? (i := 182) rfl))⟩⟩, List.forall_mem_cons.mpr ⟨⟨(tb3 _ (List.mem_of_getElem? (i := 216) rfl)), rfl, fun h => absurd h (by decide), fun _ => ⟨(tb3 _ (List.mem_of_getElem? (i := 217) rfl)), (tb3 _ (List.mem_of_getElem? (i := 218) rfl))⟩⟩, List.forall_mem_cons.mpr ⟨⟨(tb3 _ (List.mem_of_getElem? (i := 220) rfl)), rfl, fun h => absurd h (by decide), fun _ => ⟨(tb3 _ (List.mem_of_getElem? (i := 221) rfl)), (tb3 _ (List.mem_of_getElem? (i := 222) rfl))⟩⟩, List.forall_mem_cons.mpr ⟨⟨(tb3 _ (List.mem_of_getElem? (i := 224) rfl)), rfl, fun h => absurd h (by decide), fun _ => ⟨(tb2 _ (List.mem_of_getElem? (i := 235) rfl)), (tb2 _ (List.mem_of_getElem? (i := 236) rfl))⟩⟩, List.forall_mem_cons.mpr ⟨⟨(tb3 _ (List.mem_of_getElem? (i := 225) rfl)), rfl, fun h => absurd h (by decide), fun _ => ⟨(tb2 _ (List.mem_of_getElem? (i := 142) rfl)), (tb2 _ (List.mem_of_getElem? (i := 143) rfl))⟩⟩, List.forall_mem_cons.mpr ⟨⟨(tb3 _ (List.mem_of_getElem? (i := 226) rfl)), rfl, fun h => absurd h (by decide), fun _ => ⟨(tb3 _ (List.mem_of_getElem? (i := 125) rfl)), (tb3 _ (List.mem_of_getElem? (i := 126) rfl))⟩⟩, List.forall_mem_cons.mpr ⟨⟨(tb3 _ (List.mem_of_getElem? (i := 227) rfl)), rfl, fun _ => (tb3 _ (List.mem_of_getElem? (i := 228) rfl)), fun h => absurd h (by decide)⟩, List.forall_mem_cons.mpr ⟨⟨(tb3 _ (List.mem_of_getElem? (i := 230) rfl)), rfl, fun h => absurd h (by decide), fun _ => ⟨(tb3 _ (List.mem_of_getElem? (i := 231) rfl)), (tb3 _ (List.mem_of_getElem? (i := 232) rfl))⟩⟩, List.forall_mem_cons.mpr ⟨⟨(tb3 _ (List.mem_of_getElem? (i := 234) rfl)), rfl, fun h => absurd h (by decide), fun _ => ⟨(tb3 _ (List.mem_of_getElem? (i := 236) rfl)), (tbp2 _ (List.mem_of_getElem? (i := 1) rfl))⟩⟩, List.forall_mem_cons.mpr ⟨⟨(tb3 _ (List.mem_of_getElem? (i := 238) rfl)), rfl, fun h => absurd h (by decide), fun _ => ⟨(tb4 _ (List.mem_of_getElem? (i := 0) rfl)), (tbp2 _ (List.mem_of_getElem? (i := 2) rfl))⟩⟩, List.forall_mem_cons.mpr ⟨⟨(tb4 _ (List.mem_of_getElem? (i := 2) rfl)), rfl, fun h => absurd h (by decide), fun _ => ⟨(tb4 _ (List.mem_of_getElem? (i := 3) rfl)), (tb4 _ (List.mem_of_getElem? (i := 4) rfl))⟩⟩, List.forall_mem_cons.mpr ⟨⟨(tb4 _ (List.mem_of_getElem? (i := 6) rfl)), rfl, fun _ => (tb2 _ (List.mem_of_getElem? (i := 115) rfl)), fun h => absurd h (by decide)⟩, (fun _ h => absurd h List.not_mem_nil)⟩⟩⟩⟩⟩⟩⟩⟩⟩⟩⟩⟩⟩⟩⟩⟩⟩⟩⟩⟩
def mlt_6 : List LK := [(10, 59, 127, false, 2), (10, 66, 26, false, 1), (10, 69, 126, false, 3), (10, 73, 54, false, 1), (10, 78, 83, false, 1), (11, 152, 121, false, 0), (9, 63, 119, false, 0), (9, 48, 113, false, 1), (9, 36, 109, true, 1), (9, 39, 54, false, 1), (11, 155, 64, false, 0), (5, 42, 65, false, 2), (5, 52, 66, false, 1), (5, 60, 67, false, 0), (11, 159, 42, false, 0), (4, 154, 64, false, 0), (11, 162, 43, false, 0), (4, 157, 65, false, 2), (4, 162, 52, false, 0), (11, 168, 75, false, 1)]
set_option maxRecDepth 100000 in
theorem mlt_ok_6 : ∀ e ∈ mlt_6, mlP e := List.forall_mem_cons.mpr ⟨⟨(tb4 _ (List.mem_of_getElem? (i := 7) rfl)), rfl, fun h => absurd h (by decide), fun _ => ⟨(tb3 _ (List.mem_of_getElem? (i := 40) rfl)), (tb3 _ (List.mem_of_getElem? (i := 41) rfl))⟩⟩, List.forall_mem_cons.mpr ⟨⟨(tb4 _ (List.mem_of_getElem? (i := 8) rfl)), rfl, fun h => absurd h (by decide), fun _ => ⟨(tb3 _ (List.mem_of_getElem? (i := 88) rfl)), (tb3 _ (List.mem_of_getElem? (i := 89) rfl))⟩⟩, List.forall_mem_cons.mpr ⟨⟨(tb4 _ (List.mem_of_getElem? (i := 9) rfl)), rfl, fun h => absurd h (by decide), fun _ => ⟨(tb4 _ (List.mem_of_getElem? (i := 11) rfl)), (tbp2 _ (List.mem_of_getElem? (i := 3) rfl))⟩⟩, List.forall_mem_cons.mpr ⟨⟨(tb4 _ (List.mem_of_getElem? (i := 13) rfl)), rfl, fun h => absurd h (by decide), fun _ => ⟨(tb2 _ (List.mem_of_getElem? (i := 168) rfl)), (tb2 _ (List.mem_of_getElem? (i := 169) rfl))⟩⟩, List.forall_mem_cons.mpr ⟨⟨(tb4 _ (List.mem_of_getElem? (i := 14) rfl)), rfl, fun h => absurd h (by decide), fun _ => ⟨(tb3 _ (List.mem_of_getElem? (i := 125) rfl)), (tb3 _ (List.mem_of_getElem? (i := 126) rfl))⟩⟩, List.forall_mem_cons.mpr ⟨⟨(tb4 _ (List.mem_of_getElem? (i := 23) rfl)), rfl, fun h => absurd h (by decide), fun _ => ⟨(tb4 _ (List.mem_of_getElem? (i := 24) rfl)), (tb4 _ (List.mem_of_getElem? (i := 25) rfl))⟩⟩, List.forall_mem_cons.mpr ⟨⟨(tb4 _ (List.mem_of_getElem? (i := 27) rfl)), rfl, fun h => absurd h (by decide), fun _ => ⟨(tb4 _ (List.mem_of_getElem? (i := 28) rfl)), (tb4 _ (List.mem_of_getElem? (i := 29) rfl))⟩⟩, List.forall_mem_cons.mpr ⟨⟨(tb4 _ (List.mem_of_getElem? (i := 31) rfl)), rfl, fun h => absurd h (by decide), fun _ => ⟨(tb4 _ (List.mem_of_getElem? (i := 32) rfl)), (tb4 _ (List.mem_of_getElem? (i := 33) rfl))⟩⟩, List.forall_mem_cons.mpr ⟨⟨(tb4 _ (List.mem_of_getElem? (i := 35) rfl)), rfl, fun _ => (tb2 _ (List.mem_of_getElem? (i := 147) rfl)), fun h => absurd h (by decide)⟩, List.forall_mem_cons.mpr ⟨⟨(tb4 _ (List.mem_of_getElem? (i := 36) rfl)), rfl, fun h => absurd h (by decide), fun _ => ⟨(tb2 _ (List.mem_of_getElem? (i := 168) rfl)), (tb2 _ (List.mem_of_getElem? (i := 169) rfl))⟩⟩, List.forall_mem_cons.mpr ⟨⟨(tb4 _ (List.mem_of_getElem? (i := 37) rfl)), rfl, fun h => absurd h (by decide), fun _ => ⟨(tb4 _ (List.mem_of_getElem? (i := 38) rfl)), (tb4 _ (List.mem_of_getElem? (i := 39) rfl))⟩⟩, List.forall_mem_cons.mpr ⟨⟨(tb4 _ (List.mem_of_getElem? (i := 41) rfl)), rfl, fun h => absurd h (by decide), fun _ => ⟨(tb4 _ (List.mem_of_getElem? (i := 42) rfl)), (tb4 _ (List.mem_of_getElem? (i := 43) rfl))⟩⟩, List.forall_mem_cons.mpr ⟨⟨(tb4 _ (List.mem_of_getElem? (i := 46) rfl)), rfl, fun h => absurd h (by decide), fun _ => ⟨(tb4 _ (List.mem_of_getElem? (i := 48) rfl)), (tbp2 _ (List.mem_of_getElem? (i := 4) rfl))⟩⟩, List.forall_mem_cons.mpr ⟨⟨(tb4 _ (List.mem_of_getElem? (i := 50) rfl)), rfl, fun h => absurd h (by decide), fun _ => ⟨(tb4 _ (List.mem_of_getElem? (i := 52) rfl)), (tbp2 _ (List.mem_of_getElem? (i := 5) rfl))⟩⟩, List.forall_mem_cons.mpr ⟨⟨(tb4 _ (List.mem_of_getElem? (i := 58) rfl)), rfl, fun h => absurd h (by decide), fun _ => ⟨(tb4 _ (List.mem_of_getElem? (i := 59) rfl)), (tb4 _ (List.mem_of_getElem? (i := 60) rfl))⟩⟩, List.forall_mem_cons.mpr ⟨⟨(tb4 _ (List.mem_of_getElem? (i := 62) rfl)), rfl, fun h => absurd h (by decide), fun _ => ⟨(tb4 _ (List.mem_of_getElem? (i := 38) rfl)), (tb4 _ (List.mem_of_getElem? (i := 39) rfl))⟩⟩, List.forall_mem_cons.mpr ⟨⟨(tb4 _ (List.mem_of_getElem? (i := 63) rfl)), rfl, fun h => absurd h (by decide), fun _ => ⟨(tb4 _ (List.mem_of_getElem? (i := 64) rfl)), (tb4 _ (List.mem_of_getElem? (i := 65) rfl))⟩⟩, List.forall_mem_cons.mpr ⟨⟨(tb4 _ (List.mem_of_getElem? (i := 67) rfl)), rfl, fun h => absurd h (by decide), fun _ => ⟨(tb4 _ (List.mem_of_getElem? (i := 42) rfl)), (tb4 _ (List.mem_of_getElem? (i := 43) rfl))⟩⟩, List.forall_mem_cons.mpr ⟨⟨(tb4 _ (List.mem_of_getElem? (i := 68) rfl)), rfl, fun h => absurd h (by decide), fun _ => ⟨(tb4 _ (List.mem_of_getElem? (i := 70) rfl)), (tbp2 _ (List.mem_of_getElem? (i := 6) rfl))⟩⟩, List.forall_mem_cons.mpr ⟨⟨(tb4 _ (List.mem_of_getElem? (i := 76) rfl)), rfl, fun h => absurd h (by decide), fun _ => ⟨(tb4 _ (List.mem_of_getElem? (i := 77) rfl)), (tb4 _ (List.mem_of_getElem? (i := 78) rfl))⟩⟩, (fun _ h => absurd h List.not_mem_nil)⟩⟩⟩⟩⟩⟩⟩⟩⟩⟩⟩⟩⟩⟩⟩⟩⟩⟩⟩⟩
def mlt_7 : List LK := [(7, 21, 76, false, 1), (11, 178, 130, false, 1), (10, 107, 128, false, 1), (10, 104, 110, false, 1), (11, 182, 77, false, 0), (11, 185, 133, false, 2), (10, 110, 134, false, 3), (10, 114, 31, false, 0), (10, 118, 32, false, 1), (10, 121, 123, true, 1), (10, 124, 95, false, 3), (11, 189, 135, false, 2), (11, 193, 0, false, 3), (0, 36, 130, false, 1), (0, 42, 77, false, 0), (0, 48, 133, false, 2), (0, 58, 116, false, 0), (9, 51, 118, false, 1), (9, 54, 115, false, 1), (0, 62, 2, false, 2)]
set_option maxRecDepth 100000 in
theorem mlt_ok_7 : ∀ e ∈ mlt_7, mlP e := List.forall_mem_cons.mpr ⟨⟨(tb4 _ (List.mem_of_getElem? (i := 81) rfl)), rfl, fun h => absurd h (by decide), fun _ => ⟨(tb4 _ (List.mem_of_getElem? (i := 83) rfl)), (tbp2 _ (List.mem_of_getElem? (i := 7) rfl))⟩⟩, List.forall_mem_cons.mpr ⟨⟨(tb4 _ (List.mem_of_getElem? (i := 97) rfl)), rfl, fun h => absurd h (by decide), fun _ => ⟨(tb4 _ (List.mem_of_getElem? (i := 98) rfl)), (tb4 _ (List.mem_of_getElem? (i := 99) rfl))⟩⟩, List.forall_mem_cons.mpr ⟨⟨(tb4 _ (List.mem_of_getElem? (i := 101) rfl)), rfl, fun h => absurd h (by decide), fun _ => ⟨(tb4 _ (List.mem_of_getElem? (i := 102) rfl)), (tb4 _ (List.mem_of_getElem? (i := 103) rfl))⟩⟩, List.forall_mem_cons.mpr ⟨⟨(tb4 _ (List.mem_of_getElem? (i := 105) rfl)), rfl, fun h => absurd h (by decide), fun _ => ⟨(tb2 _ (List.mem_of_getElem? (i := 235) rfl)), (tb2 _ (List.mem_of_getElem? (i := 236) rfl))⟩⟩, List.forall_mem_cons.mpr ⟨⟨(tb4 _ (List.mem_of_getElem? (i := 106) rfl)), rfl, fun h => absurd h (by decide), fun _ => ⟨(tb3 _ (List.mem_of_getElem? (i := 152) rfl)), (tb3 _ (List.mem_of_getElem? (i := 153) rfl))⟩⟩, List.forall_mem_cons.mpr ⟨⟨(tb4 _ (List.mem_of_getElem? (i := 107) rfl)), rfl, fun h => absurd h (by decide), fun _ => ⟨(tb4 _ (List.mem_of_getElem? (i := 108) rfl)), (tb4 _ (List.mem_of_getElem? (i := 109) rfl))⟩⟩, List.forall_mem_cons.mpr ⟨⟨(tb4 _ (List.mem_of_getElem? (i := 111) rfl)), rfl, fun h => absurd h (by decide), fun _ => ⟨(tb4 _ (List.mem_of_getElem? (i := 112) rfl)), (tb4 _ (List.mem_of_getElem? (i := 113) rfl))⟩⟩, List.forall_mem_cons.mpr ⟨⟨(tb4 _ (List.mem_of_getElem? (i := 115) rfl)), rfl, fun h => absurd h (by decide), fun _ => ⟨(tb3 _ (List.mem_of_getElem? (i := 79) rfl)), (tb3 _ (List.mem_of_getElem? (i := 80) rfl))⟩⟩, List.forall_mem_cons.mpr ⟨⟨(tb4 _ (List.mem_of_getElem? (i := 116) rfl)), rfl, fun h => absurd h (by decide), fun _ => ⟨(tb3 _ (List.mem_of_getElem? (i := 83) rfl)), (tb3 _ (List.mem_of_getElem? (i := 84) rfl))⟩⟩, List.forall_mem_cons.mpr ⟨⟨(tb4 _ (List.mem_of_getElem? (i := 117) rfl)), rfl, fun _ => (tb3 _ (List.mem_of_getElem? (i := 228) rfl)), fun h => absurd h (by decide)⟩, List.forall_mem_cons.mpr ⟨⟨(tb4 _ (List.mem_of_getElem? (i := 118) rfl)), rfl, fun h => absurd h (by decide), fun _ => ⟨(tb3 _ (List.mem_of_getElem? (i := 206) rfl)), (tb3 _ (List.mem_of_getElem? (i := 207) rfl))⟩⟩, List.forall_mem_cons.mpr ⟨⟨(tb4 _ (List.mem_of_getElem? (i := 123) rfl)), rfl, fun h => absurd h (by decide), fun _ => ⟨(tb4 _ (List.mem_of_getElem? (i := 124) rfl)), (tb4 _ (List.mem_of_getElem? (i := 125) rfl))⟩⟩, List.forall_mem_cons.mpr ⟨⟨(tb4 _ (List.mem_of_getElem? (i := 131) rfl)), rfl, fun h => absurd h (by decide), fun _ => ⟨(tb4 _ (List.mem_of_getElem? (i := 132) rfl)), (tb4 _ (List.mem_of_getElem? (i := 133) rfl))⟩⟩, List.forall_mem_cons.mpr ⟨⟨(tb4 _ (List.mem_of_getElem? (i := 135) rfl)), rfl, fun h => absurd h (by decide), fun _ => ⟨(tb4 _ (List.mem_of_getElem? (i := 98) rfl)), (tb4 _ (List.mem_of_getElem? (i := 99) rfl))⟩⟩, List.forall_mem_cons.mpr ⟨⟨(tb4 _ (List.mem_of_getElem? (i := 136) rfl)), rfl, fun h => absurd h (by decide), fun _ => ⟨(tb3 _ (List.mem_of_getElem? (i := 152) rfl)), (tb3 _ (List.mem_of_getElem? (i := 153) rfl))⟩⟩, List.forall_mem_cons.mpr ⟨⟨(tb4 _ (List.mem_of_getElem? (i := 137) rfl)), rfl, fun h => absurd h (by decide), fun _ => ⟨(tb4 _ (List.mem_of_getElem? (i := 108) rfl)), (tb4 _ (List.mem_of_getElem? (i := 109) rfl))⟩⟩, List.forall_mem_cons.mpr ⟨⟨(tb4 _ (List.mem_of_getElem? (i := 138) rfl)), rfl, fun h => absurd h (by decide), fun _ => ⟨(tb4 _ (List.mem_of_getElem? (i := 139) rfl)), (tb4 _ (List.mem_of_getElem? (i := 140) rfl))⟩⟩, List.forall_mem_cons.mpr ⟨⟨(tb4 _ (List.mem_of_getElem? (i := 142) rfl)), rfl, fun h => absurd h (by decide), fun _ => ⟨(tb4 _ (List.mem_of_getElem? (i := 143) rfl)), (tb4 _ (List.mem_of_getElem? (i := 144) rfl))⟩⟩, List.forall_mem_cons.mpr ⟨⟨(tb4 _ (List.mem_of_getElem? (i := 146) rfl)), rfl, fun h => absurd h (by decide), fun _ => ⟨(tb4 _ (List.mem_of_getElem? (i := 147) rfl)), (tb4 _ (List.mem_of_getElem? (i := 148) rfl))⟩⟩, List.forall_mem_cons.mpr ⟨⟨(tb4 _ (List.mem_of_getElem? (i := 150) rfl)), rfl, fun h => absurd h (by decide), fun _ => ⟨(tb4 _ (List.mem_of_getElem? (i := 152) rfl)), (tbp2 _ (List.mem_of_getElem? (i := 8) rfl))⟩⟩, (fun _ h => absurd h List.not_mem_nil)⟩⟩⟩⟩⟩⟩⟩⟩⟩⟩⟩⟩⟩⟩⟩⟩⟩⟩⟩⟩
def mlt_8 : List LK := [(0, 143, 127, false, 2), (0, 124, 122, true, 1), (0, 147, 85, false, 1), (0, 150, 68, false, 1), (0, 156, 79, true, 1), (0, 159, 3, false, 1), (0, 165, 31, false, 0), (0, 170, 32, false, 1), (0, 173, 54, false, 1), (0, 162, 69, false, 1), (6, 40, 118, false, 1), (6, 46, 27, false, 0), (6, 50, 117, false, 2), (6, 54, 25, false, 1), (6, 61, 115, false, 1), (0, 66, 4, false, 2), (0, 176, 12, false, 0), (0, 202, 57, false, 2), (0, 101, 64, false, 0), (0, 179, 109, true, 1)]
set_option maxRecDepth 100000 in
theorem mlt_ok_8 : ∀ e ∈ mlt_8, mlP e := List.forall_mem_cons.mpr ⟨⟨(tb4 _ (List.mem_of_getElem? (i := 154) rfl)), rfl, fun h => absurd h (by decide), fun _ => ⟨(tb3 _ (List.mem_of_getElem? (i := 40) rfl)), (tb3 _ (List.mem_of_getElem? (i := 41) rfl))⟩⟩, List.forall_mem_cons.mpr ⟨⟨(tb4 _ (List.mem_of_getElem? (i := 155) rfl)), rfl, fun _ => (tb3 _ (List.mem_of_getElem? (i := 44) rfl)), fun h => absurd h (by decide)⟩, List.forall_mem_cons.mpr ⟨⟨(tb4 _ (List.mem_of_getElem? (i := 156) rfl)), rfl, fun h => absurd h (by decide), fun _ => ⟨(tb3 _ (List.mem_of_getElem? (i := 62) rfl)), (tb3 _ (List.mem_of_getElem? (i := 63) rfl))⟩⟩, List.forall_mem_cons.mpr ⟨⟨(tb4 _ (List.mem_of_getElem? (i := 157) rfl)), rfl, fun h => absurd h (by decide), fun _ => ⟨(tb4 _ (List.mem_of_getElem? (i := 158) rfl)), (tb4 _ (List.mem_of_getElem? (i := 159) rfl))⟩⟩, List.forall_mem_cons.mpr ⟨⟨(tb4 _ (List.mem_of_getElem? (i := 161) rfl)), rfl, fun _ => (tb3 _ (List.mem_of_getElem? (i := 139) rfl)), fun h => absurd h (by decide)⟩, List.forall_mem_cons.mpr ⟨⟨(tb4 _ (List.mem_of_getElem? (i := 162) rfl)), rfl, fun h => absurd h (by decide), fun _ => ⟨(tb4 _ (List.mem_of_getElem? (i := 164) rfl)), (tbp2 _ (List.mem_of_getElem? (i := 9) rfl))⟩⟩, List.forall_mem_cons.mpr ⟨⟨(tb4 _ (List.mem_of_getElem? (i := 166) rfl)), rfl, fun h => absurd h (by decide), fun _ => ⟨(tb3 _ (List.mem_of_getElem? (i := 79) rfl)), (tb3 _ (List.mem_of_getElem? (i := 80) rfl))⟩⟩, List.forall_mem_cons.mpr ⟨⟨(tb4 _ (List.mem_of_getElem? (i := 167) rfl)), rfl, fun h => absurd h (by decide), fun _ => ⟨(tb3 _ (List.mem_of_getElem? (i := 83) rfl)), (tb3 _ (List.mem_of_getElem? (i := 84) rfl))⟩⟩, List.forall_mem_cons.mpr ⟨⟨(tb4 _ (List.mem_of_getElem? (i := 168) rfl)), rfl, fun h => absurd h (by decide), fun _ => ⟨(tb2 _ (List.mem_of_getElem? (i := 168) rfl)), (tb2 _ (List.mem_of_getElem? (i := 169) rfl))⟩⟩, List.forall_mem_cons.mpr ⟨⟨(tb4 _ (List.mem_of_getElem? (i := 169) rfl)), rfl, fun h => absurd h (by decide), fun _ => ⟨(tb4 _ (List.mem_of_getElem? (i := 170) rfl)), (tb4 _ (List.mem_of_getElem? (i := 171) rfl))⟩⟩, List.forall_mem_cons.mpr ⟨⟨(tb4 _ (List.mem_of_getElem? (i := 173) rfl)), rfl, fun h => absurd h (by decide), fun _ => ⟨(tb4 _ (List.mem_of_getElem? (i := 143) rfl)), (tb4 _ (List.mem_of_getElem? (i := 144) rfl))⟩⟩, List.forall_mem_cons.mpr ⟨⟨(tb4 _ (List.mem_of_getElem? (i := 174) rfl)), rfl, fun h => absurd h (by decide), fun _ => ⟨(tb3 _ (List.mem_of_getElem? (i := 217) rfl)), (tb3 _ (List.mem_of_getElem? (i := 218) rfl))⟩⟩, List.forall_mem_cons.mpr ⟨⟨(tb4 _ (List.mem_of_getElem? (i := 175) rfl)), rfl, fun h => absurd h (by decide), fun _ => ⟨(tb4 _ (List.mem_of_getElem? (i := 176) rfl)), (tb4 _ (List.mem_of_getElem? (i := 177) rfl))⟩⟩, List.forall_mem_cons.mpr ⟨⟨(tb4 _ (List.mem_of_getElem? (i := 179) rfl)), rfl, fun h => absurd h (by decide), fun _ => ⟨(tb3 _ (List.mem_of_getElem? (i := 52) rfl)), (tb3 _ (List.mem_of_getElem? (i := 53) rfl))⟩⟩, List.forall_mem_cons.mpr ⟨⟨(tb4 _ (List.mem_of_getElem? (i := 180) rfl)), rfl, fun h => absurd h (by decide), fun _ => ⟨(tb4 _ (List.mem_of_getElem? (i := 147) rfl)), (tb4 _ (List.mem_of_getElem? (i := 148) rfl))⟩⟩, List.forall_mem_cons.mpr ⟨⟨(tb4 _ (List.mem_of_getElem? (i := 181) rfl)), rfl, fun h => absurd h (by decide), fun _ => ⟨(tb4 _ (List.mem_of_getElem? (i := 183) rfl)), (tbp2 _ (List.mem_of_getElem? (i := 10) rfl))⟩⟩, List.forall_mem_cons.mpr ⟨⟨(tb4 _ (List.mem_of_getElem? (i := 185) rfl)), rfl, fun h => absurd h (by decide), fun _ => ⟨(tb4 _ (List.mem_of_getElem? (i := 187) rfl)), (tbp2 _ (List.mem_of_getElem? (i := 11) rfl))⟩⟩, List.forall_mem_cons.mpr ⟨⟨(tb4 _ (List.mem_of_getElem? (i := 189) rfl)), rfl, fun h => absurd h (by decide), fun _ => ⟨(tb2 _ (List.mem_of_getElem? (i := 138) rfl)), (tb2 _ (List.mem_of_getElem? (i := 139) rfl))⟩⟩, List.forall_mem_cons.mpr ⟨⟨(tb4 _ (List.mem_of_getElem? (i := 190) rfl)), rfl, fun h => absurd h (by decide), fun _ => ⟨(tb4 _ (List.mem_of_getElem? (i := 38) rfl)), (tb4 _ (List.mem_of_getElem? (i := 39) rfl))⟩⟩, List.forall_mem_cons.mpr ⟨⟨(tb4 _ (List.mem_of_getElem? (i := 191) rfl)), rfl, fun _ => (tb2 _ (List.mem_of_getElem? (i := 147) rfl)), fun h => absurd h (by decide)⟩, (fun _ h => absurd h List.not_mem_nil)⟩⟩⟩⟩⟩⟩⟩⟩⟩⟩⟩⟩⟩⟩⟩⟩⟩⟩⟩⟩
def mlt_9 : List LK := [(0, 182, 60, false, 2), (0, 189, 26, false, 1), (0, 192, 71, false, 0), (6, 68, 72, false, 0), (6, 65, 26, false, 1), (6, 77, 112, false, 2), (6, 71, 64, false, 0), (6, 81, 114, false, 2), (9, 42, 57, false, 2), (0, 195, 5, false, 1), (0, 208, 70, false, 1), (0, 209, 88, false, 1), (0, 94, 104, false, 4), (8, 129, 59, false, 2), (0, 88, 103, false, 2), (0, 127, 124, false, 1), (10, 44, 109, true, 1), (0, 98, 106, false, 2), (8, 126, 58, false, 2), (0, 199, 25, false, 1)]
set_option maxRecDepth 100000 in
theorem mlt_ok_9 : ∀ e ∈ mlt_9, mlP e := List.forall_mem_cons.mpr ⟨⟨(tb4 _ (List.mem_of_getElem? (i := 192) rfl)), rfl, fun h => absurd h (by decide), fun _ => ⟨(tb4 _ (List.mem_of_getElem? (i := 193) rfl)), (tb4 _ (List.mem_of_getElem? (i := 194) rfl))⟩⟩, List.forall_mem_cons.mpr ⟨⟨(tb4 _ (List.mem_of_getElem? (i := 196) rfl)), rfl, fun h => absurd h (by decide), fun _ => ⟨(tb3 _ (List.mem_of_getElem? (i := 88) rfl)), (tb3 _ (List.mem_of_getElem? (i := 89) rfl))⟩⟩, List.forall_mem_cons.mpr ⟨⟨(tb4 _ (List.mem_of_getElem? (i := 197) rfl)), rfl, fun h => absurd h (by decide), fun _ => ⟨(tb4 _ (List.mem_of_getElem? (i := 198) rfl)), (tb4 _ (List.mem_of_getElem? (i := 199) rfl))⟩⟩, List.forall_mem_cons.mpr ⟨⟨(tb4 _ (List.mem_of_getElem? (i := 201) rfl)), rfl, fun h => absurd h (by decide), fun _ => ⟨(tb4 _ (List.mem_of_getElem? (i := 203) rfl)), (tbp2 _ (List.mem_of_getElem? (i := 12) rfl))⟩⟩, List.forall_mem_cons.mpr ⟨⟨(tb4 _ (List.mem_of_getElem? (i := 205) rfl)), rfl, fun h => absurd h (by decide), fun _ => ⟨(tb3 _ (List.mem_of_getElem? (i := 88) rfl)), (tb3 _ (List.mem_of_getElem? (i := 89) rfl))⟩⟩, List.forall_mem_cons.mpr ⟨⟨(tb4 _ (List.mem_of_getElem? (i := 206) rfl)), rfl, fun h => absurd h (by decide), fun _ => ⟨(tb3 _ (List.mem_of_getElem? (i := 221) rfl)), (tb3 _ (List.mem_of_getElem? (i := 222) rfl))⟩⟩, List.forall_mem_cons.mpr ⟨⟨(tb4 _ (List.mem_of_getElem? (i := 207) rfl)), rfl, fun h => absurd h (by decide), fun _ => ⟨(tb4 _ (List.mem_of_getElem? (i := 38) rfl)), (tb4 _ (List.mem_of_getElem? (i := 39) rfl))⟩⟩, List.forall_mem_cons.mpr ⟨⟨(tb4 _ (List.mem_of_getElem? (i := 208) rfl)), rfl, fun h => absurd h (by decide), fun _ => ⟨(tb4 _ (List.mem_of_getElem? (i := 209) rfl)), (tb4 _ (List.mem_of_getElem? (i := 210) rfl))⟩⟩, List.forall_mem_cons.mpr ⟨⟨(tb4 _ (List.mem_of_getElem? (i := 212) rfl)), rfl, fun h => absurd h (by decide), fun _ => ⟨(tb2 _ (List.mem_of_getElem? (i := 138) rfl)), (tb2 _ (List.mem_of_getElem? (i := 139) rfl))⟩⟩, List.forall_mem_cons.mpr ⟨⟨(tb4 _ (List.mem_of_getElem? (i := 213) rfl)), rfl, fun h => absurd h (by decide), fun _ => ⟨(tb4 _ (List.mem_of_getElem? (i := 215) rfl)), (tbp2 _ (List.mem_of_getElem? (i := 13) rfl))⟩⟩, List.forall_mem_cons.mpr ⟨⟨(tb4 _ (List.mem_of_getElem? (i := 217) rfl)), rfl, fun h => absurd h (by decide), fun _ => ⟨(tb4 _ (List.mem_of_getElem? (i := 218) rfl)), (tb4 _ (List.mem_of_getElem? (i := 219) rfl))⟩⟩, List.forall_mem_cons.mpr ⟨⟨(tb4 _ (List.mem_of_getElem? (i := 221) rfl)), rfl, fun h => absurd h (by decide), fun _ => ⟨(tb3 _ (List.mem_of_getElem? (i := 71) rfl)), (tb3 _ (List.mem_of_getElem? (i := 72) rfl))⟩⟩, List.forall_mem_cons.mpr ⟨⟨(tb4 _ (List.mem_of_getElem? (i := 222) rfl)), rfl, fun h => absurd h (by decide), fun _ => ⟨(tb4 _ (List.mem_of_getElem? (i := 223) rfl)), (tb4 _ (List.mem_of_getElem? (i := 224) rfl))⟩⟩, List.forall_mem_cons.mpr ⟨⟨(tb4 _ (List.mem_of_getElem? (i := 226) rfl)), rfl, fun h => absurd h (by decide), fun _ => ⟨(tb2 _ (List.mem_of_getElem? (i := 142) rfl)), (tb2 _ (List.mem_of_getElem? (i := 143) rfl))⟩⟩, List.forall_mem_cons.mpr ⟨⟨(tb4 _ (List.mem_of_getElem? (i := 227) rfl)), rfl, fun h => absurd h (by decide), fun _ => ⟨(tb4 _ (List.mem_of_getElem? (i := 228) rfl)), (tb4 _ (List.mem_of_getElem? (i := 229) rfl))⟩⟩, List.forall_mem_cons.mpr ⟨⟨(tb4 _ (List.mem_of_getElem? (i := 231) rfl)), rfl, fun h => absurd h (by decide), fun _ => ⟨(tb4 _ (List.mem_of_getElem? (i := 232) rfl)), (tb4 _ (List.mem_of_getElem? (i := 233) rfl))⟩⟩, List.forall_mem_cons.mpr ⟨⟨(tb4 _ (List.mem_of_getElem? (i := 235) rfl)), rfl, fun _ => (tb2 _ (List.mem_of_getElem? (i := 147) rfl)), fun h => absurd h (by decide)⟩, List.forall_mem_cons.mpr ⟨⟨(tb4 _ (List.mem_of_getElem? (i := 236) rfl)), rfl, fun h => absurd h (by decide), fun _ => ⟨(tb4 _ (List.mem_of_getElem? (i := 237) rfl)), (tb4 _ (List.mem_of_getElem? (i := 238) rfl))⟩⟩, List.forall_mem_cons.mpr ⟨⟨(tb5 _ (List.mem_of_getElem? (i := 0) rfl)), rfl, fun h => absurd h (by decide), fun _ => ⟨(tb2 _ (List.mem_of_getElem? (i := 158) rfl)), (tb2 _ (List.mem_of_getElem? (i := 159) rfl))⟩⟩, List.forall_mem_cons.mpr ⟨⟨(tb5 _ (List.mem_of_getElem? (i := 1) rfl)), rfl, fun h => absurd h (by decide), fun _ => ⟨(tb3 _ (List.mem_of_getElem? (i := 52) rfl)), (tb3 _ (List.mem_of_getElem? (i := 53) rfl))⟩⟩, (fun _ h => absurd h List.not_mem_nil)⟩⟩⟩⟩⟩⟩⟩⟩⟩⟩⟩⟩⟩⟩⟩⟩⟩⟩⟩⟩
def mlt_10 : List LK := [(0, 75, 100, false, 3), (8, 119, 60, false, 2), (0, 84, 102, false, 2), (0, 91, 101, false, 2), (0, 106, 125, false, 0), (0, 109, 123, true, 1), (11, 197, 163, false, 1), (11, 200, 6, false, 4), (0, 212, 131, false, 1), (0, 130, 84, false, 1), (0, 221, 10, false, 1), (0, 224, 11, false, 4), (11, 204, 7, false, 2), (0, 231, 73, false, 1), (11, 207, 8, false, 1), (0, 113, 128, false, 1), (0, 234, 83, false, 1), (0, 235, 135, false, 2), (0, 136, 107, false, 2), (11, 210, 1, false, 3)]
set_option maxRecDepth 100000 in
theorem mlt_ok_10 : ∀ e ∈ mlt_10, mlP e := List.forall_mem_cons.mpr ⟨⟨(tb5 _ (List.mem_of_getElem? (i := 2) rfl)), rfl, fun h => absurd h (by decide), fun _ => ⟨(tb5 _ (List.mem_of_getElem? (i := 3) rfl)), (tb5 _ (List.mem_of_getElem? (i := 4) rfl))⟩⟩, List.forall_mem_cons.mpr ⟨⟨(tb5 _ (List.mem_of_getElem? (i := 6) rfl)), rfl, fun h => absurd h (by decide), fun _ => ⟨(tb4 _ (List.mem_of_getElem? (i := 193) rfl)), (tb4 _ (List.mem_of_getElem? (i := 194) rfl))⟩⟩, List.forall_mem_cons.mpr ⟨⟨(tb5 _ (List.mem_of_getElem? (i := 7) rfl)), rfl, fun h => absurd h (by decide), fun _ => ⟨(tb5 _ (List.mem_of_getElem? (i := 8) rfl)), (tb5 _ (List.mem_of_getElem? (i := 9) rfl))⟩⟩, List.forall_mem_cons.mpr ⟨⟨(tb5 _ (List.mem_of_getElem? (i := 11) rfl)), rfl, fun h => absurd h (by decide), fun _ => ⟨(tb5 _ (List.mem_of_getElem? (i := 12) rfl)), (tb5 _ (List.mem_of_getElem? (i := 13) rfl))⟩⟩, List.forall_mem_cons.mpr ⟨⟨(tb5 _ (List.mem_of_getElem? (i := 15) rfl)), rfl, fun h => absurd h (by decide), fun _ => ⟨(tb4 _ (List.mem_of_getElem? (i := 3) rfl)), (tb4 _ (List.mem_of_getElem? (i := 4) rfl))⟩⟩, List.forall_mem_cons.mpr ⟨⟨(tb5 _ (List.mem_of_getElem? (i := 16) rfl)), rfl, fun _ => (tb3 _ (List.mem_of_getElem? (i := 228) rfl)), fun h => absurd h (by decide)⟩, List.forall_mem_cons.mpr ⟨⟨(tb5 _ (List.mem_of_getElem? (i := 17) rfl)), rfl, fun h => absurd h (by decide), fun _ => ⟨(tb5 _ (List.mem_of_getElem? (i := 19) rfl)), (tbp2 _ (List.mem_of_getElem? (i := 14) rfl))⟩⟩, List.forall_mem_cons.mpr ⟨⟨(tb5 _ (List.mem_of_getElem? (i := 25) rfl)), rfl, fun h => absurd h (by decide), fun _ => ⟨(tb5 _ (List.mem_of_getElem? (i := 26) rfl)), (tb5 _ (List.mem_of_getElem? (i := 27) rfl))⟩⟩, List.forall_mem_cons.mpr ⟨⟨(tb5 _ (List.mem_of_getElem? (i := 29) rfl)), rfl, fun h => absurd h (by decide), fun _ => ⟨(tb5 _ (List.mem_of_getElem? (i := 30) rfl)), (tb5 _ (List.mem_of_getElem? (i := 31) rfl))⟩⟩, List.forall_mem_cons.mpr ⟨⟨(tb5 _ (List.mem_of_getElem? (i := 33) rfl)), rfl, fun h => absurd h (by decide), fun _ => ⟨(tb5 _ (List.mem_of_getElem? (i := 34) rfl)), (tb5 _ (List.mem_of_getElem? (i := 35) rfl))⟩⟩, List.forall_mem_cons.mpr ⟨⟨(tb5 _ (List.mem_of_getElem? (i := 38) rfl)), rfl, fun h => absurd h (by decide), fun _ => ⟨(tb5 _ (List.mem_of_getElem? (i := 40) rfl)), (tbp2 _ (List.mem_of_getElem? (i := 15) rfl))⟩⟩, List.forall_mem_cons.mpr ⟨⟨(tb5 _ (List.mem_of_getElem? (i := 42) rfl)), rfl, fun h => absurd h (by decide), fun _ => ⟨(tb5 _ (List.mem_of_getElem? (i := 44) rfl)), (tbp3 _ (List.mem_of_getElem? (i := 0) rfl))⟩⟩, List.forall_mem_cons.mpr ⟨⟨(tb5 _ (List.mem_of_getElem? (i := 50) rfl)), rfl, fun h => absurd h (by decide), fun _ => ⟨(tb5 _ (List.mem_of_getElem? (i := 51) rfl)), (tb5 _ (List.mem_of_getElem? (i := 52) rfl))⟩⟩, List.forall_mem_cons.mpr ⟨⟨(tb5 _ (List.mem_of_getElem? (i := 54) rfl)), rfl, fun h => absurd h (by decide), fun _ => ⟨(tb5 _ (List.mem_of_getElem? (i := 55) rfl)), (tb5 _ (List.mem_of_getElem? (i := 56) rfl))⟩⟩, List.forall_mem_cons.mpr ⟨⟨(tb5 _ (List.mem_of_getElem? (i := 62) rfl)), rfl, fun h => absurd h (by decide), fun _ => ⟨(tb5 _ (List.mem_of_getElem? (i := 63) rfl)), (tb5 _ (List.mem_of_getElem? (i := 64) rfl))⟩⟩, List.forall_mem_cons.mpr ⟨⟨(tb5 _ (List.mem_of_getElem? (i := 66) rfl)), rfl, fun h => absurd h (by decide), fun _ => ⟨(tb4 _ (List.mem_of_getElem? (i := 102) rfl)), (tb4 _ (List.mem_of_getElem? (i := 103) rfl))⟩⟩, List.forall_mem_cons.mpr ⟨⟨(tb5 _ (List.mem_of_getElem? (i := 67) rfl)), rfl, fun h => absurd h (by decide), fun _ => ⟨(tb3 _ (List.mem_of_getElem? (i := 125) rfl)), (tb3 _ (List.mem_of_getElem? (i := 126) rfl))⟩⟩, List.forall_mem_cons.mpr ⟨⟨(tb5 _ (List.mem_of_getElem? (i := 68) rfl)), rfl, fun h => absurd h (by decide), fun _ => ⟨(tb4 _ (List.mem_of_getElem? (i := 124) rfl)), (tb4 _ (List.mem_of_getElem? (i := 125) rfl))⟩⟩, List.forall_mem_cons.mpr ⟨⟨(tb5 _ (List.mem_of_getElem? (i := 69) rfl)), rfl, fun h => absurd h (by decide), fun _ => ⟨(tb3 _ (List.mem_of_getElem? (i := 212) rfl)), (tb3 _ (List.mem_of_getElem? (i := 213) rfl))⟩⟩, List.forall_mem_cons.mpr ⟨⟨(tb5 _ (List.mem_of_getElem? (i := 74) rfl)), rfl, fun h => absurd h (by decide), fun _ => ⟨(tb5 _ (List.mem_of_getElem? (i := 75) rfl)), (tb5 _ (List.mem_of_getElem? (i := 76) rfl))⟩⟩, (fun _ h => absurd h List.not_mem_nil)⟩⟩⟩⟩⟩⟩⟩⟩⟩⟩⟩⟩⟩⟩⟩⟩⟩⟩⟩⟩
def mlt_11 : List LK := [(0, 116, 132, false, 2), (0, 120, 134, false, 3), (0, 133, 105, false, 2), (8, 132, 101, false, 2), (8, 135, 102, false, 2), (8, 138, 103, false, 2), (8, 141, 104, false, 4), (11, 214, 9, false, 2), (0, 238, 82, false, 1), (11, 218, 131, false, 1), (11, 221, 138, false, 2), (10, 128, 88, false, 1), (11, 225, 129, false, 1), (11, 228, 137, false, 1), (11, 231, 122, true, 1), (11, 234, 92, false, 2), (11, 237, 128, false, 1), (11, 240, 86, false, 1), (11, 243, 124, false, 1), (11, 246, 90, false, 2)]
set_option maxRecDepth 100000 in
theorem mlt_ok_11 : ∀ e ∈ mlt_11, mlP e := List.forall_mem_cons.mpr ⟨⟨(tb5 _ (List.mem_of_getElem? (i := 78) rfl)), rfl, fun h => absurd h (by decide), fun _ => ⟨(tb5 _ (List.mem_of_getElem? (i := 79) rfl)), (tb5 _ (List.mem_of_getElem? (i := 80) rfl))⟩⟩, List.forall_mem_cons.mpr ⟨⟨(tb5 _ (List.mem_of_getElem? (i := 82) rfl)), rfl, fun h => absurd h (by decide), fun _ => ⟨(tb4 _ (List.mem_of_getElem? (i := 112) rfl)), (tb4 _ (List.mem_of_getElem? (i := 113) rfl))⟩⟩, List.forall_mem_cons.mpr ⟨⟨(tb5 _ (List.mem_of_getElem? (i := 83) rfl)), rfl, fun h => absurd h (by decide), fun _ => ⟨(tb5 _ (List.mem_of_getElem? (i := 84) rfl)), (tb5 _ (List.mem_of_getElem? (i := 85) rfl))⟩⟩, List.forall_mem_cons.mpr ⟨⟨(tb5 _ (List.mem_of_getElem? (i := 87) rfl)), rfl, fun h => absurd h (by decide), fun _ => ⟨(tb5 _ (List.mem_of_getElem? (i := 12) rfl)), (tb5 _ (List.mem_of_getElem? (i := 13) rfl))⟩⟩, List.forall_mem_cons.mpr ⟨⟨(tb5 _ (List.mem_of_getElem? (i := 88) rfl)), rfl, fun h => absurd h (by decide), fun _ => ⟨(tb5 _ (List.mem_of_getElem? (i := 8) rfl)), (tb5 _ (List.mem_of_getElem? (i := 9) rfl))⟩⟩, List.forall_mem_cons.mpr ⟨⟨(tb5 _ (List.mem_of_getElem? (i := 89) rfl)), rfl, fun h => absurd h (by decide), fun _ => ⟨(tb4 _ (List.mem_of_getElem? (i := 228) rfl)), (tb4 _ (List.mem_of_getElem? (i := 229) rfl))⟩⟩, List.forall_mem_cons.mpr ⟨⟨(tb5 _ (List.mem_of_getElem? (i := 90) rfl)), rfl, fun h => absurd h (by decide), fun _ => ⟨(tb4 _ (List.mem_of_getElem? (i := 223) rfl)), (tb4 _ (List.mem_of_getElem? (i := 224) rfl))⟩⟩, List.forall_mem_cons.mpr ⟨⟨(tb5 _ (List.mem_of_getElem? (i := 95) rfl)), rfl, fun h => absurd h (by decide), fun _ => ⟨(tb5 _ (List.mem_of_getElem? (i := 96) rfl)), (tb5 _ (List.mem_of_getElem? (i := 97) rfl))⟩⟩, List.forall_mem_cons.mpr ⟨⟨(tb5 _ (List.mem_of_getElem? (i := 99) rfl)), rfl, fun h => absurd h (by decide), fun _ => ⟨(tb3 _ (List.mem_of_getElem? (i := 111) rfl)), (tb3 _ (List.mem_of_getElem? (i := 112) rfl))⟩⟩, List.forall_mem_cons.mpr ⟨⟨(tb5 _ (List.mem_of_getElem? (i := 104) rfl)), rfl, fun h => absurd h (by decide), fun _ => ⟨(tb5 _ (List.mem_of_getElem? (i := 30) rfl)), (tb5 _ (List.mem_of_getElem? (i := 31) rfl))⟩⟩, List.forall_mem_cons.mpr ⟨⟨(tb5 _ (List.mem_of_getElem? (i := 105) rfl)), rfl, fun h => absurd h (by decide), fun _ => ⟨(tb5 _ (List.mem_of_getElem? (i := 106) rfl)), (tb5 _ (List.mem_of_getElem? (i := 107) rfl))⟩⟩, List.forall_mem_cons.mpr ⟨⟨(tb5 _ (List.mem_of_getElem? (i := 109) rfl)), rfl, fun h => absurd h (by decide), fun _ => ⟨(tb3 _ (List.mem_of_getElem? (i := 71) rfl)), (tb3 _ (List.mem_of_getElem? (i := 72) rfl))⟩⟩, List.forall_mem_cons.mpr ⟨⟨(tb5 _ (List.mem_of_getElem? (i := 114) rfl)), rfl, fun h => absurd h (by decide), fun _ => ⟨(tb5 _ (List.mem_of_getElem? (i := 115) rfl)), (tb5 _ (List.mem_of_getElem? (i := 116) rfl))⟩⟩, List.forall_mem_cons.mpr ⟨⟨(tb5 _ (List.mem_of_getElem? (i := 118) rfl)), rfl, fun h => absurd h (by decide), fun _ => ⟨(tb5 _ (List.mem_of_getElem? (i := 119) rfl)), (tb5 _ (List.mem_of_getElem? (i := 120) rfl))⟩⟩, List.forall_mem_cons.mpr ⟨⟨(tb5 _ (List.mem_of_getElem? (i := 122) rfl)), rfl, fun _ => (tb3 _ (List.mem_of_getElem? (i := 44) rfl)), fun h => absurd h (by decide)⟩, List.forall_mem_cons.mpr ⟨⟨(tb5 _ (List.mem_of_getElem? (i := 123) rfl)), rfl, fun h => absurd h (by decide), fun _ => ⟨(tb5 _ (List.mem_of_getElem? (i := 124) rfl)), (tb5 _ (List.mem_of_getElem? (i := 125) rfl))⟩⟩, List.forall_mem_cons.mpr ⟨⟨(tb5 _ (List.mem_of_getElem? (i := 131) rfl)), rfl, fun h => absurd h (by decide), fun _ => ⟨(tb4 _ (List.mem_of_getElem? (i := 102) rfl)), (tb4 _ (List.mem_of_getElem? (i := 103) rfl))⟩⟩, List.forall_mem_cons.mpr ⟨⟨(tb5 _ (List.mem_of_getElem? (i := 132) rfl)), rfl, fun h => absurd h (by decide), fun _ => ⟨(tb3 _ (List.mem_of_getElem? (i := 135) rfl)), (tb3 _ (List.mem_of_getElem? (i := 136) rfl))⟩⟩, List.forall_mem_cons.mpr ⟨⟨(tb5 _ (List.mem_of_getElem? (i := 133) rfl)), rfl, fun h => absurd h (by decide), fun _ => ⟨(tb4 _ (List.mem_of_getElem? (i := 232) rfl)), (tb4 _ (List.mem_of_getElem? (i := 233) rfl))⟩⟩, List.forall_mem_cons.mpr ⟨⟨(tb5 _ (List.mem_of_getElem? (i := 134) rfl)), rfl, fun h => absurd h (by decide), fun _ => ⟨(tb3 _ (List.mem_of_getElem? (i := 172) rfl)), (tb3 _ (List.mem_of_getElem? (i := 173) rfl))⟩⟩, (fun _ h => absurd h List.not_mem_nil)⟩⟩⟩⟩⟩⟩⟩⟩⟩⟩⟩⟩⟩⟩⟩⟩⟩⟩⟩⟩
def mlt_12 : List LK := [(11, 249, 136, false, 2), (11, 258, 119, false, 0), (11, 261, 120, false, 0), (12, 94, 166, true, 3), (12, 139, 183, false, 2), (12, 163, 184, true, 0), (12, 102, 168, true, 4), (12, 153, 176, true, 4), (12, 117, 175, true, 4), (12, 109, 169, true, 1), (12, 145, 181, false, 2), (12, 149, 182, false, 3), (12, 372, 192, false, 0), (12, 200, 191, false, 1), (12, 98, 167, true, 3), (12, 194, 190, false, 2), (12, 207, 188, false, 3), (12, 214, 171, false, 2), (12, 218, 170, false, 1), (12, 222, 194, false, 0)]
set_option maxRecDepth 100000 in
theorem mlt_ok_12 : ∀ e ∈ mlt_12, mlP e := List.forall_mem_cons.mpr ⟨⟨(tb5 _ (List.mem_of_getElem? (i := 139) rfl)), rfl, fun h => absurd h (by decide), fun _ => ⟨(tb5 _ (List.mem_of_getElem? (i := 140) rfl)), (tb5 _ (List.mem_of_getElem? (i := 141) rfl))⟩⟩, List.forall_mem_cons.mpr ⟨⟨(tb5 _ (List.mem_of_getElem? (i := 147) rfl)), rfl, fun h => absurd h (by decide), fun _ => ⟨(tb4 _ (List.mem_of_getElem? (i := 28) rfl)), (tb4 _ (List.mem_of_getElem? (i := 29) rfl))⟩⟩, List.forall_mem_cons.mpr ⟨⟨(tb5 _ (List.mem_of_getElem? (i := 148) rfl)), rfl, fun h => absurd h (by decide), fun _ => ⟨(tb5 _ (List.mem_of_getElem? (i := 149) rfl)), (tb5 _ (List.mem_of_getElem? (i := 150) rfl))⟩⟩, List.forall_mem_cons.mpr ⟨⟨(tb6 _ (List.mem_of_getElem? (i := 75) rfl)), rfl, fun _ => (tb6 _ (List.mem_of_getElem? (i := 76) rfl)), fun h => absurd h (by decide)⟩, List.forall_mem_cons.mpr ⟨⟨(tb6 _ (List.mem_of_getElem? (i := 78) rfl)), rfl, fun h => absurd h (by decide), fun _ => ⟨(tb6 _ (List.mem_of_getElem? (i := 80) rfl)), (tbp3 _ (List.mem_of_getElem? (i := 1) rfl))⟩⟩, List.forall_mem_cons.mpr ⟨⟨(tb6 _ (List.mem_of_getElem? (i := 82) rfl)), rfl, fun _ => (tb6 _ (List.mem_of_getElem? (i := 83) rfl)), fun h => absurd h (by decide)⟩, List.forall_mem_cons.mpr ⟨⟨(tb6 _ (List.mem_of_getElem? (i := 86) rfl)), rfl, fun _ => (tb6 _ (List.mem_of_getElem? (i := 87) rfl)), fun h => absurd h (by decide)⟩, List.forall_mem_cons.mpr ⟨⟨(tb6 _ (List.mem_of_getElem? (i := 92) rfl)), rfl, fun _ => (tb6 _ (List.mem_of_getElem? (i := 93) rfl)), fun h => absurd h (by decide)⟩, List.forall_mem_cons.mpr ⟨⟨(tb6 _ (List.mem_of_getElem? (i := 97) rfl)), rfl, fun _ => (tb6 _ (List.mem_of_getElem? (i := 98) rfl)), fun h => absurd h (by decide)⟩, List.forall_mem_cons.mpr ⟨⟨(tb6 _ (List.mem_of_getElem? (i := 102) rfl)), rfl, fun _ => (tb6 _ (List.mem_of_getElem? (i := 103) rfl)), fun h => absurd h (by decide)⟩, List.forall_mem_cons.mpr ⟨⟨(tb6 _ (List.mem_of_getElem? (i := 105) rfl)), rfl, fun h => absurd h (by decide), fun _ => ⟨(tb6 _ (List.mem_of_getElem? (i := 107) rfl)), (tbp3 _ (List.mem_of_getElem? (i := 2) rfl))⟩⟩, List.forall_mem_cons.mpr ⟨⟨(tb6 _ (List.mem_of_getElem? (i := 110) rfl)), rfl, fun h => absurd h (by decide), fun _ => ⟨(tb6 _ (List.mem_of_getElem? (i := 112) rfl)), (tbp3 _ (List.mem_of_getElem? (i := 3) rfl))⟩⟩, List.forall_mem_cons.mpr ⟨⟨(tb6 _ (List.mem_of_getElem? (i := 140) rfl)), rfl, fun h => absurd h (by decide), fun _ => ⟨(tb6 _ (List.mem_of_getElem? (i := 142) rfl)), (tbp3 _ (List.mem_of_getElem? (i := 4) rfl))⟩⟩, List.forall_mem_cons.mpr ⟨⟨(tb6 _ (List.mem_of_getElem? (i := 144) rfl)), rfl, fun h => absurd h (by decide), fun _ => ⟨(tb6 _ (List.mem_of_getElem? (i := 146) rfl)), (tbp3 _ (List.mem_of_getElem? (i := 5) rfl))⟩⟩, List.forall_mem_cons.mpr ⟨⟨(tb6 _ (List.mem_of_getElem? (i := 148) rfl)), rfl, fun _ => (tb6 _ (List.mem_of_getElem? (i := 149) rfl)), fun h => absurd h (by decide)⟩, List.forall_mem_cons.mpr ⟨⟨(tb6 _ (List.mem_of_getElem? (i := 152) rfl)), rfl, fun h => absurd h (by decide), fun _ => ⟨(tb6 _ (List.mem_of_getElem? (i := 154) rfl)), (tbp3 _ (List.mem_of_getElem? (i := 6) rfl))⟩⟩, List.forall_mem_cons.mpr ⟨⟨(tb6 _ (List.mem_of_getElem? (i := 157) rfl)), rfl, fun h => absurd h (by decide), fun _ => ⟨(tb6 _ (List.mem_of_getElem? (i := 159) rfl)), (tbp3 _ (List.mem_of_getElem? (i := 7) rfl))⟩⟩, List.forall_mem_cons.mpr ⟨⟨(tb6 _ (List.mem_of_getElem? (i := 161) rfl)), rfl, fun h => absurd h (by decide), fun _ => ⟨(tb6 _ (List.mem_of_getElem? (i := 163) rfl)), (tbp3 _ (List.mem_of_getElem? (i := 8) rfl))⟩⟩, List.forall_mem_cons.mpr ⟨⟨(tb6 _ (List.mem_of_getElem? (i := 165) rfl)), rfl, fun h => absurd h (by decide), fun _ => ⟨(tb6 _ (List.mem_of_getElem? (i := 167) rfl)), (tbp3 _ (List.mem_of_getElem? (i := 9) rfl))⟩⟩, List.forall_mem_cons.mpr ⟨⟨(tb6 _ (List.mem_of_getElem? (i := 169) rfl)), rfl, fun h => absurd h (by decide), fun _ => ⟨(tb6 _ (List.mem_of_getElem? (i := 171) rfl)), (tbp3 _ (List.mem_of_getElem? (i := 10) rfl))⟩⟩, (fun _ h => absurd h List.not_mem_nil)⟩⟩⟩⟩⟩⟩⟩⟩⟩⟩⟩⟩⟩⟩⟩⟩⟩⟩⟩⟩
def mlt_13 : List LK := [(12, 228, 193, false, 1), (12, 225, 195, false, 0), (12, 234, 196, false, 2), (12, 375, 224, false, 0), (12, 310, 209, false, 0), (12, 366, 223, false, 1), (12, 313, 210, false, 1), (12, 305, 200, false, 0), (12, 261, 199, false, 0), (12, 258, 198, false, 1), (12, 239, 197, false, 1), (12, 347, 221, false, 2), (12, 317, 205, false, 1), (12, 271, 206, false, 1), (12, 274, 207, false, 1), (12, 298, 202, true, 2), (12, 253, 201, true, 1), (12, 277, 204, false, 3), (12, 284, 203, false, 2), (12, 350, 222, false, 3)]
set_option maxRecDepth 100000 in
theorem mlt_ok_13 : ∀ e ∈ mlt_13, mlP e := List.forall_mem_cons.mpr ⟨⟨(tb6 _ (List.mem_of_getElem? (i := 173) rfl)), rfl, fun h => absurd h (by decide), fun _ => ⟨(tb6 _ (List.mem_of_getElem? (i := 175) rfl)), (tbp3 _ (List.mem_of_getElem? (i := 11) rfl))⟩⟩, List.forall_mem_cons.mpr ⟨⟨(tb6 _ (List.mem_of_getElem? (i := 177) rfl)), rfl, fun h => absurd h (by decide), fun _ => ⟨(tb6 _ (List.mem_of_getElem? (i := 179) rfl)), (tbp3 _ (List.mem_of_getElem? (i := 12) rfl))⟩⟩, List.forall_mem_cons.mpr ⟨⟨(tb6 _ (List.mem_of_getElem? (i := 181) rfl)), rfl, fun h => absurd h (by decide), fun _ => ⟨(tb6 _ (List.mem_of_getElem? (i := 183) rfl)), (tbp3 _ (List.mem_of_getElem? (i := 13) rfl))⟩⟩, List.forall_mem_cons.mpr ⟨⟨(tb6 _ (List.mem_of_getElem? (i := 186) rfl)), rfl, fun h => absurd h (by decide), fun _ => ⟨(tb6 _ (List.mem_of_getElem? (i := 188) rfl)), (tbp3 _ (List.mem_of_getElem? (i := 14) rfl))⟩⟩, List.forall_mem_cons.mpr ⟨⟨(tb6 _ (List.mem_of_getElem? (i := 190) rfl)), rfl, fun h => absurd h (by decide), fun _ => ⟨(tb6 _ (List.mem_of_getElem? (i := 192) rfl)), (tbp3 _ (List.mem_of_getElem? (i := 15) rfl))⟩⟩, List.forall_mem_cons.mpr ⟨⟨(tb6 _ (List.mem_of_getElem? (i := 194) rfl)), rfl, fun h => absurd h (by decide), fun _ => ⟨(tb6 _ (List.mem_of_getElem? (i := 196) rfl)), (tbp4 _ (List.mem_of_getElem? (i := 0) rfl))⟩⟩, List.forall_mem_cons.mpr ⟨⟨(tb6 _ (List.mem_of_getElem? (i := 198) rfl)), rfl, fun h => absurd h (by decide), fun _ => ⟨(tb6 _ (List.mem_of_getElem? (i := 200) rfl)), (tbp4 _ (List.mem_of_getElem? (i := 1) rfl))⟩⟩, List.forall_mem_cons.mpr ⟨⟨(tb6 _ (List.mem_of_getElem? (i := 202) rfl)), rfl, fun h => absurd h (by decide), fun _ => ⟨(tb6 _ (List.mem_of_getElem? (i := 204) rfl)), (tbp4 _ (List.mem_of_getElem? (i := 2) rfl))⟩⟩, List.forall_mem_cons.mpr ⟨⟨(tb6 _ (List.mem_of_getElem? (i := 207) rfl)), rfl, fun h => absurd h (by decide), fun _ => ⟨(tb6 _ (List.mem_of_getElem? (i := 209) rfl)), (tbp4 _ (List.mem_of_getElem? (i := 3) rfl))⟩⟩, List.forall_mem_cons.mpr ⟨⟨(tb6 _ (List.mem_of_getElem? (i := 211) rfl)), rfl, fun h => absurd h (by decide), fun _ => ⟨(tb6 _ (List.mem_of_getElem? (i := 213) rfl)), (tbp4 _ (List.mem_of_getElem? (i := 4) rfl))⟩⟩, List.forall_mem_cons.mpr ⟨⟨(tb6 _ (List.mem_of_getElem? (i := 215) rfl)), rfl, fun h => absurd h (by decide), fun _ => ⟨(tb6 _ (List.mem_of_getElem? (i := 217) rfl)), (tbp4 _ (List.mem_of_getElem? (i := 5) rfl))⟩⟩, List.forall_mem_cons.mpr ⟨⟨(tb6 _ (List.mem_of_getElem? (i := 219) rfl)), rfl, fun h => absurd h (by decide), fun _ => ⟨(tb6 _ (List.mem_of_getElem? (i := 221) rfl)), (tbp4 _ (List.mem_of_getElem? (i := 6) rfl))⟩⟩, List.forall_mem_cons.mpr ⟨⟨(tb6 _ (List.mem_of_getElem? (i := 223) rfl)), rfl, fun h => absurd h (by decide), fun _ => ⟨(tb6 _ (List.mem_of_getElem? (i := 225) rfl)), (tbp4 _ (List.mem_of_getElem? (i := 7) rfl))⟩⟩, List.forall_mem_cons.mpr ⟨⟨(tb6 _ (List.mem_of_getElem? (i := 227) rfl)), rfl, fun h => absurd h (by decide), fun _ => ⟨(tb6 _ (List.mem_of_getElem? (i := 229) rfl)), (tbp4 _ (List.mem_of_getElem? (i := 8) rfl))⟩⟩, List.forall_mem_cons.mpr ⟨⟨(tb6 _ (List.mem_of_getElem? (i := 232) rfl)), rfl, fun h => absurd h (by decide), fun _ => ⟨(tb6 _ (List.mem_of_getElem? (i := 234) rfl)), (tbp4 _ (List.mem_of_getElem? (i := 9) rfl))⟩⟩, List.forall_mem_cons.mpr ⟨⟨(tb6 _ (List.mem_of_getElem? (i := 236) rfl)), rfl, fun _ => (tb6 _ (List.mem_of_getElem? (i := 237) rfl)), fun h => absurd h (by decide)⟩, List.forall_mem_cons.mpr ⟨⟨(tb6 _ (List.mem_of_getElem? (i := 239) rfl)), rfl, fun _ => (tb7 _ (List.mem_of_getElem? (i := 0) rfl)), fun h => absurd h (by decide)⟩, List.forall_mem_cons.mpr ⟨⟨(tb7 _ (List.mem_of_getElem? (i := 5) rfl)), rfl, fun h => absurd h (by decide), fun _ => ⟨(tb7 _ (List.mem_of_getElem? (i := 7) rfl)), (tbp4 _ (List.mem_of_getElem? (i := 10) rfl))⟩⟩, List.forall_mem_cons.mpr ⟨⟨(tb7 _ (List.mem_of_getElem? (i := 10) rfl)), rfl, fun h => absurd h (by decide), fun _ => ⟨(tb7 _ (List.mem_of_getElem? (i := 12) rfl)), (tbp4 _ (List.mem_of_getElem? (i := 11) rfl))⟩⟩, List.forall_mem_cons.mpr ⟨⟨(tb7 _ (List.mem_of_getElem? (i := 14) rfl)), rfl, fun h => absurd h (by decide), fun _ => ⟨(tb7 _ (List.mem_of_getElem? (i := 16) rfl)), (tbp4 _ (List.mem_of_getElem? (i := 12) rfl))⟩⟩, (fun _ h => absurd h List.not_mem_nil)⟩⟩⟩⟩⟩⟩⟩⟩⟩⟩⟩⟩⟩⟩⟩⟩⟩⟩⟩⟩
def mlt_14 : List LK := [(12, 353, 215, false, 0), (12, 332, 216, false, 1), (12, 356, 220, false, 2), (12, 338, 218, false, 0), (12, 341, 219, false, 1), (12, 359, 172, false, 2), (12, 363, 217, false, 0), (12, 320, 208, false, 2), (12, 378, 226, false, 0), (12, 369, 225, false, 1), (12, 381, 238, false, 0), (12, 402, 173, false, 2), (12, 384, 177, false, 0), (12, 131, 178, false, 0), (12, 393, 233, false, 0), (12, 396, 213, false, 1), (12, 326, 212, false, 1), (12, 323, 211, false, 0), (12, 399, 234, false, 2), (12, 471, 239, false, 0)]
set_option maxRecDepth 100000 in
theorem mlt_ok_14 : ∀ e ∈ mlt_14, mlP e := List.forall_mem_cons.mpr ⟨⟨(tb7 _ (List.mem_of_getElem? (i := 18) rfl)), rfl, fun h => absurd h (by decide), fun _ => ⟨(tb7 _ (List.mem_of_getElem? (i := 20) rfl)), (tbp4 _ (List.mem_of_getElem? (i := 13) rfl))⟩⟩, List.forall_mem_cons.mpr ⟨⟨(tb7 _ (List.mem_of_getElem? (i := 22) rfl)), rfl, fun h => absurd h (by decide), fun _ => ⟨(tb7 _ (List.mem_of_getElem? (i := 24) rfl)), (tbp4 _ (List.mem_of_getElem? (i := 14) rfl))⟩⟩, List.forall_mem_cons.mpr ⟨⟨(tb7 _ (List.mem_of_getElem? (i := 26) rfl)), rfl, fun h => absurd h (by decide), fun _ => ⟨(tb7 _ (List.mem_of_getElem? (i := 28) rfl)), (tbp4 _ (List.mem_of_getElem? (i := 15) rfl))⟩⟩, List.forall_mem_cons.mpr ⟨⟨(tb7 _ (List.mem_of_getElem? (i := 30) rfl)), rfl, fun h => absurd h (by decide), fun _ => ⟨(tb7 _ (List.mem_of_getElem? (i := 32) rfl)), (tbp5 _ (List.mem_of_getElem? (i := 0) rfl))⟩⟩, List.forall_mem_cons.mpr ⟨⟨(tb7 _ (List.mem_of_getElem? (i := 34) rfl)), rfl, fun h => absurd h (by decide), fun _ => ⟨(tb7 _ (List.mem_of_getElem? (i := 36) rfl)), (tbp5 _ (List.mem_of_getElem? (i := 1) rfl))⟩⟩, List.forall_mem_cons.mpr ⟨⟨(tb7 _ (List.mem_of_getElem? (i := 38) rfl)), rfl, fun h => absurd h (by decide), fun _ => ⟨(tb7 _ (List.mem_of_getElem? (i := 40) rfl)), (tbp5 _ (List.mem_of_getElem? (i := 2) rfl))⟩⟩, List.forall_mem_cons.mpr ⟨⟨(tb7 _ (List.mem_of_getElem? (i := 42) rfl)), rfl, fun h => absurd h (by decide), fun _ => ⟨(tb7 _ (List.mem_of_getElem? (i := 44) rfl)), (tbp5 _ (List.mem_of_getElem? (i := 3) rfl))⟩⟩, List.forall_mem_cons.mpr ⟨⟨(tb7 _ (List.mem_of_getElem? (i := 46) rfl)), rfl, fun h => absurd h (by decide), fun _ => ⟨(tb7 _ (List.mem_of_getElem? (i := 48) rfl)), (tbp5 _ (List.mem_of_getElem? (i := 4) rfl))⟩⟩, List.forall_mem_cons.mpr ⟨⟨(tb7 _ (List.mem_of_getElem? (i := 50) rfl)), rfl, fun h => absurd h (by decide), fun _ => ⟨(tb7 _ (List.mem_of_getElem? (i := 52) rfl)), (tbp5 _ (List.mem_of_getElem? (i := 5) rfl))⟩⟩, List.forall_mem_cons.mpr ⟨⟨(tb7 _ (List.mem_of_getElem? (i := 54) rfl)), rfl, fun h => absurd h (by decide), fun _ => ⟨(tb7 _ (List.mem_of_getElem? (i := 56) rfl)), (tbp5 _ (List.mem_of_getElem? (i := 6) rfl))⟩⟩, List.forall_mem_cons.mpr ⟨⟨(tb7 _ (List.mem_of_getElem? (i := 62) rfl)), rfl, fun h => absurd h (by decide), fun _ => ⟨(tb7 _ (List.mem_of_getElem? (i := 64) rfl)), (tbp5 _ (List.mem_of_getElem? (i := 7) rfl))⟩⟩, List.forall_mem_cons.mpr ⟨⟨(tb7 _ (List.mem_of_getElem? (i := 66) rfl)), rfl, fun h => absurd h (by decide), fun _ => ⟨(tb7 _ (List.mem_of_getElem? (i := 68) rfl)), (tbp5 _ (List.mem_of_getElem? (i := 8) rfl))⟩⟩, List.forall_mem_cons.mpr ⟨⟨(tb7 _ (List.mem_of_getElem? (i := 70) rfl)), rfl, fun h => absurd h (by decide), fun _ => ⟨(tb7 _ (List.mem_of_getElem? (i := 72) rfl)), (tbp5 _ (List.mem_of_getElem? (i := 9) rfl))⟩⟩, List.forall_mem_cons.mpr ⟨⟨(tb7 _ (List.mem_of_getElem? (i := 74) rfl)), rfl, fun h => absurd h (by decide), fun _ => ⟨(tb7 _ (List.mem_of_getElem? (i := 76) rfl)), (tbp5 _ (List.mem_of_getElem? (i := 10) rfl))⟩⟩, List.forall_mem_cons.mpr ⟨⟨(tb7 _ (List.mem_of_getElem? (i := 98) rfl)), rfl, fun h => absurd h (by decide), fun _ => ⟨(tb7 _ (List.mem_of_getElem? (i := 100) rfl)), (tbp5 _ (List.mem_of_getElem? (i := 11) rfl))⟩⟩, List.forall_mem_cons.mpr ⟨⟨(tb7 _ (List.mem_of_getElem? (i := 102) rfl)), rfl, fun h => absurd h (by decide), fun _ => ⟨(tb7 _ (List.mem_of_getElem? (i := 104) rfl)), (tbp5 _ (List.mem_of_getElem? (i := 12) rfl))⟩⟩, List.forall_mem_cons.mpr ⟨⟨(tb7 _ (List.mem_of_getElem? (i := 106) rfl)), rfl, fun h => absurd h (by decide), fun _ => ⟨(tb7 _ (List.mem_of_getElem? (i := 108) rfl)), (tbp5 _ (List.mem_of_getElem? (i := 13) rfl))⟩⟩, List.forall_mem_cons.mpr ⟨⟨(tb7 _ (List.mem_of_getElem? (i := 110) rfl)), rfl, fun h => absurd h (by decide), fun _ => ⟨(tb7 _ (List.mem_of_getElem? (i := 112) rfl)), (tbp5 _ (List.mem_of_getElem? (i := 14) rfl))⟩⟩, List.forall_mem_cons.mpr ⟨⟨(tb7 _ (List.mem_of_getElem? (i := 114) rfl)), rfl, fun h => absurd h (by decide), fun _ => ⟨(tb7 _ (List.mem_of_getElem? (i := 116) rfl)), (tbp5 _ (List.mem_of_getElem? (i := 15) rfl))⟩⟩, List.forall_mem_cons.mpr ⟨⟨(tb7 _ (List.mem_of_getElem? (i := 126) rfl)), rfl, fun h => absurd h (by decide), fun _ => ⟨(tb7 _ (List.mem_of_getElem? (i := 128) rfl)), (tbp6 _ (List.mem_of_getElem? (i := 0) rfl))⟩⟩, (fun _ h => absurd h List.not_mem_nil)⟩⟩⟩⟩⟩⟩⟩⟩⟩⟩⟩⟩⟩⟩⟩⟩⟩⟩⟩⟩
def mlt_15 : List LK := [(12, 447, 243, false, 2), (12, 406, 237, false, 1), (12, 409, 242, false, 2), (12, 412, 241, false, 2), (12, 474, 258, false, 2), (12, 438, 240, false, 2), (12, 441, 250, false, 1), (12, 425, 248, false, 2), (12, 444, 252, false, 1), (12, 428, 251, false, 1), (12, 450, 260, false, 1), (12, 453, 164, true, 2), (12, 456, 259, false, 2), (12, 477, 179, false, 0), (12, 480, 261, false, 1), (12, 459, 249, false, 1), (12, 462, 246, false, 0), (12, 415, 244, false, 1), (12, 418, 245, false, 1), (12, 465, 247, false, 1)]
set_option maxRecDepth 100000 in
theorem mlt_ok_15 : ∀ e ∈ mlt_15, mlP e := List.forall_mem_cons.mpr ⟨⟨(tb7 _ (List.mem_of_getElem? (i := 130) rfl)), rfl, fun h => absurd h (by decide), fun _ => ⟨(tb7 _ (List.mem_of_getElem? (i := 132) rfl)), (tbp6 _ (List.mem_of_getElem? (i := 1) rfl))⟩⟩, List.forall_mem_cons.mpr ⟨⟨(tb7 _ (List.mem_of_getElem? (i := 134) rfl)), rfl, fun h => absurd h (by decide), fun _ => ⟨(tb7 _ (List.mem_of_getElem? (i := 136) rfl)), (tbp6 _ (List.mem_of_getElem? (i := 2) rfl))⟩⟩, List.forall_mem_cons.mpr ⟨⟨(tb7 _ (List.mem_of_getElem? (i := 138) rfl)), rfl, fun h => absurd h (by decide), fun _ => ⟨(tb7 _ (List.mem_of_getElem? (i := 140) rfl)), (tbp6 _ (List.mem_of_getElem? (i := 3) rfl))⟩⟩, List.forall_mem_cons.mpr ⟨⟨(tb7 _ (List.mem_of_getElem? (i := 142) rfl)), rfl, fun h => absurd h (by decide), fun _ => ⟨(tb7 _ (List.mem_of_getElem? (i := 144) rfl)), (tbp6 _ (List.mem_of_getElem? (i := 4) rfl))⟩⟩, List.forall_mem_cons.mpr ⟨⟨(tb7 _ (List.mem_of_getElem? (i := 146) rfl)), rfl, fun h => absurd h (by decide), fun _ => ⟨(tb7 _ (List.mem_of_getElem? (i := 148) rfl)), (tbp6 _ (List.mem_of_getElem? (i := 5) rfl))⟩⟩, List.forall_mem_cons.mpr ⟨⟨(tb7 _ (List.mem_of_getElem? (i := 150) rfl)), rfl, fun h => absurd h (by decide), fun _ => ⟨(tb7 _ (List.mem_of_getElem? (i := 152) rfl)), (tbp6 _ (List.mem_of_getElem? (i := 6) rfl))⟩⟩, List.forall_mem_cons.mpr ⟨⟨(tb7 _ (List.mem_of_getElem? (i := 154) rfl)), rfl, fun h => absurd h (by decide), fun _ => ⟨(tb7 _ (List.mem_of_getElem? (i := 156) rfl)), (tbp6 _ (List.mem_of_getElem? (i := 7) rfl))⟩⟩, List.forall_mem_cons.mpr ⟨⟨(tb7 _ (List.mem_of_getElem? (i := 158) rfl)), rfl, fun h => absurd h (by decide), fun _ => ⟨(tb7 _ (List.mem_of_getElem? (i := 160) rfl)), (tbp6 _ (List.mem_of_getElem? (i := 8) rfl))⟩⟩, List.forall_mem_cons.mpr ⟨⟨(tb7 _ (List.mem_of_getElem? (i := 162) rfl)), rfl, fun h => absurd h (by decide), fun _ => ⟨(tb7 _ (List.mem_of_getElem? (i := 164) rfl)), (tbp6 _ (List.mem_of_getElem? (i := 9) rfl))⟩⟩, List.forall_mem_cons.mpr ⟨⟨(tb7 _ (List.mem_of_getElem? (i := 166) rfl)), rfl, fun h => absurd h (by decide), fun _ => ⟨(tb7 _ (List.mem_of_getElem? (i := 168) rfl)), (tbp6 _ (List.mem_of_getElem? (i := 10) rfl))⟩⟩, List.forall_mem_cons.mpr ⟨⟨(tb7 _ (List.mem_of_getElem? (i := 170) rfl)), rfl, fun h => absurd h (by decide), fun _ => ⟨(tb7 _ (List.mem_of_getElem? (i := 172) rfl)), (tbp6 _ (List.mem_of_getElem? (i := 11) rfl))⟩⟩, List.forall_mem_cons.mpr ⟨⟨(tb7 _ (List.mem_of_getElem? (i := 174) rfl)), rfl, fun _ => (tb7 _ (List.mem_of_getElem? (i := 175) rfl)), fun h => absurd h (by decide)⟩, List.forall_mem_cons.mpr ⟨⟨(tb7 _ (List.mem_of_getElem? (i := 177) rfl)), rfl, fun h => absurd h (by decide), fun _ => ⟨(tb7 _ (List.mem_of_getElem? (i := 179) rfl)), (tbp6 _ (List.mem_of_getElem? (i := 12) rfl))⟩⟩, List.forall_mem_cons.mpr ⟨⟨(tb7 _ (List.mem_of_getElem? (i := 181) rfl)), rfl, fun h => absurd h (by decide), fun _ => ⟨(tb7 _ (List.mem_of_getElem? (i := 183) rfl)), (tbp6 _ (List.mem_of_getElem? (i := 13) rfl))⟩⟩, List.forall_mem_cons.mpr ⟨⟨(tb7 _ (List.mem_of_getElem? (i := 185) rfl)), rfl, fun h => absurd h (by decide), fun _ => ⟨(tb7 _ (List.mem_of_getElem? (i := 187) rfl)), (tbp6 _ (List.mem_of_getElem? (i := 14) rfl))⟩⟩, List.forall_mem_cons.mpr ⟨⟨(tb7 _ (List.mem_of_getElem? (i := 189) rfl)), rfl, fun h => absurd h (by decide), fun _ => ⟨(tb7 _ (List.mem_of_getElem? (i := 191) rfl)), (tbp6 _ (List.mem_of_getElem? (i := 15) rfl))⟩⟩, List.forall_mem_cons.mpr ⟨⟨(tb7 _ (List.mem_of_getElem? (i := 193) rfl)), rfl, fun h => absurd h (by decide), fun _ => ⟨(tb7 _ (List.mem_of_getElem? (i := 195) rfl)), (tbp7 _ (List.mem_of_getElem? (i := 0) rfl))⟩⟩, List.forall_mem_cons.mpr ⟨⟨(tb7 _ (List.mem_of_getElem? (i := 197) rfl)), rfl, fun h => absurd h (by decide), fun _ => ⟨(tb7 _ (List.mem_of_getElem? (i := 199) rfl)), (tbp7 _ (List.mem_of_getElem? (i := 1) rfl))⟩⟩, List.forall_mem_cons.mpr ⟨⟨(tb7 _ (List.mem_of_getElem? (i := 201) rfl)), rfl, fun h => absurd h (by decide), fun _ => ⟨(tb7 _ (List.mem_of_getElem? (i := 203) rfl)), (tbp7 _ (List.mem_of_getElem? (i := 2) rfl))⟩⟩, List.forall_mem_cons.mpr ⟨⟨(tb7 _ (List.mem_of_getElem? (i := 205) rfl)), rfl, fun h => absurd h (by decide), fun _ => ⟨(tb7 _ (List.mem_of_getElem? (i := 207) rfl)), (tbp7 _ (List.mem_of_getElem? (i := 3) rfl))⟩⟩, (fun _ h => absurd h List.not_mem_nil)⟩⟩⟩⟩⟩⟩⟩⟩⟩⟩⟩⟩⟩⟩⟩⟩⟩⟩⟩⟩
def mlt_16 : List LK := [(12, 421, 174, false, 2), (12, 484, 262, false, 1), (12, 468, 256, false, 4), (12, 431, 255, false, 4), (12, 435, 253, false, 2), (12, 487, 254, false, 8), (12, 491, 214, false, 1), (12, 496, 165, true, 2), (12, 500, 265, false, 1), (12, 503, 257, false, 1), (12, 506, 268, false, 2), (12, 511, 275, false, 0)]
set_option maxRecDepth 100000 in
theorem mlt_ok_16 : ∀ e ∈ mlt_16, mlP e := List.forall_mem_cons.mpr ⟨⟨(tb7 _ (List.mem_of_getElem? (i := 209) rfl)), rfl, fun h => absurd h (by decide), fun _ => ⟨(tb7 _ (List.mem_of_getElem? (i := 211) rfl)), (tbp7 _ (List.mem_of_getElem? (i := 4) rfl))⟩⟩, List.forall_mem_cons.mpr ⟨⟨(tb7 _ (List.mem_of_getElem? (i := 213) rfl)), rfl, fun h => absurd h (by decide), fun _ => ⟨(tb7 _ (List.mem_of_getElem? (i := 215) rfl)), (tbp7 _ (List.mem_of_getElem? (i := 5) rfl))⟩⟩, List.forall_mem_cons.mpr ⟨⟨(tb7 _ (List.mem_of_getElem? (i := 217) rfl)), rfl, fun h => absurd h (by decide), fun _ => ⟨(tb7 _ (List.mem_of_getElem? (i := 219) rfl)), (tbp7 _ (List.mem_of_getElem? (i := 6) rfl))⟩⟩, List.forall_mem_cons.mpr ⟨⟨(tb7 _ (List.mem_of_getElem? (i := 221) rfl)), rfl, fun h => absurd h (by decide), fun _ => ⟨(tb7 _ (List.mem_of_getElem? (i := 223) rfl)), (tbp7 _ (List.mem_of_getElem? (i := 7) rfl))⟩⟩, List.forall_mem_cons.mpr ⟨⟨(tb7 _ (List.mem_of_getElem? (i := 225) rfl)), rfl, fun h => absurd h (by decide), fun _ => ⟨(tb7 _ (List.mem_of_getElem? (i := 227) rfl)), (tbp7 _ (List.mem_of_getElem? (i := 8) rfl))⟩⟩, List.forall_mem_cons.mpr ⟨⟨(tb7 _ (List.mem_of_getElem? (i := 229) rfl)), rfl, fun h => absurd h (by decide), fun _ => ⟨(tb7 _ (List.mem_of_getElem? (i := 231) rfl)), (tbp7 _ (List.mem_of_getElem? (i := 9) rfl))⟩⟩, List.forall_mem_cons.mpr ⟨⟨(tb7 _ (List.mem_of_getElem? (i := 237) rfl)), rfl, fun h => absurd h (by decide), fun _ => ⟨(tb7 _ (List.mem_of_getElem? (i := 239) rfl)), (tbp7 _ (List.mem_of_getElem? (i := 10) rfl))⟩⟩, List.forall_mem_cons.mpr ⟨⟨(tb8 _ (List.mem_of_getElem? (i := 2) rfl)), rfl, fun _ => (tb8 _ (List.mem_of_getElem? (i := 3) rfl)), fun h => absurd h (by decide)⟩, List.forall_mem_cons.mpr ⟨⟨(tb8 _ (List.mem_of_getElem? (i := 9) rfl)), rfl, fun h => absurd h (by decide), fun _ => ⟨(tb8 _ (List.mem_of_getElem? (i := 11) rfl)), (tbp7 _ (List.mem_of_getElem? (i := 11) rfl))⟩⟩, List.forall_mem_cons.mpr ⟨⟨(tb8 _ (List.mem_of_getElem? (i := 17) rfl)), rfl, fun h => absurd h (by decide), fun _ => ⟨(tb8 _ (List.mem_of_getElem? (i := 19) rfl)), (tbp7 _ (List.mem_of_getElem? (i := 12) rfl))⟩⟩, List.forall_mem_cons.mpr ⟨⟨(tb8 _ (List.mem_of_getElem? (i := 25) rfl)), rfl, fun h => absurd h (by decide), fun _ => ⟨(tb8 _ (List.mem_of_getElem? (i := 27) rfl)), (tbp7 _ (List.mem_of_getElem? (i := 13) rfl))⟩⟩, List.forall_mem_cons.mpr ⟨⟨(tb8 _ (List.mem_of_getElem? (i := 54) rfl)), rfl, fun h => absurd h (by decide), fun _ => ⟨(tb8 _ (List.mem_of_getElem? (i := 56) rfl)), (tbp7 _ (List.mem_of_getElem? (i := 14) rfl))⟩⟩, (fun _ h => absurd h List.not_mem_nil)⟩⟩⟩⟩⟩⟩⟩⟩⟩⟩⟩⟩
def mlb : List (List LK) := [mlt_0, mlt_1, mlt_2, mlt_3, mlt_4, mlt_5, mlt_6, mlt_7, mlt_8, mlt_9, mlt_10, mlt_11, mlt_12, mlt_13, mlt_14, mlt_15, mlt_16]
theorem ml_all : ∀ ch ∈ mlb, ∀ e ∈ ch, mlP e := List.forall_mem_cons.mpr ⟨mlt_ok_0, List.forall_mem_cons.mpr ⟨mlt_ok_1, List.forall_mem_cons.mpr ⟨mlt_ok_2, List.forall_mem_cons.mpr ⟨mlt_ok_3, List.forall_mem_cons.mpr ⟨mlt_ok_4, List.forall_mem_cons.mpr ⟨mlt_ok_5, List.forall_mem_cons.mpr ⟨mlt_ok_6, List.forall_mem_cons.mpr ⟨mlt_ok_7, List.forall_mem_cons.mpr ⟨mlt_ok_8, List.forall_mem_cons.mpr ⟨mlt_ok_9, List.forall_mem_cons.mpr ⟨mlt_ok_10, List.forall_mem_cons.mpr ⟨mlt_ok_11, List.forall_mem_cons.mpr ⟨mlt_ok_12, List.forall_mem_cons.mpr ⟨mlt_ok_13, List.forall_mem_cons.mpr ⟨mlt_ok_14, List.forall_mem_cons.mpr ⟨mlt_ok_15, List.forall_mem_cons.mpr ⟨mlt_ok_16, (fun _ h => absurd h List.not_mem_nil)⟩⟩⟩⟩⟩⟩⟩⟩⟩⟩⟩⟩⟩⟩⟩⟩⟩
abbrev FK : Type := Nat × Nat × Nat × Nat × Bool
def flP (e : FK) : Prop := ∃ (C : String) (T : u_T) (N : Nat), vwCl[e.2.2.1]? = some (C, T, N) ∧ (match e.2.2.2.2 with | true => Cond.fieldLinkNest (oS e.1) e.2.1 C (T e.2.2.2.1).2.1 (T e.2.2.2.1).2.2.1 "BitmapVolume" | false => Cond.fieldLink (oS e.1) e.2.1 C (T e.2.2.2.1).2.1 (T e.2.2.2.1).2.2.1) ∈ lw_tbl
def flt_0 : List FK := [(5, 9, 5, 0, false), (5, 15, 5, 1, false), (5, 18, 5, 2, false), (11, 122, 5, 3, true), (5, 56, 5, 3, false), (5, 63, 5, 4, false), (11, 252, 5, 4, true), (1, 15, 1, 0, false), (1, 9, 1, 1, false), (9, 9, 9, 0, false), (9, 15, 9, 1, false), (4, 90, 9, 1, true), (6, 58, 9, 1, true), (11, 255, 9, 1, true), (4, 95, 9, 2, true), (10, 84, 9, 2, true), (9, 33, 9, 3, false), (4, 131, 9, 3, true), (0, 52, 9, 4, true), (6, 85, 9, 4, true)]
set_option maxRecDepth 100000 in
theorem flt_ok_0 : ∀ e ∈ flt_0, flP e := List.forall_mem_cons.mpr ⟨⟨_, _, _, rfl, (tb1 _ (List.mem_of_getElem? (i := 31) rfl))⟩, List.forall_mem_cons.mpr ⟨⟨_, _, _, rfl, (tb1 _ (List.mem_of_getElem? (i := 32) rfl))⟩, List.forall_mem_cons.mpr ⟨⟨_, _, _, rfl, (tb1 _ (List.mem_of_getElem? (i := 33) rfl))⟩, List.forall_mem_cons.mpr ⟨⟨_, _, _, rfl, (tb1 _ (List.mem_of_getElem? (i := 34) rfl))⟩, List.forall_mem_cons.mpr ⟨⟨_, _, _, rfl, (tb1 _ (List.mem_of_getElem? (i := 35) rfl))⟩, List.forall_mem_cons.mpr ⟨⟨_, _, _, rfl, (tb1 _ (List.mem_of_getElem? (i := 36) rfl))⟩, List.forall_mem_cons.mpr ⟨⟨_, _, _, rfl, (tb1 _ (List.mem_of_getElem? (i := 37) rfl))⟩, List.forall_mem_cons.mpr ⟨⟨_, _, _, rfl, (tb1 _ (List.mem_of_getElem? (i := 57) rfl))⟩, List.forall_mem_cons.mpr ⟨⟨_, _, _, rfl, (tb1 _ (List.mem_of_getElem? (i := 58) rfl))⟩, List.forall_mem_cons.mpr ⟨⟨_, _, _, rfl, (tb1 _ (List.mem_of_getElem? (i := 70) rfl))⟩, List.forall_mem_cons.mpr ⟨⟨_, _, _, rfl, (tb1 _ (List.mem_of_getElem? (i := 71) rfl))⟩, List.forall_mem_cons.mpr ⟨⟨_, _, _, rfl, (tb1 _ (List.mem_of_getElem? (i := 72) rfl))⟩, List.forall_mem_cons.mpr ⟨⟨_, _, _, rfl, (tb1 _ (List.mem_of_getElem? (i := 73) rfl))⟩, List.forall_mem_cons.mpr ⟨⟨_, _, _, rfl, (tb1 _ (List.mem_of_getElem? (i := 74) rfl))⟩, List.forall_mem_cons.mpr ⟨⟨_, _, _, rfl, (tb1 _ (List.mem_of_getElem? (i := 75) rfl))⟩, List.forall_mem_cons.mpr ⟨⟨_, _, _, rfl, (tb1 _ (List.mem_of_getElem? (i := 76) rfl))⟩, List.forall_mem_cons.mpr ⟨⟨_, _, _, rfl, (tb1 _ (List.mem_of_getElem? (i := 77) rfl))⟩, List.forall_mem_cons.mpr ⟨⟨_, _, _, rfl, (tb1 _ (List.mem_of_getElem? (i := 78) rfl))⟩, List.forall_mem_cons.mpr ⟨⟨_, _, _, rfl, (tb1 _ (List.mem_of_getElem? (i := 79) rfl))⟩, List.forall_mem_cons.mpr ⟨⟨_, _, _, rfl, (tb1 _ (List.mem_of_getElem? (i := 80) rfl))⟩, (fun _ h => absurd h List.not_mem_nil)⟩⟩⟩⟩⟩⟩⟩⟩⟩⟩⟩⟩⟩⟩⟩⟩⟩⟩⟩⟩
def flt_1 : List FK := [(9, 45, 9, 4, false), (2, 15, 2, 0, false), (2, 9, 2, 1, false), (8, 9, 8, 0, false), (8, 15, 8, 1, false), (3, 9, 3, 0, false), (3, 15, 3, 1, false), (6, 36, 3, 1, true), (10, 63, 3, 1, true), (0, 188, 3, 1, true), (4, 232, 3, 1, true), (10, 28, 10, 0, false), (10, 32, 10, 1, false), (10, 36, 10, 2, false), (10, 9, 10, 3, false), (10, 15, 10, 4, false), (10, 18, 10, 5, false), (10, 55, 10, 6, false), (10, 24, 10, 7, false), (7, 9, 7, 0, false)]
set_option maxRecDepth 100000 in
theorem flt_ok_1 : ∀ e ∈ flt_1, flP e := List.forall_mem_cons.mpr ⟨⟨_, _, _, rfl, (tb1 _ (List.mem_of_getElem? (i := 81) rfl))⟩, List.forall_mem_cons.mpr ⟨⟨_, _, _, rfl, (tb1 _ (List.mem_of_getElem? (i := 99) rfl))⟩, List.forall_mem_cons.mpr ⟨⟨_, _, _, rfl, (tb1 _ (List.mem_of_getElem? (i := 100) rfl))⟩, List.forall_mem_cons.mpr ⟨⟨_, _, _, rfl, (tb1 _ (List.mem_of_getElem? (i := 112) rfl))⟩, List.forall_mem_cons.mpr ⟨⟨_, _, _, rfl, (tb1 _ (List.mem_of_getElem? (i := 113) rfl))⟩, List.forall_mem_cons.mpr ⟨⟨_, _, _, rfl, (tb1 _ (List.mem_of_getElem? (i := 131) rfl))⟩, List.forall_mem_cons.mpr ⟨⟨_, _, _, rfl, (tb1 _ (List.mem_of_getElem? (i := 132) rfl))⟩, List.forall_mem_cons.mpr ⟨⟨_, _, _, rfl, (tb1 _ (List.mem_of_getElem? (i := 133) rfl))⟩, List.forall_mem_cons.mpr ⟨⟨_, _, _, rfl, (tb1 _ (List.mem_of_getElem? (i := 134) rfl))⟩, List.forall_mem_cons.mpr ⟨⟨_, _, _, rfl, (tb1 _ (List.mem_of_getElem? (i := 135) rfl))⟩, List.forall_mem_cons.mpr ⟨⟨_, _, _, rfl, (tb1 _ (List.mem_of_getElem? (i := 136) rfl))⟩, List.forall_mem_cons.mpr ⟨⟨_, _, _, rfl, (tb1 _ (List.mem_of_getElem? (i := 142) rfl))⟩, List.forall_mem_cons.mpr ⟨⟨_, _, _, rfl, (tb1 _ (List.mem_of_getElem? (i := 143) rfl))⟩, List.forall_mem_cons.mpr ⟨⟨_, _, _, rfl, (tb1 _ (List.mem_of_getElem? (i := 144) rfl))⟩, List.forall_mem_cons.mpr ⟨⟨_, _, _, rfl, (tb1 _ (List.mem_of_getElem? (i := 145) rfl))⟩, List.forall_mem_cons.mpr ⟨⟨_, _, _, rfl, (tb1 _ (List.mem_of_getElem? (i := 146) rfl))⟩, List.forall_mem_cons.mpr ⟨⟨_, _, _, rfl, (tb1 _ (List.mem_of_getElem? (i := 147) rfl))⟩, List.forall_mem_cons.mpr ⟨⟨_, _, _, rfl, (tb1 _ (List.mem_of_getElem? (i := 148) rfl))⟩, List.forall_mem_cons.mpr ⟨⟨_, _, _, rfl, (tb1 _ (List.mem_of_getElem? (i := 149) rfl))⟩, List.forall_mem_cons.mpr ⟨⟨_, _, _, rfl, (tb1 _ (List.mem_of_getElem? (i := 181) rfl))⟩, (fun _ h => absurd h List.not_mem_nil)⟩⟩⟩⟩⟩⟩⟩⟩⟩⟩⟩⟩⟩⟩⟩⟩⟩⟩⟩⟩
def flt_2 : List FK := [(8, 63, 7, 0, true), (7, 15, 7, 1, false), (2, 29, 7, 1, true), (0, 153, 7, 1, true), (11, 172, 7, 1, true), (8, 69, 7, 1, true), (4, 36, 4, 0, false), (4, 40, 4, 1, false), (4, 44, 4, 2, false), (4, 48, 4, 3, false), (4, 52, 4, 4, false), (4, 56, 4, 5, false), (4, 12, 4, 6, false), (4, 18, 4, 7, false), (4, 24, 4, 8, false), (4, 28, 4, 9, false), (4, 32, 4, 10, false), (4, 168, 4, 11, false), (4, 165, 4, 12, false), (11, 165, 4, 13, true)]
set_option maxRecDepth 100000 in
theorem flt_ok_2 : ∀ e ∈ flt_2, flP e := List.forall_mem_cons.mpr ⟨⟨_, _, _, rfl, (tb1 _ (List.mem_of_getElem? (i := 182) rfl))⟩, List.forall_mem_cons.mpr ⟨⟨_, _, _, rfl, (tb1 _ (List.mem_of_getElem? (i := 183) rfl))⟩, List.forall_mem_cons.mpr ⟨⟨_, _, _, rfl, (tb1 _ (List.mem_of_getElem? (i := 184) rfl))⟩, List.forall_mem_cons.mpr ⟨⟨_, _, _, rfl, (tb1 _ (List.mem_of_getElem? (i := 185) rfl))⟩, List.forall_mem_cons.mpr ⟨⟨_, _, _, rfl, (tb1 _ (List.mem_of_getElem? (i := 186) rfl))⟩, List.forall_mem_cons.mpr ⟨⟨_, _, _, rfl, (tb1 _ (List.mem_of_getElem? (i := 187) rfl))⟩, List.forall_mem_cons.mpr ⟨⟨_, _, _, rfl, (tb1 _ (List.mem_of_getElem? (i := 193) rfl))⟩, List.forall_mem_cons.mpr ⟨⟨_, _, _, rfl, (tb1 _ (List.mem_of_getElem? (i := 194) rfl))⟩, List.forall_mem_cons.mpr ⟨⟨_, _, _, rfl, (tb1 _ (List.mem_of_getElem? (i := 195) rfl))⟩, List.forall_mem_cons.mpr ⟨⟨_, _, _, rfl, (tb1 _ (List.mem_of_getElem? (i := 196) rfl))⟩, List.forall_mem_cons.mpr ⟨⟨_, _, _, rfl, (tb1 _ (List.mem_of_getElem? (i := 197) rfl))⟩, List.forall_mem_cons.mpr ⟨⟨_, _, _, rfl, (tb1 _ (List.mem_of_getElem? (i := 198) rfl))⟩, List.forall_mem_cons.mpr ⟨⟨_, _, _, rfl, (tb1 _ (List.mem_of_getElem? (i := 199) rfl))⟩, List.forall_mem_cons.mpr ⟨⟨_, _, _, rfl, (tb1 _ (List.mem_of_getElem? (i := 200) rfl))⟩, List.forall_mem_cons.mpr ⟨⟨_, _, _, rfl, (tb1 _ (List.mem_of_getElem? (i := 201) rfl))⟩, List.forall_mem_cons.mpr ⟨⟨_, _, _, rfl, (tb1 _ (List.mem_of_getElem? (i := 202) rfl))⟩, List.forall_mem_cons.mpr ⟨⟨_, _, _, rfl, (tb1 _ (List.mem_of_getElem? (i := 203) rfl))⟩, List.forall_mem_cons.mpr ⟨⟨_, _, _, rfl, (tb1 _ (List.mem_of_getElem? (i := 204) rfl))⟩, List.forall_mem_cons.mpr ⟨⟨_, _, _, rfl, (tb1 _ (List.mem_of_getElem? (i := 205) rfl))⟩, List.forall_mem_cons.mpr ⟨⟨_, _, _, rfl, (tb1 _ (List.mem_of_getElem? (i := 206) rfl))⟩, (fun _ h => absurd h List.not_mem_nil)⟩⟩⟩⟩⟩⟩⟩⟩⟩⟩⟩⟩⟩⟩⟩⟩⟩⟩⟩⟩
def flt_3 : List FK := [(4, 159, 4, 13, false), (4, 80, 4, 14, false), (11, 140, 4, 14, true), (4, 60, 4, 15, false), (11, 143, 4, 15, true), (4, 64, 4, 16, false), (11, 146, 4, 16, true), (4, 67, 4, 17, false), (11, 149, 4, 17, true), (6, 21, 6, 0, false), (6, 25, 6, 1, false), (6, 12, 6, 2, false), (0, 139, 6, 2, true), (6, 18, 6, 3, false), (0, 185, 6, 3, true), (6, 29, 6, 4, false), (0, 228, 6, 4, true), (6, 33, 6, 5, false), (0, 205, 6, 5, true), (0, 9, 0, 0, false)]
set_option maxRecDepth 100000 in
theorem flt_ok_3 : ∀ e ∈ flt_3, flP e := List.forall_mem_cons.mpr ⟨⟨_, _, _, rfl, (tb1 _ (List.mem_of_getElem? (i := 207) rfl))⟩, List.forall_mem_cons.mpr ⟨⟨_, _, _, rfl, (tb1 _ (List.mem_of_getElem? (i := 208) rfl))⟩, List.forall_mem_cons.mpr ⟨⟨_, _, _, rfl, (tb1 _ (List.mem_of_getElem? (i := 209) rfl))⟩, List.forall_mem_cons.mpr ⟨⟨_, _, _, rfl, (tb1 _ (List.mem_of_getElem? (i := 210) rfl))⟩, List.forall_mem_cons.mpr ⟨⟨_, _, _, rfl, (tb1 _ (List.mem_of_getElem? (i := 211) rfl))⟩, List.forall_mem_cons.mpr ⟨⟨_, _, _, rfl, (tb1 _ (List.mem_of_getElem? (i := 212) rfl))⟩, List.forall_mem_cons.mpr ⟨⟨_, _, _, rfl, (tb1 _ (List.mem_of_getElem? (i := 213) rfl))⟩, List.forall_mem_cons.mpr ⟨⟨_, _, _, rfl, (tb1 _ (List.mem_of_getElem? (i := 214) rfl))⟩, List.forall_mem_cons.mpr ⟨⟨_, _, _, rfl, (tb1 _ (List.mem_of_getElem? (i := 215) rfl))⟩, List.forall_mem_cons.mpr ⟨⟨_, _, _, rfl, (tb2 _ (List.mem_of_getElem? (i := 27) rfl))⟩, List.forall_mem_cons.mpr ⟨⟨_, _, _, rfl, (tb2 _ (List.mem_of_getElem? (i := 28) rfl))⟩, List.forall_mem_cons.mpr ⟨⟨_, _, _, rfl, (tb2 _ (List.mem_of_getElem? (i := 29) rfl))⟩, List.forall_mem_cons.mpr ⟨⟨_, _, _, rfl, (tb2 _ (List.mem_of_getElem? (i := 30) rfl))⟩, List.forall_mem_cons.mpr ⟨⟨_, _, _, rfl, (tb2 _ (List.mem_of_getElem? (i := 31) rfl))⟩, List.forall_mem_cons.mpr ⟨⟨_, _, _, rfl, (tb2 _ (List.mem_of_getElem? (i := 32) rfl))⟩, List.forall_mem_cons.mpr ⟨⟨_, _, _, rfl, (tb2 _ (List.mem_of_getElem? (i := 33) rfl))⟩, List.forall_mem_cons.mpr ⟨⟨_, _, _, rfl, (tb2 _ (List.mem_of_getElem? (i := 34) rfl))⟩, List.forall_mem_cons.mpr ⟨⟨_, _, _, rfl, (tb2 _ (List.mem_of_getElem? (i := 35) rfl))⟩, List.forall_mem_cons.mpr ⟨⟨_, _, _, rfl, (tb2 _ (List.mem_of_getElem? (i := 36) rfl))⟩, List.forall_mem_cons.mpr ⟨⟨_, _, _, rfl, (tb2 _ (List.mem_of_getElem? (i := 50) rfl))⟩, (fun _ h => absurd h List.not_mem_nil)⟩⟩⟩⟩⟩⟩⟩⟩⟩⟩⟩⟩⟩⟩⟩⟩⟩⟩⟩⟩
def flt_4 : List FK := [(0, 15, 0, 1, false), (0, 19, 0, 2, false), (0, 23, 0, 3, false), (0, 32, 0, 4, false), (0, 81, 0, 5, false), (11, 175, 0, 5, true), (0, 69, 0, 6, false), (0, 72, 0, 7, false), (11, 33, 11, 0, false), (11, 37, 11, 1, false), (11, 41, 11, 2, false), (11, 45, 11, 3, false), (11, 58, 11, 4, false), (11, 49, 11, 5, false), (11, 67, 11, 6, false), (11, 74, 11, 7, false), (11, 78, 11, 8, false), (12, 88, 12, 0, false), (12, 211, 12, 1, false), (12, 106, 12, 2, false)]
set_option maxRecDepth 100000 in
theorem flt_ok_4 : ∀ e ∈ flt_4, flP e := List.forall_mem_cons.mpr ⟨⟨_, _, _, rfl, (tb2 _ (List.mem_of_getElem? (i := 51) rfl))⟩, List.forall_mem_cons.mpr ⟨⟨_, _, _, rfl, (tb2 _ (List.mem_of_getElem? (i := 52) rfl))⟩, List.forall_mem_cons.mpr ⟨⟨_, _, _, rfl, (tb2 _ (List.mem_of_getElem? (i := 53) rfl))⟩, List.forall_mem_cons.mpr ⟨⟨_, _, _, rfl, (tb2 _ (List.mem_of_getElem? (i := 54) rfl))⟩, List.forall_mem_cons.mpr ⟨⟨_, _, _, rfl, (tb2 _ (List.mem_of_getElem? (i := 55) rfl))⟩, List.forall_mem_cons.mpr ⟨⟨_, _, _, rfl, (tb2 _ (List.mem_of_getElem? (i := 56) rfl))⟩, List.forall_mem_cons.mpr ⟨⟨_, _, _, rfl, (tb2 _ (List.mem_of_getElem? (i := 57) rfl))⟩, List.forall_mem_cons.mpr ⟨⟨_, _, _, rfl, (tb2 _ (List.mem_of_getElem? (i := 58) rfl))⟩, List.forall_mem_cons.mpr ⟨⟨_, _, _, rfl, (tb2 _ (List.mem_of_getElem? (i := 78) rfl))⟩, List.forall_mem_cons.mpr ⟨⟨_, _, _, rfl, (tb2 _ (List.mem_of_getElem? (i := 79) rfl))⟩, List.forall_mem_cons.mpr ⟨⟨_, _, _, rfl, (tb2 _ (List.mem_of_getElem? (i := 80) rfl))⟩, List.forall_mem_cons.mpr ⟨⟨_, _, _, rfl, (tb2 _ (List.mem_of_getElem? (i := 81) rfl))⟩, List.forall_mem_cons.mpr ⟨⟨_, _, _, rfl, (tb2 _ (List.mem_of_getElem? (i := 82) rfl))⟩, List.forall_mem_cons.mpr ⟨⟨_, _, _, rfl, (tb2 _ (List.mem_of_getElem? (i := 83) rfl))⟩, List.forall_mem_cons.mpr ⟨⟨_, _, _, rfl, (tb2 _ (List.mem_of_getElem? (i := 84) rfl))⟩, List.forall_mem_cons.mpr ⟨⟨_, _, _, rfl, (tb2 _ (List.mem_of_getElem? (i := 85) rfl))⟩, List.forall_mem_cons.mpr ⟨⟨_, _, _, rfl, (tb2 _ (List.mem_of_getElem? (i := 86) rfl))⟩, List.forall_mem_cons.mpr ⟨⟨_, _, _, rfl, (tb5 _ (List.mem_of_getElem? (i := 159) rfl))⟩, List.forall_mem_cons.mpr ⟨⟨_, _, _, rfl, (tb5 _ (List.mem_of_getElem? (i := 160) rfl))⟩, List.forall_mem_cons.mpr ⟨⟨_, _, _, rfl, (tb5 _ (List.mem_of_getElem? (i := 161) rfl))⟩, (fun _ h => absurd h List.not_mem_nil)⟩⟩⟩⟩⟩⟩⟩⟩⟩⟩⟩⟩⟩⟩⟩⟩⟩⟩⟩⟩
def flt_5 : List FK := [(12, 124, 12, 3, false), (12, 390, 12, 4, false), (12, 121, 12, 5, false), (12, 128, 12, 6, false), (12, 7, 12, 7, false), (12, 13, 12, 8, false), (12, 183, 12, 9, false), (12, 186, 12, 10, false), (12, 189, 12, 11, false), (12, 204, 12, 12, false), (12, 16, 12, 13, false), (12, 20, 12, 14, false), (12, 231, 12, 15, false), (12, 24, 12, 16, false), (12, 242, 12, 17, false), (12, 265, 12, 18, false), (12, 281, 12, 19, false), (12, 27, 12, 20, false), (12, 288, 12, 21, false), (12, 292, 12, 22, false)]
set_option maxRecDepth 100000 in
theorem flt_ok_5 : ∀ e ∈ flt_5, flP e := List.forall_mem_cons.mpr ⟨⟨_, _, _, rfl, (tb5 _ (List.mem_of_getElem? (i := 162) rfl))⟩, List.forall_mem_cons.mpr ⟨⟨_, _, _, rfl, (tb5 _ (List.mem_of_getElem? (i := 163) rfl))⟩, List.forall_mem_cons.mpr ⟨⟨_, _, _, rfl, (tb5 _ (List.mem_of_getElem? (i := 164) rfl))⟩, List.forall_mem_cons.mpr ⟨⟨_, _, _, rfl, (tb5 _ (List.mem_of_getElem? (i := 165) rfl))⟩, List.forall_mem_cons.mpr ⟨⟨_, _, _, rfl, (tb5 _ (List.mem_of_getElem? (i := 166) rfl))⟩, List.forall_mem_cons.mpr ⟨⟨_, _, _, rfl, (tb5 _ (List.mem_of_getElem? (i := 167) rfl))⟩, List.forall_mem_cons.mpr ⟨⟨_, _, _, rfl, (tb5 _ (List.mem_of_getElem? (i := 168) rfl))⟩, List.forall_mem_cons.mpr ⟨⟨_, _, _, rfl, (tb5 _ (List.mem_of_getElem? (i := 169) rfl))⟩, List.forall_mem_cons.mpr ⟨⟨_, _, _, rfl, (tb5 _ (List.mem_of_getElem? (i := 170) rfl))⟩, List.forall_mem_cons.mpr ⟨⟨_, _, _, rfl, (tb5 _ (List.mem_of_getElem? (i := 171) rfl))⟩, List.forall_mem_cons.mpr ⟨⟨_, _, _, rfl, (tb5 _ (List.mem_of_getElem? (i := 172) rfl))⟩, List.forall_mem_cons.mpr ⟨⟨_, _, _, rfl, (tb5 _ (List.mem_of_getElem? (i := 173) rfl))⟩, List.forall_mem_cons.mpr ⟨⟨_, _, _, rfl, (tb5 _ (List.mem_of_getElem? (i := 174) rfl))⟩, List.forall_mem_cons.mpr ⟨⟨_, _, _, rfl, (tb5 _ (List.mem_of_getElem? (i := 175) rfl))⟩, List.forall_mem_cons.mpr ⟨⟨_, _, _, rfl, (tb5 _ (List.mem_of_getElem? (i := 176) rfl))⟩, List.forall_mem_cons.mpr ⟨⟨_, _, _, rfl, (tb5 _ (List.mem_of_getElem? (i := 177) rfl))⟩, List.forall_mem_cons.mpr ⟨⟨_, _, _, rfl, (tb5 _ (List.mem_of_getElem? (i := 178) rfl))⟩, List.forall_mem_cons.mpr ⟨⟨_, _, _, rfl, (tb5 _ (List.mem_of_getElem? (i := 179) rfl))⟩, List.forall_mem_cons.mpr ⟨⟨_, _, _, rfl, (tb5 _ (List.mem_of_getElem? (i := 180) rfl))⟩, List.forall_mem_cons.mpr ⟨⟨_, _, _, rfl, (tb5 _ (List.mem_of_getElem? (i := 181) rfl))⟩, (fun _ h => absurd h List.not_mem_nil)⟩⟩⟩⟩⟩⟩⟩⟩⟩⟩⟩⟩⟩⟩⟩⟩⟩⟩⟩⟩
def flt_6 : List FK := [(12, 295, 12, 23, false), (12, 268, 12, 24, false), (12, 30, 12, 25, false), (12, 33, 12, 26, false), (12, 36, 12, 27, false), (12, 39, 12, 28, false), (12, 42, 12, 29, false), (12, 45, 12, 30, false), (12, 48, 12, 31, false), (12, 52, 12, 32, false), (12, 55, 12, 33, false), (12, 302, 12, 34, false), (12, 329, 12, 35, false), (12, 344, 12, 36, false), (12, 58, 12, 37, false), (12, 335, 12, 38, false), (12, 61, 12, 39, false), (12, 64, 12, 40, false), (12, 387, 12, 41, false), (12, 67, 12, 42, false)]
set_option maxRecDepth 100000 in
theorem flt_ok_6 : ∀ e ∈ flt_6, flP e := List.forall_mem_cons.mpr ⟨⟨_, _, _, rfl, (tb5 _ (List.mem_of_getElem? (i := 182) rfl))⟩, List.forall_mem_cons.mpr ⟨⟨_, _, _, rfl, (tb5 _ (List.mem_of_getElem? (i := 183) rfl))⟩, List.forall_mem_cons.mpr ⟨⟨_, _, _, rfl, (tb5 _ (List.mem_of_getElem? (i := 184) rfl))⟩, List.forall_mem_cons.mpr ⟨⟨_, _, _, rfl, (tb5 _ (List.mem_of_getElem? (i := 185) rfl))⟩, List.forall_mem_cons.mpr ⟨⟨_, _, _, rfl, (tb5 _ (List.mem_of_getElem? (i := 186) rfl))⟩, List.forall_mem_cons.mpr ⟨⟨_, _, _, rfl, (tb5 _ (List.mem_of_getElem? (i := 187) rfl))⟩, List.forall_mem_cons.mpr ⟨⟨_, _, _, rfl, (tb5 _ (List.mem_of_getElem? (i := 188) rfl))⟩, List.forall_mem_cons.mpr ⟨⟨_, _, _, rfl, (tb5 _ (List.mem_of_getElem? (i := 189) rfl))⟩, List.forall_mem_cons.mpr ⟨⟨_, _, _, rfl, (tb5 _ (List.mem_of_getElem? (i := 190) rfl))⟩, List.forall_mem_cons.mpr ⟨⟨_, _, _, rfl, (tb5 _ (List.mem_of_getElem? (i := 191) rfl))⟩, List.forall_mem_cons.mpr ⟨⟨_, _, _, rfl, (tb5 _ (List.mem_of_getElem? (i := 192) rfl))⟩, List.forall_mem_cons.mpr ⟨⟨_, _, _, rfl, (tb5 _ (List.mem_of_getElem? (i := 193) rfl))⟩, List.forall_mem_cons.mpr ⟨⟨_, _, _, rfl, (tb5 _ (List.mem_of_getElem? (i := 194) rfl))⟩, List.forall_mem_cons.mpr ⟨⟨_, _, _, rfl, (tb5 _ (List.mem_of_getElem? (i := 195) rfl))⟩, List.forall_mem_cons.mpr ⟨⟨_, _, _, rfl, (tb5 _ (List.mem_of_getElem? (i := 196) rfl))⟩, List.forall_mem_cons.mpr ⟨⟨_, _, _, rfl, (tb5 _ (List.mem_of_getElem? (i := 197) rfl))⟩, List.forall_mem_cons.mpr ⟨⟨_, _, _, rfl, (tb5 _ (List.mem_of_getElem? (i := 198) rfl))⟩, List.forall_mem_cons.mpr ⟨⟨_, _, _, rfl, (tb5 _ (List.mem_of_getElem? (i := 199) rfl))⟩, List.forall_mem_cons.mpr ⟨⟨_, _, _, rfl, (tb5 _ (List.mem_of_getElem? (i := 200) rfl))⟩, List.forall_mem_cons.mpr ⟨⟨_, _, _, rfl, (tb5 _ (List.mem_of_getElem? (i := 201) rfl))⟩, (fun _ h => absurd h List.not_mem_nil)⟩⟩⟩⟩⟩⟩⟩⟩⟩⟩⟩⟩⟩⟩⟩⟩⟩⟩⟩⟩
def flt_7 : List FK := [(12, 70, 12, 43, false), (12, 73, 12, 44, false), (12, 76, 12, 45, false), (12, 79, 12, 46, false), (12, 82, 12, 47, false), (12, 85, 12, 48, false)]
set_option maxRecDepth 100000 in
theorem flt_ok_7 : ∀ e ∈ flt_7, flP e := List.forall_mem_cons.mpr ⟨⟨_, _, _, rfl, (tb5 _ (List.mem_of_getElem? (i := 202) rfl))⟩, List.forall_mem_cons.mpr ⟨⟨_, _, _, rfl, (tb5 _ (List.mem_of_getElem? (i := 203) rfl))⟩, List.forall_mem_cons.mpr ⟨⟨_, _, _, rfl, (tb5 _ (List.mem_of_getElem? (i := 204) rfl))⟩, List.forall_mem_cons.mpr ⟨⟨_, _, _, rfl, (tb5 _ (List.mem_of_getElem? (i := 205) rfl))⟩, List.forall_mem_cons.mpr ⟨⟨_, _, _, rfl, (tb5 _ (List.mem_of_getElem? (i := 206) rfl))⟩, List.forall_mem_cons.mpr ⟨⟨_, _, _, rfl, (tb5 _ (List.mem_of_getElem? (i := 207) rfl))⟩, (fun _ h => absurd h List.not_mem_nil)⟩⟩⟩⟩⟩⟩
def flb : List (List FK) := [flt_0, flt_1, flt_2, flt_3, flt_4, flt_5, flt_6, flt_7]
theorem fl_all : ∀ ch ∈ flb, ∀ e ∈ ch, flP e := List.forall_mem_cons.mpr ⟨flt_ok_0, List.forall_mem_cons.mpr ⟨flt_ok_1, List.forall_mem_cons.mpr ⟨flt_ok_2, List.forall_mem_cons.mpr ⟨flt_ok_3, List.forall_mem_cons.mpr ⟨flt_ok_4, List.forall_mem_cons.mpr ⟨flt_ok_5, List.forall_mem_cons.mpr ⟨flt_ok_6, List.forall_mem_cons.mpr ⟨flt_ok_7, (fun _ h => absurd h List.not_mem_nil)⟩⟩⟩⟩⟩⟩⟩⟩
abbrev KK : Type := Nat × Nat × Int × Bool
def klP (e : KK) : Prop := (match e.2.2.2 with | true => Cond.constantLong (oS e.1) e.2.1 (Int64.ofInt e.2.2.1) | false => Cond.constant (oS e.1) e.2.1 (Int32.ofInt e.2.2.1)) ∈ lw_tbl
def klt_0 : List KK := [(1, 25, (1167095531), false), (1, 30, (1413563992), false), (1, 31, (2105376), false), (2, 25, (65535), false), (8, 19, (65535), false), (7, 19, (65535), true), (12, 135, (16), true), (12, 137, (100), true), (12, 173, (2314885754712905797), true), (12, 167, (8), true), (12, 169, (7), true), (12, 171, (4), true), (12, 113, (2147483648), true), (12, 115, (4294967295), true), (12, 92, (2), true), (12, 143, (4294967288), true), (12, 161, (65535), true), (12, 157, (3), true), (12, 159, (128), true), (12, 175, (215), true), (12, 177, (63), true), (12, 179, (255), true), (12, 181, (1000), true), (12, 192, (9467627), true), (12, 198, (-3), true), (12, 237, (256), true), (12, 308, (127), true), (12, 251, (30), true), (12, 245, (32), true), (12, 247, (126), true), (12, 249, (160), true), (12, 256, (32768), true), (12, 494, (1024), true), (12, 509, (5), true)]
set_option maxRecDepth 100000 in
theorem klt_ok_0 : ∀ e ∈ klt_0, klP e := List.forall_mem_cons.mpr ⟨(tb2 _ (List.mem_of_getElem? (i := 122) rfl)), List.forall_mem_cons.mpr ⟨(tb2 _ (List.mem_of_getElem? (i := 127) rfl)), List.forall_mem_cons.mpr ⟨(tb2 _ (List.mem_of_getElem? (i := 128) rfl)), List.forall_mem_cons.mpr ⟨(tb2 _ (List.mem_of_getElem? (i := 156) rfl)), List.forall_mem_cons.mpr ⟨(tb3 _ (List.mem_of_getElem? (i := 170) rfl)), List.forall_mem_cons.mpr ⟨(tb4 _ (List.mem_of_getElem? (i := 80) rfl)), List.forall_mem_cons.mpr ⟨(tb6 _ (List.mem_of_getElem? (i := 73) rfl)), List.forall_mem_cons.mpr ⟨(tb6 _ (List.mem_of_getElem? (i := 74) rfl)), List.forall_mem_cons.mpr ⟨(tb6 _ (List.mem_of_getElem? (i := 85) rfl)), List.forall_mem_cons.mpr ⟨(tb6 _ (List.mem_of_getElem? (i := 89) rfl)), List.forall_mem_cons.mpr ⟨(tb6 _ (List.mem_of_getElem? (i := 90) rfl)), List.forall_mem_cons.mpr ⟨(tb6 _ (List.mem_of_getElem? (i := 91) rfl)), List.forall_mem_cons.mpr ⟨(tb6 _ (List.mem_of_getElem? (i := 95) rfl)), List.forall_mem_cons.mpr ⟨(tb6 _ (List.mem_of_getElem? (i := 96) rfl)), List.forall_mem_cons.mpr ⟨(tb6 _ (List.mem_of_getElem? (i := 100) rfl)), List.forall_mem_cons.mpr ⟨(tb6 _ (List.mem_of_getElem? (i := 101) rfl)), List.forall_mem_cons.mpr ⟨(tb6 _ (List.mem_of_getElem? (i := 109) rfl)), List.forall_mem_cons.mpr ⟨(tb6 _ (List.mem_of_getElem? (i := 114) rfl)), List.forall_mem_cons.mpr ⟨(tb6 _ (List.mem_of_getElem? (i := 115) rfl)), List.forall_mem_cons.mpr ⟨(tb6 _ (List.mem_of_getElem? (i := 120) rfl)), List.forall_mem_cons.mpr ⟨(tb6 _ (List.mem_of_getElem? (i := 121) rfl)), List.forall_mem_cons.mpr ⟨(tb6 _ (List.mem_of_getElem? (i := 126) rfl)), List.forall_mem_cons.mpr ⟨(tb6 _ (List.mem_of_getElem? (i := 131) rfl)), List.forall_mem_cons.mpr ⟨(tb6 _ (List.mem_of_getElem? (i := 151) rfl)), List.forall_mem_cons.mpr ⟨(tb6 _ (List.mem_of_getElem? (i := 156) rfl)), List.forall_mem_cons.mpr ⟨(tb6 _ (List.mem_of_getElem? (i := 185) rfl)), List.forall_mem_cons.mpr ⟨(tb6 _ (List.mem_of_getElem? (i := 206) rfl)), List.forall_mem_cons.mpr ⟨(tb6 _ (List.mem_of_getElem? (i := 231) rfl)), List.forall_mem_cons.mpr ⟨(tb7 _ (List.mem_of_getElem? (i := 2) rfl)), List.forall_mem_cons.mpr ⟨(tb7 _ (List.mem_of_getElem? (i := 3) rfl)), List.forall_mem_cons.mpr ⟨(tb7 _ (List.mem_of_getElem? (i := 4) rfl)), List.forall_mem_cons.mpr ⟨(tb7 _ (List.mem_of_getElem? (i := 9) rfl)), List.forall_mem_cons.mpr ⟨(tb8 _ (List.mem_of_getElem? (i := 1) rfl)), List.forall_mem_cons.mpr ⟨(tb8 _ (List.mem_of_getElem? (i := 53) rfl)), (fun _ h => absurd h List.not_mem_nil)⟩⟩⟩⟩⟩⟩⟩⟩⟩⟩⟩⟩⟩⟩⟩⟩⟩⟩⟩⟩⟩⟩⟩⟩⟩⟩⟩⟩⟩⟩⟩⟩⟩⟩
theorem mem_r {big : List Cond} (ws : List Cond) (ps : List Nat) (hp : ws = ps.filterMap (fun i => big[i]?)) : ∀ w ∈ ws, w ∈ big := by
  intro w hw
  rw [hp] at hw
  obtain ⟨i, -, hi⟩ := List.mem_filterMap.mp hw
  exact List.mem_of_getElem? hi
set_option maxRecDepth 100000 in
theorem inX0 : ∀ w ∈ wsX00, w ∈ lw_tbl := List.forall_mem_cons.mpr ⟨(tb2 _ (List.mem_of_getElem? (i := 59) rfl)), List.forall_mem_cons.mpr ⟨(tb2 _ (List.mem_of_getElem? (i := 61) rfl)), List.forall_mem_cons.mpr ⟨(tb2 _ (List.mem_of_getElem? (i := 63) rfl)), List.forall_mem_cons.mpr ⟨(tb2 _ (List.mem_of_getElem? (i := 65) rfl)), List.forall_mem_cons.mpr ⟨(tb2 _ (List.mem_of_getElem? (i := 67) rfl)), List.forall_mem_cons.mpr ⟨(tb2 _ (List.mem_of_getElem? (i := 69) rfl)), List.forall_mem_cons.mpr ⟨(tb2 _ (List.mem_of_getElem? (i := 71) rfl)), List.forall_mem_cons.mpr ⟨(tb2 _ (List.mem_of_getElem? (i := 73) rfl)), (fun _ h => absurd h List.not_mem_nil)⟩⟩⟩⟩⟩⟩⟩⟩
set_option maxRecDepth 100000 in
theorem inX1 : ∀ w ∈ wsX10, w ∈ lw_tbl := List.forall_mem_cons.mpr ⟨(tb1 _ (List.mem_of_getElem? (i := 59) rfl)), List.forall_mem_cons.mpr ⟨(tb1 _ (List.mem_of_getElem? (i := 61) rfl)), (fun _ h => absurd h List.not_mem_nil)⟩⟩
set_option maxRecDepth 100000 in
theorem inX2 : ∀ w ∈ wsX20, w ∈ lw_tbl := List.forall_mem_cons.mpr ⟨(tb1 _ (List.mem_of_getElem? (i := 101) rfl)), List.forall_mem_cons.mpr ⟨(tb1 _ (List.mem_of_getElem? (i := 103) rfl)), (fun _ h => absurd h List.not_mem_nil)⟩⟩
set_option maxRecDepth 100000 in
theorem inX3 : ∀ w ∈ wsX30, w ∈ lw_tbl := List.forall_mem_cons.mpr ⟨(tb1 _ (List.mem_of_getElem? (i := 137) rfl)), List.forall_mem_cons.mpr ⟨(tb1 _ (List.mem_of_getElem? (i := 139) rfl)), (fun _ h => absurd h List.not_mem_nil)⟩⟩
set_option maxRecDepth 100000 in
theorem inX4 : ∀ w ∈ wsX40, w ∈ lw_tbl := List.forall_mem_cons.mpr ⟨(tb1 _ (List.mem_of_getElem? (i := 216) rfl)), List.forall_mem_cons.mpr ⟨(tb1 _ (List.mem_of_getElem? (i := 218) rfl)), List.forall_mem_cons.mpr ⟨(tb1 _ (List.mem_of_getElem? (i := 220) rfl)), List.forall_mem_cons.mpr ⟨(tb1 _ (List.mem_of_getElem? (i := 222) rfl)), List.forall_mem_cons.mpr ⟨(tb1 _ (List.mem_of_getElem? (i := 224) rfl)), List.forall_mem_cons.mpr ⟨(tb1 _ (List.mem_of_getElem? (i := 226) rfl)), List.forall_mem_cons.mpr ⟨(tb1 _ (List.mem_of_getElem? (i := 228) rfl)), List.forall_mem_cons.mpr ⟨(tb1 _ (List.mem_of_getElem? (i := 230) rfl)), List.forall_mem_cons.mpr ⟨(tb1 _ (List.mem_of_getElem? (i := 232) rfl)), List.forall_mem_cons.mpr ⟨(tb1 _ (List.mem_of_getElem? (i := 234) rfl)), List.forall_mem_cons.mpr ⟨(tb1 _ (List.mem_of_getElem? (i := 236) rfl)), List.forall_mem_cons.mpr ⟨(tb1 _ (List.mem_of_getElem? (i := 238) rfl)), List.forall_mem_cons.mpr ⟨(tb2 _ (List.mem_of_getElem? (i := 0) rfl)), List.forall_mem_cons.mpr ⟨(tb2 _ (List.mem_of_getElem? (i := 2) rfl)), List.forall_mem_cons.mpr ⟨(tb2 _ (List.mem_of_getElem? (i := 4) rfl)), List.forall_mem_cons.mpr ⟨(tb2 _ (List.mem_of_getElem? (i := 6) rfl)), List.forall_mem_cons.mpr ⟨(tb2 _ (List.mem_of_getElem? (i := 8) rfl)), List.forall_mem_cons.mpr ⟨(tb2 _ (List.mem_of_getElem? (i := 10) rfl)), (fun _ h => absurd h List.not_mem_nil)⟩⟩⟩⟩⟩⟩⟩⟩⟩⟩⟩⟩⟩⟩⟩⟩⟩⟩
set_option maxRecDepth 100000 in
theorem inX5 : ∀ w ∈ wsX50, w ∈ lw_tbl := List.forall_mem_cons.mpr ⟨(tb1 _ (List.mem_of_getElem? (i := 38) rfl)), List.forall_mem_cons.mpr ⟨(tb1 _ (List.mem_of_getElem? (i := 40) rfl)), List.forall_mem_cons.mpr ⟨(tb1 _ (List.mem_of_getElem? (i := 42) rfl)), List.forall_mem_cons.mpr ⟨(tb1 _ (List.mem_of_getElem? (i := 44) rfl)), List.forall_mem_cons.mpr ⟨(tb1 _ (List.mem_of_getElem? (i := 46) rfl)), (fun _ h => absurd h List.not_mem_nil)⟩⟩⟩⟩⟩
set_option maxRecDepth 100000 in
theorem inX6 : ∀ w ∈ wsX60, w ∈ lw_tbl := List.forall_mem_cons.mpr ⟨(tb2 _ (List.mem_of_getElem? (i := 37) rfl)), List.forall_mem_cons.mpr ⟨(tb2 _ (List.mem_of_getElem? (i := 39) rfl)), List.forall_mem_cons.mpr ⟨(tb2 _ (List.mem_of_getElem? (i := 41) rfl)), List.forall_mem_cons.mpr ⟨(tb2 _ (List.mem_of_getElem? (i := 43) rfl)), List.forall_mem_cons.mpr ⟨(tb2 _ (List.mem_of_getElem? (i := 45) rfl)), List.forall_mem_cons.mpr ⟨(tb2 _ (List.mem_of_getElem? (i := 47) rfl)), (fun _ h => absurd h List.not_mem_nil)⟩⟩⟩⟩⟩⟩
set_option maxRecDepth 100000 in
theorem inX7 : ∀ w ∈ wsX70, w ∈ lw_tbl := List.forall_mem_cons.mpr ⟨(tb1 _ (List.mem_of_getElem? (i := 188) rfl)), List.forall_mem_cons.mpr ⟨(tb1 _ (List.mem_of_getElem? (i := 190) rfl)), (fun _ h => absurd h List.not_mem_nil)⟩⟩
set_option maxRecDepth 100000 in
theorem inX8 : ∀ w ∈ wsX80, w ∈ lw_tbl := List.forall_mem_cons.mpr ⟨(tb1 _ (List.mem_of_getElem? (i := 114) rfl)), List.forall_mem_cons.mpr ⟨(tb1 _ (List.mem_of_getElem? (i := 116) rfl)), (fun _ h => absurd h List.not_mem_nil)⟩⟩
set_option maxRecDepth 100000 in
theorem inX9 : ∀ w ∈ wsX90, w ∈ lw_tbl := List.forall_mem_cons.mpr ⟨(tb1 _ (List.mem_of_getElem? (i := 82) rfl)), List.forall_mem_cons.mpr ⟨(tb1 _ (List.mem_of_getElem? (i := 84) rfl)), List.forall_mem_cons.mpr ⟨(tb1 _ (List.mem_of_getElem? (i := 86) rfl)), List.forall_mem_cons.mpr ⟨(tb1 _ (List.mem_of_getElem? (i := 88) rfl)), List.forall_mem_cons.mpr ⟨(tb1 _ (List.mem_of_getElem? (i := 90) rfl)), (fun _ h => absurd h List.not_mem_nil)⟩⟩⟩⟩⟩
set_option maxRecDepth 100000 in
theorem inX10 : ∀ w ∈ wsX100, w ∈ lw_tbl := List.forall_mem_cons.mpr ⟨(tb1 _ (List.mem_of_getElem? (i := 150) rfl)), List.forall_mem_cons.mpr ⟨(tb1 _ (List.mem_of_getElem? (i := 152) rfl)), List.forall_mem_cons.mpr ⟨(tb1 _ (List.mem_of_getElem? (i := 154) rfl)), List.forall_mem_cons.mpr ⟨(tb1 _ (List.mem_of_getElem? (i := 156) rfl)), List.forall_mem_cons.mpr ⟨(tb1 _ (List.mem_of_getElem? (i := 158) rfl)), List.forall_mem_cons.mpr ⟨(tb1 _ (List.mem_of_getElem? (i := 160) rfl)), List.forall_mem_cons.mpr ⟨(tb1 _ (List.mem_of_getElem? (i := 162) rfl)), List.forall_mem_cons.mpr ⟨(tb1 _ (List.mem_of_getElem? (i := 164) rfl)), (fun _ h => absurd h List.not_mem_nil)⟩⟩⟩⟩⟩⟩⟩⟩
set_option maxRecDepth 100000 in
theorem inX11 : ∀ w ∈ wsX110, w ∈ lw_tbl := List.forall_mem_cons.mpr ⟨(tb2 _ (List.mem_of_getElem? (i := 87) rfl)), List.forall_mem_cons.mpr ⟨(tb2 _ (List.mem_of_getElem? (i := 89) rfl)), List.forall_mem_cons.mpr ⟨(tb2 _ (List.mem_of_getElem? (i := 91) rfl)), List.forall_mem_cons.mpr ⟨(tb2 _ (List.mem_of_getElem? (i := 93) rfl)), List.forall_mem_cons.mpr ⟨(tb2 _ (List.mem_of_getElem? (i := 95) rfl)), List.forall_mem_cons.mpr ⟨(tb2 _ (List.mem_of_getElem? (i := 97) rfl)), List.forall_mem_cons.mpr ⟨(tb2 _ (List.mem_of_getElem? (i := 99) rfl)), List.forall_mem_cons.mpr ⟨(tb2 _ (List.mem_of_getElem? (i := 101) rfl)), List.forall_mem_cons.mpr ⟨(tb2 _ (List.mem_of_getElem? (i := 103) rfl)), (fun _ h => absurd h List.not_mem_nil)⟩⟩⟩⟩⟩⟩⟩⟩⟩
set_option maxRecDepth 100000 in
theorem inX12 : ∀ w ∈ wsX120, w ∈ lw_tbl := List.forall_mem_cons.mpr ⟨(tb5 _ (List.mem_of_getElem? (i := 208) rfl)), List.forall_mem_cons.mpr ⟨(tb5 _ (List.mem_of_getElem? (i := 210) rfl)), List.forall_mem_cons.mpr ⟨(tb5 _ (List.mem_of_getElem? (i := 212) rfl)), List.forall_mem_cons.mpr ⟨(tb5 _ (List.mem_of_getElem? (i := 214) rfl)), List.forall_mem_cons.mpr ⟨(tb5 _ (List.mem_of_getElem? (i := 216) rfl)), List.forall_mem_cons.mpr ⟨(tb5 _ (List.mem_of_getElem? (i := 218) rfl)), List.forall_mem_cons.mpr ⟨(tb5 _ (List.mem_of_getElem? (i := 220) rfl)), List.forall_mem_cons.mpr ⟨(tb5 _ (List.mem_of_getElem? (i := 222) rfl)), List.forall_mem_cons.mpr ⟨(tb5 _ (List.mem_of_getElem? (i := 224) rfl)), List.forall_mem_cons.mpr ⟨(tb5 _ (List.mem_of_getElem? (i := 226) rfl)), List.forall_mem_cons.mpr ⟨(tb5 _ (List.mem_of_getElem? (i := 228) rfl)), List.forall_mem_cons.mpr ⟨(tb5 _ (List.mem_of_getElem? (i := 230) rfl)), List.forall_mem_cons.mpr ⟨(tb5 _ (List.mem_of_getElem? (i := 232) rfl)), List.forall_mem_cons.mpr ⟨(tb5 _ (List.mem_of_getElem? (i := 234) rfl)), List.forall_mem_cons.mpr ⟨(tb5 _ (List.mem_of_getElem? (i := 236) rfl)), List.forall_mem_cons.mpr ⟨(tb5 _ (List.mem_of_getElem? (i := 238) rfl)), List.forall_mem_cons.mpr ⟨(tb6 _ (List.mem_of_getElem? (i := 0) rfl)), List.forall_mem_cons.mpr ⟨(tb6 _ (List.mem_of_getElem? (i := 2) rfl)), List.forall_mem_cons.mpr ⟨(tb6 _ (List.mem_of_getElem? (i := 4) rfl)), List.forall_mem_cons.mpr ⟨(tb6 _ (List.mem_of_getElem? (i := 6) rfl)), List.forall_mem_cons.mpr ⟨(tb6 _ (List.mem_of_getElem? (i := 8) rfl)), List.forall_mem_cons.mpr ⟨(tb6 _ (List.mem_of_getElem? (i := 10) rfl)), List.forall_mem_cons.mpr ⟨(tb6 _ (List.mem_of_getElem? (i := 12) rfl)), List.forall_mem_cons.mpr ⟨(tb6 _ (List.mem_of_getElem? (i := 14) rfl)), List.forall_mem_cons.mpr ⟨(tb6 _ (List.mem_of_getElem? (i := 16) rfl)), List.forall_mem_cons.mpr ⟨(tb6 _ (List.mem_of_getElem? (i := 18) rfl)), List.forall_mem_cons.mpr ⟨(tb6 _ (List.mem_of_getElem? (i := 20) rfl)), List.forall_mem_cons.mpr ⟨(tb6 _ (List.mem_of_getElem? (i := 22) rfl)), List.forall_mem_cons.mpr ⟨(tb6 _ (List.mem_of_getElem? (i := 24) rfl)), List.forall_mem_cons.mpr ⟨(tb6 _ (List.mem_of_getElem? (i := 26) rfl)), List.forall_mem_cons.mpr ⟨(tb6 _ (List.mem_of_getElem? (i := 28) rfl)), List.forall_mem_cons.mpr ⟨(tb6 _ (List.mem_of_getElem? (i := 30) rfl)), List.forall_mem_cons.mpr ⟨(tb6 _ (List.mem_of_getElem? (i := 32) rfl)), List.forall_mem_cons.mpr ⟨(tb6 _ (List.mem_of_getElem? (i := 34) rfl)), List.forall_mem_cons.mpr ⟨(tb6 _ (List.mem_of_getElem? (i := 36) rfl)), List.forall_mem_cons.mpr ⟨(tb6 _ (List.mem_of_getElem? (i := 38) rfl)), List.forall_mem_cons.mpr ⟨(tb6 _ (List.mem_of_getElem? (i := 40) rfl)), List.forall_mem_cons.mpr ⟨(tb6 _ (List.mem_of_getElem? (i := 42) rfl)), List.forall_mem_cons.mpr ⟨(tb6 _ (List.mem_of_getElem? (i := 44) rfl)), List.forall_mem_cons.mpr ⟨(tb6 _ (List.mem_of_getElem? (i := 46) rfl)), List.forall_mem_cons.mpr ⟨(tb6 _ (List.mem_of_getElem? (i := 48) rfl)), List.forall_mem_cons.mpr ⟨(tb6 _ (List.mem_of_getElem? (i := 50) rfl)), List.forall_mem_cons.mpr ⟨(tb6 _ (List.mem_of_getElem? (i := 52) rfl)), List.forall_mem_cons.mpr ⟨(tb6 _ (List.mem_of_getElem? (i := 54) rfl)), List.forall_mem_cons.mpr ⟨(tb6 _ (List.mem_of_getElem? (i := 56) rfl)), List.forall_mem_cons.mpr ⟨(tb6 _ (List.mem_of_getElem? (i := 58) rfl)), List.forall_mem_cons.mpr ⟨(tb6 _ (List.mem_of_getElem? (i := 60) rfl)), List.forall_mem_cons.mpr ⟨(tb6 _ (List.mem_of_getElem? (i := 62) rfl)), List.forall_mem_cons.mpr ⟨(tb6 _ (List.mem_of_getElem? (i := 64) rfl)), (fun _ h => absurd h List.not_mem_nil)⟩⟩⟩⟩⟩⟩⟩⟩⟩⟩⟩⟩⟩⟩⟩⟩⟩⟩⟩⟩⟩⟩⟩⟩⟩⟩⟩⟩⟩⟩⟩⟩⟩⟩⟩⟩⟩⟩⟩⟩⟩⟩⟩⟩⟩⟩⟩⟩⟩
def SWT : List (List (Int × Nat) × Nat) := [([(34, 84), (42, 84), (47, 84), (58, 84), (60, 84), (62, 84), (63, 84), (92, 84), (124, 84)], 86), ([(0, 48), (1, 54), (2, 60), (3, 66), (4, 80), (5, 86), (6, 98), (7, 109)], 121), ([(0, 36), (1, 39), (2, 51)], 59), ([(0, 28), (1, 36), (2, 44)], 52), ([(0, 80), (1, 88), (2, 96)], 104), ([(0, 168), (1, 175), (2, 183), (3, 190), (4, 205), (5, 219), (6, 233), (7, 247)], 262)]
abbrev acO : Nat := 5
abbrev acI : Nat := 36
set_option maxRecDepth 100000 in
theorem ac_l : Cond.methodLink (oS acO) acI arraycopyName ∈ lw_tbl := (tb2 _ (List.mem_of_getElem? (i := 175) rfl))
set_option maxRecDepth 100000 in
theorem ac_w : Cond.native arraycopyName ∈ lw_tbl ∧ Cond.static arraycopyName ∈ lw_tbl ∧ Cond.initialized "java/lang/System" ∈ lw_tbl := ⟨(tb2 _ (List.mem_of_getElem? (i := 177) rfl)), (tb2 _ (List.mem_of_getElem? (i := 176) rfl)), (tb1 _ (List.mem_of_getElem? (i := 15) rfl))⟩
abbrev XK : Type := Nat × Nat × Bool
def mxP (e : XK) : Prop := Cond.methodLink (oS e.1) e.2.1 (match e.2.2 with | true => Lib.Math.min.name | false => Lib.Math.max.name) ∈ lw_tbl
def mxt_0 : List XK := [(8, 58, true), (8, 149, false), (5, 46, false), (0, 215, false), (9, 57, false)]
set_option maxRecDepth 100000 in
theorem mxt_ok_0 : ∀ e ∈ mxt_0, mxP e := List.forall_mem_cons.mpr ⟨(tb3 _ (List.mem_of_getElem? (i := 145) rfl)), List.forall_mem_cons.mpr ⟨(tb3 _ (List.mem_of_getElem? (i := 184) rfl)), List.forall_mem_cons.mpr ⟨(tb4 _ (List.mem_of_getElem? (i := 45) rfl)), List.forall_mem_cons.mpr ⟨(tb5 _ (List.mem_of_getElem? (i := 37) rfl)), List.forall_mem_cons.mpr ⟨(tb5 _ (List.mem_of_getElem? (i := 152) rfl)), (fun _ h => absurd h List.not_mem_nil)⟩⟩⟩⟩⟩
set_option maxRecDepth 100000 in
theorem mx_w : (Cond.static Lib.Math.max.name ∈ lw_tbl ∧ Cond.code Lib.Math.max.name Lib.Math.max.code 2 (some .int) ∈ lw_tbl) ∧ (Cond.static Lib.Math.min.name ∈ lw_tbl ∧ Cond.code Lib.Math.min.name Lib.Math.min.code 2 (some .int) ∈ lw_tbl) ∧ Cond.initialized "java/lang/Math" ∈ lw_tbl := ⟨⟨(tb3 _ (List.mem_of_getElem? (i := 185) rfl)), (tb3 _ (List.mem_of_getElem? (i := 186) rfl))⟩, ⟨(tb3 _ (List.mem_of_getElem? (i := 146) rfl)), (tb3 _ (List.mem_of_getElem? (i := 147) rfl))⟩, (tb1 _ (List.mem_of_getElem? (i := 16) rfl))⟩
end
section
/-! what a state is: 60 things that never come or go behind the constructors; each holds whole numbers (ints and longs alike as Int); references among them never change -/
abbrev AV : Type := Int ⊕ Int ⊕ Nat
abbrev AH : Type := Nat → Nat → Int
abbrev vI (z : Int) : AV := .inl z
abbrev vL (z : Int) : AV := .inr (.inl z)
abbrev vR (o : Nat) : AV := .inr (.inr o)
def cv (ad : Nat → Nat) : AV → Value
  | .inl z => .int (Int32.ofInt z)
  | .inr (.inl z) => .long (Int64.ofInt z)
  | .inr (.inr o) => .ref (ad o)
def wI (z : Int) : Int := (z + 2147483648) % 4294967296 - 2147483648
def wL (z : Int) : Int := (z + 9223372036854775808) % 18446744073709551616 - 9223372036854775808
def w8 (z : Int) : Int := (z + 128) % 256 - 128
def bA (x y : Int) : Int := (Int32.ofInt x &&& Int32.ofInt y).toInt
def bO (x y : Int) : Int := (Int32.ofInt x ||| Int32.ofInt y).toInt
def bX (x y : Int) : Int := (Int32.ofInt x ^^^ Int32.ofInt y).toInt
def bAL (x y : Int) : Int := (Int64.ofInt x &&& Int64.ofInt y).toInt
def bOL (x y : Int) : Int := (Int64.ofInt x ||| Int64.ofInt y).toInt
def bXL (x y : Int) : Int := (Int64.ofInt x ^^^ Int64.ofInt y).toInt
def sLI (x y : Int) : Int := x * 2 ^ (y % 32).toNat
def sRI (x y : Int) : Int := wI x / 2 ^ (y % 32).toNat
def sUI (x y : Int) : Int := x % 4294967296 / 2 ^ (y % 32).toNat
def sLL (x y : Int) : Int := x * 2 ^ (y % 64).toNat
def sRL (x y : Int) : Int := wL x / 2 ^ (y % 64).toNat
def sUL (x y : Int) : Int := x % 18446744073709551616 / 2 ^ (y % 64).toNat
theorem wI_eq (z : Int) : (Int32.ofInt z).toInt = wI z := by
  rw [Int32.toInt_ofInt]; unfold wI Int.bmod Int32.size; dsimp only; split <;> omega
theorem wL_eq (z : Int) : (Int64.ofInt z).toInt = wL z := by
  rw [Int64.toInt_ofInt]; unfold wL Int.bmod Int64.size; dsimp only; split <;> omega
theorem wI_id {z : Int} (h : -2147483648 ≤ z) (h2 : z < 2147483648) : wI z = z := by unfold wI; omega
theorem wL_id {z : Int} (h : -9223372036854775808 ≤ z) (h2 : z < 9223372036854775808) : wL z = z := by unfold wL; omega
theorem wI_lo (z : Int) : -2147483648 ≤ wI z := by unfold wI; omega
theorem wI_hi (z : Int) : wI z < 2147483648 := by unfold wI; omega
theorem iZ_w (z : Int) : Int32.ofInt (wI z) = Int32.ofInt z := by rw [← wI_eq, Int32.ofInt_toInt]
theorem lZ_w (z : Int) : Int64.ofInt (wL z) = Int64.ofInt z := by rw [← wL_eq, Int64.ofInt_toInt]
theorem iZ_inj {x y : Int} : Int32.ofInt x = Int32.ofInt y ↔ wI x = wI y := by rw [← Int32.toInt_inj, wI_eq, wI_eq]
theorem lZ_inj {x y : Int} : Int64.ofInt x = Int64.ofInt y ↔ wL x = wL y := by rw [← Int64.toInt_inj, wL_eq, wL_eq]
theorem iZ_lt {x y : Int} : Int32.ofInt x < Int32.ofInt y ↔ wI x < wI y := by rw [Int32.lt_iff_toInt_lt, wI_eq, wI_eq]
theorem iZ_le {x y : Int} : Int32.ofInt x ≤ Int32.ofInt y ↔ wI x ≤ wI y := by rw [Int32.le_iff_toInt_le, wI_eq, wI_eq]
theorem lZ_lt {x y : Int} : Int64.ofInt x < Int64.ofInt y ↔ wL x < wL y := by rw [Int64.lt_iff_toInt_lt, wL_eq, wL_eq]
theorem lZ_le {x y : Int} : Int64.ofInt x ≤ Int64.ofInt y ↔ wL x ≤ wL y := by rw [Int64.le_iff_toInt_le, wL_eq, wL_eq]
theorem wI_0 : wI 0 = 0 := rfl
theorem iZ_and (x y : Int) : Int32.ofInt (bA x y) = Int32.ofInt x &&& Int32.ofInt y := Int32.ofInt_toInt _
theorem iZ_or (x y : Int) : Int32.ofInt (bO x y) = Int32.ofInt x ||| Int32.ofInt y := Int32.ofInt_toInt _
theorem iZ_xor (x y : Int) : Int32.ofInt (bX x y) = Int32.ofInt x ^^^ Int32.ofInt y := Int32.ofInt_toInt _
theorem lZ_and (x y : Int) : Int64.ofInt (bAL x y) = Int64.ofInt x &&& Int64.ofInt y := Int64.ofInt_toInt _
theorem lZ_or (x y : Int) : Int64.ofInt (bOL x y) = Int64.ofInt x ||| Int64.ofInt y := Int64.ofInt_toInt _
theorem lZ_xor (x y : Int) : Int64.ofInt (bXL x y) = Int64.ofInt x ^^^ Int64.ofInt y := Int64.ofInt_toInt _
theorem iZ_div (x y : Int) : Int32.ofInt (Int.tdiv (wI x) (wI y)) = Int32.ofInt x / Int32.ofInt y := by
  rw [← Int32.toInt_inj, Int32.toInt_div, Int32.toInt_ofInt, wI_eq x, wI_eq y]
theorem lZ_div (x y : Int) : Int64.ofInt (Int.tdiv (wL x) (wL y)) = Int64.ofInt x / Int64.ofInt y := by
  rw [← Int64.toInt_inj, Int64.toInt_div, Int64.toInt_ofInt, wL_eq x, wL_eq y]
theorem iZ_rem (x y : Int) : Int32.ofInt (Int.tmod (wI x) (wI y)) = Int32.ofInt x - Int32.ofInt x / Int32.ofInt y * Int32.ofInt y := by
  have h : Int.tmod (wI x) (wI y) = wI x - Int.tdiv (wI x) (wI y) * wI y := by rw [Int.tmod_def, Int.mul_comm]
  rw [h, Int32.ofInt_sub, Int32.ofInt_mul, iZ_div, iZ_w, iZ_w]
theorem lZ_rem (x y : Int) : Int64.ofInt (Int.tmod (wL x) (wL y)) = Int64.ofInt x - Int64.ofInt x / Int64.ofInt y * Int64.ofInt y := by
  have h : Int.tmod (wL x) (wL y) = wL x - Int.tdiv (wL x) (wL y) * wL y := by rw [Int.tmod_def, Int.mul_comm]
  rw [h, Int64.ofInt_sub, Int64.ofInt_mul, lZ_div, lZ_w, lZ_w]
theorem iZ_l (x : Int) : (Int32.ofInt x).toInt64 = Int64.ofInt (wI x) := by
  rw [← Int64.ofInt_int32ToInt, wI_eq]
theorem lZ_i (x : Int) : (Int64.ofInt x).toInt32 = Int32.ofInt x := by
  rw [← Int32.ofInt_int64ToInt, wL_eq, iZ_inj]; unfold wI wL; omega
theorem iZ_8 (x : Int) : (Int32.ofInt x).toInt8.toInt32 = Int32.ofInt (w8 x) := by
  rw [← Int32.toInt_inj, Int8.toInt_toInt32, Int32.toInt_toInt8, wI_eq, wI_eq]
  unfold Int.bmod wI w8; dsimp only; split <;> omega
theorem iZ_nat (n : Nat) : Int32.ofNat n = Int32.ofInt (n : Int) := Int32.ofInt_eq_ofNat.symm
theorem toN_i (z : Int) : (Int32.ofInt z).toNatClampNeg = (wI z).toNat := by unfold Int32.toNatClampNeg; rw [wI_eq]
theorem in_iff {z : Int} {n : Nat} : vp_in (Int32.ofInt z) n ↔ 0 ≤ wI z ∧ wI z < n := by rw [vp_in_iff, wI_eq]
theorem smod_31 (y : Int) : ((Int32.ofInt y &&& 31).toBitVec.smod 32).toNat = (y % 32).toNat := by
  have h1 : (Int32.ofInt y &&& 31).toBitVec = BitVec.ofInt 32 y &&& 31#32 := by simp
  have h2 : (BitVec.ofInt 32 y &&& 31#32).toNat = (y % 32).toNat := by
    rw [BitVec.toNat_and, show (31#32).toNat = 2 ^ 5 - 1 from rfl, Nat.and_two_pow_sub_one_eq_mod, BitVec.toNat_ofInt]
    omega
  rw [h1]
  have h3 : (BitVec.ofInt 32 y &&& 31#32).toNat < 32 := by rw [h2]; omega
  generalize BitVec.ofInt 32 y &&& 31#32 = w at h2 h3
  have h4 : w.smod 32 = w := by
    rw [BitVec.smod_eq]
    have hm : w.msb = false := by rw [BitVec.msb_eq_false_iff_two_mul_lt]; omega
    simp only [hm, show (32#32).msb = false from rfl]
    apply BitVec.eq_of_toNat_eq
    simp only [BitVec.umod_eq, BitVec.toNat_umod]
    exact Nat.mod_eq_of_lt h3
  rw [h4, h2]
theorem iZ_shl (x y : Int) : Int32.ofInt (sLI x y) = Int32.ofInt x <<< (Int32.ofInt y &&& 31) := by
  apply Int32.toBitVec_inj.mp
  apply BitVec.eq_of_toNat_eq
  rw [pk_shl _ _ (y % 32).toNat (smod_31 y)]
  simp only [Int32.toBitVec_ofInt, BitVec.toNat_ofInt]
  unfold sLI
  generalize (y % 32).toNat = k
  have e1 : ((x % ((2 ^ 32 : Nat) : Int)).toNat : Int) = x % ((2 ^ 32 : Nat) : Int) := Int.toNat_of_nonneg (Int.emod_nonneg _ (by decide))
  have e2 : (((x * 2 ^ k) % ((2 ^ 32 : Nat) : Int)).toNat : Int) = (x * 2 ^ k) % ((2 ^ 32 : Nat) : Int) := Int.toNat_of_nonneg (Int.emod_nonneg _ (by decide))
  apply Int.ofNat.inj
  show (((x * 2 ^ k) % ((2 ^ 32 : Nat) : Int)).toNat : Int) = (((x % ((2 ^ 32 : Nat) : Int)).toNat * 2 ^ k % 2 ^ 32 : Nat) : Int)
  rw [e2, Int.natCast_emod, Int.natCast_mul, e1, Int.natCast_pow 2 k]
  show (x * 2 ^ k) % 4294967296 = (x % 4294967296 * 2 ^ k) % 4294967296
  rw [Int.mul_emod x, Int.mul_emod (x % 4294967296) (2 ^ k), Int.emod_emod]
theorem iZ_shr (x y : Int) : Int32.ofInt (sRI x y) = Int32.ofInt x >>> (Int32.ofInt y &&& 31) := by
  rw [← Int32.toInt_inj, pk_shr _ _ (y % 32).toNat (smod_31 y), wI_eq, wI_eq]
  unfold sRI
  rw [Int.shiftRight_eq_div_pow]
  generalize (y % 32).toNat = k
  have a1 := wI_lo x
  have a2 := wI_hi x
  generalize wI x = v at a1 a2
  have hp : (0 : Int) < 2 ^ k := Int.pow_pos (by decide)
  push_cast
  apply wI_id
  · rcases Int.lt_or_le v 0 with h | h
    · have := Int.le_ediv_of_mul_le hp (show v * 2 ^ k ≤ v from by
        have : (1 : Int) ≤ 2 ^ k := hp
        have h9 := Int.mul_le_mul_of_nonneg_left this (show 0 ≤ -v by omega)
        rw [Int.neg_mul, Int.neg_mul] at h9
        omega)
      omega
    · have := Int.ediv_nonneg h (Int.le_of_lt hp)
      omega
  · rcases Int.lt_or_le v 0 with h | h
    · have := Int.ediv_neg_of_neg_of_pos h hp
      omega
    · have := Int.ediv_le_self (2 ^ k) h
      omega
theorem smodU_31 (y : Int) : (((Int32.ofInt y).toUInt32 &&& Int32.toUInt32 31).toBitVec % 32).toNat = (y % 32).toNat := by
  have h1 : ((Int32.ofInt y).toUInt32 &&& Int32.toUInt32 31).toBitVec = BitVec.ofInt 32 y &&& 31#32 := rfl
  have h2 : (BitVec.ofInt 32 y &&& 31#32).toNat = (y % 32).toNat := by
    rw [BitVec.toNat_and, show (31#32).toNat = 2 ^ 5 - 1 from rfl, Nat.and_two_pow_sub_one_eq_mod, BitVec.toNat_ofInt]
    omega
  rw [h1]
  show ((BitVec.ofInt 32 y &&& 31#32).toNat) % 32 = _
  rw [h2]
  omega
theorem iZ_ushr (x y : Int) : ((Int32.ofInt x).toUInt32 >>> ((Int32.ofInt y).toUInt32 &&& Int32.toUInt32 31)).toInt32 = Int32.ofInt (sUI x y) := by
  apply Int32.toBitVec_inj.mp
  apply BitVec.eq_of_toNat_eq
  rw [pk_ushr _ _ (y % 32).toNat (smodU_31 y)]
  simp only [Int32.toBitVec_ofInt, BitVec.toNat_ofInt]
  unfold sUI
  generalize (y % 32).toNat = k
  have e1 : ((x % ((2 ^ 32 : Nat) : Int)).toNat : Int) = x % ((2 ^ 32 : Nat) : Int) := Int.toNat_of_nonneg (Int.emod_nonneg _ (by decide))
  have n0 : (0 : Int) ≤ x % 4294967296 := Int.emod_nonneg _ (by decide)
  have n1 : x % 4294967296 < 4294967296 := Int.emod_lt_of_pos _ (by decide)
  have hp : (0 : Int) < 2 ^ k := Int.pow_pos (by decide)
  have n2 : 0 ≤ x % 4294967296 / 2 ^ k := Int.ediv_nonneg n0 (Int.le_of_lt hp)
  have n3 : x % 4294967296 / 2 ^ k ≤ x % 4294967296 := Int.ediv_le_self _ n0
  have n4 : x % 4294967296 / 2 ^ k % 4294967296 = x % 4294967296 / 2 ^ k := Int.emod_eq_of_lt n2 (by omega)
  apply Int.ofNat.inj
  show (((x % ((2 ^ 32 : Nat) : Int)).toNat / 2 ^ k : Nat) : Int) = (((x % 4294967296 / 2 ^ k) % 4294967296).toNat : Int)
  rw [n4, Int.toNat_of_nonneg n2, Int.natCast_ediv, e1, Int.natCast_pow 2 k]
  rfl
theorem p6_shl (a s : Int64) (k : Nat) (hs : (s.toBitVec.smod 64).toNat = k) : (a <<< s).toBitVec.toNat = a.toBitVec.toNat * 2 ^ k % 2 ^ 64 := by
  show (a.toBitVec <<< (s.toBitVec.smod 64).toNat).toNat = _
  rw [hs, BitVec.toNat_shiftLeft, Nat.shiftLeft_eq]
theorem p6_shr (a s : Int64) (k : Nat) (hs : (s.toBitVec.smod 64).toNat = k) : (a >>> s).toInt = a.toInt >>> k := by
  show (a.toBitVec.sshiftRight (s.toBitVec.smod 64).toNat).toInt = _
  rw [hs, BitVec.toInt_sshiftRight]
  rfl
theorem p6_ushr (x : Int64) (u : UInt64) (k : Nat) (hs : (u.toBitVec % 64).toNat = k) : (x.toUInt64 >>> u).toInt64.toBitVec.toNat = x.toBitVec.toNat / 2 ^ k := by
  have e : (x.toUInt64 >>> u).toInt64.toBitVec = x.toBitVec >>> k := by
    rw [← hs]
    exact UInt64.toBitVec_shiftRight _ _
  rw [e, BitVec.toNat_ushiftRight, Nat.shiftRight_eq_div_pow]
theorem i64_bv (y : Int) : (Int32.ofInt y).toInt64.toBitVec = BitVec.ofInt 64 (wI y) := by
  rw [iZ_l, Int64.toBitVec_ofInt]
theorem smod_63 (y : Int) : (((Int32.ofInt y).toInt64 &&& 63).toBitVec.smod 64).toNat = (y % 64).toNat := by
  have h1 : ((Int32.ofInt y).toInt64 &&& 63).toBitVec = BitVec.ofInt 64 (wI y) &&& 63#64 := by rw [← i64_bv]; simp
  have h2 : (BitVec.ofInt 64 (wI y) &&& 63#64).toNat = (y % 64).toNat := by
    rw [BitVec.toNat_and, show (63#64).toNat = 2 ^ 6 - 1 from rfl, Nat.and_two_pow_sub_one_eq_mod, BitVec.toNat_ofInt]
    unfold wI
    omega
  rw [h1]
  have h3 : (BitVec.ofInt 64 (wI y) &&& 63#64).toNat < 64 := by rw [h2]; omega
  generalize BitVec.ofInt 64 (wI y) &&& 63#64 = w at h2 h3
  have h4 : w.smod 64 = w := by
    rw [BitVec.smod_eq]
    have hm : w.msb = false := by rw [BitVec.msb_eq_false_iff_two_mul_lt]; omega
    simp only [hm, show (64#64).msb = false from rfl]
    apply BitVec.eq_of_toNat_eq
    simp only [BitVec.umod_eq, BitVec.toNat_umod]
    exact Nat.mod_eq_of_lt h3
  rw [h4, h2]
theorem smodU_63 (y : Int) : (((Int32.ofInt y).toInt64.toUInt64 &&& Int64.toUInt64 63).toBitVec % 64).toNat = (y % 64).toNat := by
  have h1 : ((Int32.ofInt y).toInt64.toUInt64 &&& Int64.toUInt64 63).toBitVec = (Int32.ofInt y).toInt64.toBitVec &&& 63#64 := rfl
  have h2 : (BitVec.ofInt 64 (wI y) &&& 63#64).toNat = (y % 64).toNat := by
    rw [BitVec.toNat_and, show (63#64).toNat = 2 ^ 6 - 1 from rfl, Nat.and_two_pow_sub_one_eq_mod, BitVec.toNat_ofInt]
    unfold wI
    omega
  rw [h1, i64_bv]
  show ((BitVec.ofInt 64 (wI y) &&& 63#64).toNat) % 64 = _
  rw [h2]
  omega
theorem wL_lo (z : Int) : -9223372036854775808 ≤ wL z := by unfold wL; omega
theorem wL_hi (z : Int) : wL z < 9223372036854775808 := by unfold wL; omega
theorem lZ_shl (x y : Int) : Int64.ofInt (sLL x y) = Int64.ofInt x <<< ((Int32.ofInt y).toInt64 &&& 63) := by
  apply Int64.toBitVec_inj.mp
  apply BitVec.eq_of_toNat_eq
  rw [p6_shl _ _ (y % 64).toNat (smod_63 y)]
  simp only [Int64.toBitVec_ofInt, BitVec.toNat_ofInt]
  unfold sLL
  generalize (y % 64).toNat = k
  have e1 : ((x % ((2 ^ 64 : Nat) : Int)).toNat : Int) = x % ((2 ^ 64 : Nat) : Int) := Int.toNat_of_nonneg (Int.emod_nonneg _ (by decide))
  have e2 : (((x * 2 ^ k) % ((2 ^ 64 : Nat) : Int)).toNat : Int) = (x * 2 ^ k) % ((2 ^ 64 : Nat) : Int) := Int.toNat_of_nonneg (Int.emod_nonneg _ (by decide))
  apply Int.ofNat.inj
  show (((x * 2 ^ k) % ((2 ^ 64 : Nat) : Int)).toNat : Int) = (((x % ((2 ^ 64 : Nat) : Int)).toNat * 2 ^ k % 2 ^ 64 : Nat) : Int)
  rw [e2, Int.natCast_emod, Int.natCast_mul, e1, Int.natCast_pow 2 k]
  show (x * 2 ^ k) % 18446744073709551616 = (x % 18446744073709551616 * 2 ^ k) % 18446744073709551616
  rw [Int.mul_emod x, Int.mul_emod (x % 18446744073709551616) (2 ^ k), Int.emod_emod]
theorem lZ_shr (x y : Int) : Int64.ofInt (sRL x y) = Int64.ofInt x >>> ((Int32.ofInt y).toInt64 &&& 63) := by
  rw [← Int64.toInt_inj, p6_shr _ _ (y % 64).toNat (smod_63 y), wL_eq, wL_eq]
  unfold sRL
  rw [Int.shiftRight_eq_div_pow]
  generalize (y % 64).toNat = k
  have a1 := wL_lo x
  have a2 := wL_hi x
  generalize wL x = v at a1 a2
  have hp : (0 : Int) < 2 ^ k := Int.pow_pos (by decide)
  push_cast
  apply wL_id
  · rcases Int.lt_or_le v 0 with h | h
    · have := Int.le_ediv_of_mul_le hp (show v * 2 ^ k ≤ v from by
        have : (1 : Int) ≤ 2 ^ k := hp
        have h9 := Int.mul_le_mul_of_nonneg_left this (show 0 ≤ -v by omega)
        rw [Int.neg_mul, Int.neg_mul] at h9
        omega)
      omega
    · have := Int.ediv_nonneg h (Int.le_of_lt hp)
      omega
  · rcases Int.lt_or_le v 0 with h | h
    · have := Int.ediv_neg_of_neg_of_pos h hp
      omega
    · have := Int.ediv_le_self (2 ^ k) h
      omega
theorem lZ_ushr (x y : Int) : ((Int64.ofInt x).toUInt64 >>> ((Int32.ofInt y).toInt64.toUInt64 &&& Int64.toUInt64 63)).toInt64 = Int64.ofInt (sUL x y) := by
  apply Int64.toBitVec_inj.mp
  apply BitVec.eq_of_toNat_eq
  rw [p6_ushr _ _ (y % 64).toNat (smodU_63 y)]
  simp only [Int64.toBitVec_ofInt, BitVec.toNat_ofInt]
  unfold sUL
  generalize (y % 64).toNat = k
  have e1 : ((x % ((2 ^ 64 : Nat) : Int)).toNat : Int) = x % ((2 ^ 64 : Nat) : Int) := Int.toNat_of_nonneg (Int.emod_nonneg _ (by decide))
  have n0 : (0 : Int) ≤ x % 18446744073709551616 := Int.emod_nonneg _ (by decide)
  have n1 : x % 18446744073709551616 < 18446744073709551616 := Int.emod_lt_of_pos _ (by decide)
  have hp : (0 : Int) < 2 ^ k := Int.pow_pos (by decide)
  have n2 : 0 ≤ x % 18446744073709551616 / 2 ^ k := Int.ediv_nonneg n0 (Int.le_of_lt hp)
  have n3 : x % 18446744073709551616 / 2 ^ k ≤ x % 18446744073709551616 := Int.ediv_le_self _ n0
  have n4 : x % 18446744073709551616 / 2 ^ k % 18446744073709551616 = x % 18446744073709551616 / 2 ^ k := Int.emod_eq_of_lt n2 (by omega)
  apply Int.ofNat.inj
  show (((x % ((2 ^ 64 : Nat) : Int)).toNat / 2 ^ k : Nat) : Int) = (((x % 18446744073709551616 / 2 ^ k) % 18446744073709551616).toNat : Int)
  rw [n4, Int.toNat_of_nonneg n2, Int.natCast_ediv, e1, Int.natCast_pow 2 k]
  rfl
end
section
/-! the world of the 60 things, and what an instruction does with it -/
def fv (o : Nat) (f : Nat → Int) (k : Nat) : AV := match fd_k (ob_kd o) k with
  | 3 => vR (ob_rf o k)
  | 2 => vL (f k)
  | _ => vI (f k)
def ob_cell (cy : Nat → ClassId) (ad : Nat → Nat) (o : Nat) (f : Nat → Int) : va_E :=
  if ob_kd o < 13 then .inr (ob_kd o, (List.range (fd_n (ob_kd o))).map (fun k => cv ad (fv o f k)))
  else if ob_kd o = 15 then .inl (cy 15, ob_ln o, .inr (.inl (fun k => Int64.ofInt (f k))))
  else .inl (cy (ob_kd o), ob_ln o, .inl (fun k => Int32.ofInt (f k)))
def wd (cy : Nat → ClassId) (ad : Nat → Nat) (h : AH) : va_W := (List.range 60).map (fun o => (ad o, ob_cell cy ad o (h o)))
def wtys (cy : Nat → ClassId) : List (ClassId × FieldType) := [(cy 13, .byte), (cy 14, .int), (cy 15, .long), (cy 16, .boolean)]
def hs (h : AH) (o k : Nat) (z : Int) : AH := fun o' => if o' = o then (fun k' => if k' = k then z else h o k') else h o'
theorem wd_get {cy : Nat → ClassId} {ad : Nat → Nat} {h : AH} {o : Nat} (ho : o < 60) : (wd cy ad h)[o]? = some (ad o, ob_cell cy ad o (h o)) := by
  simp [wd, ho]
theorem wd_set {cy : Nat → ClassId} {ad : Nat → Nat} {h h' : AH} {o : Nat} {e : va_E} (he : e = ob_cell cy ad o (h' o)) (hh : ∀ q, q ≠ o → h' q = h q) : (wd cy ad h).set o (ad o, e) = wd cy ad h' := by
  apply List.ext_getElem?
  intro i
  by_cases hi : i < 60
  · rw [List.getElem?_set]
    by_cases hq : o = i
    · subst hq
      rw [if_pos rfl, wd_get hi, he]
      simp [wd, hi]
    · rw [if_neg hq, wd_get hi, wd_get hi, hh i (fun q => hq q.symm)]
  · rw [List.getElem?_eq_none (by simp [wd]; omega), List.getElem?_eq_none (by simp [wd]; omega)]
theorem hs_ne (h : AH) (o k : Nat) (z : Int) (q : Nat) (hq : q ≠ o) : hs h o k z q = h q := if_neg hq
theorem hs_eq (h : AH) (o k : Nat) (z : Int) : hs h o k z o = fun k' => if k' = k then z else h o k' := if_pos rfl
/-- launch, classes' numbers, slots, array classes, addresses -/
abbrev GG : Type := Launch × (Nat → ClassId) × (Nat → Nat → Nat) × (Nat → ClassId) × (Nat → Nat)
def gA (G : GG) : Nat → Prop := fun q => ∃ o, o < 60 ∧ q = G.2.2.2.2 o
abbrev gW (G : GG) (h : AH) : va_W := wd G.2.2.2.1 G.2.2.2.2 h
abbrev gc (G : GG) : AV → Value := cv G.2.2.2.2
abbrev gD (G : GG) : va_G := (G.2.1, G.2.2.1)
def gB (G : GG) (h : AH) (t : State) : Prop := va_P (gD G) vwCl (gW G h) t.heap ∧ va_K (gD G) vwCl (wtys G.2.2.2.1) t ∧ va_D (gA G) (gW G h)
def gQ (G : GG) (post : Option AV → AH → Prop) : Array Value → State → Outcome → State → Prop := fun _ st oc t =>
  (∃ (r : Option AV) (h : AH), oc = .returned (r.map (gc G)) ∧ post r h ∧ gB G h t) ∧ va_F (gA G) st t
/-- the words of the tables that go through a call -/
def gtb : List Cond := lw_tbl.filter goodWord
theorem inG {w : Cond} (h : w ∈ lw_tbl) (hg : goodWord w = true) : w ∈ gtb := List.mem_filter.mpr ⟨h, hg⟩
def isNst : Cond → Bool
  | .fieldLinkNest .. => true
  | _ => false
/-- the links to a nest mate's private fields -/
def nwt : List Cond := lw_tbl.filter isNst
def nW (U : State) : Prop := ∀ w ∈ nwt, va_Nw w U
theorem inN {w : Cond} (h : w ∈ lw_tbl) (hg : isNst w = true) : w ∈ nwt := List.mem_filter.mpr ⟨h, hg⟩
theorem nW_warm {s U : State} (hW : s.WarmedH U.vm) (h : nW s) : nW U := by
  intro w hw
  have h2 := (List.mem_filter.mp hw).2
  have h3 := h w hw
  cases w <;> first | exact va_Nw.warmF hW h3 | exact absurd h2 (by simp [isNst])
theorem nW_same {u U : State} (hv : u.vm = U.vm) (h : nW u) : nW U := by
  intro w hw
  have h2 := (List.mem_filter.mp hw).2
  have h3 := h w hw
  cases w <;> first | exact va_Nw.same rfl hv h3 | exact absurd h2 (by simp [isNst])
abbrev mRm (i : Nat) : Room := { frames := mF i, cells := 0, slots := 0, locals := mO i }
/-- method i, called with these arguments over h, comes back with 'post' -/
def Runs (G : GG) (i : Nat) (as : List AV) (h : AH) (post : Option AV → AH → Prop) : Prop :=
  Met G.1 (mN i) (mW i :: gtb) (mRm i) (va_Pc (as.map (gc G)) (fun U => gB G h U ∧ nW U)) (gQ G post) 0 0 (gA G)
def pI (P : Int → AH → Prop) (r : Option AV) (h : AH) : Prop := match r with
  | some (.inl x) => P x h
  | _ => False
def pL (P : Int → AH → Prop) (r : Option AV) (h : AH) : Prop := match r with
  | some (.inr (.inl x)) => P x h
  | _ => False
def pV (P : AH → Prop) (r : Option AV) (h : AH) : Prop := match r with
  | none => P h
  | _ => False
def RunsI (G : GG) (i : Nat) (as : List AV) (h : AH) (P : Int → AH → Prop) : Prop := Runs G i as h (pI P)
def RunsL (G : GG) (i : Nat) (as : List AV) (h : AH) (P : Int → AH → Prop) : Prop := Runs G i as h (pL P)
def RunsV (G : GG) (i : Nat) (as : List AV) (h : AH) (P : AH → Prop) : Prop := Runs G i as h (pV P)
def LH (G : GG) (ls : List (Option AV)) (lsA : Array Slot) (n : Nat) : Prop := lsA.size = n ∧ lv_wf lsA ∧ ∀ (i : Nat) (v : AV), ls[i]? = some (some v) → lsA[i]? = some (Slot.val (gc G v))
def Cx (p : Program) (s : State) (m : MethodId) (args : Array Value) (meth : Method) (c : Code) (i : Nat) : Prop :=
  p.tables.exec = Jvm.exec ∧ c.code = mC i ∧ meth.sig.returnType = mR i ∧ c.maxLocals = mL i ∧ s.vm.findClass (mN i).cls = some m.cls ∧ (∀ w ∈ gtb, w.before args s = true) ∧ meth.locks = false ∧ i < 278 ∧ nW s
/-- method i at pc, with these locals and this stack over h, comes to its end with 'post' -/
def Go (G : GG) (post : Option AV → AH → Prop) (i pc : Nat) (ls : List (Option AV)) (st : List AV) (h : AH) : Prop :=
  ∀ (p : Program) (e : Env) (s : State) (m : MethodId) (args : Array Value) (below : List Frame) (meth : Method) (c : Code) (H : Heap) (locs : List Loc) (lsA : Array Slot),
    Cx p s m args meth c i → va_K (gD G) vwCl (wtys G.2.2.2.1) s → va_P (gD G) vwCl (gW G h) H → va_D (gA G) (gW G h) → va_S (gA G) s.heap H locs → LH G ls lsA (mL i) →
    W p G.1 e (mRm i) s m args below meth c H locs 0 0 (MQ below (gQ G post) args s 0 0 (gA G)) (F0 m pc lsA (st.map (gc G)))
def isLg : Option AV → Bool
  | some (.inr (.inl _)) => true
  | _ => false
/-- a long whose second half is at i is gone -/
def clr (ls : List (Option AV)) (i : Nat) : List (Option AV) := match i with
  | 0 => ls
  | j + 1 => match isLg (ls.getD j none) with
    | true => ls.set j none
    | false => ls
def st1 (ls : List (Option AV)) (i : Nat) (v : AV) : List (Option AV) := (clr ls i).set i (some v)
def st2 (ls : List (Option AV)) (i : Nat) (v : AV) : List (Option AV) := ((clr ls i).set i (some v)).set (i + 1) none
theorem clr_get {ls : List (Option AV)} {i j : Nat} {v : AV} (h : (clr ls i)[j]? = some (some v)) : ls[j]? = some (some v) ∧ ¬ (j + 1 = i ∧ isLg (some v) = true) := by
  unfold clr at h
  split at h
  · exact ⟨h, fun q => by omega⟩
  · rename_i k
    split at h
    · rename_i hk
      rw [List.getElem?_set] at h
      split at h
      · split at h <;> simp at h
      · exact ⟨h, fun q => by omega⟩
    · rename_i hk
      refine ⟨h, fun q => ?_⟩
      have hj : j = k := by omega
      subst hj
      rw [List.getD_eq_getElem?_getD, h] at hk
      simp [q.2] at hk
theorem st1_get {ls : List (Option AV)} {i j : Nat} {v w : AV} (h : (st1 ls i v)[j]? = some (some w)) : (j = i ∧ w = v) ∨ (j ≠ i ∧ ls[j]? = some (some w) ∧ ¬ (j + 1 = i ∧ isLg (some w) = true)) := by
  unfold st1 at h
  rw [List.getElem?_set] at h
  split at h
  · rename_i hij
    split at h
    · exact Or.inl ⟨hij.symm, by simpa using h.symm⟩
    · simp at h
  · have h2 := clr_get h
    right
    exact ⟨by omega, h2⟩
theorem st1_get' {ls : List (Option AV)} {i j : Nat} {v w : AV} (h : (st1 ls i v)[j]? = some (some w)) : (j = i ∧ w = v) ∨ (j ≠ i ∧ ls[j]? = some (some w) ∧ ¬ (j + 1 = i ∧ isLg (some w) = true)) := st1_get h
theorem st2_get {ls : List (Option AV)} {i j : Nat} {v w : AV} (h : (st2 ls i v)[j]? = some (some w)) : (j = i ∧ w = v) ∨ (j ≠ i ∧ j ≠ i + 1 ∧ ls[j]? = some (some w) ∧ ¬ (j + 1 = i ∧ isLg (some w) = true)) := by
  unfold st2 at h
  rw [List.getElem?_set] at h
  split at h
  · split at h <;> simp at h
  · rename_i h1
    rcases st1_get h with a | a
    · exact Or.inl a
    · exact Or.inr ⟨a.1, by omega, a.2⟩
/-- the pairs that the kit's rows take -/
def prs (G : GG) : Nat → List (Option AV) → List (Nat × Value)
  | _, [] => []
  | i, none :: r => prs G (i + 1) r
  | i, some v :: r => (i, gc G v) :: prs G (i + 1) r
theorem prs_mem {G : GG} : ∀ (ls : List (Option AV)) (n : Nat) (q : Nat × Value), q ∈ prs G n ls ↔ ∃ i v, ls[i]? = some (some v) ∧ q = (n + i, gc G v)
  | [], n, q => by simp [prs]
  | none :: r, n, q => by
    rw [prs, prs_mem r (n + 1) q]
    constructor
    · rintro ⟨i, v, a, b⟩
      exact ⟨i + 1, v, by simpa using a, by rw [b]; congr 1; omega⟩
    · rintro ⟨i, v, a, b⟩
      cases i with
      | zero => simp at a
      | succ i => exact ⟨i, v, by simpa using a, by rw [b]; congr 1; omega⟩
  | some w :: r, n, q => by
    rw [prs, List.mem_cons, prs_mem r (n + 1) q]
    constructor
    · rintro (a | ⟨i, v, a, b⟩)
      · exact ⟨0, w, by simp, by simpa using a⟩
      · exact ⟨i + 1, v, by simpa using a, by rw [b]; congr 1; omega⟩
    · rintro ⟨i, v, a, b⟩
      cases i with
      | zero => simp at a; subst a; exact Or.inl (by simpa using b)
      | succ i => exact Or.inr ⟨i, v, by simpa using a, by rw [b]; congr 1; omega⟩
theorem LH.has {G : GG} {ls : List (Option AV)} {lsA : Array Slot} {n : Nat} (h : LH G ls lsA n) : lv_has lsA n (prs G 0 ls) := by
  refine ⟨h.1, h.2.1, fun q hq => ?_⟩
  obtain ⟨i, v, a, rfl⟩ := (prs_mem ls 0 q).mp hq
  rw [Nat.zero_add]
  exact h.2.2 i v a
theorem cv_cat {ad : Nat → Nat} {v : AV} : (cv ad v).category = if isLg (some v) = true then 2 else 1 := by
  rcases v with z | z | o <;> rfl
theorem LH.st1 {G : GG} {ls : List (Option AV)} {lsA' : Array Slot} {n i : Nat} {v : AV} (h : lv_has lsA' n ((i, gc G v) :: (prs G 0 ls).filter (fun q => !(q.1 == i) && !(q.1 + 1 == i && q.2.category == 2)))) : LH G (st1 ls i v) lsA' n := by
  refine ⟨h.1, h.2.1, fun j w hj => ?_⟩
  rcases st1_get hj with ⟨rfl, rfl⟩ | ⟨a, b, c⟩
  · exact h.2.2 _ List.mem_cons_self
  · refine h.2.2 (j, gc G w) (List.mem_cons_of_mem _ (List.mem_filter.mpr ⟨(prs_mem ls 0 _).mpr ⟨j, w, b, by simp⟩, ?_⟩))
    have hc : (gc G w).category = if isLg (some w) = true then 2 else 1 := cv_cat
    simp only [hc]
    by_cases h2 : isLg (some w) = true
    · have : ¬ j + 1 = i := fun q => c ⟨q, h2⟩
      simp [a, this]
    · simp [a, h2]
theorem LH.st2 {G : GG} {ls : List (Option AV)} {lsA' : Array Slot} {n i : Nat} {v : AV} (h : lv_has lsA' n ((i, gc G v) :: (prs G 0 ls).filter (fun q => !(q.1 == i) && (!(q.1 == i + 1) && !(q.1 + 1 == i && q.2.category == 2))))) : LH G (st2 ls i v) lsA' n := by
  refine ⟨h.1, h.2.1, fun j w hj => ?_⟩
  rcases st2_get hj with ⟨rfl, rfl⟩ | ⟨a, a2, b, c⟩
  · exact h.2.2 _ List.mem_cons_self
  · refine h.2.2 (j, gc G w) (List.mem_cons_of_mem _ (List.mem_filter.mpr ⟨(prs_mem ls 0 _).mpr ⟨j, w, b, by simp⟩, ?_⟩))
    have hc : (gc G w).category = if isLg (some w) = true then 2 else 1 := cv_cat
    simp only [hc]
    by_cases h2 : isLg (some w) = true
    · have : ¬ j + 1 = i := fun q => c ⟨q, h2⟩
      simp [a, a2, this]
    · simp [a, a2, h2]
/-! code as a table: (cut, op, a, b, c, z, next) -/
abbrev KT : Type := Nat → List (Option AV) → List AV → AH → Prop
def br (c t f : Prop) : Prop := (c → t) ∧ (¬ c → f)
def brC (a : Nat) (x y : Int) (t f : Prop) : Prop := match a with
  | 0 => br (x = y) t f
  | 1 => br (x = y) f t
  | 2 => br (x < y) t f
  | 3 => br (y ≤ x) t f
  | 4 => br (y < x) t f
  | _ => br (x ≤ y) t f
def swC (K : Nat → Prop) (x : Int) (d : Nat) : List (Int × Nat) → Prop
  | [] => K d
  | (k, t) :: r => br (x = k) (K t) (swC K x d r)
def ibin (a : Nat) (x y : Int) : Int := match a with
  | 0 => x + y
  | 1 => x - y
  | 2 => x * y
  | 3 => bA x y
  | 4 => bO x y
  | 5 => bX x y
  | 6 => sLI x y
  | 7 => sRI x y
  | _ => sUI x y
def lbin (a : Nat) (x y : Int) : Int := match a with
  | 0 => x + y
  | 1 => x - y
  | 2 => x * y
  | 3 => bAL x y
  | 4 => bOL x y
  | _ => bXL x y
def lsh (a : Nat) (x y : Int) : Int := match a with
  | 0 => sLL x y
  | 1 => sRL x y
  | _ => sUL x y
/-- a number below 60 becomes a literal -/
def frc (n : Nat) (k : Nat → Prop) : Prop := match n with
  | 0 => k 0
  | 1 => k 1
  | 2 => k 2
  | 3 => k 3
  | 4 => k 4
  | 5 => k 5
  | 6 => k 6
  | 7 => k 7
  | 8 => k 8
  | 9 => k 9
  | 10 => k 10
  | 11 => k 11
  | 12 => k 12
  | 13 => k 13
  | 14 => k 14
  | 15 => k 15
  | 16 => k 16
  | 17 => k 17
  | 18 => k 18
  | 19 => k 19
  | 20 => k 20
  | 21 => k 21
  | 22 => k 22
  | 23 => k 23
  | 24 => k 24
  | 25 => k 25
  | 26 => k 26
  | 27 => k 27
  | 28 => k 28
  | 29 => k 29
  | 30 => k 30
  | 31 => k 31
  | 32 => k 32
  | 33 => k 33
  | 34 => k 34
  | 35 => k 35
  | 36 => k 36
  | 37 => k 37
  | 38 => k 38
  | 39 => k 39
  | 40 => k 40
  | 41 => k 41
  | 42 => k 42
  | 43 => k 43
  | 44 => k 44
  | 45 => k 45
  | 46 => k 46
  | 47 => k 47
  | 48 => k 48
  | 49 => k 49
  | 50 => k 50
  | 51 => k 51
  | 52 => k 52
  | 53 => k 53
  | 54 => k 54
  | 55 => k 55
  | 56 => k 56
  | 57 => k 57
  | 58 => k 58
  | 59 => k 59
  | _ => False
theorem frc_of {n : Nat} {k : Nat → Prop} (h : frc n k) : n < 60 ∧ k n := by
  unfold frc at h
  split at h
  all_goals first | exact ⟨by decide, h⟩ | exact h.elim
/-- which array an element instruction (0 iaload, 1 baload, 2 laload) goes with -/
def akOk (a k : Nat) : Bool := match a, k with
  | 0, 14 => true
  | 1, 13 => true
  | 1, 16 => true
  | 2, 15 => true
  | _, _ => false
end
section
/-! what an instruction of the table does (stp), when the table tells the bytes truly (okE), and that it is so (stp_ok) -/
abbrev EM : Type := List Bool × Nat × Nat × Nat × Nat × Nat × Int × Nat
def lnOk (b o : Nat) : Bool := match b with
  | 0 => true
  | n + 1 => Nat.beq (ob_ln o) (n + 1)
def lnV (b o : Nat) : Int := match b with
  | 0 => (ob_ln o : Int)
  | n + 1 => ((n + 1 : Nat) : Int)
theorem lnV_eq {b o : Nat} (h : lnOk b o = true) : lnV b o = (ob_ln o : Int) := by
  unfold lnOk at h
  unfold lnV
  split at h
  · rfl
  · rw [Nat.eq_of_beq_eq_true h]
def hcp (h : AH) (a0 a1 sp dp n : Nat) : AH := fun o => if o = a1 then (fun k => if dp ≤ k ∧ k < dp + n then h a0 (sp + (k - dp)) else h a1 k) else h o
def catN : AV → Nat
  | .inr (.inl _) => 2
  | _ => 1
def depOk (st : List AV) : Bool := Nat.ble (st.map catN).sum 8
def mm (a : Nat) (x y : Int) : Int := match a with
  | 0 => if wI x < wI y then y else x
  | _ => if wI y < wI x then y else x
def callC (G : GG) (a : Nat) (as : List AV) (h : AH) (K : List AV → AH → Prop) : Prop := match mR a with
  | none => RunsV G a as h (fun h' => K [] h')
  | some .long => RunsL G a as h (fun x h' => K [vL x] h')
  | _ => RunsI G a as h (fun x h' => K [vI x] h')
def swt (c : Nat) : List (Int × Nat) × Nat := SWT.getD c ([], 0)
def g20 (K : List AV → AH → Prop) (a b : Nat) (st : List AV) (h : AH) : Prop := match st with
  | .inl x :: .inr (.inr o) :: st => (match Nat.beq (ob_kd o) a with | true => (match fd_k a b with | 0 => K st (hs h o b x) | 1 => (x = 0 ∨ x = 1) ∧ K st (hs h o b x) | _ => False) | false => False)
  | .inr (.inl x) :: .inr (.inr o) :: st => (match Nat.beq (ob_kd o) a with | true => (match fd_k a b with | 2 => K st (hs h o b x) | _ => False) | false => False)
  | _ => False
def g22 (K : List AV → AH → Prop) (a b : Nat) (st : List AV) (h : AH) : Prop := match st with
  | .inl x :: .inr (.inr o) :: st => (match akOk a (ob_kd o) && lnOk b o with | true => (0 ≤ wI x ∧ wI x < lnV b o) ∧ (match a with | 2 => K (vL (h o (wI x).toNat) :: st) h | _ => K (vI (h o (wI x).toNat) :: st) h) | false => False)
  | _ => False
def g23 (K : List AV → AH → Prop) (a b : Nat) (st : List AV) (h : AH) : Prop := match st with
  | .inl v :: .inl x :: .inr (.inr o) :: st => (match lnOk b o with
    | true => (match a, ob_kd o with
      | 0, 14 => (0 ≤ wI x ∧ wI x < lnV b o) ∧ K st (hs h o (wI x).toNat v)
      | 1, 13 => (0 ≤ wI x ∧ wI x < lnV b o) ∧ K st (hs h o (wI x).toNat (w8 v))
      | 1, 16 => (0 ≤ wI x ∧ wI x < lnV b o) ∧ (v = 0 ∨ v = 1) ∧ K st (hs h o (wI x).toNat v)
      | _, _ => False)
    | false => False)
  | .inr (.inl v) :: .inl x :: .inr (.inr o) :: st => (match lnOk b o with
    | true => (match a, ob_kd o with
      | 2, 15 => (0 ≤ wI x ∧ wI x < lnV b o) ∧ K st (hs h o (wI x).toNat v)
      | _, _ => False)
    | false => False)
  | _ => False
def g33 (K : List AV → AH → Prop) (b : Nat) (st : List AV) (h : AH) : Prop := match st with
  | .inl n :: .inl dp :: .inr (.inr a1) :: .inl sp :: .inr (.inr a0) :: st => (match Nat.beq (ob_kd a0) 14 && (Nat.beq (ob_kd a1) 14 && (lnOk b a0 && (lnOk b a1 && depOk st))) with
    | true => (0 ≤ wI sp ∧ 0 ≤ wI dp ∧ 0 ≤ wI n ∧ wI sp + wI n ≤ lnV b a0 ∧ wI dp + wI n ≤ lnV b a1) ∧ K st (hcp h a0 a1 (wI sp).toNat (wI dp).toNat (wI n).toNat)
    | false => False)
  | _ => False
def stp (G : GG) (post : Option AV → AH → Prop) (K : KT) (e : EM) (ls : List (Option AV)) (st : List AV) (h : AH) : Prop :=
  match e with
  | (_, op, a, b, c, d, z, nx) => match op with
    | 0 => K nx ls (vI z :: st) h
    | 1 => K nx ls (vL z :: st) h
    | 2 => (match ls.getD a none with | some (.inl x) => K nx ls (vI x :: st) h | _ => False)
    | 3 => (match ls.getD a none with | some (.inr (.inl x)) => K nx ls (vL x :: st) h | _ => False)
    | 4 => (match ls.getD a none with | some (.inr (.inr x)) => K nx ls (vR x :: st) h | _ => False)
    | 5 => (match st with | .inl x :: st => K nx (st1 ls a (vI x)) st h | _ => False)
    | 6 => (match st with | .inr (.inl x) :: st => K nx (st2 ls a (vL x)) st h | _ => False)
    | 7 => (match st with | .inr (.inr x) :: st => K nx (st1 ls a (vR x)) st h | _ => False)
    | 8 => (match ls.getD a none with | some (.inl x) => K nx (st1 ls a (vI (x + z))) st h | _ => False)
    | 9 => (match st with | .inl y :: .inl x :: st => K nx ls (vI (ibin a x y) :: st) h | _ => False)
    | 10 => (match st with | .inl y :: .inl x :: st => wI y ≠ 0 ∧ K nx ls (vI (match a with | 0 => Int.tdiv (wI x) (wI y) | _ => Int.tmod (wI x) (wI y)) :: st) h | _ => False)
    | 11 => (match st with | .inr (.inl y) :: .inr (.inl x) :: st => K nx ls (vL (lbin a x y) :: st) h | _ => False)
    | 12 => (match st with | .inr (.inl y) :: .inr (.inl x) :: st => wL y ≠ 0 ∧ K nx ls (vL (match a with | 0 => Int.tdiv (wL x) (wL y) | _ => Int.tmod (wL x) (wL y)) :: st) h | _ => False)
    | 13 => (match st with | .inl y :: .inr (.inl x) :: st => K nx ls (vL (lsh a x y) :: st) h | _ => False)
    | 14 => (match a, st with | 0, .inl x :: st => K nx ls (vL (wI x) :: st) h | 1, .inr (.inl x) :: st => K nx ls (vI x :: st) h | 2, .inl x :: st => K nx ls (vI (w8 x) :: st) h | _, _ => False)
    | 15 => (match st with | .inl x :: st => brC a (wI x) 0 (K b ls st h) (K nx ls st h) | _ => False)
    | 16 => (match st with | .inl y :: .inl x :: st => brC a (wI x) (wI y) (K b ls st h) (K nx ls st h) | _ => False)
    | 17 => K b ls st h
    | 18 => (match st with | .inr (.inl y) :: .inr (.inl x) :: st => brC a (wL x) (wL y) (K b ls st h) (K nx ls st h) | _ => False)
    | 19 => (match st with | .inr (.inr o) :: st => (match Nat.beq (ob_kd o) a with | true => (match fd_k a b with | 3 => frc (ob_rf o b) (fun q => K nx ls (vR q :: st) h) | 2 => K nx ls (vL (h o b) :: st) h | _ => K nx ls (vI (h o b) :: st) h) | false => False) | _ => False)
    | 20 => g20 (K nx ls) a b st h
    | 21 => (match st with | .inr (.inr o) :: st => (match Nat.ble 13 (ob_kd o) && (Nat.ble (ob_kd o) 16 && lnOk b o) with | true => K nx ls (vI (lnV b o) :: st) h | false => False) | _ => False)
    | 22 => g22 (K nx ls) a b st h
    | 23 => g23 (K nx ls) a b st h
    | 24 => (match st with | .inl x :: st => K nx ls (vI x :: vI x :: st) h | .inr (.inr x) :: st => K nx ls (vR x :: vR x :: st) h | _ => False)
    | 25 => (match st with | .inl x :: .inr (.inr y) :: st => K nx ls (vI x :: vR y :: vI x :: st) h | .inl x :: .inl y :: st => K nx ls (vI x :: vI y :: vI x :: st) h | _ => False)
    | 26 => (match st with | .inl _ :: st => K nx ls st h | .inr (.inr _) :: st => K nx ls st h | _ => False)
    | 27 => (match st.drop b with | .inr (.inr o) :: r => (match Nat.beq (ob_kd o) d && depOk r with | true => callC G a (vR o :: (st.take b).reverse) h (fun v h' => K nx ls (v ++ r) h') | false => False) | _ => False)
    | 28 => (match Nat.ble b st.length && depOk (st.drop b) with | true => callC G a (st.take b).reverse h (fun v h' => K nx ls (v ++ st.drop b) h') | false => False)
    | 29 => (match st with | [.inl x] => (match d with | 1 => (x = 0 ∨ x = 1) ∧ post (some (vI x)) h | _ => post (some (vI x)) h) | _ => False)
    | 30 => (match st with | [.inr (.inl x)] => post (some (vL x)) h | _ => False)
    | 31 => (match st with | [] => post none h | _ => False)
    | 32 => (match st with | .inl x :: st => swC (fun t => K t ls st h) (wI x) (swt c).2 (swt c).1 | _ => False)
    | 33 => g33 (K nx ls) b st h
    | 35 => (match st with | .inl x :: .inr (.inr o) :: st => K nx ls (vI x :: vR o :: vI x :: vR o :: st) h | _ => False)
    | 34 => (match st with | .inl y :: .inl x :: st => (match depOk st with | true => K nx ls (vI (mm a x y) :: st) h | false => False) | _ => False)
    | _ => False
def dk (i pc : Nat) (ins : Instr) (len nx : Nat) : Bool := decide (decode (mC i) pc = .ok (ins, len)) && Nat.beq nx (pc + len)
theorem dk_of {i pc : Nat} {ins : Instr} {len nx : Nat} (h : dk i pc ins len nx = true) : decode (mC i) pc = .ok (ins, len) ∧ nx = pc + len := by
  simp only [dk, Bool.and_eq_true, decide_eq_true_eq] at h
  exact ⟨h.1, Nat.eq_of_beq_eq_true h.2⟩
def ld4 (n_ : Fin 4 → Instr) (w_ : Nat → Instr) (i pc a b nx : Nat) : Bool := match b, a with
  | 0, 0 => dk i pc (n_ 0) 1 nx
  | 0, 1 => dk i pc (n_ 1) 1 nx
  | 0, 2 => dk i pc (n_ 2) 1 nx
  | 0, 3 => dk i pc (n_ 3) 1 nx
  | 1, a => dk i pc (w_ a) 2 nx
  | _, _ => false
theorem ld4_of {n_ : Fin 4 → Instr} {w_ : Nat → Instr} {i pc a b nx : Nat} (h : ld4 n_ w_ i pc a b nx = true) : (∃ k : Fin 4, (k : Nat) = a ∧ decode (mC i) pc = .ok (n_ k, 1) ∧ nx = pc + 1) ∨ (decode (mC i) pc = .ok (w_ a, 2) ∧ nx = pc + 2) := by
  unfold ld4 at h
  split at h
  · exact Or.inl ⟨0, rfl, dk_of h⟩
  · exact Or.inl ⟨1, rfl, dk_of h⟩
  · exact Or.inl ⟨2, rfl, dk_of h⟩
  · exact Or.inl ⟨3, rfl, dk_of h⟩
  · exact Or.inr (dk_of h)
  · cases h
def ibI (a : Nat) : Instr := match a with
  | 0 => .iadd | 1 => .isub | 2 => .imul | 3 => .iand | 4 => .ior | 5 => .ixor | 6 => .ishl | 7 => .ishr | _ => .iushr
def lbI (a : Nat) : Instr := match a with
  | 0 => .ladd | 1 => .lsub | 2 => .lmul | 3 => .land | 4 => .lor | _ => .lxor
def lsI (a : Nat) : Instr := match a with
  | 0 => .lshl | 1 => .lshr | _ => .lushr
def cvI (a : Nat) : Instr := match a with
  | 0 => .i2l | 1 => .l2i | _ => .i2b
def cnd (a : Nat) : Jvm.ClassFile.Cond := match a with
  | 0 => .eq | 1 => .ne | 2 => .lt | 3 => .ge | 4 => .gt | _ => .le
def ctz (z : Int) : Jvm.ClassFile.Instr := .iconst z
def okE (i pc : Nat) (e : EM) : Bool := match e with
  | (_, op, a, b, c, d, z, nx) => match op with
    | 0 => (match a with
      | 0 => dk i pc (.iconst z) 1 nx
      | 1 => dk i pc (.bipush z) 2 nx && decide (-128 ≤ z ∧ z ≤ 127)
      | 2 => dk i pc (.sipush z) 3 nx && decide (-32768 ≤ z ∧ z ≤ 32767)
      | _ => (match klt_0[c]? with | some (k, ix, z', false) => dk i pc (.ldc ix) 2 nx && (Nat.beq k (mK i) && decide (z' = z)) | _ => false))
    | 1 => (match a with
      | 0 => dk i pc (.lconst 0) 1 nx && decide (z = 0)
      | 1 => dk i pc (.lconst 1) 1 nx && decide (z = 1)
      | _ => (match klt_0[c]? with | some (k, ix, z', true) => dk i pc (.ldc2_w ix) 3 nx && (Nat.beq k (mK i) && decide (z' = z)) | _ => false))
    | 2 => ld4 .iload_n .iload i pc a b nx
    | 3 => ld4 .lload_n .lload i pc a b nx
    | 4 => ld4 .aload_n .aload i pc a b nx
    | 5 => ld4 .istore_n .istore i pc a b nx && Nat.ble (a + 1) (mL i)
    | 6 => ld4 .lstore_n .lstore i pc a b nx && Nat.ble (a + 2) (mL i)
    | 7 => ld4 .astore_n .astore i pc a b nx && Nat.ble (a + 1) (mL i)
    | 8 => dk i pc (.iinc a z) 3 nx && Nat.ble (a + 1) (mL i)
    | 9 => dk i pc (ibI a) 1 nx
    | 10 => (match a with | 0 => dk i pc .idiv 1 nx | _ => dk i pc .irem 1 nx)
    | 11 => dk i pc (lbI a) 1 nx && Nat.ble a 5
    | 12 => (match a with | 0 => dk i pc .ldiv 1 nx | _ => dk i pc .lrem 1 nx)
    | 13 => dk i pc (lsI a) 1 nx
    | 14 => dk i pc (cvI a) 1 nx
    | 15 => dk i pc (.ifCond (cnd a) ((b : Int) - pc)) 3 nx
    | 16 => dk i pc (.if_icmp (cnd a) ((b : Int) - pc)) 3 nx
    | 17 => dk i pc (.goto ((b : Int) - pc)) 3 (pc + 3)
    | 18 => dk i pc .lcmp 1 (pc + 1) && dk i (pc + 1) (.ifCond (cnd a) ((b : Int) - (pc + 1 : Nat))) 3 nx
    | 19 => (match (flb.getD (c / 20) [])[c % 20]? with | some (k, ix, a', b', _) => dk i pc (.getfield ix) 3 nx && (Nat.beq k (mK i) && (Nat.beq a' a && (Nat.beq b' b && Nat.ble (b + 1) (fd_n a)))) | none => false)
    | 20 => (match (flb.getD (c / 20) [])[c % 20]? with | some (k, ix, a', b', _) => dk i pc (.putfield ix) 3 nx && (Nat.beq k (mK i) && (Nat.beq a' a && (Nat.beq b' b && (Nat.ble (b + 1) (fd_n a) && (match vwCl[a]? with | some (_, T, _) => !(T b).2.2.2 | none => false))))) | none => false)
    | 21 => dk i pc .arraylength 1 nx
    | 22 => dk i pc (match a with | 0 => .iaload | 1 => .baload | _ => .laload) 1 nx
    | 23 => dk i pc (match a with | 0 => .iastore | 1 => .bastore | _ => .lastore) 1 nx
    | 24 => dk i pc .dup 1 nx
    | 25 => dk i pc .dup_x1 1 nx
    | 26 => dk i pc .pop 1 nx
    | 27 => (match (mlb.getD (c / 20) [])[c % 20]? with | some (k, ix, a', false, n) => dk i pc (.invokevirtual ix) 3 nx && (Nat.beq k (mK i) && (Nat.beq a' a && (Nat.beq n b && (Nat.beq d (mK a) && (Nat.ble (d + 1) 13 && (Nat.ble (a + 1) 278 && (Nat.ble (mF a + 1) (mF i) && Nat.ble (8 + (mL a + 11) + mO a) (mO i)))))))) | _ => false)
    | 28 => (match (mlb.getD (c / 20) [])[c % 20]? with | some (k, ix, a', true, n) => dk i pc (.invokestatic ix) 3 nx && (Nat.beq k (mK i) && (Nat.beq a' a && (Nat.beq n b && (Nat.ble (a + 1) 278 && (Nat.ble (mF a + 1) (mF i) && Nat.ble (8 + (mL a + 11) + mO a) (mO i)))))) | _ => false)
    | 29 => dk i pc .ireturn 1 (pc + 1) && (match d with | 1 => decide (mR i = some .boolean) | _ => decide (mR i = some .int))
    | 30 => dk i pc .lreturn 1 (pc + 1) && decide (mR i = some .long)
    | 31 => dk i pc .return_ 1 (pc + 1) && decide (mR i = none)
    | 32 => (match decode (mC i) pc with
      | .ok (.tableswitch df lo hi offs, _) => decide ((swt c).1.map (fun q => (q.1, ((q.2 : Int) - pc))) = offs.toList.zipIdx.map (fun q => (lo + (q.2 : Int), q.1))) && (decide (hi = lo + (offs.size : Int) - 1) && decide (((swt c).2 : Int) = pc + df))
      | .ok (.lookupswitch df ps, _) => decide ((swt c).1.map (fun q => (q.1, ((q.2 : Int) - pc))) = ps.toList) && (decide (((swt c).2 : Int) = pc + df) && (ps.toList.zip (ps.toList.drop 1)).all (fun (a, next) => a.1 < next.1))
      | _ => false)
    | 33 => dk i pc (.invokestatic acI) 3 nx && (Nat.beq (mK i) acO && (Nat.ble 1 (mF i) && Nat.ble 26 (mO i)))
    | 35 => dk i pc .dup2 1 nx
    | 34 => (match mxt_0[c]? with | some (k, ix, q) => dk i pc (.invokestatic ix) 3 nx && (Nat.beq k (mK i) && (q == (match a with | 0 => false | _ => true) && (Nat.ble 1 (mF i) && Nat.ble 21 (mO i)))) | none => false)
    | _ => true
end
section
theorem getD_mem {α : Type} {l : List α} {i : Nat} {d : α} (h : i < l.length) : l.getD i d ∈ l := by
  rw [List.getD_eq_getElem?_getD, List.getElem?_eq_getElem h]
  exact List.getElem_mem h
theorem mt_ok {i : Nat} (hi : i < 278) : mtP (mI i) := by
  have hl : ∀ i, i < 278 → i / 20 < mtb.length ∧ i % 20 < (mtb.getD (i / 20) []).length := by decide +kernel
  obtain ⟨h1, h2⟩ := hl i hi
  have e1 : mtb.getD (i / 20) [] ∈ mtb := getD_mem h1
  have e2 : mI i ∈ mtb.getD (i / 20) [] := getD_mem h2
  exact mt_all _ e1 _ e2
theorem ml_ok {c : Nat} {e : LK} (h : (mlb.getD (c / 20) [])[c % 20]? = some e) : mlP e := by
  by_cases h1 : c / 20 < mlb.length
  · have e1 : mlb.getD (c / 20) [] ∈ mlb := getD_mem h1
    exact ml_all _ e1 _ (List.mem_of_getElem? h)
  · have e0 : mlb.getD (c / 20) [] = [] := by rw [List.getD_eq_getElem?_getD, List.getElem?_eq_none (Nat.le_of_not_lt h1)]; rfl
    rw [e0] at h
    simp at h
theorem fl_ok {c : Nat} {e : FK} (h : (flb.getD (c / 20) [])[c % 20]? = some e) : flP e := by
  by_cases h1 : c / 20 < flb.length
  · have e1 : flb.getD (c / 20) [] ∈ flb := getD_mem h1
    exact fl_all _ e1 _ (List.mem_of_getElem? h)
  · have e0 : flb.getD (c / 20) [] = [] := by rw [List.getD_eq_getElem?_getD, List.getElem?_eq_none (Nat.le_of_not_lt h1)]; rfl
    rw [e0] at h
    simp at h
theorem lay_good {C : String} {T : u_T} {N : Nat} : ∀ w ∈ u_ws C T N, goodWord w = true := by
  intro w hw
  obtain ⟨k, -, rfl⟩ := List.mem_map.mp hw
  unfold u_lay
  split <;> rfl
/-- the classes of the world -/
theorem cls_ok {ci : Nat} {C : String} {T : u_T} {N : Nat} (hc : vwCl[ci]? = some (C, T, N)) : (∀ w ∈ u_ws C T N, w ∈ gtb) ∧ N = fd_n ci ∧ C = oS ci ∧ (∀ k, k < N → (T k).1 = C) ∧ (∃ ty : Nat → FieldType, ∀ k, k < N → parseFieldDescriptor (T k).2.2.1 = some (ty k)) ∧ (∀ a, a < N → ∀ b, b < N → a ≠ b → (T a).2.1 ≠ (T b).2.1) ∧ (∀ k, k < N → (fd_k ci k = 0 → (T k).2.2.1 = "I") ∧ (fd_k ci k = 1 → (T k).2.2.1 = "Z") ∧ (fd_k ci k = 2 → (T k).2.2.1 = "J")) := by
  match ci, hc with
  | 0, hc => cases hc; exact ⟨fun w h => inG (inX0 w h) (lay_good w h), rfl, rfl, by decide +kernel, ⟨tyX0, tyX0_ok⟩, nmX0, by decide +kernel⟩
  | 1, hc => cases hc; exact ⟨fun w h => inG (inX1 w h) (lay_good w h), rfl, rfl, by decide +kernel, ⟨tyX1, tyX1_ok⟩, nmX1, by decide +kernel⟩
  | 2, hc => cases hc; exact ⟨fun w h => inG (inX2 w h) (lay_good w h), rfl, rfl, by decide +kernel, ⟨tyX2, tyX2_ok⟩, nmX2, by decide +kernel⟩
  | 3, hc => cases hc; exact ⟨fun w h => inG (inX3 w h) (lay_good w h), rfl, rfl, by decide +kernel, ⟨tyX3, tyX3_ok⟩, nmX3, by decide +kernel⟩
  | 4, hc => cases hc; exact ⟨fun w h => inG (inX4 w h) (lay_good w h), rfl, rfl, by decide +kernel, ⟨tyX4, tyX4_ok⟩, nmX4, by decide +kernel⟩
  | 5, hc => cases hc; exact ⟨fun w h => inG (inX5 w h) (lay_good w h), rfl, rfl, by decide +kernel, ⟨tyX5, tyX5_ok⟩, nmX5, by decide +kernel⟩
  | 6, hc => cases hc; exact ⟨fun w h => inG (inX6 w h) (lay_good w h), rfl, rfl, by decide +kernel, ⟨tyX6, tyX6_ok⟩, nmX6, by decide +kernel⟩
  | 7, hc => cases hc; exact ⟨fun w h => inG (inX7 w h) (lay_good w h), rfl, rfl, by decide +kernel, ⟨tyX7, tyX7_ok⟩, nmX7, by decide +kernel⟩
  | 8, hc => cases hc; exact ⟨fun w h => inG (inX8 w h) (lay_good w h), rfl, rfl, by decide +kernel, ⟨tyX8, tyX8_ok⟩, nmX8, by decide +kernel⟩
  | 9, hc => cases hc; exact ⟨fun w h => inG (inX9 w h) (lay_good w h), rfl, rfl, by decide +kernel, ⟨tyX9, tyX9_ok⟩, nmX9, by decide +kernel⟩
  | 10, hc => cases hc; exact ⟨fun w h => inG (inX10 w h) (lay_good w h), rfl, rfl, by decide +kernel, ⟨tyX10, tyX10_ok⟩, nmX10, by decide +kernel⟩
  | 11, hc => cases hc; exact ⟨fun w h => inG (inX11 w h) (lay_good w h), rfl, rfl, by decide +kernel, ⟨tyX11, tyX11_ok⟩, nmX11, by decide +kernel⟩
  | 12, hc => cases hc; exact ⟨fun w h => inG (inX12 w h) (lay_good w h), rfl, rfl, by decide +kernel, ⟨tyX12, tyX12_ok⟩, nmX12, by decide +kernel⟩
  | n + 13, hc => simp [vwCl] at hc
theorem getD_some {ls : List (Option AV)} {a : Nat} {v : AV} (h : ls.getD a none = some v) : ls[a]? = some (some v) := by
  rw [List.getD_eq_getElem?_getD] at h
  cases hq : ls[a]? with
  | none => rw [hq] at h; cases h
  | some x => rw [hq] at h; rw [← h]; rfl
theorem bi8 {z : Int} (h : -128 ≤ z ∧ z ≤ 127) : (Int8.ofInt z).toInt32 = Int32.ofInt z := by
  rw [← Int32.toInt8_ofInt, iZ_8]
  congr 1
  unfold w8
  omega
theorem bi16 {z : Int} (h : -32768 ≤ z ∧ z ≤ 32767) : (Int16.ofInt z).toInt32 = Int32.ofInt z := by
  rw [← Int32.toInt_inj, Int16.toInt_toInt32, Int16.toInt_ofInt, wI_eq, wI_id (by omega) (by omega)]
  unfold Int.bmod Int16.size; dsimp only; split <;> omega
theorem z_eq (x : Int) : Int32.ofInt x = 0 ↔ wI x = 0 := (iZ_inj (x := x) (y := 0)).trans (by rw [wI_0])
theorem z_lt (x : Int) : Int32.ofInt x < 0 ↔ wI x < 0 := (iZ_lt (x := x) (y := 0)).trans (by rw [wI_0])
theorem z_le (x : Int) : Int32.ofInt x ≤ 0 ↔ wI x ≤ 0 := (iZ_le (x := x) (y := 0)).trans (by rw [wI_0])
theorem z_gt (x : Int) : 0 < Int32.ofInt x ↔ 0 < wI x := (iZ_lt (x := 0) (y := x)).trans (by rw [wI_0])
theorem z_ge (x : Int) : 0 ≤ Int32.ofInt x ↔ 0 ≤ wI x := (iZ_le (x := 0) (y := x)).trans (by rw [wI_0])
section SND
variable {G : GG} {post : Option AV → AH → Prop} {i pc : Nat} {ls : List (Option AV)} {st : List AV} {h : AH} {K : KT} {ct : List Bool} {a b c d nx : Nat} {z : Int}
theorem s_0 (hK : ∀ pc ls st h, K pc ls st h → Go G post i pc ls st h) (ho : okE i pc (ct, 0, a, b, c, d, z, nx) = true) (hs : stp G post K (ct, 0, a, b, c, d, z, nx) ls st h) : Go G post i pc ls st h := by
  intro p e s m args below meth cd H locs lsA Cc hK1 hP hD hS hL
  have k0 := fun pc ls st h hs => hK pc ls st h hs p e s m args below meth cd
  have Cc0 := Cc
  obtain ⟨hx, hb, hr, hml, hown, hts, hlk, hi278, hnw⟩ := Cc
  have k := k0 _ _ _ _ hs _ _ _ Cc0 hK1 hP hD hS hL
  simp only [okE] at ho
  split at ho
  · obtain ⟨hd, rfl⟩ := dk_of ho
    exact lv_iconst hx hb hd rfl k
  · simp only [Bool.and_eq_true, decide_eq_true_eq] at ho
    obtain ⟨hd, rfl⟩ := dk_of ho.1
    exact lv_bipush hx hb hd (bi8 ho.2) k
  · simp only [Bool.and_eq_true, decide_eq_true_eq] at ho
    obtain ⟨hd, rfl⟩ := dk_of ho.1
    exact lv_sipush hx hb hd (bi16 ho.2) k
  · split at ho
    · rename_i kk ix z' hq
      simp only [Bool.and_eq_true, decide_eq_true_eq] at ho
      obtain ⟨hd, rfl⟩ := dk_of ho.1
      have hw := klt_ok_0 _ (List.mem_of_getElem? hq)
      have hk : oS kk = (mN i).cls := by rw [Nat.eq_of_beq_eq_true ho.2.1]; exact (mt_ok hi278).2.2.2.2.2.symm
      have hw : Cond.constant (mN i).cls ix (Int32.ofInt z) ∈ lw_tbl := by rw [← hk, ← ho.2.2]; exact hw
      exact lv_ldc hx hb hown (hts _ (inG hw rfl)) hd k
    · cases ho
theorem s_1 (hK : ∀ pc ls st h, K pc ls st h → Go G post i pc ls st h) (ho : okE i pc (ct, 1, a, b, c, d, z, nx) = true) (hs : stp G post K (ct, 1, a, b, c, d, z, nx) ls st h) : Go G post i pc ls st h := by
  intro p e s m args below meth cd H locs lsA Cc hK1 hP hD hS hL
  have k0 := fun pc ls st h hs => hK pc ls st h hs p e s m args below meth cd
  have Cc0 := Cc
  obtain ⟨hx, hb, hr, hml, hown, hts, hlk, hi278, hnw⟩ := Cc
  have k := k0 _ _ _ _ hs _ _ _ Cc0 hK1 hP hD hS hL
  simp only [okE] at ho
  split at ho
  · simp only [Bool.and_eq_true, decide_eq_true_eq] at ho
    obtain ⟨hd, rfl⟩ := dk_of ho.1
    obtain rfl := ho.2
    exact lv_lconst hx hb hd rfl k
  · simp only [Bool.and_eq_true, decide_eq_true_eq] at ho
    obtain ⟨hd, rfl⟩ := dk_of ho.1
    obtain rfl := ho.2
    exact lv_lconst hx hb hd rfl k
  · split at ho
    · rename_i kk ix z' hq
      simp only [Bool.and_eq_true, decide_eq_true_eq] at ho
      obtain ⟨hd, rfl⟩ := dk_of ho.1
      have hw := klt_ok_0 _ (List.mem_of_getElem? hq)
      have hk : oS kk = (mN i).cls := by rw [Nat.eq_of_beq_eq_true ho.2.1]; exact (mt_ok hi278).2.2.2.2.2.symm
      have hw : Cond.constantLong (mN i).cls ix (Int64.ofInt z) ∈ lw_tbl := by rw [← hk, ← ho.2.2]; exact hw
      exact lv_ldc2 hx hb hown (hts _ (inG hw rfl)) hd k
    · cases ho
theorem s_2 (hK : ∀ pc ls st h, K pc ls st h → Go G post i pc ls st h) (ho : okE i pc (ct, 2, a, b, c, d, z, nx) = true) (hs : stp G post K (ct, 2, a, b, c, d, z, nx) ls st h) : Go G post i pc ls st h := by
  intro p e s m args below meth cd H locs lsA Cc hK1 hP hD hS hL
  have k0 := fun pc ls st h hs => hK pc ls st h hs p e s m args below meth cd
  have Cc0 := Cc
  obtain ⟨hx, hb, hr, hml, hown, hts, hlk, hi278, hnw⟩ := Cc
  simp only [stp] at hs
  split at hs
  · rename_i x hq
    have k := k0 _ _ _ _ hs _ _ _ Cc0 hK1 hP hD hS hL
    have hl := hL.2.2 _ _ (getD_some hq)
    rcases ld4_of ho with ⟨kk, hk, hd, rfl⟩ | ⟨hd, rfl⟩
    · exact lv_iload_n hx hb hd hk hl k
    · exact lv_iload hx hb hd hl k
  · exact hs.elim
theorem s_3 (hK : ∀ pc ls st h, K pc ls st h → Go G post i pc ls st h) (ho : okE i pc (ct, 3, a, b, c, d, z, nx) = true) (hs : stp G post K (ct, 3, a, b, c, d, z, nx) ls st h) : Go G post i pc ls st h := by
  intro p e s m args below meth cd H locs lsA Cc hK1 hP hD hS hL
  have k0 := fun pc ls st h hs => hK pc ls st h hs p e s m args below meth cd
  have Cc0 := Cc
  obtain ⟨hx, hb, hr, hml, hown, hts, hlk, hi278, hnw⟩ := Cc
  simp only [stp] at hs
  split at hs
  · rename_i x hq
    have k := k0 _ _ _ _ hs _ _ _ Cc0 hK1 hP hD hS hL
    have hl := hL.2.2 _ _ (getD_some hq)
    rcases ld4_of ho with ⟨kk, hk, hd, rfl⟩ | ⟨hd, rfl⟩
    · exact lv_lload_n hx hb hd hk hl k
    · exact lv_lload hx hb hd hl k
  · exact hs.elim
theorem s_4 (hK : ∀ pc ls st h, K pc ls st h → Go G post i pc ls st h) (ho : okE i pc (ct, 4, a, b, c, d, z, nx) = true) (hs : stp G post K (ct, 4, a, b, c, d, z, nx) ls st h) : Go G post i pc ls st h := by
  intro p e s m args below meth cd H locs lsA Cc hK1 hP hD hS hL
  have k0 := fun pc ls st h hs => hK pc ls st h hs p e s m args below meth cd
  have Cc0 := Cc
  obtain ⟨hx, hb, hr, hml, hown, hts, hlk, hi278, hnw⟩ := Cc
  simp only [stp] at hs
  split at hs
  · rename_i x hq
    have k := k0 _ _ _ _ hs _ _ _ Cc0 hK1 hP hD hS hL
    have hl := hL.2.2 _ _ (getD_some hq)
    rcases ld4_of ho with ⟨kk, hk, hd, rfl⟩ | ⟨hd, rfl⟩
    · exact lv_aload_n hx hb hd hk hl k
    · exact lv_aload hx hb hd hl k
  · exact hs.elim
theorem s_5 (hK : ∀ pc ls st h, K pc ls st h → Go G post i pc ls st h) (ho : okE i pc (ct, 5, a, b, c, d, z, nx) = true) (hs : stp G post K (ct, 5, a, b, c, d, z, nx) ls st h) : Go G post i pc ls st h := by
  intro p e s m args below meth cd H locs lsA Cc hK1 hP hD hS hL
  have k0 := fun pc ls st h hs => hK pc ls st h hs p e s m args below meth cd
  have Cc0 := Cc
  obtain ⟨hx, hb, hr, hml, hown, hts, hlk, hi278, hnw⟩ := Cc
  simp only [stp] at hs
  split at hs
  · rename_i x st
    simp only [okE, Bool.and_eq_true] at ho
    have hn := Nat.le_of_ble_eq_true ho.2
    rcases ld4_of ho.1 with ⟨kk, hk, hd, rfl⟩ | ⟨hd, rfl⟩
    · exact lv_istore_n hx hb hd hk hL.has hn rfl (fun ls' hl' => k0 _ _ _ _ hs _ _ _ Cc0 hK1 hP hD hS (LH.st1 (v := vI x) hl'))
    · exact lv_istore hx hb hd hL.has hn rfl (fun ls' hl' => k0 _ _ _ _ hs _ _ _ Cc0 hK1 hP hD hS (LH.st1 (v := vI x) hl'))
  · exact hs.elim
theorem s_6 (hK : ∀ pc ls st h, K pc ls st h → Go G post i pc ls st h) (ho : okE i pc (ct, 6, a, b, c, d, z, nx) = true) (hs : stp G post K (ct, 6, a, b, c, d, z, nx) ls st h) : Go G post i pc ls st h := by
  intro p e s m args below meth cd H locs lsA Cc hK1 hP hD hS hL
  have k0 := fun pc ls st h hs => hK pc ls st h hs p e s m args below meth cd
  have Cc0 := Cc
  obtain ⟨hx, hb, hr, hml, hown, hts, hlk, hi278, hnw⟩ := Cc
  simp only [stp] at hs
  split at hs
  · rename_i x st
    simp only [okE, Bool.and_eq_true] at ho
    have hn := Nat.le_of_ble_eq_true ho.2
    rcases ld4_of ho.1 with ⟨kk, hk, hd, rfl⟩ | ⟨hd, rfl⟩
    · exact lv_lstore_n hx hb hd hk hL.has hn rfl (fun ls' hl' => k0 _ _ _ _ hs _ _ _ Cc0 hK1 hP hD hS (LH.st2 (v := vL x) hl'))
    · exact lv_lstore hx hb hd hL.has hn rfl (fun ls' hl' => k0 _ _ _ _ hs _ _ _ Cc0 hK1 hP hD hS (LH.st2 (v := vL x) hl'))
  · exact hs.elim
theorem s_7 (hK : ∀ pc ls st h, K pc ls st h → Go G post i pc ls st h) (ho : okE i pc (ct, 7, a, b, c, d, z, nx) = true) (hs : stp G post K (ct, 7, a, b, c, d, z, nx) ls st h) : Go G post i pc ls st h := by
  intro p e s m args below meth cd H locs lsA Cc hK1 hP hD hS hL
  have k0 := fun pc ls st h hs => hK pc ls st h hs p e s m args below meth cd
  have Cc0 := Cc
  obtain ⟨hx, hb, hr, hml, hown, hts, hlk, hi278, hnw⟩ := Cc
  simp only [stp] at hs
  split at hs
  · rename_i x st
    simp only [okE, Bool.and_eq_true] at ho
    have hn := Nat.le_of_ble_eq_true ho.2
    rcases ld4_of ho.1 with ⟨kk, hk, hd, rfl⟩ | ⟨hd, rfl⟩
    · exact lv_astore_n hx hb hd hk hL.has hn rfl (fun ls' hl' => k0 _ _ _ _ hs _ _ _ Cc0 hK1 hP hD hS (LH.st1 (v := vR x) hl'))
    · exact lv_astore hx hb hd hL.has hn rfl (fun ls' hl' => k0 _ _ _ _ hs _ _ _ Cc0 hK1 hP hD hS (LH.st1 (v := vR x) hl'))
  · exact hs.elim
theorem s_8 (hK : ∀ pc ls st h, K pc ls st h → Go G post i pc ls st h) (ho : okE i pc (ct, 8, a, b, c, d, z, nx) = true) (hs : stp G post K (ct, 8, a, b, c, d, z, nx) ls st h) : Go G post i pc ls st h := by
  intro p e s m args below meth cd H locs lsA Cc hK1 hP hD hS hL
  have k0 := fun pc ls st h hs => hK pc ls st h hs p e s m args below meth cd
  have Cc0 := Cc
  obtain ⟨hx, hb, hr, hml, hown, hts, hlk, hi278, hnw⟩ := Cc
  simp only [stp] at hs
  split at hs
  · rename_i x hq
    simp only [okE, Bool.and_eq_true] at ho
    have hn := Nat.le_of_ble_eq_true ho.2
    obtain ⟨hd, rfl⟩ := dk_of ho.1
    have hm : (a, gc G (vI x)) ∈ prs G 0 ls := (prs_mem ls 0 _).mpr ⟨a, vI x, getD_some hq, by simp⟩
    obtain ⟨kk, hk⟩ := List.mem_iff_getElem?.mp hm
    exact lv_iinc hx hb hd hL.has hk (by rw [← Int32.ofInt_add]) hn rfl (fun ls' hl' => k0 _ _ _ _ hs _ _ _ Cc0 hK1 hP hD hS (LH.st1 (v := vI (x + z)) hl'))
  · exact hs.elim
theorem s_9 (hK : ∀ pc ls st h, K pc ls st h → Go G post i pc ls st h) (ho : okE i pc (ct, 9, a, b, c, d, z, nx) = true) (hs : stp G post K (ct, 9, a, b, c, d, z, nx) ls st h) : Go G post i pc ls st h := by
  intro p e s m args below meth cd H locs lsA Cc hK1 hP hD hS hL
  have k0 := fun pc ls st h hs => hK pc ls st h hs p e s m args below meth cd
  have Cc0 := Cc
  obtain ⟨hx, hb, hr, hml, hown, hts, hlk, hi278, hnw⟩ := Cc
  simp only [stp] at hs
  split at hs
  · rename_i y x st
    have k := k0 _ _ _ _ hs _ _ _ Cc0 hK1 hP hD hS hL
    simp only [okE] at ho
    obtain ⟨hd, rfl⟩ := dk_of ho
    clear hs ho
    match a, k, hd with
    | 0, k, hd => exact lv_iadd hx hb hd (by rw [← Int32.ofInt_add]; exact k)
    | 1, k, hd => exact lv_isub hx hb hd (by rw [← Int32.ofInt_sub]; exact k)
    | 2, k, hd => exact lv_imul hx hb hd (by rw [← Int32.ofInt_mul]; exact k)
    | 3, k, hd => exact lv_iand hx hb hd (by rw [← iZ_and]; exact k)
    | 4, k, hd => exact lv_ior hx hb hd (by rw [← iZ_or]; exact k)
    | 5, k, hd => exact lv_ixor hx hb hd (by rw [← iZ_xor]; exact k)
    | 6, k, hd => exact lv_ishl hx hb hd (by rw [← iZ_shl]; exact k)
    | 7, k, hd => exact lv_ishr hx hb hd (by rw [← iZ_shr]; exact k)
    | n + 8, k, hd => exact lv_iushr hx hb hd (iZ_ushr x y) k
  · exact hs.elim
theorem s_10 (hK : ∀ pc ls st h, K pc ls st h → Go G post i pc ls st h) (ho : okE i pc (ct, 10, a, b, c, d, z, nx) = true) (hs : stp G post K (ct, 10, a, b, c, d, z, nx) ls st h) : Go G post i pc ls st h := by
  intro p e s m args below meth cd H locs lsA Cc hK1 hP hD hS hL
  have k0 := fun pc ls st h hs => hK pc ls st h hs p e s m args below meth cd
  have Cc0 := Cc
  obtain ⟨hx, hb, hr, hml, hown, hts, hlk, hi278, hnw⟩ := Cc
  simp only [stp] at hs
  split at hs
  · rename_i y x st
    have k := k0 _ _ _ _ hs.2 _ _ _ Cc0 hK1 hP hD hS hL
    have hne : ¬ Int32.ofInt y = 0 := fun q => hs.1 ((z_eq y).mp q)
    clear hs
    match a, k, ho with
    | 0, k, ho =>
      obtain ⟨hd, rfl⟩ := dk_of ho
      exact lv_idiv hx hb hd hne (by rw [← iZ_div]; exact k)
    | n + 1, k, ho =>
      obtain ⟨hd, rfl⟩ := dk_of ho
      exact lv_irem hx hb hd hne (by rw [← iZ_rem]; exact k)
  · exact hs.elim
theorem s_11 (hK : ∀ pc ls st h, K pc ls st h → Go G post i pc ls st h) (ho : okE i pc (ct, 11, a, b, c, d, z, nx) = true) (hs : stp G post K (ct, 11, a, b, c, d, z, nx) ls st h) : Go G post i pc ls st h := by
  intro p e s m args below meth cd H locs lsA Cc hK1 hP hD hS hL
  have k0 := fun pc ls st h hs => hK pc ls st h hs p e s m args below meth cd
  have Cc0 := Cc
  obtain ⟨hx, hb, hr, hml, hown, hts, hlk, hi278, hnw⟩ := Cc
  simp only [stp] at hs
  split at hs
  · rename_i y x st
    have k := k0 _ _ _ _ hs _ _ _ Cc0 hK1 hP hD hS hL
    simp only [okE, Bool.and_eq_true] at ho
    obtain ⟨hd, rfl⟩ := dk_of ho.1
    clear hs ho
    match a, k, hd with
    | 0, k, hd => exact lv_ladd hx hb hd (by rw [← Int64.ofInt_add]; exact k)
    | 1, k, hd => exact lv_lsub hx hb hd (by rw [← Int64.ofInt_sub]; exact k)
    | 2, k, hd => exact lv_lmul hx hb hd (by rw [← Int64.ofInt_mul]; exact k)
    | 3, k, hd => exact lv_land hx hb hd (by rw [← lZ_and]; exact k)
    | 4, k, hd => exact lv_lor hx hb hd (by rw [← lZ_or]; exact k)
    | n + 5, k, hd => exact lv_lxor hx hb hd (by rw [← lZ_xor]; exact k)
  · exact hs.elim
theorem s_12 (hK : ∀ pc ls st h, K pc ls st h → Go G post i pc ls st h) (ho : okE i pc (ct, 12, a, b, c, d, z, nx) = true) (hs : stp G post K (ct, 12, a, b, c, d, z, nx) ls st h) : Go G post i pc ls st h := by
  intro p e s m args below meth cd H locs lsA Cc hK1 hP hD hS hL
  have k0 := fun pc ls st h hs => hK pc ls st h hs p e s m args below meth cd
  have Cc0 := Cc
  obtain ⟨hx, hb, hr, hml, hown, hts, hlk, hi278, hnw⟩ := Cc
  simp only [stp] at hs
  split at hs
  · rename_i y x st
    have k := k0 _ _ _ _ hs.2 _ _ _ Cc0 hK1 hP hD hS hL
    have hne : ¬ Int64.ofInt y = 0 := fun q => hs.1 (((lZ_inj (x := y) (y := 0)).mp q).trans rfl)
    clear hs
    match a, k, ho with
    | 0, k, ho =>
      obtain ⟨hd, rfl⟩ := dk_of ho
      exact lv_ldiv hx hb hd hne (by rw [← lZ_div]; exact k)
    | n + 1, k, ho =>
      obtain ⟨hd, rfl⟩ := dk_of ho
      exact lv_lrem hx hb hd hne (by rw [← lZ_rem]; exact k)
  · exact hs.elim
theorem s_13 (hK : ∀ pc ls st h, K pc ls st h → Go G post i pc ls st h) (ho : okE i pc (ct, 13, a, b, c, d, z, nx) = true) (hs : stp G post K (ct, 13, a, b, c, d, z, nx) ls st h) : Go G post i pc ls st h := by
  intro p e s m args below meth cd H locs lsA Cc hK1 hP hD hS hL
  have k0 := fun pc ls st h hs => hK pc ls st h hs p e s m args below meth cd
  have Cc0 := Cc
  obtain ⟨hx, hb, hr, hml, hown, hts, hlk, hi278, hnw⟩ := Cc
  simp only [stp] at hs
  split at hs
  · rename_i y x st
    have k := k0 _ _ _ _ hs _ _ _ Cc0 hK1 hP hD hS hL
    simp only [okE] at ho
    obtain ⟨hd, rfl⟩ := dk_of ho
    clear hs ho
    match a, k, hd with
    | 0, k, hd => exact lv_lshl hx hb hd (lZ_shl x y).symm k
    | 1, k, hd => exact lv_lshr hx hb hd (lZ_shr x y).symm k
    | n + 2, k, hd => exact lv_lushr hx hb hd (lZ_ushr x y) k
  · exact hs.elim
theorem s_14 (hK : ∀ pc ls st h, K pc ls st h → Go G post i pc ls st h) (ho : okE i pc (ct, 14, a, b, c, d, z, nx) = true) (hs : stp G post K (ct, 14, a, b, c, d, z, nx) ls st h) : Go G post i pc ls st h := by
  intro p e s m args below meth cd H locs lsA Cc hK1 hP hD hS hL
  have k0 := fun pc ls st h hs => hK pc ls st h hs p e s m args below meth cd
  have Cc0 := Cc
  obtain ⟨hx, hb, hr, hml, hown, hts, hlk, hi278, hnw⟩ := Cc
  simp only [stp] at hs
  simp only [okE] at ho
  obtain ⟨hd, rfl⟩ := dk_of ho
  split at hs
  · exact lv_i2l hx hb hd (iZ_l _) (k0 _ _ _ _ hs _ _ _ Cc0 hK1 hP hD hS hL)
  · exact lv_l2i hx hb hd (lZ_i _) (k0 _ _ _ _ hs _ _ _ Cc0 hK1 hP hD hS hL)
  · exact lv_i2b hx hb hd (iZ_8 _) (k0 _ _ _ _ hs _ _ _ Cc0 hK1 hP hD hS hL)
  · exact hs.elim
theorem s_15 (hK : ∀ pc ls st h, K pc ls st h → Go G post i pc ls st h) (ho : okE i pc (ct, 15, a, b, c, d, z, nx) = true) (hs : stp G post K (ct, 15, a, b, c, d, z, nx) ls st h) : Go G post i pc ls st h := by
  intro p e s m args below meth cd H locs lsA Cc hK1 hP hD hS hL
  have k0 := fun pc ls st h hs => hK pc ls st h hs p e s m args below meth cd
  have Cc0 := Cc
  obtain ⟨hx, hb, hr, hml, hown, hts, hlk, hi278, hnw⟩ := Cc
  simp only [stp] at hs
  split at hs
  · rename_i x st
    simp only [okE] at ho
    obtain ⟨hd, rfl⟩ := dk_of ho
    have ht : (pc : Int) + ((b : Int) - pc) = (b : Int) := by omega
    have kt := fun q => k0 b ls st h q H locs lsA Cc0 hK1 hP hD hS hL
    have kf := fun q => k0 (pc + 3) ls st h q H locs lsA Cc0 hK1 hP hD hS hL
    clear ho
    unfold brC at hs
    unfold cnd at hd
    split at hs
    · exact lv_if_eq hx hb hd ht (fun q => kt (hs.1 ((z_eq x).mp q))) (fun q => kf (hs.2 (fun r => q ((z_eq x).mpr r))))
    · exact lv_if_ne hx hb hd ht (fun q => kt (hs.2 (fun r => q ((z_eq x).mpr r)))) (fun q => kf (hs.1 ((z_eq x).mp q)))
    · exact lv_if_lt hx hb hd ht (fun q => kt (hs.1 ((z_lt x).mp q))) (fun q => kf (hs.2 (fun r => q ((z_lt x).mpr r))))
    · exact lv_if_ge hx hb hd ht (fun q => kt (hs.1 ((z_ge x).mp q))) (fun q => kf (hs.2 (fun r => q ((z_ge x).mpr r))))
    · exact lv_if_gt hx hb hd ht (fun q => kt (hs.1 ((z_gt x).mp q))) (fun q => kf (hs.2 (fun r => q ((z_gt x).mpr r))))
    · rename_i n0 n1 n2 n3 n4
      have hd : decode (mC i) pc = .ok (.ifCond .le ((b : Int) - pc), 3) := by
        match a, hd with
        | 0, _ => exact absurd rfl n0
        | 1, _ => exact absurd rfl n1
        | 2, _ => exact absurd rfl n2
        | 3, _ => exact absurd rfl n3
        | 4, _ => exact absurd rfl n4
        | a + 5, hd => exact hd
      exact lv_if_le hx hb hd ht (fun q => kt (hs.1 ((z_le x).mp q))) (fun q => kf (hs.2 (fun r => q ((z_le x).mpr r))))
  · exact hs.elim
theorem s_16 (hK : ∀ pc ls st h, K pc ls st h → Go G post i pc ls st h) (ho : okE i pc (ct, 16, a, b, c, d, z, nx) = true) (hs : stp G post K (ct, 16, a, b, c, d, z, nx) ls st h) : Go G post i pc ls st h := by
  intro p e s m args below meth cd H locs lsA Cc hK1 hP hD hS hL
  have k0 := fun pc ls st h hs => hK pc ls st h hs p e s m args below meth cd
  have Cc0 := Cc
  obtain ⟨hx, hb, hr, hml, hown, hts, hlk, hi278, hnw⟩ := Cc
  simp only [stp] at hs
  split at hs
  · rename_i y x st
    simp only [okE] at ho
    obtain ⟨hd, rfl⟩ := dk_of ho
    have ht : (pc : Int) + ((b : Int) - pc) = (b : Int) := by omega
    have kt := fun q => k0 b ls st h q H locs lsA Cc0 hK1 hP hD hS hL
    have kf := fun q => k0 (pc + 3) ls st h q H locs lsA Cc0 hK1 hP hD hS hL
    clear ho
    unfold brC at hs
    unfold cnd at hd
    split at hs
    · exact lv_icmp_eq hx hb hd ht (fun q => kt (hs.1 ((iZ_inj (x := x) (y := y)).mp q))) (fun q => kf (hs.2 (fun r => q ((iZ_inj (x := x) (y := y)).mpr r))))
    · exact lv_icmp_ne hx hb hd ht (fun q => kt (hs.2 (fun r => q ((iZ_inj (x := x) (y := y)).mpr r)))) (fun q => kf (hs.1 ((iZ_inj (x := x) (y := y)).mp q)))
    · exact lv_icmp_lt hx hb hd ht (fun q => kt (hs.1 ((iZ_lt (x := x) (y := y)).mp q))) (fun q => kf (hs.2 (fun r => q ((iZ_lt (x := x) (y := y)).mpr r))))
    · exact lv_icmp_ge hx hb hd ht (fun q => kt (hs.1 ((iZ_le (x := y) (y := x)).mp q))) (fun q => kf (hs.2 (fun r => q ((iZ_le (x := y) (y := x)).mpr r))))
    · exact lv_icmp_gt hx hb hd ht (fun q => kt (hs.1 ((iZ_lt (x := y) (y := x)).mp q))) (fun q => kf (hs.2 (fun r => q ((iZ_lt (x := y) (y := x)).mpr r))))
    · rename_i n0 n1 n2 n3 n4
      have hd : decode (mC i) pc = .ok (.if_icmp .le ((b : Int) - pc), 3) := by
        match a, hd with
        | 0, _ => exact absurd rfl n0
        | 1, _ => exact absurd rfl n1
        | 2, _ => exact absurd rfl n2
        | 3, _ => exact absurd rfl n3
        | 4, _ => exact absurd rfl n4
        | a + 5, hd => exact hd
      exact lv_icmp_le hx hb hd ht (fun q => kt (hs.1 ((iZ_le (x := x) (y := y)).mp q))) (fun q => kf (hs.2 (fun r => q ((iZ_le (x := x) (y := y)).mpr r))))
  · exact hs.elim
theorem s_17 (hK : ∀ pc ls st h, K pc ls st h → Go G post i pc ls st h) (ho : okE i pc (ct, 17, a, b, c, d, z, nx) = true) (hs : stp G post K (ct, 17, a, b, c, d, z, nx) ls st h) : Go G post i pc ls st h := by
  intro p e s m args below meth cd H locs lsA Cc hK1 hP hD hS hL
  have k0 := fun pc ls st h hs => hK pc ls st h hs p e s m args below meth cd
  have Cc0 := Cc
  obtain ⟨hx, hb, hr, hml, hown, hts, hlk, hi278, hnw⟩ := Cc
  simp only [okE] at ho
  obtain ⟨hd, -⟩ := dk_of ho
  exact lv_goto hx hb hd (by omega) (k0 _ _ _ _ hs _ _ _ Cc0 hK1 hP hD hS hL)
theorem s_18 (hK : ∀ pc ls st h, K pc ls st h → Go G post i pc ls st h) (ho : okE i pc (ct, 18, a, b, c, d, z, nx) = true) (hs : stp G post K (ct, 18, a, b, c, d, z, nx) ls st h) : Go G post i pc ls st h := by
  intro p e s m args below meth cd H locs lsA Cc hK1 hP hD hS hL
  have k0 := fun pc ls st h hs => hK pc ls st h hs p e s m args below meth cd
  have Cc0 := Cc
  obtain ⟨hx, hb, hr, hml, hown, hts, hlk, hi278, hnw⟩ := Cc
  simp only [stp] at hs
  split at hs
  · rename_i y x st
    simp only [okE, Bool.and_eq_true] at ho
    obtain ⟨hd0, -⟩ := dk_of ho.1
    obtain ⟨hd, rfl⟩ := dk_of ho.2
    have ht : ((pc + 1 : Nat) : Int) + ((b : Int) - (pc + 1 : Nat)) = (b : Int) := by omega
    have kt := fun q => k0 b ls st h q H locs lsA Cc0 hK1 hP hD hS hL
    have kf := fun q => k0 (pc + 1 + 3) ls st h q H locs lsA Cc0 hK1 hP hD hS hL
    clear ho
    refine W.lcmp hx hb hd0 ?_
    unfold brC at hs
    unfold cnd at hd
    split at hs
    · exact lv_if_eq hx hb hd ht (fun q => kt (hs.1 ((lZ_inj (x := x) (y := y)).mp ((lg_cmp_eq _ _).mp q)))) (fun q => kf (hs.2 (fun r => q ((lg_cmp_eq _ _).mpr ((lZ_inj (x := x) (y := y)).mpr r)))))
    · exact lv_if_ne hx hb hd ht (fun q => kt (hs.2 (fun r => q ((lg_cmp_eq _ _).mpr ((lZ_inj (x := x) (y := y)).mpr r))))) (fun q => kf (hs.1 ((lZ_inj (x := x) (y := y)).mp ((lg_cmp_eq _ _).mp q))))
    · exact lv_if_lt hx hb hd ht (fun q => kt (hs.1 ((lZ_lt (x := x) (y := y)).mp ((lg_cmp_lt _ _).mp q)))) (fun q => kf (hs.2 (fun r => q ((lg_cmp_lt _ _).mpr ((lZ_lt (x := x) (y := y)).mpr r)))))
    · exact lv_if_ge hx hb hd ht (fun q => kt (hs.1 ((lZ_le (x := y) (y := x)).mp ((lg_cmp_ge _ _).mp q)))) (fun q => kf (hs.2 (fun r => q ((lg_cmp_ge _ _).mpr ((lZ_le (x := y) (y := x)).mpr r)))))
    · exact lv_if_gt hx hb hd ht (fun q => kt (hs.1 ((lZ_lt (x := y) (y := x)).mp ((lg_cmp_gt _ _).mp q)))) (fun q => kf (hs.2 (fun r => q ((lg_cmp_gt _ _).mpr ((lZ_lt (x := y) (y := x)).mpr r)))))
    · rename_i n0 n1 n2 n3 n4
      have hd : decode (mC i) (pc + 1) = .ok (.ifCond .le ((b : Int) - (pc + 1 : Nat)), 3) := by
        match a, hd with
        | 0, _ => exact absurd rfl n0
        | 1, _ => exact absurd rfl n1
        | 2, _ => exact absurd rfl n2
        | 3, _ => exact absurd rfl n3
        | 4, _ => exact absurd rfl n4
        | a + 5, hd => exact hd
      exact lv_if_le hx hb hd ht (fun q => kt (hs.1 ((lZ_le (x := x) (y := y)).mp ((lg_cmp_le _ _).mp q)))) (fun q => kf (hs.2 (fun r => q ((lg_cmp_le _ _).mpr ((lZ_le (x := x) (y := y)).mpr r)))))
  · exact hs.elim
end SND
end
section
theorem kd_lt {o a : Nat} (h : ob_kd o = a) (ha : a < 17) : o < 60 := by
  by_cases ho : o < 60
  · exact ho
  · exfalso
    have : ob_kd o = 99 := by
      unfold ob_kd
      rw [List.getD_eq_getElem?_getD, List.getElem?_eq_none (by simp only [List.length_cons, List.length_nil]; omega)]
      rfl
    omega
theorem fd_n_lt {a b : Nat} (h : b + 1 ≤ fd_n a) : a < 13 := by
  by_cases ha : a < 13
  · exact ha
  · exfalso
    have : fd_n a = 0 := by
      unfold fd_n
      rw [List.getD_eq_getElem?_getD, List.getElem?_eq_none (by simp only [List.length_cons, List.length_nil]; omega)]
      rfl
    omega
theorem cell_ob {G : GG} {h : AH} {o a : Nat} (hk : ob_kd o = a) (ha : a < 13) : (gW G h)[o]? = some (G.2.2.2.2 o, .inr (a, (List.range (fd_n a)).map (fun k => cv G.2.2.2.2 (fv o (h o) k)))) := by
  rw [wd_get (kd_lt hk (by omega))]
  unfold ob_cell
  rw [hk, if_pos ha]
theorem cell_ai {G : GG} {h : AH} {o a : Nat} (hk : ob_kd o = a) (ha : a = 13 ∨ a = 14 ∨ a = 16) : (gW G h)[o]? = some (G.2.2.2.2 o, .inl (G.2.2.2.1 a, ob_ln o, .inl (fun k => Int32.ofInt (h o k)))) := by
  rw [wd_get (kd_lt hk (by omega))]
  unfold ob_cell
  rw [hk, if_neg (by omega), if_neg (by omega)]
theorem cell_al {G : GG} {h : AH} {o : Nat} (hk : ob_kd o = 15) : (gW G h)[o]? = some (G.2.2.2.2 o, .inl (G.2.2.2.1 15, ob_ln o, .inr (.inl (fun k => Int64.ofInt (h o k))))) := by
  rw [wd_get (kd_lt hk (by omega))]
  unfold ob_cell
  rw [hk, if_neg (by omega), if_pos rfl]
theorem fs_get {G : GG} {h : AH} {o a b : Nat} (hb : b + 1 ≤ fd_n a) : ((List.range (fd_n a)).map (fun k => cv G.2.2.2.2 (fv o (h o) k)))[b]? = some (cv G.2.2.2.2 (fv o (h o) b)) := by
  simp [show b < fd_n a from hb]
/-- the world behind a field's change -/
theorem wd_putf {G : GG} {h : AH} {o a b : Nat} {x : Int} {v : AV} (hk : ob_kd o = a) (ha : a < 13) (hv : ∀ f : Nat → Int, f b = x → fv o f b = v) : (gW G h).set o (G.2.2.2.2 o, .inr (a, ((List.range (fd_n a)).map (fun k => cv G.2.2.2.2 (fv o (h o) k))).set b (cv G.2.2.2.2 v))) = gW G (hs h o b x) := by
  refine wd_set ?_ (fun q hq => hs_ne h o b x q hq)
  unfold ob_cell
  rw [hk, if_pos ha, hs_eq]
  congr 2
  apply List.ext_getElem?
  intro j
  rw [List.getElem?_set]
  by_cases hj : j < fd_n a
  · by_cases hq : b = j
    · subst hq
      simp [hj, hv (fun k' => if k' = b then x else h o k') (if_pos rfl)]
    · rw [if_neg hq]
      simp only [List.getElem?_map, List.getElem?_range hj, Option.map_some]
      congr 2
      unfold fv
      simp only [if_neg (show ¬ j = b from fun q => hq q.symm)]
  · have e1 : ∀ g : Nat → Value, ((List.range (fd_n a)).map g)[j]? = none := fun g => List.getElem?_eq_none (by simp; omega)
    rw [e1]
    split
    · rename_i hq
      subst hq
      simp [hj]
    · exact (e1 _).symm
theorem wd_puta {G : GG} {h : AH} {o a k : Nat} {x : Int} (hk : ob_kd o = a) (ha : a = 13 ∨ a = 14 ∨ a = 16) : (gW G h).set o (G.2.2.2.2 o, .inl (G.2.2.2.1 a, ob_ln o, .inl (upd (fun k => Int32.ofInt (h o k)) k (Int32.ofInt x)))) = gW G (hs h o k x) := by
  refine wd_set ?_ (fun q hq => hs_ne h o k x q hq)
  unfold ob_cell
  rw [hk, if_neg (by omega), if_neg (by omega), hs_eq]
  congr 3
  congr 1
  funext j
  unfold upd
  dsimp only
  split <;> rfl
theorem wd_putl {G : GG} {h : AH} {o k : Nat} {x : Int} (hk : ob_kd o = 15) : (gW G h).set o (G.2.2.2.2 o, .inl (G.2.2.2.1 15, ob_ln o, .inr (.inl (vp_updL (fun k => Int64.ofInt (h o k)) k (Int64.ofInt x))))) = gW G (hs h o k x) := by
  refine wd_set ?_ (fun q hq => hs_ne h o k x q hq)
  unfold ob_cell
  rw [hk, if_neg (by omega), if_pos rfl, hs_eq]
  congr 3
  congr 2
  funext j
  unfold vp_updL
  dsimp only
  split <;> rfl
theorem akOk_of {a k : Nat} (h : akOk a k = true) : (a = 0 ∧ k = 14) ∨ (a = 1 ∧ k = 13) ∨ (a = 1 ∧ k = 16) ∨ (a = 2 ∧ k = 15) := by
  unfold akOk at h
  split at h <;> simp_all
section SND2
variable {G : GG} {post : Option AV → AH → Prop} {i pc : Nat} {ls : List (Option AV)} {st : List AV} {h : AH} {K : KT} {ct : List Bool} {a b c d nx : Nat} {z : Int}
theorem s_19 (hK : ∀ pc ls st h, K pc ls st h → Go G post i pc ls st h) (ho : okE i pc (ct, 19, a, b, c, d, z, nx) = true) (hs : stp G post K (ct, 19, a, b, c, d, z, nx) ls st h) : Go G post i pc ls st h := by
  intro p e s m args below meth cd H locs lsA Cc hK1 hP hD hS hL
  have k0 := fun pc ls st h hs => hK pc ls st h hs p e s m args below meth cd
  have Cc0 := Cc
  obtain ⟨hx, hb, hr, hml, hown, hts, hlk, hi278, hnw⟩ := Cc
  simp only [stp] at hs
  split at hs
  · rename_i o st
    split at hs
    · rename_i hkd
      have hkd := Nat.eq_of_beq_eq_true hkd
      simp only [okE] at ho
      split at ho
      · rename_i kk ix a' b' nest hq
        simp only [Bool.and_eq_true] at ho
        obtain ⟨hd, rfl⟩ := dk_of ho.1
        obtain rfl := Nat.eq_of_beq_eq_true ho.2.2.1
        obtain rfl := Nat.eq_of_beq_eq_true ho.2.2.2.1
        have hbn := Nat.le_of_ble_eq_true ho.2.2.2.2
        have ha := fd_n_lt hbn
        have hown2 : oS kk = (mN i).cls := by rw [Nat.eq_of_beq_eq_true ho.2.1]; exact (mt_ok hi278).2.2.2.2.2.symm
        have k : W p G.1 e (mRm i) s m args below meth cd H locs 0 0 (MQ below (gQ G post) args s 0 0 (gA G)) (F0 m (pc + 3) lsA (cv G.2.2.2.2 (fv o (h o) b') :: st.map (gc G))) := by
          unfold fv
          rw [hkd]
          split at hs
          · rename_i hf
            rw [hf]
            exact k0 _ _ _ _ (frc_of hs).2 _ _ _ Cc0 hK1 hP hD hS hL
          · rename_i hf
            rw [hf]
            exact k0 _ _ _ _ hs _ _ _ Cc0 hK1 hP hD hS hL
          · rename_i hf3 hf2
            split
            · rename_i hf; exact absurd hf hf3
            · rename_i hf; exact absurd hf hf2
            · exact k0 _ _ _ _ hs _ _ _ Cc0 hK1 hP hD hS hL
        obtain ⟨C, T, N, hc, hw⟩ := fl_ok hq
        obtain ⟨c1, c2, c3, c4, -⟩ := cls_ok hc
        have hbN : b' < N := by rw [c2]; exact hbn
        cases nest with
        | false =>
          have hw : Cond.fieldLink (mN i).cls ix C (T b').2.1 (T b').2.2.1 ∈ lw_tbl := by rw [← hown2]; exact hw
          exact va_get hx hb hts c1 hown hK1 hP o (cell_ob hkd ha) hc b' hbN (hts _ (inG hw rfl)) (fun x h9 => by rw [c4 b' hbN] at h9; exact h9) (fs_get hbn) hd k
        | true =>
          have hw : Cond.fieldLinkNest (mN i).cls ix C (T b').2.1 (T b').2.2.1 "BitmapVolume" ∈ lw_tbl := by rw [← hown2]; exact hw
          exact va_getN hx hb hts c1 hown hK1 hP o (cell_ob hkd ha) hc b' hbN (va_Nw.use rfl (hnw _ (inN hw rfl))) (fun x h9 => by rw [c4 b' hbN] at h9; exact h9) (fs_get hbn) hd k
      · cases ho
    · exact hs.elim
  · exact hs.elim
theorem nar_z {x : Int} (h : x = 0 ∨ x = 1) : narrow .boolean (.int (Int32.ofInt x)) = .int (Int32.ofInt x) ∧ fits .boolean (.int (Int32.ofInt x)) = true := by
  rcases h with rfl | rfl <;> exact ⟨rfl, rfl⟩
theorem put_core {p : Program} {e : Env} {s : State} {m : MethodId} {args : Array Value} {below : List Frame} {meth : Method} {cd : Code} {H : Heap} {locs : List Loc} {lsA : Array Slot} {o : Nat} {rest : List AV} {x : Int} {v : AV} {ty : FieldType}
    (Cc : Cx p s m args meth cd i) (hK1 : va_K (gD G) vwCl (wtys G.2.2.2.1) s) (hP : va_P (gD G) vwCl (gW G h) H) (hD : va_D (gA G) (gW G h)) (hS : va_S (gA G) s.heap H locs) (ho : okE i pc (ct, 20, a, b, c, d, z, nx) = true) (hkd : ob_kd o = a)
    (hv : ∀ f : Nat → Int, f b = x → fv o f b = v) (hdesc : ∀ (C : String) (T : u_T) (N : Nat), vwCl[a]? = some (C, T, N) → b < N → parseFieldDescriptor (T b).2.2.1 = some ty) (hn : narrow ty (gc G v) = gc G v) (hf : fits ty (gc G v) = true)
    (k : ∀ (H : Heap) (locs : List Loc), va_P (gD G) vwCl (gW G (hs h o b x)) H → va_D (gA G) (gW G (hs h o b x)) → va_S (gA G) s.heap H locs → W p G.1 e (mRm i) s m args below meth cd H locs 0 0 (MQ below (gQ G post) args s 0 0 (gA G)) (F0 m nx lsA (rest.map (gc G)))) :
    W p G.1 e (mRm i) s m args below meth cd H locs 0 0 (MQ below (gQ G post) args s 0 0 (gA G)) (F0 m pc lsA (gc G v :: .ref (G.2.2.2.2 o) :: rest.map (gc G))) := by
  obtain ⟨hx, hb, hr, hml, hown, hts, hlk, hi278, hnw⟩ := Cc
  simp only [okE] at ho
  split at ho
  · rename_i kk ix a' b' nest hq
    simp only [Bool.and_eq_true] at ho
    obtain ⟨hd, rfl⟩ := dk_of ho.1
    obtain rfl := Nat.eq_of_beq_eq_true ho.2.2.1
    obtain rfl := Nat.eq_of_beq_eq_true ho.2.2.2.1
    have hbn := Nat.le_of_ble_eq_true ho.2.2.2.2.1
    have ha := fd_n_lt hbn
    have hown2 : oS kk = (mN i).cls := by rw [Nat.eq_of_beq_eq_true ho.2.1]; exact (mt_ok hi278).2.2.2.2.2.symm
    obtain ⟨C, T, N, hc, hw⟩ := fl_ok hq
    obtain ⟨c1, c2, c3, c4, ⟨ty0, c5⟩, c6, -⟩ := cls_ok hc
    have hbN : b' < N := by rw [c2]; exact hbn
    have hfin : (T b').2.2.2 = false := by
      have h9 := ho.2.2.2.2.2
      rw [hc] at h9
      simpa using h9
    have kk2 : ∀ (H1 : Heap) (locs1 : List Loc), va_P (gD G) vwCl ((gW G h).set o (G.2.2.2.2 o, .inr (a', ((List.range (fd_n a')).map (fun k => cv G.2.2.2.2 (fv o (h o) k))).set b' (gc G v)))) H1 → va_D (gA G) ((gW G h).set o (G.2.2.2.2 o, .inr (a', ((List.range (fd_n a')).map (fun k => cv G.2.2.2.2 (fv o (h o) k))).set b' (gc G v)))) → va_S (gA G) s.heap H1 locs1 → W p G.1 e (mRm i) s m args below meth cd H1 locs1 0 0 (MQ below (gQ G post) args s 0 0 (gA G)) (F0 m (pc + 3) lsA (rest.map (gc G))) := by
      rw [wd_putf hkd ha hv]
      exact k
    cases nest with
    | false =>
      have hw : Cond.fieldLink (mN i).cls ix C (T b').2.1 (T b').2.2.1 ∈ lw_tbl := by rw [← hown2]; exact hw
      exact va_put hx hb hts c1 ty0 c5 c6 hown hK1 hP hD hS o (cell_ob hkd ha) hc b' hbN (hts _ (inG hw rfl)) (fun x h9 => by rw [c4 b' hbN] at h9; exact h9) hfin (hdesc C T N hc hbN) hn hf (by simp; omega) hd kk2
    | true =>
      have hw : Cond.fieldLinkNest (mN i).cls ix C (T b').2.1 (T b').2.2.1 "BitmapVolume" ∈ lw_tbl := by rw [← hown2]; exact hw
      exact va_putN hx hb hts c1 ty0 c5 c6 hown hK1 hP hD hS o (cell_ob hkd ha) hc b' hbN (va_Nw.use rfl (hnw _ (inN hw rfl))) (fun x h9 => by rw [c4 b' hbN] at h9; exact h9) hfin (hdesc C T N hc hbN) hn hf (by simp; omega) hd kk2
  · cases ho
theorem s_20 (hK : ∀ pc ls st h, K pc ls st h → Go G post i pc ls st h) (ho : okE i pc (ct, 20, a, b, c, d, z, nx) = true) (hs : stp G post K (ct, 20, a, b, c, d, z, nx) ls st h) : Go G post i pc ls st h := by
  intro p e s m args below meth cd H locs lsA Cc hK1 hP hD hS hL
  have k0 := fun pc ls st h hs => hK pc ls st h hs p e s m args below meth cd
  have Cc0 := Cc
  obtain ⟨hx, hb, hr, hml, hown, hts, hlk, hi278, hnw⟩ := Cc
  simp only [stp, g20] at hs
  split at hs
  · rename_i x o st
    split at hs
    · rename_i hkd
      have hkd := Nat.eq_of_beq_eq_true hkd
      split at hs
      · rename_i hf
        exact put_core (v := vI x) (ty := .int) Cc0 hK1 hP hD hS ho hkd (fun f hfx => by unfold fv; rw [hkd, hf, hfx]; rfl) (fun C T N hc hbN => by rw [((cls_ok hc).2.2.2.2.2.2 b hbN).1 hf]; rfl) rfl rfl (fun H locs hP hD hS => k0 _ _ _ _ hs _ _ _ Cc0 hK1 hP hD hS hL)
      · rename_i hf
        exact put_core (v := vI x) (ty := .boolean) Cc0 hK1 hP hD hS ho hkd (fun f hfx => by unfold fv; rw [hkd, hf, hfx]; rfl) (fun C T N hc hbN => by rw [((cls_ok hc).2.2.2.2.2.2 b hbN).2.1 hf]; rfl) (nar_z hs.1).1 (nar_z hs.1).2 (fun H locs hP hD hS => k0 _ _ _ _ hs.2 _ _ _ Cc0 hK1 hP hD hS hL)
      · exact hs.elim
    · exact hs.elim
  · rename_i x o st
    split at hs
    · rename_i hkd
      have hkd := Nat.eq_of_beq_eq_true hkd
      split at hs
      · rename_i hf
        exact put_core (v := vL x) (ty := .long) Cc0 hK1 hP hD hS ho hkd (fun f hfx => by unfold fv; rw [hkd, hf, hfx]; rfl) (fun C T N hc hbN => by rw [((cls_ok hc).2.2.2.2.2.2 b hbN).2.2 hf]; rfl) rfl rfl (fun H locs hP hD hS => k0 _ _ _ _ hs _ _ _ Cc0 hK1 hP hD hS hL)
      · exact hs.elim
    · exact hs.elim
  · exact hs.elim
theorem s_21 (hK : ∀ pc ls st h, K pc ls st h → Go G post i pc ls st h) (ho : okE i pc (ct, 21, a, b, c, d, z, nx) = true) (hs : stp G post K (ct, 21, a, b, c, d, z, nx) ls st h) : Go G post i pc ls st h := by
  intro p e s m args below meth cd H locs lsA Cc hK1 hP hD hS hL
  have k0 := fun pc ls st h hs => hK pc ls st h hs p e s m args below meth cd
  have Cc0 := Cc
  obtain ⟨hx, hb, hr, hml, hown, hts, hlk, hi278, hnw⟩ := Cc
  simp only [stp] at hs
  split at hs
  · rename_i o st
    split at hs
    · rename_i hq
      simp only [Bool.and_eq_true] at hq
      have h1 := Nat.le_of_ble_eq_true hq.1
      have h2 := Nat.le_of_ble_eq_true hq.2.1
      simp only [okE] at ho
      obtain ⟨hd, rfl⟩ := dk_of ho
      have k := k0 _ _ _ _ hs _ _ _ Cc0 hK1 hP hD hS hL
      rw [lnV_eq hq.2.2] at k
      have hv : Int32.ofNat (ob_ln o) = Int32.ofInt (ob_ln o : Int) := iZ_nat _
      rcases (show ob_kd o = 13 ∨ ob_kd o = 14 ∨ ob_kd o = 15 ∨ ob_kd o = 16 by omega) with q | q | q | q
      · exact va_alen hx hb hK1 hP o 0 (cell_ai q (by omega)) rfl hv hd k
      · exact va_alen hx hb hK1 hP o 1 (cell_ai q (by omega)) rfl hv hd k
      · exact va_alen hx hb hK1 hP o 2 (cell_al q) rfl hv hd k
      · exact va_alen hx hb hK1 hP o 3 (cell_ai q (by omega)) rfl hv hd k
    · exact hs.elim
  · exact hs.elim
theorem s_22 (hK : ∀ pc ls st h, K pc ls st h → Go G post i pc ls st h) (ho : okE i pc (ct, 22, a, b, c, d, z, nx) = true) (hs : stp G post K (ct, 22, a, b, c, d, z, nx) ls st h) : Go G post i pc ls st h := by
  intro p e s m args below meth cd H locs lsA Cc hK1 hP hD hS hL
  have k0 := fun pc ls st h hs => hK pc ls st h hs p e s m args below meth cd
  have Cc0 := Cc
  obtain ⟨hx, hb, hr, hml, hown, hts, hlk, hi278, hnw⟩ := Cc
  simp only [stp, g22] at hs
  split at hs
  · rename_i x o st
    split at hs
    · rename_i hq
      simp only [Bool.and_eq_true] at hq
      simp only [okE] at ho
      obtain ⟨hd, rfl⟩ := dk_of ho
      have hin : vp_in (Int32.ofInt x) (ob_ln o) := in_iff.mpr (by rw [← lnV_eq hq.2]; exact hs.1)
      have hs2 := hs.2
      rcases akOk_of hq.1 with ⟨rfl, q⟩ | ⟨rfl, q⟩ | ⟨rfl, q⟩ | ⟨rfl, q⟩
      · exact va_iald hx hb hK1 hP o 1 (cell_ai q (by omega)) rfl hin hd (by rw [toN_i]; exact k0 _ _ _ _ hs2 _ _ _ Cc0 hK1 hP hD hS hL)
      · exact va_bald hx hb hK1 hP o 0 (cell_ai q (by omega)) rfl hin hd (by rw [toN_i]; exact k0 _ _ _ _ hs2 _ _ _ Cc0 hK1 hP hD hS hL)
      · exact va_zald hx hb hK1 hP o 3 (cell_ai q (by omega)) rfl hin hd (by rw [toN_i]; exact k0 _ _ _ _ hs2 _ _ _ Cc0 hK1 hP hD hS hL)
      · exact va_lald hx hb hK1 hP o 2 (cell_al q) rfl hin hd (by rw [toN_i]; exact k0 _ _ _ _ hs2 _ _ _ Cc0 hK1 hP hD hS hL)
    · exact hs.elim
  · exact hs.elim
theorem s_23 (hK : ∀ pc ls st h, K pc ls st h → Go G post i pc ls st h) (ho : okE i pc (ct, 23, a, b, c, d, z, nx) = true) (hs : stp G post K (ct, 23, a, b, c, d, z, nx) ls st h) : Go G post i pc ls st h := by
  intro p e s m args below meth cd H locs lsA Cc hK1 hP hD hS hL
  have k0 := fun pc ls st h hs => hK pc ls st h hs p e s m args below meth cd
  have Cc0 := Cc
  obtain ⟨hx, hb, hr, hml, hown, hts, hlk, hi278, hnw⟩ := Cc
  simp only [stp, g23] at hs
  simp only [okE] at ho
  obtain ⟨hd, rfl⟩ := dk_of ho
  split at hs
  · rename_i v x o st
    split at hs
    · rename_i hln
      split at hs
      · rename_i q
        have hin : vp_in (Int32.ofInt x) (ob_ln o) := in_iff.mpr (by rw [← lnV_eq hln]; exact hs.1)
        refine va_iast hx hb hK1 hP hD hS o 1 (cell_ai q (by omega)) rfl hin hd ?_
        rw [toN_i, wd_puta q (by omega)]
        exact fun H locs hP hD hS => k0 _ _ _ _ hs.2 _ _ _ Cc0 hK1 hP hD hS hL
      · rename_i q
        have hin : vp_in (Int32.ofInt x) (ob_ln o) := in_iff.mpr (by rw [← lnV_eq hln]; exact hs.1)
        refine va_bast hx hb hK1 hP hD hS o 0 (cell_ai q (by omega)) rfl hin hd ?_
        rw [toN_i, vp_nar_byte, iZ_8, wd_puta q (by omega)]
        exact fun H locs hP hD hS => k0 _ _ _ _ hs.2 _ _ _ Cc0 hK1 hP hD hS hL
      · rename_i q
        have hin : vp_in (Int32.ofInt x) (ob_ln o) := in_iff.mpr (by rw [← lnV_eq hln]; exact hs.1)
        have hnz : vp_nar .boolean (Int32.ofInt v) = Int32.ofInt v := by rcases hs.2.1 with rfl | rfl <;> rfl
        refine va_zast hx hb hK1 hP hD hS o 3 (cell_ai q (by omega)) rfl hin hd ?_
        rw [toN_i, hnz, wd_puta q (by omega)]
        exact fun H locs hP hD hS => k0 _ _ _ _ hs.2.2 _ _ _ Cc0 hK1 hP hD hS hL
      · exact hs.elim
    · exact hs.elim
  · rename_i v x o st
    split at hs
    · rename_i hln
      split at hs
      · rename_i q
        have hin : vp_in (Int32.ofInt x) (ob_ln o) := in_iff.mpr (by rw [← lnV_eq hln]; exact hs.1)
        refine va_last hx hb hK1 hP hD hS o 2 (cell_al q) rfl hin hd ?_
        rw [toN_i, wd_putl q]
        exact fun H locs hP hD hS => k0 _ _ _ _ hs.2 _ _ _ Cc0 hK1 hP hD hS hL
      · exact hs.elim
    · exact hs.elim
  · exact hs.elim
theorem s_24 (hK : ∀ pc ls st h, K pc ls st h → Go G post i pc ls st h) (ho : okE i pc (ct, 24, a, b, c, d, z, nx) = true) (hs : stp G post K (ct, 24, a, b, c, d, z, nx) ls st h) : Go G post i pc ls st h := by
  intro p e s m args below meth cd H locs lsA Cc hK1 hP hD hS hL
  have k0 := fun pc ls st h hs => hK pc ls st h hs p e s m args below meth cd
  have Cc0 := Cc
  obtain ⟨hx, hb, hr, hml, hown, hts, hlk, hi278, hnw⟩ := Cc
  simp only [stp] at hs
  simp only [okE] at ho
  obtain ⟨hd, rfl⟩ := dk_of ho
  split at hs
  · exact lv_dup hx hb hd rfl (k0 _ _ _ _ hs _ _ _ Cc0 hK1 hP hD hS hL)
  · exact lv_dup hx hb hd rfl (k0 _ _ _ _ hs _ _ _ Cc0 hK1 hP hD hS hL)
  · exact hs.elim
theorem s_25 (hK : ∀ pc ls st h, K pc ls st h → Go G post i pc ls st h) (ho : okE i pc (ct, 25, a, b, c, d, z, nx) = true) (hs : stp G post K (ct, 25, a, b, c, d, z, nx) ls st h) : Go G post i pc ls st h := by
  intro p e s m args below meth cd H locs lsA Cc hK1 hP hD hS hL
  have k0 := fun pc ls st h hs => hK pc ls st h hs p e s m args below meth cd
  have Cc0 := Cc
  obtain ⟨hx, hb, hr, hml, hown, hts, hlk, hi278, hnw⟩ := Cc
  simp only [stp] at hs
  simp only [okE] at ho
  obtain ⟨hd, rfl⟩ := dk_of ho
  split at hs
  · exact lv_dup_x1 hx hb hd rfl rfl (k0 _ _ _ _ hs _ _ _ Cc0 hK1 hP hD hS hL)
  · exact lv_dup_x1 hx hb hd rfl rfl (k0 _ _ _ _ hs _ _ _ Cc0 hK1 hP hD hS hL)
  · exact hs.elim
theorem s_26 (hK : ∀ pc ls st h, K pc ls st h → Go G post i pc ls st h) (ho : okE i pc (ct, 26, a, b, c, d, z, nx) = true) (hs : stp G post K (ct, 26, a, b, c, d, z, nx) ls st h) : Go G post i pc ls st h := by
  intro p e s m args below meth cd H locs lsA Cc hK1 hP hD hS hL
  have k0 := fun pc ls st h hs => hK pc ls st h hs p e s m args below meth cd
  have Cc0 := Cc
  obtain ⟨hx, hb, hr, hml, hown, hts, hlk, hi278, hnw⟩ := Cc
  simp only [stp] at hs
  simp only [okE] at ho
  obtain ⟨hd, rfl⟩ := dk_of ho
  split at hs
  · exact lv_pop hx hb hd rfl (k0 _ _ _ _ hs _ _ _ Cc0 hK1 hP hD hS hL)
  · exact lv_pop hx hb hd rfl (k0 _ _ _ _ hs _ _ _ Cc0 hK1 hP hD hS hL)
  · exact hs.elim
theorem s_35 (hK : ∀ pc ls st h, K pc ls st h → Go G post i pc ls st h) (ho : okE i pc (ct, 35, a, b, c, d, z, nx) = true) (hs : stp G post K (ct, 35, a, b, c, d, z, nx) ls st h) : Go G post i pc ls st h := by
  intro p e s m args below meth cd H locs lsA Cc hK1 hP hD hS hL
  have k0 := fun pc ls st h hs => hK pc ls st h hs p e s m args below meth cd
  have Cc0 := Cc
  obtain ⟨hx, hb, hr, hml, hown, hts, hlk, hi278, hnw⟩ := Cc
  simp only [stp] at hs
  simp only [okE] at ho
  obtain ⟨hd, rfl⟩ := dk_of ho
  split at hs
  · exact lv_dup2_11 hx hb hd rfl rfl (k0 _ _ _ _ hs _ _ _ Cc0 hK1 hP hD hS hL)
  · exact hs.elim
end SND2
end
section
theorem Runs.mono {G : GG} {i : Nat} {as : List AV} {h : AH} {P Q : Option AV → AH → Prop} (hr : Runs G i as h P) (hq : ∀ r h', P r h' → Q r h') : Runs G i as h Q := by
  unfold Runs Met at hr ⊢
  refine MetFree.mono hr (fun _ _ q => q) (fun _ _ _ _ _ q => q) ?_
  intro a s o t _ q
  exact ⟨⟨by obtain ⟨r, h', a1, a2, a3⟩ := q.1.1; exact ⟨r, h', a1, hq r h' a2, a3⟩, q.1.2⟩, q.2⟩
theorem callC_runs {G : GG} {a : Nat} {as : List AV} {h : AH} {K : List AV → AH → Prop} (hc : callC G a as h K) : Runs G a as h (fun r h' => K r.toList h') := by
  unfold callC at hc
  split at hc
  · exact Runs.mono hc (fun r h' q => by unfold pV at q; split at q; exact q; exact q.elim)
  · exact Runs.mono hc (fun r h' q => by unfold pL at q; split at q; exact q; exact q.elim)
  · exact Runs.mono hc (fun r h' q => by unfold pI at q; split at q; exact q; exact q.elim)
theorem blind {G : GG} {as : List AV} {h : AH} : FrameBlind (va_Pc (as.map (gc G)) (fun U => gB G h U ∧ nW U)) := by
  intro a U g mk q
  obtain ⟨q0, ⟨qP, qK, qD⟩, qN⟩ := q
  exact ⟨q0, ⟨qP, va_K.moved (u := U) (U := U.calling g mk a) (Vm.Alike.refl U.vm) qK, qD⟩, nW_same (u := U) rfl qN⟩
theorem catN_eq {G : GG} (st : List AV) : ((st.map (gc G)).map fun v => v.category).sum = (st.map catN).sum := by
  rw [List.map_map]
  congr 1
  apply List.map_congr_left
  intro v _
  rcases v with z | z | o <;> rfl
theorem callG {G : GG} {post : Option AV → AH → Prop} {p : Program} {e : Env} {R : Room} {s : State} {m : MethodId} {args : Array Value} {below : List Frame} {meth : Method} {cd : Code} {H : Heap} {locs : List Loc} {pc : Nat} {lsA : Array Slot} {st0 rest : List Value} {as : Array Value} {Q : State → Prop}
    (hr : va_Run p G.1 e R s m args below meth cd H locs 0 0 0 0 (F0 m pc lsA st0) rest (gQ G post as) (gA G)) (hS : va_S (gA G) s.heap H locs)
    (kk : ∀ (r : Option AV) (h' : AH) (H1 : Heap) (locs1 : List Loc), post r h' → va_P (gD G) vwCl (gW G h') H1 → va_D (gA G) (gW G h') → va_S (gA G) s.heap H1 locs1 → W p G.1 e R s m args below meth cd H1 locs1 0 0 Q (F0 m (pc + 3) lsA ((r.toList.map (gc G)) ++ rest))) :
    W p G.1 e R s m args below meth cd H locs 0 0 Q (F0 m pc lsA st0) := by
  intro T hT X
  obtain ⟨v, st₀, t, T', L, h0, X', hL, e1, e2, ⟨⟨r, h', hv, hp, hP1, hK1, hD1⟩, hz, hk⟩, st⟩ := hr T hT X
  cases hv
  rw [h0] at hz hk
  obtain ⟨t2, a1, b1⟩ := kk r h' T'.heap (locs ++ L) hp (by rw [e1]; exact hP1) hD1
    ⟨Nat.le_trans hS.1 (by rw [e1]; exact hz), fun q h1 h2 => by rw [e1, hk q (Nat.lt_of_lt_of_le h1 hS.1) h2]; exact hS.2.1 q h1 h2, fun q hq => by
      rcases List.mem_append.mp hq with h | h
      · exact hS.2.2 q h
      · exact hL q h⟩ T' rfl X'
  refine ⟨t2, st t2 ?_, b1⟩
  have e3 : (r.map (gc G)).toList = r.toList.map (gc G) := by cases r <;> rfl
  show Steps p.tables e below (T'.setTop { (F0 m pc lsA st0) with pc := pc + 3, stack := (r.map (gc G)).toList ++ rest }) t2
  rw [e3]
  exact a1
theorem cls_at {d : Nat} (h : d + 1 ≤ 13) : ∃ (C : String) (T : u_T) (N : Nat), vwCl[d]? = some (C, T, N) ∧ C = oS d := by
  have hl : d < vwCl.length := by simp [vwCl]; omega
  have h1 : vwCl[d]? = some ((vwCl[d]).1, (vwCl[d]).2.1, (vwCl[d]).2.2) := List.getElem?_eq_getElem hl
  exact ⟨_, _, _, h1, (cls_ok h1).2.2.1⟩
section SND3
variable {G : GG} {post : Option AV → AH → Prop} {i pc : Nat} {ls : List (Option AV)} {st : List AV} {h : AH} {K : KT} {ct : List Bool} {a b c d nx : Nat} {z : Int}
theorem s_27 (hK : ∀ pc ls st h, K pc ls st h → Go G post i pc ls st h) (ho : okE i pc (ct, 27, a, b, c, d, z, nx) = true) (hs : stp G post K (ct, 27, a, b, c, d, z, nx) ls st h) : Go G post i pc ls st h := by
  intro p e s m args below meth cd H locs lsA Cc hK1 hP hD hS hL
  have k0 := fun pc ls st h hs => hK pc ls st h hs p e s m args below meth cd
  have Cc0 := Cc
  obtain ⟨hx, hb, hr, hml, hown, hts, hlk, hi278, hnw⟩ := Cc
  simp only [stp] at hs
  split at hs
  · rename_i o r hst
    split at hs
    · rename_i hq0
      simp only [Bool.and_eq_true] at hq0
      have hkd := Nat.eq_of_beq_eq_true hq0.1
      have hdep := Nat.le_of_ble_eq_true hq0.2
      simp only [okE] at ho
      split at ho
      · rename_i kk ix a' n hq
        simp only [Bool.and_eq_true] at ho
        obtain ⟨hd, rfl⟩ := dk_of ho.1
        obtain rfl := Nat.eq_of_beq_eq_true ho.2.2.1
        obtain rfl := Nat.eq_of_beq_eq_true ho.2.2.2.1
        have hdk := Nat.eq_of_beq_eq_true ho.2.2.2.2.1
        have hd13 := Nat.le_of_ble_eq_true ho.2.2.2.2.2.1
        have ha278 : a' < 278 := Nat.le_of_ble_eq_true ho.2.2.2.2.2.2.1
        have hfr := Nat.le_of_ble_eq_true ho.2.2.2.2.2.2.2.1
        have hlo := Nat.le_of_ble_eq_true ho.2.2.2.2.2.2.2.2
        have hown2 : oS kk = (mN i).cls := by rw [Nat.eq_of_beq_eq_true ho.2.1]; exact (mt_ok hi278).2.2.2.2.2.symm
        obtain ⟨l1, l2, -, l3⟩ := ml_ok hq
        obtain ⟨l4, l5⟩ := l3 rfl
        obtain ⟨t1, t2, t3, t4, t5, t6⟩ := mt_ok ha278
        have l1 : Cond.methodLink (mN i).cls ix (mN a') ∈ lw_tbl := by rw [← hown2]; exact l1
        obtain ⟨C, T, N, hc, hC⟩ := cls_at hd13
        have hC : C = (mN a').cls := by rw [hC, hdk]; exact t6.symm
        have hM := callC_runs hs
        have hlen : (st.take n).length = n := by
          have h9 := congrArg List.length hst
          simp at h9
          simp
          omega
        have hstk : st = st.take n ++ vR o :: r := by rw [← hst]; exact (List.take_append_drop n st).symm
        have hGood : GoodIn gtb (wsV (mN i).cls ix (mN a').cls (mN a') (mW a' :: gtb)) := by
          intro w hw
          have hmem : w ∈ gtb := by
            unfold wsV at hw
            simp only [List.mem_append, List.mem_cons, List.not_mem_nil, or_false] at hw
            rcases hw with (rfl | rfl | rfl | rfl) | rfl | hw
            · exact inG l1 rfl
            · exact inG l4 rfl
            · exact inG l5 rfl
            · exact inG t2 rfl
            · exact inG t1 rfl
            · exact hw
          exact ⟨hmem, good_of_word (List.mem_filter.mp hmem).2⟩
        have hPc := cell_ob (G := G) (h := h) hkd (show d < 13 by omega)
        have hrun := va_runV (C := (mN a').cls) (b := G.2.2.2.2 o) (As := ((st.take n).reverse).map (gc G)) (rest := r.map (gc G)) (n := n) (mc := 0) (ms := 0) (cells := 0) (slots := 0) (locs := locs) (e := e) (below := below) (meth := meth) (H := H) (R := mRm i) (g := F0 m pc lsA (st.map (gc G)))
          ⟨hx, hb, hml, hown, hts⟩ hM (cwV n hts hGood rfl rfl rfl ⟨rfl, t4, t5, l2⟩ ⟨hfr, hlo⟩)
          ⟨blind, by rw [← hC]; exact va_recv hK1 hP hc hPc, fun U hU hW => ⟨rfl, ⟨by rw [hU]; exact hP, va_K.moved hW.alike hK1, hD⟩, nW_warm hW hnw⟩⟩
          rfl (by rw [List.length_map, List.length_reverse, hlen]) hL.1 (by
            show st.map (gc G) = _
            rw [← List.map_reverse, List.reverse_reverse]
            conv => lhs; rw [hstk]
            rw [List.map_append]
            rfl) (by
            show 2 * 0 + _ ≤ 8
            rw [catN_eq]
            omega) hd ⟨Nat.le_refl _, Nat.le_refl _⟩
        refine callG hrun hS (fun r' h' H1 locs1 hp hP hD hS => ?_)
        rw [← List.map_append]
        exact k0 _ _ _ _ hp _ _ _ Cc0 hK1 hP hD hS hL
      · cases ho
    · exact hs.elim
  · exact hs.elim
theorem s_28 (hK : ∀ pc ls st h, K pc ls st h → Go G post i pc ls st h) (ho : okE i pc (ct, 28, a, b, c, d, z, nx) = true) (hs : stp G post K (ct, 28, a, b, c, d, z, nx) ls st h) : Go G post i pc ls st h := by
  intro p e s m args below meth cd H locs lsA Cc hK1 hP hD hS hL
  have k0 := fun pc ls st h hs => hK pc ls st h hs p e s m args below meth cd
  have Cc0 := Cc
  obtain ⟨hx, hb, hr, hml, hown, hts, hlk, hi278, hnw⟩ := Cc
  simp only [stp] at hs
  split at hs
  · rename_i hq0
    simp only [Bool.and_eq_true] at hq0
    have hbl := Nat.le_of_ble_eq_true hq0.1
    have hdep := Nat.le_of_ble_eq_true hq0.2
    simp only [okE] at ho
    split at ho
    · rename_i kk ix a' n hq
      simp only [Bool.and_eq_true] at ho
      obtain ⟨hd, rfl⟩ := dk_of ho.1
      obtain rfl := Nat.eq_of_beq_eq_true ho.2.2.1
      obtain rfl := Nat.eq_of_beq_eq_true ho.2.2.2.1
      have ha278 : a' < 278 := Nat.le_of_ble_eq_true ho.2.2.2.2.1
      have hfr := Nat.le_of_ble_eq_true ho.2.2.2.2.2.1
      have hlo := Nat.le_of_ble_eq_true ho.2.2.2.2.2.2
      have hown2 : oS kk = (mN i).cls := by rw [Nat.eq_of_beq_eq_true ho.2.1]; exact (mt_ok hi278).2.2.2.2.2.symm
      obtain ⟨l1, l2, l3, -⟩ := ml_ok hq
      have l4 := l3 rfl
      obtain ⟨t1, t2, t3, t4, t5, t6⟩ := mt_ok ha278
      have l1 : Cond.methodLink (mN i).cls ix (mN a') ∈ lw_tbl := by rw [← hown2]; exact l1
      have hM := callC_runs hs
      have hlen : (st.take n).length = n := by simp; omega
      have hGood : GoodIn gtb (mW a' :: gtb) := by
        intro w hw
        have hmem : w ∈ gtb := by
          rcases List.mem_cons.mp hw with rfl | hw
          · exact inG t1 rfl
          · exact hw
        exact ⟨hmem, good_of_word (List.mem_filter.mp hmem).2⟩
      have hrun := va_runS (As := ((st.take n).reverse).map (gc G)) (rest := (st.drop n).map (gc G)) (n := n) (mc := 0) (ms := 0) (cells := 0) (slots := 0) (locs := locs) (e := e) (below := below) (meth := meth) (H := H) (R := mRm i) (g := F0 m pc lsA (st.map (gc G)))
        ⟨hx, hb, hml, hown, hts⟩ hM ⟨callB_of n hts hGood rfl rfl rfl (hts _ (inG t2 rfl)) (hts _ (inG l1 rfl)) ⟨t4, t5, l2⟩ ⟨hfr, hlo⟩, hts _ (inG l4 rfl)⟩
        ⟨blind, fun U hU hW => ⟨rfl, ⟨by rw [hU]; exact hP, va_K.moved hW.alike hK1, hD⟩, nW_warm hW hnw⟩⟩
        rfl (by rw [List.length_map, List.length_reverse, hlen]) hL.1 (by
          show st.map (gc G) = _
          rw [← List.map_reverse, List.reverse_reverse, ← List.map_append, List.take_append_drop]) (by
          show 2 * 0 + _ ≤ 8
          rw [catN_eq]
          omega) hd ⟨Nat.le_refl _, Nat.le_refl _⟩
      refine callG hrun hS (fun r' h' H1 locs1 hp hP hD hS => ?_)
      rw [← List.map_append]
      exact k0 _ _ _ _ hp _ _ _ Cc0 hK1 hP hD hS hL
    · cases ho
  · exact hs.elim
theorem s_29 (hK : ∀ pc ls st h, K pc ls st h → Go G post i pc ls st h) (ho : okE i pc (ct, 29, a, b, c, d, z, nx) = true) (hs : stp G post K (ct, 29, a, b, c, d, z, nx) ls st h) : Go G post i pc ls st h := by
  intro p e s m args below meth cd H locs lsA Cc hK1 hP hD hS hL
  have k0 := fun pc ls st h hs => hK pc ls st h hs p e s m args below meth cd
  have Cc0 := Cc
  obtain ⟨hx, hb, hr, hml, hown, hts, hlk, hi278, hnw⟩ := Cc
  simp only [stp] at hs
  split at hs
  · rename_i x
    simp only [okE, Bool.and_eq_true] at ho
    obtain ⟨hd, -⟩ := dk_of ho.1
    have ho2 := ho.2
    split at hs
    · simp only [decide_eq_true_eq] at ho2
      exact W.zret (ty := .boolean) hx hb (by rw [hr]; exact ho2) (nar_z hs.1).1 (fun t ht hW => ⟨⟨some (vI x), h, rfl, hs.2, by rw [ht]; exact hP, va_K.moved hW.alike hK1, hD⟩, hS.F ht⟩) hS.2.2 hd hlk
    · rename_i hd1
      have ho2 : mR i = some .int := by
        split at ho2
        · exact absurd rfl hd1
        · simpa using ho2
      exact W.iret hx hb (by rw [hr]; exact ho2) (fun t ht hW => ⟨⟨some (vI x), h, rfl, hs, by rw [ht]; exact hP, va_K.moved hW.alike hK1, hD⟩, hS.F ht⟩) hS.2.2 hd hlk
  · exact hs.elim
theorem s_30 (hK : ∀ pc ls st h, K pc ls st h → Go G post i pc ls st h) (ho : okE i pc (ct, 30, a, b, c, d, z, nx) = true) (hs : stp G post K (ct, 30, a, b, c, d, z, nx) ls st h) : Go G post i pc ls st h := by
  intro p e s m args below meth cd H locs lsA Cc hK1 hP hD hS hL
  have k0 := fun pc ls st h hs => hK pc ls st h hs p e s m args below meth cd
  have Cc0 := Cc
  obtain ⟨hx, hb, hr, hml, hown, hts, hlk, hi278, hnw⟩ := Cc
  simp only [stp] at hs
  split at hs
  · rename_i x
    simp only [okE, Bool.and_eq_true, decide_eq_true_eq] at ho
    obtain ⟨hd, -⟩ := dk_of ho.1
    exact W.lret hx hb (by rw [hr]; exact ho.2) (fun t ht hW => ⟨⟨some (vL x), h, rfl, hs, by rw [ht]; exact hP, va_K.moved hW.alike hK1, hD⟩, hS.F ht⟩) hS.2.2 hd hlk
  · exact hs.elim
theorem s_31 (hK : ∀ pc ls st h, K pc ls st h → Go G post i pc ls st h) (ho : okE i pc (ct, 31, a, b, c, d, z, nx) = true) (hs : stp G post K (ct, 31, a, b, c, d, z, nx) ls st h) : Go G post i pc ls st h := by
  intro p e s m args below meth cd H locs lsA Cc hK1 hP hD hS hL
  have k0 := fun pc ls st h hs => hK pc ls st h hs p e s m args below meth cd
  have Cc0 := Cc
  obtain ⟨hx, hb, hr, hml, hown, hts, hlk, hi278, hnw⟩ := Cc
  simp only [stp] at hs
  split at hs
  · simp only [okE, Bool.and_eq_true, decide_eq_true_eq] at ho
    obtain ⟨hd, -⟩ := dk_of ho.1
    exact W.vret hx hb (by rw [hr]; exact ho.2) (fun t ht hW => ⟨⟨none, h, rfl, hs, by rw [ht]; exact hP, va_K.moved hW.alike hK1, hD⟩, hS.F ht⟩) hS.2.2 hd hlk
  · exact hs.elim
end SND3
end
section
theorem swC_of {K : Nat → Prop} {x : Int} {d : Nat} : ∀ {l : List (Int × Nat)}, swC K x d l → (∃ t, (x, t) ∈ l ∧ K t) ∨ ((∀ q ∈ l, q.1 ≠ x) ∧ K d)
  | [], h => Or.inr ⟨fun _ h => absurd h List.not_mem_nil, h⟩
  | (k, t) :: r, h => by
    by_cases hx : x = k
    · subst hx
      exact Or.inl ⟨t, List.mem_cons_self, h.1 rfl⟩
    · rcases swC_of (h.2 hx) with ⟨t', a, b⟩ | ⟨a, b⟩
      · exact Or.inl ⟨t', List.mem_cons_of_mem _ a, b⟩
      · refine Or.inr ⟨fun q hq => ?_, b⟩
        rcases List.mem_cons.mp hq with rfl | hq
        · exact fun e => hx e.symm
        · exact a q hq
/-- the first pair with the key -/
theorem swC_first {K : Nat → Prop} {x : Int} {d : Nat} (pc : Nat) (df : Int) (hdf : (d : Int) = pc + df) : ∀ {l : List (Int × Nat)}, swC K x d l → ∃ t : Nat, ((pc : Int) + Op.lookupswitch.offset (l.map (fun q => (q.1, ((q.2 : Int) - pc)))) df x = (t : Int)) ∧ K t
  | [], h => ⟨d, by simp [Op.lookupswitch.offset, hdf], h⟩
  | (k, t) :: r, h => by
    by_cases hx : x = k
    · subst hx
      refine ⟨t, ?_, h.1 rfl⟩
      rw [List.map_cons]
      simp only [Op.lookupswitch.offset]
      simp
      omega
    · obtain ⟨t', a, b⟩ := swC_first pc df hdf (h.2 hx)
      refine ⟨t', ?_, b⟩
      rw [List.map_cons]
      simp only [Op.lookupswitch.offset]
      have : ¬ (k == x) = true := by simpa using fun q : k = x => hx q.symm
      have h3 : ¬ k = x := fun q => hx q.symm
      simp only [h3, this, if_false]
      first | exact a | (simp; exact a)
section SND4
variable {G : GG} {post : Option AV → AH → Prop} {i pc : Nat} {ls : List (Option AV)} {st : List AV} {h : AH} {K : KT} {ct : List Bool} {a b c d nx : Nat} {z : Int}
theorem s_32 (hK : ∀ pc ls st h, K pc ls st h → Go G post i pc ls st h) (ho : okE i pc (ct, 32, a, b, c, d, z, nx) = true) (hs : stp G post K (ct, 32, a, b, c, d, z, nx) ls st h) : Go G post i pc ls st h := by
  intro p e s m args below meth cd H locs lsA Cc hK1 hP hD hS hL
  have k0 := fun pc ls st h hs => hK pc ls st h hs p e s m args below meth cd
  have Cc0 := Cc
  obtain ⟨hx, hb, hr, hml, hown, hts, hlk, hi278, hnw⟩ := Cc
  simp only [stp] at hs
  split at hs
  · rename_i x st
    simp only [okE] at ho
    split at ho
    · rename_i df lo hi offs len hd
      simp only [Bool.and_eq_true, decide_eq_true_eq] at ho
      obtain ⟨h1, h2, h3⟩ := ho
      have hxe : (Int32.ofInt x).toInt = wI x := wI_eq x
      rcases swC_of hs with ⟨t, hm, hk⟩ | ⟨hn, hk⟩
      · have hm2 : (wI x, ((t : Int) - pc)) ∈ (swt c).1.map (fun q => (q.1, ((q.2 : Int) - pc))) := List.mem_map.mpr ⟨_, hm, rfl⟩
        rw [h1] at hm2
        obtain ⟨⟨of, j⟩, hj, he⟩ := List.mem_map.mp hm2
        have hj2 := List.mem_zipIdx_iff_getElem?.mp hj
        have e1 : lo + (j : Int) = wI x := (Prod.mk.inj he).1
        have e2 : of = (t : Int) - pc := (Prod.mk.inj he).2
        dsimp only at hj2 e1 e2
        have hjl : j < offs.size := by
          have := (List.getElem?_eq_some_iff.mp hj2).1
          simpa using this
        refine lv_tableIn (off := of) (tgt := t) hx hb hd (by rw [hxe]; omega) (by rw [hxe]; omega) ?_ (by omega) (k0 _ _ _ _ hk _ _ _ Cc0 hK1 hP hD hS hL)
        rw [hxe, show (wI x - lo).toNat = j by omega]
        rw [← Array.getElem?_toList]
        exact hj2
      · refine lv_tableOut (tgt := (swt c).2) hx hb hd ?_ h3.symm (k0 _ _ _ _ hk _ _ _ Cc0 hK1 hP hD hS hL)
        rw [hxe]
        by_cases q1 : wI x < lo
        · exact Or.inl q1
        by_cases q2 : hi < wI x
        · exact Or.inr q2
        exfalso
        have hj : (wI x - lo).toNat < offs.size := by omega
        have hm : (wI x, offs[(wI x - lo).toNat]) ∈ offs.toList.zipIdx.map (fun q => (lo + (q.2 : Int), q.1)) := by
          refine List.mem_map.mpr ⟨(offs[(wI x - lo).toNat], (wI x - lo).toNat), List.mem_zipIdx_iff_getElem?.mpr ?_, ?_⟩
          · simp [hj]
          · simp only [Prod.mk.injEq, and_true]
            omega
        rw [← h1] at hm
        obtain ⟨⟨k, t⟩, hkt, he⟩ := List.mem_map.mp hm
        exact hn _ hkt (Prod.mk.inj he).1
    · rename_i df ps len hd
      simp only [Bool.and_eq_true, decide_eq_true_eq] at ho
      obtain ⟨h1, h2, h3⟩ := ho
      obtain ⟨t, ht, hk⟩ := swC_first pc df h2 hs
      rw [h1] at ht
      exact lv_lookup hx hb hd h3 rfl (by rw [wI_eq]; exact ht) (k0 _ _ _ _ hk _ _ _ Cc0 hK1 hP hD hS hL)
    · cases ho
  · exact hs.elim
theorem wd_cpy {G : GG} {h : AH} {a0 a1 sp dp n : Nat} (h1 : ob_kd a1 = 14) : (gW G h).set a1 (G.2.2.2.2 a1, .inl (G.2.2.2.1 14, ob_ln a1, .inl (va_cpy (fun k => Int32.ofInt (h a0 k)) (fun k => Int32.ofInt (h a1 k)) sp dp n))) = gW G (hcp h a0 a1 sp dp n) := by
  refine wd_set ?_ (fun q hq => if_neg hq)
  unfold ob_cell
  rw [h1, if_neg (by omega), if_neg (by omega)]
  congr 3
  congr 1
  funext j
  unfold va_cpy hcp
  rw [if_pos rfl]
  dsimp only
  split <;> rfl
theorem s_33 (hK : ∀ pc ls st h, K pc ls st h → Go G post i pc ls st h) (ho : okE i pc (ct, 33, a, b, c, d, z, nx) = true) (hs : stp G post K (ct, 33, a, b, c, d, z, nx) ls st h) : Go G post i pc ls st h := by
  intro p e s m args below meth cd H locs lsA Cc hK1 hP hD hS hL
  have k0 := fun pc ls st h hs => hK pc ls st h hs p e s m args below meth cd
  have Cc0 := Cc
  obtain ⟨hx, hb, hr, hml, hown, hts, hlk, hi278, hnw⟩ := Cc
  simp only [stp, g33] at hs
  split at hs
  · rename_i n dp a1 sp a0 st
    split at hs
    · rename_i hq
      simp only [Bool.and_eq_true] at hq
      have k0' := Nat.eq_of_beq_eq_true hq.1
      have k1' := Nat.eq_of_beq_eq_true hq.2.1
      have hdep := Nat.le_of_ble_eq_true hq.2.2.2.2
      simp only [okE, Bool.and_eq_true] at ho
      obtain ⟨hd, rfl⟩ := dk_of ho.1
      have hown2 : oS acO = (mN i).cls := by rw [← Nat.eq_of_beq_eq_true ho.2.1]; exact (mt_ok hi278).2.2.2.2.2.symm
      have hw : Cond.methodLink (mN i).cls acI arraycopyName ∈ lw_tbl := by rw [← hown2]; exact ac_l
      have hfr := Nat.le_of_ble_eq_true ho.2.2.1
      have hlo := Nat.le_of_ble_eq_true ho.2.2.2
      obtain ⟨⟨g1, g2, g3, g4, g5⟩, hs2⟩ := hs
      rw [lnV_eq hq.2.2.1] at g4
      rw [lnV_eq hq.2.2.2.1] at g5
      refine va_copyi hx hb (by rw [hml]; exact hL.1.symm) hown (hts _ (inG hw rfl)) (hts _ (inG ac_w.1 rfl)) (hts _ (inG ac_w.2.1 rfl)) (hts _ (inG ac_w.2.2 rfl)) hK1 hP hD hS a0 a1 1 1 (ty := .int) (cell_ai k0' (by omega)) (cell_ai k1' (by omega)) rfl rfl rfl
        (by rw [z_lt]; omega) (by rw [z_lt]; omega) (by rw [z_lt]; omega) (by rw [toN_i, toN_i]; omega) (by rw [toN_i, toN_i]; omega) (fun _ _ => rfl) hfr (by rw [catN_eq]; show _ + (7 + 11) ≤ mO i; omega) hd ?_
      rw [toN_i, toN_i, toN_i, wd_cpy k1']
      exact fun H locs hP hD hS => k0 _ _ _ _ hs2 _ _ _ Cc0 hK1 hP hD hS hL
    · exact hs.elim
  · exact hs.elim
theorem s_34 (hK : ∀ pc ls st h, K pc ls st h → Go G post i pc ls st h) (ho : okE i pc (ct, 34, a, b, c, d, z, nx) = true) (hs : stp G post K (ct, 34, a, b, c, d, z, nx) ls st h) : Go G post i pc ls st h := by
  intro p e s m args below meth cd H locs lsA Cc hK1 hP hD hS hL
  have k0 := fun pc ls st h hs => hK pc ls st h hs p e s m args below meth cd
  have Cc0 := Cc
  obtain ⟨hx, hb, hr, hml, hown, hts, hlk, hi278, hnw⟩ := Cc
  simp only [stp] at hs
  split at hs
  · rename_i y x st
    split at hs
    · rename_i hdep
      have hdep := Nat.le_of_ble_eq_true hdep
      have k := k0 _ _ _ _ hs _ _ _ Cc0 hK1 hP hD hS hL
      simp only [okE] at ho
      split at ho
      · rename_i kk ix q hq
        simp only [Bool.and_eq_true] at ho
        obtain ⟨hd, rfl⟩ := dk_of ho.1
        have hown2 : oS kk = (mN i).cls := by rw [Nat.eq_of_beq_eq_true ho.2.1]; exact (mt_ok hi278).2.2.2.2.2.symm
        have hw := mxt_ok_0 _ (List.mem_of_getElem? hq)
        have hfr := Nat.le_of_ble_eq_true ho.2.2.2.1
        have hlo := Nat.le_of_ble_eq_true ho.2.2.2.2
        have hqa := ho.2.2.1
        clear hs ho
        match a, q, hqa, hw, k with
        | 0, false, _, hw, k =>
          have hw : Cond.methodLink (mN i).cls ix Lib.Math.max.name ∈ lw_tbl := by rw [← hown2]; exact hw
          refine va_mmax hx hb (by rw [hml]; exact hL.1.symm) hown (hts _ (inG hw rfl)) (hts _ (inG mx_w.1.1 rfl)) (hts _ (inG mx_w.2.2 rfl)) (hts _ (inG mx_w.1.2 rfl)) hfr (by rw [catN_eq]; show _ ≤ mO i; omega) (Nat.le_refl _) (Nat.le_refl _) hd ?_
          have e9 : (if Int32.ofInt x < Int32.ofInt y then Int32.ofInt y else Int32.ofInt x) = Int32.ofInt (mm 0 x y) := by
            unfold mm
            by_cases h9 : wI x < wI y
            · rw [if_pos (iZ_lt.mpr h9)]; rw [if_pos h9]; rfl
            · rw [if_neg (fun z => h9 (iZ_lt.mp z))]; rw [if_neg h9]; rfl
          rw [e9]
          exact k
        | n + 1, true, _, hw, k =>
          have hw : Cond.methodLink (mN i).cls ix Lib.Math.min.name ∈ lw_tbl := by rw [← hown2]; exact hw
          refine va_mmin hx hb (by rw [hml]; exact hL.1.symm) hown (hts _ (inG hw rfl)) (hts _ (inG mx_w.2.1.1 rfl)) (hts _ (inG mx_w.2.2 rfl)) (hts _ (inG mx_w.2.1.2 rfl)) hfr (by rw [catN_eq]; show _ ≤ mO i; omega) (Nat.le_refl _) (Nat.le_refl _) hd ?_
          have e9 : (if Int32.ofInt y < Int32.ofInt x then Int32.ofInt y else Int32.ofInt x) = Int32.ofInt (mm (n + 1) x y) := by
            unfold mm
            by_cases h9 : wI y < wI x
            · rw [if_pos (iZ_lt.mpr h9)]; rw [if_pos h9]; rfl
            · rw [if_neg (fun z => h9 (iZ_lt.mp z))]; rw [if_neg h9]; rfl
          rw [e9]
          exact k
      · cases ho
    · exact hs.elim
  · exact hs.elim
theorem stp_ok {e : EM} (hK : ∀ pc ls st h, K pc ls st h → Go G post i pc ls st h) (ho : okE i pc e = true) (hs : stp G post K e ls st h) : Go G post i pc ls st h := by
  obtain ⟨ct, op, a, b, c, d, z, nx⟩ := e
  match op, ho, hs with
  | 0, ho, hs => exact s_0 hK ho hs
  | 1, ho, hs => exact s_1 hK ho hs
  | 2, ho, hs => exact s_2 hK ho hs
  | 3, ho, hs => exact s_3 hK ho hs
  | 4, ho, hs => exact s_4 hK ho hs
  | 5, ho, hs => exact s_5 hK ho hs
  | 6, ho, hs => exact s_6 hK ho hs
  | 7, ho, hs => exact s_7 hK ho hs
  | 8, ho, hs => exact s_8 hK ho hs
  | 9, ho, hs => exact s_9 hK ho hs
  | 10, ho, hs => exact s_10 hK ho hs
  | 11, ho, hs => exact s_11 hK ho hs
  | 12, ho, hs => exact s_12 hK ho hs
  | 13, ho, hs => exact s_13 hK ho hs
  | 14, ho, hs => exact s_14 hK ho hs
  | 15, ho, hs => exact s_15 hK ho hs
  | 16, ho, hs => exact s_16 hK ho hs
  | 17, ho, hs => exact s_17 hK ho hs
  | 18, ho, hs => exact s_18 hK ho hs
  | 19, ho, hs => exact s_19 hK ho hs
  | 20, ho, hs => exact s_20 hK ho hs
  | 21, ho, hs => exact s_21 hK ho hs
  | 22, ho, hs => exact s_22 hK ho hs
  | 23, ho, hs => exact s_23 hK ho hs
  | 24, ho, hs => exact s_24 hK ho hs
  | 25, ho, hs => exact s_25 hK ho hs
  | 26, ho, hs => exact s_26 hK ho hs
  | 27, ho, hs => exact s_27 hK ho hs
  | 28, ho, hs => exact s_28 hK ho hs
  | 29, ho, hs => exact s_29 hK ho hs
  | 30, ho, hs => exact s_30 hK ho hs
  | 31, ho, hs => exact s_31 hK ho hs
  | 32, ho, hs => exact s_32 hK ho hs
  | 33, ho, hs => exact s_33 hK ho hs
  | 34, ho, hs => exact s_34 hK ho hs
  | 35, ho, hs => exact s_35 hK ho hs
  | n + 36, _, hs => exact hs.elim
end SND4
def eD : EM := ([], 99, 0, 0, 0, 0, 0, 0)
def ent (cd : List (List EM)) (pc : Nat) : EM := (cd.getD (pc / 16) []).getD (pc % 16) eD
def okM (i : Nat) (cd : List (List EM)) : Bool := cd.zipIdx.all (fun q => q.1.zipIdx.all (fun r => okE i (16 * q.2 + r.2) r.1))
theorem okM_of {i : Nat} {cd : List (List EM)} (h : okM i cd = true) (pc : Nat) : okE i pc (ent cd pc) = true := by
  unfold ent
  rw [List.getD_eq_getElem?_getD, List.getD_eq_getElem?_getD]
  cases h1 : cd[pc / 16]? with
  | none => rfl
  | some ch =>
    have q1 := List.all_eq_true.mp h (ch, pc / 16) (List.mem_zipIdx_iff_getElem?.mpr h1)
    rw [Option.getD_some]
    cases h2 : ch[pc % 16]? with
    | none => rfl
    | some e =>
      have q2 := List.all_eq_true.mp q1 (e, pc % 16) (List.mem_zipIdx_iff_getElem?.mpr h2)
      dsimp only at q2
      rw [show 16 * (pc / 16) + pc % 16 = pc by omega] at q2
      exact q2
/-- locals that nobody reads any more are forgotten -/
def kp : List Bool → List (Option AV) → List (Option AV)
  | true :: m, v :: r => v :: kp m r
  | false :: m, _ :: r => none :: kp m r
  | _, _ => []
theorem kp_get : ∀ (m : List Bool) (ls : List (Option AV)) (j : Nat) (v : AV), (kp m ls)[j]? = some (some v) → ls[j]? = some (some v)
  | true :: m, w :: r, 0, v, h => by simpa [kp] using h
  | true :: m, w :: r, j + 1, v, h => by
    simp only [kp, List.getElem?_cons_succ] at h ⊢
    exact kp_get m r j v h
  | false :: m, w :: r, 0, v, h => by simp [kp] at h
  | false :: m, w :: r, j + 1, v, h => by
    simp only [kp, List.getElem?_cons_succ] at h ⊢
    exact kp_get m r j v h
  | [], ls, j, v, h => by simp [kp] at h
  | true :: m, [], j, v, h => by simp [kp] at h
  | false :: m, [], j, v, h => by simp [kp] at h
theorem Go.kp {G : GG} {post : Option AV → AH → Prop} {i pc : Nat} {ls : List (Option AV)} {st : List AV} {h : AH} {m : List Bool} (hg : Go G post i pc (kp m ls) st h) : Go G post i pc ls st h :=
  fun p e s m args below meth c H locs lsA Cc hK hP hD hS hL => hg p e s m args below meth c H locs lsA Cc hK hP hD hS ⟨hL.1, hL.2.1, fun j v hj => hL.2.2 j v (kp_get _ _ _ _ hj)⟩
/-- what is to be shown at pc: instruction by instruction, up to the next cut -/
def vc (G : GG) (post : Option AV → AH → Prop) (i : Nat) (cd : List (List EM)) : Nat → KT
  | 0, pc, ls, st, h => Go G post i pc ls st h
  | n + 1, pc, ls, st, h => match (ent cd pc).1 with
    | [] => stp G post (vc G post i cd n) (ent cd pc) ls st h
    | b :: m => Go G post i pc (kp (b :: m) ls) st h
def vc1 (G : GG) (post : Option AV → AH → Prop) (i : Nat) (cd : List (List EM)) (n pc : Nat) (ls : List (Option AV)) (st : List AV) (h : AH) : Prop := stp G post (vc G post i cd n) (ent cd pc) ls st h
theorem vc_ok {G : GG} {post : Option AV → AH → Prop} {i : Nat} {cd : List (List EM)} (hc : okM i cd = true) : ∀ (n pc : Nat) (ls : List (Option AV)) (st : List AV) (h : AH), vc G post i cd n pc ls st h → Go G post i pc ls st h
  | 0, _, _, _, _, h => h
  | n + 1, pc, ls, st, h, hv => by
    unfold vc at hv
    split at hv
    · exact stp_ok (vc_ok hc n) (okM_of hc pc) hv
    · exact Go.kp hv
theorem go1 {G : GG} {post : Option AV → AH → Prop} {i : Nat} {cd : List (List EM)} (hc : okM i cd = true) (n : Nat) {pc : Nat} {ls : List (Option AV)} {st : List AV} {h : AH} (hv : vc1 G post i cd n pc ls st h) : Go G post i pc ls st h := stp_ok (vc_ok hc n) (okM_of hc pc) hv
/-- the locals with which a method begins -/
def aL : List AV → List (Option AV)
  | [] => []
  | .inr (.inl z) :: r => some (vL z) :: none :: aL r
  | v :: r => some v :: aL r
theorem aL_get {G : GG} : ∀ (as : List AV) (n j : Nat) (v : AV), (aL as)[j]? = some (some v) → (n + j, gc G v) ∈ lv_args n (as.map (gc G))
  | [], n, j, v, h => by simp [aL] at h
  | .inl z :: r, n, j, v, h => by
    cases j with
    | zero =>
      simp [aL] at h
      subst h
      simp [lv_args]
    | succ j =>
      simp [aL] at h
      have := aL_get (G := G) r (n + 1) j v h
      rw [List.map_cons, lv_args]
      refine List.mem_cons_of_mem _ ?_
      rw [if_neg (by simp [cv, Value.category]), show n + (j + 1) = n + 1 + j by omega]
      exact this
  | .inr (.inl z) :: r, n, j, v, h => by
    cases j with
    | zero =>
      simp [aL] at h
      subst h
      simp [lv_args]
    | succ j =>
      cases j with
      | zero => simp [aL] at h
      | succ j =>
        simp [aL] at h
        have := aL_get (G := G) r (n + 2) j v h
        rw [List.map_cons, lv_args]
        refine List.mem_cons_of_mem _ ?_
        rw [if_pos (by simp [cv, Value.category]), show n + (j + 1 + 1) = n + 2 + j by omega]
        exact this
  | .inr (.inr o) :: r, n, j, v, h => by
    cases j with
    | zero =>
      simp [aL] at h
      subst h
      simp [lv_args]
    | succ j =>
      simp [aL] at h
      have := aL_get (G := G) r (n + 1) j v h
      rw [List.map_cons, lv_args]
      refine List.mem_cons_of_mem _ ?_
      rw [if_neg (by simp [cv, Value.category]), show n + (j + 1) = n + 1 + j by omega]
      exact this
theorem aL_len {G : GG} : ∀ (as : List AV), (lg_sl (as.map (gc G))).length = (aL as).length
  | [] => rfl
  | .inl z :: r => by
    have := aL_len (G := G) r
    simp [lg_sl, aL, cv, Value.category] at this ⊢
    omega
  | .inr (.inl z) :: r => by
    have := aL_len (G := G) r
    simp [lg_sl, aL, cv, Value.category] at this ⊢
    omega
  | .inr (.inr o) :: r => by
    have := aL_len (G := G) r
    simp [lg_sl, aL, cv, Value.category] at this ⊢
    omega
/-- a method out of its body; none: unset locals behind the arguments -/
theorem runs_of {G : GG} {post : Option AV → AH → Prop} {i : Nat} {as : List AV} {h : AH} (hi : i < 278) (pad : Nat) (hn : (aL as).length + pad = mL i) (hg : Go G post i 0 (aL as ++ List.replicate pad none) [] h) : Runs G i as h post := by
  refine Met.ofW (cc := mC i) (maxL := mL i) (ret := mR i) (mt_ok hi).2.2.1 rfl ?_
  intro p e s m args below meth c s₁ B hml hv
  obtain ⟨rfl, ⟨hP, hK, hD⟩, hN⟩ := hv
  have hts := atoms_spec (ws := mW i :: gtb) B.pre
  have hl := lv_entry (as.map (gc G)) (n := mL i) (by rw [aL_len]; omega)
  rw [lg_entry_eq]
  generalize (lg_sl (as.map (gc G)) ++ List.replicate (mL i - (lg_sl (as.map (gc G))).length) Slot.unset).toArray = ls at hl ⊢
  refine hg p e s m _ below meth c s.heap [] ls ⟨B.exec, B.bytes, B.returns, hml, findClass_of_methodNamed B.named, fun w hw => hts w (List.mem_cons_of_mem _ hw), B.notSynchronized, hi, hN⟩ hK hP hD va_S.rf ⟨hl.1, hl.2.1, fun j v hj => ?_⟩
  by_cases hq : j < (aL as).length
  · rw [List.getElem?_append_left hq] at hj
    have := aL_get (G := G) as 0 j v hj
    rw [Nat.zero_add] at this
    exact hl.2.2 _ this
  · rw [List.getElem?_append_right (by omega), List.getElem?_replicate] at hj
    split at hj <;> simp at hj
end
section
/-! code tables, by program out of the printed bytecode, and their checks -/
def cd0 : List (List EM) := [[([], 4, 0, 0, 0, 0, 0, 1), ([], 19, 0, 3, 82, 0, 0, 4), eD, eD, ([], 2, 1, 0, 0, 0, 0, 5), ([], 27, 130, 1, 153, 10, 0, 8), eD, eD, ([], 15, 1, 13, 0, 0, 0, 11), eD, eD, ([], 0, 0, 0, 0, 0, -1, 12), ([], 29, 0, 0, 0, 0, 0, 13), ([], 4, 2, 0, 0, 0, 0, 14), ([], 27, 77, 0, 154, 7, 0, 17), eD],
  [eD, ([], 15, 1, 23, 0, 0, 0, 20), eD, eD, ([], 0, 1, 0, 0, 0, -3, 22), eD, ([], 29, 0, 0, 0, 0, 0, 23), ([], 4, 0, 0, 0, 0, 0, 24), ([], 19, 0, 3, 82, 0, 0, 27), eD, eD, ([], 2, 1, 0, 0, 0, 0, 28), ([], 4, 2, 0, 0, 0, 0, 29), ([], 27, 133, 2, 155, 10, 0, 32), eD, eD],
  [([], 0, 1, 0, 0, 0, -9, 34), eD, ([], 16, 0, 40, 0, 0, 0, 37), eD, eD, ([], 0, 1, 0, 0, 0, -4, 39), eD, ([], 29, 0, 0, 0, 0, 0, 40), ([], 4, 0, 0, 0, 0, 0, 41), ([], 19, 0, 1, 80, 0, 0, 44), eD, eD, ([], 0, 0, 0, 0, 0, 0, 45), ([], 20, 9, 4, 18, 0, 0, 48), eD, eD],
  [([], 2, 3, 0, 0, 0, 0, 49), ([], 15, 0, 62, 0, 0, 0, 52), eD, eD, ([], 4, 0, 0, 0, 0, 0, 53), ([], 19, 0, 1, 80, 0, 0, 56), eD, eD, ([], 27, 116, 0, 156, 9, 0, 59), eD, eD, ([], 17, 0, 63, 0, 0, 0, 62), eD, eD, ([], 0, 0, 0, 0, 0, 0, 63), ([true, true, true, true, false], 5, 4, 1, 0, 0, 0, 65)],
  [eD, ([], 2, 3, 0, 0, 0, 0, 66), ([], 15, 0, 77, 0, 0, 0, 69), eD, eD, ([], 2, 4, 1, 0, 0, 0, 71), eD, ([], 15, 1, 77, 0, 0, 0, 74), eD, eD, ([], 0, 1, 0, 0, 0, -6, 76), eD, ([], 29, 0, 0, 0, 0, 0, 77), ([true, true, true, true, true], 4, 0, 0, 0, 0, 0, 78), ([], 19, 0, 1, 80, 0, 0, 81), eD],
  [eD, ([], 2, 4, 1, 0, 0, 0, 83), eD, ([], 20, 9, 4, 18, 0, 0, 86), eD, eD, ([], 4, 0, 0, 0, 0, 0, 87), ([], 2, 1, 0, 0, 0, 0, 88), ([], 4, 2, 0, 0, 0, 0, 89), ([], 27, 2, 2, 159, 0, 0, 92), eD, eD, ([], 15, 1, 98, 0, 0, 0, 95), eD, eD, ([], 0, 1, 0, 0, 0, -6, 97)],
  [eD, ([], 29, 0, 0, 0, 0, 0, 98), ([], 4, 0, 0, 0, 0, 0, 99), ([], 2, 1, 0, 0, 0, 0, 100), ([], 4, 2, 0, 0, 0, 0, 101), ([], 27, 4, 2, 175, 0, 0, 104), eD, eD, ([], 15, 1, 110, 0, 0, 0, 107), eD, eD, ([], 0, 1, 0, 0, 0, -7, 109), eD, ([], 29, 0, 0, 0, 0, 0, 110), ([], 4, 0, 0, 0, 0, 0, 111), ([], 19, 0, 2, 81, 0, 0, 114)],
  [eD, eD, ([], 4, 0, 0, 0, 0, 0, 115), ([], 19, 0, 6, 86, 0, 0, 118), eD, eD, ([], 4, 0, 0, 0, 0, 0, 119), ([], 19, 0, 7, 87, 0, 0, 122), eD, eD, ([], 4, 2, 0, 0, 0, 0, 123), ([], 27, 100, 3, 200, 8, 0, 126), eD, eD, ([], 4, 0, 0, 0, 0, 0, 127), ([], 19, 0, 2, 81, 0, 0, 130)],
  [eD, eD, ([], 4, 0, 0, 0, 0, 0, 131), ([], 19, 0, 6, 86, 0, 0, 134), eD, eD, ([], 4, 0, 0, 0, 0, 0, 135), ([], 19, 0, 5, 84, 0, 0, 138), eD, eD, ([], 27, 102, 2, 202, 8, 0, 141), eD, eD, ([], 4, 0, 0, 0, 0, 0, 142), ([], 19, 0, 2, 81, 0, 0, 145), eD],
  [eD, ([], 4, 0, 0, 0, 0, 0, 146), ([], 19, 0, 6, 86, 0, 0, 149), eD, eD, ([], 4, 0, 0, 0, 0, 0, 150), ([], 19, 0, 5, 84, 0, 0, 153), eD, eD, ([], 27, 103, 2, 194, 8, 0, 156), eD, eD, ([], 2, 3, 0, 0, 0, 0, 157), ([], 15, 0, 190, 0, 0, 0, 160), eD, eD],
  [([], 4, 0, 0, 0, 0, 0, 161), ([], 19, 0, 2, 81, 0, 0, 164), eD, eD, ([], 4, 0, 0, 0, 0, 0, 165), ([], 19, 0, 6, 86, 0, 0, 168), eD, eD, ([], 0, 1, 0, 0, 0, 16, 170), eD, ([], 27, 101, 2, 203, 8, 0, 173), eD, eD, ([], 4, 0, 0, 0, 0, 0, 174), ([], 19, 0, 2, 81, 0, 0, 177), eD],
  [eD, ([], 4, 0, 0, 0, 0, 0, 178), ([], 19, 0, 6, 86, 0, 0, 181), eD, eD, ([], 0, 0, 0, 0, 0, 1, 182), ([], 2, 4, 1, 0, 0, 0, 184), eD, ([], 0, 2, 0, 0, 0, 128, 187), eD, eD, ([], 27, 104, 4, 192, 8, 0, 190), eD, eD, ([true, false, false, false, false], 4, 0, 0, 0, 0, 0, 191), ([], 19, 0, 2, 81, 0, 0, 194)],
  [eD, eD, ([], 4, 0, 0, 0, 0, 0, 195), ([], 19, 0, 6, 86, 0, 0, 198), eD, eD, ([], 4, 0, 0, 0, 0, 0, 199), ([], 19, 0, 7, 87, 0, 0, 202), eD, eD, ([], 27, 106, 2, 197, 8, 0, 205), eD, eD, ([], 4, 0, 0, 0, 0, 0, 206), ([], 19, 0, 0, 79, 0, 0, 209), eD],
  [eD, ([], 27, 64, 0, 178, 5, 0, 212), eD, eD, ([], 15, 1, 218, 0, 0, 0, 215), eD, eD, ([], 0, 1, 0, 0, 0, -7, 217), eD, ([], 29, 0, 0, 0, 0, 0, 218), ([], 4, 0, 0, 0, 0, 0, 219), ([], 19, 0, 3, 82, 0, 0, 222), eD, eD, ([], 27, 125, 0, 204, 10, 0, 225), eD],
  [eD, ([], 4, 0, 0, 0, 0, 0, 226), ([], 19, 0, 6, 86, 0, 0, 229), eD, eD, ([], 28, 123, 1, 205, 0, 0, 232), eD, eD, ([], 29, 0, 0, 0, 0, 0, 233)]]
set_option maxRecDepth 100000 in
theorem ok0 : okM 0 cd0 = true := by decide +kernel
def cd1 : List (List EM) := [[([], 4, 0, 0, 0, 0, 0, 1), ([], 19, 0, 3, 82, 0, 0, 4), eD, eD, ([], 2, 1, 0, 0, 0, 0, 5), ([], 27, 128, 1, 215, 10, 0, 8), eD, eD, ([], 15, 0, 34, 0, 0, 0, 11), eD, eD, ([], 4, 0, 0, 0, 0, 0, 12), ([], 19, 0, 3, 82, 0, 0, 15), eD, eD, ([], 2, 2, 0, 0, 0, 0, 16)],
  [([], 27, 130, 1, 153, 10, 0, 19), eD, eD, ([], 15, 0, 34, 0, 0, 0, 22), eD, eD, ([], 4, 0, 0, 0, 0, 0, 23), ([], 19, 0, 3, 82, 0, 0, 26), eD, eD, ([], 2, 2, 0, 0, 0, 0, 27), ([], 2, 1, 0, 0, 0, 0, 28), ([], 27, 132, 2, 220, 10, 0, 31), eD, eD, ([], 15, 0, 36, 0, 0, 0, 34)],
  [eD, eD, ([], 0, 0, 0, 0, 0, -1, 35), ([], 29, 0, 0, 0, 0, 0, 36), ([], 4, 3, 0, 0, 0, 0, 37), ([], 27, 77, 0, 154, 7, 0, 40), eD, eD, ([], 15, 1, 46, 0, 0, 0, 43), eD, eD, ([], 0, 1, 0, 0, 0, -3, 45), eD, ([], 29, 0, 0, 0, 0, 0, 46), ([], 4, 0, 0, 0, 0, 0, 47), ([], 19, 0, 3, 82, 0, 0, 50)],
  [eD, eD, ([], 2, 2, 0, 0, 0, 0, 51), ([], 4, 3, 0, 0, 0, 0, 52), ([], 2, 1, 0, 0, 0, 0, 53), ([], 27, 134, 3, 221, 10, 0, 56), eD, eD, ([], 0, 1, 0, 0, 0, -9, 58), eD, ([], 16, 0, 64, 0, 0, 0, 61), eD, eD, ([], 0, 1, 0, 0, 0, -4, 63), eD, ([], 29, 0, 0, 0, 0, 0, 64)],
  [([], 2, 1, 0, 0, 0, 0, 65), ([], 28, 122, 1, 161, 0, 0, 68), eD, eD, ([], 5, 4, 1, 0, 0, 0, 70), eD, ([], 4, 0, 0, 0, 0, 0, 71), ([], 19, 0, 3, 82, 0, 0, 74), eD, eD, ([], 2, 1, 0, 0, 0, 0, 75), ([], 27, 124, 1, 195, 10, 0, 78), eD, eD, ([], 5, 5, 1, 0, 0, 0, 80), eD],
  [([], 4, 0, 0, 0, 0, 0, 81), ([], 19, 0, 2, 81, 0, 0, 84), eD, eD, ([], 2, 4, 1, 0, 0, 0, 86), eD, ([], 27, 84, 1, 209, 8, 0, 89), eD, eD, ([], 15, 0, 95, 0, 0, 0, 92), eD, eD, ([], 0, 1, 0, 0, 0, -5, 94), eD, ([], 29, 0, 0, 0, 0, 0, 95), ([], 4, 0, 0, 0, 0, 0, 96)],
  [([], 19, 0, 1, 80, 0, 0, 99), eD, eD, ([], 0, 0, 0, 0, 0, 0, 100), ([], 20, 9, 4, 18, 0, 0, 103), eD, eD, ([], 4, 0, 0, 0, 0, 0, 104), ([], 2, 2, 0, 0, 0, 0, 105), ([], 4, 3, 0, 0, 0, 0, 106), ([], 27, 2, 2, 159, 0, 0, 109), eD, eD, ([], 15, 1, 115, 0, 0, 0, 112), eD, eD],
  [([], 0, 1, 0, 0, 0, -6, 114), eD, ([], 29, 0, 0, 0, 0, 0, 115), ([], 4, 0, 0, 0, 0, 0, 116), ([], 2, 2, 0, 0, 0, 0, 117), ([], 4, 3, 0, 0, 0, 0, 118), ([], 27, 4, 2, 175, 0, 0, 121), eD, eD, ([], 15, 1, 127, 0, 0, 0, 124), eD, eD, ([], 0, 1, 0, 0, 0, -7, 126), eD, ([], 29, 0, 0, 0, 0, 0, 127), ([], 4, 0, 0, 0, 0, 0, 128)],
  [([], 19, 0, 2, 81, 0, 0, 131), eD, eD, ([], 4, 0, 0, 0, 0, 0, 132), ([], 19, 0, 6, 86, 0, 0, 135), eD, eD, ([], 4, 0, 0, 0, 0, 0, 136), ([], 19, 0, 7, 87, 0, 0, 139), eD, eD, ([], 4, 3, 0, 0, 0, 0, 140), ([], 27, 100, 3, 200, 8, 0, 143), eD, eD, ([], 4, 0, 0, 0, 0, 0, 144)],
  [([], 19, 0, 2, 81, 0, 0, 147), eD, eD, ([], 4, 0, 0, 0, 0, 0, 148), ([], 19, 0, 6, 86, 0, 0, 151), eD, eD, ([], 2, 4, 1, 0, 0, 0, 153), eD, ([], 27, 105, 2, 222, 8, 0, 156), eD, eD, ([], 4, 0, 0, 0, 0, 0, 157), ([], 19, 0, 2, 81, 0, 0, 160), eD, eD],
  [([], 4, 0, 0, 0, 0, 0, 161), ([], 19, 0, 6, 86, 0, 0, 164), eD, eD, ([], 4, 0, 0, 0, 0, 0, 165), ([], 19, 0, 7, 87, 0, 0, 168), eD, eD, ([], 27, 106, 2, 197, 8, 0, 171), eD, eD, ([], 4, 0, 0, 0, 0, 0, 172), ([], 19, 0, 0, 79, 0, 0, 175), eD, eD, ([], 27, 64, 0, 178, 5, 0, 178)],
  [eD, eD, ([], 15, 1, 184, 0, 0, 0, 181), eD, eD, ([], 0, 1, 0, 0, 0, -7, 183), eD, ([], 29, 0, 0, 0, 0, 0, 184), ([], 4, 0, 0, 0, 0, 0, 185), ([], 19, 0, 2, 81, 0, 0, 188), eD, eD, ([], 2, 4, 1, 0, 0, 0, 190), eD, ([], 2, 5, 1, 0, 0, 0, 192), eD],
  [([], 27, 107, 2, 218, 8, 0, 195), eD, eD, ([], 4, 0, 0, 0, 0, 0, 196), ([], 19, 0, 0, 79, 0, 0, 199), eD, eD, ([], 27, 64, 0, 178, 5, 0, 202), eD, eD, ([], 15, 1, 208, 0, 0, 0, 205), eD, eD, ([], 0, 1, 0, 0, 0, -7, 207), eD, ([], 29, 0, 0, 0, 0, 0, 208)],
  [([], 4, 0, 0, 0, 0, 0, 209), ([], 19, 0, 3, 82, 0, 0, 212), eD, eD, ([], 27, 125, 0, 204, 10, 0, 215), eD, eD, ([], 4, 0, 0, 0, 0, 0, 216), ([], 19, 0, 6, 86, 0, 0, 219), eD, eD, ([], 28, 123, 1, 205, 0, 0, 222), eD, eD, ([], 29, 0, 0, 0, 0, 0, 223)]]
set_option maxRecDepth 100000 in
theorem ok1 : okM 1 cd1 = true := by decide +kernel
def cd2 : List (List EM) := [[([], 4, 0, 0, 0, 0, 0, 1), ([], 19, 0, 3, 82, 0, 0, 4), eD, eD, ([], 2, 1, 0, 0, 0, 0, 5), ([], 4, 0, 0, 0, 0, 0, 6), ([], 19, 0, 4, 83, 0, 0, 9), eD, eD, ([], 19, 6, 2, 72, 0, 0, 12), eD, eD, ([], 27, 127, 2, 160, 10, 0, 15), eD, eD, ([], 4, 0, 0, 0, 0, 0, 16)],
  [([], 19, 0, 4, 83, 0, 0, 19), eD, eD, ([], 2, 1, 0, 0, 0, 0, 20), ([], 15, 0, 41, 0, 0, 0, 23), eD, eD, ([], 4, 0, 0, 0, 0, 0, 24), ([], 19, 0, 2, 81, 0, 0, 27), eD, eD, ([], 2, 1, 0, 0, 0, 0, 28), ([], 28, 122, 1, 161, 0, 0, 31), eD, eD, ([], 27, 85, 1, 162, 8, 0, 34)],
  [eD, eD, ([], 15, 0, 41, 0, 0, 0, 37), eD, eD, ([], 0, 0, 0, 0, 0, 1, 38), ([], 17, 0, 42, 0, 0, 0, 41), eD, eD, ([], 0, 0, 0, 0, 0, 0, 42), ([true, false, true], 27, 68, 1, 163, 6, 0, 45), eD, eD, ([], 4, 0, 0, 0, 0, 0, 46), ([], 4, 2, 0, 0, 0, 0, 47), ([], 19, 7, 1, 43, 0, 0, 50)],
  [eD, eD, ([], 28, 79, 1, 164, 0, 0, 53), eD, eD, ([], 27, 3, 1, 165, 0, 0, 56), eD, eD, ([], 15, 3, 70, 0, 0, 0, 59), eD, eD, ([], 4, 0, 0, 0, 0, 0, 60), ([], 19, 0, 4, 83, 0, 0, 63), eD, eD, ([], 0, 0, 0, 0, 0, 1, 64)],
  [([], 27, 69, 1, 169, 6, 0, 67), eD, eD, ([], 15, 0, 74, 0, 0, 0, 70), eD, eD, ([], 0, 0, 0, 0, 0, 1, 71), ([], 17, 0, 75, 0, 0, 0, 74), eD, eD, ([], 0, 0, 0, 0, 0, 0, 75), ([], 29, 0, 0, 0, 1, 0, 76)]]
set_option maxRecDepth 100000 in
theorem ok2 : okM 2 cd2 = true := by decide +kernel
def cd3 : List (List EM) := [[([], 4, 0, 0, 0, 0, 0, 1), ([], 19, 0, 4, 83, 0, 0, 4), eD, eD, ([], 19, 6, 2, 72, 0, 0, 7), eD, eD, ([], 7, 2, 0, 0, 0, 0, 8), ([], 0, 0, 0, 0, 0, 0, 9), ([], 5, 3, 0, 0, 0, 0, 10), ([true, true, true, true, false, false], 2, 3, 0, 0, 0, 0, 11), ([], 2, 1, 0, 0, 0, 0, 12), ([], 9, 0, 0, 0, 0, 0, 13), ([], 4, 2, 0, 0, 0, 0, 14), ([], 27, 31, 0, 166, 3, 0, 17), eD],
  [eD, ([], 16, 4, 84, 0, 0, 0, 20), eD, eD, ([], 0, 0, 0, 0, 0, 1, 21), ([], 5, 4, 1, 0, 0, 0, 23), eD, ([], 0, 0, 0, 0, 0, 0, 24), ([], 5, 5, 1, 0, 0, 0, 26), eD, ([true, true, true, true, true, true], 2, 5, 1, 0, 0, 0, 28), eD, ([], 2, 1, 0, 0, 0, 0, 29), ([], 16, 3, 71, 0, 0, 0, 32), eD, eD],
  [([], 2, 4, 1, 0, 0, 0, 34), eD, ([], 15, 0, 62, 0, 0, 0, 37), eD, eD, ([], 4, 0, 0, 0, 0, 0, 38), ([], 19, 0, 0, 79, 0, 0, 41), eD, eD, ([], 4, 2, 0, 0, 0, 0, 42), ([], 2, 3, 0, 0, 0, 0, 43), ([], 2, 5, 1, 0, 0, 0, 45), eD, ([], 9, 0, 0, 0, 0, 0, 46), ([], 27, 32, 1, 167, 3, 0, 49), eD],
  [eD, ([], 27, 54, 1, 168, 5, 0, 52), eD, eD, ([], 0, 2, 0, 0, 0, 128, 55), eD, eD, ([], 16, 3, 62, 0, 0, 0, 58), eD, eD, ([], 0, 0, 0, 0, 0, 1, 59), ([], 17, 0, 63, 0, 0, 0, 62), eD, eD, ([], 0, 0, 0, 0, 0, 0, 63), ([], 5, 4, 1, 0, 0, 0, 65)],
  [eD, ([], 8, 5, 0, 0, 0, 1, 68), eD, eD, ([], 17, 0, 26, 0, 0, 0, 71), eD, eD, ([], 2, 4, 1, 0, 0, 0, 73), eD, ([], 15, 0, 78, 0, 0, 0, 76), eD, eD, ([], 2, 3, 0, 0, 0, 0, 77), ([], 29, 0, 0, 0, 0, 0, 78), ([], 8, 3, 0, 0, 0, 2, 81), eD],
  [eD, ([], 17, 0, 10, 0, 0, 0, 84), eD, eD, ([], 0, 0, 0, 0, 0, -1, 85), ([], 29, 0, 0, 0, 0, 0, 86)]]
set_option maxRecDepth 100000 in
theorem ok3 : okM 3 cd3 = true := by decide +kernel
def cd4 : List (List EM) := [[([], 4, 0, 0, 0, 0, 0, 1), ([], 27, 12, 0, 176, 0, 0, 4), eD, eD, ([], 15, 1, 9, 0, 0, 0, 7), eD, eD, ([], 0, 0, 0, 0, 0, 0, 8), ([], 29, 0, 0, 0, 1, 0, 9), ([], 4, 0, 0, 0, 0, 0, 10), ([], 19, 0, 1, 80, 0, 0, 13), eD, eD, ([], 19, 9, 4, 18, 0, 0, 16), eD, eD],
  [([], 15, 0, 39, 0, 0, 0, 19), eD, eD, ([], 4, 0, 0, 0, 0, 0, 20), ([], 19, 0, 0, 79, 0, 0, 23), eD, eD, ([], 4, 0, 0, 0, 0, 0, 24), ([], 19, 0, 1, 80, 0, 0, 27), eD, eD, ([], 19, 9, 4, 18, 0, 0, 30), eD, eD, ([], 28, 109, 1, 179, 0, 0, 33), eD],
  [eD, ([], 0, 2, 0, 0, 0, 128, 36), eD, eD, ([], 27, 60, 2, 180, 5, 0, 39), eD, eD, ([], 0, 0, 0, 0, 0, 0, 40), ([], 5, 3, 0, 0, 0, 0, 41), ([true, true, true, true, false], 2, 3, 0, 0, 0, 0, 42), ([], 4, 0, 0, 0, 0, 0, 43), ([], 19, 0, 4, 83, 0, 0, 46), eD, eD, ([], 19, 6, 3, 74, 0, 0, 49), eD],
  [eD, ([], 19, 3, 1, 29, 0, 0, 52), eD, eD, ([], 16, 3, 85, 0, 0, 0, 55), eD, eD, ([], 4, 0, 0, 0, 0, 0, 56), ([], 19, 0, 0, 79, 0, 0, 59), eD, eD, ([], 4, 0, 0, 0, 0, 0, 60), ([], 19, 0, 4, 83, 0, 0, 63), eD, eD, ([], 19, 6, 3, 74, 0, 0, 66)],
  [eD, eD, ([], 2, 3, 0, 0, 0, 0, 67), ([], 27, 26, 1, 181, 3, 0, 70), eD, eD, ([], 28, 109, 1, 179, 0, 0, 73), eD, eD, ([], 0, 2, 0, 0, 0, 128, 76), eD, eD, ([], 27, 60, 2, 180, 5, 0, 79), eD, eD, ([], 8, 3, 0, 0, 0, 1, 82)],
  [eD, eD, ([], 17, 0, 41, 0, 0, 0, 85), eD, eD, ([], 4, 0, 0, 0, 0, 0, 86), ([], 19, 0, 0, 79, 0, 0, 89), eD, eD, ([], 27, 64, 0, 178, 5, 0, 92), eD, eD, ([], 15, 0, 105, 0, 0, 0, 95), eD, eD, ([], 4, 0, 0, 0, 0, 0, 96)],
  [([], 19, 0, 4, 83, 0, 0, 99), eD, eD, ([], 27, 71, 0, 182, 6, 0, 102), eD, eD, ([], 15, 1, 107, 0, 0, 0, 105), eD, eD, ([], 0, 0, 0, 0, 0, 0, 106), ([], 29, 0, 0, 0, 1, 0, 107), ([], 4, 0, 0, 0, 0, 0, 108), ([], 19, 0, 4, 83, 0, 0, 111), eD, eD, ([], 19, 6, 3, 74, 0, 0, 114)],
  [eD, eD, ([], 19, 3, 1, 29, 0, 0, 117), eD, eD, ([], 15, 5, 129, 0, 0, 0, 120), eD, eD, ([], 2, 1, 0, 0, 0, 0, 121), ([], 15, 0, 129, 0, 0, 0, 124), eD, eD, ([], 4, 0, 0, 0, 0, 0, 125), ([], 2, 1, 0, 0, 0, 0, 126), ([], 27, 5, 1, 189, 0, 0, 129), eD],
  [eD, ([], 0, 0, 0, 0, 0, 0, 130), ([], 5, 3, 0, 0, 0, 0, 131), ([true, true, true, true, false], 2, 3, 0, 0, 0, 0, 132), ([], 4, 0, 0, 0, 0, 0, 133), ([], 19, 0, 4, 83, 0, 0, 136), eD, eD, ([], 19, 6, 3, 74, 0, 0, 139), eD, eD, ([], 19, 3, 1, 29, 0, 0, 142), eD, eD, ([], 16, 3, 172, 0, 0, 0, 145), eD],
  [eD, ([], 4, 0, 0, 0, 0, 0, 146), ([], 19, 0, 4, 83, 0, 0, 149), eD, eD, ([], 19, 6, 2, 72, 0, 0, 152), eD, eD, ([], 4, 0, 0, 0, 0, 0, 153), ([], 19, 0, 4, 83, 0, 0, 156), eD, eD, ([], 19, 6, 3, 74, 0, 0, 159), eD, eD, ([], 2, 3, 0, 0, 0, 0, 160)],
  [([], 27, 26, 1, 181, 3, 0, 163), eD, eD, ([], 27, 25, 1, 199, 3, 0, 166), eD, eD, ([], 8, 3, 0, 0, 0, 1, 169), eD, eD, ([], 17, 0, 131, 0, 0, 0, 172), eD, eD, ([], 4, 0, 0, 0, 0, 0, 173), ([], 4, 2, 0, 0, 0, 0, 174), ([], 19, 7, 1, 43, 0, 0, 177), eD],
  [eD, ([], 28, 79, 1, 164, 0, 0, 180), eD, eD, ([], 27, 3, 1, 165, 0, 0, 183), eD, eD, ([], 5, 3, 0, 0, 0, 0, 184), ([], 2, 1, 0, 0, 0, 0, 185), ([], 15, 1, 192, 0, 0, 0, 188), eD, eD, ([], 0, 0, 0, 0, 0, 2, 189), ([], 17, 0, 193, 0, 0, 0, 192), eD, eD],
  [([], 0, 0, 0, 0, 0, 0, 193), ([], 5, 4, 1, 0, 0, 0, 195), eD, ([true, false, false, true, true], 2, 4, 1, 0, 0, 0, 197), eD, ([], 2, 3, 0, 0, 0, 0, 198), ([], 16, 3, 249, 0, 0, 0, 201), eD, eD, ([], 4, 0, 0, 0, 0, 0, 202), ([], 19, 0, 0, 79, 0, 0, 205), eD, eD, ([], 4, 0, 0, 0, 0, 0, 206), ([], 19, 0, 4, 83, 0, 0, 209), eD],
  [eD, ([], 19, 6, 2, 72, 0, 0, 212), eD, eD, ([], 2, 4, 1, 0, 0, 0, 214), eD, ([], 27, 32, 1, 167, 3, 0, 217), eD, eD, ([], 27, 54, 1, 168, 5, 0, 220), eD, eD, ([], 15, 1, 243, 0, 0, 0, 223), eD, eD, ([], 4, 0, 0, 0, 0, 0, 224)],
  [([], 19, 0, 0, 79, 0, 0, 227), eD, eD, ([], 4, 0, 0, 0, 0, 0, 228), ([], 19, 0, 4, 83, 0, 0, 231), eD, eD, ([], 19, 6, 2, 72, 0, 0, 234), eD, eD, ([], 2, 4, 1, 0, 0, 0, 236), eD, ([], 27, 32, 1, 167, 3, 0, 239), eD, eD, ([], 0, 0, 0, 0, 0, 1, 240)],
  [([], 27, 57, 2, 177, 5, 0, 243), eD, eD, ([], 8, 4, 0, 0, 0, 1, 246), eD, eD, ([], 17, 0, 195, 0, 0, 0, 249), eD, eD, ([], 4, 0, 0, 0, 0, 0, 250), ([], 4, 0, 0, 0, 0, 0, 251), ([], 19, 0, 4, 83, 0, 0, 254), eD, eD, ([], 19, 6, 2, 72, 0, 0, 257), eD],
  [eD, ([], 2, 3, 0, 0, 0, 0, 258), ([], 27, 32, 1, 167, 3, 0, 261), eD, eD, ([], 20, 0, 6, 86, 0, 0, 264), eD, eD, ([], 4, 0, 0, 0, 0, 0, 265), ([], 4, 0, 0, 0, 0, 0, 266), ([], 19, 0, 4, 83, 0, 0, 269), eD, eD, ([], 19, 6, 2, 72, 0, 0, 272), eD, eD],
  [([], 2, 3, 0, 0, 0, 0, 273), ([], 0, 0, 0, 0, 0, 2, 274), ([], 9, 0, 0, 0, 0, 0, 275), ([], 27, 32, 1, 167, 3, 0, 278), eD, eD, ([], 20, 0, 7, 87, 0, 0, 281), eD, eD, ([], 0, 0, 0, 0, 0, 1, 282), ([], 29, 0, 0, 0, 1, 0, 283)]]
set_option maxRecDepth 100000 in
theorem ok4 : okM 4 cd4 = true := by decide +kernel
def cd5 : List (List EM) := [[([], 2, 1, 0, 0, 0, 0, 1), ([], 28, 122, 1, 161, 0, 0, 4), eD, eD, ([], 5, 2, 0, 0, 0, 0, 5), ([], 4, 0, 0, 0, 0, 0, 6), ([], 19, 0, 2, 81, 0, 0, 9), eD, eD, ([], 2, 2, 0, 0, 0, 0, 10), ([], 4, 0, 0, 0, 0, 0, 11), ([], 19, 0, 4, 83, 0, 0, 14), eD, eD, ([], 19, 6, 5, 78, 0, 0, 17), eD],
  [eD, ([], 4, 0, 0, 0, 0, 0, 18), ([], 19, 0, 4, 83, 0, 0, 21), eD, eD, ([], 0, 0, 0, 0, 0, 0, 22), ([], 27, 70, 1, 190, 6, 0, 25), eD, eD, ([], 4, 0, 0, 0, 0, 0, 26), ([], 19, 0, 2, 81, 0, 0, 29), eD, eD, ([], 2, 2, 0, 0, 0, 0, 30), ([], 27, 88, 1, 191, 8, 0, 33), eD],
  [eD, ([], 0, 2, 0, 0, 0, 128, 36), eD, eD, ([], 4, 0, 0, 0, 0, 0, 37), ([], 19, 0, 4, 83, 0, 0, 40), eD, eD, ([], 19, 6, 3, 74, 0, 0, 43), eD, eD, ([], 19, 3, 1, 29, 0, 0, 46), eD, eD, ([], 9, 2, 0, 0, 0, 0, 47), ([], 9, 0, 0, 0, 0, 0, 48)],
  [([], 27, 104, 4, 192, 8, 0, 51), eD, eD, ([], 4, 0, 0, 0, 0, 0, 52), ([], 19, 0, 2, 81, 0, 0, 55), eD, eD, ([], 2, 2, 0, 0, 0, 0, 56), ([], 4, 0, 0, 0, 0, 0, 57), ([], 19, 0, 5, 84, 0, 0, 60), eD, eD, ([], 27, 103, 2, 194, 8, 0, 63), eD, eD, ([], 4, 0, 0, 0, 0, 0, 64)],
  [([], 19, 0, 2, 81, 0, 0, 67), eD, eD, ([], 2, 2, 0, 0, 0, 0, 68), ([], 4, 0, 0, 0, 0, 0, 69), ([], 19, 0, 3, 82, 0, 0, 72), eD, eD, ([], 2, 1, 0, 0, 0, 0, 73), ([], 27, 124, 1, 195, 10, 0, 76), eD, eD, ([], 27, 106, 2, 197, 8, 0, 79), eD, eD, ([], 31, 0, 0, 0, 0, 0, 80)]]
set_option maxRecDepth 100000 in
theorem ok5 : okM 5 cd5 = true := by decide +kernel
def cd6 : List (List EM) := [[([], 4, 0, 0, 0, 0, 0, 1), ([], 19, 0, 3, 82, 0, 0, 4), eD, eD, ([], 2, 1, 0, 0, 0, 0, 5), ([], 27, 131, 1, 208, 10, 0, 8), eD, eD, ([], 15, 0, 23, 0, 0, 0, 11), eD, eD, ([], 2, 3, 0, 0, 0, 0, 12), ([], 0, 0, 0, 0, 0, 1, 13), ([], 16, 2, 23, 0, 0, 0, 16), eD, eD],
  [([], 2, 3, 0, 0, 0, 0, 17), ([], 0, 2, 0, 0, 0, 1024, 20), eD, eD, ([], 16, 5, 25, 0, 0, 0, 23), eD, eD, ([], 0, 0, 0, 0, 0, -1, 24), ([], 29, 0, 0, 0, 0, 0, 25), ([], 2, 1, 0, 0, 0, 0, 26), ([], 28, 122, 1, 161, 0, 0, 29), eD, eD, ([], 5, 5, 1, 0, 0, 0, 31), eD, ([], 4, 0, 0, 0, 0, 0, 32)],
  [([], 19, 0, 2, 81, 0, 0, 35), eD, eD, ([], 2, 5, 1, 0, 0, 0, 37), eD, ([], 27, 88, 1, 191, 8, 0, 40), eD, eD, ([], 5, 6, 1, 0, 0, 0, 42), eD, ([], 2, 2, 0, 0, 0, 0, 43), ([], 15, 2, 52, 0, 0, 0, 46), eD, eD, ([], 2, 2, 0, 0, 0, 0, 47), ([], 2, 6, 1, 0, 0, 0, 49)],
  [eD, ([], 16, 5, 54, 0, 0, 0, 52), eD, eD, ([], 0, 0, 0, 0, 0, -1, 53), ([], 29, 0, 0, 0, 0, 0, 54), ([], 4, 0, 0, 0, 0, 0, 55), ([], 19, 0, 2, 81, 0, 0, 58), eD, eD, ([], 2, 5, 1, 0, 0, 0, 60), eD, ([], 27, 84, 1, 209, 8, 0, 63), eD, eD, ([], 15, 0, 69, 0, 0, 0, 66)],
  [eD, eD, ([], 0, 1, 0, 0, 0, -5, 68), eD, ([], 29, 0, 0, 0, 0, 0, 69), ([], 2, 6, 1, 0, 0, 0, 71), eD, ([], 2, 2, 0, 0, 0, 0, 72), ([], 2, 3, 0, 0, 0, 0, 73), ([], 9, 0, 0, 0, 0, 0, 74), ([], 34, 0, 0, 3, 0, 0, 77), eD, eD, ([], 5, 6, 1, 0, 0, 0, 79), eD, ([], 4, 0, 0, 0, 0, 0, 80)],
  [([], 2, 1, 0, 0, 0, 0, 81), ([], 27, 10, 1, 210, 0, 0, 84), eD, eD, ([], 4, 0, 0, 0, 0, 0, 85), ([], 19, 0, 1, 80, 0, 0, 88), eD, eD, ([], 0, 0, 0, 0, 0, 0, 89), ([], 20, 9, 4, 18, 0, 0, 92), eD, eD, ([], 2, 6, 1, 0, 0, 0, 94), eD, ([], 0, 2, 0, 0, 0, 128, 97), eD],
  [eD, ([], 9, 0, 0, 0, 0, 0, 98), ([], 0, 0, 0, 0, 0, 1, 99), ([], 9, 1, 0, 0, 0, 0, 100), ([], 0, 2, 0, 0, 0, 128, 103), eD, eD, ([], 10, 0, 0, 0, 0, 0, 104), ([], 4, 0, 0, 0, 0, 0, 105), ([], 19, 0, 4, 83, 0, 0, 108), eD, eD, ([], 19, 6, 2, 72, 0, 0, 111), eD, eD, ([], 19, 3, 1, 29, 0, 0, 114)],
  [eD, eD, ([], 9, 1, 0, 0, 0, 0, 115), ([], 5, 7, 1, 0, 0, 0, 117), eD, ([], 2, 7, 1, 0, 0, 0, 119), eD, ([], 15, 5, 137, 0, 0, 0, 122), eD, eD, ([], 4, 0, 0, 0, 0, 0, 123), ([], 19, 0, 4, 83, 0, 0, 126), eD, eD, ([], 2, 7, 1, 0, 0, 0, 128), eD],
  [([], 27, 69, 1, 169, 6, 0, 131), eD, eD, ([], 15, 1, 137, 0, 0, 0, 134), eD, eD, ([], 0, 1, 0, 0, 0, -6, 136), eD, ([], 29, 0, 0, 0, 0, 0, 137), ([], 4, 0, 0, 0, 0, 0, 138), ([], 27, 12, 0, 176, 0, 0, 141), eD, eD, ([], 15, 1, 147, 0, 0, 0, 144), eD, eD],
  [([], 0, 1, 0, 0, 0, -7, 146), eD, ([], 29, 0, 0, 0, 0, 0, 147), ([], 0, 0, 0, 0, 0, 0, 148), ([], 5, 8, 1, 0, 0, 0, 150), eD, ([true, true, true, true, true, false, true, false, true], 2, 8, 1, 0, 0, 0, 152), eD, ([], 2, 3, 0, 0, 0, 0, 153), ([], 16, 3, 201, 0, 0, 0, 156), eD, eD, ([], 4, 0, 0, 0, 0, 0, 157), ([], 19, 0, 0, 79, 0, 0, 160), eD, eD],
  [([], 4, 0, 0, 0, 0, 0, 161), ([], 19, 0, 4, 83, 0, 0, 164), eD, eD, ([], 2, 2, 0, 0, 0, 0, 165), ([], 2, 8, 1, 0, 0, 0, 167), eD, ([], 9, 0, 0, 0, 0, 0, 168), ([], 0, 2, 0, 0, 0, 128, 171), eD, eD, ([], 10, 0, 0, 0, 0, 0, 172), ([], 27, 70, 1, 190, 6, 0, 175), eD, eD, ([], 28, 109, 1, 179, 0, 0, 178)],
  [eD, eD, ([], 2, 2, 0, 0, 0, 0, 179), ([], 2, 8, 1, 0, 0, 0, 181), eD, ([], 9, 0, 0, 0, 0, 0, 182), ([], 0, 2, 0, 0, 0, 128, 185), eD, eD, ([], 10, 1, 0, 0, 0, 0, 186), ([], 9, 0, 0, 0, 0, 0, 187), ([], 2, 4, 1, 0, 0, 0, 189), eD, ([], 2, 8, 1, 0, 0, 0, 191), eD, ([], 9, 0, 0, 0, 0, 0, 192)],
  [([], 27, 57, 2, 177, 5, 0, 195), eD, eD, ([], 8, 8, 0, 0, 0, 1, 198), eD, eD, ([], 17, 0, 150, 0, 0, 0, 201), eD, eD, ([], 4, 0, 0, 0, 0, 0, 202), ([], 19, 0, 0, 79, 0, 0, 205), eD, eD, ([], 27, 64, 0, 178, 5, 0, 208), eD, eD],
  [([], 15, 0, 221, 0, 0, 0, 211), eD, eD, ([], 4, 0, 0, 0, 0, 0, 212), ([], 19, 0, 4, 83, 0, 0, 215), eD, eD, ([], 27, 71, 0, 182, 6, 0, 218), eD, eD, ([], 15, 1, 224, 0, 0, 0, 221), eD, eD, ([], 0, 1, 0, 0, 0, -7, 223), eD, ([], 29, 0, 0, 0, 0, 0, 224)],
  [([], 4, 0, 0, 0, 0, 0, 225), ([], 2, 1, 0, 0, 0, 0, 226), ([], 4, 0, 0, 0, 0, 0, 227), ([], 19, 0, 4, 83, 0, 0, 230), eD, eD, ([], 19, 6, 5, 78, 0, 0, 233), eD, eD, ([], 4, 0, 0, 0, 0, 0, 234), ([], 19, 0, 4, 83, 0, 0, 237), eD, eD, ([], 0, 0, 0, 0, 0, 0, 238), ([], 27, 70, 1, 190, 6, 0, 241), eD],
  [eD, ([], 2, 6, 1, 0, 0, 0, 243), eD, ([], 27, 11, 4, 211, 0, 0, 246), eD, eD, ([], 15, 0, 254, 0, 0, 0, 249), eD, eD, ([], 2, 6, 1, 0, 0, 0, 251), eD, ([], 17, 0, 256, 0, 0, 0, 254), eD, eD, ([], 0, 1, 0, 0, 0, -7, 256), eD],
  [([], 29, 0, 0, 0, 0, 0, 257)]]
set_option maxRecDepth 100000 in
theorem ok6 : okM 6 cd6 = true := by decide +kernel
def cd7 : List (List EM) := [[([], 4, 0, 0, 0, 0, 0, 1), ([], 19, 0, 3, 82, 0, 0, 4), eD, eD, ([], 2, 1, 0, 0, 0, 0, 5), ([], 27, 131, 1, 208, 10, 0, 8), eD, eD, ([], 15, 1, 13, 0, 0, 0, 11), eD, eD, ([], 0, 0, 0, 0, 0, -1, 12), ([], 29, 0, 0, 0, 0, 0, 13), ([], 2, 1, 0, 0, 0, 0, 14), ([], 28, 122, 1, 161, 0, 0, 17), eD],
  [eD, ([], 5, 3, 0, 0, 0, 0, 18), ([], 2, 2, 0, 0, 0, 0, 19), ([], 15, 2, 34, 0, 0, 0, 22), eD, eD, ([], 2, 2, 0, 0, 0, 0, 23), ([], 4, 0, 0, 0, 0, 0, 24), ([], 19, 0, 2, 81, 0, 0, 27), eD, eD, ([], 2, 3, 0, 0, 0, 0, 28), ([], 27, 88, 1, 191, 8, 0, 31), eD, eD, ([], 16, 5, 36, 0, 0, 0, 34)],
  [eD, eD, ([], 0, 0, 0, 0, 0, -1, 35), ([], 29, 0, 0, 0, 0, 0, 36), ([], 4, 0, 0, 0, 0, 0, 37), ([], 19, 0, 2, 81, 0, 0, 40), eD, eD, ([], 2, 3, 0, 0, 0, 0, 41), ([], 27, 84, 1, 209, 8, 0, 44), eD, eD, ([], 15, 0, 50, 0, 0, 0, 47), eD, eD, ([], 0, 1, 0, 0, 0, -5, 49)],
  [eD, ([], 29, 0, 0, 0, 0, 0, 50), ([], 4, 0, 0, 0, 0, 0, 51), ([], 2, 1, 0, 0, 0, 0, 52), ([], 27, 10, 1, 210, 0, 0, 55), eD, eD, ([], 2, 2, 0, 0, 0, 0, 56), ([], 0, 2, 0, 0, 0, 128, 59), eD, eD, ([], 9, 0, 0, 0, 0, 0, 60), ([], 0, 0, 0, 0, 0, 1, 61), ([], 9, 1, 0, 0, 0, 0, 62), ([], 0, 2, 0, 0, 0, 128, 65), eD],
  [eD, ([], 10, 0, 0, 0, 0, 0, 66), ([], 5, 4, 1, 0, 0, 0, 68), eD, ([], 4, 0, 0, 0, 0, 0, 69), ([], 19, 0, 4, 83, 0, 0, 72), eD, eD, ([], 19, 6, 2, 72, 0, 0, 75), eD, eD, ([], 19, 3, 1, 29, 0, 0, 78), eD, eD, ([], 2, 4, 1, 0, 0, 0, 80), eD],
  [([], 9, 1, 0, 0, 0, 0, 81), ([], 5, 5, 1, 0, 0, 0, 83), eD, ([], 4, 0, 0, 0, 0, 0, 84), ([], 27, 12, 0, 176, 0, 0, 87), eD, eD, ([], 15, 1, 93, 0, 0, 0, 90), eD, eD, ([], 0, 1, 0, 0, 0, -7, 92), eD, ([], 29, 0, 0, 0, 0, 0, 93), ([], 4, 0, 0, 0, 0, 0, 94), ([], 2, 1, 0, 0, 0, 0, 95), ([], 2, 4, 1, 0, 0, 0, 97)],
  [eD, ([], 15, 5, 114, 0, 0, 0, 100), eD, eD, ([], 4, 0, 0, 0, 0, 0, 101), ([], 19, 0, 4, 83, 0, 0, 104), eD, eD, ([], 19, 6, 4, 76, 0, 0, 107), eD, eD, ([], 15, 0, 114, 0, 0, 0, 110), eD, eD, ([], 0, 0, 0, 0, 0, 1, 111), ([], 17, 0, 115, 0, 0, 0, 114)],
  [eD, eD, ([], 0, 0, 0, 0, 0, 0, 115), ([true, false, true, false, true, true], 2, 4, 1, 0, 0, 0, 117), eD, ([], 15, 5, 134, 0, 0, 0, 120), eD, eD, ([], 4, 0, 0, 0, 0, 0, 121), ([], 19, 0, 4, 83, 0, 0, 124), eD, eD, ([], 19, 6, 2, 72, 0, 0, 127), eD, eD, ([], 0, 0, 0, 0, 0, 0, 128)],
  [([], 27, 26, 1, 181, 3, 0, 131), eD, eD, ([], 17, 0, 135, 0, 0, 0, 134), eD, eD, ([], 0, 0, 0, 0, 0, 0, 135), ([true, false, true, false, true, true], 2, 2, 0, 0, 0, 0, 136), ([], 27, 11, 4, 211, 0, 0, 139), eD, eD, ([], 15, 1, 145, 0, 0, 0, 142), eD, eD, ([], 0, 1, 0, 0, 0, -7, 144), eD],
  [([], 29, 0, 0, 0, 0, 0, 145), ([], 4, 0, 0, 0, 0, 0, 146), ([], 19, 0, 4, 83, 0, 0, 149), eD, eD, ([], 2, 4, 1, 0, 0, 0, 151), eD, ([], 27, 73, 1, 213, 6, 0, 154), eD, eD, ([], 15, 0, 162, 0, 0, 0, 157), eD, eD, ([], 2, 5, 1, 0, 0, 0, 159), eD, ([], 17, 0, 164, 0, 0, 0, 162)],
  [eD, eD, ([], 0, 1, 0, 0, 0, -7, 164), eD, ([], 29, 0, 0, 0, 0, 0, 165)]]
set_option maxRecDepth 100000 in
theorem ok7 : okM 7 cd7 = true := by decide +kernel
def cd8 : List (List EM) := [[([], 4, 0, 0, 0, 0, 0, 1), ([], 19, 0, 3, 82, 0, 0, 4), eD, eD, ([], 2, 1, 0, 0, 0, 0, 5), ([], 27, 128, 1, 215, 10, 0, 8), eD, eD, ([], 15, 1, 13, 0, 0, 0, 11), eD, eD, ([], 0, 0, 0, 0, 0, -1, 12), ([], 29, 0, 0, 0, 0, 0, 13), ([], 2, 1, 0, 0, 0, 0, 14), ([], 28, 122, 1, 161, 0, 0, 17), eD],
  [eD, ([], 5, 2, 0, 0, 0, 0, 18), ([], 4, 0, 0, 0, 0, 0, 19), ([], 19, 0, 2, 81, 0, 0, 22), eD, eD, ([], 2, 2, 0, 0, 0, 0, 23), ([], 27, 83, 1, 216, 8, 0, 26), eD, eD, ([], 15, 0, 45, 0, 0, 0, 29), eD, eD, ([], 4, 0, 0, 0, 0, 0, 30), ([], 19, 0, 3, 82, 0, 0, 33), eD],
  [eD, ([], 2, 1, 0, 0, 0, 0, 34), ([], 0, 0, 0, 0, 0, 0, 35), ([], 27, 135, 2, 217, 10, 0, 38), eD, eD, ([], 0, 1, 0, 0, 0, -9, 40), eD, ([], 16, 0, 45, 0, 0, 0, 43), eD, eD, ([], 0, 0, 0, 0, 0, -1, 44), ([], 29, 0, 0, 0, 0, 0, 45), ([true, true, true], 4, 0, 0, 0, 0, 0, 46), ([], 19, 0, 2, 81, 0, 0, 49), eD],
  [eD, ([], 2, 2, 0, 0, 0, 0, 50), ([], 27, 84, 1, 209, 8, 0, 53), eD, eD, ([], 15, 0, 59, 0, 0, 0, 56), eD, eD, ([], 0, 1, 0, 0, 0, -5, 58), eD, ([], 29, 0, 0, 0, 0, 0, 59), ([], 4, 0, 0, 0, 0, 0, 60), ([], 2, 1, 0, 0, 0, 0, 61), ([], 27, 10, 1, 210, 0, 0, 64), eD, eD],
  [([], 4, 0, 0, 0, 0, 0, 65), ([], 27, 12, 0, 176, 0, 0, 68), eD, eD, ([], 15, 1, 74, 0, 0, 0, 71), eD, eD, ([], 0, 1, 0, 0, 0, -7, 73), eD, ([], 29, 0, 0, 0, 0, 0, 74), ([], 4, 0, 0, 0, 0, 0, 75), ([], 19, 0, 2, 81, 0, 0, 78), eD, eD, ([], 2, 2, 0, 0, 0, 0, 79), ([], 4, 0, 0, 0, 0, 0, 80)],
  [([], 19, 0, 3, 82, 0, 0, 83), eD, eD, ([], 2, 1, 0, 0, 0, 0, 84), ([], 27, 124, 1, 195, 10, 0, 87), eD, eD, ([], 27, 107, 2, 218, 8, 0, 90), eD, eD, ([], 4, 0, 0, 0, 0, 0, 91), ([], 19, 0, 0, 79, 0, 0, 94), eD, eD, ([], 27, 64, 0, 178, 5, 0, 97), eD],
  [eD, ([], 15, 0, 111, 0, 0, 0, 100), eD, eD, ([], 4, 0, 0, 0, 0, 0, 101), ([], 19, 0, 4, 83, 0, 0, 104), eD, eD, ([], 0, 0, 0, 0, 0, 0, 105), ([], 27, 73, 1, 213, 6, 0, 108), eD, eD, ([], 15, 1, 114, 0, 0, 0, 111), eD, eD, ([], 0, 1, 0, 0, 0, -7, 113)],
  [eD, ([], 29, 0, 0, 0, 0, 0, 114), ([], 4, 0, 0, 0, 0, 0, 115), ([], 19, 0, 3, 82, 0, 0, 118), eD, eD, ([], 27, 125, 0, 204, 10, 0, 121), eD, eD, ([], 4, 0, 0, 0, 0, 0, 122), ([], 19, 0, 4, 83, 0, 0, 125), eD, eD, ([], 19, 6, 2, 72, 0, 0, 128), eD, eD],
  [([], 19, 3, 1, 29, 0, 0, 131), eD, eD, ([], 29, 0, 0, 0, 0, 0, 132)]]
set_option maxRecDepth 100000 in
theorem ok8 : okM 8 cd8 = true := by decide +kernel
def cd9 : List (List EM) := [[([], 4, 0, 0, 0, 0, 0, 1), ([], 19, 0, 3, 82, 0, 0, 4), eD, eD, ([], 2, 1, 0, 0, 0, 0, 5), ([], 27, 128, 1, 215, 10, 0, 8), eD, eD, ([], 15, 1, 13, 0, 0, 0, 11), eD, eD, ([], 0, 0, 0, 0, 0, -1, 12), ([], 29, 0, 0, 0, 0, 0, 13), ([], 2, 1, 0, 0, 0, 0, 14), ([], 28, 122, 1, 161, 0, 0, 17), eD],
  [eD, ([], 5, 3, 0, 0, 0, 0, 18), ([], 4, 0, 0, 0, 0, 0, 19), ([], 19, 0, 2, 81, 0, 0, 22), eD, eD, ([], 2, 3, 0, 0, 0, 0, 23), ([], 27, 82, 1, 228, 8, 0, 26), eD, eD, ([], 5, 4, 1, 0, 0, 0, 28), eD, ([], 4, 0, 0, 0, 0, 0, 29), ([], 27, 12, 0, 176, 0, 0, 32), eD, eD],
  [([], 15, 1, 38, 0, 0, 0, 35), eD, eD, ([], 0, 1, 0, 0, 0, -7, 37), eD, ([], 29, 0, 0, 0, 0, 0, 38), ([], 4, 0, 0, 0, 0, 0, 39), ([], 19, 0, 2, 81, 0, 0, 42), eD, eD, ([], 2, 3, 0, 0, 0, 0, 43), ([], 2, 2, 0, 0, 0, 0, 44), ([], 15, 0, 54, 0, 0, 0, 47), eD, eD, ([], 2, 4, 1, 0, 0, 0, 49)],
  [eD, ([], 0, 0, 0, 0, 0, 1, 50), ([], 9, 4, 0, 0, 0, 0, 51), ([], 17, 0, 59, 0, 0, 0, 54), eD, eD, ([], 2, 4, 1, 0, 0, 0, 56), eD, ([], 0, 1, 0, 0, 0, -2, 58), eD, ([], 9, 3, 0, 0, 0, 0, 59), ([true, true, false, true, true], 27, 101, 2, 203, 8, 0, 62), eD, eD, ([], 4, 0, 0, 0, 0, 0, 63), ([], 19, 0, 2, 81, 0, 0, 66)],
  [eD, eD, ([], 2, 3, 0, 0, 0, 0, 67), ([], 4, 0, 0, 0, 0, 0, 68), ([], 19, 0, 3, 82, 0, 0, 71), eD, eD, ([], 2, 1, 0, 0, 0, 0, 72), ([], 27, 124, 1, 195, 10, 0, 75), eD, eD, ([], 27, 106, 2, 197, 8, 0, 78), eD, eD, ([], 4, 0, 0, 0, 0, 0, 79), ([], 19, 0, 0, 79, 0, 0, 82)],
  [eD, eD, ([], 27, 64, 0, 178, 5, 0, 85), eD, eD, ([], 15, 0, 95, 0, 0, 0, 88), eD, eD, ([], 2, 4, 1, 0, 0, 0, 90), eD, ([], 0, 0, 0, 0, 0, 1, 91), ([], 9, 3, 0, 0, 0, 0, 92), ([], 17, 0, 97, 0, 0, 0, 95), eD, eD, ([], 0, 1, 0, 0, 0, -7, 97)],
  [eD, ([], 29, 0, 0, 0, 0, 0, 98)]]
set_option maxRecDepth 100000 in
theorem ok9 : okM 9 cd9 = true := by decide +kernel
def cd10 : List (List EM) := [[([], 4, 0, 0, 0, 0, 0, 1), ([], 19, 0, 3, 82, 0, 0, 4), eD, eD, ([], 2, 1, 0, 0, 0, 0, 5), ([], 4, 0, 0, 0, 0, 0, 6), ([], 19, 0, 4, 83, 0, 0, 9), eD, eD, ([], 19, 6, 2, 72, 0, 0, 12), eD, eD, ([], 27, 127, 2, 160, 10, 0, 15), eD, eD, ([], 4, 0, 0, 0, 0, 0, 16)],
  [([], 19, 0, 4, 83, 0, 0, 19), eD, eD, ([], 4, 0, 0, 0, 0, 0, 20), ([], 19, 0, 2, 81, 0, 0, 23), eD, eD, ([], 2, 1, 0, 0, 0, 0, 24), ([], 28, 122, 1, 161, 0, 0, 27), eD, eD, ([], 27, 85, 1, 162, 8, 0, 30), eD, eD, ([], 27, 68, 1, 163, 6, 0, 33), eD],
  [eD, ([], 31, 0, 0, 0, 0, 0, 34)]]
set_option maxRecDepth 100000 in
theorem ok10 : okM 10 cd10 = true := by decide +kernel
def cd11 : List (List EM) := [[([], 2, 1, 0, 0, 0, 0, 1), ([], 28, 122, 1, 161, 0, 0, 4), eD, eD, ([], 5, 5, 1, 0, 0, 0, 6), eD, ([], 4, 0, 0, 0, 0, 0, 7), ([], 19, 0, 2, 81, 0, 0, 10), eD, eD, ([], 2, 5, 1, 0, 0, 0, 12), eD, ([], 2, 2, 0, 0, 0, 0, 13), ([], 2, 3, 0, 0, 0, 0, 14), ([], 2, 4, 1, 0, 0, 0, 16), eD],
  [([], 27, 104, 4, 192, 8, 0, 19), eD, eD, ([], 4, 0, 0, 0, 0, 0, 20), ([], 19, 0, 2, 81, 0, 0, 23), eD, eD, ([], 2, 5, 1, 0, 0, 0, 25), eD, ([], 4, 0, 0, 0, 0, 0, 26), ([], 19, 0, 5, 84, 0, 0, 29), eD, eD, ([], 27, 103, 2, 194, 8, 0, 32), eD, eD],
  [([], 4, 0, 0, 0, 0, 0, 33), ([], 19, 0, 2, 81, 0, 0, 36), eD, eD, ([], 2, 5, 1, 0, 0, 0, 38), eD, ([], 4, 0, 0, 0, 0, 0, 39), ([], 19, 0, 3, 82, 0, 0, 42), eD, eD, ([], 2, 1, 0, 0, 0, 0, 43), ([], 27, 124, 1, 195, 10, 0, 46), eD, eD, ([], 27, 106, 2, 197, 8, 0, 49), eD],
  [eD, ([], 4, 0, 0, 0, 0, 0, 50), ([], 19, 0, 0, 79, 0, 0, 53), eD, eD, ([], 27, 64, 0, 178, 5, 0, 56), eD, eD, ([], 29, 0, 0, 0, 1, 0, 57)]]
set_option maxRecDepth 100000 in
theorem ok11 : okM 11 cd11 = true := by decide +kernel
def cd12 : List (List EM) := [[([], 4, 0, 0, 0, 0, 0, 1), ([], 19, 0, 0, 79, 0, 0, 4), eD, eD, ([], 0, 1, 0, 0, 0, 44, 6), eD, ([], 4, 0, 0, 0, 0, 0, 7), ([], 19, 0, 0, 79, 0, 0, 10), eD, eD, ([], 0, 1, 0, 0, 0, 44, 12), eD, ([], 27, 54, 1, 168, 5, 0, 15), eD, eD, ([], 0, 0, 0, 0, 0, 2, 16)],
  [([], 9, 4, 0, 0, 0, 0, 17), ([], 27, 57, 2, 177, 5, 0, 20), eD, eD, ([], 4, 0, 0, 0, 0, 0, 21), ([], 19, 0, 0, 79, 0, 0, 24), eD, eD, ([], 27, 64, 0, 178, 5, 0, 27), eD, eD, ([], 29, 0, 0, 0, 1, 0, 28)]]
set_option maxRecDepth 100000 in
theorem ok12 : okM 12 cd12 = true := by decide +kernel
def cd13 : List (List EM) := [[([], 4, 0, 0, 0, 0, 0, 1), ([], 19, 1, 1, 8, 0, 0, 4), eD, eD, ([], 0, 0, 0, 0, 0, 0, 5), ([], 28, 277, 2, 3, 0, 0, 8), eD, eD, ([], 0, 0, 0, 0, 0, 0, 9), ([], 5, 6, 1, 0, 0, 0, 11), eD, ([true, true, true, true, true, true, true, false], 2, 6, 1, 0, 0, 0, 13), eD, ([], 0, 0, 0, 0, 0, 3, 14), ([], 16, 3, 54, 0, 0, 0, 17), eD],
  [eD, ([], 4, 0, 0, 0, 0, 0, 18), ([], 19, 1, 1, 8, 0, 0, 21), eD, eD, ([], 2, 6, 1, 0, 0, 0, 23), eD, ([], 0, 1, 0, 0, 0, 64, 25), eD, ([], 9, 2, 0, 0, 0, 0, 26), ([], 0, 1, 0, 0, 0, 62, 28), eD, ([], 9, 0, 0, 0, 0, 0, 29), ([], 0, 1, 0, 0, 0, 85, 31), eD, ([], 23, 0, 256, 0, 0, 0, 32)],
  [([], 4, 0, 0, 0, 0, 0, 33), ([], 19, 1, 1, 8, 0, 0, 36), eD, eD, ([], 2, 6, 1, 0, 0, 0, 38), eD, ([], 0, 1, 0, 0, 0, 64, 40), eD, ([], 9, 2, 0, 0, 0, 0, 41), ([], 0, 1, 0, 0, 0, 63, 43), eD, ([], 9, 0, 0, 0, 0, 0, 44), ([], 0, 2, 0, 0, 0, 170, 47), eD, eD, ([], 23, 0, 256, 0, 0, 0, 48)],
  [([], 8, 6, 0, 0, 0, 1, 51), eD, eD, ([], 17, 0, 11, 0, 0, 0, 54), eD, eD, ([], 4, 0, 0, 0, 0, 0, 55), ([], 0, 0, 0, 0, 0, 0, 56), ([], 0, 3, 0, 0, 0, 1167095531, 58), eD, ([], 27, 14, 2, 4, 1, 0, 61), eD, eD, ([], 4, 0, 0, 0, 0, 0, 62), ([], 0, 0, 0, 0, 0, 4, 63), ([], 0, 3, 0, 1, 0, 1413563992, 65)],
  [eD, ([], 27, 14, 2, 4, 1, 0, 68), eD, eD, ([], 4, 0, 0, 0, 0, 0, 69), ([], 0, 1, 0, 0, 0, 8, 71), eD, ([], 0, 3, 0, 2, 0, 2105376, 73), eD, ([], 27, 14, 2, 4, 1, 0, 76), eD, eD, ([], 4, 0, 0, 0, 0, 0, 77), ([], 0, 1, 0, 0, 0, 16, 79), eD, ([], 0, 1, 0, 0, 0, 16, 81)],
  [eD, ([], 0, 0, 0, 0, 0, 2, 82), ([], 2, 1, 0, 0, 0, 0, 83), ([], 9, 2, 0, 0, 0, 0, 84), ([], 9, 0, 0, 0, 0, 0, 85), ([], 27, 14, 2, 4, 1, 0, 88), eD, eD, ([], 4, 0, 0, 0, 0, 0, 89), ([], 0, 1, 0, 0, 0, 20, 91), eD, ([], 0, 1, 0, 0, 0, 8, 93), eD, ([], 27, 14, 2, 4, 1, 0, 96), eD, eD],
  [([], 4, 0, 0, 0, 0, 0, 97), ([], 0, 1, 0, 0, 0, 24, 99), eD, ([], 0, 1, 0, 0, 0, 7, 101), eD, ([], 27, 14, 2, 4, 1, 0, 104), eD, eD, ([], 4, 0, 0, 0, 0, 0, 105), ([], 0, 1, 0, 0, 0, 28, 107), eD, ([], 0, 1, 0, 0, 0, 16, 109), eD, ([], 27, 14, 2, 4, 1, 0, 112), eD, eD],
  [([], 4, 0, 0, 0, 0, 0, 113), ([], 0, 1, 0, 0, 0, 32, 115), eD, ([], 2, 1, 0, 0, 0, 0, 116), ([], 27, 14, 2, 4, 1, 0, 119), eD, eD, ([], 4, 0, 0, 0, 0, 0, 120), ([], 0, 1, 0, 0, 0, 36, 122), eD, ([], 2, 2, 0, 0, 0, 0, 123), ([], 27, 14, 2, 4, 1, 0, 126), eD, eD, ([], 4, 0, 0, 0, 0, 0, 127), ([], 0, 1, 0, 0, 0, 40, 129)],
  [eD, ([], 2, 3, 0, 0, 0, 0, 130), ([], 27, 14, 2, 4, 1, 0, 133), eD, eD, ([], 4, 0, 0, 0, 0, 0, 134), ([], 19, 1, 1, 8, 0, 0, 137), eD, eD, ([], 0, 1, 0, 0, 0, 44, 139), eD, ([], 2, 4, 1, 0, 0, 0, 141), eD, ([], 23, 0, 256, 0, 0, 0, 142), ([], 4, 0, 0, 0, 0, 0, 143), ([], 19, 1, 1, 8, 0, 0, 146)],
  [eD, eD, ([], 0, 1, 0, 0, 0, 46, 148), eD, ([], 0, 1, 0, 0, 0, 6, 150), eD, ([], 23, 0, 256, 0, 0, 0, 151), ([], 4, 0, 0, 0, 0, 0, 152), ([], 19, 1, 1, 8, 0, 0, 155), eD, eD, ([], 0, 1, 0, 0, 0, 47, 157), eD, ([], 0, 0, 0, 0, 0, 1, 158), ([], 23, 0, 256, 0, 0, 0, 159), ([], 4, 0, 0, 0, 0, 0, 160)],
  [([], 19, 1, 1, 8, 0, 0, 163), eD, eD, ([], 0, 1, 0, 0, 0, 48, 165), eD, ([], 0, 0, 0, 0, 0, 1, 166), ([], 23, 0, 256, 0, 0, 0, 167), ([], 4, 0, 0, 0, 0, 0, 168), ([], 19, 1, 1, 8, 0, 0, 171), eD, eD, ([], 0, 1, 0, 0, 0, 49, 173), eD, ([], 2, 5, 1, 0, 0, 0, 175), eD, ([], 23, 0, 256, 0, 0, 0, 176)],
  [([], 4, 0, 0, 0, 0, 0, 177), ([], 27, 15, 0, 5, 1, 0, 180), eD, eD, ([], 5, 6, 1, 0, 0, 0, 182), eD, ([], 0, 0, 0, 0, 0, 0, 183), ([], 5, 7, 1, 0, 0, 0, 185), eD, ([true, false, false, false, false, false, true, true], 2, 7, 1, 0, 0, 0, 187), eD, ([], 0, 1, 0, 0, 0, 64, 189), eD, ([], 16, 3, 210, 0, 0, 0, 192), eD, eD],
  [([], 4, 0, 0, 0, 0, 0, 193), ([], 0, 2, 0, 0, 0, 192, 196), eD, eD, ([], 2, 7, 1, 0, 0, 0, 198), eD, ([], 9, 0, 0, 0, 0, 0, 199), ([], 2, 6, 1, 0, 0, 0, 201), eD, ([], 27, 14, 2, 4, 1, 0, 204), eD, eD, ([], 8, 7, 0, 0, 0, 4, 207), eD, eD, ([], 17, 0, 185, 0, 0, 0, 210)],
  [eD, eD, ([], 31, 0, 0, 0, 0, 0, 211)]]
set_option maxRecDepth 100000 in
theorem ok13 : okM 13 cd13 = true := by decide +kernel
def cd14 : List (List EM) := [[([], 0, 0, 0, 0, 0, 0, 1), ([], 5, 3, 0, 0, 0, 0, 2), ([true, true, true, true], 2, 3, 0, 0, 0, 0, 3), ([], 0, 0, 0, 0, 0, 4, 4), ([], 16, 3, 42, 0, 0, 0, 7), eD, eD, ([], 2, 1, 0, 0, 0, 0, 8), ([], 2, 3, 0, 0, 0, 0, 9), ([], 9, 0, 0, 0, 0, 0, 10), ([], 4, 0, 0, 0, 0, 0, 11), ([], 19, 1, 1, 8, 0, 0, 14), eD, eD, ([], 21, 0, 256, 0, 0, 0, 15), ([], 16, 3, 42, 0, 0, 0, 18)],
  [eD, eD, ([], 4, 0, 0, 0, 0, 0, 19), ([], 19, 1, 1, 8, 0, 0, 22), eD, eD, ([], 2, 1, 0, 0, 0, 0, 23), ([], 2, 3, 0, 0, 0, 0, 24), ([], 9, 0, 0, 0, 0, 0, 25), ([], 2, 2, 0, 0, 0, 0, 26), ([], 0, 1, 0, 0, 0, 8, 28), eD, ([], 2, 3, 0, 0, 0, 0, 29), ([], 9, 2, 0, 0, 0, 0, 30), ([], 9, 8, 0, 0, 0, 0, 31), ([], 0, 2, 0, 0, 0, 255, 34)],
  [eD, eD, ([], 9, 3, 0, 0, 0, 0, 35), ([], 23, 0, 256, 0, 0, 0, 36), ([], 8, 3, 0, 0, 0, 1, 39), eD, eD, ([], 17, 0, 2, 0, 0, 0, 42), eD, eD, ([], 31, 0, 0, 0, 0, 0, 43)]]
set_option maxRecDepth 100000 in
theorem ok14 : okM 14 cd14 = true := by decide +kernel
def cd15 : List (List EM) := [[([], 0, 0, 0, 0, 0, 0, 1), ([], 5, 1, 0, 0, 0, 0, 2), ([], 0, 0, 0, 0, 0, 0, 3), ([], 5, 2, 0, 0, 0, 0, 4), ([true, true, true], 2, 2, 0, 0, 0, 0, 5), ([], 0, 2, 0, 0, 0, 192, 8), eD, eD, ([], 16, 3, 51, 0, 0, 0, 11), eD, eD, ([], 2, 2, 0, 0, 0, 0, 12), ([], 0, 1, 0, 0, 0, 44, 14), eD, ([], 16, 0, 45, 0, 0, 0, 17), eD],
  [eD, ([], 2, 2, 0, 0, 0, 0, 18), ([], 0, 1, 0, 0, 0, 45, 20), eD, ([], 16, 0, 45, 0, 0, 0, 23), eD, eD, ([], 2, 2, 0, 0, 0, 0, 24), ([], 0, 1, 0, 0, 0, 49, 26), eD, ([], 16, 0, 45, 0, 0, 0, 29), eD, eD, ([], 2, 1, 0, 0, 0, 0, 30), ([], 0, 0, 0, 0, 0, 1, 31), ([], 9, 8, 0, 0, 0, 0, 32)],
  [([], 2, 1, 0, 0, 0, 0, 33), ([], 0, 1, 0, 0, 0, 31, 35), eD, ([], 9, 6, 0, 0, 0, 0, 36), ([], 9, 4, 0, 0, 0, 0, 37), ([], 4, 0, 0, 0, 0, 0, 38), ([], 19, 1, 1, 8, 0, 0, 41), eD, eD, ([], 2, 2, 0, 0, 0, 0, 42), ([], 22, 0, 256, 0, 0, 0, 43), ([], 9, 0, 0, 0, 0, 0, 44), ([], 5, 1, 0, 0, 0, 0, 45), ([], 8, 2, 0, 0, 0, 1, 48), eD, eD],
  [([], 17, 0, 4, 0, 0, 0, 51), eD, eD, ([], 2, 1, 0, 0, 0, 0, 52), ([], 29, 0, 0, 0, 0, 0, 53)]]
set_option maxRecDepth 100000 in
theorem ok15 : okM 15 cd15 = true := by decide +kernel
def cd16 : List (List EM) := [[([], 0, 0, 0, 0, 0, 0, 1), ([], 5, 2, 0, 0, 0, 0, 2), ([true, true, true], 2, 2, 0, 0, 0, 0, 3), ([], 4, 0, 0, 0, 0, 0, 4), ([], 19, 1, 1, 8, 0, 0, 7), eD, eD, ([], 21, 0, 256, 0, 0, 0, 8), ([], 16, 3, 33, 0, 0, 0, 11), eD, eD, ([], 4, 0, 0, 0, 0, 0, 12), ([], 19, 1, 0, 7, 0, 0, 15), eD, eD, ([], 2, 1, 0, 0, 0, 0, 16)],
  [([], 2, 2, 0, 0, 0, 0, 17), ([], 9, 0, 0, 0, 0, 0, 18), ([], 4, 0, 0, 0, 0, 0, 19), ([], 19, 1, 1, 8, 0, 0, 22), eD, eD, ([], 2, 2, 0, 0, 0, 0, 23), ([], 22, 0, 256, 0, 0, 0, 24), ([], 27, 57, 2, 7, 5, 0, 27), eD, eD, ([], 8, 2, 0, 0, 0, 1, 30), eD, eD, ([], 17, 0, 2, 0, 0, 0, 33), eD],
  [eD, ([], 31, 0, 0, 0, 0, 0, 34)]]
set_option maxRecDepth 100000 in
theorem ok16 : okM 16 cd16 = true := by decide +kernel
def cd17 : List (List EM) := [[([], 4, 0, 0, 0, 0, 0, 1), ([], 19, 1, 0, 7, 0, 0, 4), eD, eD, ([], 2, 1, 0, 0, 0, 0, 5), ([], 0, 1, 0, 0, 0, 32, 7), eD, ([], 9, 0, 0, 0, 0, 0, 8), ([], 27, 56, 1, 23, 5, 0, 11), eD, eD, ([], 5, 2, 0, 0, 0, 0, 12), ([], 2, 2, 0, 0, 0, 0, 13), ([], 0, 1, 0, 0, 0, 16, 15), eD, ([], 16, 2, 24, 0, 0, 0, 18)],
  [eD, eD, ([], 2, 2, 0, 0, 0, 0, 19), ([], 0, 1, 0, 0, 0, 100, 21), eD, ([], 16, 5, 26, 0, 0, 0, 24), eD, eD, ([], 0, 0, 0, 0, 0, 0, 25), ([], 29, 0, 0, 0, 1, 0, 26), ([], 4, 0, 0, 0, 0, 0, 27), ([], 19, 1, 0, 7, 0, 0, 30), eD, eD, ([], 2, 1, 0, 0, 0, 0, 31), ([], 0, 1, 0, 0, 0, 36, 33)],
  [eD, ([], 9, 0, 0, 0, 0, 0, 34), ([], 27, 56, 1, 23, 5, 0, 37), eD, eD, ([], 5, 3, 0, 0, 0, 0, 38), ([], 2, 3, 0, 0, 0, 0, 39), ([], 0, 0, 0, 0, 0, 2, 40), ([], 16, 2, 50, 0, 0, 0, 43), eD, eD, ([], 2, 3, 0, 0, 0, 0, 44), ([], 2, 2, 0, 0, 0, 0, 45), ([], 0, 0, 0, 0, 0, 1, 46), ([], 9, 0, 0, 0, 0, 0, 47), ([], 16, 5, 52, 0, 0, 0, 50)],
  [eD, eD, ([], 0, 0, 0, 0, 0, 0, 51), ([], 29, 0, 0, 0, 1, 0, 52), ([], 4, 0, 0, 0, 0, 0, 53), ([], 19, 1, 0, 7, 0, 0, 56), eD, eD, ([], 2, 1, 0, 0, 0, 0, 57), ([], 0, 1, 0, 0, 0, 44, 59), eD, ([], 9, 0, 0, 0, 0, 0, 60), ([], 27, 55, 1, 24, 5, 0, 63), eD, eD, ([], 5, 4, 1, 0, 0, 0, 65)],
  [eD, ([], 2, 4, 1, 0, 0, 0, 67), eD, ([], 15, 0, 78, 0, 0, 0, 70), eD, eD, ([], 2, 4, 1, 0, 0, 0, 72), eD, ([], 0, 0, 0, 0, 0, 2, 73), ([], 16, 0, 78, 0, 0, 0, 76), eD, eD, ([], 0, 0, 0, 0, 0, 0, 77), ([], 29, 0, 0, 0, 1, 0, 78), ([true, true, true, true, true, false, false], 4, 0, 0, 0, 0, 0, 79), ([], 19, 1, 0, 7, 0, 0, 82)],
  [eD, eD, ([], 2, 1, 0, 0, 0, 0, 83), ([], 0, 1, 0, 0, 0, 49, 85), eD, ([], 9, 0, 0, 0, 0, 0, 86), ([], 27, 54, 1, 25, 5, 0, 89), eD, eD, ([], 5, 5, 1, 0, 0, 0, 91), eD, ([], 2, 5, 1, 0, 0, 0, 93), eD, ([], 0, 1, 0, 0, 0, 100, 95), eD, ([], 16, 5, 108, 0, 0, 0, 98)],
  [eD, eD, ([], 2, 5, 1, 0, 0, 0, 100), eD, ([], 0, 2, 0, 0, 0, 255, 103), eD, eD, ([], 16, 0, 108, 0, 0, 0, 106), eD, eD, ([], 0, 0, 0, 0, 0, 0, 107), ([], 29, 0, 0, 0, 1, 0, 108), ([], 4, 0, 0, 0, 0, 0, 109), ([], 2, 2, 0, 0, 0, 0, 110), ([], 2, 3, 0, 0, 0, 0, 111), ([], 4, 0, 0, 0, 0, 0, 112)],
  [([], 19, 1, 0, 7, 0, 0, 115), eD, eD, ([], 2, 1, 0, 0, 0, 0, 116), ([], 0, 1, 0, 0, 0, 40, 118), eD, ([], 9, 0, 0, 0, 0, 0, 119), ([], 27, 56, 1, 23, 5, 0, 122), eD, eD, ([], 2, 4, 1, 0, 0, 0, 124), eD, ([], 2, 5, 1, 0, 0, 0, 126), eD, ([], 27, 13, 5, 26, 1, 0, 129), eD],
  [eD, ([], 0, 0, 0, 0, 0, 0, 130), ([], 5, 6, 1, 0, 0, 0, 132), eD, ([true, true, false, false, false, false, true], 2, 6, 1, 0, 0, 0, 134), eD, ([], 4, 0, 0, 0, 0, 0, 135), ([], 19, 1, 1, 8, 0, 0, 138), eD, eD, ([], 21, 0, 256, 0, 0, 0, 139), ([], 16, 3, 171, 0, 0, 0, 142), eD, eD, ([], 4, 0, 0, 0, 0, 0, 143), ([], 19, 1, 0, 7, 0, 0, 146)],
  [eD, eD, ([], 2, 1, 0, 0, 0, 0, 147), ([], 2, 6, 1, 0, 0, 0, 149), eD, ([], 9, 0, 0, 0, 0, 0, 150), ([], 27, 54, 1, 25, 5, 0, 153), eD, eD, ([], 4, 0, 0, 0, 0, 0, 154), ([], 19, 1, 1, 8, 0, 0, 157), eD, eD, ([], 2, 6, 1, 0, 0, 0, 159), eD, ([], 22, 0, 256, 0, 0, 0, 160)],
  [([], 16, 0, 165, 0, 0, 0, 163), eD, eD, ([], 0, 0, 0, 0, 0, 0, 164), ([], 29, 0, 0, 0, 1, 0, 165), ([], 8, 6, 0, 0, 0, 1, 168), eD, eD, ([], 17, 0, 132, 0, 0, 0, 171), eD, eD, ([], 0, 0, 0, 0, 0, 1, 172), ([], 29, 0, 0, 0, 1, 0, 173)]]
set_option maxRecDepth 100000 in
theorem ok17 : okM 17 cd17 = true := by decide +kernel
def cd18 : List (List EM) := [[([], 0, 0, 0, 0, 0, 0, 1), ([], 5, 3, 0, 0, 0, 0, 2), ([true, true, true, true, false, false], 2, 3, 0, 0, 0, 0, 3), ([], 4, 0, 0, 0, 0, 0, 4), ([], 19, 2, 1, 22, 0, 0, 7), eD, eD, ([], 21, 0, 256, 0, 0, 0, 8), ([], 16, 3, 24, 0, 0, 0, 11), eD, eD, ([], 4, 0, 0, 0, 0, 0, 12), ([], 19, 2, 1, 22, 0, 0, 15), eD, eD, ([], 2, 3, 0, 0, 0, 0, 16)],
  [([], 2, 3, 0, 0, 0, 0, 17), ([], 23, 0, 256, 0, 0, 0, 18), ([], 8, 3, 0, 0, 0, 1, 21), eD, eD, ([], 17, 0, 2, 0, 0, 0, 24), eD, eD, ([], 0, 0, 0, 0, 0, 0, 25), ([], 5, 3, 0, 0, 0, 0, 26), ([], 0, 0, 0, 0, 0, 0, 27), ([], 5, 4, 1, 0, 0, 0, 29), eD, ([true, true, true, true, true, false], 2, 4, 1, 0, 0, 0, 31), eD, ([], 2, 2, 0, 0, 0, 0, 32)],
  [([], 16, 3, 130, 0, 0, 0, 35), eD, eD, ([], 4, 0, 0, 0, 0, 0, 36), ([], 19, 2, 0, 21, 0, 0, 39), eD, eD, ([], 2, 1, 0, 0, 0, 0, 40), ([], 2, 4, 1, 0, 0, 0, 42), eD, ([], 9, 0, 0, 0, 0, 0, 43), ([], 27, 55, 1, 44, 5, 0, 46), eD, eD, ([], 5, 5, 1, 0, 0, 0, 48), eD],
  [([], 2, 5, 1, 0, 0, 0, 50), eD, ([], 0, 3, 0, 3, 0, 65535, 52), eD, ([], 16, 1, 83, 0, 0, 0, 55), eD, eD, ([], 8, 4, 0, 0, 0, 2, 58), eD, eD, ([], 2, 4, 1, 0, 0, 0, 60), eD, ([], 2, 2, 0, 0, 0, 0, 61), ([], 16, 2, 66, 0, 0, 0, 64), eD, eD],
  [([], 0, 0, 0, 0, 0, 0, 65), ([], 29, 0, 0, 0, 1, 0, 66), ([], 2, 3, 0, 0, 0, 0, 67), ([], 4, 0, 0, 0, 0, 0, 68), ([], 19, 2, 0, 21, 0, 0, 71), eD, eD, ([], 2, 1, 0, 0, 0, 0, 72), ([], 2, 4, 1, 0, 0, 0, 74), eD, ([], 9, 0, 0, 0, 0, 0, 75), ([], 27, 55, 1, 44, 5, 0, 78), eD, eD, ([], 9, 0, 0, 0, 0, 0, 79), ([], 5, 3, 0, 0, 0, 0, 80)],
  [([], 17, 0, 113, 0, 0, 0, 83), eD, eD, ([], 2, 5, 1, 0, 0, 0, 85), eD, ([], 0, 2, 0, 0, 0, 255, 88), eD, eD, ([], 16, 4, 100, 0, 0, 0, 91), eD, eD, ([], 2, 3, 0, 0, 0, 0, 92), ([], 4, 0, 0, 0, 0, 0, 93), ([], 19, 2, 1, 22, 0, 0, 96), eD, eD],
  [([], 21, 0, 256, 0, 0, 0, 97), ([], 16, 2, 102, 0, 0, 0, 100), eD, eD, ([], 0, 0, 0, 0, 0, 0, 101), ([], 29, 0, 0, 0, 1, 0, 102), ([], 4, 0, 0, 0, 0, 0, 103), ([], 19, 2, 1, 22, 0, 0, 106), eD, eD, ([], 2, 3, 0, 0, 0, 0, 107), ([], 8, 3, 0, 0, 0, 1, 110), eD, eD, ([], 2, 5, 1, 0, 0, 0, 112), eD],
  [([], 23, 0, 256, 0, 0, 0, 113), ([], 2, 3, 0, 0, 0, 0, 114), ([], 4, 0, 0, 0, 0, 0, 115), ([], 19, 2, 1, 22, 0, 0, 118), eD, eD, ([], 21, 0, 256, 0, 0, 0, 119), ([], 16, 5, 124, 0, 0, 0, 122), eD, eD, ([], 0, 0, 0, 0, 0, 0, 123), ([], 29, 0, 0, 0, 1, 0, 124), ([], 8, 4, 0, 0, 0, 2, 127), eD, eD, ([], 17, 0, 29, 0, 0, 0, 130)],
  [eD, eD, ([], 0, 0, 0, 0, 0, 0, 131), ([], 5, 4, 1, 0, 0, 0, 133), eD, ([true, false, false, false, true, false], 2, 4, 1, 0, 0, 0, 135), eD, ([], 4, 0, 0, 0, 0, 0, 136), ([], 19, 2, 1, 22, 0, 0, 139), eD, eD, ([], 21, 0, 256, 0, 0, 0, 140), ([], 16, 3, 172, 0, 0, 0, 143), eD, eD, ([], 4, 0, 0, 0, 0, 0, 144)],
  [([], 4, 0, 0, 0, 0, 0, 145), ([], 19, 2, 1, 22, 0, 0, 148), eD, eD, ([], 2, 4, 1, 0, 0, 0, 150), eD, ([], 22, 0, 256, 0, 0, 0, 151), ([], 27, 19, 1, 45, 2, 0, 154), eD, eD, ([], 4, 0, 0, 0, 0, 0, 155), ([], 19, 2, 1, 22, 0, 0, 158), eD, eD, ([], 2, 4, 1, 0, 0, 0, 160), eD],
  [([], 22, 0, 256, 0, 0, 0, 161), ([], 16, 0, 166, 0, 0, 0, 164), eD, eD, ([], 0, 0, 0, 0, 0, 0, 165), ([], 29, 0, 0, 0, 1, 0, 166), ([], 8, 4, 0, 0, 0, 1, 169), eD, eD, ([], 17, 0, 133, 0, 0, 0, 172), eD, eD, ([], 0, 0, 0, 0, 0, 1, 173), ([], 29, 0, 0, 0, 1, 0, 174)]]
set_option maxRecDepth 100000 in
theorem ok18 : okM 18 cd18 = true := by decide +kernel
def cd19 : List (List EM) := [[([], 2, 1, 0, 0, 0, 0, 1), ([], 15, 2, 22, 0, 0, 0, 4), eD, eD, ([], 2, 1, 0, 0, 0, 0, 5), ([], 4, 0, 0, 0, 0, 0, 6), ([], 19, 2, 1, 22, 0, 0, 9), eD, eD, ([], 21, 0, 256, 0, 0, 0, 10), ([], 16, 3, 22, 0, 0, 0, 13), eD, eD, ([], 4, 0, 0, 0, 0, 0, 14), ([], 19, 2, 1, 22, 0, 0, 17), eD],
  [eD, ([], 2, 1, 0, 0, 0, 0, 18), ([], 22, 0, 256, 0, 0, 0, 19), ([], 17, 0, 23, 0, 0, 0, 22), eD, eD, ([], 2, 1, 0, 0, 0, 0, 23), ([], 29, 0, 0, 0, 0, 0, 24)]]
set_option maxRecDepth 100000 in
theorem ok19 : okM 19 cd19 = true := by decide +kernel
def cd20 : List (List EM) := [[([], 0, 0, 0, 0, 0, 0, 1), ([], 5, 2, 0, 0, 0, 0, 2), ([], 0, 0, 0, 0, 0, 0, 3), ([], 5, 3, 0, 0, 0, 0, 4), ([true, true, true, true, false], 2, 3, 0, 0, 0, 0, 5), ([], 4, 1, 0, 0, 0, 0, 6), ([], 19, 7, 1, 42, 0, 0, 9), eD, eD, ([], 16, 3, 48, 0, 0, 0, 12), eD, eD, ([], 4, 0, 0, 0, 0, 0, 13), ([], 4, 1, 0, 0, 0, 0, 14), ([], 2, 3, 0, 0, 0, 0, 15), ([], 27, 74, 1, 89, 7, 0, 18)],
  [eD, eD, ([], 27, 19, 1, 45, 2, 0, 21), eD, eD, ([], 5, 4, 1, 0, 0, 0, 23), eD, ([], 2, 2, 0, 0, 0, 0, 24), ([], 2, 4, 1, 0, 0, 0, 26), eD, ([], 0, 2, 0, 0, 0, 255, 29), eD, eD, ([], 9, 3, 0, 0, 0, 0, 30), ([], 28, 80, 2, 90, 0, 0, 33), eD],
  [eD, ([], 2, 4, 1, 0, 0, 0, 35), eD, ([], 0, 1, 0, 0, 0, 8, 37), eD, ([], 9, 8, 0, 0, 0, 0, 38), ([], 28, 80, 2, 90, 0, 0, 41), eD, eD, ([], 5, 2, 0, 0, 0, 0, 42), ([], 8, 3, 0, 0, 0, 1, 45), eD, eD, ([], 17, 0, 4, 0, 0, 0, 48), eD, eD],
  [([], 2, 2, 0, 0, 0, 0, 49), ([], 29, 0, 0, 0, 0, 0, 50)]]
set_option maxRecDepth 100000 in
theorem ok20 : okM 20 cd20 = true := by decide +kernel
def cd21 : List (List EM) := [[([], 0, 0, 0, 0, 0, 0, 1), ([], 5, 3, 0, 0, 0, 0, 2), ([], 0, 0, 0, 0, 0, 0, 3), ([], 5, 4, 1, 0, 0, 0, 5), eD, ([true, true, true, true, true], 2, 4, 1, 0, 0, 0, 7), eD, ([], 2, 2, 0, 0, 0, 0, 8), ([], 16, 3, 35, 0, 0, 0, 11), eD, eD, ([], 2, 3, 0, 0, 0, 0, 12), ([], 0, 0, 0, 0, 0, 1, 13), ([], 9, 8, 0, 0, 0, 0, 14), ([], 2, 3, 0, 0, 0, 0, 15), ([], 0, 1, 0, 0, 0, 31, 17)],
  [eD, ([], 9, 6, 0, 0, 0, 0, 18), ([], 9, 4, 0, 0, 0, 0, 19), ([], 4, 0, 0, 0, 0, 0, 20), ([], 2, 1, 0, 0, 0, 0, 21), ([], 2, 4, 1, 0, 0, 0, 23), eD, ([], 9, 0, 0, 0, 0, 0, 24), ([], 27, 54, 1, 17, 5, 0, 27), eD, eD, ([], 9, 0, 0, 0, 0, 0, 28), ([], 5, 3, 0, 0, 0, 0, 29), ([], 8, 4, 0, 0, 0, 1, 32), eD, eD],
  [([], 17, 0, 5, 0, 0, 0, 35), eD, eD, ([], 2, 3, 0, 0, 0, 0, 36), ([], 29, 0, 0, 0, 0, 0, 37)]]
set_option maxRecDepth 100000 in
theorem ok21 : okM 21 cd21 = true := by decide +kernel
def cd22 : List (List EM) := [[([], 4, 0, 0, 0, 0, 0, 1), ([], 2, 1, 0, 0, 0, 0, 2), ([], 0, 1, 0, 0, 0, 97, 4), eD, ([], 28, 23, 3, 13, 0, 0, 7), eD, eD, ([], 5, 2, 0, 0, 0, 0, 8), ([], 4, 0, 0, 0, 0, 0, 9), ([], 2, 2, 0, 0, 0, 0, 10), ([], 0, 1, 0, 0, 0, 97, 12), eD, ([], 0, 1, 0, 0, 0, 122, 14), eD, ([], 28, 24, 4, 15, 0, 0, 17), eD],
  [eD, ([], 5, 2, 0, 0, 0, 0, 18), ([], 4, 0, 0, 0, 0, 0, 19), ([], 2, 2, 0, 0, 0, 0, 20), ([], 0, 1, 0, 0, 0, 101, 22), eD, ([], 28, 23, 3, 13, 0, 0, 25), eD, eD, ([], 5, 2, 0, 0, 0, 0, 26), ([], 4, 0, 0, 0, 0, 0, 27), ([], 2, 2, 0, 0, 0, 0, 28), ([], 0, 2, 0, 0, 0, 224, 31), eD, eD, ([], 0, 2, 0, 0, 0, 246, 34)],
  [eD, eD, ([], 28, 24, 4, 15, 0, 0, 37), eD, eD, ([], 5, 2, 0, 0, 0, 0, 38), ([], 4, 0, 0, 0, 0, 0, 39), ([], 2, 2, 0, 0, 0, 0, 40), ([], 0, 0, 0, 0, 0, 1, 41), ([], 28, 23, 3, 13, 0, 0, 44), eD, eD, ([], 5, 2, 0, 0, 0, 0, 45), ([], 4, 0, 0, 0, 0, 0, 46), ([], 2, 2, 0, 0, 0, 0, 47), ([], 0, 2, 0, 0, 0, 248, 50)],
  [eD, eD, ([], 0, 2, 0, 0, 0, 254, 53), eD, eD, ([], 28, 24, 4, 15, 0, 0, 56), eD, eD, ([], 5, 2, 0, 0, 0, 0, 57), ([], 4, 0, 0, 0, 0, 0, 58), ([], 2, 2, 0, 0, 0, 0, 59), ([], 0, 0, 0, 0, 0, 1, 60), ([], 28, 23, 3, 13, 0, 0, 63), eD, eD, ([], 2, 1, 0, 0, 0, 0, 64)],
  [([], 9, 1, 0, 0, 0, 0, 65), ([], 29, 0, 0, 0, 0, 0, 66)]]
set_option maxRecDepth 100000 in
theorem ok22 : okM 22 cd22 = true := by decide +kernel
def cd23 : List (List EM) := [[([], 4, 0, 0, 0, 0, 0, 1), ([], 2, 1, 0, 0, 0, 0, 2), ([], 0, 3, 0, 3, 0, 65535, 4), eD, ([], 27, 58, 2, 14, 5, 0, 7), eD, eD, ([], 4, 0, 0, 0, 0, 0, 8), ([], 2, 1, 0, 0, 0, 0, 9), ([], 0, 0, 0, 0, 0, 2, 10), ([], 9, 0, 0, 0, 0, 0, 11), ([], 2, 2, 0, 0, 0, 0, 12), ([], 27, 58, 2, 14, 5, 0, 15), eD, eD, ([], 2, 1, 0, 0, 0, 0, 16)],
  [([], 0, 0, 0, 0, 0, 4, 17), ([], 9, 0, 0, 0, 0, 0, 18), ([], 29, 0, 0, 0, 0, 0, 19)]]
set_option maxRecDepth 100000 in
theorem ok23 : okM 23 cd23 = true := by decide +kernel
def cd24 : List (List EM) := [[([], 2, 2, 0, 0, 0, 0, 1), ([], 5, 4, 1, 0, 0, 0, 3), eD, ([true, true, true, true, true], 2, 4, 1, 0, 0, 0, 5), eD, ([], 2, 3, 0, 0, 0, 0, 6), ([], 16, 4, 32, 0, 0, 0, 9), eD, eD, ([], 4, 0, 0, 0, 0, 0, 10), ([], 2, 1, 0, 0, 0, 0, 11), ([], 0, 0, 0, 0, 0, 2, 12), ([], 2, 4, 1, 0, 0, 0, 14), eD, ([], 2, 2, 0, 0, 0, 0, 15), ([], 9, 1, 0, 0, 0, 0, 16)],
  [([], 9, 2, 0, 0, 0, 0, 17), ([], 9, 0, 0, 0, 0, 0, 18), ([], 2, 4, 1, 0, 0, 0, 20), eD, ([], 0, 1, 0, 0, 0, 32, 22), eD, ([], 9, 1, 0, 0, 0, 0, 23), ([], 27, 58, 2, 14, 5, 0, 26), eD, eD, ([], 8, 4, 0, 0, 0, 1, 29), eD, eD, ([], 17, 0, 3, 0, 0, 0, 32), eD, eD],
  [([], 2, 1, 0, 0, 0, 0, 33), ([], 0, 0, 0, 0, 0, 2, 34), ([], 2, 3, 0, 0, 0, 0, 35), ([], 2, 2, 0, 0, 0, 0, 36), ([], 9, 1, 0, 0, 0, 0, 37), ([], 0, 0, 0, 0, 0, 1, 38), ([], 9, 0, 0, 0, 0, 0, 39), ([], 9, 2, 0, 0, 0, 0, 40), ([], 9, 0, 0, 0, 0, 0, 41), ([], 29, 0, 0, 0, 0, 0, 42)]]
set_option maxRecDepth 100000 in
theorem ok24 : okM 24 cd24 = true := by decide +kernel
end
section
/-! code tables, by program out of the printed bytecode, and their checks -/
def cd25 : List (List EM) := [[([], 4, 0, 0, 0, 0, 0, 1), ([], 19, 3, 1, 26, 0, 0, 4), eD, eD, ([], 4, 0, 0, 0, 0, 0, 5), ([], 19, 3, 0, 25, 0, 0, 8), eD, eD, ([], 21, 0, 102, 0, 0, 0, 9), ([], 16, 3, 29, 0, 0, 0, 12), eD, eD, ([], 4, 0, 0, 0, 0, 0, 13), ([], 19, 3, 0, 25, 0, 0, 16), eD, eD],
  [([], 4, 0, 0, 0, 0, 0, 17), ([], 24, 0, 0, 0, 0, 0, 18), ([], 19, 3, 1, 26, 0, 0, 21), eD, eD, ([], 25, 0, 0, 0, 0, 0, 22), ([], 0, 0, 0, 0, 0, 1, 23), ([], 9, 0, 0, 0, 0, 0, 24), ([], 20, 3, 1, 26, 0, 0, 27), eD, eD, ([], 2, 1, 0, 0, 0, 0, 28), ([], 23, 0, 102, 0, 0, 0, 29), ([], 31, 0, 0, 0, 0, 0, 30)]]
set_option maxRecDepth 100000 in
theorem ok25 : okM 25 cd25 = true := by decide +kernel
def cd26 : List (List EM) := [[([], 2, 1, 0, 0, 0, 0, 1), ([], 15, 2, 30, 0, 0, 0, 4), eD, eD, ([], 2, 1, 0, 0, 0, 0, 5), ([], 4, 0, 0, 0, 0, 0, 6), ([], 19, 3, 1, 26, 0, 0, 9), eD, eD, ([], 16, 3, 30, 0, 0, 0, 12), eD, eD, ([], 2, 1, 0, 0, 0, 0, 13), ([], 4, 0, 0, 0, 0, 0, 14), ([], 19, 3, 0, 25, 0, 0, 17), eD],
  [eD, ([], 21, 0, 102, 0, 0, 0, 18), ([], 16, 3, 30, 0, 0, 0, 21), eD, eD, ([], 4, 0, 0, 0, 0, 0, 22), ([], 19, 3, 0, 25, 0, 0, 25), eD, eD, ([], 2, 1, 0, 0, 0, 0, 26), ([], 22, 0, 102, 0, 0, 0, 27), ([], 17, 0, 31, 0, 0, 0, 30), eD, eD, ([], 0, 0, 0, 0, 0, 0, 31), ([], 29, 0, 0, 0, 0, 0, 32)]]
set_option maxRecDepth 100000 in
theorem ok26 : okM 26 cd26 = true := by decide +kernel
def cd27 : List (List EM) := [[([], 4, 0, 0, 0, 0, 0, 1), ([], 4, 0, 0, 0, 0, 0, 2), ([], 19, 3, 1, 26, 0, 0, 5), eD, eD, ([], 0, 0, 0, 0, 0, 1, 6), ([], 9, 1, 0, 0, 0, 0, 7), ([], 27, 26, 1, 64, 3, 0, 10), eD, eD, ([], 29, 0, 0, 0, 0, 0, 11)]]
set_option maxRecDepth 100000 in
theorem ok27 : okM 27 cd27 = true := by decide +kernel
def cd28 : List (List EM) := [[([], 4, 0, 0, 0, 0, 0, 1), ([], 0, 0, 0, 0, 0, 0, 2), ([], 20, 3, 1, 26, 0, 0, 5), eD, eD, ([], 2, 2, 0, 0, 0, 0, 6), ([], 5, 5, 1, 0, 0, 0, 8), eD, ([], 0, 0, 0, 0, 0, 0, 9), ([], 5, 6, 1, 0, 0, 0, 11), eD, ([true, true, false, true, true, true, true], 2, 6, 1, 0, 0, 0, 13), eD, ([], 2, 4, 1, 0, 0, 0, 15), eD, ([], 16, 3, 60, 0, 0, 0, 18)],
  [eD, eD, ([], 4, 1, 0, 0, 0, 0, 19), ([], 2, 5, 1, 0, 0, 0, 21), eD, ([], 27, 110, 1, 51, 9, 0, 24), eD, eD, ([], 15, 1, 29, 0, 0, 0, 27), eD, eD, ([], 0, 0, 0, 0, 0, 1, 28), ([], 29, 0, 0, 0, 0, 0, 29), ([], 4, 0, 0, 0, 0, 0, 30), ([], 2, 5, 1, 0, 0, 0, 32), eD],
  [([], 27, 25, 1, 52, 3, 0, 35), eD, eD, ([], 2, 3, 0, 0, 0, 0, 36), ([], 15, 0, 46, 0, 0, 0, 39), eD, eD, ([], 2, 5, 1, 0, 0, 0, 41), eD, ([], 0, 0, 0, 0, 0, 1, 42), ([], 9, 0, 0, 0, 0, 0, 43), ([], 17, 0, 52, 0, 0, 0, 46), eD, eD, ([], 4, 1, 0, 0, 0, 0, 47), ([], 2, 5, 1, 0, 0, 0, 49)],
  [eD, ([], 27, 111, 1, 53, 9, 0, 52), eD, eD, ([], 5, 5, 1, 0, 0, 0, 54), eD, ([], 8, 6, 0, 0, 0, 1, 57), eD, eD, ([], 17, 0, 11, 0, 0, 0, 60), eD, eD, ([], 2, 3, 0, 0, 0, 0, 61), ([], 15, 1, 75, 0, 0, 0, 64), eD, eD],
  [([], 2, 4, 1, 0, 0, 0, 66), eD, ([], 15, 0, 75, 0, 0, 0, 69), eD, eD, ([], 2, 5, 1, 0, 0, 0, 71), eD, ([], 0, 0, 0, 0, 0, -1, 72), ([], 16, 1, 79, 0, 0, 0, 75), eD, eD, ([], 0, 0, 0, 0, 0, 0, 76), ([], 17, 0, 80, 0, 0, 0, 79), eD, eD, ([], 0, 0, 0, 0, 0, 2, 80)],
  [([], 29, 0, 0, 0, 0, 0, 81)]]
set_option maxRecDepth 100000 in
theorem ok28 : okM 28 cd28 = true := by decide +kernel
def cd29 : List (List EM) := [[([], 4, 0, 0, 0, 0, 0, 1), ([], 0, 0, 0, 0, 0, 0, 2), ([], 20, 3, 1, 26, 0, 0, 5), eD, eD, ([], 2, 2, 0, 0, 0, 0, 6), ([], 5, 3, 0, 0, 0, 0, 7), ([], 0, 0, 0, 0, 0, 0, 8), ([], 5, 4, 1, 0, 0, 0, 10), eD, ([true, true, false, true, true], 2, 4, 1, 0, 0, 0, 12), eD, ([], 0, 1, 0, 0, 0, 102, 14), eD, ([], 16, 3, 42, 0, 0, 0, 17), eD],
  [eD, ([], 4, 1, 0, 0, 0, 0, 18), ([], 2, 3, 0, 0, 0, 0, 19), ([], 27, 110, 1, 51, 9, 0, 22), eD, eD, ([], 15, 0, 42, 0, 0, 0, 25), eD, eD, ([], 4, 0, 0, 0, 0, 0, 26), ([], 2, 3, 0, 0, 0, 0, 27), ([], 27, 25, 1, 52, 3, 0, 30), eD, eD, ([], 4, 1, 0, 0, 0, 0, 31), ([], 2, 3, 0, 0, 0, 0, 32)],
  [([], 27, 111, 1, 53, 9, 0, 35), eD, eD, ([], 5, 3, 0, 0, 0, 0, 36), ([], 8, 4, 0, 0, 0, 1, 39), eD, eD, ([], 17, 0, 10, 0, 0, 0, 42), eD, eD, ([], 31, 0, 0, 0, 0, 0, 43)]]
set_option maxRecDepth 100000 in
theorem ok29 : okM 29 cd29 = true := by decide +kernel
def cd30 : List (List EM) := [[([], 0, 0, 0, 0, 0, 0, 1), ([], 5, 1, 0, 0, 0, 0, 2), ([true, true, false], 2, 1, 0, 0, 0, 0, 3), ([], 4, 0, 0, 0, 0, 0, 4), ([], 19, 3, 1, 26, 0, 0, 7), eD, eD, ([], 16, 3, 44, 0, 0, 0, 10), eD, eD, ([], 0, 0, 0, 0, 0, 0, 11), ([], 5, 2, 0, 0, 0, 0, 12), ([true, true, true], 2, 2, 0, 0, 0, 0, 13), ([], 2, 1, 0, 0, 0, 0, 14), ([], 16, 3, 38, 0, 0, 0, 17), eD],
  [eD, ([], 4, 0, 0, 0, 0, 0, 18), ([], 2, 1, 0, 0, 0, 0, 19), ([], 27, 26, 1, 64, 3, 0, 22), eD, eD, ([], 4, 0, 0, 0, 0, 0, 23), ([], 2, 2, 0, 0, 0, 0, 24), ([], 27, 26, 1, 64, 3, 0, 27), eD, eD, ([], 16, 1, 32, 0, 0, 0, 30), eD, eD, ([], 0, 0, 0, 0, 0, 1, 31), ([], 29, 0, 0, 0, 1, 0, 32)],
  [([], 8, 2, 0, 0, 0, 1, 35), eD, eD, ([], 17, 0, 12, 0, 0, 0, 38), eD, eD, ([], 8, 1, 0, 0, 0, 1, 41), eD, eD, ([], 17, 0, 2, 0, 0, 0, 44), eD, eD, ([], 0, 0, 0, 0, 0, 0, 45), ([], 29, 0, 0, 0, 1, 0, 46)]]
set_option maxRecDepth 100000 in
theorem ok30 : okM 30 cd30 = true := by decide +kernel
def cd31 : List (List EM) := [[([], 0, 0, 0, 0, 0, 4, 1), ([], 4, 0, 0, 0, 0, 0, 2), ([], 19, 3, 1, 26, 0, 0, 5), eD, eD, ([], 9, 2, 0, 0, 0, 0, 6), ([], 29, 0, 0, 0, 0, 0, 7)]]
set_option maxRecDepth 100000 in
theorem ok31 : okM 31 cd31 = true := by decide +kernel
def cd32 : List (List EM) := [[([], 2, 1, 0, 0, 0, 0, 1), ([], 15, 2, 32, 0, 0, 0, 4), eD, eD, ([], 2, 1, 0, 0, 0, 0, 5), ([], 4, 0, 0, 0, 0, 0, 6), ([], 27, 31, 0, 63, 3, 0, 9), eD, eD, ([], 16, 3, 32, 0, 0, 0, 12), eD, eD, ([], 4, 0, 0, 0, 0, 0, 13), ([], 2, 1, 0, 0, 0, 0, 14), ([], 0, 0, 0, 0, 0, 4, 15), ([], 10, 0, 0, 0, 0, 0, 16)],
  [([], 27, 26, 1, 64, 3, 0, 19), eD, eD, ([], 28, 109, 1, 65, 0, 0, 22), eD, eD, ([], 0, 1, 0, 0, 0, 32, 24), eD, ([], 2, 1, 0, 0, 0, 0, 25), ([], 0, 0, 0, 0, 0, 4, 26), ([], 10, 1, 0, 0, 0, 0, 27), ([], 9, 2, 0, 0, 0, 0, 28), ([], 9, 0, 0, 0, 0, 0, 29), ([], 17, 0, 33, 0, 0, 0, 32), eD, eD],
  [([], 0, 0, 0, 0, 0, -1, 33), ([], 29, 0, 0, 0, 0, 0, 34)]]
set_option maxRecDepth 100000 in
theorem ok32 : okM 32 cd32 = true := by decide +kernel
def cd33 : List (List EM) := [[([], 4, 0, 0, 0, 0, 0, 1), ([], 2, 1, 0, 0, 0, 0, 2), ([], 20, 4, 15, 63, 0, 0, 5), eD, eD, ([], 4, 0, 0, 0, 0, 0, 6), ([], 2, 2, 0, 0, 0, 0, 7), ([], 20, 4, 16, 65, 0, 0, 10), eD, eD, ([], 4, 0, 0, 0, 0, 0, 11), ([], 2, 3, 0, 0, 0, 0, 12), ([], 20, 4, 17, 67, 0, 0, 15), eD, eD, ([], 2, 1, 0, 0, 0, 0, 16)],
  [([], 29, 0, 0, 0, 0, 0, 17)]]
set_option maxRecDepth 100000 in
theorem ok33 : okM 33 cd33 = true := by decide +kernel
def cd34 : List (List EM) := [[([], 4, 0, 0, 0, 0, 0, 1), ([], 19, 4, 1, 47, 0, 0, 4), eD, eD, ([], 0, 0, 0, 0, 0, 0, 5), ([], 27, 17, 1, 22, 1, 0, 8), eD, eD, ([], 5, 1, 0, 0, 0, 0, 9), ([], 2, 1, 0, 0, 0, 0, 10), ([], 15, 1, 34, 0, 0, 0, 13), eD, eD, ([], 4, 0, 0, 0, 0, 0, 14), ([], 19, 4, 1, 47, 0, 0, 17), eD],
  [eD, ([], 0, 2, 0, 0, 0, 256, 20), eD, eD, ([], 27, 17, 1, 22, 1, 0, 23), eD, eD, ([], 15, 1, 34, 0, 0, 0, 26), eD, eD, ([], 4, 0, 0, 0, 0, 0, 27), ([], 0, 0, 0, 0, 0, 1, 28), ([], 0, 0, 0, 0, 0, 0, 29), ([], 0, 0, 0, 0, 0, 0, 30), ([], 27, 33, 3, 27, 4, 0, 33), eD],
  [eD, ([], 29, 0, 0, 0, 0, 0, 34), ([true, true, false, false], 4, 0, 0, 0, 0, 0, 35), ([], 2, 1, 0, 0, 0, 0, 36), ([], 15, 1, 43, 0, 0, 0, 39), eD, eD, ([], 0, 0, 0, 0, 0, 1, 40), ([], 17, 0, 44, 0, 0, 0, 43), eD, eD, ([], 0, 0, 0, 0, 0, 0, 44), ([], 20, 4, 14, 61, 0, 0, 47), eD, eD, ([], 2, 1, 0, 0, 0, 0, 48)],
  [([], 15, 0, 55, 0, 0, 0, 51), eD, eD, ([], 0, 0, 0, 0, 0, 0, 52), ([], 17, 0, 58, 0, 0, 0, 55), eD, eD, ([], 0, 2, 0, 0, 0, 256, 58), eD, eD, ([true, false, false, false], 5, 2, 0, 0, 0, 0, 59), ([], 4, 0, 0, 0, 0, 0, 60), ([], 19, 4, 2, 48, 0, 0, 63), eD, eD, ([], 4, 0, 0, 0, 0, 0, 64)],
  [([], 19, 4, 0, 46, 0, 0, 67), eD, eD, ([], 2, 2, 0, 0, 0, 0, 68), ([], 0, 1, 0, 0, 0, 32, 70), eD, ([], 9, 0, 0, 0, 0, 0, 71), ([], 27, 56, 1, 28, 5, 0, 74), eD, eD, ([], 20, 9, 1, 11, 0, 0, 77), eD, eD, ([], 4, 0, 0, 0, 0, 0, 78), ([], 19, 4, 2, 48, 0, 0, 81), eD],
  [eD, ([], 4, 0, 0, 0, 0, 0, 82), ([], 19, 4, 0, 46, 0, 0, 85), eD, eD, ([], 2, 2, 0, 0, 0, 0, 86), ([], 0, 1, 0, 0, 0, 36, 88), eD, ([], 9, 0, 0, 0, 0, 0, 89), ([], 27, 56, 1, 28, 5, 0, 92), eD, eD, ([], 20, 9, 2, 14, 0, 0, 95), eD, eD, ([], 4, 0, 0, 0, 0, 0, 96)],
  [([], 19, 4, 2, 48, 0, 0, 99), eD, eD, ([], 0, 0, 0, 0, 0, 0, 100), ([], 27, 111, 1, 29, 9, 0, 103), eD, eD, ([], 0, 1, 0, 0, 0, -8, 105), eD, ([], 16, 0, 116, 0, 0, 0, 108), eD, eD, ([], 4, 0, 0, 0, 0, 0, 109), ([], 0, 0, 0, 0, 0, 2, 110), ([], 0, 0, 0, 0, 0, 0, 111), ([], 0, 0, 0, 0, 0, 0, 112)],
  [([], 27, 33, 3, 27, 4, 0, 115), eD, eD, ([], 29, 0, 0, 0, 0, 0, 116), ([], 4, 0, 0, 0, 0, 0, 117), ([], 19, 4, 2, 48, 0, 0, 120), eD, eD, ([], 0, 0, 0, 0, 0, 1, 121), ([], 27, 111, 1, 29, 9, 0, 124), eD, eD, ([], 0, 0, 0, 0, 0, -1, 125), ([], 16, 0, 136, 0, 0, 0, 128), eD, eD],
  [([], 4, 0, 0, 0, 0, 0, 129), ([], 0, 0, 0, 0, 0, 2, 130), ([], 0, 0, 0, 0, 0, 1, 131), ([], 0, 0, 0, 0, 0, 0, 132), ([], 27, 33, 3, 27, 4, 0, 135), eD, eD, ([], 29, 0, 0, 0, 0, 0, 136), ([], 4, 0, 0, 0, 0, 0, 137), ([], 27, 35, 0, 31, 4, 0, 140), eD, eD, ([], 5, 3, 0, 0, 0, 0, 141), ([], 2, 3, 0, 0, 0, 0, 142), ([], 15, 0, 153, 0, 0, 0, 145), eD],
  [eD, ([], 4, 0, 0, 0, 0, 0, 146), ([], 0, 0, 0, 0, 0, 3, 147), ([], 2, 3, 0, 0, 0, 0, 148), ([], 0, 0, 0, 0, 0, 0, 149), ([], 27, 33, 3, 27, 4, 0, 152), eD, eD, ([], 29, 0, 0, 0, 0, 0, 153), ([], 4, 0, 0, 0, 0, 0, 154), ([], 4, 0, 0, 0, 0, 0, 155), ([], 19, 4, 2, 48, 0, 0, 158), eD, eD, ([], 19, 9, 2, 14, 0, 0, 161), eD],
  [eD, ([], 28, 109, 1, 35, 0, 0, 164), eD, eD, ([], 27, 39, 1, 36, 4, 0, 167), eD, eD, ([], 15, 1, 184, 0, 0, 0, 170), eD, eD, ([], 4, 0, 0, 0, 0, 0, 171), ([], 0, 0, 0, 0, 0, 4, 172), ([], 4, 0, 0, 0, 0, 0, 173), ([], 19, 4, 2, 48, 0, 0, 176), eD, eD],
  [([], 19, 9, 2, 14, 0, 0, 179), eD, eD, ([], 0, 0, 0, 0, 0, 0, 180), ([], 27, 33, 3, 27, 4, 0, 183), eD, eD, ([], 29, 0, 0, 0, 0, 0, 184), ([], 4, 0, 0, 0, 0, 0, 185), ([], 4, 0, 0, 0, 0, 0, 186), ([], 19, 4, 2, 48, 0, 0, 189), eD, eD, ([], 19, 9, 2, 14, 0, 0, 192), eD, eD],
  [([], 28, 109, 1, 35, 0, 0, 195), eD, eD, ([], 0, 1, 0, 0, 0, 32, 197), eD, ([], 9, 0, 0, 0, 0, 0, 198), ([], 27, 40, 1, 41, 4, 0, 201), eD, eD, ([], 15, 1, 218, 0, 0, 0, 204), eD, eD, ([], 4, 0, 0, 0, 0, 0, 205), ([], 0, 0, 0, 0, 0, 4, 206), ([], 4, 0, 0, 0, 0, 0, 207), ([], 19, 4, 2, 48, 0, 0, 210)],
  [eD, eD, ([], 19, 9, 2, 14, 0, 0, 213), eD, eD, ([], 0, 0, 0, 0, 0, 1, 214), ([], 27, 33, 3, 27, 4, 0, 217), eD, eD, ([], 29, 0, 0, 0, 0, 0, 218), ([], 0, 0, 0, 0, 0, 0, 219), ([], 29, 0, 0, 0, 0, 0, 220)]]
set_option maxRecDepth 100000 in
theorem ok34 : okM 34 cd34 = true := by decide +kernel
def cd35 : List (List EM) := [[([], 0, 0, 0, 0, 0, 0, 1), ([], 5, 1, 0, 0, 0, 0, 2), ([true, true, false, false], 2, 1, 0, 0, 0, 0, 3), ([], 4, 0, 0, 0, 0, 0, 4), ([], 19, 4, 9, 55, 0, 0, 7), eD, eD, ([], 21, 0, 102, 0, 0, 0, 8), ([], 16, 3, 24, 0, 0, 0, 11), eD, eD, ([], 4, 0, 0, 0, 0, 0, 12), ([], 19, 4, 9, 55, 0, 0, 15), eD, eD, ([], 2, 1, 0, 0, 0, 0, 16)],
  [([], 0, 0, 0, 0, 0, 0, 17), ([], 23, 1, 102, 0, 0, 0, 18), ([], 8, 1, 0, 0, 0, 1, 21), eD, eD, ([], 17, 0, 2, 0, 0, 0, 24), eD, eD, ([], 4, 0, 0, 0, 0, 0, 25), ([], 19, 4, 2, 48, 0, 0, 28), eD, eD, ([], 19, 9, 2, 14, 0, 0, 31), eD, eD, ([], 5, 1, 0, 0, 0, 0, 32)],
  [([], 0, 0, 0, 0, 0, 0, 33), ([], 5, 2, 0, 0, 0, 0, 34), ([true, true, true, false], 2, 2, 0, 0, 0, 0, 35), ([], 0, 1, 0, 0, 0, 102, 37), eD, ([], 16, 3, 90, 0, 0, 0, 40), eD, eD, ([], 4, 0, 0, 0, 0, 0, 41), ([], 2, 1, 0, 0, 0, 0, 42), ([], 27, 36, 1, 32, 4, 0, 45), eD, eD, ([], 4, 0, 0, 0, 0, 0, 46), ([], 19, 4, 2, 48, 0, 0, 49), eD],
  [eD, ([], 2, 1, 0, 0, 0, 0, 50), ([], 27, 111, 1, 29, 9, 0, 53), eD, eD, ([], 5, 3, 0, 0, 0, 0, 54), ([], 2, 3, 0, 0, 0, 0, 55), ([], 0, 0, 0, 0, 0, -1, 56), ([], 16, 1, 61, 0, 0, 0, 59), eD, eD, ([], 0, 0, 0, 0, 0, 0, 60), ([], 29, 0, 0, 0, 0, 0, 61), ([], 4, 0, 0, 0, 0, 0, 62), ([], 19, 4, 2, 48, 0, 0, 65), eD],
  [eD, ([], 2, 3, 0, 0, 0, 0, 66), ([], 27, 110, 1, 33, 9, 0, 69), eD, eD, ([], 15, 0, 80, 0, 0, 0, 72), eD, eD, ([], 4, 0, 0, 0, 0, 0, 73), ([], 2, 3, 0, 0, 0, 0, 74), ([], 27, 37, 1, 34, 4, 0, 77), eD, eD, ([], 15, 0, 82, 0, 0, 0, 80), eD, eD],
  [([], 2, 1, 0, 0, 0, 0, 81), ([], 29, 0, 0, 0, 0, 0, 82), ([], 2, 3, 0, 0, 0, 0, 83), ([], 5, 1, 0, 0, 0, 0, 84), ([], 8, 2, 0, 0, 0, 1, 87), eD, eD, ([], 17, 0, 34, 0, 0, 0, 90), eD, eD, ([], 2, 1, 0, 0, 0, 0, 91), ([], 29, 0, 0, 0, 0, 0, 92)]]
set_option maxRecDepth 100000 in
theorem ok35 : okM 35 cd35 = true := by decide +kernel
def cd36 : List (List EM) := [[([], 2, 1, 0, 0, 0, 0, 1), ([], 15, 2, 20, 0, 0, 0, 4), eD, eD, ([], 2, 1, 0, 0, 0, 0, 5), ([], 4, 0, 0, 0, 0, 0, 6), ([], 19, 4, 9, 55, 0, 0, 9), eD, eD, ([], 21, 0, 102, 0, 0, 0, 10), ([], 16, 3, 20, 0, 0, 0, 13), eD, eD, ([], 4, 0, 0, 0, 0, 0, 14), ([], 19, 4, 9, 55, 0, 0, 17), eD],
  [eD, ([], 2, 1, 0, 0, 0, 0, 18), ([], 0, 0, 0, 0, 0, 1, 19), ([], 23, 1, 102, 0, 0, 0, 20), ([], 31, 0, 0, 0, 0, 0, 21)]]
set_option maxRecDepth 100000 in
theorem ok36 : okM 36 cd36 = true := by decide +kernel
def cd37 : List (List EM) := [[([], 2, 1, 0, 0, 0, 0, 1), ([], 15, 2, 26, 0, 0, 0, 4), eD, eD, ([], 2, 1, 0, 0, 0, 0, 5), ([], 4, 0, 0, 0, 0, 0, 6), ([], 19, 4, 9, 55, 0, 0, 9), eD, eD, ([], 21, 0, 102, 0, 0, 0, 10), ([], 16, 3, 26, 0, 0, 0, 13), eD, eD, ([], 4, 0, 0, 0, 0, 0, 14), ([], 19, 4, 9, 55, 0, 0, 17), eD],
  [eD, ([], 2, 1, 0, 0, 0, 0, 18), ([], 22, 1, 102, 0, 0, 0, 19), ([], 15, 0, 26, 0, 0, 0, 22), eD, eD, ([], 0, 0, 0, 0, 0, 1, 23), ([], 17, 0, 27, 0, 0, 0, 26), eD, eD, ([], 0, 0, 0, 0, 0, 0, 27), ([], 29, 0, 0, 0, 1, 0, 28)]]
set_option maxRecDepth 100000 in
theorem ok37 : okM 37 cd37 = true := by decide +kernel
def cd38 : List (List EM) := [[([], 4, 0, 0, 0, 0, 0, 1), ([], 19, 4, 2, 48, 0, 0, 4), eD, eD, ([], 2, 1, 0, 0, 0, 0, 5), ([], 27, 110, 1, 33, 9, 0, 8), eD, eD, ([], 15, 0, 31, 0, 0, 0, 11), eD, eD, ([], 4, 0, 0, 0, 0, 0, 12), ([], 2, 1, 0, 0, 0, 0, 13), ([], 27, 37, 1, 34, 4, 0, 16), eD, eD],
  [([], 15, 1, 31, 0, 0, 0, 19), eD, eD, ([], 4, 0, 0, 0, 0, 0, 20), ([], 19, 4, 2, 48, 0, 0, 23), eD, eD, ([], 2, 1, 0, 0, 0, 0, 24), ([], 27, 111, 1, 29, 9, 0, 27), eD, eD, ([], 0, 0, 0, 0, 0, -1, 28), ([], 16, 0, 33, 0, 0, 0, 31), eD, eD, ([], 0, 0, 0, 0, 0, 0, 32)],
  [([], 29, 0, 0, 0, 1, 0, 33), ([], 4, 0, 0, 0, 0, 0, 34), ([], 2, 1, 0, 0, 0, 0, 35), ([], 27, 36, 1, 32, 4, 0, 38), eD, eD, ([], 0, 0, 0, 0, 0, 1, 39), ([], 29, 0, 0, 0, 1, 0, 40)]]
set_option maxRecDepth 100000 in
theorem ok38 : okM 38 cd38 = true := by decide +kernel
def cd39 : List (List EM) := [[([], 4, 0, 0, 0, 0, 0, 1), ([], 19, 4, 0, 46, 0, 0, 4), eD, eD, ([], 2, 1, 0, 0, 0, 0, 5), ([], 27, 54, 1, 37, 5, 0, 8), eD, eD, ([], 0, 2, 0, 0, 0, 129, 11), eD, eD, ([], 16, 1, 31, 0, 0, 0, 14), eD, eD, ([], 4, 0, 0, 0, 0, 0, 15), ([], 19, 4, 0, 46, 0, 0, 18)],
  [eD, eD, ([], 2, 1, 0, 0, 0, 0, 19), ([], 0, 0, 0, 0, 0, 1, 20), ([], 9, 0, 0, 0, 0, 0, 21), ([], 2, 1, 0, 0, 0, 0, 22), ([], 0, 1, 0, 0, 0, 20, 24), eD, ([], 9, 0, 0, 0, 0, 0, 25), ([], 27, 61, 2, 38, 5, 0, 28), eD, eD, ([], 15, 1, 33, 0, 0, 0, 31), eD, eD, ([], 0, 0, 0, 0, 0, 0, 32)],
  [([], 29, 0, 0, 0, 1, 0, 33), ([], 4, 0, 0, 0, 0, 0, 34), ([], 19, 4, 0, 46, 0, 0, 37), eD, eD, ([], 2, 1, 0, 0, 0, 0, 38), ([], 0, 1, 0, 0, 0, 24, 40), eD, ([], 9, 0, 0, 0, 0, 0, 41), ([], 27, 56, 1, 28, 5, 0, 44), eD, eD, ([], 4, 0, 0, 0, 0, 0, 45), ([], 19, 4, 2, 48, 0, 0, 48), eD, eD],
  [([], 19, 9, 1, 11, 0, 0, 51), eD, eD, ([], 0, 1, 0, 0, 0, 7, 53), eD, ([], 9, 0, 0, 0, 0, 0, 54), ([], 0, 1, 0, 0, 0, 8, 56), eD, ([], 10, 0, 0, 0, 0, 0, 57), ([], 16, 1, 78, 0, 0, 0, 60), eD, eD, ([], 4, 0, 0, 0, 0, 0, 61), ([], 19, 4, 0, 46, 0, 0, 64), eD, eD],
  [([], 2, 1, 0, 0, 0, 0, 65), ([], 0, 1, 0, 0, 0, 28, 67), eD, ([], 9, 0, 0, 0, 0, 0, 68), ([], 2, 1, 0, 0, 0, 0, 69), ([], 0, 1, 0, 0, 0, 32, 71), eD, ([], 9, 0, 0, 0, 0, 0, 72), ([], 27, 61, 2, 38, 5, 0, 75), eD, eD, ([], 15, 1, 80, 0, 0, 0, 78), eD, eD, ([], 0, 0, 0, 0, 0, 0, 79), ([], 29, 0, 0, 0, 1, 0, 80)],
  [([], 4, 0, 0, 0, 0, 0, 81), ([], 19, 4, 2, 48, 0, 0, 84), eD, eD, ([], 4, 0, 0, 0, 0, 0, 85), ([], 19, 4, 0, 46, 0, 0, 88), eD, eD, ([], 2, 1, 0, 0, 0, 0, 89), ([], 0, 1, 0, 0, 0, 20, 91), eD, ([], 9, 0, 0, 0, 0, 0, 92), ([], 27, 56, 1, 28, 5, 0, 95), eD, eD, ([], 20, 9, 3, 17, 0, 0, 98)],
  [eD, eD, ([], 4, 0, 0, 0, 0, 0, 99), ([], 4, 0, 0, 0, 0, 0, 100), ([], 19, 4, 2, 48, 0, 0, 103), eD, eD, ([], 19, 9, 3, 17, 0, 0, 106), eD, eD, ([], 27, 38, 1, 40, 4, 0, 109), eD, eD, ([], 29, 0, 0, 0, 1, 0, 110)]]
set_option maxRecDepth 100000 in
theorem ok39 : okM 39 cd39 = true := by decide +kernel
def cd40 : List (List EM) := [[([], 4, 0, 0, 0, 0, 0, 1), ([], 19, 4, 0, 46, 0, 0, 4), eD, eD, ([], 2, 1, 0, 0, 0, 0, 5), ([], 27, 54, 1, 37, 5, 0, 8), eD, eD, ([], 0, 2, 0, 0, 0, 130, 11), eD, eD, ([], 16, 1, 48, 0, 0, 0, 14), eD, eD, ([], 4, 0, 0, 0, 0, 0, 15), ([], 19, 4, 0, 46, 0, 0, 18)],
  [eD, eD, ([], 2, 1, 0, 0, 0, 0, 19), ([], 0, 0, 0, 0, 0, 1, 20), ([], 9, 0, 0, 0, 0, 0, 21), ([], 2, 1, 0, 0, 0, 0, 22), ([], 0, 0, 0, 0, 0, 4, 23), ([], 9, 0, 0, 0, 0, 0, 24), ([], 27, 61, 2, 38, 5, 0, 27), eD, eD, ([], 15, 0, 48, 0, 0, 0, 30), eD, eD, ([], 4, 0, 0, 0, 0, 0, 31), ([], 19, 4, 0, 46, 0, 0, 34)],
  [eD, eD, ([], 2, 1, 0, 0, 0, 0, 35), ([], 0, 1, 0, 0, 0, 8, 37), eD, ([], 9, 0, 0, 0, 0, 0, 38), ([], 2, 1, 0, 0, 0, 0, 39), ([], 0, 1, 0, 0, 0, 20, 41), eD, ([], 9, 0, 0, 0, 0, 0, 42), ([], 27, 61, 2, 38, 5, 0, 45), eD, eD, ([], 15, 1, 50, 0, 0, 0, 48), eD, eD],
  [([], 0, 0, 0, 0, 0, 0, 49), ([], 29, 0, 0, 0, 1, 0, 50), ([], 4, 0, 0, 0, 0, 0, 51), ([], 19, 4, 0, 46, 0, 0, 54), eD, eD, ([], 2, 1, 0, 0, 0, 0, 55), ([], 0, 1, 0, 0, 0, 24, 57), eD, ([], 9, 0, 0, 0, 0, 0, 58), ([], 27, 56, 1, 28, 5, 0, 61), eD, eD, ([], 5, 2, 0, 0, 0, 0, 62), ([], 2, 2, 0, 0, 0, 0, 63), ([], 0, 0, 0, 0, 0, 2, 64)],
  [([], 16, 2, 98, 0, 0, 0, 67), eD, eD, ([], 2, 2, 0, 0, 0, 0, 68), ([], 0, 2, 0, 0, 0, 128, 71), eD, eD, ([], 16, 4, 98, 0, 0, 0, 74), eD, eD, ([], 2, 2, 0, 0, 0, 0, 75), ([], 0, 0, 0, 0, 0, 2, 76), ([], 10, 1, 0, 0, 0, 0, 77), ([], 15, 1, 98, 0, 0, 0, 80), eD, eD],
  [([], 4, 0, 0, 0, 0, 0, 81), ([], 19, 4, 0, 46, 0, 0, 84), eD, eD, ([], 2, 1, 0, 0, 0, 0, 85), ([], 0, 1, 0, 0, 0, 28, 87), eD, ([], 9, 0, 0, 0, 0, 0, 88), ([], 2, 1, 0, 0, 0, 0, 89), ([], 0, 1, 0, 0, 0, 32, 91), eD, ([], 9, 0, 0, 0, 0, 0, 92), ([], 27, 61, 2, 38, 5, 0, 95), eD, eD, ([], 15, 1, 100, 0, 0, 0, 98)],
  [eD, eD, ([], 0, 0, 0, 0, 0, 0, 99), ([], 29, 0, 0, 0, 1, 0, 100), ([], 4, 0, 0, 0, 0, 0, 101), ([], 19, 4, 0, 46, 0, 0, 104), eD, eD, ([], 2, 1, 0, 0, 0, 0, 105), ([], 0, 1, 0, 0, 0, 20, 107), eD, ([], 9, 0, 0, 0, 0, 0, 108), ([], 27, 56, 1, 28, 5, 0, 111), eD, eD, ([], 5, 3, 0, 0, 0, 0, 112)],
  [([], 4, 0, 0, 0, 0, 0, 113), ([], 2, 3, 0, 0, 0, 0, 114), ([], 27, 38, 1, 40, 4, 0, 117), eD, eD, ([], 15, 1, 122, 0, 0, 0, 120), eD, eD, ([], 0, 0, 0, 0, 0, 0, 121), ([], 29, 0, 0, 0, 1, 0, 122), ([], 4, 0, 0, 0, 0, 0, 123), ([], 19, 4, 0, 46, 0, 0, 126), eD, eD, ([], 2, 3, 0, 0, 0, 0, 127), ([], 28, 109, 1, 35, 0, 0, 130)],
  [eD, eD, ([], 2, 2, 0, 0, 0, 0, 131), ([], 28, 21, 3, 42, 0, 0, 134), eD, eD, ([], 4, 0, 0, 0, 0, 0, 135), ([], 19, 4, 0, 46, 0, 0, 138), eD, eD, ([], 2, 1, 0, 0, 0, 0, 139), ([], 0, 0, 0, 0, 0, 4, 140), ([], 9, 0, 0, 0, 0, 0, 141), ([], 27, 56, 1, 28, 5, 0, 144), eD, eD],
  [([], 16, 0, 149, 0, 0, 0, 147), eD, eD, ([], 0, 0, 0, 0, 0, 0, 148), ([], 29, 0, 0, 0, 1, 0, 149), ([], 4, 0, 0, 0, 0, 0, 150), ([], 19, 4, 4, 50, 0, 0, 153), eD, eD, ([], 2, 3, 0, 0, 0, 0, 154), ([], 28, 109, 1, 35, 0, 0, 157), eD, eD, ([], 2, 2, 0, 0, 0, 0, 158), ([], 27, 18, 2, 43, 2, 0, 161), eD],
  [eD, ([], 29, 0, 0, 0, 1, 0, 162)]]
set_option maxRecDepth 100000 in
theorem ok40 : okM 40 cd40 = true := by decide +kernel
def cd41 : List (List EM) := [[([], 4, 0, 0, 0, 0, 0, 1), ([], 27, 51, 0, 116, 4, 0, 4), eD, eD, ([], 15, 0, 11, 0, 0, 0, 7), eD, eD, ([], 0, 0, 0, 0, 0, 0, 8), ([], 17, 0, 19, 0, 0, 0, 11), eD, eD, ([], 4, 0, 0, 0, 0, 0, 12), ([], 0, 1, 0, 0, 0, 9, 14), eD, ([], 0, 0, 0, 0, 0, 0, 15), ([], 0, 0, 0, 0, 0, 0, 16)],
  [([], 27, 33, 3, 27, 4, 0, 19), eD, eD, ([], 29, 0, 0, 0, 0, 0, 20)]]
set_option maxRecDepth 100000 in
theorem ok41 : okM 41 cd41 = true := by decide +kernel
def cd42 : List (List EM) := [[([], 0, 0, 0, 0, 0, 0, 1), ([], 5, 1, 0, 0, 0, 0, 2), ([true, true], 2, 1, 0, 0, 0, 0, 3), ([], 0, 2, 0, 0, 0, 256, 6), eD, eD, ([], 16, 3, 42, 0, 0, 0, 9), eD, eD, ([], 4, 0, 0, 0, 0, 0, 10), ([], 19, 4, 14, 61, 0, 0, 13), eD, eD, ([], 15, 0, 42, 0, 0, 0, 16), eD, eD],
  [([], 4, 0, 0, 0, 0, 0, 17), ([], 19, 4, 0, 46, 0, 0, 20), eD, eD, ([], 2, 1, 0, 0, 0, 0, 21), ([], 4, 0, 0, 0, 0, 0, 22), ([], 19, 4, 0, 46, 0, 0, 25), eD, eD, ([], 0, 2, 0, 0, 0, 256, 28), eD, eD, ([], 2, 1, 0, 0, 0, 0, 29), ([], 9, 0, 0, 0, 0, 0, 30), ([], 27, 54, 1, 37, 5, 0, 33), eD],
  [eD, ([], 27, 57, 2, 68, 5, 0, 36), eD, eD, ([], 8, 1, 0, 0, 0, 1, 39), eD, eD, ([], 17, 0, 2, 0, 0, 0, 42), eD, eD, ([], 4, 0, 0, 0, 0, 0, 43), ([], 19, 4, 0, 46, 0, 0, 46), eD, eD, ([], 27, 64, 0, 135, 5, 0, 49), eD],
  [eD, ([], 29, 0, 0, 0, 1, 0, 50)]]
set_option maxRecDepth 100000 in
theorem ok42 : okM 42 cd42 = true := by decide +kernel
def cd43 : List (List EM) := [[([], 4, 0, 0, 0, 0, 0, 1), ([], 19, 4, 0, 46, 0, 0, 4), eD, eD, ([], 0, 1, 0, 0, 0, 8, 6), eD, ([], 0, 1, 0, 0, 0, 14, 8), eD, ([], 27, 65, 2, 137, 5, 0, 11), eD, eD, ([], 15, 0, 24, 0, 0, 0, 14), eD, eD, ([], 4, 0, 0, 0, 0, 0, 15), ([], 19, 4, 0, 46, 0, 0, 18)],
  [eD, eD, ([], 27, 64, 0, 135, 5, 0, 21), eD, eD, ([], 15, 1, 26, 0, 0, 0, 24), eD, eD, ([], 0, 0, 0, 0, 0, 0, 25), ([], 29, 0, 0, 0, 1, 0, 26), ([], 4, 0, 0, 0, 0, 0, 27), ([], 27, 51, 0, 116, 4, 0, 30), eD, eD, ([], 15, 1, 47, 0, 0, 0, 33), eD],
  [eD, ([], 4, 0, 0, 0, 0, 0, 34), ([], 24, 0, 0, 0, 0, 0, 35), ([], 19, 4, 13, 60, 0, 0, 38), eD, eD, ([], 0, 0, 0, 0, 0, 1, 39), ([], 9, 0, 0, 0, 0, 0, 40), ([], 20, 4, 13, 60, 0, 0, 43), eD, eD, ([], 4, 0, 0, 0, 0, 0, 44), ([], 27, 52, 0, 138, 4, 0, 47), eD, eD, ([], 4, 0, 0, 0, 0, 0, 48)],
  [([], 19, 4, 0, 46, 0, 0, 51), eD, eD, ([], 27, 64, 0, 135, 5, 0, 54), eD, eD, ([], 29, 0, 0, 0, 1, 0, 55)]]
set_option maxRecDepth 100000 in
theorem ok43 : okM 43 cd43 = true := by decide +kernel
def cd44 : List (List EM) := [[([], 4, 0, 0, 0, 0, 0, 1), ([], 2, 1, 0, 0, 0, 0, 2), ([], 20, 4, 12, 58, 0, 0, 5), eD, eD, ([], 4, 0, 0, 0, 0, 0, 6), ([], 0, 0, 0, 0, 0, 0, 7), ([], 20, 4, 13, 60, 0, 0, 10), eD, eD, ([], 4, 0, 0, 0, 0, 0, 11), ([], 19, 4, 10, 56, 0, 0, 14), eD, eD, ([], 0, 0, 0, 0, 0, 0, 15), ([], 0, 0, 0, 0, 0, 0, 16)],
  [([], 23, 0, 102, 0, 0, 0, 17), ([], 4, 0, 0, 0, 0, 0, 18), ([], 0, 0, 0, 0, 0, 1, 19), ([], 20, 4, 11, 57, 0, 0, 22), eD, eD, ([], 0, 0, 0, 0, 0, 0, 23), ([], 5, 2, 0, 0, 0, 0, 24), ([true, false, true], 2, 2, 0, 0, 0, 0, 25), ([], 4, 0, 0, 0, 0, 0, 26), ([], 19, 4, 11, 57, 0, 0, 29), eD, eD, ([], 16, 3, 65, 0, 0, 0, 32), eD, eD],
  [([], 2, 2, 0, 0, 0, 0, 33), ([], 4, 0, 0, 0, 0, 0, 34), ([], 19, 4, 10, 56, 0, 0, 37), eD, eD, ([], 21, 0, 102, 0, 0, 0, 38), ([], 16, 3, 65, 0, 0, 0, 41), eD, eD, ([], 4, 0, 0, 0, 0, 0, 42), ([], 4, 0, 0, 0, 0, 0, 43), ([], 19, 4, 10, 56, 0, 0, 46), eD, eD, ([], 2, 2, 0, 0, 0, 0, 47), ([], 22, 0, 102, 0, 0, 0, 48)],
  [([], 27, 45, 1, 47, 4, 0, 51), eD, eD, ([], 15, 1, 59, 0, 0, 0, 54), eD, eD, ([], 4, 0, 0, 0, 0, 0, 55), ([], 19, 4, 15, 63, 0, 0, 58), eD, eD, ([], 29, 0, 0, 0, 0, 0, 59), ([], 8, 2, 0, 0, 0, 1, 62), eD, eD, ([], 17, 0, 24, 0, 0, 0, 65), eD],
  [eD, ([], 0, 0, 0, 0, 0, 0, 66), ([], 29, 0, 0, 0, 0, 0, 67)]]
set_option maxRecDepth 100000 in
theorem ok44 : okM 44 cd44 = true := by decide +kernel
def cd45 : List (List EM) := [[([], 4, 0, 0, 0, 0, 0, 1), ([], 19, 4, 5, 51, 0, 0, 4), eD, eD, ([], 2, 1, 0, 0, 0, 0, 5), ([], 4, 0, 0, 0, 0, 0, 6), ([], 19, 4, 6, 52, 0, 0, 9), eD, eD, ([], 27, 127, 2, 48, 10, 0, 12), eD, eD, ([], 0, 0, 0, 0, 0, 0, 13), ([], 5, 2, 0, 0, 0, 0, 14), ([], 2, 1, 0, 0, 0, 0, 15), ([], 15, 1, 22, 0, 0, 0, 18)],
  [eD, eD, ([], 0, 0, 0, 0, 0, 2, 19), ([], 17, 0, 23, 0, 0, 0, 22), eD, eD, ([], 0, 0, 0, 0, 0, 0, 23), ([], 5, 3, 0, 0, 0, 0, 24), ([], 2, 3, 0, 0, 0, 0, 25), ([], 5, 4, 1, 0, 0, 0, 27), eD, ([true, false, true, true, true, false], 2, 4, 1, 0, 0, 0, 29), eD, ([], 4, 0, 0, 0, 0, 0, 30), ([], 19, 4, 6, 52, 0, 0, 33), eD],
  [eD, ([], 27, 31, 0, 61, 3, 0, 36), eD, eD, ([], 16, 3, 159, 0, 0, 0, 39), eD, eD, ([], 2, 4, 1, 0, 0, 0, 41), eD, ([], 2, 3, 0, 0, 0, 0, 42), ([], 16, 3, 48, 0, 0, 0, 45), eD, eD, ([], 17, 0, 153, 0, 0, 0, 48), eD, eD],
  [([], 2, 4, 1, 0, 0, 0, 50), eD, ([], 0, 0, 0, 0, 0, 1, 51), ([], 9, 0, 0, 0, 0, 0, 52), ([], 5, 3, 0, 0, 0, 0, 53), ([], 4, 0, 0, 0, 0, 0, 54), ([], 19, 4, 0, 46, 0, 0, 57), eD, eD, ([], 4, 0, 0, 0, 0, 0, 58), ([], 19, 4, 6, 52, 0, 0, 61), eD, eD, ([], 2, 4, 1, 0, 0, 0, 63), eD, ([], 27, 32, 1, 62, 3, 0, 66)],
  [eD, eD, ([], 27, 54, 1, 37, 5, 0, 69), eD, eD, ([], 5, 5, 1, 0, 0, 0, 71), eD, ([], 2, 2, 0, 0, 0, 0, 72), ([], 15, 0, 112, 0, 0, 0, 75), eD, eD, ([], 2, 5, 1, 0, 0, 0, 77), eD, ([], 15, 0, 112, 0, 0, 0, 80), eD, eD],
  [([], 4, 0, 0, 0, 0, 0, 81), ([], 2, 4, 1, 0, 0, 0, 83), eD, ([], 0, 0, 0, 0, 0, 5, 84), ([], 27, 46, 2, 66, 4, 0, 87), eD, eD, ([], 15, 1, 92, 0, 0, 0, 90), eD, eD, ([], 0, 0, 0, 0, 0, 0, 91), ([], 29, 0, 0, 0, 1, 0, 92), ([], 4, 0, 0, 0, 0, 0, 93), ([], 19, 4, 0, 46, 0, 0, 96), eD, eD],
  [([], 4, 0, 0, 0, 0, 0, 97), ([], 19, 4, 6, 52, 0, 0, 100), eD, eD, ([], 2, 4, 1, 0, 0, 0, 102), eD, ([], 27, 32, 1, 62, 3, 0, 105), eD, eD, ([], 0, 0, 0, 0, 0, 0, 106), ([], 27, 57, 2, 68, 5, 0, 109), eD, eD, ([], 17, 0, 138, 0, 0, 0, 112), eD, eD],
  [([true, false, true, true, true, true], 2, 5, 1, 0, 0, 0, 114), eD, ([], 0, 2, 0, 0, 0, 128, 117), eD, eD, ([], 16, 2, 138, 0, 0, 0, 120), eD, eD, ([], 2, 4, 1, 0, 0, 0, 122), eD, ([], 4, 0, 0, 0, 0, 0, 123), ([], 2, 4, 1, 0, 0, 0, 125), eD, ([], 27, 47, 1, 69, 4, 0, 128), eD, eD],
  [([], 9, 0, 0, 0, 0, 0, 129), ([], 5, 3, 0, 0, 0, 0, 130), ([], 2, 3, 0, 0, 0, 0, 131), ([], 2, 4, 1, 0, 0, 0, 133), eD, ([], 16, 1, 138, 0, 0, 0, 136), eD, eD, ([], 0, 0, 0, 0, 0, 0, 137), ([], 29, 0, 0, 0, 1, 0, 138), ([true, false, true, true, true, true], 2, 2, 0, 0, 0, 0, 139), ([], 15, 1, 147, 0, 0, 0, 142), eD, eD, ([], 2, 5, 1, 0, 0, 0, 144), eD],
  [([], 15, 1, 151, 0, 0, 0, 147), eD, eD, ([], 0, 0, 0, 0, 0, 1, 148), ([], 17, 0, 152, 0, 0, 0, 151), eD, eD, ([], 0, 0, 0, 0, 0, 0, 152), ([], 5, 2, 0, 0, 0, 0, 153), ([], 8, 4, 0, 0, 0, 1, 156), eD, eD, ([], 17, 0, 27, 0, 0, 0, 159), eD, eD, ([], 0, 0, 0, 0, 0, 1, 160)],
  [([], 29, 0, 0, 0, 1, 0, 161)]]
set_option maxRecDepth 100000 in
theorem ok45 : okM 45 cd45 = true := by decide +kernel
def cd46 : List (List EM) := [[([], 4, 0, 0, 0, 0, 0, 1), ([], 19, 4, 12, 58, 0, 0, 4), eD, eD, ([], 15, 0, 20, 0, 0, 0, 7), eD, eD, ([], 4, 0, 0, 0, 0, 0, 8), ([], 24, 0, 0, 0, 0, 0, 9), ([], 19, 4, 13, 60, 0, 0, 12), eD, eD, ([], 0, 0, 0, 0, 0, 1, 13), ([], 9, 0, 0, 0, 0, 0, 14), ([], 20, 4, 13, 60, 0, 0, 17), eD],
  [eD, ([], 17, 0, 39, 0, 0, 0, 20), eD, eD, ([], 4, 0, 0, 0, 0, 0, 21), ([], 2, 2, 0, 0, 0, 0, 22), ([], 4, 0, 0, 0, 0, 0, 23), ([], 19, 4, 6, 52, 0, 0, 26), eD, eD, ([], 2, 1, 0, 0, 0, 0, 27), ([], 0, 0, 0, 0, 0, 4, 28), ([], 10, 0, 0, 0, 0, 0, 29), ([], 27, 26, 1, 67, 3, 0, 32), eD, eD],
  [([], 2, 1, 0, 0, 0, 0, 33), ([], 0, 0, 0, 0, 0, 4, 34), ([], 10, 1, 0, 0, 0, 0, 35), ([], 27, 33, 3, 27, 4, 0, 38), eD, eD, ([], 26, 0, 0, 0, 0, 0, 39), ([], 4, 0, 0, 0, 0, 0, 40), ([], 19, 4, 12, 58, 0, 0, 43), eD, eD, ([], 29, 0, 0, 0, 1, 0, 44)]]
set_option maxRecDepth 100000 in
theorem ok46 : okM 46 cd46 = true := by decide +kernel
def cd47 : List (List EM) := [[([], 4, 0, 0, 0, 0, 0, 1), ([], 19, 4, 6, 52, 0, 0, 4), eD, eD, ([], 2, 1, 0, 0, 0, 0, 5), ([], 27, 32, 1, 62, 3, 0, 8), eD, eD, ([], 5, 2, 0, 0, 0, 0, 9), ([], 4, 0, 0, 0, 0, 0, 10), ([], 19, 4, 6, 52, 0, 0, 13), eD, eD, ([], 2, 1, 0, 0, 0, 0, 14), ([], 0, 0, 0, 0, 0, 2, 15), ([], 9, 0, 0, 0, 0, 0, 16)],
  [([], 27, 32, 1, 62, 3, 0, 19), eD, eD, ([], 5, 3, 0, 0, 0, 0, 20), ([], 2, 1, 0, 0, 0, 0, 21), ([], 0, 0, 0, 0, 0, 2, 22), ([], 10, 1, 0, 0, 0, 0, 23), ([], 15, 1, 58, 0, 0, 0, 26), eD, eD, ([], 4, 0, 0, 0, 0, 0, 27), ([], 19, 4, 3, 49, 0, 0, 30), eD, eD, ([], 2, 2, 0, 0, 0, 0, 31), ([], 2, 3, 0, 0, 0, 0, 32)],
  [([], 4, 0, 0, 0, 0, 0, 33), ([], 19, 4, 6, 52, 0, 0, 36), eD, eD, ([], 27, 31, 0, 61, 3, 0, 39), eD, eD, ([], 2, 1, 0, 0, 0, 0, 40), ([], 9, 1, 0, 0, 0, 0, 41), ([], 4, 0, 0, 0, 0, 0, 42), ([], 19, 4, 2, 48, 0, 0, 45), eD, eD, ([], 19, 9, 1, 11, 0, 0, 48), eD, eD],
  [([], 4, 0, 0, 0, 0, 0, 49), ([], 19, 4, 8, 54, 0, 0, 52), eD, eD, ([], 27, 96, 5, 70, 8, 0, 55), eD, eD, ([], 15, 1, 79, 0, 0, 0, 58), eD, eD, ([], 4, 0, 0, 0, 0, 0, 59), ([], 2, 1, 0, 0, 0, 0, 60), ([], 0, 0, 0, 0, 0, 5, 61), ([], 27, 46, 2, 66, 4, 0, 64), eD, eD],
  [([], 15, 1, 69, 0, 0, 0, 67), eD, eD, ([], 0, 0, 0, 0, 0, 0, 68), ([], 29, 0, 0, 0, 0, 0, 69), ([], 4, 0, 0, 0, 0, 0, 70), ([], 19, 4, 3, 49, 0, 0, 73), eD, eD, ([], 2, 2, 0, 0, 0, 0, 74), ([], 27, 108, 1, 94, 8, 0, 77), eD, eD, ([], 0, 0, 0, 0, 0, 1, 78), ([], 29, 0, 0, 0, 0, 0, 79), ([], 4, 0, 0, 0, 0, 0, 80)],
  [([], 19, 4, 3, 49, 0, 0, 83), eD, eD, ([], 2, 2, 0, 0, 0, 0, 84), ([], 27, 81, 1, 96, 8, 0, 87), eD, eD, ([], 5, 4, 1, 0, 0, 0, 89), eD, ([], 4, 0, 0, 0, 0, 0, 90), ([], 19, 4, 7, 53, 0, 0, 93), eD, eD, ([], 4, 0, 0, 0, 0, 0, 94), ([], 19, 4, 2, 48, 0, 0, 97), eD],
  [eD, ([], 4, 0, 0, 0, 0, 0, 98), ([], 19, 4, 3, 49, 0, 0, 101), eD, eD, ([], 2, 2, 0, 0, 0, 0, 102), ([], 27, 87, 1, 97, 8, 0, 105), eD, eD, ([], 4, 0, 0, 0, 0, 0, 106), ([], 19, 4, 3, 49, 0, 0, 109), eD, eD, ([], 2, 2, 0, 0, 0, 0, 110), ([], 27, 85, 1, 98, 8, 0, 113), eD],
  [eD, ([], 4, 0, 0, 0, 0, 0, 114), ([], 19, 4, 3, 49, 0, 0, 117), eD, eD, ([], 2, 2, 0, 0, 0, 0, 118), ([], 27, 89, 1, 99, 8, 0, 121), eD, eD, ([], 27, 28, 4, 100, 3, 0, 124), eD, eD, ([], 5, 5, 1, 0, 0, 0, 126), eD, ([], 4, 0, 0, 0, 0, 0, 127), ([], 2, 1, 0, 0, 0, 0, 128)],
  [([], 2, 5, 1, 0, 0, 0, 130), eD, ([], 27, 48, 2, 101, 4, 0, 133), eD, eD, ([], 5, 6, 1, 0, 0, 0, 135), eD, ([], 2, 6, 1, 0, 0, 0, 137), eD, ([], 15, 0, 164, 0, 0, 0, 140), eD, eD, ([], 4, 0, 0, 0, 0, 0, 141), ([], 2, 1, 0, 0, 0, 0, 142), ([], 2, 6, 1, 0, 0, 0, 144), eD],
  [([], 27, 46, 2, 66, 4, 0, 147), eD, eD, ([], 15, 1, 152, 0, 0, 0, 150), eD, eD, ([], 0, 0, 0, 0, 0, 0, 151), ([], 29, 0, 0, 0, 0, 0, 152), ([], 4, 0, 0, 0, 0, 0, 153), ([], 19, 4, 3, 49, 0, 0, 156), eD, eD, ([], 2, 2, 0, 0, 0, 0, 157), ([], 2, 3, 0, 0, 0, 0, 158), ([], 27, 107, 2, 107, 8, 0, 161), eD],
  [eD, ([], 2, 4, 1, 0, 0, 0, 163), eD, ([], 29, 0, 0, 0, 0, 0, 164), ([], 2, 5, 1, 0, 0, 0, 166), eD, ([], 0, 0, 0, 0, 0, 2, 167), ([], 16, 1, 195, 0, 0, 0, 170), eD, eD, ([], 4, 0, 0, 0, 0, 0, 171), ([], 24, 0, 0, 0, 0, 0, 172), ([], 19, 4, 13, 60, 0, 0, 175), eD, eD, ([], 0, 0, 0, 0, 0, 1, 176)],
  [([], 9, 0, 0, 0, 0, 0, 177), ([], 20, 4, 13, 60, 0, 0, 180), eD, eD, ([], 4, 0, 0, 0, 0, 0, 181), ([], 19, 4, 2, 48, 0, 0, 184), eD, eD, ([], 4, 0, 0, 0, 0, 0, 185), ([], 19, 4, 7, 53, 0, 0, 188), eD, eD, ([], 27, 27, 0, 109, 3, 0, 191), eD, eD, ([], 0, 0, 0, 0, 0, -1, 192)],
  [([], 27, 112, 2, 110, 9, 0, 195), eD, eD, ([], 0, 0, 0, 0, 0, 0, 196), ([], 5, 7, 1, 0, 0, 0, 198), eD, ([true, false, true, false, true, false, false, true], 2, 7, 1, 0, 0, 0, 200), eD, ([], 4, 0, 0, 0, 0, 0, 201), ([], 19, 4, 7, 53, 0, 0, 204), eD, eD, ([], 19, 3, 1, 30, 0, 0, 207), eD, eD, ([], 16, 3, 229, 0, 0, 0, 210)],
  [eD, eD, ([], 4, 0, 0, 0, 0, 0, 211), ([], 4, 0, 0, 0, 0, 0, 212), ([], 19, 4, 7, 53, 0, 0, 215), eD, eD, ([], 2, 7, 1, 0, 0, 0, 217), eD, ([], 27, 26, 1, 67, 3, 0, 220), eD, eD, ([], 27, 36, 1, 32, 4, 0, 223), eD, eD, ([], 8, 7, 0, 0, 0, 1, 226)],
  [eD, eD, ([], 17, 0, 198, 0, 0, 0, 229), eD, eD, ([], 4, 0, 0, 0, 0, 0, 230), ([], 19, 4, 3, 49, 0, 0, 233), eD, eD, ([], 2, 2, 0, 0, 0, 0, 234), ([], 27, 83, 1, 113, 8, 0, 237), eD, eD, ([], 15, 0, 272, 0, 0, 0, 240), eD, eD],
  [([], 4, 0, 0, 0, 0, 0, 241), ([], 19, 4, 11, 57, 0, 0, 244), eD, eD, ([], 4, 0, 0, 0, 0, 0, 245), ([], 19, 4, 10, 56, 0, 0, 248), eD, eD, ([], 21, 0, 102, 0, 0, 0, 249), ([], 16, 3, 272, 0, 0, 0, 252), eD, eD, ([], 4, 0, 0, 0, 0, 0, 253), ([], 19, 4, 10, 56, 0, 0, 256), eD, eD],
  [([], 4, 0, 0, 0, 0, 0, 257), ([], 24, 0, 0, 0, 0, 0, 258), ([], 19, 4, 11, 57, 0, 0, 261), eD, eD, ([], 25, 0, 0, 0, 0, 0, 262), ([], 0, 0, 0, 0, 0, 1, 263), ([], 9, 0, 0, 0, 0, 0, 264), ([], 20, 4, 11, 57, 0, 0, 267), eD, eD, ([], 2, 2, 0, 0, 0, 0, 268), ([], 28, 123, 1, 114, 0, 0, 271), eD, eD, ([], 23, 0, 102, 0, 0, 0, 272)],
  [([], 2, 4, 1, 0, 0, 0, 274), eD, ([], 29, 0, 0, 0, 0, 0, 275)]]
set_option maxRecDepth 100000 in
theorem ok47 : okM 47 cd47 = true := by decide +kernel
def cd48 : List (List EM) := [[([], 2, 2, 0, 0, 0, 0, 1), ([], 0, 0, 0, 0, 0, 1, 2), ([], 16, 0, 17, 0, 0, 0, 5), eD, eD, ([], 2, 2, 0, 0, 0, 0, 6), ([], 0, 0, 0, 0, 0, 2, 7), ([], 16, 1, 20, 0, 0, 0, 10), eD, eD, ([], 4, 0, 0, 0, 0, 0, 11), ([], 19, 4, 12, 58, 0, 0, 14), eD, eD, ([], 15, 1, 20, 0, 0, 0, 17), eD],
  [eD, ([], 0, 1, 0, 0, 0, 6, 19), eD, ([], 29, 0, 0, 0, 0, 0, 20), ([], 0, 0, 0, 0, 0, 0, 21), ([], 5, 3, 0, 0, 0, 0, 22), ([true, true, true, true], 2, 3, 0, 0, 0, 0, 23), ([], 4, 0, 0, 0, 0, 0, 24), ([], 19, 4, 7, 53, 0, 0, 27), eD, eD, ([], 19, 3, 1, 30, 0, 0, 30), eD, eD, ([], 16, 3, 57, 0, 0, 0, 33), eD],
  [eD, ([], 4, 0, 0, 0, 0, 0, 34), ([], 4, 0, 0, 0, 0, 0, 35), ([], 19, 4, 7, 53, 0, 0, 38), eD, eD, ([], 2, 3, 0, 0, 0, 0, 39), ([], 27, 26, 1, 67, 3, 0, 42), eD, eD, ([], 27, 37, 1, 34, 4, 0, 45), eD, eD, ([], 15, 0, 51, 0, 0, 0, 48), eD, eD],
  [([], 0, 1, 0, 0, 0, 7, 50), eD, ([], 29, 0, 0, 0, 0, 0, 51), ([], 8, 3, 0, 0, 0, 1, 54), eD, eD, ([], 17, 0, 22, 0, 0, 0, 57), eD, eD, ([], 2, 2, 0, 0, 0, 0, 58), ([], 0, 0, 0, 0, 0, 2, 59), ([], 16, 1, 75, 0, 0, 0, 62), eD, eD, ([], 4, 0, 0, 0, 0, 0, 63), ([], 19, 4, 7, 53, 0, 0, 66)],
  [eD, eD, ([], 27, 30, 0, 102, 3, 0, 69), eD, eD, ([], 15, 0, 75, 0, 0, 0, 72), eD, eD, ([], 0, 1, 0, 0, 0, 7, 74), eD, ([], 29, 0, 0, 0, 0, 0, 75), ([], 4, 0, 0, 0, 0, 0, 76), ([], 2, 1, 0, 0, 0, 0, 77), ([], 27, 49, 1, 103, 4, 0, 80), eD, eD],
  [([], 15, 0, 88, 0, 0, 0, 83), eD, eD, ([], 0, 1, 0, 0, 0, 8, 85), eD, ([], 17, 0, 89, 0, 0, 0, 88), eD, eD, ([], 0, 0, 0, 0, 0, 0, 89), ([], 29, 0, 0, 0, 0, 0, 90)]]
set_option maxRecDepth 100000 in
theorem ok48 : okM 48 cd48 = true := by decide +kernel
def cd49 : List (List EM) := [[([], 0, 0, 0, 0, 0, 0, 1), ([], 5, 2, 0, 0, 0, 0, 2), ([true, true, true, false], 2, 2, 0, 0, 0, 0, 3), ([], 2, 1, 0, 0, 0, 0, 4), ([], 16, 3, 63, 0, 0, 0, 7), eD, eD, ([], 4, 0, 0, 0, 0, 0, 8), ([], 19, 4, 6, 52, 0, 0, 11), eD, eD, ([], 2, 2, 0, 0, 0, 0, 12), ([], 27, 32, 1, 62, 3, 0, 15), eD, eD, ([], 5, 3, 0, 0, 0, 0, 16)],
  [([], 4, 0, 0, 0, 0, 0, 17), ([], 19, 4, 0, 46, 0, 0, 20), eD, eD, ([], 2, 3, 0, 0, 0, 0, 21), ([], 27, 54, 1, 37, 5, 0, 24), eD, eD, ([], 0, 2, 0, 0, 0, 133, 27), eD, eD, ([], 16, 1, 57, 0, 0, 0, 30), eD, eD, ([], 4, 0, 0, 0, 0, 0, 31), ([], 19, 4, 3, 49, 0, 0, 34)],
  [eD, eD, ([], 4, 0, 0, 0, 0, 0, 35), ([], 19, 4, 8, 54, 0, 0, 38), eD, eD, ([], 2, 3, 0, 0, 0, 0, 39), ([], 4, 0, 0, 0, 0, 0, 40), ([], 19, 4, 6, 52, 0, 0, 43), eD, eD, ([], 2, 2, 0, 0, 0, 0, 44), ([], 0, 0, 0, 0, 0, 2, 45), ([], 9, 0, 0, 0, 0, 0, 46), ([], 27, 32, 1, 62, 3, 0, 49), eD],
  [eD, ([], 27, 95, 3, 104, 8, 0, 52), eD, eD, ([], 15, 0, 57, 0, 0, 0, 55), eD, eD, ([], 0, 0, 0, 0, 0, 1, 56), ([], 29, 0, 0, 0, 1, 0, 57), ([], 8, 2, 0, 0, 0, 2, 60), eD, eD, ([], 17, 0, 2, 0, 0, 0, 63), eD, eD, ([], 0, 0, 0, 0, 0, 0, 64)],
  [([], 29, 0, 0, 0, 1, 0, 65)]]
set_option maxRecDepth 100000 in
theorem ok49 : okM 49 cd49 = true := by decide +kernel
def cd50 : List (List EM) := [[([], 0, 0, 0, 0, 0, 0, 1), ([], 5, 2, 0, 0, 0, 0, 2), ([], 0, 0, 0, 0, 0, 0, 3), ([], 5, 3, 0, 0, 0, 0, 4), ([true, true, true, true, false], 2, 3, 0, 0, 0, 0, 5), ([], 0, 1, 0, 0, 0, 8, 7), eD, ([], 16, 3, 53, 0, 0, 0, 10), eD, eD, ([], 0, 1, 0, 0, 0, 8, 12), eD, ([], 2, 1, 0, 0, 0, 0, 13), ([], 9, 2, 0, 0, 0, 0, 14), ([], 2, 3, 0, 0, 0, 0, 15), ([], 9, 0, 0, 0, 0, 0, 16)],
  [([], 0, 0, 0, 0, 0, 2, 17), ([], 9, 0, 0, 0, 0, 0, 18), ([], 5, 4, 1, 0, 0, 0, 20), eD, ([], 4, 0, 0, 0, 0, 0, 21), ([], 19, 4, 2, 48, 0, 0, 24), eD, eD, ([], 2, 4, 1, 0, 0, 0, 26), eD, ([], 27, 110, 1, 33, 9, 0, 29), eD, eD, ([], 15, 0, 47, 0, 0, 0, 32), eD, eD],
  [([], 4, 0, 0, 0, 0, 0, 33), ([], 2, 4, 1, 0, 0, 0, 35), eD, ([], 27, 37, 1, 34, 4, 0, 38), eD, eD, ([], 15, 0, 47, 0, 0, 0, 41), eD, eD, ([], 2, 2, 0, 0, 0, 0, 42), ([], 0, 0, 0, 0, 0, 1, 43), ([], 2, 3, 0, 0, 0, 0, 44), ([], 9, 6, 0, 0, 0, 0, 45), ([], 9, 4, 0, 0, 0, 0, 46), ([], 5, 2, 0, 0, 0, 0, 47), ([], 8, 3, 0, 0, 0, 1, 50)],
  [eD, eD, ([], 17, 0, 4, 0, 0, 0, 53), eD, eD, ([], 2, 2, 0, 0, 0, 0, 54), ([], 29, 0, 0, 0, 0, 0, 55)]]
set_option maxRecDepth 100000 in
theorem ok50 : okM 50 cd50 = true := by decide +kernel
def cd51 : List (List EM) := [[([], 0, 0, 0, 0, 0, 0, 1), ([], 5, 1, 0, 0, 0, 0, 2), ([true, true], 2, 1, 0, 0, 0, 0, 3), ([], 4, 0, 0, 0, 0, 0, 4), ([], 19, 4, 2, 48, 0, 0, 7), eD, eD, ([], 19, 9, 1, 11, 0, 0, 10), eD, eD, ([], 0, 1, 0, 0, 0, 7, 12), eD, ([], 9, 0, 0, 0, 0, 0, 13), ([], 0, 1, 0, 0, 0, 8, 15), eD, ([], 10, 0, 0, 0, 0, 0, 16)],
  [([], 16, 3, 54, 0, 0, 0, 19), eD, eD, ([], 4, 0, 0, 0, 0, 0, 20), ([], 19, 4, 0, 46, 0, 0, 23), eD, eD, ([], 4, 0, 0, 0, 0, 0, 24), ([], 19, 4, 2, 48, 0, 0, 27), eD, eD, ([], 19, 9, 3, 17, 0, 0, 30), eD, eD, ([], 28, 109, 1, 35, 0, 0, 33), eD],
  [eD, ([], 2, 1, 0, 0, 0, 0, 34), ([], 9, 0, 0, 0, 0, 0, 35), ([], 27, 54, 1, 37, 5, 0, 38), eD, eD, ([], 4, 0, 0, 0, 0, 0, 39), ([], 2, 1, 0, 0, 0, 0, 40), ([], 27, 50, 1, 117, 4, 0, 43), eD, eD, ([], 16, 0, 48, 0, 0, 0, 46), eD, eD, ([], 0, 0, 0, 0, 0, 0, 47), ([], 29, 0, 0, 0, 1, 0, 48)],
  [([], 8, 1, 0, 0, 0, 1, 51), eD, eD, ([], 17, 0, 2, 0, 0, 0, 54), eD, eD, ([], 0, 0, 0, 0, 0, 1, 55), ([], 29, 0, 0, 0, 1, 0, 56)]]
set_option maxRecDepth 100000 in
theorem ok51 : okM 51 cd51 = true := by decide +kernel
def cd52 : List (List EM) := [[([], 0, 0, 0, 0, 0, 0, 1), ([], 5, 1, 0, 0, 0, 0, 2), ([true, true], 2, 1, 0, 0, 0, 0, 3), ([], 4, 0, 0, 0, 0, 0, 4), ([], 19, 4, 2, 48, 0, 0, 7), eD, eD, ([], 19, 9, 1, 11, 0, 0, 10), eD, eD, ([], 0, 1, 0, 0, 0, 7, 12), eD, ([], 9, 0, 0, 0, 0, 0, 13), ([], 0, 1, 0, 0, 0, 8, 15), eD, ([], 10, 0, 0, 0, 0, 0, 16)],
  [([], 16, 3, 49, 0, 0, 0, 19), eD, eD, ([], 4, 0, 0, 0, 0, 0, 20), ([], 19, 4, 0, 46, 0, 0, 23), eD, eD, ([], 4, 0, 0, 0, 0, 0, 24), ([], 19, 4, 2, 48, 0, 0, 27), eD, eD, ([], 19, 9, 3, 17, 0, 0, 30), eD, eD, ([], 28, 109, 1, 35, 0, 0, 33), eD],
  [eD, ([], 2, 1, 0, 0, 0, 0, 34), ([], 9, 0, 0, 0, 0, 0, 35), ([], 4, 0, 0, 0, 0, 0, 36), ([], 2, 1, 0, 0, 0, 0, 37), ([], 27, 50, 1, 117, 4, 0, 40), eD, eD, ([], 27, 57, 2, 68, 5, 0, 43), eD, eD, ([], 8, 1, 0, 0, 0, 1, 46), eD, eD, ([], 17, 0, 2, 0, 0, 0, 49), eD],
  [eD, ([], 31, 0, 0, 0, 0, 0, 50)]]
set_option maxRecDepth 100000 in
theorem ok52 : okM 52 cd52 = true := by decide +kernel
def cd53 : List (List EM) := [[([], 2, 0, 0, 0, 0, 0, 1), ([], 15, 2, 25, 0, 0, 0, 4), eD, eD, ([], 2, 0, 0, 0, 0, 0, 5), ([], 0, 2, 0, 0, 0, 216, 8), eD, eD, ([], 16, 3, 25, 0, 0, 0, 11), eD, eD, ([], 2, 1, 0, 0, 0, 0, 12), ([], 15, 2, 25, 0, 0, 0, 15), eD, eD, ([], 2, 1, 0, 0, 0, 0, 16)],
  [([], 0, 1, 0, 0, 0, 64, 18), eD, ([], 16, 3, 25, 0, 0, 0, 21), eD, eD, ([], 0, 0, 0, 0, 0, 1, 22), ([], 17, 0, 26, 0, 0, 0, 25), eD, eD, ([], 0, 0, 0, 0, 0, 0, 26), ([], 29, 0, 0, 0, 1, 0, 27)]]
set_option maxRecDepth 100000 in
theorem ok53 : okM 53 cd53 = true := by decide +kernel
def cd54 : List (List EM) := [[([], 2, 1, 0, 0, 0, 0, 1), ([], 15, 2, 22, 0, 0, 0, 4), eD, eD, ([], 2, 1, 0, 0, 0, 0, 5), ([], 4, 0, 0, 0, 0, 0, 6), ([], 19, 5, 1, 1, 0, 0, 9), eD, eD, ([], 21, 0, 13824, 0, 0, 0, 10), ([], 16, 3, 22, 0, 0, 0, 13), eD, eD, ([], 4, 0, 0, 0, 0, 0, 14), ([], 19, 5, 1, 1, 0, 0, 17), eD],
  [eD, ([], 2, 1, 0, 0, 0, 0, 18), ([], 22, 0, 13824, 0, 0, 0, 19), ([], 17, 0, 23, 0, 0, 0, 22), eD, eD, ([], 0, 0, 0, 0, 0, 0, 23), ([], 29, 0, 0, 0, 0, 0, 24)]]
set_option maxRecDepth 100000 in
theorem ok54 : okM 54 cd54 = true := by decide +kernel
def cd55 : List (List EM) := [[([], 2, 1, 0, 0, 0, 0, 1), ([], 15, 2, 36, 0, 0, 0, 4), eD, eD, ([], 2, 1, 0, 0, 0, 0, 5), ([], 4, 0, 0, 0, 0, 0, 6), ([], 19, 5, 1, 1, 0, 0, 9), eD, eD, ([], 21, 0, 13824, 0, 0, 0, 10), ([], 0, 0, 0, 0, 0, 1, 11), ([], 9, 1, 0, 0, 0, 0, 12), ([], 16, 3, 36, 0, 0, 0, 15), eD, eD, ([], 4, 0, 0, 0, 0, 0, 16)],
  [([], 19, 5, 1, 1, 0, 0, 19), eD, eD, ([], 2, 1, 0, 0, 0, 0, 20), ([], 22, 0, 13824, 0, 0, 0, 21), ([], 4, 0, 0, 0, 0, 0, 22), ([], 19, 5, 1, 1, 0, 0, 25), eD, eD, ([], 2, 1, 0, 0, 0, 0, 26), ([], 0, 0, 0, 0, 0, 1, 27), ([], 9, 0, 0, 0, 0, 0, 28), ([], 22, 0, 13824, 0, 0, 0, 29), ([], 0, 1, 0, 0, 0, 8, 31), eD, ([], 9, 6, 0, 0, 0, 0, 32)],
  [([], 9, 4, 0, 0, 0, 0, 33), ([], 17, 0, 37, 0, 0, 0, 36), eD, eD, ([], 0, 0, 0, 0, 0, 0, 37), ([], 29, 0, 0, 0, 0, 0, 38)]]
set_option maxRecDepth 100000 in
theorem ok55 : okM 55 cd55 = true := by decide +kernel
def cd56 : List (List EM) := [[([], 2, 1, 0, 0, 0, 0, 1), ([], 15, 2, 15, 0, 0, 0, 4), eD, eD, ([], 2, 1, 0, 0, 0, 0, 5), ([], 4, 0, 0, 0, 0, 0, 6), ([], 19, 5, 1, 1, 0, 0, 9), eD, eD, ([], 21, 0, 13824, 0, 0, 0, 10), ([], 0, 0, 0, 0, 0, 3, 11), ([], 9, 1, 0, 0, 0, 0, 12), ([], 16, 2, 17, 0, 0, 0, 15), eD, eD, ([], 0, 0, 0, 0, 0, 0, 16)],
  [([], 29, 0, 0, 0, 0, 0, 17), ([], 4, 0, 0, 0, 0, 0, 18), ([], 19, 5, 1, 1, 0, 0, 21), eD, eD, ([], 2, 1, 0, 0, 0, 0, 22), ([], 22, 0, 13824, 0, 0, 0, 23), ([], 4, 0, 0, 0, 0, 0, 24), ([], 19, 5, 1, 1, 0, 0, 27), eD, eD, ([], 2, 1, 0, 0, 0, 0, 28), ([], 0, 0, 0, 0, 0, 1, 29), ([], 9, 0, 0, 0, 0, 0, 30), ([], 22, 0, 13824, 0, 0, 0, 31), ([], 0, 1, 0, 0, 0, 8, 33)],
  [eD, ([], 9, 6, 0, 0, 0, 0, 34), ([], 9, 4, 0, 0, 0, 0, 35), ([], 4, 0, 0, 0, 0, 0, 36), ([], 19, 5, 1, 1, 0, 0, 39), eD, eD, ([], 2, 1, 0, 0, 0, 0, 40), ([], 0, 0, 0, 0, 0, 2, 41), ([], 9, 0, 0, 0, 0, 0, 42), ([], 22, 0, 13824, 0, 0, 0, 43), ([], 0, 1, 0, 0, 0, 16, 45), eD, ([], 9, 6, 0, 0, 0, 0, 46), ([], 9, 4, 0, 0, 0, 0, 47), ([], 4, 0, 0, 0, 0, 0, 48)],
  [([], 19, 5, 1, 1, 0, 0, 51), eD, eD, ([], 2, 1, 0, 0, 0, 0, 52), ([], 0, 0, 0, 0, 0, 3, 53), ([], 9, 0, 0, 0, 0, 0, 54), ([], 22, 0, 13824, 0, 0, 0, 55), ([], 0, 1, 0, 0, 0, 24, 57), eD, ([], 9, 6, 0, 0, 0, 0, 58), ([], 9, 4, 0, 0, 0, 0, 59), ([], 29, 0, 0, 0, 0, 0, 60)]]
set_option maxRecDepth 100000 in
theorem ok56 : okM 56 cd56 = true := by decide +kernel
def cd57 : List (List EM) := [[([], 2, 1, 0, 0, 0, 0, 1), ([], 15, 2, 34, 0, 0, 0, 4), eD, eD, ([], 2, 1, 0, 0, 0, 0, 5), ([], 4, 0, 0, 0, 0, 0, 6), ([], 19, 5, 1, 1, 0, 0, 9), eD, eD, ([], 21, 0, 13824, 0, 0, 0, 10), ([], 16, 3, 34, 0, 0, 0, 13), eD, eD, ([], 4, 0, 0, 0, 0, 0, 14), ([], 19, 5, 1, 1, 0, 0, 17), eD],
  [eD, ([], 2, 1, 0, 0, 0, 0, 18), ([], 2, 2, 0, 0, 0, 0, 19), ([], 0, 2, 0, 0, 0, 255, 22), eD, eD, ([], 9, 3, 0, 0, 0, 0, 23), ([], 23, 0, 13824, 0, 0, 0, 24), ([], 4, 0, 0, 0, 0, 0, 25), ([], 19, 5, 2, 2, 0, 0, 28), eD, eD, ([], 2, 1, 0, 0, 0, 0, 29), ([], 0, 1, 0, 0, 0, 64, 31), eD, ([], 10, 0, 0, 0, 0, 0, 32)],
  [([], 0, 0, 0, 0, 0, 1, 33), ([], 23, 1, 216, 0, 0, 0, 34), ([], 31, 0, 0, 0, 0, 0, 35)]]
set_option maxRecDepth 100000 in
theorem ok57 : okM 57 cd57 = true := by decide +kernel
def cd58 : List (List EM) := [[([], 4, 0, 0, 0, 0, 0, 1), ([], 2, 1, 0, 0, 0, 0, 2), ([], 2, 2, 0, 0, 0, 0, 3), ([], 27, 57, 2, 9, 5, 0, 6), eD, eD, ([], 4, 0, 0, 0, 0, 0, 7), ([], 2, 1, 0, 0, 0, 0, 8), ([], 0, 0, 0, 0, 0, 1, 9), ([], 9, 0, 0, 0, 0, 0, 10), ([], 2, 2, 0, 0, 0, 0, 11), ([], 0, 1, 0, 0, 0, 8, 13), eD, ([], 9, 8, 0, 0, 0, 0, 14), ([], 27, 57, 2, 9, 5, 0, 17), eD],
  [eD, ([], 31, 0, 0, 0, 0, 0, 18)]]
set_option maxRecDepth 100000 in
theorem ok58 : okM 58 cd58 = true := by decide +kernel
def cd59 : List (List EM) := [[([], 0, 0, 0, 0, 0, 0, 1), ([], 5, 3, 0, 0, 0, 0, 2), ([true, true, true, true], 2, 3, 0, 0, 0, 0, 3), ([], 0, 0, 0, 0, 0, 4, 4), ([], 16, 3, 26, 0, 0, 0, 7), eD, eD, ([], 4, 0, 0, 0, 0, 0, 8), ([], 2, 1, 0, 0, 0, 0, 9), ([], 2, 3, 0, 0, 0, 0, 10), ([], 9, 0, 0, 0, 0, 0, 11), ([], 2, 2, 0, 0, 0, 0, 12), ([], 0, 1, 0, 0, 0, 8, 14), eD, ([], 2, 3, 0, 0, 0, 0, 15), ([], 9, 2, 0, 0, 0, 0, 16)],
  [([], 9, 8, 0, 0, 0, 0, 17), ([], 27, 57, 2, 9, 5, 0, 20), eD, eD, ([], 8, 3, 0, 0, 0, 1, 23), eD, eD, ([], 17, 0, 2, 0, 0, 0, 26), eD, eD, ([], 31, 0, 0, 0, 0, 0, 27)]]
set_option maxRecDepth 100000 in
theorem ok59 : okM 59 cd59 = true := by decide +kernel
def cd60 : List (List EM) := [[([], 0, 0, 0, 0, 0, 0, 1), ([], 5, 3, 0, 0, 0, 0, 2), ([true, true, true, true], 2, 3, 0, 0, 0, 0, 3), ([], 2, 2, 0, 0, 0, 0, 4), ([], 16, 3, 21, 0, 0, 0, 7), eD, eD, ([], 4, 0, 0, 0, 0, 0, 8), ([], 2, 1, 0, 0, 0, 0, 9), ([], 2, 3, 0, 0, 0, 0, 10), ([], 9, 0, 0, 0, 0, 0, 11), ([], 0, 0, 0, 0, 0, 0, 12), ([], 27, 57, 2, 9, 5, 0, 15), eD, eD, ([], 8, 3, 0, 0, 0, 1, 18)],
  [eD, eD, ([], 17, 0, 2, 0, 0, 0, 21), eD, eD, ([], 31, 0, 0, 0, 0, 0, 22)]]
set_option maxRecDepth 100000 in
theorem ok60 : okM 60 cd60 = true := by decide +kernel
def cd61 : List (List EM) := [[([], 2, 1, 0, 0, 0, 0, 1), ([], 5, 3, 0, 0, 0, 0, 2), ([true, false, true, true], 2, 3, 0, 0, 0, 0, 3), ([], 2, 2, 0, 0, 0, 0, 4), ([], 16, 3, 23, 0, 0, 0, 7), eD, eD, ([], 4, 0, 0, 0, 0, 0, 8), ([], 2, 3, 0, 0, 0, 0, 9), ([], 27, 54, 1, 39, 5, 0, 12), eD, eD, ([], 15, 0, 17, 0, 0, 0, 15), eD, eD, ([], 0, 0, 0, 0, 0, 0, 16)],
  [([], 29, 0, 0, 0, 1, 0, 17), ([], 8, 3, 0, 0, 0, 1, 20), eD, eD, ([], 17, 0, 2, 0, 0, 0, 23), eD, eD, ([], 0, 0, 0, 0, 0, 1, 24), ([], 29, 0, 0, 0, 1, 0, 25)]]
set_option maxRecDepth 100000 in
theorem ok61 : okM 61 cd61 = true := by decide +kernel
def cd62 : List (List EM) := [[([], 4, 0, 0, 0, 0, 0, 1), ([], 19, 5, 1, 1, 0, 0, 4), eD, eD, ([], 0, 0, 0, 0, 0, 0, 5), ([], 28, 277, 2, 1, 0, 0, 8), eD, eD, ([], 0, 0, 0, 0, 0, 0, 9), ([], 5, 1, 0, 0, 0, 0, 10), ([true, true], 2, 1, 0, 0, 0, 0, 11), ([], 0, 2, 0, 0, 0, 216, 14), eD, eD, ([], 16, 3, 30, 0, 0, 0, 17), eD],
  [eD, ([], 4, 0, 0, 0, 0, 0, 18), ([], 19, 5, 2, 2, 0, 0, 21), eD, eD, ([], 2, 1, 0, 0, 0, 0, 22), ([], 0, 0, 0, 0, 0, 1, 23), ([], 23, 1, 216, 0, 0, 0, 24), ([], 8, 1, 0, 0, 0, 1, 27), eD, eD, ([], 17, 0, 10, 0, 0, 0, 30), eD, eD, ([], 31, 0, 0, 0, 0, 0, 31)]]
set_option maxRecDepth 100000 in
theorem ok62 : okM 62 cd62 = true := by decide +kernel
def cd63 : List (List EM) := [[([], 0, 0, 0, 0, 0, 0, 1), ([], 5, 1, 0, 0, 0, 0, 2), ([true, true], 2, 1, 0, 0, 0, 0, 3), ([], 0, 2, 0, 0, 0, 216, 6), eD, eD, ([], 16, 3, 52, 0, 0, 0, 9), eD, eD, ([], 4, 0, 0, 0, 0, 0, 10), ([], 19, 5, 2, 2, 0, 0, 13), eD, eD, ([], 2, 1, 0, 0, 0, 0, 14), ([], 22, 1, 216, 0, 0, 0, 15), ([], 15, 0, 39, 0, 0, 0, 18)],
  [eD, eD, ([], 4, 0, 0, 0, 0, 0, 19), ([], 19, 5, 1, 1, 0, 0, 22), eD, eD, ([], 2, 1, 0, 0, 0, 0, 23), ([], 0, 1, 0, 0, 0, 64, 25), eD, ([], 9, 2, 0, 0, 0, 0, 26), ([], 4, 0, 0, 0, 0, 0, 27), ([], 19, 5, 0, 0, 0, 0, 30), eD, eD, ([], 2, 1, 0, 0, 0, 0, 31), ([], 0, 1, 0, 0, 0, 64, 33)],
  [eD, ([], 9, 2, 0, 0, 0, 0, 34), ([], 0, 1, 0, 0, 0, 64, 36), eD, ([], 33, 0, 13824, 0, 0, 0, 39), eD, eD, ([], 4, 0, 0, 0, 0, 0, 40), ([], 19, 5, 2, 2, 0, 0, 43), eD, eD, ([], 2, 1, 0, 0, 0, 0, 44), ([], 0, 0, 0, 0, 0, 0, 45), ([], 23, 1, 216, 0, 0, 0, 46), ([], 8, 1, 0, 0, 0, 1, 49), eD],
  [eD, ([], 17, 0, 2, 0, 0, 0, 52), eD, eD, ([], 31, 0, 0, 0, 0, 0, 53)]]
set_option maxRecDepth 100000 in
theorem ok63 : okM 63 cd63 = true := by decide +kernel
def cd64 : List (List EM) := [[([], 4, 0, 0, 0, 0, 0, 1), ([], 0, 0, 0, 0, 0, 0, 2), ([], 0, 2, 0, 0, 0, 215, 5), eD, eD, ([], 27, 65, 2, 131, 5, 0, 8), eD, eD, ([], 29, 0, 0, 0, 1, 0, 9)]]
set_option maxRecDepth 100000 in
theorem ok64 : okM 64 cd64 = true := by decide +kernel
def cd65 : List (List EM) := [[([], 2, 1, 0, 0, 0, 0, 1), ([], 0, 0, 0, 0, 0, 0, 2), ([], 34, 0, 0, 2, 0, 0, 5), eD, eD, ([], 5, 3, 0, 0, 0, 0, 6), ([true, false, true, true], 2, 3, 0, 0, 0, 0, 7), ([], 2, 2, 0, 0, 0, 0, 8), ([], 16, 4, 110, 0, 0, 0, 11), eD, eD, ([], 2, 3, 0, 0, 0, 0, 12), ([], 0, 2, 0, 0, 0, 216, 15), eD, eD, ([], 16, 3, 110, 0, 0, 0, 18)],
  [eD, eD, ([], 4, 0, 0, 0, 0, 0, 19), ([], 19, 5, 2, 2, 0, 0, 22), eD, eD, ([], 2, 3, 0, 0, 0, 0, 23), ([], 22, 1, 216, 0, 0, 0, 24), ([], 15, 0, 97, 0, 0, 0, 27), eD, eD, ([], 4, 0, 0, 0, 0, 0, 28), ([], 2, 3, 0, 0, 0, 0, 29), ([], 27, 66, 1, 132, 5, 0, 32), eD, eD],
  [([], 15, 0, 97, 0, 0, 0, 35), eD, eD, ([], 4, 0, 0, 0, 0, 0, 36), ([], 19, 5, 3, 4, 0, 0, 39), eD, eD, ([], 0, 0, 0, 0, 0, 1, 40), ([], 16, 1, 49, 0, 0, 0, 43), eD, eD, ([], 4, 0, 0, 0, 0, 0, 44), ([], 27, 67, 0, 133, 5, 0, 47), eD, eD, ([], 0, 0, 0, 0, 0, 0, 48)],
  [([], 29, 0, 0, 0, 1, 0, 49), ([], 4, 0, 0, 0, 0, 0, 50), ([], 19, 5, 3, 4, 0, 0, 53), eD, eD, ([], 15, 5, 66, 0, 0, 0, 56), eD, eD, ([], 4, 0, 0, 0, 0, 0, 57), ([], 24, 0, 0, 0, 0, 0, 58), ([], 19, 5, 3, 4, 0, 0, 61), eD, eD, ([], 0, 0, 0, 0, 0, 1, 62), ([], 9, 1, 0, 0, 0, 0, 63), ([], 20, 5, 3, 4, 0, 0, 66)],
  [eD, eD, ([], 4, 0, 0, 0, 0, 0, 67), ([], 19, 5, 1, 1, 0, 0, 70), eD, eD, ([], 2, 3, 0, 0, 0, 0, 71), ([], 0, 1, 0, 0, 0, 64, 73), eD, ([], 9, 2, 0, 0, 0, 0, 74), ([], 4, 0, 0, 0, 0, 0, 75), ([], 19, 5, 0, 0, 0, 0, 78), eD, eD, ([], 2, 3, 0, 0, 0, 0, 79), ([], 0, 1, 0, 0, 0, 64, 81)],
  [eD, ([], 9, 2, 0, 0, 0, 0, 82), ([], 0, 1, 0, 0, 0, 64, 84), eD, ([], 33, 0, 13824, 0, 0, 0, 87), eD, eD, ([], 4, 0, 0, 0, 0, 0, 88), ([], 24, 0, 0, 0, 0, 0, 89), ([], 19, 5, 4, 5, 0, 0, 92), eD, eD, ([], 0, 0, 0, 0, 0, 1, 93), ([], 9, 0, 0, 0, 0, 0, 94), ([], 20, 5, 4, 5, 0, 0, 97), eD],
  [eD, ([], 4, 0, 0, 0, 0, 0, 98), ([], 19, 5, 2, 2, 0, 0, 101), eD, eD, ([], 2, 3, 0, 0, 0, 0, 102), ([], 0, 0, 0, 0, 0, 0, 103), ([], 23, 1, 216, 0, 0, 0, 104), ([], 8, 3, 0, 0, 0, 1, 107), eD, eD, ([], 17, 0, 6, 0, 0, 0, 110), eD, eD, ([], 0, 0, 0, 0, 0, 1, 111), ([], 29, 0, 0, 0, 1, 0, 112)]]
set_option maxRecDepth 100000 in
theorem ok65 : okM 65 cd65 = true := by decide +kernel
def cd66 : List (List EM) := [[([], 2, 1, 0, 0, 0, 0, 1), ([], 0, 1, 0, 0, 0, 64, 3), eD, ([], 9, 2, 0, 0, 0, 0, 4), ([], 5, 2, 0, 0, 0, 0, 5), ([true, true, true], 2, 2, 0, 0, 0, 0, 6), ([], 2, 1, 0, 0, 0, 0, 7), ([], 0, 0, 0, 0, 0, 1, 8), ([], 9, 0, 0, 0, 0, 0, 9), ([], 0, 1, 0, 0, 0, 64, 11), eD, ([], 9, 2, 0, 0, 0, 0, 12), ([], 16, 3, 47, 0, 0, 0, 15), eD, eD, ([], 2, 2, 0, 0, 0, 0, 16)],
  [([], 4, 0, 0, 0, 0, 0, 17), ([], 19, 5, 1, 1, 0, 0, 20), eD, eD, ([], 21, 0, 13824, 0, 0, 0, 21), ([], 16, 3, 47, 0, 0, 0, 24), eD, eD, ([], 4, 0, 0, 0, 0, 0, 25), ([], 19, 5, 1, 1, 0, 0, 28), eD, eD, ([], 2, 2, 0, 0, 0, 0, 29), ([], 22, 0, 13824, 0, 0, 0, 30), ([], 4, 0, 0, 0, 0, 0, 31), ([], 19, 5, 0, 0, 0, 0, 34)],
  [eD, eD, ([], 2, 2, 0, 0, 0, 0, 35), ([], 22, 0, 13824, 0, 0, 0, 36), ([], 16, 0, 41, 0, 0, 0, 39), eD, eD, ([], 0, 0, 0, 0, 0, 1, 40), ([], 29, 0, 0, 0, 1, 0, 41), ([], 8, 2, 0, 0, 0, 1, 44), eD, eD, ([], 17, 0, 5, 0, 0, 0, 47), eD, eD, ([], 0, 0, 0, 0, 0, 0, 48)],
  [([], 29, 0, 0, 0, 1, 0, 49)]]
set_option maxRecDepth 100000 in
theorem ok66 : okM 66 cd66 = true := by decide +kernel
def cd67 : List (List EM) := [[([], 4, 0, 0, 0, 0, 0, 1), ([], 0, 0, 0, 0, 0, 0, 2), ([], 20, 5, 3, 4, 0, 0, 5), eD, eD, ([], 0, 0, 0, 0, 0, 0, 6), ([], 5, 1, 0, 0, 0, 0, 7), ([true, true], 2, 1, 0, 0, 0, 0, 8), ([], 0, 2, 0, 0, 0, 216, 11), eD, eD, ([], 16, 3, 57, 0, 0, 0, 14), eD, eD, ([], 4, 0, 0, 0, 0, 0, 15), ([], 19, 5, 2, 2, 0, 0, 18)],
  [eD, eD, ([], 2, 1, 0, 0, 0, 0, 19), ([], 22, 1, 216, 0, 0, 0, 20), ([], 15, 0, 44, 0, 0, 0, 23), eD, eD, ([], 4, 0, 0, 0, 0, 0, 24), ([], 19, 5, 0, 0, 0, 0, 27), eD, eD, ([], 2, 1, 0, 0, 0, 0, 28), ([], 0, 1, 0, 0, 0, 64, 30), eD, ([], 9, 2, 0, 0, 0, 0, 31), ([], 4, 0, 0, 0, 0, 0, 32)],
  [([], 19, 5, 1, 1, 0, 0, 35), eD, eD, ([], 2, 1, 0, 0, 0, 0, 36), ([], 0, 1, 0, 0, 0, 64, 38), eD, ([], 9, 2, 0, 0, 0, 0, 39), ([], 0, 1, 0, 0, 0, 64, 41), eD, ([], 33, 0, 13824, 0, 0, 0, 44), eD, eD, ([], 4, 0, 0, 0, 0, 0, 45), ([], 19, 5, 2, 2, 0, 0, 48), eD, eD],
  [([], 2, 1, 0, 0, 0, 0, 49), ([], 0, 0, 0, 0, 0, 0, 50), ([], 23, 1, 216, 0, 0, 0, 51), ([], 8, 1, 0, 0, 0, 1, 54), eD, eD, ([], 17, 0, 7, 0, 0, 0, 57), eD, eD, ([], 31, 0, 0, 0, 0, 0, 58)]]
set_option maxRecDepth 100000 in
theorem ok67 : okM 67 cd67 = true := by decide +kernel
end
section
/-! code tables, by program out of the printed bytecode, and their checks -/
def cd68 : List (List EM) := [[([], 4, 0, 0, 0, 0, 0, 1), ([], 2, 1, 0, 0, 0, 0, 2), ([], 20, 6, 4, 75, 0, 0, 5), eD, eD, ([], 4, 0, 0, 0, 0, 0, 6), ([], 2, 1, 0, 0, 0, 0, 7), ([], 20, 6, 5, 77, 0, 0, 10), eD, eD, ([], 4, 0, 0, 0, 0, 0, 11), ([], 19, 6, 3, 73, 0, 0, 14), eD, eD, ([], 0, 0, 0, 0, 0, 0, 15), ([], 20, 3, 1, 27, 0, 0, 18)],
  [eD, eD, ([], 31, 0, 0, 0, 0, 0, 19)]]
set_option maxRecDepth 100000 in
theorem ok68 : okM 68 cd68 = true := by decide +kernel
def cd69 : List (List EM) := [[([], 4, 0, 0, 0, 0, 0, 1), ([], 19, 6, 2, 71, 0, 0, 4), eD, eD, ([], 19, 3, 1, 27, 0, 0, 7), eD, eD, ([], 15, 1, 21, 0, 0, 0, 10), eD, eD, ([], 4, 0, 0, 0, 0, 0, 11), ([], 19, 6, 1, 70, 0, 0, 14), eD, eD, ([], 2, 1, 0, 0, 0, 0, 15), ([], 27, 118, 1, 170, 9, 0, 18)],
  [eD, eD, ([], 17, 0, 22, 0, 0, 0, 21), eD, eD, ([], 0, 0, 0, 0, 0, 0, 22), ([true, true, false, false], 5, 2, 0, 0, 0, 0, 23), ([], 4, 0, 0, 0, 0, 0, 24), ([], 19, 6, 4, 75, 0, 0, 27), eD, eD, ([], 15, 0, 60, 0, 0, 0, 30), eD, eD, ([], 4, 0, 0, 0, 0, 0, 31), ([], 19, 6, 1, 70, 0, 0, 34)],
  [eD, eD, ([], 4, 0, 0, 0, 0, 0, 35), ([], 19, 6, 2, 71, 0, 0, 38), eD, eD, ([], 27, 27, 0, 171, 3, 0, 41), eD, eD, ([], 0, 0, 0, 0, 0, 1, 42), ([], 9, 0, 0, 0, 0, 0, 43), ([], 2, 1, 0, 0, 0, 0, 44), ([], 27, 117, 2, 172, 9, 0, 47), eD, eD, ([], 15, 0, 60, 0, 0, 0, 50)],
  [eD, eD, ([], 4, 0, 0, 0, 0, 0, 51), ([], 19, 6, 2, 71, 0, 0, 54), eD, eD, ([], 27, 27, 0, 171, 3, 0, 57), eD, eD, ([], 0, 0, 0, 0, 0, 1, 58), ([], 9, 0, 0, 0, 0, 0, 59), ([], 5, 2, 0, 0, 0, 0, 60), ([true, true, true, false], 4, 0, 0, 0, 0, 0, 61), ([], 2, 2, 0, 0, 0, 0, 62), ([], 15, 0, 69, 0, 0, 0, 65), eD],
  [eD, ([], 0, 0, 0, 0, 0, 1, 66), ([], 17, 0, 70, 0, 0, 0, 69), eD, eD, ([], 0, 0, 0, 0, 0, 0, 70), ([], 20, 6, 5, 77, 0, 0, 73), eD, eD, ([], 4, 0, 0, 0, 0, 0, 74), ([], 19, 6, 5, 77, 0, 0, 77), eD, eD, ([], 15, 0, 105, 0, 0, 0, 80), eD, eD],
  [([], 0, 0, 0, 0, 0, 0, 81), ([], 5, 3, 0, 0, 0, 0, 82), ([true, true, true, true], 2, 3, 0, 0, 0, 0, 83), ([], 2, 1, 0, 0, 0, 0, 84), ([], 16, 3, 103, 0, 0, 0, 87), eD, eD, ([], 4, 0, 0, 0, 0, 0, 88), ([], 19, 6, 3, 73, 0, 0, 91), eD, eD, ([], 2, 2, 0, 0, 0, 0, 92), ([], 2, 3, 0, 0, 0, 0, 93), ([], 9, 0, 0, 0, 0, 0, 94), ([], 27, 25, 1, 173, 3, 0, 97), eD],
  [eD, ([], 8, 3, 0, 0, 0, 1, 100), eD, eD, ([], 17, 0, 82, 0, 0, 0, 103), eD, eD, ([], 0, 0, 0, 0, 0, 1, 104), ([], 29, 0, 0, 0, 1, 0, 105), ([], 0, 0, 0, 0, 0, 2, 106), ([], 5, 3, 0, 0, 0, 0, 107), ([true, true, false, true], 2, 3, 0, 0, 0, 0, 108), ([], 4, 0, 0, 0, 0, 0, 109), ([], 19, 6, 1, 70, 0, 0, 112), eD, eD],
  [([], 19, 9, 1, 12, 0, 0, 115), eD, eD, ([], 0, 0, 0, 0, 0, 1, 116), ([], 9, 0, 0, 0, 0, 0, 117), ([], 16, 4, 156, 0, 0, 0, 120), eD, eD, ([], 4, 0, 0, 0, 0, 0, 121), ([], 19, 6, 3, 73, 0, 0, 124), eD, eD, ([], 19, 3, 1, 27, 0, 0, 127), eD, eD, ([], 2, 1, 0, 0, 0, 0, 128)],
  [([], 16, 3, 156, 0, 0, 0, 131), eD, eD, ([], 4, 0, 0, 0, 0, 0, 132), ([], 19, 6, 1, 70, 0, 0, 135), eD, eD, ([], 2, 3, 0, 0, 0, 0, 136), ([], 27, 115, 1, 174, 9, 0, 139), eD, eD, ([], 15, 0, 150, 0, 0, 0, 142), eD, eD, ([], 4, 0, 0, 0, 0, 0, 143), ([], 19, 6, 3, 73, 0, 0, 146)],
  [eD, eD, ([], 2, 3, 0, 0, 0, 0, 147), ([], 27, 25, 1, 173, 3, 0, 150), eD, eD, ([], 8, 3, 0, 0, 0, 1, 153), eD, eD, ([], 17, 0, 107, 0, 0, 0, 156), eD, eD, ([], 4, 0, 0, 0, 0, 0, 157), ([], 19, 6, 3, 73, 0, 0, 160), eD, eD],
  [([], 19, 3, 1, 27, 0, 0, 163), eD, eD, ([], 2, 1, 0, 0, 0, 0, 164), ([], 16, 1, 171, 0, 0, 0, 167), eD, eD, ([], 0, 0, 0, 0, 0, 1, 168), ([], 17, 0, 172, 0, 0, 0, 171), eD, eD, ([], 0, 0, 0, 0, 0, 0, 172), ([], 29, 0, 0, 0, 1, 0, 173)]]
set_option maxRecDepth 100000 in
theorem ok69 : okM 69 cd69 = true := by decide +kernel
def cd70 : List (List EM) := [[([], 2, 1, 0, 0, 0, 0, 1), ([], 4, 0, 0, 0, 0, 0, 2), ([], 19, 6, 2, 71, 0, 0, 5), eD, eD, ([], 19, 3, 1, 27, 0, 0, 8), eD, eD, ([], 16, 3, 22, 0, 0, 0, 11), eD, eD, ([], 4, 0, 0, 0, 0, 0, 12), ([], 19, 6, 2, 71, 0, 0, 15), eD, eD, ([], 2, 1, 0, 0, 0, 0, 16)],
  [([], 27, 26, 1, 184, 3, 0, 19), eD, eD, ([], 17, 0, 38, 0, 0, 0, 22), eD, eD, ([], 4, 0, 0, 0, 0, 0, 23), ([], 19, 6, 3, 73, 0, 0, 26), eD, eD, ([], 2, 1, 0, 0, 0, 0, 27), ([], 4, 0, 0, 0, 0, 0, 28), ([], 19, 6, 2, 71, 0, 0, 31), eD, eD, ([], 19, 3, 1, 27, 0, 0, 34)],
  [eD, eD, ([], 9, 1, 0, 0, 0, 0, 35), ([], 27, 26, 1, 184, 3, 0, 38), eD, eD, ([], 29, 0, 0, 0, 0, 0, 39)]]
set_option maxRecDepth 100000 in
theorem ok70 : okM 70 cd70 = true := by decide +kernel
def cd71 : List (List EM) := [[([], 4, 0, 0, 0, 0, 0, 1), ([], 19, 6, 5, 77, 0, 0, 4), eD, eD, ([], 15, 1, 11, 0, 0, 0, 7), eD, eD, ([], 4, 0, 0, 0, 0, 0, 8), ([], 27, 72, 0, 183, 6, 0, 11), eD, eD, ([true, false], 4, 0, 0, 0, 0, 0, 12), ([], 19, 6, 0, 69, 0, 0, 15), eD, eD, ([], 27, 64, 0, 186, 5, 0, 18)],
  [eD, eD, ([], 15, 1, 23, 0, 0, 0, 21), eD, eD, ([], 0, 0, 0, 0, 0, 0, 22), ([], 29, 0, 0, 0, 1, 0, 23), ([], 4, 0, 0, 0, 0, 0, 24), ([], 19, 6, 5, 77, 0, 0, 27), eD, eD, ([], 15, 1, 72, 0, 0, 0, 30), eD, eD, ([], 4, 0, 0, 0, 0, 0, 31), ([], 19, 6, 2, 71, 0, 0, 34)],
  [eD, eD, ([], 19, 3, 1, 27, 0, 0, 37), eD, eD, ([], 15, 5, 72, 0, 0, 0, 40), eD, eD, ([], 4, 0, 0, 0, 0, 0, 41), ([], 19, 6, 3, 73, 0, 0, 44), eD, eD, ([], 19, 3, 1, 27, 0, 0, 47), eD, eD, ([], 15, 5, 72, 0, 0, 0, 50)],
  [eD, eD, ([], 4, 0, 0, 0, 0, 0, 51), ([], 19, 6, 1, 70, 0, 0, 54), eD, eD, ([], 4, 0, 0, 0, 0, 0, 55), ([], 19, 6, 2, 71, 0, 0, 58), eD, eD, ([], 27, 27, 0, 171, 3, 0, 61), eD, eD, ([], 4, 0, 0, 0, 0, 0, 62), ([], 19, 6, 3, 73, 0, 0, 65), eD],
  [eD, ([], 0, 0, 0, 0, 0, 0, 66), ([], 27, 26, 1, 184, 3, 0, 69), eD, eD, ([], 27, 112, 2, 185, 9, 0, 72), eD, eD, ([], 4, 0, 0, 0, 0, 0, 73), ([], 19, 6, 0, 69, 0, 0, 76), eD, eD, ([], 27, 64, 0, 186, 5, 0, 79), eD, eD, ([], 15, 1, 84, 0, 0, 0, 82)],
  [eD, eD, ([], 0, 0, 0, 0, 0, 0, 83), ([], 29, 0, 0, 0, 1, 0, 84), ([], 0, 0, 0, 0, 0, 0, 85), ([], 5, 1, 0, 0, 0, 0, 86), ([true, true], 2, 1, 0, 0, 0, 0, 87), ([], 4, 0, 0, 0, 0, 0, 88), ([], 19, 6, 3, 73, 0, 0, 91), eD, eD, ([], 19, 3, 1, 27, 0, 0, 94), eD, eD, ([], 16, 3, 119, 0, 0, 0, 97), eD],
  [eD, ([], 4, 0, 0, 0, 0, 0, 98), ([], 19, 6, 1, 70, 0, 0, 101), eD, eD, ([], 4, 0, 0, 0, 0, 0, 102), ([], 19, 6, 3, 73, 0, 0, 105), eD, eD, ([], 2, 1, 0, 0, 0, 0, 106), ([], 27, 26, 1, 184, 3, 0, 109), eD, eD, ([], 0, 0, 0, 0, 0, 1, 110), ([], 27, 114, 2, 187, 9, 0, 113), eD],
  [eD, ([], 8, 1, 0, 0, 0, 1, 116), eD, eD, ([], 17, 0, 86, 0, 0, 0, 119), eD, eD, ([], 4, 0, 0, 0, 0, 0, 120), ([], 19, 6, 1, 70, 0, 0, 123), eD, eD, ([], 4, 0, 0, 0, 0, 0, 124), ([], 19, 6, 1, 70, 0, 0, 127), eD, eD, ([], 19, 9, 4, 19, 0, 0, 130)],
  [eD, eD, ([], 0, 0, 0, 0, 0, 1, 131), ([], 27, 114, 2, 187, 9, 0, 134), eD, eD, ([], 4, 0, 0, 0, 0, 0, 135), ([], 19, 6, 0, 69, 0, 0, 138), eD, eD, ([], 27, 64, 0, 186, 5, 0, 141), eD, eD, ([], 29, 0, 0, 0, 1, 0, 142)]]
set_option maxRecDepth 100000 in
theorem ok71 : okM 71 cd71 = true := by decide +kernel
def cd72 : List (List EM) := [[([], 4, 0, 0, 0, 0, 0, 1), ([], 19, 6, 4, 75, 0, 0, 4), eD, eD, ([], 15, 0, 53, 0, 0, 0, 7), eD, eD, ([], 0, 0, 0, 0, 0, 0, 8), ([], 5, 1, 0, 0, 0, 0, 9), ([true, true], 2, 1, 0, 0, 0, 0, 10), ([], 0, 0, 0, 0, 0, 1, 11), ([], 9, 0, 0, 0, 0, 0, 12), ([], 4, 0, 0, 0, 0, 0, 13), ([], 19, 6, 2, 71, 0, 0, 16), eD, eD],
  [([], 19, 3, 1, 27, 0, 0, 19), eD, eD, ([], 16, 3, 53, 0, 0, 0, 22), eD, eD, ([], 4, 0, 0, 0, 0, 0, 23), ([], 19, 6, 1, 70, 0, 0, 26), eD, eD, ([], 4, 0, 0, 0, 0, 0, 27), ([], 19, 6, 2, 71, 0, 0, 30), eD, eD, ([], 2, 1, 0, 0, 0, 0, 31), ([], 27, 26, 1, 184, 3, 0, 34)],
  [eD, eD, ([], 4, 0, 0, 0, 0, 0, 35), ([], 19, 6, 2, 71, 0, 0, 38), eD, eD, ([], 2, 1, 0, 0, 0, 0, 39), ([], 0, 0, 0, 0, 0, 1, 40), ([], 9, 0, 0, 0, 0, 0, 41), ([], 27, 26, 1, 184, 3, 0, 44), eD, eD, ([], 27, 112, 2, 185, 9, 0, 47), eD, eD, ([], 8, 1, 0, 0, 0, 1, 50)],
  [eD, eD, ([], 17, 0, 9, 0, 0, 0, 53), eD, eD, ([], 0, 0, 0, 0, 0, 0, 54), ([], 5, 1, 0, 0, 0, 0, 55), ([true, true], 2, 1, 0, 0, 0, 0, 56), ([], 4, 0, 0, 0, 0, 0, 57), ([], 19, 6, 3, 73, 0, 0, 60), eD, eD, ([], 19, 3, 1, 27, 0, 0, 63), eD, eD, ([], 16, 3, 114, 0, 0, 0, 66)],
  [eD, eD, ([], 4, 0, 0, 0, 0, 0, 67), ([], 19, 6, 1, 70, 0, 0, 70), eD, eD, ([], 4, 0, 0, 0, 0, 0, 71), ([], 19, 6, 3, 73, 0, 0, 74), eD, eD, ([], 2, 1, 0, 0, 0, 0, 75), ([], 27, 26, 1, 184, 3, 0, 78), eD, eD, ([], 2, 1, 0, 0, 0, 0, 79), ([], 0, 0, 0, 0, 0, 1, 80)],
  [([], 9, 0, 0, 0, 0, 0, 81), ([], 4, 0, 0, 0, 0, 0, 82), ([], 19, 6, 3, 73, 0, 0, 85), eD, eD, ([], 19, 3, 1, 27, 0, 0, 88), eD, eD, ([], 16, 3, 104, 0, 0, 0, 91), eD, eD, ([], 4, 0, 0, 0, 0, 0, 92), ([], 19, 6, 3, 73, 0, 0, 95), eD, eD, ([], 2, 1, 0, 0, 0, 0, 96)],
  [([], 0, 0, 0, 0, 0, 1, 97), ([], 9, 0, 0, 0, 0, 0, 98), ([], 27, 26, 1, 184, 3, 0, 101), eD, eD, ([], 17, 0, 105, 0, 0, 0, 104), eD, eD, ([], 0, 0, 0, 0, 0, -1, 105), ([], 27, 112, 2, 185, 9, 0, 108), eD, eD, ([], 8, 1, 0, 0, 0, 1, 111), eD, eD, ([], 17, 0, 55, 0, 0, 0, 114)],
  [eD, eD, ([], 31, 0, 0, 0, 0, 0, 115)]]
set_option maxRecDepth 100000 in
theorem ok72 : okM 72 cd72 = true := by decide +kernel
def cd73 : List (List EM) := [[([], 4, 0, 0, 0, 0, 0, 1), ([], 19, 6, 4, 75, 0, 0, 4), eD, eD, ([], 15, 1, 71, 0, 0, 0, 7), eD, eD, ([], 2, 1, 0, 0, 0, 0, 8), ([], 4, 0, 0, 0, 0, 0, 9), ([], 19, 6, 2, 71, 0, 0, 12), eD, eD, ([], 19, 3, 1, 27, 0, 0, 15), eD, eD, ([], 16, 3, 71, 0, 0, 0, 18)],
  [eD, eD, ([], 4, 0, 0, 0, 0, 0, 19), ([], 19, 6, 1, 70, 0, 0, 22), eD, eD, ([], 4, 0, 0, 0, 0, 0, 23), ([], 19, 6, 2, 71, 0, 0, 26), eD, eD, ([], 2, 1, 0, 0, 0, 0, 27), ([], 0, 0, 0, 0, 0, 1, 28), ([], 9, 1, 0, 0, 0, 0, 29), ([], 27, 26, 1, 184, 3, 0, 32), eD, eD],
  [([], 0, 0, 0, 0, 0, -1, 33), ([], 27, 112, 2, 185, 9, 0, 36), eD, eD, ([], 2, 1, 0, 0, 0, 0, 37), ([], 5, 2, 0, 0, 0, 0, 38), ([true, true, true], 2, 2, 0, 0, 0, 0, 39), ([], 4, 0, 0, 0, 0, 0, 40), ([], 19, 6, 2, 71, 0, 0, 43), eD, eD, ([], 19, 3, 1, 27, 0, 0, 46), eD, eD, ([], 16, 3, 71, 0, 0, 0, 49), eD],
  [eD, ([], 4, 0, 0, 0, 0, 0, 50), ([], 19, 6, 1, 70, 0, 0, 53), eD, eD, ([], 4, 0, 0, 0, 0, 0, 54), ([], 19, 6, 2, 71, 0, 0, 57), eD, eD, ([], 2, 2, 0, 0, 0, 0, 58), ([], 27, 26, 1, 184, 3, 0, 61), eD, eD, ([], 0, 0, 0, 0, 0, 0, 62), ([], 27, 112, 2, 185, 9, 0, 65), eD],
  [eD, ([], 8, 2, 0, 0, 0, 1, 68), eD, eD, ([], 17, 0, 38, 0, 0, 0, 71), eD, eD, ([], 4, 0, 0, 0, 0, 0, 72), ([], 19, 6, 0, 69, 0, 0, 75), eD, eD, ([], 27, 64, 0, 186, 5, 0, 78), eD, eD, ([], 15, 1, 83, 0, 0, 0, 81), eD],
  [eD, ([], 0, 0, 0, 0, 0, 0, 82), ([], 29, 0, 0, 0, 1, 0, 83), ([], 2, 1, 0, 0, 0, 0, 84), ([], 5, 2, 0, 0, 0, 0, 85), ([true, false, true], 2, 2, 0, 0, 0, 0, 86), ([], 4, 0, 0, 0, 0, 0, 87), ([], 19, 6, 2, 71, 0, 0, 90), eD, eD, ([], 19, 3, 1, 27, 0, 0, 93), eD, eD, ([], 16, 3, 118, 0, 0, 0, 96), eD, eD],
  [([], 4, 0, 0, 0, 0, 0, 97), ([], 19, 6, 1, 70, 0, 0, 100), eD, eD, ([], 4, 0, 0, 0, 0, 0, 101), ([], 19, 6, 2, 71, 0, 0, 104), eD, eD, ([], 2, 2, 0, 0, 0, 0, 105), ([], 27, 26, 1, 184, 3, 0, 108), eD, eD, ([], 0, 0, 0, 0, 0, 0, 109), ([], 27, 114, 2, 187, 9, 0, 112), eD, eD],
  [([], 8, 2, 0, 0, 0, 1, 115), eD, eD, ([], 17, 0, 85, 0, 0, 0, 118), eD, eD, ([], 4, 0, 0, 0, 0, 0, 119), ([], 19, 6, 0, 69, 0, 0, 122), eD, eD, ([], 27, 64, 0, 186, 5, 0, 125), eD, eD, ([], 29, 0, 0, 0, 1, 0, 126)]]
set_option maxRecDepth 100000 in
theorem ok73 : okM 73 cd73 = true := by decide +kernel
def cd74 : List (List EM) := [[([], 2, 1, 0, 0, 0, 0, 1), ([], 15, 2, 30, 0, 0, 0, 4), eD, eD, ([], 2, 1, 0, 0, 0, 0, 5), ([], 4, 0, 0, 0, 0, 0, 6), ([], 19, 7, 1, 41, 0, 0, 9), eD, eD, ([], 16, 3, 30, 0, 0, 0, 12), eD, eD, ([], 2, 1, 0, 0, 0, 0, 13), ([], 4, 0, 0, 0, 0, 0, 14), ([], 19, 7, 0, 39, 0, 0, 17), eD],
  [eD, ([], 21, 0, 30, 0, 0, 0, 18), ([], 16, 3, 30, 0, 0, 0, 21), eD, eD, ([], 4, 0, 0, 0, 0, 0, 22), ([], 19, 7, 0, 39, 0, 0, 25), eD, eD, ([], 2, 1, 0, 0, 0, 0, 26), ([], 22, 0, 30, 0, 0, 0, 27), ([], 17, 0, 31, 0, 0, 0, 30), eD, eD, ([], 0, 0, 0, 0, 0, 0, 31), ([], 29, 0, 0, 0, 0, 0, 32)]]
set_option maxRecDepth 100000 in
theorem ok74 : okM 74 cd74 = true := by decide +kernel
def cd75 : List (List EM) := [[([], 0, 0, 0, 0, 0, 0, 1), ([], 5, 3, 0, 0, 0, 0, 2), ([], 0, 0, 0, 0, 0, 0, 3), ([], 5, 4, 1, 0, 0, 0, 5), eD, ([true, true, false, true, true], 2, 4, 1, 0, 0, 0, 7), eD, ([], 0, 0, 0, 0, 0, 4, 8), ([], 16, 3, 36, 0, 0, 0, 11), eD, eD, ([], 3, 1, 0, 0, 0, 0, 12), ([], 0, 1, 0, 0, 0, 16, 14), eD, ([], 2, 4, 1, 0, 0, 0, 16), eD],
  [([], 9, 2, 0, 0, 0, 0, 17), ([], 13, 2, 0, 0, 0, 0, 18), ([], 1, 2, 0, 5, 0, 65535, 21), eD, eD, ([], 11, 3, 0, 0, 0, 0, 22), ([], 1, 0, 0, 0, 0, 0, 23), ([], 18, 0, 30, 0, 0, 0, 27), eD, eD, eD, ([], 8, 3, 0, 0, 0, 1, 30), eD, eD, ([], 8, 4, 0, 0, 0, 1, 33), eD],
  [eD, ([], 17, 0, 5, 0, 0, 0, 36), eD, eD, ([], 4, 0, 0, 0, 0, 0, 37), ([], 19, 7, 1, 41, 0, 0, 40), eD, eD, ([], 2, 3, 0, 0, 0, 0, 41), ([], 9, 0, 0, 0, 0, 0, 42), ([], 4, 0, 0, 0, 0, 0, 43), ([], 19, 7, 0, 39, 0, 0, 46), eD, eD, ([], 21, 0, 30, 0, 0, 0, 47), ([], 16, 5, 52, 0, 0, 0, 50)],
  [eD, eD, ([], 0, 0, 0, 0, 0, 0, 51), ([], 29, 0, 0, 0, 1, 0, 52), ([], 0, 0, 0, 0, 0, 0, 53), ([], 5, 4, 1, 0, 0, 0, 55), eD, ([true, true, false, false, true], 2, 4, 1, 0, 0, 0, 57), eD, ([], 0, 0, 0, 0, 0, 4, 58), ([], 16, 3, 83, 0, 0, 0, 61), eD, eD, ([], 4, 0, 0, 0, 0, 0, 62), ([], 3, 1, 0, 0, 0, 0, 63), ([], 0, 1, 0, 0, 0, 16, 65)],
  [eD, ([], 2, 4, 1, 0, 0, 0, 67), eD, ([], 9, 2, 0, 0, 0, 0, 68), ([], 13, 2, 0, 0, 0, 0, 69), ([], 1, 2, 0, 5, 0, 65535, 72), eD, eD, ([], 11, 3, 0, 0, 0, 0, 73), ([], 14, 1, 0, 0, 0, 0, 74), ([], 27, 76, 1, 140, 7, 0, 77), eD, eD, ([], 8, 4, 0, 0, 0, 1, 80), eD, eD],
  [([], 17, 0, 55, 0, 0, 0, 83), eD, eD, ([], 0, 0, 0, 0, 0, 1, 84), ([], 29, 0, 0, 0, 1, 0, 85)]]
set_option maxRecDepth 100000 in
theorem ok75 : okM 75 cd75 = true := by decide +kernel
def cd76 : List (List EM) := [[([], 2, 1, 0, 0, 0, 0, 1), ([], 15, 0, 33, 0, 0, 0, 4), eD, eD, ([], 4, 0, 0, 0, 0, 0, 5), ([], 19, 7, 1, 41, 0, 0, 8), eD, eD, ([], 4, 0, 0, 0, 0, 0, 9), ([], 19, 7, 0, 39, 0, 0, 12), eD, eD, ([], 21, 0, 30, 0, 0, 0, 13), ([], 16, 3, 33, 0, 0, 0, 16), eD, eD],
  [([], 4, 0, 0, 0, 0, 0, 17), ([], 19, 7, 0, 39, 0, 0, 20), eD, eD, ([], 4, 0, 0, 0, 0, 0, 21), ([], 24, 0, 0, 0, 0, 0, 22), ([], 19, 7, 1, 41, 0, 0, 25), eD, eD, ([], 25, 0, 0, 0, 0, 0, 26), ([], 0, 0, 0, 0, 0, 1, 27), ([], 9, 0, 0, 0, 0, 0, 28), ([], 20, 7, 1, 41, 0, 0, 31), eD, eD, ([], 2, 1, 0, 0, 0, 0, 32)],
  [([], 23, 0, 30, 0, 0, 0, 33), ([], 31, 0, 0, 0, 0, 0, 34)]]
set_option maxRecDepth 100000 in
theorem ok76 : okM 76 cd76 = true := by decide +kernel
def cd77 : List (List EM) := [[([], 4, 0, 0, 0, 0, 0, 1), ([], 19, 7, 1, 41, 0, 0, 4), eD, eD, ([], 0, 0, 0, 0, 0, 1, 5), ([], 16, 3, 10, 0, 0, 0, 8), eD, eD, ([], 0, 0, 0, 0, 0, 0, 9), ([], 29, 0, 0, 0, 1, 0, 10), ([], 0, 0, 0, 0, 0, 0, 11), ([], 5, 1, 0, 0, 0, 0, 12), ([true, true], 2, 1, 0, 0, 0, 0, 13), ([], 4, 0, 0, 0, 0, 0, 14), ([], 19, 7, 1, 41, 0, 0, 17), eD],
  [eD, ([], 16, 3, 39, 0, 0, 0, 20), eD, eD, ([], 4, 0, 0, 0, 0, 0, 21), ([], 2, 1, 0, 0, 0, 0, 22), ([], 27, 74, 1, 86, 7, 0, 25), eD, eD, ([], 28, 78, 1, 87, 0, 0, 28), eD, eD, ([], 15, 1, 33, 0, 0, 0, 31), eD, eD, ([], 0, 0, 0, 0, 0, 0, 32)],
  [([], 29, 0, 0, 0, 1, 0, 33), ([], 8, 1, 0, 0, 0, 1, 36), eD, eD, ([], 17, 0, 12, 0, 0, 0, 39), eD, eD, ([], 4, 0, 0, 0, 0, 0, 40), ([], 4, 0, 0, 0, 0, 0, 41), ([], 19, 7, 1, 41, 0, 0, 44), eD, eD, ([], 0, 0, 0, 0, 0, 1, 45), ([], 9, 1, 0, 0, 0, 0, 46), ([], 27, 74, 1, 86, 7, 0, 49), eD],
  [eD, ([], 0, 1, 0, 0, 0, 32, 51), eD, ([], 16, 0, 73, 0, 0, 0, 54), eD, eD, ([], 4, 0, 0, 0, 0, 0, 55), ([], 4, 0, 0, 0, 0, 0, 56), ([], 19, 7, 1, 41, 0, 0, 59), eD, eD, ([], 0, 0, 0, 0, 0, 1, 60), ([], 9, 1, 0, 0, 0, 0, 61), ([], 27, 74, 1, 86, 7, 0, 64), eD, eD],
  [([], 0, 1, 0, 0, 0, 46, 66), eD, ([], 16, 0, 73, 0, 0, 0, 69), eD, eD, ([], 0, 0, 0, 0, 0, 1, 70), ([], 17, 0, 74, 0, 0, 0, 73), eD, eD, ([], 0, 0, 0, 0, 0, 0, 74), ([], 29, 0, 0, 0, 1, 0, 75)]]
set_option maxRecDepth 100000 in
theorem ok77 : okM 77 cd77 = true := by decide +kernel
def cd78 : List (List EM) := [[([], 2, 0, 0, 0, 0, 0, 1), ([], 32, 0, 0, 0, 0, 0, 84), eD, eD, eD, eD, eD, eD, eD, eD, eD, eD, eD, eD, eD, eD],
  [eD, eD, eD, eD, eD, eD, eD, eD, eD, eD, eD, eD, eD, eD, eD, eD],
  [eD, eD, eD, eD, eD, eD, eD, eD, eD, eD, eD, eD, eD, eD, eD, eD],
  [eD, eD, eD, eD, eD, eD, eD, eD, eD, eD, eD, eD, eD, eD, eD, eD],
  [eD, eD, eD, eD, eD, eD, eD, eD, eD, eD, eD, eD, eD, eD, eD, eD],
  [eD, eD, eD, eD, ([], 0, 0, 0, 0, 0, 0, 85), ([], 29, 0, 0, 0, 1, 0, 86), ([], 2, 0, 0, 0, 0, 0, 87), ([], 0, 1, 0, 0, 0, 32, 89), eD, ([], 16, 2, 98, 0, 0, 0, 92), eD, eD, ([], 2, 0, 0, 0, 0, 0, 93), ([], 0, 1, 0, 0, 0, 126, 95), eD, ([], 16, 5, 112, 0, 0, 0, 98)],
  [eD, eD, ([], 2, 0, 0, 0, 0, 0, 99), ([], 0, 2, 0, 0, 0, 160, 102), eD, eD, ([], 16, 2, 116, 0, 0, 0, 105), eD, eD, ([], 2, 0, 0, 0, 0, 0, 106), ([], 0, 2, 0, 0, 0, 255, 109), eD, eD, ([], 16, 4, 116, 0, 0, 0, 112), eD, eD],
  [([], 0, 0, 0, 0, 0, 1, 113), ([], 17, 0, 117, 0, 0, 0, 116), eD, eD, ([], 0, 0, 0, 0, 0, 0, 117), ([], 29, 0, 0, 0, 1, 0, 118)]]
set_option maxRecDepth 100000 in
theorem ok78 : okM 78 cd78 = true := by decide +kernel
def cd79 : List (List EM) := [[([], 0, 0, 0, 0, 0, 2, 1), ([], 2, 0, 0, 0, 0, 0, 2), ([], 0, 1, 0, 0, 0, 14, 4), eD, ([], 9, 0, 0, 0, 0, 0, 5), ([], 0, 1, 0, 0, 0, 15, 7), eD, ([], 10, 0, 0, 0, 0, 0, 8), ([], 9, 0, 0, 0, 0, 0, 9), ([], 29, 0, 0, 0, 0, 0, 10)]]
set_option maxRecDepth 100000 in
theorem ok79 : okM 79 cd79 = true := by decide +kernel
def cd80 : List (List EM) := [[([], 2, 0, 0, 0, 0, 0, 1), ([], 0, 0, 0, 0, 0, 1, 2), ([], 9, 3, 0, 0, 0, 0, 3), ([], 0, 1, 0, 0, 0, 15, 5), eD, ([], 9, 6, 0, 0, 0, 0, 6), ([], 2, 0, 0, 0, 0, 0, 7), ([], 0, 0, 0, 0, 0, 1, 8), ([], 9, 7, 0, 0, 0, 0, 9), ([], 9, 0, 0, 0, 0, 0, 10), ([], 2, 1, 0, 0, 0, 0, 11), ([], 9, 0, 0, 0, 0, 0, 12), ([], 0, 3, 0, 4, 0, 65535, 14), eD, ([], 9, 3, 0, 0, 0, 0, 15), ([], 29, 0, 0, 0, 0, 0, 16)]]
set_option maxRecDepth 100000 in
theorem ok80 : okM 80 cd80 = true := by decide +kernel
def cd81 : List (List EM) := [[([], 0, 0, 0, 0, 0, 1, 1), ([], 4, 0, 0, 0, 0, 0, 2), ([], 19, 8, 0, 23, 0, 0, 5), eD, eD, ([], 2, 1, 0, 0, 0, 0, 6), ([], 0, 0, 0, 0, 0, 1, 7), ([], 9, 0, 0, 0, 0, 0, 8), ([], 27, 54, 1, 57, 5, 0, 11), eD, eD, ([], 9, 0, 0, 0, 0, 0, 12), ([], 29, 0, 0, 0, 0, 0, 13)]]
set_option maxRecDepth 100000 in
theorem ok81 : okM 81 cd81 = true := by decide +kernel
def cd82 : List (List EM) := [[([], 4, 0, 0, 0, 0, 0, 1), ([], 19, 8, 0, 23, 0, 0, 4), eD, eD, ([], 2, 1, 0, 0, 0, 0, 5), ([], 0, 0, 0, 0, 0, 4, 6), ([], 9, 0, 0, 0, 0, 0, 7), ([], 27, 55, 1, 73, 5, 0, 10), eD, eD, ([], 29, 0, 0, 0, 0, 0, 11)]]
set_option maxRecDepth 100000 in
theorem ok82 : okM 82 cd82 = true := by decide +kernel
def cd83 : List (List EM) := [[([], 4, 0, 0, 0, 0, 0, 1), ([], 19, 8, 0, 23, 0, 0, 4), eD, eD, ([], 2, 1, 0, 0, 0, 0, 5), ([], 0, 0, 0, 0, 0, 4, 6), ([], 9, 0, 0, 0, 0, 0, 7), ([], 27, 55, 1, 73, 5, 0, 10), eD, eD, ([], 0, 1, 0, 0, 0, 16, 12), eD, ([], 9, 3, 0, 0, 0, 0, 13), ([], 15, 0, 20, 0, 0, 0, 16), eD, eD],
  [([], 0, 0, 0, 0, 0, 1, 17), ([], 17, 0, 21, 0, 0, 0, 20), eD, eD, ([], 0, 0, 0, 0, 0, 0, 21), ([], 29, 0, 0, 0, 1, 0, 22)]]
set_option maxRecDepth 100000 in
theorem ok83 : okM 83 cd83 = true := by decide +kernel
def cd84 : List (List EM) := [[([], 4, 0, 0, 0, 0, 0, 1), ([], 19, 8, 0, 23, 0, 0, 4), eD, eD, ([], 2, 1, 0, 0, 0, 0, 5), ([], 0, 0, 0, 0, 0, 4, 6), ([], 9, 0, 0, 0, 0, 0, 7), ([], 27, 55, 1, 73, 5, 0, 10), eD, eD, ([], 0, 0, 0, 0, 0, 1, 11), ([], 9, 3, 0, 0, 0, 0, 12), ([], 15, 0, 19, 0, 0, 0, 15), eD, eD, ([], 0, 0, 0, 0, 0, 1, 16)],
  [([], 17, 0, 20, 0, 0, 0, 19), eD, eD, ([], 0, 0, 0, 0, 0, 0, 20), ([], 29, 0, 0, 0, 1, 0, 21)]]
set_option maxRecDepth 100000 in
theorem ok84 : okM 84 cd84 = true := by decide +kernel
def cd85 : List (List EM) := [[([], 4, 0, 0, 0, 0, 0, 1), ([], 19, 8, 0, 23, 0, 0, 4), eD, eD, ([], 2, 1, 0, 0, 0, 0, 5), ([], 0, 1, 0, 0, 0, 33, 7), eD, ([], 9, 0, 0, 0, 0, 0, 8), ([], 27, 54, 1, 57, 5, 0, 11), eD, eD, ([], 0, 0, 0, 0, 0, 3, 12), ([], 16, 1, 19, 0, 0, 0, 15), eD, eD, ([], 0, 0, 0, 0, 0, 1, 16)],
  [([], 17, 0, 20, 0, 0, 0, 19), eD, eD, ([], 0, 0, 0, 0, 0, 0, 20), ([], 29, 0, 0, 0, 1, 0, 21)]]
set_option maxRecDepth 100000 in
theorem ok85 : okM 85 cd85 = true := by decide +kernel
def cd86 : List (List EM) := [[([], 4, 0, 0, 0, 0, 0, 1), ([], 19, 8, 0, 23, 0, 0, 4), eD, eD, ([], 2, 1, 0, 0, 0, 0, 5), ([], 0, 1, 0, 0, 0, 35, 7), eD, ([], 9, 0, 0, 0, 0, 0, 8), ([], 27, 54, 1, 57, 5, 0, 11), eD, eD, ([], 29, 0, 0, 0, 0, 0, 12)]]
set_option maxRecDepth 100000 in
theorem ok86 : okM 86 cd86 = true := by decide +kernel
def cd87 : List (List EM) := [[([], 4, 0, 0, 0, 0, 0, 1), ([], 19, 8, 0, 23, 0, 0, 4), eD, eD, ([], 2, 1, 0, 0, 0, 0, 5), ([], 0, 1, 0, 0, 0, 52, 7), eD, ([], 9, 0, 0, 0, 0, 0, 8), ([], 27, 56, 1, 55, 5, 0, 11), eD, eD, ([], 29, 0, 0, 0, 0, 0, 12)]]
set_option maxRecDepth 100000 in
theorem ok87 : okM 87 cd87 = true := by decide +kernel
def cd88 : List (List EM) := [[([], 4, 0, 0, 0, 0, 0, 1), ([], 19, 8, 0, 23, 0, 0, 4), eD, eD, ([], 2, 1, 0, 0, 0, 0, 5), ([], 0, 1, 0, 0, 0, 56, 7), eD, ([], 9, 0, 0, 0, 0, 0, 8), ([], 27, 56, 1, 55, 5, 0, 11), eD, eD, ([], 29, 0, 0, 0, 0, 0, 12)]]
set_option maxRecDepth 100000 in
theorem ok88 : okM 88 cd88 = true := by decide +kernel
def cd89 : List (List EM) := [[([], 4, 0, 0, 0, 0, 0, 1), ([], 2, 1, 0, 0, 0, 0, 2), ([], 27, 88, 1, 59, 8, 0, 5), eD, eD, ([], 0, 2, 0, 0, 0, 128, 8), eD, eD, ([], 9, 0, 0, 0, 0, 0, 9), ([], 0, 0, 0, 0, 0, 1, 10), ([], 9, 1, 0, 0, 0, 0, 11), ([], 0, 2, 0, 0, 0, 128, 14), eD, eD, ([], 10, 0, 0, 0, 0, 0, 15), ([], 29, 0, 0, 0, 0, 0, 16)]]
set_option maxRecDepth 100000 in
theorem ok89 : okM 89 cd89 = true := by decide +kernel
def cd90 : List (List EM) := [[([], 4, 0, 0, 0, 0, 0, 1), ([], 19, 8, 0, 23, 0, 0, 4), eD, eD, ([], 2, 1, 0, 0, 0, 0, 5), ([], 2, 2, 0, 0, 0, 0, 6), ([], 28, 91, 2, 84, 0, 0, 9), eD, eD, ([], 27, 55, 1, 73, 5, 0, 12), eD, eD, ([], 29, 0, 0, 0, 0, 0, 13)]]
set_option maxRecDepth 100000 in
theorem ok90 : okM 90 cd90 = true := by decide +kernel
def cd91 : List (List EM) := [[([], 2, 0, 0, 0, 0, 0, 1), ([], 0, 0, 0, 0, 0, 2, 2), ([], 2, 1, 0, 0, 0, 0, 3), ([], 9, 2, 0, 0, 0, 0, 4), ([], 9, 0, 0, 0, 0, 0, 5), ([], 2, 1, 0, 0, 0, 0, 6), ([], 0, 1, 0, 0, 0, 15, 8), eD, ([], 16, 3, 15, 0, 0, 0, 11), eD, eD, ([], 0, 0, 0, 0, 0, 2, 12), ([], 17, 0, 16, 0, 0, 0, 15), eD, eD, ([], 0, 0, 0, 0, 0, 4, 16)],
  [([], 9, 0, 0, 0, 0, 0, 17), ([], 29, 0, 0, 0, 0, 0, 18)]]
set_option maxRecDepth 100000 in
theorem ok91 : okM 91 cd91 = true := by decide +kernel
def cd92 : List (List EM) := [[([], 2, 2, 0, 0, 0, 0, 1), ([], 32, 0, 0, 1, 0, 0, 48), eD, eD, eD, eD, eD, eD, eD, eD, eD, eD, eD, eD, eD, eD],
  [eD, eD, eD, eD, eD, eD, eD, eD, eD, eD, eD, eD, eD, eD, eD, eD],
  [eD, eD, eD, eD, eD, eD, eD, eD, eD, eD, eD, eD, eD, eD, eD, eD],
  [([], 4, 0, 0, 0, 0, 0, 49), ([], 2, 1, 0, 0, 0, 0, 50), ([], 27, 82, 1, 72, 8, 0, 53), eD, eD, ([], 29, 0, 0, 0, 0, 0, 54), ([], 4, 0, 0, 0, 0, 0, 55), ([], 2, 1, 0, 0, 0, 0, 56), ([], 27, 88, 1, 59, 8, 0, 59), eD, eD, ([], 29, 0, 0, 0, 0, 0, 60), ([], 4, 0, 0, 0, 0, 0, 61), ([], 2, 1, 0, 0, 0, 0, 62), ([], 27, 87, 1, 78, 8, 0, 65), eD],
  [eD, ([], 29, 0, 0, 0, 0, 0, 66), ([], 4, 0, 0, 0, 0, 0, 67), ([], 2, 1, 0, 0, 0, 0, 68), ([], 27, 85, 1, 79, 8, 0, 71), eD, eD, ([], 15, 0, 78, 0, 0, 0, 74), eD, eD, ([], 0, 0, 0, 0, 0, 1, 75), ([], 17, 0, 79, 0, 0, 0, 78), eD, eD, ([], 0, 0, 0, 0, 0, 0, 79), ([], 29, 0, 0, 0, 0, 0, 80)],
  [([], 4, 0, 0, 0, 0, 0, 81), ([], 2, 1, 0, 0, 0, 0, 82), ([], 27, 86, 1, 81, 8, 0, 85), eD, eD, ([], 29, 0, 0, 0, 0, 0, 86), ([], 4, 0, 0, 0, 0, 0, 87), ([], 19, 8, 0, 23, 0, 0, 90), eD, eD, ([], 2, 1, 0, 0, 0, 0, 91), ([], 0, 1, 0, 0, 0, 36, 93), eD, ([], 9, 0, 0, 0, 0, 0, 94), ([], 27, 55, 1, 73, 5, 0, 97), eD],
  [eD, ([], 29, 0, 0, 0, 0, 0, 98), ([], 4, 0, 0, 0, 0, 0, 99), ([], 19, 8, 0, 23, 0, 0, 102), eD, eD, ([], 2, 1, 0, 0, 0, 0, 103), ([], 0, 0, 0, 0, 0, 2, 104), ([], 9, 0, 0, 0, 0, 0, 105), ([], 27, 55, 1, 73, 5, 0, 108), eD, eD, ([], 29, 0, 0, 0, 0, 0, 109), ([], 4, 0, 0, 0, 0, 0, 110), ([], 19, 8, 0, 23, 0, 0, 113), eD],
  [eD, ([], 2, 1, 0, 0, 0, 0, 114), ([], 0, 1, 0, 0, 0, 8, 116), eD, ([], 9, 0, 0, 0, 0, 0, 117), ([], 27, 56, 1, 55, 5, 0, 120), eD, eD, ([], 29, 0, 0, 0, 0, 0, 121), ([], 4, 0, 0, 0, 0, 0, 122), ([], 19, 8, 0, 23, 0, 0, 125), eD, eD, ([], 2, 1, 0, 0, 0, 0, 126), ([], 0, 1, 0, 0, 0, 12, 128), eD],
  [([], 9, 0, 0, 0, 0, 0, 129), ([], 27, 56, 1, 55, 5, 0, 132), eD, eD, ([], 29, 0, 0, 0, 0, 0, 133)]]
set_option maxRecDepth 100000 in
theorem ok92 : okM 92 cd92 = true := by decide +kernel
def cd93 : List (List EM) := [[([], 0, 0, 0, 0, 0, 0, 1), ([], 5, 3, 0, 0, 0, 0, 2), ([], 0, 0, 0, 0, 0, 0, 3), ([], 5, 4, 1, 0, 0, 0, 5), eD, ([true, true, true, true, true], 2, 4, 1, 0, 0, 0, 7), eD, ([], 0, 1, 0, 0, 0, 64, 9), eD, ([], 16, 3, 46, 0, 0, 0, 12), eD, eD, ([], 2, 4, 1, 0, 0, 0, 14), eD, ([], 0, 0, 0, 0, 0, 2, 15), ([], 16, 0, 40, 0, 0, 0, 18)],
  [eD, eD, ([], 2, 4, 1, 0, 0, 0, 20), eD, ([], 0, 0, 0, 0, 0, 3, 21), ([], 16, 0, 40, 0, 0, 0, 24), eD, eD, ([], 2, 3, 0, 0, 0, 0, 25), ([], 4, 0, 0, 0, 0, 0, 26), ([], 19, 8, 0, 23, 0, 0, 29), eD, eD, ([], 2, 1, 0, 0, 0, 0, 30), ([], 2, 4, 1, 0, 0, 0, 32), eD],
  [([], 9, 0, 0, 0, 0, 0, 33), ([], 27, 54, 1, 57, 5, 0, 36), eD, eD, ([], 28, 80, 2, 93, 0, 0, 39), eD, eD, ([], 5, 3, 0, 0, 0, 0, 40), ([], 8, 4, 0, 0, 0, 1, 43), eD, eD, ([], 17, 0, 5, 0, 0, 0, 46), eD, eD, ([], 0, 0, 0, 0, 0, 0, 47), ([], 5, 4, 1, 0, 0, 0, 49)],
  [eD, ([true, true, true, true, true], 2, 4, 1, 0, 0, 0, 51), eD, ([], 0, 1, 0, 0, 0, 32, 53), eD, ([], 4, 0, 0, 0, 0, 0, 54), ([], 2, 1, 0, 0, 0, 0, 55), ([], 27, 81, 1, 71, 8, 0, 58), eD, eD, ([], 0, 0, 0, 0, 0, 2, 59), ([], 9, 1, 0, 0, 0, 0, 60), ([], 9, 2, 0, 0, 0, 0, 61), ([], 16, 3, 86, 0, 0, 0, 64), eD, eD],
  [([], 2, 3, 0, 0, 0, 0, 65), ([], 4, 0, 0, 0, 0, 0, 66), ([], 19, 8, 0, 23, 0, 0, 69), eD, eD, ([], 2, 2, 0, 0, 0, 0, 70), ([], 2, 4, 1, 0, 0, 0, 72), eD, ([], 9, 0, 0, 0, 0, 0, 73), ([], 27, 54, 1, 57, 5, 0, 76), eD, eD, ([], 28, 80, 2, 93, 0, 0, 79), eD, eD, ([], 5, 3, 0, 0, 0, 0, 80)],
  [([], 8, 4, 0, 0, 0, 1, 83), eD, eD, ([], 17, 0, 49, 0, 0, 0, 86), eD, eD, ([], 2, 3, 0, 0, 0, 0, 87), ([], 29, 0, 0, 0, 0, 0, 88)]]
set_option maxRecDepth 100000 in
theorem ok93 : okM 93 cd93 = true := by decide +kernel
def cd94 : List (List EM) := [[([], 4, 0, 0, 0, 0, 0, 1), ([], 19, 8, 0, 23, 0, 0, 4), eD, eD, ([], 2, 2, 0, 0, 0, 0, 5), ([], 0, 1, 0, 0, 0, 35, 7), eD, ([], 9, 0, 0, 0, 0, 0, 8), ([], 27, 54, 1, 57, 5, 0, 11), eD, eD, ([], 0, 1, 0, 0, 0, 30, 13), eD, ([], 34, 1, 0, 0, 0, 0, 16), eD, eD],
  [([], 5, 4, 1, 0, 0, 0, 18), eD, ([], 0, 0, 0, 0, 0, 0, 19), ([], 5, 5, 1, 0, 0, 0, 21), eD, ([true, true, false, true, true, true], 2, 5, 1, 0, 0, 0, 23), eD, ([], 2, 4, 1, 0, 0, 0, 25), eD, ([], 16, 3, 54, 0, 0, 0, 28), eD, eD, ([], 4, 1, 0, 0, 0, 0, 29), ([], 19, 7, 0, 40, 0, 0, 32), eD, eD],
  [([], 2, 5, 1, 0, 0, 0, 34), eD, ([], 4, 0, 0, 0, 0, 0, 35), ([], 19, 8, 0, 23, 0, 0, 38), eD, eD, ([], 2, 3, 0, 0, 0, 0, 39), ([], 2, 5, 1, 0, 0, 0, 41), eD, ([], 28, 91, 2, 84, 0, 0, 44), eD, eD, ([], 27, 55, 1, 73, 5, 0, 47), eD, eD, ([], 23, 0, 30, 0, 0, 0, 48)],
  [([], 8, 5, 0, 0, 0, 1, 51), eD, eD, ([], 17, 0, 21, 0, 0, 0, 54), eD, eD, ([], 4, 1, 0, 0, 0, 0, 55), ([], 2, 4, 1, 0, 0, 0, 57), eD, ([], 20, 7, 1, 45, 0, 0, 60), eD, eD, ([], 31, 0, 0, 0, 0, 0, 61)]]
set_option maxRecDepth 100000 in
theorem ok94 : okM 94 cd94 = true := by decide +kernel
def cd95 : List (List EM) := [[([], 4, 1, 0, 0, 0, 0, 1), ([], 19, 7, 1, 45, 0, 0, 4), eD, eD, ([], 4, 0, 0, 0, 0, 0, 5), ([], 19, 8, 0, 23, 0, 0, 8), eD, eD, ([], 2, 2, 0, 0, 0, 0, 9), ([], 0, 1, 0, 0, 0, 35, 11), eD, ([], 9, 0, 0, 0, 0, 0, 12), ([], 27, 54, 1, 57, 5, 0, 15), eD, eD, ([], 16, 0, 20, 0, 0, 0, 18)],
  [eD, eD, ([], 0, 0, 0, 0, 0, 0, 19), ([], 29, 0, 0, 0, 1, 0, 20), ([], 0, 0, 0, 0, 0, 0, 21), ([], 5, 4, 1, 0, 0, 0, 23), eD, ([true, true, false, true, true], 2, 4, 1, 0, 0, 0, 25), eD, ([], 4, 1, 0, 0, 0, 0, 26), ([], 19, 7, 1, 45, 0, 0, 29), eD, eD, ([], 16, 3, 76, 0, 0, 0, 32), eD, eD],
  [([], 4, 0, 0, 0, 0, 0, 33), ([], 19, 8, 1, 24, 0, 0, 36), eD, eD, ([], 4, 1, 0, 0, 0, 0, 37), ([], 2, 4, 1, 0, 0, 0, 39), eD, ([], 27, 74, 1, 105, 7, 0, 42), eD, eD, ([], 27, 19, 1, 106, 2, 0, 45), eD, eD, ([], 4, 0, 0, 0, 0, 0, 46), ([], 19, 8, 1, 24, 0, 0, 49), eD],
  [eD, ([], 4, 0, 0, 0, 0, 0, 50), ([], 19, 8, 0, 23, 0, 0, 53), eD, eD, ([], 2, 3, 0, 0, 0, 0, 54), ([], 2, 4, 1, 0, 0, 0, 56), eD, ([], 28, 91, 2, 84, 0, 0, 59), eD, eD, ([], 27, 55, 1, 73, 5, 0, 62), eD, eD, ([], 27, 19, 1, 106, 2, 0, 65), eD],
  [eD, ([], 16, 0, 70, 0, 0, 0, 68), eD, eD, ([], 0, 0, 0, 0, 0, 0, 69), ([], 29, 0, 0, 0, 1, 0, 70), ([], 8, 4, 0, 0, 0, 1, 73), eD, eD, ([], 17, 0, 23, 0, 0, 0, 76), eD, eD, ([], 0, 0, 0, 0, 0, 1, 77), ([], 29, 0, 0, 0, 1, 0, 78)]]
set_option maxRecDepth 100000 in
theorem ok95 : okM 95 cd95 = true := by decide +kernel
def cd96 : List (List EM) := [[([], 4, 0, 0, 0, 0, 0, 1), ([], 19, 8, 0, 23, 0, 0, 4), eD, eD, ([], 2, 1, 0, 0, 0, 0, 5), ([], 27, 54, 1, 57, 5, 0, 8), eD, eD, ([], 0, 2, 0, 0, 0, 133, 11), eD, eD, ([], 16, 1, 23, 0, 0, 0, 14), eD, eD, ([], 4, 0, 0, 0, 0, 0, 15), ([], 2, 1, 0, 0, 0, 0, 16)],
  [([], 27, 81, 1, 71, 8, 0, 19), eD, eD, ([], 2, 3, 0, 0, 0, 0, 20), ([], 16, 5, 25, 0, 0, 0, 23), eD, eD, ([], 0, 0, 0, 0, 0, 0, 24), ([], 29, 0, 0, 0, 1, 0, 25), ([], 4, 0, 0, 0, 0, 0, 26), ([], 2, 1, 0, 0, 0, 0, 27), ([], 27, 82, 1, 72, 8, 0, 30), eD, eD, ([], 0, 1, 0, 0, 0, -18, 32), eD],
  [([], 9, 3, 0, 0, 0, 0, 33), ([], 15, 0, 38, 0, 0, 0, 36), eD, eD, ([], 0, 0, 0, 0, 0, 0, 37), ([], 29, 0, 0, 0, 1, 0, 38), ([], 4, 0, 0, 0, 0, 0, 39), ([], 19, 8, 0, 23, 0, 0, 42), eD, eD, ([], 2, 1, 0, 0, 0, 0, 43), ([], 0, 1, 0, 0, 0, 6, 45), eD, ([], 9, 0, 0, 0, 0, 0, 46), ([], 2, 1, 0, 0, 0, 0, 47), ([], 0, 1, 0, 0, 0, 8, 49)],
  [eD, ([], 9, 0, 0, 0, 0, 0, 50), ([], 27, 61, 2, 74, 5, 0, 53), eD, eD, ([], 15, 0, 74, 0, 0, 0, 56), eD, eD, ([], 4, 0, 0, 0, 0, 0, 57), ([], 19, 8, 0, 23, 0, 0, 60), eD, eD, ([], 2, 1, 0, 0, 0, 0, 61), ([], 0, 1, 0, 0, 0, 16, 63), eD, ([], 9, 0, 0, 0, 0, 0, 64)],
  [([], 2, 1, 0, 0, 0, 0, 65), ([], 0, 1, 0, 0, 0, 32, 67), eD, ([], 9, 0, 0, 0, 0, 0, 68), ([], 27, 61, 2, 74, 5, 0, 71), eD, eD, ([], 15, 1, 76, 0, 0, 0, 74), eD, eD, ([], 0, 0, 0, 0, 0, 0, 75), ([], 29, 0, 0, 0, 1, 0, 76), ([], 4, 0, 0, 0, 0, 0, 77), ([], 2, 1, 0, 0, 0, 0, 78), ([], 27, 97, 1, 75, 8, 0, 81), eD],
  [eD, ([], 15, 0, 128, 0, 0, 0, 84), eD, eD, ([], 4, 0, 0, 0, 0, 0, 85), ([], 2, 1, 0, 0, 0, 0, 86), ([], 2, 4, 1, 0, 0, 0, 88), eD, ([], 27, 98, 2, 76, 8, 0, 91), eD, eD, ([], 15, 0, 128, 0, 0, 0, 94), eD, eD, ([], 4, 0, 0, 0, 0, 0, 95), ([], 2, 1, 0, 0, 0, 0, 96)],
  [([], 2, 2, 0, 0, 0, 0, 97), ([], 4, 5, 1, 0, 0, 0, 99), eD, ([], 27, 99, 3, 80, 8, 0, 102), eD, eD, ([], 15, 0, 128, 0, 0, 0, 105), eD, eD, ([], 4, 0, 0, 0, 0, 0, 106), ([], 2, 1, 0, 0, 0, 0, 107), ([], 2, 2, 0, 0, 0, 0, 108), ([], 27, 93, 2, 92, 8, 0, 111), eD, eD, ([], 4, 0, 0, 0, 0, 0, 112)],
  [([], 19, 8, 0, 23, 0, 0, 115), eD, eD, ([], 2, 1, 0, 0, 0, 0, 116), ([], 0, 0, 0, 0, 0, 2, 117), ([], 9, 0, 0, 0, 0, 0, 118), ([], 27, 55, 1, 73, 5, 0, 121), eD, eD, ([], 16, 1, 128, 0, 0, 0, 124), eD, eD, ([], 0, 0, 0, 0, 0, 1, 125), ([], 17, 0, 129, 0, 0, 0, 128), eD, eD],
  [([], 0, 0, 0, 0, 0, 0, 129), ([], 29, 0, 0, 0, 1, 0, 130)]]
set_option maxRecDepth 100000 in
theorem ok96 : okM 96 cd96 = true := by decide +kernel
def cd97 : List (List EM) := [[([], 2, 1, 0, 0, 0, 0, 1), ([], 0, 1, 0, 0, 0, 32, 3), eD, ([], 9, 0, 0, 0, 0, 0, 4), ([], 5, 2, 0, 0, 0, 0, 5), ([], 4, 0, 0, 0, 0, 0, 6), ([], 19, 8, 0, 23, 0, 0, 9), eD, eD, ([], 2, 2, 0, 0, 0, 0, 10), ([], 27, 54, 1, 57, 5, 0, 13), eD, eD, ([], 0, 2, 0, 0, 0, 192, 16), eD, eD],
  [([], 16, 0, 21, 0, 0, 0, 19), eD, eD, ([], 0, 0, 0, 0, 0, 0, 20), ([], 29, 0, 0, 0, 1, 0, 21), ([], 4, 0, 0, 0, 0, 0, 22), ([], 19, 8, 0, 23, 0, 0, 25), eD, eD, ([], 2, 2, 0, 0, 0, 0, 26), ([], 0, 0, 0, 0, 0, 1, 27), ([], 9, 0, 0, 0, 0, 0, 28), ([], 27, 54, 1, 57, 5, 0, 31), eD, eD, ([], 0, 0, 0, 0, 0, 1, 32)],
  [([], 16, 0, 51, 0, 0, 0, 35), eD, eD, ([], 4, 0, 0, 0, 0, 0, 36), ([], 19, 8, 0, 23, 0, 0, 39), eD, eD, ([], 2, 2, 0, 0, 0, 0, 40), ([], 0, 0, 0, 0, 0, 1, 41), ([], 9, 0, 0, 0, 0, 0, 42), ([], 27, 54, 1, 57, 5, 0, 45), eD, eD, ([], 0, 0, 0, 0, 0, 3, 46), ([], 16, 0, 51, 0, 0, 0, 49), eD],
  [eD, ([], 0, 0, 0, 0, 0, 0, 50), ([], 29, 0, 0, 0, 1, 0, 51), ([true, false, true], 4, 0, 0, 0, 0, 0, 52), ([], 19, 8, 0, 23, 0, 0, 55), eD, eD, ([], 2, 2, 0, 0, 0, 0, 56), ([], 0, 0, 0, 0, 0, 2, 57), ([], 9, 0, 0, 0, 0, 0, 58), ([], 27, 54, 1, 57, 5, 0, 61), eD, eD, ([], 15, 1, 104, 0, 0, 0, 64), eD, eD],
  [([], 4, 0, 0, 0, 0, 0, 65), ([], 19, 8, 0, 23, 0, 0, 68), eD, eD, ([], 2, 2, 0, 0, 0, 0, 69), ([], 0, 1, 0, 0, 0, 6, 71), eD, ([], 9, 0, 0, 0, 0, 0, 72), ([], 2, 2, 0, 0, 0, 0, 73), ([], 0, 1, 0, 0, 0, 8, 75), eD, ([], 9, 0, 0, 0, 0, 0, 76), ([], 27, 61, 2, 74, 5, 0, 79), eD, eD, ([], 15, 0, 104, 0, 0, 0, 82)],
  [eD, eD, ([], 4, 0, 0, 0, 0, 0, 83), ([], 19, 8, 0, 23, 0, 0, 86), eD, eD, ([], 2, 2, 0, 0, 0, 0, 87), ([], 0, 1, 0, 0, 0, 16, 89), eD, ([], 9, 0, 0, 0, 0, 0, 90), ([], 2, 2, 0, 0, 0, 0, 91), ([], 0, 1, 0, 0, 0, 20, 93), eD, ([], 9, 0, 0, 0, 0, 0, 94), ([], 27, 61, 2, 74, 5, 0, 97), eD],
  [eD, ([], 15, 0, 104, 0, 0, 0, 100), eD, eD, ([], 0, 0, 0, 0, 0, 1, 101), ([], 17, 0, 105, 0, 0, 0, 104), eD, eD, ([], 0, 0, 0, 0, 0, 0, 105), ([], 29, 0, 0, 0, 1, 0, 106)]]
set_option maxRecDepth 100000 in
theorem ok97 : okM 97 cd97 = true := by decide +kernel
def cd98 : List (List EM) := [[([], 4, 0, 0, 0, 0, 0, 1), ([], 2, 1, 0, 0, 0, 0, 2), ([], 27, 88, 1, 59, 8, 0, 5), eD, eD, ([], 5, 3, 0, 0, 0, 0, 6), ([], 2, 3, 0, 0, 0, 0, 7), ([], 15, 2, 34, 0, 0, 0, 10), eD, eD, ([], 2, 3, 0, 0, 0, 0, 11), ([], 0, 2, 0, 0, 0, 128, 14), eD, eD, ([], 2, 2, 0, 0, 0, 0, 15), ([], 9, 2, 0, 0, 0, 0, 16)],
  [([], 16, 4, 34, 0, 0, 0, 19), eD, eD, ([], 4, 0, 0, 0, 0, 0, 20), ([], 19, 8, 0, 23, 0, 0, 23), eD, eD, ([], 2, 1, 0, 0, 0, 0, 24), ([], 0, 1, 0, 0, 0, 40, 26), eD, ([], 9, 0, 0, 0, 0, 0, 27), ([], 27, 56, 1, 55, 5, 0, 30), eD, eD, ([], 2, 3, 0, 0, 0, 0, 31), ([], 16, 0, 36, 0, 0, 0, 34)],
  [eD, eD, ([], 0, 0, 0, 0, 0, 0, 35), ([], 29, 0, 0, 0, 1, 0, 36), ([], 4, 0, 0, 0, 0, 0, 37), ([], 19, 8, 0, 23, 0, 0, 40), eD, eD, ([], 2, 1, 0, 0, 0, 0, 41), ([], 0, 1, 0, 0, 0, 56, 43), eD, ([], 9, 0, 0, 0, 0, 0, 44), ([], 0, 0, 0, 0, 0, 4, 45), ([], 9, 0, 0, 0, 0, 0, 46), ([], 27, 56, 1, 55, 5, 0, 49), eD],
  [eD, ([], 15, 1, 68, 0, 0, 0, 52), eD, eD, ([], 4, 0, 0, 0, 0, 0, 53), ([], 19, 8, 0, 23, 0, 0, 56), eD, eD, ([], 2, 1, 0, 0, 0, 0, 57), ([], 0, 1, 0, 0, 0, 40, 59), eD, ([], 9, 0, 0, 0, 0, 0, 60), ([], 0, 0, 0, 0, 0, 4, 61), ([], 9, 0, 0, 0, 0, 0, 62), ([], 27, 56, 1, 55, 5, 0, 65), eD],
  [eD, ([], 15, 0, 70, 0, 0, 0, 68), eD, eD, ([], 0, 0, 0, 0, 0, 0, 69), ([], 29, 0, 0, 0, 1, 0, 70), ([], 4, 0, 0, 0, 0, 0, 71), ([], 2, 1, 0, 0, 0, 0, 72), ([], 27, 83, 1, 77, 8, 0, 75), eD, eD, ([], 15, 0, 92, 0, 0, 0, 78), eD, eD, ([], 2, 3, 0, 0, 0, 0, 79), ([], 15, 0, 90, 0, 0, 0, 82)],
  [eD, eD, ([], 2, 3, 0, 0, 0, 0, 83), ([], 0, 2, 0, 0, 0, 128, 86), eD, eD, ([], 10, 1, 0, 0, 0, 0, 87), ([], 15, 0, 92, 0, 0, 0, 90), eD, eD, ([], 0, 0, 0, 0, 0, 0, 91), ([], 29, 0, 0, 0, 1, 0, 92), ([true, true, true, true], 2, 3, 0, 0, 0, 0, 93), ([], 15, 1, 118, 0, 0, 0, 96), eD, eD],
  [([], 4, 0, 0, 0, 0, 0, 97), ([], 2, 1, 0, 0, 0, 0, 98), ([], 27, 87, 1, 78, 8, 0, 101), eD, eD, ([], 15, 1, 116, 0, 0, 0, 104), eD, eD, ([], 4, 0, 0, 0, 0, 0, 105), ([], 2, 1, 0, 0, 0, 0, 106), ([], 27, 85, 1, 79, 8, 0, 109), eD, eD, ([], 15, 1, 116, 0, 0, 0, 112), eD, eD],
  [([], 0, 0, 0, 0, 0, 1, 113), ([], 17, 0, 117, 0, 0, 0, 116), eD, eD, ([], 0, 0, 0, 0, 0, 0, 117), ([], 29, 0, 0, 0, 1, 0, 118), ([], 4, 0, 0, 0, 0, 0, 119), ([], 2, 1, 0, 0, 0, 0, 120), ([], 27, 87, 1, 78, 8, 0, 123), eD, eD, ([], 0, 0, 0, 0, 0, 2, 124), ([], 16, 2, 142, 0, 0, 0, 127), eD, eD, ([], 4, 0, 0, 0, 0, 0, 128)],
  [([], 2, 1, 0, 0, 0, 0, 129), ([], 27, 87, 1, 78, 8, 0, 132), eD, eD, ([], 2, 2, 0, 0, 0, 0, 133), ([], 0, 0, 0, 0, 0, 1, 134), ([], 9, 0, 0, 0, 0, 0, 135), ([], 16, 4, 142, 0, 0, 0, 138), eD, eD, ([], 0, 0, 0, 0, 0, 1, 139), ([], 17, 0, 143, 0, 0, 0, 142), eD, eD, ([], 0, 0, 0, 0, 0, 0, 143), ([], 29, 0, 0, 0, 1, 0, 144)]]
set_option maxRecDepth 100000 in
theorem ok98 : okM 98 cd98 = true := by decide +kernel
def cd99 : List (List EM) := [[([], 4, 0, 0, 0, 0, 0, 1), ([], 2, 1, 0, 0, 0, 0, 2), ([], 27, 86, 1, 81, 8, 0, 5), eD, eD, ([], 5, 4, 1, 0, 0, 0, 7), eD, ([], 2, 4, 1, 0, 0, 0, 9), eD, ([], 0, 1, 0, 0, 0, 30, 11), eD, ([], 16, 4, 27, 0, 0, 0, 14), eD, eD, ([], 4, 0, 0, 0, 0, 0, 15), ([], 2, 1, 0, 0, 0, 0, 16)],
  [([], 27, 81, 1, 71, 8, 0, 19), eD, eD, ([], 2, 4, 1, 0, 0, 0, 21), eD, ([], 28, 79, 1, 82, 0, 0, 24), eD, eD, ([], 16, 0, 29, 0, 0, 0, 27), eD, eD, ([], 0, 0, 0, 0, 0, 0, 28), ([], 29, 0, 0, 0, 1, 0, 29), ([], 4, 0, 0, 0, 0, 0, 30), ([], 4, 3, 0, 0, 0, 0, 31), ([], 2, 1, 0, 0, 0, 0, 32)],
  [([], 2, 2, 0, 0, 0, 0, 33), ([], 27, 94, 3, 83, 8, 0, 36), eD, eD, ([], 4, 3, 0, 0, 0, 0, 37), ([], 27, 77, 0, 85, 7, 0, 40), eD, eD, ([], 15, 0, 65, 0, 0, 0, 43), eD, eD, ([], 4, 0, 0, 0, 0, 0, 44), ([], 19, 8, 1, 24, 0, 0, 47), eD, eD, ([], 4, 3, 0, 0, 0, 0, 48)],
  [([], 27, 20, 1, 88, 2, 0, 51), eD, eD, ([], 4, 0, 0, 0, 0, 0, 52), ([], 19, 8, 0, 23, 0, 0, 55), eD, eD, ([], 2, 1, 0, 0, 0, 0, 56), ([], 0, 1, 0, 0, 0, 36, 58), eD, ([], 9, 0, 0, 0, 0, 0, 59), ([], 27, 55, 1, 73, 5, 0, 62), eD, eD, ([], 16, 0, 67, 0, 0, 0, 65), eD],
  [eD, ([], 0, 0, 0, 0, 0, 0, 66), ([], 29, 0, 0, 0, 1, 0, 67), ([], 0, 0, 0, 0, 0, 0, 68), ([], 5, 5, 1, 0, 0, 0, 70), eD, ([true, true, true, false, true, true], 2, 5, 1, 0, 0, 0, 72), eD, ([], 4, 0, 0, 0, 0, 0, 73), ([], 2, 1, 0, 0, 0, 0, 74), ([], 27, 81, 1, 71, 8, 0, 77), eD, eD, ([], 0, 0, 0, 0, 0, 2, 78), ([], 9, 1, 0, 0, 0, 0, 79), ([], 16, 3, 129, 0, 0, 0, 82)],
  [eD, eD, ([], 4, 0, 0, 0, 0, 0, 83), ([], 19, 8, 0, 23, 0, 0, 86), eD, eD, ([], 2, 2, 0, 0, 0, 0, 87), ([], 0, 1, 0, 0, 0, 32, 89), eD, ([], 2, 5, 1, 0, 0, 0, 91), eD, ([], 9, 2, 0, 0, 0, 0, 92), ([], 9, 0, 0, 0, 0, 0, 93), ([], 27, 54, 1, 57, 5, 0, 96), eD, eD],
  [([], 0, 2, 0, 0, 0, 193, 99), eD, eD, ([], 16, 1, 121, 0, 0, 0, 102), eD, eD, ([], 4, 0, 0, 0, 0, 0, 103), ([], 19, 8, 0, 23, 0, 0, 106), eD, eD, ([], 2, 2, 0, 0, 0, 0, 107), ([], 0, 1, 0, 0, 0, 32, 109), eD, ([], 2, 5, 1, 0, 0, 0, 111), eD, ([], 9, 2, 0, 0, 0, 0, 112)],
  [([], 9, 0, 0, 0, 0, 0, 113), ([], 0, 0, 0, 0, 0, 1, 114), ([], 9, 0, 0, 0, 0, 0, 115), ([], 27, 54, 1, 57, 5, 0, 118), eD, eD, ([], 15, 0, 123, 0, 0, 0, 121), eD, eD, ([], 0, 0, 0, 0, 0, 0, 122), ([], 29, 0, 0, 0, 1, 0, 123), ([], 8, 5, 0, 0, 0, 1, 126), eD, eD, ([], 17, 0, 70, 0, 0, 0, 129), eD],
  [eD, ([], 2, 4, 1, 0, 0, 0, 131), eD, ([], 5, 5, 1, 0, 0, 0, 133), eD, ([true, true, true, false, false, true], 2, 5, 1, 0, 0, 0, 135), eD, ([], 0, 1, 0, 0, 0, 15, 137), eD, ([], 4, 0, 0, 0, 0, 0, 138), ([], 2, 1, 0, 0, 0, 0, 139), ([], 27, 81, 1, 71, 8, 0, 142), eD, eD, ([], 0, 0, 0, 0, 0, 2, 143), ([], 9, 1, 0, 0, 0, 0, 144)],
  [([], 9, 2, 0, 0, 0, 0, 145), ([], 16, 3, 166, 0, 0, 0, 148), eD, eD, ([], 4, 0, 0, 0, 0, 0, 149), ([], 2, 2, 0, 0, 0, 0, 150), ([], 2, 5, 1, 0, 0, 0, 152), eD, ([], 27, 90, 2, 91, 8, 0, 155), eD, eD, ([], 15, 0, 160, 0, 0, 0, 158), eD, eD, ([], 0, 0, 0, 0, 0, 0, 159), ([], 29, 0, 0, 0, 1, 0, 160)],
  [([], 8, 5, 0, 0, 0, 1, 163), eD, eD, ([], 17, 0, 133, 0, 0, 0, 166), eD, eD, ([], 0, 0, 0, 0, 0, 1, 167), ([], 29, 0, 0, 0, 1, 0, 168)]]
set_option maxRecDepth 100000 in
theorem ok99 : okM 99 cd99 = true := by decide +kernel
def cd100 : List (List EM) := [[([], 4, 3, 0, 0, 0, 0, 1), ([], 19, 7, 1, 45, 0, 0, 4), eD, eD, ([], 28, 79, 1, 82, 0, 0, 7), eD, eD, ([], 0, 0, 0, 0, 0, 2, 8), ([], 9, 1, 0, 0, 0, 0, 9), ([], 5, 4, 1, 0, 0, 0, 11), eD, ([], 4, 0, 0, 0, 0, 0, 12), ([], 19, 8, 0, 23, 0, 0, 15), eD, eD, ([], 2, 1, 0, 0, 0, 0, 16)],
  [([], 0, 1, 0, 0, 0, 64, 18), eD, ([], 27, 60, 2, 201, 5, 0, 21), eD, eD, ([], 4, 0, 0, 0, 0, 0, 22), ([], 19, 8, 0, 23, 0, 0, 25), eD, eD, ([], 2, 2, 0, 0, 0, 0, 26), ([], 2, 4, 1, 0, 0, 0, 28), eD, ([], 0, 1, 0, 0, 0, 32, 30), eD, ([], 9, 2, 0, 0, 0, 0, 31), ([], 27, 60, 2, 201, 5, 0, 34)],
  [eD, eD, ([], 4, 0, 0, 0, 0, 0, 35), ([], 19, 8, 0, 23, 0, 0, 38), eD, eD, ([], 2, 1, 0, 0, 0, 0, 39), ([], 0, 2, 0, 0, 0, 133, 42), eD, eD, ([], 27, 57, 2, 95, 5, 0, 45), eD, eD, ([], 4, 0, 0, 0, 0, 0, 46), ([], 19, 8, 0, 23, 0, 0, 49), eD],
  [eD, ([], 2, 1, 0, 0, 0, 0, 50), ([], 0, 0, 0, 0, 0, 1, 51), ([], 9, 0, 0, 0, 0, 0, 52), ([], 0, 0, 0, 0, 0, 1, 53), ([], 2, 4, 1, 0, 0, 0, 55), eD, ([], 9, 0, 0, 0, 0, 0, 56), ([], 27, 57, 2, 95, 5, 0, 59), eD, eD, ([], 4, 0, 0, 0, 0, 0, 60), ([], 19, 8, 0, 23, 0, 0, 63), eD, eD, ([], 2, 1, 0, 0, 0, 0, 64)],
  [([], 0, 1, 0, 0, 0, 32, 66), eD, ([], 9, 0, 0, 0, 0, 0, 67), ([], 0, 2, 0, 0, 0, 192, 70), eD, eD, ([], 27, 57, 2, 95, 5, 0, 73), eD, eD, ([], 4, 0, 0, 0, 0, 0, 74), ([], 19, 8, 0, 23, 0, 0, 77), eD, eD, ([], 2, 1, 0, 0, 0, 0, 78), ([], 0, 1, 0, 0, 0, 33, 80), eD],
  [([], 9, 0, 0, 0, 0, 0, 81), ([], 0, 0, 0, 0, 0, 1, 82), ([], 27, 57, 2, 95, 5, 0, 85), eD, eD, ([], 4, 0, 0, 0, 0, 0, 86), ([], 19, 8, 0, 23, 0, 0, 89), eD, eD, ([], 2, 1, 0, 0, 0, 0, 90), ([], 0, 1, 0, 0, 0, 35, 92), eD, ([], 9, 0, 0, 0, 0, 0, 93), ([], 4, 3, 0, 0, 0, 0, 94), ([], 19, 7, 1, 45, 0, 0, 97), eD],
  [eD, ([], 27, 57, 2, 95, 5, 0, 100), eD, eD, ([], 4, 0, 0, 0, 0, 0, 101), ([], 19, 8, 0, 23, 0, 0, 104), eD, eD, ([], 2, 1, 0, 0, 0, 0, 105), ([], 0, 1, 0, 0, 0, 36, 107), eD, ([], 9, 0, 0, 0, 0, 0, 108), ([], 4, 0, 0, 0, 0, 0, 109), ([], 19, 8, 1, 24, 0, 0, 112), eD, eD],
  [([], 4, 3, 0, 0, 0, 0, 113), ([], 27, 20, 1, 88, 2, 0, 116), eD, eD, ([], 27, 58, 2, 198, 5, 0, 119), eD, eD, ([], 0, 0, 0, 0, 0, 0, 120), ([], 5, 5, 1, 0, 0, 0, 122), eD, ([true, false, true, true, true, true], 2, 5, 1, 0, 0, 0, 124), eD, ([], 2, 4, 1, 0, 0, 0, 126), eD, ([], 16, 3, 152, 0, 0, 0, 129), eD],
  [eD, ([], 4, 0, 0, 0, 0, 0, 130), ([], 19, 8, 0, 23, 0, 0, 133), eD, eD, ([], 2, 2, 0, 0, 0, 0, 134), ([], 0, 1, 0, 0, 0, 32, 136), eD, ([], 2, 5, 1, 0, 0, 0, 138), eD, ([], 9, 2, 0, 0, 0, 0, 139), ([], 9, 0, 0, 0, 0, 0, 140), ([], 0, 2, 0, 0, 0, 193, 143), eD, eD, ([], 27, 57, 2, 95, 5, 0, 146)],
  [eD, eD, ([], 8, 5, 0, 0, 0, 1, 149), eD, eD, ([], 17, 0, 122, 0, 0, 0, 152), eD, eD, ([], 0, 0, 0, 0, 0, 0, 153), ([], 5, 5, 1, 0, 0, 0, 155), eD, ([true, false, true, true, false, true], 2, 5, 1, 0, 0, 0, 157), eD, ([], 4, 3, 0, 0, 0, 0, 158), ([], 19, 7, 1, 45, 0, 0, 161), eD],
  [eD, ([], 16, 3, 189, 0, 0, 0, 164), eD, eD, ([], 4, 0, 0, 0, 0, 0, 165), ([], 19, 8, 0, 23, 0, 0, 168), eD, eD, ([], 2, 2, 0, 0, 0, 0, 169), ([], 2, 5, 1, 0, 0, 0, 171), eD, ([], 28, 91, 2, 84, 0, 0, 174), eD, eD, ([], 4, 3, 0, 0, 0, 0, 175), ([], 2, 5, 1, 0, 0, 0, 177)],
  [eD, ([], 27, 74, 1, 105, 7, 0, 180), eD, eD, ([], 27, 58, 2, 198, 5, 0, 183), eD, eD, ([], 8, 5, 0, 0, 0, 1, 186), eD, eD, ([], 17, 0, 155, 0, 0, 0, 189), eD, eD, ([], 31, 0, 0, 0, 0, 0, 190)]]
set_option maxRecDepth 100000 in
theorem ok100 : okM 100 cd100 = true := by decide +kernel
def cd101 : List (List EM) := [[([], 4, 0, 0, 0, 0, 0, 1), ([], 19, 8, 0, 23, 0, 0, 4), eD, eD, ([], 2, 1, 0, 0, 0, 0, 5), ([], 0, 0, 0, 0, 0, 4, 6), ([], 9, 0, 0, 0, 0, 0, 7), ([], 2, 2, 0, 0, 0, 0, 8), ([], 27, 58, 2, 198, 5, 0, 11), eD, eD, ([], 31, 0, 0, 0, 0, 0, 12)]]
set_option maxRecDepth 100000 in
theorem ok101 : okM 101 cd101 = true := by decide +kernel
def cd102 : List (List EM) := [[([], 4, 0, 0, 0, 0, 0, 1), ([], 19, 8, 0, 23, 0, 0, 4), eD, eD, ([], 2, 1, 0, 0, 0, 0, 5), ([], 0, 1, 0, 0, 0, 8, 7), eD, ([], 9, 0, 0, 0, 0, 0, 8), ([], 2, 2, 0, 0, 0, 0, 9), ([], 27, 59, 2, 193, 5, 0, 12), eD, eD, ([], 31, 0, 0, 0, 0, 0, 13)]]
set_option maxRecDepth 100000 in
theorem ok102 : okM 102 cd102 = true := by decide +kernel
def cd103 : List (List EM) := [[([], 4, 0, 0, 0, 0, 0, 1), ([], 19, 8, 0, 23, 0, 0, 4), eD, eD, ([], 2, 1, 0, 0, 0, 0, 5), ([], 0, 1, 0, 0, 0, 12, 7), eD, ([], 9, 0, 0, 0, 0, 0, 8), ([], 2, 2, 0, 0, 0, 0, 9), ([], 27, 59, 2, 193, 5, 0, 12), eD, eD, ([], 31, 0, 0, 0, 0, 0, 13)]]
set_option maxRecDepth 100000 in
theorem ok103 : okM 103 cd103 = true := by decide +kernel
def cd104 : List (List EM) := [[([], 4, 0, 0, 0, 0, 0, 1), ([], 19, 8, 0, 23, 0, 0, 4), eD, eD, ([], 2, 1, 0, 0, 0, 0, 5), ([], 0, 1, 0, 0, 0, 33, 7), eD, ([], 9, 0, 0, 0, 0, 0, 8), ([], 2, 2, 0, 0, 0, 0, 9), ([], 15, 0, 16, 0, 0, 0, 12), eD, eD, ([], 0, 0, 0, 0, 0, 3, 13), ([], 17, 0, 17, 0, 0, 0, 16), eD, eD],
  [([], 0, 0, 0, 0, 0, 1, 17), ([true, true, false, true, true], 27, 57, 2, 95, 5, 0, 20), eD, eD, ([], 4, 0, 0, 0, 0, 0, 21), ([], 19, 8, 0, 23, 0, 0, 24), eD, eD, ([], 2, 1, 0, 0, 0, 0, 25), ([], 0, 1, 0, 0, 0, 40, 27), eD, ([], 9, 0, 0, 0, 0, 0, 28), ([], 2, 4, 1, 0, 0, 0, 30), eD, ([], 27, 59, 2, 193, 5, 0, 33), eD],
  [eD, ([], 4, 0, 0, 0, 0, 0, 34), ([], 19, 8, 0, 23, 0, 0, 37), eD, eD, ([], 2, 1, 0, 0, 0, 0, 38), ([], 0, 1, 0, 0, 0, 52, 40), eD, ([], 9, 0, 0, 0, 0, 0, 41), ([], 2, 3, 0, 0, 0, 0, 42), ([], 27, 59, 2, 193, 5, 0, 45), eD, eD, ([], 4, 0, 0, 0, 0, 0, 46), ([], 19, 8, 0, 23, 0, 0, 49), eD],
  [eD, ([], 2, 1, 0, 0, 0, 0, 50), ([], 0, 1, 0, 0, 0, 56, 52), eD, ([], 9, 0, 0, 0, 0, 0, 53), ([], 2, 4, 1, 0, 0, 0, 55), eD, ([], 27, 59, 2, 193, 5, 0, 58), eD, eD, ([], 31, 0, 0, 0, 0, 0, 59)]]
set_option maxRecDepth 100000 in
theorem ok104 : okM 104 cd104 = true := by decide +kernel
def cd105 : List (List EM) := [[([], 4, 0, 0, 0, 0, 0, 1), ([], 2, 1, 0, 0, 0, 0, 2), ([], 4, 0, 0, 0, 0, 0, 3), ([], 2, 2, 0, 0, 0, 0, 4), ([], 27, 82, 1, 72, 8, 0, 7), eD, eD, ([], 27, 101, 2, 223, 8, 0, 10), eD, eD, ([], 4, 0, 0, 0, 0, 0, 11), ([], 2, 1, 0, 0, 0, 0, 12), ([], 4, 0, 0, 0, 0, 0, 13), ([], 19, 8, 0, 23, 0, 0, 16), eD, eD],
  [([], 2, 2, 0, 0, 0, 0, 17), ([], 0, 1, 0, 0, 0, 8, 19), eD, ([], 9, 0, 0, 0, 0, 0, 20), ([], 27, 56, 1, 55, 5, 0, 23), eD, eD, ([], 27, 102, 2, 224, 8, 0, 26), eD, eD, ([], 4, 0, 0, 0, 0, 0, 27), ([], 2, 1, 0, 0, 0, 0, 28), ([], 4, 0, 0, 0, 0, 0, 29), ([], 19, 8, 0, 23, 0, 0, 32), eD, eD],
  [([], 2, 2, 0, 0, 0, 0, 33), ([], 0, 1, 0, 0, 0, 12, 35), eD, ([], 9, 0, 0, 0, 0, 0, 36), ([], 27, 56, 1, 55, 5, 0, 39), eD, eD, ([], 27, 103, 2, 225, 8, 0, 42), eD, eD, ([], 4, 0, 0, 0, 0, 0, 43), ([], 2, 1, 0, 0, 0, 0, 44), ([], 4, 0, 0, 0, 0, 0, 45), ([], 2, 2, 0, 0, 0, 0, 46), ([], 27, 85, 1, 79, 8, 0, 49), eD],
  [eD, ([], 4, 0, 0, 0, 0, 0, 50), ([], 2, 2, 0, 0, 0, 0, 51), ([], 27, 87, 1, 78, 8, 0, 54), eD, eD, ([], 4, 0, 0, 0, 0, 0, 55), ([], 2, 2, 0, 0, 0, 0, 56), ([], 27, 88, 1, 59, 8, 0, 59), eD, eD, ([], 27, 104, 4, 226, 8, 0, 62), eD, eD, ([], 31, 0, 0, 0, 0, 0, 63)]]
set_option maxRecDepth 100000 in
theorem ok105 : okM 105 cd105 = true := by decide +kernel
def cd106 : List (List EM) := [[([], 4, 0, 0, 0, 0, 0, 1), ([], 19, 8, 0, 23, 0, 0, 4), eD, eD, ([], 2, 1, 0, 0, 0, 0, 5), ([], 0, 0, 0, 0, 0, 2, 6), ([], 9, 0, 0, 0, 0, 0, 7), ([], 4, 0, 0, 0, 0, 0, 8), ([], 2, 1, 0, 0, 0, 0, 9), ([], 2, 2, 0, 0, 0, 0, 10), ([], 27, 93, 2, 92, 8, 0, 13), eD, eD, ([], 27, 58, 2, 198, 5, 0, 16), eD, eD],
  [([], 31, 0, 0, 0, 0, 0, 17)]]
set_option maxRecDepth 100000 in
theorem ok106 : okM 106 cd106 = true := by decide +kernel
def cd107 : List (List EM) := [[([], 4, 0, 0, 0, 0, 0, 1), ([], 2, 1, 0, 0, 0, 0, 2), ([], 27, 81, 1, 71, 8, 0, 5), eD, eD, ([], 0, 0, 0, 0, 0, 2, 6), ([], 9, 1, 0, 0, 0, 0, 7), ([], 5, 3, 0, 0, 0, 0, 8), ([], 4, 0, 0, 0, 0, 0, 9), ([], 2, 1, 0, 0, 0, 0, 10), ([], 27, 108, 1, 108, 8, 0, 13), eD, eD, ([], 4, 0, 0, 0, 0, 0, 14), ([], 2, 1, 0, 0, 0, 0, 15), ([], 0, 1, 0, 0, 0, 32, 17)],
  [eD, ([], 9, 0, 0, 0, 0, 0, 18), ([], 27, 108, 1, 108, 8, 0, 21), eD, eD, ([], 0, 0, 0, 0, 0, 0, 22), ([], 5, 4, 1, 0, 0, 0, 24), eD, ([true, false, true, true, true], 2, 4, 1, 0, 0, 0, 26), eD, ([], 2, 3, 0, 0, 0, 0, 27), ([], 16, 3, 47, 0, 0, 0, 30), eD, eD, ([], 4, 0, 0, 0, 0, 0, 31), ([], 2, 2, 0, 0, 0, 0, 32)],
  [([], 0, 1, 0, 0, 0, 32, 34), eD, ([], 2, 4, 1, 0, 0, 0, 36), eD, ([], 9, 2, 0, 0, 0, 0, 37), ([], 9, 0, 0, 0, 0, 0, 38), ([], 27, 108, 1, 108, 8, 0, 41), eD, eD, ([], 8, 4, 0, 0, 0, 1, 44), eD, eD, ([], 17, 0, 24, 0, 0, 0, 47), eD, eD, ([], 31, 0, 0, 0, 0, 0, 48)]]
set_option maxRecDepth 100000 in
theorem ok107 : okM 107 cd107 = true := by decide +kernel
def cd108 : List (List EM) := [[([], 4, 0, 0, 0, 0, 0, 1), ([], 19, 8, 0, 23, 0, 0, 4), eD, eD, ([], 2, 1, 0, 0, 0, 0, 5), ([], 4, 0, 0, 0, 0, 0, 6), ([], 19, 8, 0, 23, 0, 0, 9), eD, eD, ([], 2, 1, 0, 0, 0, 0, 10), ([], 27, 54, 1, 57, 5, 0, 13), eD, eD, ([], 0, 2, 0, 0, 0, 128, 16), eD, eD],
  [([], 9, 1, 0, 0, 0, 0, 17), ([], 0, 0, 0, 0, 0, 1, 18), ([], 34, 0, 0, 1, 0, 0, 21), eD, eD, ([], 27, 57, 2, 95, 5, 0, 24), eD, eD, ([], 31, 0, 0, 0, 0, 0, 25)]]
set_option maxRecDepth 100000 in
theorem ok108 : okM 108 cd108 = true := by decide +kernel
def cd109 : List (List EM) := [[([], 0, 2, 0, 0, 0, 1024, 3), eD, eD, ([], 0, 2, 0, 0, 0, 128, 6), eD, eD, ([], 2, 0, 0, 0, 0, 0, 7), ([], 0, 0, 0, 0, 0, 2, 8), ([], 9, 1, 0, 0, 0, 0, 9), ([], 9, 2, 0, 0, 0, 0, 10), ([], 9, 0, 0, 0, 0, 0, 11), ([], 29, 0, 0, 0, 0, 0, 12)]]
set_option maxRecDepth 100000 in
theorem ok109 : okM 109 cd109 = true := by decide +kernel
def cd110 : List (List EM) := [[([], 2, 1, 0, 0, 0, 0, 1), ([], 0, 0, 0, 0, 0, 2, 2), ([], 16, 2, 19, 0, 0, 0, 5), eD, eD, ([], 2, 1, 0, 0, 0, 0, 6), ([], 4, 0, 0, 0, 0, 0, 7), ([], 19, 9, 1, 10, 0, 0, 10), eD, eD, ([], 0, 0, 0, 0, 0, 1, 11), ([], 9, 0, 0, 0, 0, 0, 12), ([], 16, 4, 19, 0, 0, 0, 15), eD, eD, ([], 0, 0, 0, 0, 0, 1, 16)],
  [([], 17, 0, 20, 0, 0, 0, 19), eD, eD, ([], 0, 0, 0, 0, 0, 0, 20), ([], 29, 0, 0, 0, 1, 0, 21)]]
set_option maxRecDepth 100000 in
theorem ok110 : okM 110 cd110 = true := by decide +kernel
def cd111 : List (List EM) := [[([], 4, 0, 0, 0, 0, 0, 1), ([], 19, 9, 0, 9, 0, 0, 4), eD, eD, ([], 0, 2, 0, 0, 0, 512, 7), eD, eD, ([], 0, 0, 0, 0, 0, 4, 8), ([], 2, 1, 0, 0, 0, 0, 9), ([], 9, 2, 0, 0, 0, 0, 10), ([], 9, 0, 0, 0, 0, 0, 11), ([], 27, 56, 1, 30, 5, 0, 14), eD, eD, ([], 29, 0, 0, 0, 0, 0, 15)]]
set_option maxRecDepth 100000 in
theorem ok111 : okM 111 cd111 = true := by decide +kernel
def cd112 : List (List EM) := [[([], 4, 0, 0, 0, 0, 0, 1), ([], 2, 1, 0, 0, 0, 0, 2), ([], 27, 110, 1, 111, 9, 0, 5), eD, eD, ([], 15, 0, 23, 0, 0, 0, 8), eD, eD, ([], 4, 0, 0, 0, 0, 0, 9), ([], 19, 9, 0, 9, 0, 0, 12), eD, eD, ([], 0, 2, 0, 0, 0, 512, 15), eD, eD, ([], 0, 0, 0, 0, 0, 4, 16)],
  [([], 2, 1, 0, 0, 0, 0, 17), ([], 9, 2, 0, 0, 0, 0, 18), ([], 9, 0, 0, 0, 0, 0, 19), ([], 2, 2, 0, 0, 0, 0, 20), ([], 27, 59, 2, 112, 5, 0, 23), eD, eD, ([], 31, 0, 0, 0, 0, 0, 24)]]
set_option maxRecDepth 100000 in
theorem ok112 : okM 112 cd112 = true := by decide +kernel
def cd113 : List (List EM) := [[([], 4, 0, 0, 0, 0, 0, 1), ([], 19, 9, 0, 9, 0, 0, 4), eD, eD, ([], 4, 0, 0, 0, 0, 0, 5), ([], 19, 9, 3, 16, 0, 0, 8), eD, eD, ([], 28, 109, 1, 128, 0, 0, 11), eD, eD, ([], 2, 1, 0, 0, 0, 0, 12), ([], 0, 0, 0, 0, 0, 2, 13), ([], 9, 1, 0, 0, 0, 0, 14), ([], 0, 1, 0, 0, 0, 8, 16), eD],
  [([], 10, 0, 0, 0, 0, 0, 17), ([], 9, 0, 0, 0, 0, 0, 18), ([], 27, 54, 1, 129, 5, 0, 21), eD, eD, ([], 2, 1, 0, 0, 0, 0, 22), ([], 0, 0, 0, 0, 0, 2, 23), ([], 9, 1, 0, 0, 0, 0, 24), ([], 0, 1, 0, 0, 0, 8, 26), eD, ([], 10, 1, 0, 0, 0, 0, 27), ([], 9, 7, 0, 0, 0, 0, 28), ([], 0, 0, 0, 0, 0, 1, 29), ([], 9, 3, 0, 0, 0, 0, 30), ([], 15, 0, 37, 0, 0, 0, 33), eD],
  [eD, ([], 0, 0, 0, 0, 0, 1, 34), ([], 17, 0, 38, 0, 0, 0, 37), eD, eD, ([], 0, 0, 0, 0, 0, 0, 38), ([], 29, 0, 0, 0, 1, 0, 39)]]
set_option maxRecDepth 100000 in
theorem ok113 : okM 113 cd113 = true := by decide +kernel
def cd114 : List (List EM) := [[([], 4, 0, 0, 0, 0, 0, 1), ([], 2, 1, 0, 0, 0, 0, 2), ([], 27, 110, 1, 111, 9, 0, 5), eD, eD, ([], 15, 1, 9, 0, 0, 0, 8), eD, eD, ([], 31, 0, 0, 0, 0, 0, 9), ([], 4, 0, 0, 0, 0, 0, 10), ([], 19, 9, 3, 16, 0, 0, 13), eD, eD, ([], 28, 109, 1, 128, 0, 0, 16), eD, eD],
  [([], 2, 1, 0, 0, 0, 0, 17), ([], 0, 0, 0, 0, 0, 2, 18), ([], 9, 1, 0, 0, 0, 0, 19), ([], 0, 1, 0, 0, 0, 8, 21), eD, ([], 10, 0, 0, 0, 0, 0, 22), ([], 9, 0, 0, 0, 0, 0, 23), ([], 5, 3, 0, 0, 0, 0, 24), ([], 0, 0, 0, 0, 0, 1, 25), ([], 2, 1, 0, 0, 0, 0, 26), ([], 0, 0, 0, 0, 0, 2, 27), ([], 9, 1, 0, 0, 0, 0, 28), ([], 0, 1, 0, 0, 0, 8, 30), eD, ([], 10, 1, 0, 0, 0, 0, 31), ([], 9, 6, 0, 0, 0, 0, 32)],
  [([], 5, 4, 1, 0, 0, 0, 34), eD, ([], 4, 0, 0, 0, 0, 0, 35), ([], 19, 9, 0, 9, 0, 0, 38), eD, eD, ([], 2, 3, 0, 0, 0, 0, 39), ([], 2, 2, 0, 0, 0, 0, 40), ([], 15, 0, 57, 0, 0, 0, 43), eD, eD, ([], 4, 0, 0, 0, 0, 0, 44), ([], 19, 9, 0, 9, 0, 0, 47), eD, eD, ([], 2, 3, 0, 0, 0, 0, 48)],
  [([], 27, 54, 1, 129, 5, 0, 51), eD, eD, ([], 2, 4, 1, 0, 0, 0, 53), eD, ([], 9, 4, 0, 0, 0, 0, 54), ([], 17, 0, 70, 0, 0, 0, 57), eD, eD, ([], 4, 0, 0, 0, 0, 0, 58), ([], 19, 9, 0, 9, 0, 0, 61), eD, eD, ([], 2, 3, 0, 0, 0, 0, 62), ([], 27, 54, 1, 129, 5, 0, 65), eD],
  [eD, ([], 2, 4, 1, 0, 0, 0, 67), eD, ([], 0, 0, 0, 0, 0, -1, 68), ([], 9, 5, 0, 0, 0, 0, 69), ([], 9, 3, 0, 0, 0, 0, 70), ([], 27, 57, 2, 188, 5, 0, 73), eD, eD, ([], 31, 0, 0, 0, 0, 0, 74)]]
set_option maxRecDepth 100000 in
theorem ok114 : okM 114 cd114 = true := by decide +kernel
end
section
/-! code tables, by program out of the printed bytecode, and their checks -/
def cd115 : List (List EM) := [[([], 4, 0, 0, 0, 0, 0, 1), ([], 2, 1, 0, 0, 0, 0, 2), ([], 27, 110, 1, 111, 9, 0, 5), eD, eD, ([], 15, 0, 28, 0, 0, 0, 8), eD, eD, ([], 2, 1, 0, 0, 0, 0, 9), ([], 4, 0, 0, 0, 0, 0, 10), ([], 19, 9, 4, 20, 0, 0, 13), eD, eD, ([], 16, 0, 28, 0, 0, 0, 16), eD, eD],
  [([], 4, 0, 0, 0, 0, 0, 17), ([], 2, 1, 0, 0, 0, 0, 18), ([], 27, 113, 1, 127, 9, 0, 21), eD, eD, ([], 15, 1, 28, 0, 0, 0, 24), eD, eD, ([], 0, 0, 0, 0, 0, 1, 25), ([], 17, 0, 29, 0, 0, 0, 28), eD, eD, ([], 0, 0, 0, 0, 0, 0, 29), ([], 29, 0, 0, 0, 1, 0, 30)]]
set_option maxRecDepth 100000 in
theorem ok115 : okM 115 cd115 = true := by decide +kernel
def cd116 : List (List EM) := [[([], 4, 0, 0, 0, 0, 0, 1), ([], 0, 0, 0, 0, 0, 1, 2), ([], 27, 118, 1, 157, 9, 0, 5), eD, eD, ([], 29, 0, 0, 0, 0, 0, 6)]]
set_option maxRecDepth 100000 in
theorem ok116 : okM 116 cd116 = true := by decide +kernel
def cd117 : List (List EM) := [[([], 0, 0, 0, 0, 0, 0, 1), ([], 5, 3, 0, 0, 0, 0, 2), ([true, true, true, true], 2, 3, 0, 0, 0, 0, 3), ([], 2, 2, 0, 0, 0, 0, 4), ([], 16, 3, 25, 0, 0, 0, 7), eD, eD, ([], 4, 0, 0, 0, 0, 0, 8), ([], 2, 1, 0, 0, 0, 0, 9), ([], 2, 3, 0, 0, 0, 0, 10), ([], 9, 0, 0, 0, 0, 0, 11), ([], 27, 115, 1, 158, 9, 0, 14), eD, eD, ([], 15, 1, 19, 0, 0, 0, 17), eD],
  [eD, ([], 0, 0, 0, 0, 0, 0, 18), ([], 29, 0, 0, 0, 1, 0, 19), ([], 8, 3, 0, 0, 0, 1, 22), eD, eD, ([], 17, 0, 2, 0, 0, 0, 25), eD, eD, ([], 0, 0, 0, 0, 0, 1, 26), ([], 29, 0, 0, 0, 1, 0, 27)]]
set_option maxRecDepth 100000 in
theorem ok117 : okM 117 cd117 = true := by decide +kernel
def cd118 : List (List EM) := [[([], 0, 0, 0, 0, 0, 0, 1), ([], 5, 2, 0, 0, 0, 0, 2), ([], 0, 0, 0, 0, 0, 2, 3), ([], 5, 3, 0, 0, 0, 0, 4), ([true, true, true, true], 2, 3, 0, 0, 0, 0, 5), ([], 4, 0, 0, 0, 0, 0, 6), ([], 19, 9, 1, 10, 0, 0, 9), eD, eD, ([], 0, 0, 0, 0, 0, 1, 10), ([], 9, 0, 0, 0, 0, 0, 11), ([], 16, 4, 47, 0, 0, 0, 14), eD, eD, ([], 4, 0, 0, 0, 0, 0, 15), ([], 2, 3, 0, 0, 0, 0, 16)],
  [([], 27, 115, 1, 158, 9, 0, 19), eD, eD, ([], 15, 0, 28, 0, 0, 0, 22), eD, eD, ([], 2, 2, 0, 0, 0, 0, 23), ([], 0, 0, 0, 0, 0, 1, 24), ([], 9, 0, 0, 0, 0, 0, 25), ([], 17, 0, 29, 0, 0, 0, 28), eD, eD, ([], 0, 0, 0, 0, 0, 0, 29), ([], 5, 2, 0, 0, 0, 0, 30), ([], 2, 2, 0, 0, 0, 0, 31), ([], 2, 1, 0, 0, 0, 0, 32)],
  [([], 16, 1, 41, 0, 0, 0, 35), eD, eD, ([], 2, 3, 0, 0, 0, 0, 36), ([], 2, 1, 0, 0, 0, 0, 37), ([], 9, 1, 0, 0, 0, 0, 38), ([], 0, 0, 0, 0, 0, 1, 39), ([], 9, 0, 0, 0, 0, 0, 40), ([], 29, 0, 0, 0, 0, 0, 41), ([], 8, 3, 0, 0, 0, 1, 44), eD, eD, ([], 17, 0, 4, 0, 0, 0, 47), eD, eD, ([], 0, 0, 0, 0, 0, 0, 48)],
  [([], 29, 0, 0, 0, 0, 0, 49)]]
set_option maxRecDepth 100000 in
theorem ok118 : okM 118 cd118 = true := by decide +kernel
def cd119 : List (List EM) := [[([], 0, 0, 0, 0, 0, 0, 1), ([], 5, 1, 0, 0, 0, 0, 2), ([], 0, 0, 0, 0, 0, 2, 3), ([], 5, 2, 0, 0, 0, 0, 4), ([true, true, true], 2, 2, 0, 0, 0, 0, 5), ([], 4, 0, 0, 0, 0, 0, 6), ([], 19, 9, 1, 10, 0, 0, 9), eD, eD, ([], 0, 0, 0, 0, 0, 1, 10), ([], 9, 0, 0, 0, 0, 0, 11), ([], 16, 4, 31, 0, 0, 0, 14), eD, eD, ([], 4, 0, 0, 0, 0, 0, 15), ([], 2, 2, 0, 0, 0, 0, 16)],
  [([], 27, 113, 1, 127, 9, 0, 19), eD, eD, ([], 15, 1, 25, 0, 0, 0, 22), eD, eD, ([], 8, 1, 0, 0, 0, 1, 25), eD, eD, ([], 8, 2, 0, 0, 0, 1, 28), eD, eD, ([], 17, 0, 4, 0, 0, 0, 31), eD, eD, ([], 2, 1, 0, 0, 0, 0, 32)],
  [([], 29, 0, 0, 0, 0, 0, 33)]]
set_option maxRecDepth 100000 in
theorem ok119 : okM 119 cd119 = true := by decide +kernel
def cd120 : List (List EM) := [[([], 0, 0, 0, 0, 0, 0, 1), ([], 5, 1, 0, 0, 0, 0, 2), ([], 0, 0, 0, 0, 0, 0, 3), ([], 5, 2, 0, 0, 0, 0, 4), ([], 0, 0, 0, 0, 0, 2, 5), ([], 5, 3, 0, 0, 0, 0, 6), ([true, true, true, true], 2, 3, 0, 0, 0, 0, 7), ([], 4, 0, 0, 0, 0, 0, 8), ([], 19, 9, 1, 10, 0, 0, 11), eD, eD, ([], 0, 0, 0, 0, 0, 1, 12), ([], 9, 0, 0, 0, 0, 0, 13), ([], 16, 4, 44, 0, 0, 0, 16), eD, eD],
  [([], 4, 0, 0, 0, 0, 0, 17), ([], 2, 3, 0, 0, 0, 0, 18), ([], 27, 113, 1, 127, 9, 0, 21), eD, eD, ([], 15, 0, 28, 0, 0, 0, 24), eD, eD, ([], 0, 0, 0, 0, 0, 0, 25), ([], 17, 0, 31, 0, 0, 0, 28), eD, eD, ([], 2, 2, 0, 0, 0, 0, 29), ([], 0, 0, 0, 0, 0, 1, 30), ([], 9, 0, 0, 0, 0, 0, 31), ([], 5, 2, 0, 0, 0, 0, 32)],
  [([], 2, 1, 0, 0, 0, 0, 33), ([], 2, 2, 0, 0, 0, 0, 34), ([], 34, 0, 0, 4, 0, 0, 37), eD, eD, ([], 5, 1, 0, 0, 0, 0, 38), ([], 8, 3, 0, 0, 0, 1, 41), eD, eD, ([], 17, 0, 6, 0, 0, 0, 44), eD, eD, ([], 2, 1, 0, 0, 0, 0, 45), ([], 29, 0, 0, 0, 0, 0, 46)]]
set_option maxRecDepth 100000 in
theorem ok120 : okM 120 cd120 = true := by decide +kernel
def cd121 : List (List EM) := [[([], 4, 0, 0, 0, 0, 0, 1), ([], 19, 9, 1, 10, 0, 0, 4), eD, eD, ([], 15, 5, 27, 0, 0, 0, 7), eD, eD, ([], 0, 1, 0, 0, 0, 100, 9), eD, ([], 4, 0, 0, 0, 0, 0, 10), ([], 19, 9, 1, 10, 0, 0, 13), eD, eD, ([], 4, 0, 0, 0, 0, 0, 14), ([], 27, 119, 0, 126, 9, 0, 17), eD],
  [eD, ([], 9, 1, 0, 0, 0, 0, 18), ([], 9, 2, 0, 0, 0, 0, 19), ([], 4, 0, 0, 0, 0, 0, 20), ([], 19, 9, 1, 10, 0, 0, 23), eD, eD, ([], 10, 0, 0, 0, 0, 0, 24), ([], 17, 0, 28, 0, 0, 0, 27), eD, eD, ([], 0, 0, 0, 0, 0, 0, 28), ([], 29, 0, 0, 0, 0, 0, 29)]]
set_option maxRecDepth 100000 in
theorem ok121 : okM 121 cd121 = true := by decide +kernel
def cd122 : List (List EM) := [[([], 0, 2, 0, 0, 0, 768, 3), eD, eD, ([], 0, 1, 0, 0, 0, 32, 5), eD, ([], 2, 0, 0, 0, 0, 0, 6), ([], 9, 2, 0, 0, 0, 0, 7), ([], 9, 0, 0, 0, 0, 0, 8), ([], 29, 0, 0, 0, 0, 0, 9)]]
set_option maxRecDepth 100000 in
theorem ok122 : okM 122 cd122 = true := by decide +kernel
def cd123 : List (List EM) := [[([], 2, 0, 0, 0, 0, 0, 1), ([], 0, 2, 0, 0, 0, 1024, 4), eD, eD, ([], 9, 1, 0, 0, 0, 0, 5), ([], 0, 2, 0, 0, 0, 256, 8), eD, eD, ([], 9, 0, 0, 0, 0, 0, 9), ([], 0, 1, 0, 0, 0, 32, 11), eD, ([], 10, 0, 0, 0, 0, 0, 12), ([], 29, 0, 0, 0, 0, 0, 13)]]
set_option maxRecDepth 100000 in
theorem ok123 : okM 123 cd123 = true := by decide +kernel
def cd124 : List (List EM) := [[([], 2, 1, 0, 0, 0, 0, 1), ([], 0, 0, 0, 0, 0, 2, 2), ([], 9, 7, 0, 0, 0, 0, 3), ([], 5, 2, 0, 0, 0, 0, 4), ([], 2, 1, 0, 0, 0, 0, 5), ([], 0, 0, 0, 0, 0, 3, 6), ([], 9, 3, 0, 0, 0, 0, 7), ([], 15, 1, 18, 0, 0, 0, 10), eD, eD, ([], 2, 1, 0, 0, 0, 0, 11), ([], 28, 122, 1, 49, 0, 0, 14), eD, eD, ([], 0, 1, 0, 0, 0, 64, 16), eD],
  [([], 9, 0, 0, 0, 0, 0, 17), ([], 29, 0, 0, 0, 0, 0, 18), ([], 2, 2, 0, 0, 0, 0, 19), ([], 15, 2, 43, 0, 0, 0, 22), eD, eD, ([], 2, 2, 0, 0, 0, 0, 23), ([], 4, 0, 0, 0, 0, 0, 24), ([], 19, 10, 4, 35, 0, 0, 27), eD, eD, ([], 21, 0, 102, 0, 0, 0, 28), ([], 16, 3, 43, 0, 0, 0, 31), eD, eD, ([], 4, 0, 0, 0, 0, 0, 32)],
  [([], 19, 10, 4, 35, 0, 0, 35), eD, eD, ([], 2, 2, 0, 0, 0, 0, 36), ([], 22, 0, 102, 0, 0, 0, 37), ([], 28, 109, 1, 196, 0, 0, 40), eD, eD, ([], 17, 0, 44, 0, 0, 0, 43), eD, eD, ([], 0, 0, 0, 0, 0, -1, 44), ([], 29, 0, 0, 0, 0, 0, 45)]]
set_option maxRecDepth 100000 in
theorem ok124 : okM 124 cd124 = true := by decide +kernel
def cd125 : List (List EM) := [[([], 4, 0, 0, 0, 0, 0, 1), ([], 19, 10, 3, 34, 0, 0, 4), eD, eD, ([], 0, 0, 0, 0, 0, -1, 5), ([], 28, 277, 2, 119, 0, 0, 8), eD, eD, ([], 4, 0, 0, 0, 0, 0, 9), ([], 19, 10, 4, 35, 0, 0, 12), eD, eD, ([], 0, 0, 0, 0, 0, 0, 13), ([], 28, 277, 2, 119, 0, 0, 16), eD, eD],
  [([], 4, 0, 0, 0, 0, 0, 17), ([], 19, 10, 5, 36, 0, 0, 20), eD, eD, ([], 0, 0, 0, 0, 0, 0, 21), ([], 0, 0, 0, 0, 0, 0, 22), ([], 23, 0, 102, 0, 0, 0, 23), ([], 4, 0, 0, 0, 0, 0, 24), ([], 0, 0, 0, 0, 0, 1, 25), ([], 20, 10, 6, 37, 0, 0, 28), eD, eD, ([], 0, 0, 0, 0, 0, 0, 29), ([], 5, 1, 0, 0, 0, 0, 30), ([true, true, false], 2, 1, 0, 0, 0, 0, 31), ([], 4, 0, 0, 0, 0, 0, 32)],
  [([], 19, 10, 6, 37, 0, 0, 35), eD, eD, ([], 16, 3, 114, 0, 0, 0, 38), eD, eD, ([], 2, 1, 0, 0, 0, 0, 39), ([], 4, 0, 0, 0, 0, 0, 40), ([], 19, 10, 5, 36, 0, 0, 43), eD, eD, ([], 21, 0, 102, 0, 0, 0, 44), ([], 16, 3, 114, 0, 0, 0, 47), eD, eD, ([], 4, 0, 0, 0, 0, 0, 48)],
  [([], 4, 0, 0, 0, 0, 0, 49), ([], 19, 10, 5, 36, 0, 0, 52), eD, eD, ([], 2, 1, 0, 0, 0, 0, 53), ([], 22, 0, 102, 0, 0, 0, 54), ([], 4, 0, 0, 0, 0, 0, 55), ([], 19, 10, 7, 38, 0, 0, 58), eD, eD, ([], 27, 127, 2, 120, 10, 0, 61), eD, eD, ([], 0, 0, 0, 0, 0, 0, 62), ([], 5, 2, 0, 0, 0, 0, 63), ([true, true, true], 2, 2, 0, 0, 0, 0, 64)],
  [([], 4, 0, 0, 0, 0, 0, 65), ([], 19, 10, 7, 38, 0, 0, 68), eD, eD, ([], 19, 3, 1, 28, 0, 0, 71), eD, eD, ([], 16, 3, 108, 0, 0, 0, 74), eD, eD, ([], 4, 0, 0, 0, 0, 0, 75), ([], 4, 0, 0, 0, 0, 0, 76), ([], 19, 10, 5, 36, 0, 0, 79), eD, eD, ([], 2, 1, 0, 0, 0, 0, 80)],
  [([], 22, 0, 102, 0, 0, 0, 81), ([], 4, 0, 0, 0, 0, 0, 82), ([], 19, 10, 7, 38, 0, 0, 85), eD, eD, ([], 2, 2, 0, 0, 0, 0, 86), ([], 27, 26, 1, 121, 3, 0, 89), eD, eD, ([], 4, 0, 0, 0, 0, 0, 90), ([], 19, 10, 7, 38, 0, 0, 93), eD, eD, ([], 2, 2, 0, 0, 0, 0, 94), ([], 0, 0, 0, 0, 0, 1, 95), ([], 9, 0, 0, 0, 0, 0, 96)],
  [([], 27, 26, 1, 121, 3, 0, 99), eD, eD, ([], 27, 126, 3, 122, 10, 0, 102), eD, eD, ([], 8, 2, 0, 0, 0, 1, 105), eD, eD, ([], 17, 0, 63, 0, 0, 0, 108), eD, eD, ([], 8, 1, 0, 0, 0, 1, 111), eD, eD, ([], 17, 0, 30, 0, 0, 0, 114)],
  [eD, eD, ([], 31, 0, 0, 0, 0, 0, 115)]]
set_option maxRecDepth 100000 in
theorem ok125 : okM 125 cd125 = true := by decide +kernel
def cd126 : List (List EM) := [[([], 2, 2, 0, 0, 0, 0, 1), ([], 15, 2, 13, 0, 0, 0, 4), eD, eD, ([], 2, 2, 0, 0, 0, 0, 5), ([], 4, 0, 0, 0, 0, 0, 6), ([], 19, 10, 3, 34, 0, 0, 9), eD, eD, ([], 21, 0, 102, 0, 0, 0, 10), ([], 16, 2, 14, 0, 0, 0, 13), eD, eD, ([], 31, 0, 0, 0, 0, 0, 14), ([], 4, 0, 0, 0, 0, 0, 15), ([], 19, 10, 3, 34, 0, 0, 18)],
  [eD, eD, ([], 2, 2, 0, 0, 0, 0, 19), ([], 2, 1, 0, 0, 0, 0, 20), ([], 23, 0, 102, 0, 0, 0, 21), ([], 4, 0, 0, 0, 0, 0, 22), ([], 19, 10, 4, 35, 0, 0, 25), eD, eD, ([], 2, 2, 0, 0, 0, 0, 26), ([], 2, 3, 0, 0, 0, 0, 27), ([], 23, 0, 102, 0, 0, 0, 28), ([], 0, 0, 0, 0, 0, 4, 29), ([], 2, 2, 0, 0, 0, 0, 30), ([], 9, 2, 0, 0, 0, 0, 31), ([], 5, 4, 1, 0, 0, 0, 33)],
  [eD, ([true, false, true, false, true, false], 2, 4, 1, 0, 0, 0, 35), eD, ([], 0, 0, 0, 0, 0, 4, 36), ([], 2, 2, 0, 0, 0, 0, 37), ([], 9, 2, 0, 0, 0, 0, 38), ([], 0, 0, 0, 0, 0, 4, 39), ([], 9, 0, 0, 0, 0, 0, 40), ([], 16, 3, 124, 0, 0, 0, 43), eD, eD, ([], 4, 0, 0, 0, 0, 0, 44), ([], 19, 10, 0, 31, 0, 0, 47), eD, eD, ([], 2, 4, 1, 0, 0, 0, 49)],
  [eD, ([], 28, 122, 1, 49, 0, 0, 52), eD, eD, ([], 27, 54, 1, 123, 5, 0, 55), eD, eD, ([], 0, 2, 0, 0, 0, 133, 58), eD, eD, ([], 16, 1, 80, 0, 0, 0, 61), eD, eD, ([], 4, 0, 0, 0, 0, 0, 62), ([], 19, 10, 2, 33, 0, 0, 65), eD],
  [eD, ([], 2, 4, 1, 0, 0, 0, 67), eD, ([], 28, 122, 1, 49, 0, 0, 70), eD, eD, ([], 27, 83, 1, 124, 8, 0, 73), eD, eD, ([], 15, 0, 80, 0, 0, 0, 76), eD, eD, ([], 0, 0, 0, 0, 0, 1, 77), ([], 17, 0, 81, 0, 0, 0, 80), eD, eD],
  [([], 0, 0, 0, 0, 0, 0, 81), ([true, false, true, false, true, false], 5, 5, 1, 0, 0, 0, 83), eD, ([], 2, 5, 1, 0, 0, 0, 85), eD, ([], 15, 0, 118, 0, 0, 0, 88), eD, eD, ([], 4, 0, 0, 0, 0, 0, 89), ([], 19, 10, 6, 37, 0, 0, 92), eD, eD, ([], 4, 0, 0, 0, 0, 0, 93), ([], 19, 10, 5, 36, 0, 0, 96), eD, eD],
  [([], 21, 0, 102, 0, 0, 0, 97), ([], 16, 3, 118, 0, 0, 0, 100), eD, eD, ([], 4, 0, 0, 0, 0, 0, 101), ([], 19, 10, 5, 36, 0, 0, 104), eD, eD, ([], 4, 0, 0, 0, 0, 0, 105), ([], 24, 0, 0, 0, 0, 0, 106), ([], 19, 10, 6, 37, 0, 0, 109), eD, eD, ([], 25, 0, 0, 0, 0, 0, 110), ([], 0, 0, 0, 0, 0, 1, 111), ([], 9, 0, 0, 0, 0, 0, 112)],
  [([], 20, 10, 6, 37, 0, 0, 115), eD, eD, ([], 2, 4, 1, 0, 0, 0, 117), eD, ([], 23, 0, 102, 0, 0, 0, 118), ([], 8, 4, 0, 0, 0, 2, 121), eD, eD, ([], 17, 0, 33, 0, 0, 0, 124), eD, eD, ([], 31, 0, 0, 0, 0, 0, 125)]]
set_option maxRecDepth 100000 in
theorem ok126 : okM 126 cd126 = true := by decide +kernel
def cd127 : List (List EM) := [[([], 2, 1, 0, 0, 0, 0, 1), ([], 28, 122, 1, 49, 0, 0, 4), eD, eD, ([], 5, 3, 0, 0, 0, 0, 5), ([], 2, 1, 0, 0, 0, 0, 6), ([], 15, 1, 27, 0, 0, 0, 9), eD, eD, ([], 4, 2, 0, 0, 0, 0, 10), ([], 4, 0, 0, 0, 0, 0, 11), ([], 19, 10, 1, 32, 0, 0, 14), eD, eD, ([], 4, 0, 0, 0, 0, 0, 15), ([], 19, 10, 1, 32, 0, 0, 18)],
  [eD, eD, ([], 19, 9, 2, 15, 0, 0, 21), eD, eD, ([], 27, 29, 2, 50, 3, 0, 24), eD, eD, ([], 17, 0, 60, 0, 0, 0, 27), eD, eD, ([], 4, 2, 0, 0, 0, 0, 28), ([], 4, 0, 0, 0, 0, 0, 29), ([], 19, 10, 1, 32, 0, 0, 32), eD, eD],
  [([], 4, 0, 0, 0, 0, 0, 33), ([], 19, 10, 2, 33, 0, 0, 36), eD, eD, ([], 2, 3, 0, 0, 0, 0, 37), ([], 27, 87, 1, 54, 8, 0, 40), eD, eD, ([], 4, 0, 0, 0, 0, 0, 41), ([], 19, 10, 2, 33, 0, 0, 44), eD, eD, ([], 2, 3, 0, 0, 0, 0, 45), ([], 27, 85, 1, 56, 8, 0, 48), eD, eD],
  [([], 4, 0, 0, 0, 0, 0, 49), ([], 19, 10, 2, 33, 0, 0, 52), eD, eD, ([], 2, 3, 0, 0, 0, 0, 53), ([], 27, 89, 1, 58, 8, 0, 56), eD, eD, ([], 27, 28, 4, 60, 3, 0, 59), eD, eD, ([], 26, 0, 0, 0, 0, 0, 60), ([], 31, 0, 0, 0, 0, 0, 61)]]
set_option maxRecDepth 100000 in
theorem ok127 : okM 127 cd127 = true := by decide +kernel
def cd128 : List (List EM) := [[([], 2, 1, 0, 0, 0, 0, 1), ([], 0, 0, 0, 0, 0, 2, 2), ([], 9, 7, 0, 0, 0, 0, 3), ([], 5, 2, 0, 0, 0, 0, 4), ([], 2, 1, 0, 0, 0, 0, 5), ([], 15, 5, 58, 0, 0, 0, 8), eD, eD, ([], 4, 0, 0, 0, 0, 0, 9), ([], 19, 10, 1, 32, 0, 0, 12), eD, eD, ([], 2, 2, 0, 0, 0, 0, 13), ([], 27, 110, 1, 143, 9, 0, 16), eD, eD],
  [([], 15, 0, 58, 0, 0, 0, 19), eD, eD, ([], 2, 2, 0, 0, 0, 0, 20), ([], 4, 0, 0, 0, 0, 0, 21), ([], 19, 10, 3, 34, 0, 0, 24), eD, eD, ([], 21, 0, 102, 0, 0, 0, 25), ([], 16, 3, 58, 0, 0, 0, 28), eD, eD, ([], 4, 0, 0, 0, 0, 0, 29), ([], 19, 10, 3, 34, 0, 0, 32), eD, eD],
  [([], 2, 2, 0, 0, 0, 0, 33), ([], 22, 0, 102, 0, 0, 0, 34), ([], 15, 2, 58, 0, 0, 0, 37), eD, eD, ([], 4, 0, 0, 0, 0, 0, 38), ([], 19, 10, 0, 31, 0, 0, 41), eD, eD, ([], 2, 1, 0, 0, 0, 0, 42), ([], 28, 122, 1, 49, 0, 0, 45), eD, eD, ([], 27, 54, 1, 123, 5, 0, 48), eD, eD],
  [([], 0, 2, 0, 0, 0, 133, 51), eD, eD, ([], 16, 1, 58, 0, 0, 0, 54), eD, eD, ([], 0, 0, 0, 0, 0, 1, 55), ([], 17, 0, 59, 0, 0, 0, 58), eD, eD, ([], 0, 0, 0, 0, 0, 0, 59), ([], 29, 0, 0, 0, 1, 0, 60)]]
set_option maxRecDepth 100000 in
theorem ok128 : okM 128 cd128 = true := by decide +kernel
def cd129 : List (List EM) := [[([], 2, 1, 0, 0, 0, 0, 1), ([], 15, 0, 12, 0, 0, 0, 4), eD, eD, ([], 4, 0, 0, 0, 0, 0, 5), ([], 2, 1, 0, 0, 0, 0, 6), ([], 27, 128, 1, 142, 10, 0, 9), eD, eD, ([], 15, 0, 16, 0, 0, 0, 12), eD, eD, ([], 0, 0, 0, 0, 0, 1, 13), ([], 17, 0, 17, 0, 0, 0, 16), eD, eD],
  [([], 0, 0, 0, 0, 0, 0, 17), ([], 29, 0, 0, 0, 1, 0, 18)]]
set_option maxRecDepth 100000 in
theorem ok129 : okM 129 cd129 = true := by decide +kernel
def cd130 : List (List EM) := [[([], 2, 1, 0, 0, 0, 0, 1), ([], 15, 0, 26, 0, 0, 0, 4), eD, eD, ([], 4, 0, 0, 0, 0, 0, 5), ([], 2, 1, 0, 0, 0, 0, 6), ([], 27, 128, 1, 142, 10, 0, 9), eD, eD, ([], 15, 0, 30, 0, 0, 0, 12), eD, eD, ([], 4, 0, 0, 0, 0, 0, 13), ([], 19, 10, 2, 33, 0, 0, 16), eD, eD],
  [([], 2, 1, 0, 0, 0, 0, 17), ([], 28, 122, 1, 49, 0, 0, 20), eD, eD, ([], 27, 83, 1, 124, 8, 0, 23), eD, eD, ([], 15, 0, 30, 0, 0, 0, 26), eD, eD, ([], 0, 0, 0, 0, 0, 1, 27), ([], 17, 0, 31, 0, 0, 0, 30), eD, eD, ([], 0, 0, 0, 0, 0, 0, 31), ([], 29, 0, 0, 0, 1, 0, 32)]]
set_option maxRecDepth 100000 in
theorem ok130 : okM 130 cd130 = true := by decide +kernel
def cd131 : List (List EM) := [[([], 4, 0, 0, 0, 0, 0, 1), ([], 2, 1, 0, 0, 0, 0, 2), ([], 27, 128, 1, 142, 10, 0, 5), eD, eD, ([], 15, 0, 26, 0, 0, 0, 8), eD, eD, ([], 4, 0, 0, 0, 0, 0, 9), ([], 19, 10, 2, 33, 0, 0, 12), eD, eD, ([], 2, 1, 0, 0, 0, 0, 13), ([], 28, 122, 1, 49, 0, 0, 16), eD, eD],
  [([], 27, 83, 1, 124, 8, 0, 19), eD, eD, ([], 15, 1, 26, 0, 0, 0, 22), eD, eD, ([], 0, 0, 0, 0, 0, 1, 23), ([], 17, 0, 27, 0, 0, 0, 26), eD, eD, ([], 0, 0, 0, 0, 0, 0, 27), ([], 29, 0, 0, 0, 1, 0, 28)]]
set_option maxRecDepth 100000 in
theorem ok131 : okM 131 cd131 = true := by decide +kernel
def cd132 : List (List EM) := [[([], 2, 1, 0, 0, 0, 0, 1), ([], 5, 3, 0, 0, 0, 0, 2), ([], 0, 0, 0, 0, 0, 0, 3), ([], 5, 4, 1, 0, 0, 0, 5), eD, ([true, false, true, true, true, false], 2, 4, 1, 0, 0, 0, 7), eD, ([], 0, 1, 0, 0, 0, 102, 9), eD, ([], 16, 3, 56, 0, 0, 0, 12), eD, eD, ([], 2, 3, 0, 0, 0, 0, 13), ([], 15, 5, 56, 0, 0, 0, 16), eD, eD],
  [([], 2, 3, 0, 0, 0, 0, 17), ([], 2, 2, 0, 0, 0, 0, 18), ([], 16, 1, 23, 0, 0, 0, 21), eD, eD, ([], 0, 0, 0, 0, 0, 1, 22), ([], 29, 0, 0, 0, 1, 0, 23), ([], 2, 3, 0, 0, 0, 0, 24), ([], 0, 0, 0, 0, 0, 2, 25), ([], 9, 7, 0, 0, 0, 0, 26), ([], 5, 5, 1, 0, 0, 0, 28), eD, ([], 2, 5, 1, 0, 0, 0, 30), eD, ([], 4, 0, 0, 0, 0, 0, 31), ([], 19, 10, 3, 34, 0, 0, 34)],
  [eD, eD, ([], 21, 0, 102, 0, 0, 0, 35), ([], 16, 3, 48, 0, 0, 0, 38), eD, eD, ([], 4, 0, 0, 0, 0, 0, 39), ([], 19, 10, 3, 34, 0, 0, 42), eD, eD, ([], 2, 5, 1, 0, 0, 0, 44), eD, ([], 22, 0, 102, 0, 0, 0, 45), ([], 17, 0, 49, 0, 0, 0, 48), eD, eD],
  [([], 0, 0, 0, 0, 0, 0, 49), ([], 5, 3, 0, 0, 0, 0, 50), ([], 8, 4, 0, 0, 0, 1, 53), eD, eD, ([], 17, 0, 5, 0, 0, 0, 56), eD, eD, ([], 0, 0, 0, 0, 0, 0, 57), ([], 29, 0, 0, 0, 1, 0, 58)]]
set_option maxRecDepth 100000 in
theorem ok132 : okM 132 cd132 = true := by decide +kernel
def cd133 : List (List EM) := [[([], 4, 0, 0, 0, 0, 0, 1), ([], 2, 1, 0, 0, 0, 0, 2), ([], 4, 2, 0, 0, 0, 0, 3), ([], 0, 1, 0, 0, 0, -9, 5), eD, ([], 27, 134, 3, 146, 10, 0, 8), eD, eD, ([], 29, 0, 0, 0, 0, 0, 9)]]
set_option maxRecDepth 100000 in
theorem ok133 : okM 133 cd133 = true := by decide +kernel
def cd134 : List (List EM) := [[([], 4, 0, 0, 0, 0, 0, 1), ([], 2, 1, 0, 0, 0, 0, 2), ([], 4, 0, 0, 0, 0, 0, 3), ([], 19, 10, 7, 38, 0, 0, 6), eD, eD, ([], 27, 127, 2, 120, 10, 0, 9), eD, eD, ([], 0, 0, 0, 0, 0, 0, 10), ([], 5, 4, 1, 0, 0, 0, 12), eD, ([true, false, true, true, true, false], 2, 4, 1, 0, 0, 0, 14), eD, ([], 4, 0, 0, 0, 0, 0, 15), ([], 19, 10, 7, 38, 0, 0, 18)],
  [eD, eD, ([], 27, 31, 0, 147, 3, 0, 21), eD, eD, ([], 16, 3, 95, 0, 0, 0, 24), eD, eD, ([], 4, 0, 0, 0, 0, 0, 25), ([], 19, 10, 7, 38, 0, 0, 28), eD, eD, ([], 2, 4, 1, 0, 0, 0, 30), eD, ([], 27, 32, 1, 148, 3, 0, 33), eD],
  [eD, ([], 5, 5, 1, 0, 0, 0, 35), eD, ([], 4, 0, 0, 0, 0, 0, 36), ([], 19, 10, 0, 31, 0, 0, 39), eD, eD, ([], 2, 5, 1, 0, 0, 0, 41), eD, ([], 27, 54, 1, 123, 5, 0, 44), eD, eD, ([], 0, 2, 0, 0, 0, 133, 47), eD, eD, ([], 16, 1, 89, 0, 0, 0, 50)],
  [eD, eD, ([], 2, 5, 1, 0, 0, 0, 52), eD, ([], 28, 123, 1, 149, 0, 0, 55), eD, eD, ([], 2, 3, 0, 0, 0, 0, 56), ([], 16, 0, 89, 0, 0, 0, 59), eD, eD, ([], 4, 0, 0, 0, 0, 0, 60), ([], 19, 10, 2, 33, 0, 0, 63), eD, eD, ([], 4, 2, 0, 0, 0, 0, 64)],
  [([], 2, 5, 1, 0, 0, 0, 66), eD, ([], 4, 0, 0, 0, 0, 0, 67), ([], 19, 10, 7, 38, 0, 0, 70), eD, eD, ([], 2, 4, 1, 0, 0, 0, 72), eD, ([], 0, 0, 0, 0, 0, 2, 73), ([], 9, 0, 0, 0, 0, 0, 74), ([], 27, 32, 1, 148, 3, 0, 77), eD, eD, ([], 27, 95, 3, 150, 8, 0, 80), eD, eD],
  [([], 15, 0, 89, 0, 0, 0, 83), eD, eD, ([], 2, 5, 1, 0, 0, 0, 85), eD, ([], 28, 123, 1, 149, 0, 0, 88), eD, eD, ([], 29, 0, 0, 0, 0, 0, 89), ([], 8, 4, 0, 0, 0, 2, 92), eD, eD, ([], 17, 0, 12, 0, 0, 0, 95), eD, eD, ([], 0, 1, 0, 0, 0, -9, 97)],
  [eD, ([], 29, 0, 0, 0, 0, 0, 98)]]
set_option maxRecDepth 100000 in
theorem ok134 : okM 134 cd134 = true := by decide +kernel
def cd135 : List (List EM) := [[([], 4, 0, 0, 0, 0, 0, 1), ([], 2, 1, 0, 0, 0, 0, 2), ([], 4, 0, 0, 0, 0, 0, 3), ([], 19, 10, 7, 38, 0, 0, 6), eD, eD, ([], 27, 127, 2, 120, 10, 0, 9), eD, eD, ([], 2, 2, 0, 0, 0, 0, 10), ([], 5, 3, 0, 0, 0, 0, 11), ([], 0, 0, 0, 0, 0, 0, 12), ([], 5, 4, 1, 0, 0, 0, 14), eD, ([true, false, false, true, true, false], 2, 4, 1, 0, 0, 0, 16), eD],
  [([], 4, 0, 0, 0, 0, 0, 17), ([], 19, 10, 7, 38, 0, 0, 20), eD, eD, ([], 27, 31, 0, 147, 3, 0, 23), eD, eD, ([], 16, 3, 78, 0, 0, 0, 26), eD, eD, ([], 2, 3, 0, 0, 0, 0, 27), ([], 15, 2, 78, 0, 0, 0, 30), eD, eD, ([], 4, 0, 0, 0, 0, 0, 31), ([], 19, 10, 7, 38, 0, 0, 34)],
  [eD, eD, ([], 2, 4, 1, 0, 0, 0, 36), eD, ([], 27, 32, 1, 148, 3, 0, 39), eD, eD, ([], 5, 5, 1, 0, 0, 0, 41), eD, ([], 4, 0, 0, 0, 0, 0, 42), ([], 19, 10, 0, 31, 0, 0, 45), eD, eD, ([], 2, 5, 1, 0, 0, 0, 47), eD, ([], 27, 54, 1, 123, 5, 0, 50)],
  [eD, eD, ([], 0, 2, 0, 0, 0, 133, 53), eD, eD, ([], 16, 0, 59, 0, 0, 0, 56), eD, eD, ([], 17, 0, 72, 0, 0, 0, 59), eD, eD, ([], 2, 3, 0, 0, 0, 0, 60), ([], 15, 1, 69, 0, 0, 0, 63), eD, eD, ([], 2, 5, 1, 0, 0, 0, 65)],
  [eD, ([], 28, 123, 1, 149, 0, 0, 68), eD, eD, ([], 29, 0, 0, 0, 0, 0, 69), ([], 8, 3, 0, 0, 0, -1, 72), eD, eD, ([], 8, 4, 0, 0, 0, 2, 75), eD, eD, ([], 17, 0, 14, 0, 0, 0, 78), eD, eD, ([], 0, 1, 0, 0, 0, -9, 80), eD],
  [([], 29, 0, 0, 0, 0, 0, 81)]]
set_option maxRecDepth 100000 in
theorem ok135 : okM 135 cd135 = true := by decide +kernel
def cd136 : List (List EM) := [[([], 4, 0, 0, 0, 0, 0, 1), ([], 2, 1, 0, 0, 0, 0, 2), ([], 4, 0, 0, 0, 0, 0, 3), ([], 19, 10, 7, 38, 0, 0, 6), eD, eD, ([], 27, 127, 2, 120, 10, 0, 9), eD, eD, ([], 2, 2, 0, 0, 0, 0, 10), ([], 15, 2, 35, 0, 0, 0, 13), eD, eD, ([], 2, 2, 0, 0, 0, 0, 14), ([], 4, 0, 0, 0, 0, 0, 15), ([], 19, 10, 7, 38, 0, 0, 18)],
  [eD, eD, ([], 19, 3, 1, 28, 0, 0, 21), eD, eD, ([], 16, 3, 35, 0, 0, 0, 24), eD, eD, ([], 4, 0, 0, 0, 0, 0, 25), ([], 19, 10, 7, 38, 0, 0, 28), eD, eD, ([], 2, 2, 0, 0, 0, 0, 29), ([], 27, 26, 1, 121, 3, 0, 32), eD, eD],
  [([], 17, 0, 37, 0, 0, 0, 35), eD, eD, ([], 0, 1, 0, 0, 0, -9, 37), eD, ([], 29, 0, 0, 0, 0, 0, 38)]]
set_option maxRecDepth 100000 in
theorem ok136 : okM 136 cd136 = true := by decide +kernel
def cd137 : List (List EM) := [[([], 4, 0, 0, 0, 0, 0, 1), ([], 0, 0, 0, 0, 0, 0, 2), ([], 4, 0, 0, 0, 0, 0, 3), ([], 19, 10, 7, 38, 0, 0, 6), eD, eD, ([], 27, 127, 2, 120, 10, 0, 9), eD, eD, ([], 2, 1, 0, 0, 0, 0, 10), ([], 32, 0, 0, 2, 0, 0, 36), eD, eD, eD, eD, eD],
  [eD, eD, eD, eD, eD, eD, eD, eD, eD, eD, eD, eD, eD, eD, eD, eD],
  [eD, eD, eD, eD, ([], 0, 1, 0, 0, 0, 16, 38), eD, ([], 29, 0, 0, 0, 0, 0, 39), ([], 0, 2, 0, 0, 0, 128, 42), eD, eD, ([], 4, 0, 0, 0, 0, 0, 43), ([], 19, 10, 7, 38, 0, 0, 46), eD, eD, ([], 19, 3, 1, 28, 0, 0, 49), eD],
  [eD, ([], 9, 2, 0, 0, 0, 0, 50), ([], 29, 0, 0, 0, 0, 0, 51), ([], 4, 0, 0, 0, 0, 0, 52), ([], 19, 10, 1, 32, 0, 0, 55), eD, eD, ([], 19, 9, 2, 15, 0, 0, 58), eD, eD, ([], 29, 0, 0, 0, 0, 0, 59), ([], 0, 0, 0, 0, 0, 0, 60), ([], 29, 0, 0, 0, 0, 0, 61)]]
set_option maxRecDepth 100000 in
theorem ok137 : okM 137 cd137 = true := by decide +kernel
def cd138 : List (List EM) := [[([], 4, 0, 0, 0, 0, 0, 1), ([], 19, 10, 2, 33, 0, 0, 4), eD, eD, ([], 2, 1, 0, 0, 0, 0, 5), ([], 28, 122, 1, 49, 0, 0, 8), eD, eD, ([], 27, 88, 1, 231, 8, 0, 11), eD, eD, ([], 5, 3, 0, 0, 0, 0, 12), ([], 2, 2, 0, 0, 0, 0, 13), ([], 15, 2, 21, 0, 0, 0, 16), eD, eD],
  [([], 2, 2, 0, 0, 0, 0, 17), ([], 2, 3, 0, 0, 0, 0, 18), ([], 16, 2, 23, 0, 0, 0, 21), eD, eD, ([], 1, 0, 0, 0, 0, 0, 22), ([], 30, 0, 0, 0, 0, 0, 23), ([], 4, 0, 0, 0, 0, 0, 24), ([], 2, 1, 0, 0, 0, 0, 25), ([], 4, 0, 0, 0, 0, 0, 26), ([], 19, 10, 7, 38, 0, 0, 29), eD, eD, ([], 27, 127, 2, 120, 10, 0, 32), eD, eD],
  [([], 1, 0, 0, 0, 0, 0, 33), ([], 6, 4, 1, 0, 0, 0, 35), eD, ([], 0, 0, 0, 0, 0, 0, 36), ([], 5, 6, 1, 0, 0, 0, 38), eD, ([true, false, true, true, true, false, true, false], 2, 6, 1, 0, 0, 0, 40), eD, ([], 0, 1, 0, 0, 0, 8, 42), eD, ([], 16, 3, 109, 0, 0, 0, 45), eD, eD, ([], 2, 2, 0, 0, 0, 0, 46), ([], 2, 6, 1, 0, 0, 0, 48), eD],
  [([], 9, 0, 0, 0, 0, 0, 49), ([], 2, 3, 0, 0, 0, 0, 50), ([], 16, 3, 109, 0, 0, 0, 53), eD, eD, ([], 4, 0, 0, 0, 0, 0, 54), ([], 19, 10, 7, 38, 0, 0, 57), eD, eD, ([], 2, 2, 0, 0, 0, 0, 58), ([], 2, 6, 1, 0, 0, 0, 60), eD, ([], 9, 0, 0, 0, 0, 0, 61), ([], 0, 2, 0, 0, 0, 128, 64), eD, eD],
  [([], 10, 0, 0, 0, 0, 0, 65), ([], 27, 26, 1, 121, 3, 0, 68), eD, eD, ([], 28, 109, 1, 196, 0, 0, 71), eD, eD, ([], 2, 2, 0, 0, 0, 0, 72), ([], 2, 6, 1, 0, 0, 0, 74), eD, ([], 9, 0, 0, 0, 0, 0, 75), ([], 0, 2, 0, 0, 0, 128, 78), eD, eD, ([], 10, 1, 0, 0, 0, 0, 79), ([], 9, 0, 0, 0, 0, 0, 80)],
  [([], 5, 7, 1, 0, 0, 0, 82), eD, ([], 3, 4, 1, 0, 0, 0, 84), eD, ([], 4, 0, 0, 0, 0, 0, 85), ([], 19, 10, 0, 31, 0, 0, 88), eD, eD, ([], 2, 7, 1, 0, 0, 0, 90), eD, ([], 27, 54, 1, 123, 5, 0, 93), eD, eD, ([], 14, 0, 0, 0, 0, 0, 94), ([], 0, 1, 0, 0, 0, 8, 96), eD],
  [([], 2, 6, 1, 0, 0, 0, 98), eD, ([], 9, 2, 0, 0, 0, 0, 99), ([], 13, 0, 0, 0, 0, 0, 100), ([], 11, 4, 0, 0, 0, 0, 101), ([], 6, 4, 1, 0, 0, 0, 103), eD, ([], 8, 6, 0, 0, 0, 1, 106), eD, eD, ([], 17, 0, 38, 0, 0, 0, 109), eD, eD, ([], 3, 4, 1, 0, 0, 0, 111), eD, ([], 30, 0, 0, 0, 0, 0, 112)]]
set_option maxRecDepth 100000 in
theorem ok138 : okM 138 cd138 = true := by decide +kernel
def cd139 : List (List EM) := [[([], 4, 0, 0, 0, 0, 0, 1), ([], 19, 11, 8, 96, 0, 0, 4), eD, eD, ([], 15, 0, 10, 0, 0, 0, 7), eD, eD, ([], 0, 1, 0, 0, 0, -2, 9), eD, ([], 29, 0, 0, 0, 0, 0, 10), ([], 2, 1, 0, 0, 0, 0, 11), ([], 0, 1, 0, 0, 0, 16, 13), eD, ([], 16, 2, 22, 0, 0, 0, 16), eD, eD],
  [([], 2, 1, 0, 0, 0, 0, 17), ([], 0, 1, 0, 0, 0, 100, 19), eD, ([], 16, 5, 24, 0, 0, 0, 22), eD, eD, ([], 0, 0, 0, 0, 0, -1, 23), ([], 29, 0, 0, 0, 0, 0, 24), ([], 4, 0, 0, 0, 0, 0, 25), ([], 19, 11, 0, 88, 0, 0, 28), eD, eD, ([], 27, 62, 0, 0, 5, 0, 31), eD, eD, ([], 4, 0, 0, 0, 0, 0, 32)],
  [([], 19, 11, 1, 89, 0, 0, 35), eD, eD, ([], 2, 1, 0, 0, 0, 0, 36), ([], 0, 0, 0, 0, 0, 4, 37), ([], 2, 2, 0, 0, 0, 0, 38), ([], 0, 0, 0, 0, 0, 0, 39), ([], 0, 2, 0, 0, 0, 255, 42), eD, eD, ([], 27, 13, 5, 2, 1, 0, 45), eD, eD, ([], 4, 0, 0, 0, 0, 0, 46), ([], 19, 11, 1, 89, 0, 0, 49), eD],
  [eD, ([], 0, 0, 0, 0, 0, 0, 50), ([], 27, 16, 1, 6, 1, 0, 53), eD, eD, ([], 4, 0, 0, 0, 0, 0, 54), ([], 19, 11, 1, 89, 0, 0, 57), eD, eD, ([], 0, 2, 0, 0, 0, 256, 60), eD, eD, ([], 27, 16, 1, 6, 1, 0, 63), eD, eD, ([], 4, 0, 0, 0, 0, 0, 64)],
  [([], 19, 11, 0, 88, 0, 0, 67), eD, eD, ([], 0, 2, 0, 0, 0, 512, 70), eD, eD, ([], 0, 1, 0, 0, 0, -8, 72), eD, ([], 27, 59, 2, 8, 5, 0, 75), eD, eD, ([], 0, 0, 0, 0, 0, 1, 76), ([], 5, 3, 0, 0, 0, 0, 77), ([true, true, false, true, false], 2, 3, 0, 0, 0, 0, 78), ([], 0, 0, 0, 0, 0, 4, 79), ([], 16, 4, 103, 0, 0, 0, 82)],
  [eD, eD, ([], 4, 0, 0, 0, 0, 0, 83), ([], 19, 11, 0, 88, 0, 0, 86), eD, eD, ([], 0, 2, 0, 0, 0, 512, 89), eD, eD, ([], 0, 0, 0, 0, 0, 4, 90), ([], 2, 3, 0, 0, 0, 0, 91), ([], 9, 2, 0, 0, 0, 0, 92), ([], 9, 0, 0, 0, 0, 0, 93), ([], 0, 0, 0, 0, 0, -1, 94), ([], 27, 59, 2, 8, 5, 0, 97), eD],
  [eD, ([], 8, 3, 0, 0, 0, 1, 100), eD, eD, ([], 17, 0, 77, 0, 0, 0, 103), eD, eD, ([], 4, 0, 0, 0, 0, 0, 104), ([], 19, 11, 0, 88, 0, 0, 107), eD, eD, ([], 0, 0, 0, 0, 0, 2, 108), ([], 28, 109, 1, 10, 0, 0, 111), eD, eD, ([], 0, 1, 0, 0, 0, 7, 113)],
  [eD, ([], 27, 57, 2, 11, 5, 0, 116), eD, eD, ([], 4, 0, 0, 0, 0, 0, 117), ([], 19, 11, 0, 88, 0, 0, 120), eD, eD, ([], 0, 0, 0, 0, 0, 3, 121), ([], 28, 109, 1, 10, 0, 0, 124), eD, eD, ([], 28, 22, 2, 12, 0, 0, 127), eD, eD, ([], 5, 3, 0, 0, 0, 0, 128)],
  [([], 0, 0, 0, 0, 0, 4, 129), ([], 28, 109, 1, 10, 0, 0, 132), eD, eD, ([], 5, 4, 1, 0, 0, 0, 134), eD, ([], 4, 0, 0, 0, 0, 0, 135), ([], 19, 11, 0, 88, 0, 0, 138), eD, eD, ([], 2, 4, 1, 0, 0, 0, 140), eD, ([], 0, 2, 0, 0, 0, 129, 143), eD, eD, ([], 27, 57, 2, 11, 5, 0, 146)],
  [eD, eD, ([], 4, 0, 0, 0, 0, 0, 147), ([], 19, 11, 0, 88, 0, 0, 150), eD, eD, ([], 2, 4, 1, 0, 0, 0, 152), eD, ([], 0, 1, 0, 0, 0, 20, 154), eD, ([], 9, 0, 0, 0, 0, 0, 155), ([], 0, 0, 0, 0, 0, 2, 156), ([], 27, 59, 2, 8, 5, 0, 159), eD, eD, ([], 4, 0, 0, 0, 0, 0, 160)],
  [([], 19, 11, 0, 88, 0, 0, 163), eD, eD, ([], 2, 4, 1, 0, 0, 0, 165), eD, ([], 0, 1, 0, 0, 0, 24, 167), eD, ([], 9, 0, 0, 0, 0, 0, 168), ([], 2, 1, 0, 0, 0, 0, 169), ([], 0, 1, 0, 0, 0, 7, 171), eD, ([], 9, 0, 0, 0, 0, 0, 172), ([], 0, 1, 0, 0, 0, 8, 174), eD, ([], 10, 0, 0, 0, 0, 0, 175), ([], 27, 59, 2, 8, 5, 0, 178)],
  [eD, eD, ([], 4, 0, 0, 0, 0, 0, 179), ([], 19, 11, 0, 88, 0, 0, 182), eD, eD, ([], 2, 4, 1, 0, 0, 0, 184), eD, ([], 0, 1, 0, 0, 0, 32, 186), eD, ([], 9, 0, 0, 0, 0, 0, 187), ([], 0, 2, 0, 0, 0, 130, 190), eD, eD, ([], 27, 57, 2, 11, 5, 0, 193), eD],
  [eD, ([], 4, 0, 0, 0, 0, 0, 194), ([], 19, 11, 0, 88, 0, 0, 197), eD, eD, ([], 2, 4, 1, 0, 0, 0, 199), eD, ([], 0, 1, 0, 0, 0, 32, 201), eD, ([], 9, 0, 0, 0, 0, 0, 202), ([], 0, 0, 0, 0, 0, 4, 203), ([], 9, 0, 0, 0, 0, 0, 204), ([], 4, 0, 0, 0, 0, 0, 205), ([], 19, 11, 0, 88, 0, 0, 208), eD, eD],
  [([], 0, 0, 0, 0, 0, 3, 209), ([], 28, 109, 1, 10, 0, 0, 212), eD, eD, ([], 2, 3, 0, 0, 0, 0, 213), ([], 28, 21, 3, 16, 0, 0, 216), eD, eD, ([], 27, 59, 2, 8, 5, 0, 219), eD, eD, ([], 4, 0, 0, 0, 0, 0, 220), ([], 19, 11, 0, 88, 0, 0, 223), eD, eD, ([], 2, 4, 1, 0, 0, 0, 225)],
  [eD, ([], 0, 1, 0, 0, 0, 32, 227), eD, ([], 9, 0, 0, 0, 0, 0, 228), ([], 0, 1, 0, 0, 0, 20, 230), eD, ([], 9, 0, 0, 0, 0, 0, 231), ([], 0, 0, 0, 0, 0, 3, 232), ([], 27, 59, 2, 8, 5, 0, 235), eD, eD, ([], 4, 0, 0, 0, 0, 0, 236), ([], 19, 11, 0, 88, 0, 0, 239), eD, eD, ([], 2, 4, 1, 0, 0, 0, 241)],
  [eD, ([], 0, 1, 0, 0, 0, 32, 243), eD, ([], 9, 0, 0, 0, 0, 0, 244), ([], 0, 1, 0, 0, 0, 24, 246), eD, ([], 9, 0, 0, 0, 0, 0, 247), ([], 2, 3, 0, 0, 0, 0, 248), ([], 27, 59, 2, 8, 5, 0, 251), eD, eD, ([], 4, 0, 0, 0, 0, 0, 252), ([], 19, 11, 0, 88, 0, 0, 255), eD, eD, ([], 27, 63, 0, 18, 5, 0, 258)],
  [eD, eD, ([], 0, 1, 0, 0, 0, 16, 260), eD, ([], 0, 0, 0, 0, 0, 2, 261), ([], 2, 1, 0, 0, 0, 0, 262), ([], 9, 2, 0, 0, 0, 0, 263), ([], 9, 0, 0, 0, 0, 0, 264), ([], 29, 0, 0, 0, 0, 0, 265)]]
set_option maxRecDepth 100000 in
theorem ok139 : okM 139 cd139 = true := by decide +kernel
def cd140 : List (List EM) := [[([], 2, 1, 0, 0, 0, 0, 1), ([], 2, 2, 0, 0, 0, 0, 2), ([], 28, 53, 2, 19, 0, 0, 5), eD, eD, ([], 15, 0, 24, 0, 0, 0, 8), eD, eD, ([], 4, 0, 0, 0, 0, 0, 9), ([], 19, 11, 0, 88, 0, 0, 12), eD, eD, ([], 2, 1, 0, 0, 0, 0, 13), ([], 0, 1, 0, 0, 0, 64, 15), eD, ([], 9, 2, 0, 0, 0, 0, 16)],
  [([], 2, 2, 0, 0, 0, 0, 17), ([], 9, 0, 0, 0, 0, 0, 18), ([], 27, 54, 1, 20, 5, 0, 21), eD, eD, ([], 17, 0, 25, 0, 0, 0, 24), eD, eD, ([], 0, 0, 0, 0, 0, -1, 25), ([], 29, 0, 0, 0, 0, 0, 26)]]
set_option maxRecDepth 100000 in
theorem ok140 : okM 140 cd140 = true := by decide +kernel
def cd141 : List (List EM) := [[([], 4, 0, 0, 0, 0, 0, 1), ([], 19, 11, 8, 96, 0, 0, 4), eD, eD, ([], 15, 0, 10, 0, 0, 0, 7), eD, eD, ([], 0, 1, 0, 0, 0, -2, 9), eD, ([], 29, 0, 0, 0, 0, 0, 10), ([], 2, 1, 0, 0, 0, 0, 11), ([], 2, 2, 0, 0, 0, 0, 12), ([], 28, 53, 2, 19, 0, 0, 15), eD, eD, ([], 15, 0, 29, 0, 0, 0, 18)],
  [eD, eD, ([], 2, 3, 0, 0, 0, 0, 19), ([], 15, 2, 29, 0, 0, 0, 22), eD, eD, ([], 2, 3, 0, 0, 0, 0, 23), ([], 0, 2, 0, 0, 0, 255, 26), eD, eD, ([], 16, 5, 31, 0, 0, 0, 29), eD, eD, ([], 0, 0, 0, 0, 0, -1, 30), ([], 29, 0, 0, 0, 0, 0, 31), ([], 4, 0, 0, 0, 0, 0, 32)],
  [([], 19, 11, 0, 88, 0, 0, 35), eD, eD, ([], 2, 1, 0, 0, 0, 0, 36), ([], 0, 1, 0, 0, 0, 64, 38), eD, ([], 9, 2, 0, 0, 0, 0, 39), ([], 2, 2, 0, 0, 0, 0, 40), ([], 9, 0, 0, 0, 0, 0, 41), ([], 27, 54, 1, 20, 5, 0, 44), eD, eD, ([], 5, 4, 1, 0, 0, 0, 46), eD, ([], 4, 0, 0, 0, 0, 0, 47), ([], 19, 11, 0, 88, 0, 0, 50)],
  [eD, eD, ([], 2, 1, 0, 0, 0, 0, 51), ([], 0, 1, 0, 0, 0, 64, 53), eD, ([], 9, 2, 0, 0, 0, 0, 54), ([], 2, 2, 0, 0, 0, 0, 55), ([], 9, 0, 0, 0, 0, 0, 56), ([], 2, 3, 0, 0, 0, 0, 57), ([], 27, 57, 2, 11, 5, 0, 60), eD, eD, ([], 4, 0, 0, 0, 0, 0, 61), ([], 19, 11, 0, 88, 0, 0, 64), eD, eD],
  [([], 27, 63, 0, 18, 5, 0, 67), eD, eD, ([], 2, 4, 1, 0, 0, 0, 69), eD, ([], 29, 0, 0, 0, 0, 0, 70)]]
set_option maxRecDepth 100000 in
theorem ok141 : okM 141 cd141 = true := by decide +kernel
def cd142 : List (List EM) := [[([], 2, 1, 0, 0, 0, 0, 1), ([], 15, 2, 11, 0, 0, 0, 4), eD, eD, ([], 2, 1, 0, 0, 0, 0, 5), ([], 0, 2, 0, 0, 0, 1000, 8), eD, eD, ([], 16, 5, 13, 0, 0, 0, 11), eD, eD, ([], 0, 0, 0, 0, 0, -1, 12), ([], 29, 0, 0, 0, 0, 0, 13), ([], 4, 0, 0, 0, 0, 0, 14), ([], 19, 11, 0, 88, 0, 0, 17), eD],
  [eD, ([], 2, 1, 0, 0, 0, 0, 18), ([], 20, 5, 3, 3, 0, 0, 21), eD, eD, ([], 0, 0, 0, 0, 0, 1, 22), ([], 29, 0, 0, 0, 0, 0, 23)]]
set_option maxRecDepth 100000 in
theorem ok142 : okM 142 cd142 = true := by decide +kernel
def cd143 : List (List EM) := [[([], 4, 0, 0, 0, 0, 0, 1), ([], 19, 11, 8, 96, 0, 0, 4), eD, eD, ([], 15, 0, 10, 0, 0, 0, 7), eD, eD, ([], 0, 1, 0, 0, 0, -2, 9), eD, ([], 29, 0, 0, 0, 0, 0, 10), ([], 4, 0, 0, 0, 0, 0, 11), ([], 19, 11, 4, 92, 0, 0, 14), eD, eD, ([], 27, 34, 0, 21, 4, 0, 17), eD],
  [eD, ([], 5, 1, 0, 0, 0, 0, 18), ([], 2, 1, 0, 0, 0, 0, 19), ([], 15, 1, 31, 0, 0, 0, 22), eD, eD, ([], 4, 0, 0, 0, 0, 0, 23), ([], 19, 11, 4, 92, 0, 0, 26), eD, eD, ([], 0, 0, 0, 0, 0, 0, 27), ([], 27, 44, 1, 46, 4, 0, 30), eD, eD, ([], 5, 1, 0, 0, 0, 0, 31), ([true, true], 2, 1, 0, 0, 0, 0, 32)],
  [([], 15, 1, 43, 0, 0, 0, 35), eD, eD, ([], 4, 0, 0, 0, 0, 0, 36), ([], 19, 11, 4, 92, 0, 0, 39), eD, eD, ([], 27, 41, 0, 115, 4, 0, 42), eD, eD, ([], 5, 1, 0, 0, 0, 0, 43), ([], 2, 1, 0, 0, 0, 0, 44), ([], 15, 0, 52, 0, 0, 0, 47), eD, eD, ([], 0, 1, 0, 0, 0, -10, 49)],
  [eD, ([], 2, 1, 0, 0, 0, 0, 50), ([], 9, 1, 0, 0, 0, 0, 51), ([], 29, 0, 0, 0, 0, 0, 52), ([], 4, 0, 0, 0, 0, 0, 53), ([], 0, 0, 0, 0, 0, 1, 54), ([], 20, 11, 8, 96, 0, 0, 57), eD, eD, ([], 4, 0, 0, 0, 0, 0, 58), ([], 19, 11, 5, 93, 0, 0, 61), eD, eD, ([], 27, 125, 0, 118, 10, 0, 64), eD, eD],
  [([], 4, 0, 0, 0, 0, 0, 65), ([], 19, 11, 4, 92, 0, 0, 68), eD, eD, ([], 19, 4, 14, 62, 0, 0, 71), eD, eD, ([], 15, 0, 78, 0, 0, 0, 74), eD, eD, ([], 0, 0, 0, 0, 0, 2, 75), ([], 17, 0, 79, 0, 0, 0, 78), eD, eD, ([], 0, 0, 0, 0, 0, 1, 79), ([], 29, 0, 0, 0, 0, 0, 80)]]
set_option maxRecDepth 100000 in
theorem ok143 : okM 143 cd143 = true := by decide +kernel
def cd144 : List (List EM) := [[([], 2, 1, 0, 0, 0, 0, 1), ([], 32, 0, 0, 3, 0, 0, 28), eD, eD, eD, eD, eD, eD, eD, eD, eD, eD, eD, eD, eD, eD],
  [eD, eD, eD, eD, eD, eD, eD, eD, eD, eD, eD, eD, ([], 4, 0, 0, 0, 0, 0, 29), ([], 19, 11, 4, 92, 0, 0, 32), eD, eD],
  [([], 19, 4, 15, 64, 0, 0, 35), eD, eD, ([], 29, 0, 0, 0, 0, 0, 36), ([], 4, 0, 0, 0, 0, 0, 37), ([], 19, 11, 4, 92, 0, 0, 40), eD, eD, ([], 19, 4, 16, 66, 0, 0, 43), eD, eD, ([], 29, 0, 0, 0, 0, 0, 44), ([], 4, 0, 0, 0, 0, 0, 45), ([], 19, 11, 4, 92, 0, 0, 48), eD, eD],
  [([], 19, 4, 17, 68, 0, 0, 51), eD, eD, ([], 29, 0, 0, 0, 0, 0, 52), ([], 0, 0, 0, 0, 0, -1, 53), ([], 29, 0, 0, 0, 0, 0, 54)]]
set_option maxRecDepth 100000 in
theorem ok144 : okM 144 cd144 = true := by decide +kernel
def cd145 : List (List EM) := [[([], 4, 0, 0, 0, 0, 0, 1), ([], 19, 11, 8, 96, 0, 0, 4), eD, eD, ([], 15, 1, 10, 0, 0, 0, 7), eD, eD, ([], 0, 1, 0, 0, 0, -2, 9), eD, ([], 29, 0, 0, 0, 0, 0, 10), ([], 4, 0, 0, 0, 0, 0, 11), ([], 0, 0, 0, 0, 0, 0, 12), ([], 20, 11, 8, 96, 0, 0, 15), eD, eD, ([], 4, 0, 0, 0, 0, 0, 16)],
  [([], 19, 11, 0, 88, 0, 0, 19), eD, eD, ([], 0, 1, 0, 0, 0, 44, 21), eD, ([], 4, 0, 0, 0, 0, 0, 22), ([], 19, 11, 0, 88, 0, 0, 25), eD, eD, ([], 0, 1, 0, 0, 0, 44, 27), eD, ([], 27, 54, 1, 20, 5, 0, 30), eD, eD, ([], 0, 1, 0, 0, 0, -3, 32), eD],
  [([], 9, 3, 0, 0, 0, 0, 33), ([], 27, 57, 2, 11, 5, 0, 36), eD, eD, ([], 4, 0, 0, 0, 0, 0, 37), ([], 19, 11, 0, 88, 0, 0, 40), eD, eD, ([], 0, 1, 0, 0, 0, 49, 42), eD, ([], 4, 0, 0, 0, 0, 0, 43), ([], 19, 11, 2, 90, 0, 0, 46), eD, eD, ([], 27, 121, 0, 125, 9, 0, 49), eD],
  [eD, ([], 27, 57, 2, 11, 5, 0, 52), eD, eD, ([], 4, 0, 0, 0, 0, 0, 53), ([], 19, 11, 0, 88, 0, 0, 56), eD, eD, ([], 27, 64, 0, 130, 5, 0, 59), eD, eD, ([], 15, 0, 66, 0, 0, 0, 62), eD, eD, ([], 0, 0, 0, 0, 0, 1, 63), ([], 17, 0, 68, 0, 0, 0, 66)],
  [eD, eD, ([], 0, 1, 0, 0, 0, -7, 68), eD, ([], 29, 0, 0, 0, 0, 0, 69)]]
set_option maxRecDepth 100000 in
theorem ok145 : okM 145 cd145 = true := by decide +kernel
def cd146 : List (List EM) := [[([], 4, 0, 0, 0, 0, 0, 1), ([], 19, 11, 8, 96, 0, 0, 4), eD, eD, ([], 15, 0, 10, 0, 0, 0, 7), eD, eD, ([], 0, 1, 0, 0, 0, -2, 9), eD, ([], 29, 0, 0, 0, 0, 0, 10), ([], 4, 0, 0, 0, 0, 0, 11), ([], 19, 11, 4, 92, 0, 0, 14), eD, eD, ([], 27, 34, 0, 21, 4, 0, 17), eD],
  [eD, ([], 5, 1, 0, 0, 0, 0, 18), ([], 2, 1, 0, 0, 0, 0, 19), ([], 15, 0, 27, 0, 0, 0, 22), eD, eD, ([], 0, 1, 0, 0, 0, -10, 24), eD, ([], 2, 1, 0, 0, 0, 0, 25), ([], 9, 1, 0, 0, 0, 0, 26), ([], 29, 0, 0, 0, 0, 0, 27), ([], 4, 0, 0, 0, 0, 0, 28), ([], 19, 11, 4, 92, 0, 0, 31), eD, eD, ([], 27, 42, 0, 134, 4, 0, 34)],
  [eD, eD, ([], 15, 1, 40, 0, 0, 0, 37), eD, eD, ([], 0, 1, 0, 0, 0, -7, 39), eD, ([], 29, 0, 0, 0, 0, 0, 40), ([], 4, 0, 0, 0, 0, 0, 41), ([], 19, 11, 4, 92, 0, 0, 44), eD, eD, ([], 0, 0, 0, 0, 0, 1, 45), ([], 27, 44, 1, 46, 4, 0, 48), eD, eD],
  [([], 26, 0, 0, 0, 0, 0, 49), ([], 4, 0, 0, 0, 0, 0, 50), ([], 19, 11, 4, 92, 0, 0, 53), eD, eD, ([], 27, 43, 0, 136, 4, 0, 56), eD, eD, ([], 15, 0, 69, 0, 0, 0, 59), eD, eD, ([], 4, 0, 0, 0, 0, 0, 60), ([], 19, 11, 4, 92, 0, 0, 63), eD, eD, ([], 19, 4, 13, 59, 0, 0, 66)],
  [eD, eD, ([], 17, 0, 71, 0, 0, 0, 69), eD, eD, ([], 0, 1, 0, 0, 0, -7, 71), eD, ([], 29, 0, 0, 0, 0, 0, 72)]]
set_option maxRecDepth 100000 in
theorem ok146 : okM 146 cd146 = true := by decide +kernel
def cd147 : List (List EM) := [[([], 4, 0, 0, 0, 0, 0, 1), ([], 19, 11, 7, 95, 0, 0, 4), eD, eD, ([], 3, 1, 0, 0, 0, 0, 5), ([], 27, 75, 1, 139, 7, 0, 8), eD, eD, ([], 15, 0, 21, 0, 0, 0, 11), eD, eD, ([], 4, 0, 0, 0, 0, 0, 12), ([], 19, 11, 7, 95, 0, 0, 15), eD, eD, ([], 19, 7, 1, 44, 0, 0, 18)],
  [eD, eD, ([], 17, 0, 22, 0, 0, 0, 21), eD, eD, ([], 0, 0, 0, 0, 0, -1, 22), ([], 29, 0, 0, 0, 0, 0, 23)]]
set_option maxRecDepth 100000 in
theorem ok147 : okM 147 cd147 = true := by decide +kernel
def cd148 : List (List EM) := [[([], 4, 0, 0, 0, 0, 0, 1), ([], 19, 11, 7, 95, 0, 0, 4), eD, eD, ([], 19, 7, 1, 44, 0, 0, 7), eD, eD, ([], 5, 1, 0, 0, 0, 0, 8), ([], 4, 0, 0, 0, 0, 0, 9), ([], 19, 11, 7, 95, 0, 0, 12), eD, eD, ([], 0, 0, 0, 0, 0, 0, 13), ([], 20, 7, 1, 44, 0, 0, 16), eD, eD],
  [([], 2, 1, 0, 0, 0, 0, 17), ([], 29, 0, 0, 0, 0, 0, 18)]]
set_option maxRecDepth 100000 in
theorem ok148 : okM 148 cd148 = true := by decide +kernel
def cd149 : List (List EM) := [[([], 4, 0, 0, 0, 0, 0, 1), ([], 19, 11, 6, 94, 0, 0, 4), eD, eD, ([], 2, 1, 0, 0, 0, 0, 5), ([], 20, 0, 5, 85, 0, 0, 8), eD, eD, ([], 31, 0, 0, 0, 0, 0, 9)]]
set_option maxRecDepth 100000 in
theorem ok149 : okM 149 cd149 = true := by decide +kernel
def cd150 : List (List EM) := [[([], 0, 1, 0, 0, 0, -2, 2), eD, ([], 5, 2, 0, 0, 0, 0, 3), ([], 4, 0, 0, 0, 0, 0, 4), ([], 19, 11, 8, 96, 0, 0, 7), eD, eD, ([], 15, 0, 55, 0, 0, 0, 10), eD, eD, ([], 4, 0, 0, 0, 0, 0, 11), ([], 19, 11, 5, 93, 0, 0, 14), eD, eD, ([], 2, 1, 0, 0, 0, 0, 15), ([], 27, 130, 1, 141, 10, 0, 18)],
  [eD, eD, ([], 15, 1, 26, 0, 0, 0, 21), eD, eD, ([], 0, 0, 0, 0, 0, -1, 22), ([], 5, 2, 0, 0, 0, 0, 23), ([], 17, 0, 55, 0, 0, 0, 26), eD, eD, ([], 4, 0, 0, 0, 0, 0, 27), ([], 19, 11, 7, 95, 0, 0, 30), eD, eD, ([], 27, 77, 0, 144, 7, 0, 33), eD],
  [eD, ([], 15, 1, 42, 0, 0, 0, 36), eD, eD, ([], 0, 1, 0, 0, 0, -3, 38), eD, ([], 5, 2, 0, 0, 0, 0, 39), ([], 17, 0, 55, 0, 0, 0, 42), eD, eD, ([], 4, 0, 0, 0, 0, 0, 43), ([], 19, 11, 5, 93, 0, 0, 46), eD, eD, ([], 2, 1, 0, 0, 0, 0, 47), ([], 4, 0, 0, 0, 0, 0, 48)],
  [([], 19, 11, 7, 95, 0, 0, 51), eD, eD, ([], 27, 133, 2, 145, 10, 0, 54), eD, eD, ([], 5, 2, 0, 0, 0, 0, 55), ([], 4, 0, 0, 0, 0, 0, 56), ([], 19, 11, 7, 95, 0, 0, 59), eD, eD, ([], 0, 0, 0, 0, 0, 0, 60), ([], 20, 7, 1, 44, 0, 0, 63), eD, eD, ([], 2, 2, 0, 0, 0, 0, 64)],
  [([], 29, 0, 0, 0, 0, 0, 65)]]
set_option maxRecDepth 100000 in
theorem ok150 : okM 150 cd150 = true := by decide +kernel
def cd151 : List (List EM) := [[([], 4, 0, 0, 0, 0, 0, 1), ([], 19, 11, 8, 96, 0, 0, 4), eD, eD, ([], 15, 1, 10, 0, 0, 0, 7), eD, eD, ([], 0, 1, 0, 0, 0, -2, 9), eD, ([], 29, 0, 0, 0, 0, 0, 10), ([], 4, 0, 0, 0, 0, 0, 11), ([], 19, 11, 5, 93, 0, 0, 14), eD, eD, ([], 2, 1, 0, 0, 0, 0, 15), ([], 27, 130, 1, 141, 10, 0, 18)],
  [eD, eD, ([], 15, 0, 33, 0, 0, 0, 21), eD, eD, ([], 4, 0, 0, 0, 0, 0, 22), ([], 19, 11, 5, 93, 0, 0, 25), eD, eD, ([], 2, 1, 0, 0, 0, 0, 26), ([], 2, 2, 0, 0, 0, 0, 27), ([], 27, 135, 2, 151, 10, 0, 30), eD, eD, ([], 17, 0, 34, 0, 0, 0, 33), eD],
  [eD, ([], 0, 0, 0, 0, 0, -1, 34), ([], 29, 0, 0, 0, 0, 0, 35)]]
set_option maxRecDepth 100000 in
theorem ok151 : okM 151 cd151 = true := by decide +kernel
def cd152 : List (List EM) := [[([], 4, 0, 0, 0, 0, 0, 1), ([], 19, 11, 8, 96, 0, 0, 4), eD, eD, ([], 15, 0, 23, 0, 0, 0, 7), eD, eD, ([], 4, 0, 0, 0, 0, 0, 8), ([], 19, 11, 6, 94, 0, 0, 11), eD, eD, ([], 2, 1, 0, 0, 0, 0, 12), ([], 4, 0, 0, 0, 0, 0, 13), ([], 19, 11, 7, 95, 0, 0, 16), eD, eD],
  [([], 2, 2, 0, 0, 0, 0, 17), ([], 27, 0, 3, 152, 0, 0, 20), eD, eD, ([], 17, 0, 25, 0, 0, 0, 23), eD, eD, ([], 0, 1, 0, 0, 0, -2, 25), eD, ([], 5, 3, 0, 0, 0, 0, 26), ([], 4, 0, 0, 0, 0, 0, 27), ([], 19, 11, 7, 95, 0, 0, 30), eD, eD, ([], 0, 0, 0, 0, 0, 0, 31), ([], 20, 7, 1, 44, 0, 0, 34)],
  [eD, eD, ([], 4, 0, 0, 0, 0, 0, 35), ([], 2, 3, 0, 0, 0, 0, 36), ([], 27, 163, 1, 206, 11, 0, 39), eD, eD, ([], 29, 0, 0, 0, 0, 0, 40)]]
set_option maxRecDepth 100000 in
theorem ok152 : okM 152 cd152 = true := by decide +kernel
def cd153 : List (List EM) := [[([], 4, 0, 0, 0, 0, 0, 1), ([], 19, 11, 8, 96, 0, 0, 4), eD, eD, ([], 15, 0, 26, 0, 0, 0, 7), eD, eD, ([], 4, 0, 0, 0, 0, 0, 8), ([], 4, 0, 0, 0, 0, 0, 9), ([], 19, 11, 6, 94, 0, 0, 12), eD, eD, ([], 2, 1, 0, 0, 0, 0, 13), ([], 2, 2, 0, 0, 0, 0, 14), ([], 2, 3, 0, 0, 0, 0, 15), ([], 2, 4, 1, 0, 0, 0, 17)],
  [eD, ([], 27, 6, 4, 207, 0, 0, 20), eD, eD, ([], 27, 163, 1, 206, 11, 0, 23), eD, eD, ([], 17, 0, 28, 0, 0, 0, 26), eD, eD, ([], 0, 1, 0, 0, 0, -2, 28), eD, ([], 29, 0, 0, 0, 0, 0, 29)]]
set_option maxRecDepth 100000 in
theorem ok153 : okM 153 cd153 = true := by decide +kernel
def cd154 : List (List EM) := [[([], 4, 0, 0, 0, 0, 0, 1), ([], 19, 11, 8, 96, 0, 0, 4), eD, eD, ([], 15, 0, 23, 0, 0, 0, 7), eD, eD, ([], 4, 0, 0, 0, 0, 0, 8), ([], 4, 0, 0, 0, 0, 0, 9), ([], 19, 11, 6, 94, 0, 0, 12), eD, eD, ([], 2, 1, 0, 0, 0, 0, 13), ([], 2, 2, 0, 0, 0, 0, 14), ([], 27, 7, 2, 212, 0, 0, 17), eD],
  [eD, ([], 27, 163, 1, 206, 11, 0, 20), eD, eD, ([], 17, 0, 25, 0, 0, 0, 23), eD, eD, ([], 0, 1, 0, 0, 0, -2, 25), eD, ([], 29, 0, 0, 0, 0, 0, 26)]]
set_option maxRecDepth 100000 in
theorem ok154 : okM 154 cd154 = true := by decide +kernel
def cd155 : List (List EM) := [[([], 4, 0, 0, 0, 0, 0, 1), ([], 19, 11, 8, 96, 0, 0, 4), eD, eD, ([], 15, 0, 22, 0, 0, 0, 7), eD, eD, ([], 4, 0, 0, 0, 0, 0, 8), ([], 4, 0, 0, 0, 0, 0, 9), ([], 19, 11, 6, 94, 0, 0, 12), eD, eD, ([], 2, 1, 0, 0, 0, 0, 13), ([], 27, 8, 1, 214, 0, 0, 16), eD, eD],
  [([], 27, 163, 1, 206, 11, 0, 19), eD, eD, ([], 17, 0, 24, 0, 0, 0, 22), eD, eD, ([], 0, 1, 0, 0, 0, -2, 24), eD, ([], 29, 0, 0, 0, 0, 0, 25)]]
set_option maxRecDepth 100000 in
theorem ok155 : okM 155 cd155 = true := by decide +kernel
def cd156 : List (List EM) := [[([], 4, 0, 0, 0, 0, 0, 1), ([], 19, 11, 8, 96, 0, 0, 4), eD, eD, ([], 15, 0, 23, 0, 0, 0, 7), eD, eD, ([], 4, 0, 0, 0, 0, 0, 8), ([], 19, 11, 6, 94, 0, 0, 11), eD, eD, ([], 2, 1, 0, 0, 0, 0, 12), ([], 2, 2, 0, 0, 0, 0, 13), ([], 4, 0, 0, 0, 0, 0, 14), ([], 19, 11, 7, 95, 0, 0, 17), eD],
  [eD, ([], 27, 1, 3, 219, 0, 0, 20), eD, eD, ([], 17, 0, 25, 0, 0, 0, 23), eD, eD, ([], 0, 1, 0, 0, 0, -2, 25), eD, ([], 5, 3, 0, 0, 0, 0, 26), ([], 4, 0, 0, 0, 0, 0, 27), ([], 19, 11, 7, 95, 0, 0, 30), eD, eD, ([], 0, 0, 0, 0, 0, 0, 31), ([], 20, 7, 1, 44, 0, 0, 34)],
  [eD, eD, ([], 4, 0, 0, 0, 0, 0, 35), ([], 2, 3, 0, 0, 0, 0, 36), ([], 27, 163, 1, 206, 11, 0, 39), eD, eD, ([], 29, 0, 0, 0, 0, 0, 40)]]
set_option maxRecDepth 100000 in
theorem ok156 : okM 156 cd156 = true := by decide +kernel
def cd157 : List (List EM) := [[([], 4, 0, 0, 0, 0, 0, 1), ([], 19, 11, 8, 96, 0, 0, 4), eD, eD, ([], 15, 0, 23, 0, 0, 0, 7), eD, eD, ([], 4, 0, 0, 0, 0, 0, 8), ([], 4, 0, 0, 0, 0, 0, 9), ([], 19, 11, 6, 94, 0, 0, 12), eD, eD, ([], 2, 1, 0, 0, 0, 0, 13), ([], 2, 2, 0, 0, 0, 0, 14), ([], 27, 9, 2, 227, 0, 0, 17), eD],
  [eD, ([], 27, 163, 1, 206, 11, 0, 20), eD, eD, ([], 17, 0, 25, 0, 0, 0, 23), eD, eD, ([], 0, 1, 0, 0, 0, -2, 25), eD, ([], 29, 0, 0, 0, 0, 0, 26)]]
set_option maxRecDepth 100000 in
theorem ok157 : okM 157 cd157 = true := by decide +kernel
def cd158 : List (List EM) := [[([], 4, 0, 0, 0, 0, 0, 1), ([], 19, 11, 8, 96, 0, 0, 4), eD, eD, ([], 15, 0, 30, 0, 0, 0, 7), eD, eD, ([], 4, 0, 0, 0, 0, 0, 8), ([], 19, 11, 5, 93, 0, 0, 11), eD, eD, ([], 2, 1, 0, 0, 0, 0, 12), ([], 27, 131, 1, 229, 10, 0, 15), eD, eD, ([], 15, 0, 30, 0, 0, 0, 18)],
  [eD, eD, ([], 4, 0, 0, 0, 0, 0, 19), ([], 19, 11, 5, 93, 0, 0, 22), eD, eD, ([], 2, 1, 0, 0, 0, 0, 23), ([], 2, 2, 0, 0, 0, 0, 24), ([], 27, 138, 2, 230, 10, 0, 27), eD, eD, ([], 17, 0, 31, 0, 0, 0, 30), eD, eD, ([], 1, 0, 0, 0, 0, 0, 31), ([], 30, 0, 0, 0, 0, 0, 32)]]
set_option maxRecDepth 100000 in
theorem ok158 : okM 158 cd158 = true := by decide +kernel
def cd159 : List (List EM) := [[([], 4, 0, 0, 0, 0, 0, 1), ([], 19, 11, 8, 96, 0, 0, 4), eD, eD, ([], 15, 1, 10, 0, 0, 0, 7), eD, eD, ([], 0, 1, 0, 0, 0, -2, 9), eD, ([], 29, 0, 0, 0, 0, 0, 10), ([], 4, 0, 0, 0, 0, 0, 11), ([], 19, 11, 5, 93, 0, 0, 14), eD, eD, ([], 2, 1, 0, 0, 0, 0, 15), ([], 27, 129, 1, 232, 10, 0, 18)],
  [eD, eD, ([], 15, 0, 31, 0, 0, 0, 21), eD, eD, ([], 2, 2, 0, 0, 0, 0, 22), ([], 15, 2, 31, 0, 0, 0, 25), eD, eD, ([], 2, 2, 0, 0, 0, 0, 26), ([], 0, 1, 0, 0, 0, 8, 28), eD, ([], 16, 5, 33, 0, 0, 0, 31), eD, eD, ([], 0, 0, 0, 0, 0, -1, 32)],
  [([], 29, 0, 0, 0, 0, 0, 33), ([], 2, 1, 0, 0, 0, 0, 34), ([], 15, 1, 46, 0, 0, 0, 37), eD, eD, ([], 4, 0, 0, 0, 0, 0, 38), ([], 19, 11, 5, 93, 0, 0, 41), eD, eD, ([], 2, 2, 0, 0, 0, 0, 42), ([], 27, 137, 1, 233, 10, 0, 45), eD, eD, ([], 29, 0, 0, 0, 0, 0, 46), ([], 4, 0, 0, 0, 0, 0, 47), ([], 19, 11, 3, 91, 0, 0, 50)],
  [eD, eD, ([], 2, 1, 0, 0, 0, 0, 51), ([], 28, 122, 1, 234, 0, 0, 54), eD, eD, ([], 2, 2, 0, 0, 0, 0, 55), ([], 27, 92, 2, 235, 8, 0, 58), eD, eD, ([], 29, 0, 0, 0, 0, 0, 59)]]
set_option maxRecDepth 100000 in
theorem ok159 : okM 159 cd159 = true := by decide +kernel
def cd160 : List (List EM) := [[([], 4, 0, 0, 0, 0, 0, 1), ([], 19, 11, 8, 96, 0, 0, 4), eD, eD, ([], 15, 1, 10, 0, 0, 0, 7), eD, eD, ([], 0, 1, 0, 0, 0, -2, 9), eD, ([], 29, 0, 0, 0, 0, 0, 10), ([], 4, 0, 0, 0, 0, 0, 11), ([], 19, 11, 5, 93, 0, 0, 14), eD, eD, ([], 2, 1, 0, 0, 0, 0, 15), ([], 27, 128, 1, 236, 10, 0, 18)],
  [eD, eD, ([], 15, 1, 23, 0, 0, 0, 21), eD, eD, ([], 0, 0, 0, 0, 0, -1, 22), ([], 29, 0, 0, 0, 0, 0, 23), ([], 2, 2, 0, 0, 0, 0, 24), ([], 15, 2, 42, 0, 0, 0, 27), eD, eD, ([], 2, 2, 0, 0, 0, 0, 28), ([], 4, 0, 0, 0, 0, 0, 29), ([], 19, 11, 3, 91, 0, 0, 32), eD, eD],
  [([], 2, 1, 0, 0, 0, 0, 33), ([], 28, 122, 1, 234, 0, 0, 36), eD, eD, ([], 27, 86, 1, 237, 8, 0, 39), eD, eD, ([], 16, 2, 44, 0, 0, 0, 42), eD, eD, ([], 0, 0, 0, 0, 0, -1, 43), ([], 29, 0, 0, 0, 0, 0, 44), ([], 4, 0, 0, 0, 0, 0, 45), ([], 19, 11, 3, 91, 0, 0, 48), eD, eD],
  [([], 4, 0, 0, 0, 0, 0, 49), ([], 19, 11, 5, 93, 0, 0, 52), eD, eD, ([], 2, 1, 0, 0, 0, 0, 53), ([], 27, 124, 1, 238, 10, 0, 56), eD, eD, ([], 2, 2, 0, 0, 0, 0, 57), ([], 27, 90, 2, 239, 8, 0, 60), eD, eD, ([], 29, 0, 0, 0, 0, 0, 61)]]
set_option maxRecDepth 100000 in
theorem ok160 : okM 160 cd160 = true := by decide +kernel
def cd161 : List (List EM) := [[([], 4, 0, 0, 0, 0, 0, 1), ([], 19, 11, 8, 96, 0, 0, 4), eD, eD, ([], 15, 1, 10, 0, 0, 0, 7), eD, eD, ([], 0, 1, 0, 0, 0, -2, 9), eD, ([], 29, 0, 0, 0, 0, 0, 10), ([], 4, 0, 0, 0, 0, 0, 11), ([], 19, 11, 5, 93, 0, 0, 14), eD, eD, ([], 2, 1, 0, 0, 0, 0, 15), ([], 27, 129, 1, 232, 10, 0, 18)],
  [eD, eD, ([], 15, 0, 33, 0, 0, 0, 21), eD, eD, ([], 4, 0, 0, 0, 0, 0, 22), ([], 19, 11, 5, 93, 0, 0, 25), eD, eD, ([], 2, 1, 0, 0, 0, 0, 26), ([], 2, 2, 0, 0, 0, 0, 27), ([], 27, 136, 2, 240, 10, 0, 30), eD, eD, ([], 17, 0, 34, 0, 0, 0, 33), eD],
  [eD, ([], 0, 0, 0, 0, 0, -1, 34), ([], 29, 0, 0, 0, 0, 0, 35)]]
set_option maxRecDepth 100000 in
theorem ok161 : okM 161 cd161 = true := by decide +kernel
def cd162 : List (List EM) := [[([], 2, 1, 0, 0, 0, 0, 1), ([], 15, 2, 9, 0, 0, 0, 4), eD, eD, ([], 2, 1, 0, 0, 0, 0, 5), ([], 0, 0, 0, 0, 0, 5, 6), ([], 16, 5, 11, 0, 0, 0, 9), eD, eD, ([], 0, 0, 0, 0, 0, -1, 10), ([], 29, 0, 0, 0, 0, 0, 11), ([], 2, 1, 0, 0, 0, 0, 12), ([], 0, 0, 0, 0, 0, 4, 13), ([], 16, 1, 24, 0, 0, 0, 16), eD, eD],
  [([], 4, 0, 0, 0, 0, 0, 17), ([], 19, 11, 0, 88, 0, 0, 20), eD, eD, ([], 19, 5, 4, 6, 0, 0, 23), eD, eD, ([], 29, 0, 0, 0, 0, 0, 24), ([], 2, 1, 0, 0, 0, 0, 25), ([], 0, 0, 0, 0, 0, 5, 26), ([], 16, 1, 42, 0, 0, 0, 29), eD, eD, ([], 4, 0, 0, 0, 0, 0, 30), ([], 19, 11, 8, 96, 0, 0, 33), eD],
  [eD, ([], 15, 0, 40, 0, 0, 0, 36), eD, eD, ([], 0, 0, 0, 0, 0, 1, 37), ([], 17, 0, 41, 0, 0, 0, 40), eD, eD, ([], 0, 0, 0, 0, 0, 0, 41), ([], 29, 0, 0, 0, 0, 0, 42), ([], 4, 0, 0, 0, 0, 0, 43), ([], 19, 11, 8, 96, 0, 0, 46), eD, eD, ([], 15, 1, 52, 0, 0, 0, 49), eD],
  [eD, ([], 0, 1, 0, 0, 0, -2, 51), eD, ([], 29, 0, 0, 0, 0, 0, 52), ([], 2, 1, 0, 0, 0, 0, 53), ([], 32, 0, 0, 4, 0, 0, 80), eD, eD, eD, eD, eD, eD, eD, eD, eD, eD],
  [eD, eD, eD, eD, eD, eD, eD, eD, eD, eD, eD, eD, eD, eD, eD, eD],
  [([], 4, 0, 0, 0, 0, 0, 81), ([], 19, 11, 2, 90, 0, 0, 84), eD, eD, ([], 19, 9, 1, 13, 0, 0, 87), eD, eD, ([], 29, 0, 0, 0, 0, 0, 88), ([], 4, 0, 0, 0, 0, 0, 89), ([], 19, 11, 2, 90, 0, 0, 92), eD, eD, ([], 27, 119, 0, 241, 9, 0, 95), eD, eD, ([], 29, 0, 0, 0, 0, 0, 96)],
  [([], 4, 0, 0, 0, 0, 0, 97), ([], 19, 11, 2, 90, 0, 0, 100), eD, eD, ([], 27, 120, 0, 242, 9, 0, 103), eD, eD, ([], 29, 0, 0, 0, 0, 0, 104), ([], 4, 0, 0, 0, 0, 0, 105), ([], 19, 11, 0, 88, 0, 0, 108), eD, eD, ([], 0, 1, 0, 0, 0, 44, 110), eD, ([], 27, 54, 1, 20, 5, 0, 113), eD],
  [eD, ([], 0, 0, 0, 0, 0, 2, 114), ([], 9, 3, 0, 0, 0, 0, 115), ([], 15, 0, 122, 0, 0, 0, 118), eD, eD, ([], 0, 0, 0, 0, 0, 1, 119), ([], 17, 0, 123, 0, 0, 0, 122), eD, eD, ([], 0, 0, 0, 0, 0, 0, 123), ([], 29, 0, 0, 0, 0, 0, 124)]]
set_option maxRecDepth 100000 in
theorem ok162 : okM 162 cd162 = true := by decide +kernel
def cd163 : List (List EM) := [[([], 2, 1, 0, 0, 0, 0, 1), ([], 0, 1, 0, 0, 0, -7, 3), eD, ([], 16, 1, 11, 0, 0, 0, 6), eD, eD, ([], 4, 0, 0, 0, 0, 0, 7), ([], 0, 0, 0, 0, 0, 0, 8), ([], 20, 11, 8, 96, 0, 0, 11), eD, eD, ([], 2, 1, 0, 0, 0, 0, 12), ([], 29, 0, 0, 0, 0, 0, 13)]]
set_option maxRecDepth 100000 in
theorem ok163 : okM 163 cd163 = true := by decide +kernel
def cd164 : List (List EM) := [[([], 2, 0, 0, 0, 0, 0, 1), ([], 2, 1, 0, 0, 0, 0, 2), ([], 16, 3, 9, 0, 0, 0, 5), eD, eD, ([], 2, 0, 0, 0, 0, 0, 6), ([], 17, 0, 10, 0, 0, 0, 9), eD, eD, ([], 2, 1, 0, 0, 0, 0, 10), ([], 29, 0, 0, 0, 0, 0, 11)]]
set_option maxRecDepth 100000 in
theorem ok164 : okM 164 cd164 = true := by decide +kernel
def cd165 : List (List EM) := [[([], 3, 0, 0, 0, 0, 0, 1), ([], 3, 2, 0, 0, 0, 0, 2), ([], 18, 5, 10, 0, 0, 0, 6), eD, eD, eD, ([], 3, 0, 0, 0, 0, 0, 7), ([], 17, 0, 11, 0, 0, 0, 10), eD, eD, ([], 3, 2, 0, 0, 0, 0, 11), ([], 30, 0, 0, 0, 0, 0, 12)]]
set_option maxRecDepth 100000 in
theorem ok165 : okM 165 cd165 = true := by decide +kernel
def cd166 : List (List EM) := [[([], 3, 0, 0, 0, 0, 0, 1), ([], 3, 2, 0, 0, 0, 0, 2), ([], 18, 2, 17, 0, 0, 0, 6), eD, eD, eD, ([], 3, 0, 0, 0, 0, 0, 7), ([], 3, 4, 1, 0, 0, 0, 9), eD, ([], 18, 4, 17, 0, 0, 0, 13), eD, eD, eD, ([], 0, 0, 0, 0, 0, 1, 14), ([], 17, 0, 18, 0, 0, 0, 17), eD],
  [eD, ([], 0, 0, 0, 0, 0, 0, 18), ([], 29, 0, 0, 0, 1, 0, 19)]]
set_option maxRecDepth 100000 in
theorem ok166 : okM 166 cd166 = true := by decide +kernel
def cd167 : List (List EM) := [[([], 1, 0, 0, 0, 0, 0, 1), ([], 6, 3, 0, 0, 0, 0, 2), ([], 2, 2, 0, 0, 0, 0, 3), ([], 0, 0, 0, 0, 0, 1, 4), ([], 9, 1, 0, 0, 0, 0, 5), ([], 5, 5, 1, 0, 0, 0, 7), eD, ([true, true, false, true, false, true], 2, 5, 1, 0, 0, 0, 9), eD, ([], 15, 2, 35, 0, 0, 0, 12), eD, eD, ([], 3, 3, 0, 0, 0, 0, 13), ([], 0, 1, 0, 0, 0, 8, 15), eD, ([], 13, 0, 0, 0, 0, 0, 16)],
  [([], 4, 0, 0, 0, 0, 0, 17), ([], 2, 1, 0, 0, 0, 0, 18), ([], 2, 5, 1, 0, 0, 0, 20), eD, ([], 9, 0, 0, 0, 0, 0, 21), ([], 22, 1, 13824, 0, 0, 0, 22), ([], 0, 2, 0, 0, 0, 255, 25), eD, eD, ([], 9, 3, 0, 0, 0, 0, 26), ([], 14, 0, 0, 0, 0, 0, 27), ([], 11, 4, 0, 0, 0, 0, 28), ([], 6, 3, 0, 0, 0, 0, 29), ([], 8, 5, 0, 0, 0, -1, 32), eD, eD],
  [([], 17, 0, 7, 0, 0, 0, 35), eD, eD, ([], 3, 3, 0, 0, 0, 0, 36), ([], 30, 0, 0, 0, 0, 0, 37)]]
set_option maxRecDepth 100000 in
theorem ok167 : okM 167 cd167 = true := by decide +kernel
def cd168 : List (List EM) := [[([], 0, 0, 0, 0, 0, 0, 1), ([], 5, 5, 1, 0, 0, 0, 3), eD, ([true, true, true, true, false, true], 2, 5, 1, 0, 0, 0, 5), eD, ([], 2, 2, 0, 0, 0, 0, 6), ([], 16, 3, 30, 0, 0, 0, 9), eD, eD, ([], 4, 0, 0, 0, 0, 0, 10), ([], 2, 1, 0, 0, 0, 0, 11), ([], 2, 5, 1, 0, 0, 0, 13), eD, ([], 9, 0, 0, 0, 0, 0, 14), ([], 3, 3, 0, 0, 0, 0, 15), ([], 0, 1, 0, 0, 0, 8, 17)],
  [eD, ([], 2, 5, 1, 0, 0, 0, 19), eD, ([], 9, 2, 0, 0, 0, 0, 20), ([], 13, 1, 0, 0, 0, 0, 21), ([], 14, 1, 0, 0, 0, 0, 22), ([], 14, 2, 0, 0, 0, 0, 23), ([], 23, 1, 13824, 0, 0, 0, 24), ([], 8, 5, 0, 0, 0, 1, 27), eD, eD, ([], 17, 0, 3, 0, 0, 0, 30), eD, eD, ([], 31, 0, 0, 0, 0, 0, 31)]]
set_option maxRecDepth 100000 in
theorem ok168 : okM 168 cd168 = true := by decide +kernel
def cd169 : List (List EM) := [[([], 0, 2, 0, 0, 0, 1024, 3), eD, eD, ([], 0, 2, 0, 0, 0, 128, 6), eD, eD, ([], 2, 0, 0, 0, 0, 0, 7), ([], 0, 0, 0, 0, 0, 2, 8), ([], 9, 1, 0, 0, 0, 0, 9), ([], 9, 2, 0, 0, 0, 0, 10), ([], 9, 0, 0, 0, 0, 0, 11), ([], 29, 0, 0, 0, 0, 0, 12)]]
set_option maxRecDepth 100000 in
theorem ok169 : okM 169 cd169 = true := by decide +kernel
def cd170 : List (List EM) := [[([], 3, 1, 0, 0, 0, 0, 1), ([], 1, 2, 0, 14, 0, 2, 4), eD, eD, ([], 4, 0, 0, 0, 0, 0, 5), ([], 19, 12, 0, 97, 0, 0, 8), eD, eD, ([], 0, 0, 0, 0, 0, 1, 9), ([], 9, 0, 0, 0, 0, 0, 10), ([], 14, 0, 0, 0, 0, 0, 11), ([], 28, 166, 3, 243, 0, 0, 14), eD, eD, ([], 29, 0, 0, 0, 1, 0, 15)]]
set_option maxRecDepth 100000 in
theorem ok170 : okM 170 cd170 = true := by decide +kernel
def cd171 : List (List EM) := [[([], 4, 1, 0, 0, 0, 0, 1), ([], 0, 2, 0, 0, 0, 512, 4), eD, eD, ([], 0, 0, 0, 0, 0, 4, 5), ([], 2, 2, 0, 0, 0, 0, 6), ([], 9, 2, 0, 0, 0, 0, 7), ([], 9, 0, 0, 0, 0, 0, 8), ([], 0, 0, 0, 0, 0, 4, 9), ([], 28, 167, 3, 254, 0, 0, 12), eD, eD, ([], 30, 0, 0, 0, 0, 0, 13)]]
set_option maxRecDepth 100000 in
theorem ok171 : okM 171 cd171 = true := by decide +kernel
def cd172 : List (List EM) := [[([], 4, 0, 0, 0, 0, 0, 1), ([], 19, 12, 8, 105, 0, 0, 4), eD, eD, ([], 0, 2, 0, 0, 0, 512, 7), eD, eD, ([], 0, 0, 0, 0, 0, 4, 8), ([], 2, 1, 0, 0, 0, 0, 9), ([], 9, 2, 0, 0, 0, 0, 10), ([], 9, 0, 0, 0, 0, 0, 11), ([], 0, 0, 0, 0, 0, 4, 12), ([], 3, 2, 0, 0, 0, 0, 13), ([], 28, 168, 4, 246, 0, 0, 16), eD, eD],
  [([], 31, 0, 0, 0, 0, 0, 17)]]
set_option maxRecDepth 100000 in
theorem ok172 : okM 172 cd172 = true := by decide +kernel
end
section
/-! code tables, by program out of the printed bytecode, and their checks -/
def cd173 : List (List EM) := [[([], 4, 1, 0, 0, 0, 0, 1), ([], 4, 0, 0, 0, 0, 0, 2), ([], 19, 12, 2, 99, 0, 0, 5), eD, eD, ([], 28, 169, 1, 249, 0, 0, 8), eD, eD, ([], 2, 2, 0, 0, 0, 0, 9), ([], 0, 0, 0, 0, 0, 2, 10), ([], 9, 1, 0, 0, 0, 0, 11), ([], 0, 1, 0, 0, 0, 8, 13), eD, ([], 10, 0, 0, 0, 0, 0, 14), ([], 9, 0, 0, 0, 0, 0, 15), ([], 22, 1, 13824, 0, 0, 0, 16)],
  [([], 2, 2, 0, 0, 0, 0, 17), ([], 0, 0, 0, 0, 0, 2, 18), ([], 9, 1, 0, 0, 0, 0, 19), ([], 0, 1, 0, 0, 0, 8, 21), eD, ([], 10, 1, 0, 0, 0, 0, 22), ([], 9, 7, 0, 0, 0, 0, 23), ([], 0, 0, 0, 0, 0, 1, 24), ([], 9, 3, 0, 0, 0, 0, 25), ([], 0, 0, 0, 0, 0, 1, 26), ([], 16, 1, 33, 0, 0, 0, 29), eD, eD, ([], 0, 0, 0, 0, 0, 1, 30), ([], 17, 0, 34, 0, 0, 0, 33), eD],
  [eD, ([], 0, 0, 0, 0, 0, 0, 34), ([], 29, 0, 0, 0, 1, 0, 35)]]
set_option maxRecDepth 100000 in
theorem ok173 : okM 173 cd173 = true := by decide +kernel
def cd174 : List (List EM) := [[([], 4, 0, 0, 0, 0, 0, 1), ([], 19, 12, 2, 99, 0, 0, 4), eD, eD, ([], 28, 169, 1, 249, 0, 0, 7), eD, eD, ([], 2, 1, 0, 0, 0, 0, 8), ([], 0, 0, 0, 0, 0, 2, 9), ([], 9, 1, 0, 0, 0, 0, 10), ([], 0, 1, 0, 0, 0, 8, 12), eD, ([], 10, 0, 0, 0, 0, 0, 13), ([], 9, 0, 0, 0, 0, 0, 14), ([], 5, 3, 0, 0, 0, 0, 15), ([], 0, 0, 0, 0, 0, 1, 16)],
  [([], 2, 1, 0, 0, 0, 0, 17), ([], 0, 0, 0, 0, 0, 2, 18), ([], 9, 1, 0, 0, 0, 0, 19), ([], 0, 1, 0, 0, 0, 8, 21), eD, ([], 10, 1, 0, 0, 0, 0, 22), ([], 9, 6, 0, 0, 0, 0, 23), ([], 5, 4, 1, 0, 0, 0, 25), eD, ([], 4, 0, 0, 0, 0, 0, 26), ([], 19, 12, 8, 105, 0, 0, 29), eD, eD, ([], 2, 3, 0, 0, 0, 0, 30), ([], 2, 2, 0, 0, 0, 0, 31), ([], 15, 0, 46, 0, 0, 0, 34)],
  [eD, eD, ([], 4, 0, 0, 0, 0, 0, 35), ([], 19, 12, 8, 105, 0, 0, 38), eD, eD, ([], 2, 3, 0, 0, 0, 0, 39), ([], 22, 1, 13824, 0, 0, 0, 40), ([], 2, 4, 1, 0, 0, 0, 42), eD, ([], 9, 4, 0, 0, 0, 0, 43), ([], 17, 0, 57, 0, 0, 0, 46), eD, eD, ([], 4, 0, 0, 0, 0, 0, 47), ([], 19, 12, 8, 105, 0, 0, 50)],
  [eD, eD, ([], 2, 3, 0, 0, 0, 0, 51), ([], 22, 1, 13824, 0, 0, 0, 52), ([], 2, 4, 1, 0, 0, 0, 54), eD, ([], 0, 0, 0, 0, 0, -1, 55), ([], 9, 5, 0, 0, 0, 0, 56), ([], 9, 3, 0, 0, 0, 0, 57), ([], 14, 2, 0, 0, 0, 0, 58), ([], 23, 1, 13824, 0, 0, 0, 59), ([], 31, 0, 0, 0, 0, 0, 60)]]
set_option maxRecDepth 100000 in
theorem ok174 : okM 174 cd174 = true := by decide +kernel
def cd175 : List (List EM) := [[([], 3, 0, 0, 0, 0, 0, 1), ([], 1, 1, 0, 0, 0, 1, 2), ([], 11, 3, 0, 0, 0, 0, 3), ([], 1, 1, 0, 0, 0, 1, 4), ([], 18, 1, 12, 0, 0, 0, 8), eD, eD, eD, ([], 3, 3, 0, 0, 0, 0, 9), ([], 17, 0, 13, 0, 0, 0, 12), eD, eD, ([], 1, 0, 0, 0, 0, 0, 13), ([], 3, 0, 0, 0, 0, 0, 14), ([], 1, 2, 0, 14, 0, 2, 17), eD],
  [eD, ([], 12, 0, 0, 0, 0, 0, 18), ([], 11, 0, 0, 0, 0, 0, 19), ([], 2, 2, 0, 0, 0, 0, 20), ([], 14, 0, 0, 0, 0, 0, 21), ([], 11, 0, 0, 0, 0, 0, 22), ([], 3, 5, 1, 0, 0, 0, 24), eD, ([], 11, 3, 0, 0, 0, 0, 25), ([], 30, 0, 0, 0, 0, 0, 26)]]
set_option maxRecDepth 100000 in
theorem ok175 : okM 175 cd175 = true := by decide +kernel
def cd176 : List (List EM) := [[([], 1, 0, 0, 0, 0, 0, 1), ([], 6, 4, 1, 0, 0, 0, 3), eD, ([], 0, 0, 0, 0, 0, 0, 4), ([], 5, 6, 1, 0, 0, 0, 6), eD, ([true, true, true, true, true, false, true], 2, 6, 1, 0, 0, 0, 8), eD, ([], 2, 2, 0, 0, 0, 0, 9), ([], 16, 3, 66, 0, 0, 0, 12), eD, eD, ([], 2, 3, 0, 0, 0, 0, 13), ([], 15, 0, 37, 0, 0, 0, 16), eD, eD],
  [([], 2, 6, 1, 0, 0, 0, 18), eD, ([], 0, 1, 0, 0, 0, 44, 20), eD, ([], 16, 0, 60, 0, 0, 0, 23), eD, eD, ([], 2, 6, 1, 0, 0, 0, 25), eD, ([], 0, 1, 0, 0, 0, 45, 27), eD, ([], 16, 0, 60, 0, 0, 0, 30), eD, eD, ([], 2, 6, 1, 0, 0, 0, 32), eD],
  [([], 0, 1, 0, 0, 0, 49, 34), eD, ([], 16, 0, 60, 0, 0, 0, 37), eD, eD, ([], 3, 4, 1, 0, 0, 0, 39), eD, ([], 4, 0, 0, 0, 0, 0, 40), ([], 2, 1, 0, 0, 0, 0, 41), ([], 2, 6, 1, 0, 0, 0, 43), eD, ([], 9, 0, 0, 0, 0, 0, 44), ([], 22, 1, 13824, 0, 0, 0, 45), ([], 0, 2, 0, 0, 0, 255, 48), eD, eD],
  [([], 9, 3, 0, 0, 0, 0, 49), ([], 1, 2, 0, 12, 0, 2147483648, 52), eD, eD, ([], 1, 2, 0, 13, 0, 4294967295, 55), eD, eD, ([], 28, 175, 4, 248, 0, 0, 58), eD, eD, ([], 6, 4, 1, 0, 0, 0, 60), eD, ([], 8, 6, 0, 0, 0, 1, 63), eD, eD, ([], 17, 0, 6, 0, 0, 0, 66)],
  [eD, eD, ([], 3, 4, 1, 0, 0, 0, 68), eD, ([], 30, 0, 0, 0, 0, 0, 69)]]
set_option maxRecDepth 100000 in
theorem ok176 : okM 176 cd176 = true := by decide +kernel
def cd177 : List (List EM) := [[([], 0, 0, 0, 0, 0, 0, 1), ([], 5, 1, 0, 0, 0, 0, 2), ([true, true], 2, 1, 0, 0, 0, 0, 3), ([], 0, 2, 0, 0, 0, 13824, 6), eD, eD, ([], 16, 3, 27, 0, 0, 0, 9), eD, eD, ([], 4, 0, 0, 0, 0, 0, 10), ([], 19, 12, 8, 105, 0, 0, 13), eD, eD, ([], 2, 1, 0, 0, 0, 0, 14), ([], 4, 0, 0, 0, 0, 0, 15), ([], 19, 12, 7, 104, 0, 0, 18)],
  [eD, eD, ([], 2, 1, 0, 0, 0, 0, 19), ([], 22, 1, 13824, 0, 0, 0, 20), ([], 23, 1, 13824, 0, 0, 0, 21), ([], 8, 1, 0, 0, 0, 1, 24), eD, eD, ([], 17, 0, 2, 0, 0, 0, 27), eD, eD, ([], 31, 0, 0, 0, 0, 0, 28)]]
set_option maxRecDepth 100000 in
theorem ok177 : okM 177 cd177 = true := by decide +kernel
def cd178 : List (List EM) := [[([], 0, 0, 0, 0, 0, 0, 1), ([], 5, 1, 0, 0, 0, 0, 2), ([true, true, false, false], 2, 1, 0, 0, 0, 0, 3), ([], 0, 2, 0, 0, 0, 216, 6), eD, eD, ([], 16, 3, 151, 0, 0, 0, 9), eD, eD, ([], 0, 0, 0, 0, 0, 0, 10), ([], 5, 2, 0, 0, 0, 0, 11), ([], 0, 1, 0, 0, 0, 64, 13), eD, ([], 2, 1, 0, 0, 0, 0, 14), ([], 9, 2, 0, 0, 0, 0, 15), ([], 5, 3, 0, 0, 0, 0, 16)],
  [([true, true, true, true], 2, 3, 0, 0, 0, 0, 17), ([], 0, 1, 0, 0, 0, 64, 19), eD, ([], 2, 1, 0, 0, 0, 0, 20), ([], 9, 2, 0, 0, 0, 0, 21), ([], 0, 1, 0, 0, 0, 64, 23), eD, ([], 9, 0, 0, 0, 0, 0, 24), ([], 16, 3, 56, 0, 0, 0, 27), eD, eD, ([], 2, 2, 0, 0, 0, 0, 28), ([], 4, 0, 0, 0, 0, 0, 29), ([], 19, 12, 7, 104, 0, 0, 32), eD, eD],
  [([], 2, 3, 0, 0, 0, 0, 33), ([], 22, 1, 13824, 0, 0, 0, 34), ([], 4, 0, 0, 0, 0, 0, 35), ([], 19, 12, 8, 105, 0, 0, 38), eD, eD, ([], 2, 3, 0, 0, 0, 0, 39), ([], 22, 1, 13824, 0, 0, 0, 40), ([], 16, 0, 47, 0, 0, 0, 43), eD, eD, ([], 0, 0, 0, 0, 0, 1, 44), ([], 17, 0, 48, 0, 0, 0, 47), eD, eD, ([], 0, 0, 0, 0, 0, 0, 48)],
  [([], 9, 4, 0, 0, 0, 0, 49), ([], 5, 2, 0, 0, 0, 0, 50), ([], 8, 3, 0, 0, 0, 1, 53), eD, eD, ([], 17, 0, 16, 0, 0, 0, 56), eD, eD, ([], 2, 2, 0, 0, 0, 0, 57), ([], 15, 0, 145, 0, 0, 0, 60), eD, eD, ([], 4, 0, 0, 0, 0, 0, 61), ([], 19, 12, 5, 102, 0, 0, 64), eD, eD],
  [([], 0, 0, 0, 0, 0, 1, 65), ([], 16, 1, 80, 0, 0, 0, 68), eD, eD, ([], 4, 0, 0, 0, 0, 0, 69), ([], 0, 0, 0, 0, 0, 0, 70), ([], 20, 12, 5, 102, 0, 0, 73), eD, eD, ([], 4, 0, 0, 0, 0, 0, 74), ([], 0, 0, 0, 0, 0, 0, 75), ([], 20, 12, 3, 100, 0, 0, 78), eD, eD, ([], 0, 0, 0, 0, 0, 0, 79), ([], 29, 0, 0, 0, 1, 0, 80)],
  [([], 4, 0, 0, 0, 0, 0, 81), ([], 24, 0, 0, 0, 0, 0, 82), ([], 19, 12, 5, 102, 0, 0, 85), eD, eD, ([], 4, 0, 0, 0, 0, 0, 86), ([], 19, 12, 5, 102, 0, 0, 89), eD, eD, ([], 15, 5, 96, 0, 0, 0, 92), eD, eD, ([], 0, 0, 0, 0, 0, 1, 93), ([], 17, 0, 97, 0, 0, 0, 96), eD, eD],
  [([], 0, 0, 0, 0, 0, 0, 97), ([], 9, 1, 0, 0, 0, 0, 98), ([], 20, 12, 5, 102, 0, 0, 101), eD, eD, ([], 4, 0, 0, 0, 0, 0, 102), ([], 24, 0, 0, 0, 0, 0, 103), ([], 19, 12, 6, 103, 0, 0, 106), eD, eD, ([], 0, 0, 0, 0, 0, 1, 107), ([], 9, 0, 0, 0, 0, 0, 108), ([], 20, 12, 6, 103, 0, 0, 111), eD, eD, ([], 0, 1, 0, 0, 0, 64, 113)],
  [eD, ([], 2, 1, 0, 0, 0, 0, 114), ([], 9, 2, 0, 0, 0, 0, 115), ([], 5, 3, 0, 0, 0, 0, 116), ([true, true, false, true], 2, 3, 0, 0, 0, 0, 117), ([], 0, 1, 0, 0, 0, 64, 119), eD, ([], 2, 1, 0, 0, 0, 0, 120), ([], 9, 2, 0, 0, 0, 0, 121), ([], 0, 1, 0, 0, 0, 64, 123), eD, ([], 9, 0, 0, 0, 0, 0, 124), ([], 16, 3, 145, 0, 0, 0, 127), eD, eD, ([], 4, 0, 0, 0, 0, 0, 128)],
  [([], 19, 12, 7, 104, 0, 0, 131), eD, eD, ([], 2, 3, 0, 0, 0, 0, 132), ([], 4, 0, 0, 0, 0, 0, 133), ([], 19, 12, 8, 105, 0, 0, 136), eD, eD, ([], 2, 3, 0, 0, 0, 0, 137), ([], 22, 1, 13824, 0, 0, 0, 138), ([], 23, 1, 13824, 0, 0, 0, 139), ([], 8, 3, 0, 0, 0, 1, 142), eD, eD, ([], 17, 0, 116, 0, 0, 0, 145), eD],
  [eD, ([], 8, 1, 0, 0, 0, 1, 148), eD, eD, ([], 17, 0, 2, 0, 0, 0, 151), eD, eD, ([], 0, 0, 0, 0, 0, 1, 152), ([], 29, 0, 0, 0, 1, 0, 153)]]
set_option maxRecDepth 100000 in
theorem ok178 : okM 178 cd178 = true := by decide +kernel
def cd179 : List (List EM) := [[([], 4, 0, 0, 0, 0, 0, 1), ([], 19, 12, 8, 105, 0, 0, 4), eD, eD, ([], 0, 1, 0, 0, 0, 44, 6), eD, ([], 4, 0, 0, 0, 0, 0, 7), ([], 19, 12, 8, 105, 0, 0, 10), eD, eD, ([], 0, 1, 0, 0, 0, 44, 12), eD, ([], 22, 1, 13824, 0, 0, 0, 13), ([], 0, 0, 0, 0, 0, 2, 14), ([], 9, 4, 0, 0, 0, 0, 15), ([], 14, 2, 0, 0, 0, 0, 16)],
  [([], 23, 1, 13824, 0, 0, 0, 17), ([], 4, 0, 0, 0, 0, 0, 18), ([], 27, 178, 0, 293, 12, 0, 21), eD, eD, ([], 29, 0, 0, 0, 1, 0, 22)]]
set_option maxRecDepth 100000 in
theorem ok179 : okM 179 cd179 = true := by decide +kernel
def cd180 : List (List EM) := [[([], 4, 0, 0, 0, 0, 0, 1), ([], 19, 12, 3, 100, 0, 0, 4), eD, eD, ([], 15, 0, 10, 0, 0, 0, 7), eD, eD, ([], 0, 1, 0, 0, 0, -2, 9), eD, ([], 29, 0, 0, 0, 0, 0, 10), ([], 2, 1, 0, 0, 0, 0, 11), ([], 14, 0, 0, 0, 0, 0, 12), ([], 1, 2, 0, 6, 0, 16, 15), eD, eD, ([], 1, 2, 0, 7, 0, 100, 18)],
  [eD, eD, ([], 28, 166, 3, 243, 0, 0, 21), eD, eD, ([], 15, 1, 26, 0, 0, 0, 24), eD, eD, ([], 0, 0, 0, 0, 0, -1, 25), ([], 29, 0, 0, 0, 0, 0, 26), ([], 0, 0, 0, 0, 0, 0, 27), ([], 5, 3, 0, 0, 0, 0, 28), ([true, true, true, true, false], 2, 3, 0, 0, 0, 0, 29), ([], 0, 2, 0, 0, 0, 13824, 32), eD, eD],
  [([], 16, 3, 48, 0, 0, 0, 35), eD, eD, ([], 4, 0, 0, 0, 0, 0, 36), ([], 19, 12, 7, 104, 0, 0, 39), eD, eD, ([], 2, 3, 0, 0, 0, 0, 40), ([], 0, 0, 0, 0, 0, 0, 41), ([], 23, 1, 13824, 0, 0, 0, 42), ([], 8, 3, 0, 0, 0, 1, 45), eD, eD, ([], 17, 0, 28, 0, 0, 0, 48), eD, eD],
  [([], 4, 0, 0, 0, 0, 0, 49), ([], 2, 1, 0, 0, 0, 0, 50), ([], 2, 2, 0, 0, 0, 0, 51), ([], 27, 183, 2, 244, 12, 0, 54), eD, eD, ([], 4, 0, 0, 0, 0, 0, 55), ([], 19, 12, 7, 104, 0, 0, 58), eD, eD, ([], 0, 2, 0, 0, 0, 512, 61), eD, eD, ([], 0, 0, 0, 0, 0, 4, 62), ([], 1, 2, 0, 15, 0, 4294967288, 65), eD],
  [eD, ([], 28, 168, 4, 246, 0, 0, 68), eD, eD, ([], 4, 0, 0, 0, 0, 0, 69), ([], 19, 12, 7, 104, 0, 0, 72), eD, eD, ([], 0, 2, 0, 0, 0, 516, 75), eD, eD, ([], 0, 0, 0, 0, 0, 4, 76), ([], 1, 2, 0, 13, 0, 4294967295, 79), eD, eD, ([], 28, 168, 4, 246, 0, 0, 82)],
  [eD, eD, ([], 0, 0, 0, 0, 0, 2, 83), ([], 5, 3, 0, 0, 0, 0, 84), ([true, true, false, true, false], 2, 3, 0, 0, 0, 0, 85), ([], 0, 0, 0, 0, 0, 5, 86), ([], 16, 3, 113, 0, 0, 0, 89), eD, eD, ([], 4, 0, 0, 0, 0, 0, 90), ([], 19, 12, 7, 104, 0, 0, 93), eD, eD, ([], 0, 2, 0, 0, 0, 512, 96), eD, eD],
  [([], 0, 0, 0, 0, 0, 4, 97), ([], 2, 3, 0, 0, 0, 0, 98), ([], 9, 2, 0, 0, 0, 0, 99), ([], 9, 0, 0, 0, 0, 0, 100), ([], 0, 0, 0, 0, 0, 4, 101), ([], 1, 2, 0, 13, 0, 4294967295, 104), eD, eD, ([], 28, 168, 4, 246, 0, 0, 107), eD, eD, ([], 8, 3, 0, 0, 0, 1, 110), eD, eD, ([], 17, 0, 84, 0, 0, 0, 113), eD],
  [eD, ([], 4, 0, 0, 0, 0, 0, 114), ([], 19, 12, 7, 104, 0, 0, 117), eD, eD, ([], 0, 0, 0, 0, 0, 2, 118), ([], 28, 169, 1, 249, 0, 0, 121), eD, eD, ([], 0, 1, 0, 0, 0, 7, 123), eD, ([], 23, 1, 13824, 0, 0, 0, 124), ([], 0, 0, 0, 0, 0, 3, 125), ([], 28, 169, 1, 249, 0, 0, 128), eD, eD],
  [([], 5, 3, 0, 0, 0, 0, 129), ([], 4, 0, 0, 0, 0, 0, 130), ([], 2, 3, 0, 0, 0, 0, 131), ([], 0, 1, 0, 0, 0, 97, 133), eD, ([], 27, 181, 2, 250, 12, 0, 136), eD, eD, ([], 5, 3, 0, 0, 0, 0, 137), ([], 4, 0, 0, 0, 0, 0, 138), ([], 2, 3, 0, 0, 0, 0, 139), ([], 0, 1, 0, 0, 0, 97, 141), eD, ([], 0, 1, 0, 0, 0, 122, 143), eD, ([], 27, 182, 3, 251, 12, 0, 146)],
  [eD, eD, ([], 5, 3, 0, 0, 0, 0, 147), ([], 4, 0, 0, 0, 0, 0, 148), ([], 2, 3, 0, 0, 0, 0, 149), ([], 0, 1, 0, 0, 0, 101, 151), eD, ([], 27, 181, 2, 250, 12, 0, 154), eD, eD, ([], 5, 3, 0, 0, 0, 0, 155), ([], 4, 0, 0, 0, 0, 0, 156), ([], 2, 3, 0, 0, 0, 0, 157), ([], 0, 2, 0, 0, 0, 224, 160), eD, eD],
  [([], 0, 2, 0, 0, 0, 246, 163), eD, eD, ([], 27, 182, 3, 251, 12, 0, 166), eD, eD, ([], 5, 3, 0, 0, 0, 0, 167), ([], 4, 0, 0, 0, 0, 0, 168), ([], 2, 3, 0, 0, 0, 0, 169), ([], 0, 0, 0, 0, 0, 1, 170), ([], 27, 181, 2, 250, 12, 0, 173), eD, eD, ([], 5, 3, 0, 0, 0, 0, 174), ([], 4, 0, 0, 0, 0, 0, 175), ([], 2, 3, 0, 0, 0, 0, 176)],
  [([], 0, 2, 0, 0, 0, 248, 179), eD, eD, ([], 0, 2, 0, 0, 0, 254, 182), eD, eD, ([], 27, 182, 3, 251, 12, 0, 185), eD, eD, ([], 5, 3, 0, 0, 0, 0, 186), ([], 4, 0, 0, 0, 0, 0, 187), ([], 2, 3, 0, 0, 0, 0, 188), ([], 0, 0, 0, 0, 0, 1, 189), ([], 27, 181, 2, 250, 12, 0, 192), eD, eD],
  [([], 5, 3, 0, 0, 0, 0, 193), ([], 0, 0, 0, 0, 0, 4, 194), ([], 28, 169, 1, 249, 0, 0, 197), eD, eD, ([], 5, 4, 1, 0, 0, 0, 199), eD, ([], 4, 0, 0, 0, 0, 0, 200), ([], 19, 12, 7, 104, 0, 0, 203), eD, eD, ([], 2, 4, 1, 0, 0, 0, 205), eD, ([], 0, 1, 0, 0, 0, -127, 207), eD, ([], 23, 1, 13824, 0, 0, 0, 208)],
  [([], 4, 0, 0, 0, 0, 0, 209), ([], 19, 12, 7, 104, 0, 0, 212), eD, eD, ([], 2, 4, 1, 0, 0, 0, 214), eD, ([], 0, 1, 0, 0, 0, 20, 216), eD, ([], 9, 0, 0, 0, 0, 0, 217), ([], 0, 0, 0, 0, 0, 4, 218), ([], 1, 2, 0, 14, 0, 2, 221), eD, eD, ([], 28, 168, 4, 246, 0, 0, 224), eD, eD],
  [([], 4, 0, 0, 0, 0, 0, 225), ([], 19, 12, 7, 104, 0, 0, 228), eD, eD, ([], 2, 4, 1, 0, 0, 0, 230), eD, ([], 0, 1, 0, 0, 0, 24, 232), eD, ([], 9, 0, 0, 0, 0, 0, 233), ([], 0, 1, 0, 0, 0, 8, 235), eD, ([], 2, 1, 0, 0, 0, 0, 236), ([], 0, 1, 0, 0, 0, 7, 238), eD, ([], 9, 0, 0, 0, 0, 0, 239), ([], 0, 1, 0, 0, 0, 8, 241)],
  [eD, ([], 10, 0, 0, 0, 0, 0, 242), ([], 14, 0, 0, 0, 0, 0, 243), ([], 28, 168, 4, 246, 0, 0, 246), eD, eD, ([], 4, 0, 0, 0, 0, 0, 247), ([], 19, 12, 7, 104, 0, 0, 250), eD, eD, ([], 2, 4, 1, 0, 0, 0, 252), eD, ([], 0, 1, 0, 0, 0, 32, 254), eD, ([], 9, 0, 0, 0, 0, 0, 255), ([], 0, 1, 0, 0, 0, -126, 257)],
  [eD, ([], 23, 1, 13824, 0, 0, 0, 258), ([], 4, 0, 0, 0, 0, 0, 259), ([], 19, 12, 7, 104, 0, 0, 262), eD, eD, ([], 2, 4, 1, 0, 0, 0, 264), eD, ([], 0, 1, 0, 0, 0, 36, 266), eD, ([], 9, 0, 0, 0, 0, 0, 267), ([], 0, 0, 0, 0, 0, 4, 268), ([], 4, 0, 0, 0, 0, 0, 269), ([], 19, 12, 7, 104, 0, 0, 272), eD, eD],
  [([], 0, 0, 0, 0, 0, 3, 273), ([], 28, 169, 1, 249, 0, 0, 276), eD, eD, ([], 0, 2, 0, 0, 0, 128, 279), eD, eD, ([], 0, 0, 0, 0, 0, 0, 280), ([], 28, 176, 4, 247, 0, 0, 283), eD, eD, ([], 28, 168, 4, 246, 0, 0, 286), eD, eD, ([], 4, 0, 0, 0, 0, 0, 287), ([], 19, 12, 7, 104, 0, 0, 290)],
  [eD, eD, ([], 2, 4, 1, 0, 0, 0, 292), eD, ([], 0, 1, 0, 0, 0, 52, 294), eD, ([], 9, 0, 0, 0, 0, 0, 295), ([], 0, 0, 0, 0, 0, 4, 296), ([], 1, 2, 0, 17, 0, 3, 299), eD, eD, ([], 28, 168, 4, 246, 0, 0, 302), eD, eD, ([], 4, 0, 0, 0, 0, 0, 303), ([], 19, 12, 7, 104, 0, 0, 306)],
  [eD, eD, ([], 2, 4, 1, 0, 0, 0, 308), eD, ([], 0, 1, 0, 0, 0, 56, 310), eD, ([], 9, 0, 0, 0, 0, 0, 311), ([], 0, 1, 0, 0, 0, 8, 313), eD, ([], 1, 2, 0, 18, 0, 128, 316), eD, eD, ([], 28, 168, 4, 246, 0, 0, 319), eD, eD, ([], 0, 1, 0, 0, 0, 16, 321)],
  [eD, ([], 0, 0, 0, 0, 0, 2, 322), ([], 2, 1, 0, 0, 0, 0, 323), ([], 9, 2, 0, 0, 0, 0, 324), ([], 9, 0, 0, 0, 0, 0, 325), ([], 29, 0, 0, 0, 0, 0, 326)]]
set_option maxRecDepth 100000 in
theorem ok180 : okM 180 cd180 = true := by decide +kernel
def cd181 : List (List EM) := [[([], 4, 0, 0, 0, 0, 0, 1), ([], 19, 12, 7, 104, 0, 0, 4), eD, eD, ([], 2, 1, 0, 0, 0, 0, 5), ([], 0, 0, 0, 0, 0, 2, 6), ([], 1, 2, 0, 16, 0, 65535, 9), eD, eD, ([], 28, 168, 4, 246, 0, 0, 12), eD, eD, ([], 4, 0, 0, 0, 0, 0, 13), ([], 19, 12, 7, 104, 0, 0, 16), eD, eD],
  [([], 2, 1, 0, 0, 0, 0, 17), ([], 0, 0, 0, 0, 0, 2, 18), ([], 9, 0, 0, 0, 0, 0, 19), ([], 0, 0, 0, 0, 0, 2, 20), ([], 2, 2, 0, 0, 0, 0, 21), ([], 14, 0, 0, 0, 0, 0, 22), ([], 28, 168, 4, 246, 0, 0, 25), eD, eD, ([], 2, 1, 0, 0, 0, 0, 26), ([], 0, 0, 0, 0, 0, 4, 27), ([], 9, 0, 0, 0, 0, 0, 28), ([], 29, 0, 0, 0, 0, 0, 29)]]
set_option maxRecDepth 100000 in
theorem ok181 : okM 181 cd181 = true := by decide +kernel
def cd182 : List (List EM) := [[([], 2, 1, 0, 0, 0, 0, 1), ([], 5, 4, 1, 0, 0, 0, 3), eD, ([], 2, 2, 0, 0, 0, 0, 4), ([], 5, 5, 1, 0, 0, 0, 6), eD, ([true, false, false, true, true, true], 2, 5, 1, 0, 0, 0, 8), eD, ([], 2, 3, 0, 0, 0, 0, 9), ([], 16, 4, 37, 0, 0, 0, 12), eD, eD, ([], 4, 0, 0, 0, 0, 0, 13), ([], 19, 12, 7, 104, 0, 0, 16), eD, eD],
  [([], 2, 4, 1, 0, 0, 0, 18), eD, ([], 0, 0, 0, 0, 0, 2, 19), ([], 2, 5, 1, 0, 0, 0, 21), eD, ([], 0, 1, 0, 0, 0, 32, 23), eD, ([], 9, 1, 0, 0, 0, 0, 24), ([], 14, 0, 0, 0, 0, 0, 25), ([], 28, 168, 4, 246, 0, 0, 28), eD, eD, ([], 8, 4, 0, 0, 0, 2, 31), eD, eD, ([], 8, 5, 0, 0, 0, 1, 34)],
  [eD, eD, ([], 17, 0, 6, 0, 0, 0, 37), eD, eD, ([], 2, 4, 1, 0, 0, 0, 39), eD, ([], 29, 0, 0, 0, 0, 0, 40)]]
set_option maxRecDepth 100000 in
theorem ok182 : okM 182 cd182 = true := by decide +kernel
def cd183 : List (List EM) := [[([], 4, 0, 0, 0, 0, 0, 1), ([], 19, 12, 7, 104, 0, 0, 4), eD, eD, ([], 0, 0, 0, 0, 0, 0, 5), ([], 0, 1, 0, 0, 0, -21, 7), eD, ([], 23, 1, 13824, 0, 0, 0, 8), ([], 4, 0, 0, 0, 0, 0, 9), ([], 19, 12, 7, 104, 0, 0, 12), eD, eD, ([], 0, 0, 0, 0, 0, 1, 13), ([], 0, 1, 0, 0, 0, 118, 15), eD, ([], 23, 1, 13824, 0, 0, 0, 16)],
  [([], 4, 0, 0, 0, 0, 0, 17), ([], 19, 12, 7, 104, 0, 0, 20), eD, eD, ([], 0, 0, 0, 0, 0, 2, 21), ([], 0, 1, 0, 0, 0, -112, 23), eD, ([], 23, 1, 13824, 0, 0, 0, 24), ([], 4, 0, 0, 0, 0, 0, 25), ([], 19, 12, 7, 104, 0, 0, 28), eD, eD, ([], 0, 0, 0, 0, 0, 3, 29), ([], 0, 1, 0, 0, 0, 8, 31), eD, ([], 28, 184, 0, 245, 0, 0, 34)],
  [eD, eD, ([], 28, 168, 4, 246, 0, 0, 37), eD, eD, ([], 4, 0, 0, 0, 0, 0, 38), ([], 19, 12, 7, 104, 0, 0, 41), eD, eD, ([], 0, 1, 0, 0, 0, 16, 43), eD, ([], 0, 0, 0, 0, 0, 4, 44), ([], 0, 1, 0, 0, 0, 16, 46), eD, ([], 0, 0, 0, 0, 0, 2, 47), ([], 2, 1, 0, 0, 0, 0, 48)],
  [([], 9, 2, 0, 0, 0, 0, 49), ([], 9, 0, 0, 0, 0, 0, 50), ([], 14, 0, 0, 0, 0, 0, 51), ([], 28, 168, 4, 246, 0, 0, 54), eD, eD, ([], 4, 0, 0, 0, 0, 0, 55), ([], 19, 12, 7, 104, 0, 0, 58), eD, eD, ([], 0, 1, 0, 0, 0, 20, 60), eD, ([], 0, 0, 0, 0, 0, 4, 61), ([], 1, 2, 0, 9, 0, 8, 64), eD, eD],
  [([], 28, 168, 4, 246, 0, 0, 67), eD, eD, ([], 4, 0, 0, 0, 0, 0, 68), ([], 19, 12, 7, 104, 0, 0, 71), eD, eD, ([], 0, 1, 0, 0, 0, 24, 73), eD, ([], 0, 0, 0, 0, 0, 4, 74), ([], 1, 2, 0, 10, 0, 7, 77), eD, eD, ([], 28, 168, 4, 246, 0, 0, 80), eD, eD],
  [([], 4, 0, 0, 0, 0, 0, 81), ([], 19, 12, 7, 104, 0, 0, 84), eD, eD, ([], 0, 1, 0, 0, 0, 28, 86), eD, ([], 0, 0, 0, 0, 0, 4, 87), ([], 1, 2, 0, 6, 0, 16, 90), eD, eD, ([], 28, 168, 4, 246, 0, 0, 93), eD, eD, ([], 4, 0, 0, 0, 0, 0, 94), ([], 19, 12, 7, 104, 0, 0, 97), eD],
  [eD, ([], 0, 1, 0, 0, 0, 32, 99), eD, ([], 0, 0, 0, 0, 0, 4, 100), ([], 2, 1, 0, 0, 0, 0, 101), ([], 14, 0, 0, 0, 0, 0, 102), ([], 28, 168, 4, 246, 0, 0, 105), eD, eD, ([], 4, 0, 0, 0, 0, 0, 106), ([], 19, 12, 7, 104, 0, 0, 109), eD, eD, ([], 0, 1, 0, 0, 0, 36, 111), eD, ([], 0, 0, 0, 0, 0, 4, 112)],
  [([], 1, 2, 0, 11, 0, 4, 115), eD, eD, ([], 28, 168, 4, 246, 0, 0, 118), eD, eD, ([], 4, 0, 0, 0, 0, 0, 119), ([], 19, 12, 7, 104, 0, 0, 122), eD, eD, ([], 0, 1, 0, 0, 0, 40, 124), eD, ([], 0, 0, 0, 0, 0, 4, 125), ([], 2, 2, 0, 0, 0, 0, 126), ([], 14, 0, 0, 0, 0, 0, 127), ([], 28, 168, 4, 246, 0, 0, 130)],
  [eD, eD, ([], 4, 0, 0, 0, 0, 0, 131), ([], 19, 12, 7, 104, 0, 0, 134), eD, eD, ([], 0, 1, 0, 0, 0, 46, 136), eD, ([], 0, 1, 0, 0, 0, 6, 138), eD, ([], 23, 1, 13824, 0, 0, 0, 139), ([], 4, 0, 0, 0, 0, 0, 140), ([], 19, 12, 7, 104, 0, 0, 143), eD, eD, ([], 0, 1, 0, 0, 0, 47, 145)],
  [eD, ([], 0, 0, 0, 0, 0, 1, 146), ([], 23, 1, 13824, 0, 0, 0, 147), ([], 4, 0, 0, 0, 0, 0, 148), ([], 19, 12, 7, 104, 0, 0, 151), eD, eD, ([], 0, 1, 0, 0, 0, 48, 153), eD, ([], 0, 0, 0, 0, 0, 1, 154), ([], 23, 1, 13824, 0, 0, 0, 155), ([], 4, 0, 0, 0, 0, 0, 156), ([], 19, 12, 7, 104, 0, 0, 159), eD, eD, ([], 0, 1, 0, 0, 0, 49, 161)],
  [eD, ([], 0, 0, 0, 0, 0, -1, 162), ([], 23, 1, 13824, 0, 0, 0, 163), ([], 0, 0, 0, 0, 0, 0, 164), ([], 5, 3, 0, 0, 0, 0, 165), ([true, false, false, true, false, false], 2, 3, 0, 0, 0, 0, 166), ([], 0, 0, 0, 0, 0, 3, 167), ([], 16, 3, 204, 0, 0, 0, 170), eD, eD, ([], 4, 0, 0, 0, 0, 0, 171), ([], 19, 12, 7, 104, 0, 0, 174), eD, eD, ([], 0, 1, 0, 0, 0, 64, 176), eD],
  [([], 2, 3, 0, 0, 0, 0, 177), ([], 9, 2, 0, 0, 0, 0, 178), ([], 0, 1, 0, 0, 0, 62, 180), eD, ([], 9, 0, 0, 0, 0, 0, 181), ([], 0, 1, 0, 0, 0, 85, 183), eD, ([], 23, 1, 13824, 0, 0, 0, 184), ([], 4, 0, 0, 0, 0, 0, 185), ([], 19, 12, 7, 104, 0, 0, 188), eD, eD, ([], 0, 1, 0, 0, 0, 64, 190), eD, ([], 2, 3, 0, 0, 0, 0, 191), ([], 9, 2, 0, 0, 0, 0, 192)],
  [([], 0, 1, 0, 0, 0, 63, 194), eD, ([], 9, 0, 0, 0, 0, 0, 195), ([], 0, 1, 0, 0, 0, -86, 197), eD, ([], 23, 1, 13824, 0, 0, 0, 198), ([], 8, 3, 0, 0, 0, 1, 201), eD, eD, ([], 17, 0, 165, 0, 0, 0, 204), eD, eD, ([], 4, 0, 0, 0, 0, 0, 205), ([], 19, 12, 7, 104, 0, 0, 208), eD, eD],
  [([], 0, 0, 0, 0, 0, 0, 209), ([], 0, 2, 0, 0, 0, 192, 212), eD, eD, ([], 0, 0, 0, 0, 0, 1, 213), ([], 28, 176, 4, 247, 0, 0, 216), eD, eD, ([], 6, 3, 0, 0, 0, 0, 217), ([], 0, 0, 0, 0, 0, 0, 218), ([], 5, 5, 1, 0, 0, 0, 220), eD, ([true, false, false, true, false, true], 2, 5, 1, 0, 0, 0, 222), eD, ([], 0, 1, 0, 0, 0, 16, 224), eD],
  [([], 16, 3, 250, 0, 0, 0, 227), eD, eD, ([], 4, 0, 0, 0, 0, 0, 228), ([], 19, 12, 7, 104, 0, 0, 231), eD, eD, ([], 0, 2, 0, 0, 0, 192, 234), eD, eD, ([], 0, 0, 0, 0, 0, 4, 235), ([], 2, 5, 1, 0, 0, 0, 237), eD, ([], 9, 2, 0, 0, 0, 0, 238), ([], 9, 0, 0, 0, 0, 0, 239), ([], 0, 0, 0, 0, 0, 4, 240)],
  [([], 3, 3, 0, 0, 0, 0, 241), ([], 28, 168, 4, 246, 0, 0, 244), eD, eD, ([], 8, 5, 0, 0, 0, 1, 247), eD, eD, ([], 17, 0, 220, 0, 0, 0, 250), eD, eD, ([], 0, 0, 0, 0, 0, 0, 251), ([], 5, 5, 1, 0, 0, 0, 253), eD, ([true, false, false, false, false, true], 2, 5, 1, 0, 0, 0, 255), eD, ([], 0, 2, 0, 0, 0, 256, 258)],
  [eD, eD, ([], 16, 3, 285, 0, 0, 0, 261), eD, eD, ([], 4, 0, 0, 0, 0, 0, 262), ([], 19, 12, 7, 104, 0, 0, 265), eD, eD, ([], 0, 2, 0, 0, 0, 256, 268), eD, eD, ([], 2, 5, 1, 0, 0, 0, 270), eD, ([], 9, 0, 0, 0, 0, 0, 271), ([], 4, 0, 0, 0, 0, 0, 272)],
  [([], 19, 12, 7, 104, 0, 0, 275), eD, eD, ([], 2, 5, 1, 0, 0, 0, 277), eD, ([], 22, 1, 13824, 0, 0, 0, 278), ([], 23, 1, 13824, 0, 0, 0, 279), ([], 8, 5, 0, 0, 0, 1, 282), eD, eD, ([], 17, 0, 253, 0, 0, 0, 285), eD, eD, ([], 31, 0, 0, 0, 0, 0, 286)]]
set_option maxRecDepth 100000 in
theorem ok183 : okM 183 cd183 = true := by decide +kernel
def cd184 : List (List EM) := [[([], 1, 2, 0, 8, 0, 2314885754712905797, 3), eD, eD, ([], 30, 0, 0, 0, 0, 0, 4)]]
set_option maxRecDepth 100000 in
theorem ok184 : okM 184 cd184 = true := by decide +kernel
def cd185 : List (List EM) := [[([], 2, 1, 0, 0, 0, 0, 1), ([], 14, 0, 0, 0, 0, 0, 2), ([], 1, 0, 0, 0, 0, 0, 3), ([], 1, 2, 0, 19, 0, 215, 6), eD, eD, ([], 28, 166, 3, 243, 0, 0, 9), eD, eD, ([], 15, 0, 42, 0, 0, 0, 12), eD, eD, ([], 2, 2, 0, 0, 0, 0, 13), ([], 14, 0, 0, 0, 0, 0, 14), ([], 1, 0, 0, 0, 0, 0, 15), ([], 1, 2, 0, 20, 0, 63, 18)],
  [eD, eD, ([], 28, 166, 3, 243, 0, 0, 21), eD, eD, ([], 15, 0, 42, 0, 0, 0, 24), eD, eD, ([], 4, 0, 0, 0, 0, 0, 25), ([], 19, 12, 7, 104, 0, 0, 28), eD, eD, ([], 0, 1, 0, 0, 0, 64, 30), eD, ([], 2, 1, 0, 0, 0, 0, 31), ([], 9, 2, 0, 0, 0, 0, 32)],
  [([], 2, 2, 0, 0, 0, 0, 33), ([], 9, 0, 0, 0, 0, 0, 34), ([], 22, 1, 13824, 0, 0, 0, 35), ([], 0, 2, 0, 0, 0, 255, 38), eD, eD, ([], 9, 3, 0, 0, 0, 0, 39), ([], 17, 0, 43, 0, 0, 0, 42), eD, eD, ([], 0, 0, 0, 0, 0, -1, 43), ([], 29, 0, 0, 0, 0, 0, 44)]]
set_option maxRecDepth 100000 in
theorem ok185 : okM 185 cd185 = true := by decide +kernel
def cd186 : List (List EM) := [[([], 4, 0, 0, 0, 0, 0, 1), ([], 19, 12, 3, 100, 0, 0, 4), eD, eD, ([], 15, 0, 10, 0, 0, 0, 7), eD, eD, ([], 0, 1, 0, 0, 0, -2, 9), eD, ([], 29, 0, 0, 0, 0, 0, 10), ([], 2, 1, 0, 0, 0, 0, 11), ([], 14, 0, 0, 0, 0, 0, 12), ([], 1, 0, 0, 0, 0, 0, 13), ([], 1, 2, 0, 19, 0, 215, 16), eD, eD],
  [([], 28, 166, 3, 243, 0, 0, 19), eD, eD, ([], 15, 0, 46, 0, 0, 0, 22), eD, eD, ([], 2, 2, 0, 0, 0, 0, 23), ([], 14, 0, 0, 0, 0, 0, 24), ([], 1, 0, 0, 0, 0, 0, 25), ([], 1, 2, 0, 20, 0, 63, 28), eD, eD, ([], 28, 166, 3, 243, 0, 0, 31), eD, eD, ([], 15, 0, 46, 0, 0, 0, 34)],
  [eD, eD, ([], 2, 3, 0, 0, 0, 0, 35), ([], 14, 0, 0, 0, 0, 0, 36), ([], 1, 0, 0, 0, 0, 0, 37), ([], 1, 2, 0, 21, 0, 255, 40), eD, eD, ([], 28, 166, 3, 243, 0, 0, 43), eD, eD, ([], 15, 1, 48, 0, 0, 0, 46), eD, eD, ([], 0, 0, 0, 0, 0, -1, 47), ([], 29, 0, 0, 0, 0, 0, 48)],
  [([], 4, 0, 0, 0, 0, 0, 49), ([], 19, 12, 7, 104, 0, 0, 52), eD, eD, ([], 0, 1, 0, 0, 0, 64, 54), eD, ([], 2, 1, 0, 0, 0, 0, 55), ([], 9, 2, 0, 0, 0, 0, 56), ([], 2, 2, 0, 0, 0, 0, 57), ([], 9, 0, 0, 0, 0, 0, 58), ([], 22, 1, 13824, 0, 0, 0, 59), ([], 0, 2, 0, 0, 0, 255, 62), eD, eD, ([], 9, 3, 0, 0, 0, 0, 63), ([], 5, 4, 1, 0, 0, 0, 65)],
  [eD, ([], 4, 0, 0, 0, 0, 0, 66), ([], 19, 12, 7, 104, 0, 0, 69), eD, eD, ([], 0, 1, 0, 0, 0, 64, 71), eD, ([], 2, 1, 0, 0, 0, 0, 72), ([], 9, 2, 0, 0, 0, 0, 73), ([], 2, 2, 0, 0, 0, 0, 74), ([], 9, 0, 0, 0, 0, 0, 75), ([], 2, 3, 0, 0, 0, 0, 76), ([], 14, 2, 0, 0, 0, 0, 77), ([], 23, 1, 13824, 0, 0, 0, 78), ([], 2, 4, 1, 0, 0, 0, 80), eD],
  [([], 29, 0, 0, 0, 0, 0, 81)]]
set_option maxRecDepth 100000 in
theorem ok186 : okM 186 cd186 = true := by decide +kernel
def cd187 : List (List EM) := [[([], 2, 1, 0, 0, 0, 0, 1), ([], 14, 0, 0, 0, 0, 0, 2), ([], 1, 0, 0, 0, 0, 0, 3), ([], 1, 2, 0, 22, 0, 1000, 6), eD, eD, ([], 28, 166, 3, 243, 0, 0, 9), eD, eD, ([], 15, 1, 14, 0, 0, 0, 12), eD, eD, ([], 0, 0, 0, 0, 0, -1, 13), ([], 29, 0, 0, 0, 0, 0, 14), ([], 4, 0, 0, 0, 0, 0, 15), ([], 2, 1, 0, 0, 0, 0, 16)],
  [([], 20, 12, 5, 102, 0, 0, 19), eD, eD, ([], 0, 0, 0, 0, 0, 1, 20), ([], 29, 0, 0, 0, 0, 0, 21)]]
set_option maxRecDepth 100000 in
theorem ok187 : okM 187 cd187 = true := by decide +kernel
def cd188 : List (List EM) := [[([], 4, 0, 0, 0, 0, 0, 1), ([], 2, 1, 0, 0, 0, 0, 2), ([], 20, 12, 9, 106, 0, 0, 5), eD, eD, ([], 4, 0, 0, 0, 0, 0, 6), ([], 2, 2, 0, 0, 0, 0, 7), ([], 20, 12, 10, 107, 0, 0, 10), eD, eD, ([], 4, 0, 0, 0, 0, 0, 11), ([], 2, 3, 0, 0, 0, 0, 12), ([], 20, 12, 11, 108, 0, 0, 15), eD, eD, ([], 0, 0, 0, 0, 0, 0, 16)],
  [([], 29, 0, 0, 0, 1, 0, 17)]]
set_option maxRecDepth 100000 in
theorem ok188 : okM 188 cd188 = true := by decide +kernel
def cd189 : List (List EM) := [[([], 2, 1, 0, 0, 0, 0, 1), ([], 15, 1, 11, 0, 0, 0, 4), eD, eD, ([], 4, 0, 0, 0, 0, 0, 5), ([], 19, 12, 9, 106, 0, 0, 8), eD, eD, ([], 17, 0, 36, 0, 0, 0, 11), eD, eD, ([], 2, 1, 0, 0, 0, 0, 12), ([], 0, 0, 0, 0, 0, 1, 13), ([], 16, 1, 23, 0, 0, 0, 16), eD, eD],
  [([], 4, 0, 0, 0, 0, 0, 17), ([], 19, 12, 10, 107, 0, 0, 20), eD, eD, ([], 17, 0, 36, 0, 0, 0, 23), eD, eD, ([], 2, 1, 0, 0, 0, 0, 24), ([], 0, 0, 0, 0, 0, 2, 25), ([], 16, 1, 35, 0, 0, 0, 28), eD, eD, ([], 4, 0, 0, 0, 0, 0, 29), ([], 19, 12, 11, 108, 0, 0, 32), eD, eD],
  [([], 17, 0, 36, 0, 0, 0, 35), eD, eD, ([], 0, 0, 0, 0, 0, -1, 36), ([], 29, 0, 0, 0, 0, 0, 37)]]
set_option maxRecDepth 100000 in
theorem ok189 : okM 189 cd189 = true := by decide +kernel
def cd190 : List (List EM) := [[([], 0, 0, 0, 0, 0, 1, 1), ([], 5, 3, 0, 0, 0, 0, 2), ([], 2, 1, 0, 0, 0, 0, 3), ([], 5, 4, 1, 0, 0, 0, 5), eD, ([true, false, true, true, true], 2, 4, 1, 0, 0, 0, 7), eD, ([], 2, 2, 0, 0, 0, 0, 8), ([], 16, 3, 35, 0, 0, 0, 11), eD, eD, ([], 2, 3, 0, 0, 0, 0, 12), ([], 4, 0, 0, 0, 0, 0, 13), ([], 19, 12, 7, 104, 0, 0, 16), eD, eD],
  [([], 2, 4, 1, 0, 0, 0, 18), eD, ([], 22, 1, 13824, 0, 0, 0, 19), ([], 15, 1, 26, 0, 0, 0, 22), eD, eD, ([], 0, 0, 0, 0, 0, 1, 23), ([], 17, 0, 27, 0, 0, 0, 26), eD, eD, ([], 0, 0, 0, 0, 0, 0, 27), ([], 9, 3, 0, 0, 0, 0, 28), ([], 5, 3, 0, 0, 0, 0, 29), ([], 8, 4, 0, 0, 0, 1, 32), eD, eD],
  [([], 17, 0, 5, 0, 0, 0, 35), eD, eD, ([], 2, 3, 0, 0, 0, 0, 36), ([], 29, 0, 0, 0, 1, 0, 37)]]
set_option maxRecDepth 100000 in
theorem ok190 : okM 190 cd190 = true := by decide +kernel
def cd191 : List (List EM) := [[([], 4, 0, 0, 0, 0, 0, 1), ([], 19, 12, 7, 104, 0, 0, 4), eD, eD, ([], 2, 1, 0, 0, 0, 0, 5), ([], 0, 1, 0, 0, 0, 32, 7), eD, ([], 9, 0, 0, 0, 0, 0, 8), ([], 0, 0, 0, 0, 0, 4, 9), ([], 28, 167, 3, 254, 0, 0, 12), eD, eD, ([], 6, 2, 0, 0, 0, 0, 13), ([], 3, 2, 0, 0, 0, 0, 14), ([], 1, 2, 0, 6, 0, 16, 17), eD],
  [eD, ([], 1, 2, 0, 7, 0, 100, 20), eD, eD, ([], 28, 166, 3, 243, 0, 0, 23), eD, eD, ([], 15, 0, 75, 0, 0, 0, 26), eD, eD, ([], 4, 0, 0, 0, 0, 0, 27), ([], 19, 12, 7, 104, 0, 0, 30), eD, eD, ([], 2, 1, 0, 0, 0, 0, 31), ([], 0, 1, 0, 0, 0, 36, 33)],
  [eD, ([], 9, 0, 0, 0, 0, 0, 34), ([], 0, 0, 0, 0, 0, 4, 35), ([], 28, 167, 3, 254, 0, 0, 38), eD, eD, ([], 1, 2, 0, 14, 0, 2, 41), eD, eD, ([], 3, 2, 0, 0, 0, 0, 42), ([], 1, 1, 0, 0, 0, 1, 43), ([], 11, 0, 0, 0, 0, 0, 44), ([], 28, 166, 3, 243, 0, 0, 47), eD, eD, ([], 15, 0, 75, 0, 0, 0, 50)],
  [eD, eD, ([], 4, 0, 0, 0, 0, 0, 51), ([], 19, 12, 7, 104, 0, 0, 54), eD, eD, ([], 2, 1, 0, 0, 0, 0, 55), ([], 0, 1, 0, 0, 0, 16, 57), eD, ([], 9, 0, 0, 0, 0, 0, 58), ([], 0, 0, 0, 0, 0, 4, 59), ([], 28, 167, 3, 254, 0, 0, 62), eD, eD, ([], 1, 2, 0, 6, 0, 16, 65), eD],
  [eD, ([], 1, 2, 0, 14, 0, 2, 68), eD, eD, ([], 3, 2, 0, 0, 0, 0, 69), ([], 11, 2, 0, 0, 0, 0, 70), ([], 11, 0, 0, 0, 0, 0, 71), ([], 18, 0, 77, 0, 0, 0, 75), eD, eD, eD, ([], 0, 0, 0, 0, 0, 0, 76), ([], 29, 0, 0, 0, 1, 0, 77), ([], 4, 0, 0, 0, 0, 0, 78), ([], 19, 12, 7, 104, 0, 0, 81), eD],
  [eD, ([], 2, 1, 0, 0, 0, 0, 82), ([], 0, 0, 0, 0, 0, 3, 83), ([], 28, 167, 3, 254, 0, 0, 86), eD, eD, ([], 1, 2, 0, 23, 0, 9467627, 89), eD, eD, ([], 18, 1, 131, 0, 0, 0, 93), eD, eD, eD, ([], 4, 0, 0, 0, 0, 0, 94), ([], 19, 12, 7, 104, 0, 0, 97), eD],
  [eD, ([], 2, 1, 0, 0, 0, 0, 98), ([], 0, 0, 0, 0, 0, 3, 99), ([], 9, 0, 0, 0, 0, 0, 100), ([], 0, 1, 0, 0, 0, 8, 102), eD, ([], 28, 167, 3, 254, 0, 0, 105), eD, eD, ([], 28, 184, 0, 245, 0, 0, 108), eD, eD, ([], 18, 1, 131, 0, 0, 0, 112), eD, eD, eD],
  [([], 4, 0, 0, 0, 0, 0, 113), ([], 2, 1, 0, 0, 0, 0, 114), ([], 0, 1, 0, 0, 0, 11, 116), eD, ([], 9, 0, 0, 0, 0, 0, 117), ([], 2, 1, 0, 0, 0, 0, 118), ([], 0, 1, 0, 0, 0, 16, 120), eD, ([], 9, 0, 0, 0, 0, 0, 121), ([], 27, 190, 2, 255, 12, 0, 124), eD, eD, ([], 15, 0, 131, 0, 0, 0, 127), eD, eD, ([], 0, 0, 0, 0, 0, 1, 128)],
  [([], 17, 0, 132, 0, 0, 0, 131), eD, eD, ([], 0, 0, 0, 0, 0, 0, 132), ([true, true, false, false, false, false, false, false, false, false], 5, 4, 1, 0, 0, 0, 134), eD, ([], 2, 4, 1, 0, 0, 0, 136), eD, ([], 4, 0, 0, 0, 0, 0, 137), ([], 19, 12, 7, 104, 0, 0, 140), eD, eD, ([], 2, 1, 0, 0, 0, 0, 141), ([], 0, 1, 0, 0, 0, 20, 143), eD, ([], 9, 0, 0, 0, 0, 0, 144)],
  [([], 0, 0, 0, 0, 0, 4, 145), ([], 28, 167, 3, 254, 0, 0, 148), eD, eD, ([], 1, 2, 0, 9, 0, 8, 151), eD, eD, ([], 18, 1, 197, 0, 0, 0, 155), eD, eD, eD, ([], 4, 0, 0, 0, 0, 0, 156), ([], 19, 12, 7, 104, 0, 0, 159), eD, eD, ([], 2, 1, 0, 0, 0, 0, 160)],
  [([], 0, 1, 0, 0, 0, 24, 162), eD, ([], 9, 0, 0, 0, 0, 0, 163), ([], 0, 0, 0, 0, 0, 4, 164), ([], 28, 167, 3, 254, 0, 0, 167), eD, eD, ([], 1, 2, 0, 10, 0, 7, 170), eD, eD, ([], 18, 1, 197, 0, 0, 0, 174), eD, eD, eD, ([], 4, 0, 0, 0, 0, 0, 175), ([], 19, 12, 7, 104, 0, 0, 178)],
  [eD, eD, ([], 2, 1, 0, 0, 0, 0, 179), ([], 0, 1, 0, 0, 0, 28, 181), eD, ([], 9, 0, 0, 0, 0, 0, 182), ([], 0, 0, 0, 0, 0, 4, 183), ([], 28, 167, 3, 254, 0, 0, 186), eD, eD, ([], 1, 2, 0, 6, 0, 16, 189), eD, eD, ([], 18, 1, 197, 0, 0, 0, 193), eD, eD],
  [eD, ([], 0, 0, 0, 0, 0, 1, 194), ([], 17, 0, 198, 0, 0, 0, 197), eD, eD, ([], 0, 0, 0, 0, 0, 0, 198), ([true, true, false, false, false, false, false, false, false, false], 9, 3, 0, 0, 0, 0, 199), ([], 5, 4, 1, 0, 0, 0, 201), eD, ([], 2, 4, 1, 0, 0, 0, 203), eD, ([], 4, 0, 0, 0, 0, 0, 204), ([], 19, 12, 7, 104, 0, 0, 207), eD, eD, ([], 2, 1, 0, 0, 0, 0, 208)],
  [([], 0, 1, 0, 0, 0, 44, 210), eD, ([], 9, 0, 0, 0, 0, 0, 211), ([], 0, 0, 0, 0, 0, 2, 212), ([], 28, 167, 3, 254, 0, 0, 215), eD, eD, ([], 1, 2, 0, 24, 0, -3, 218), eD, eD, ([], 11, 3, 0, 0, 0, 0, 219), ([], 1, 0, 0, 0, 0, 0, 220), ([], 18, 1, 268, 0, 0, 0, 224), eD, eD, eD],
  [([], 4, 0, 0, 0, 0, 0, 225), ([], 19, 12, 7, 104, 0, 0, 228), eD, eD, ([], 2, 1, 0, 0, 0, 0, 229), ([], 0, 1, 0, 0, 0, 46, 231), eD, ([], 9, 0, 0, 0, 0, 0, 232), ([], 22, 1, 13824, 0, 0, 0, 233), ([], 0, 1, 0, 0, 0, 6, 235), eD, ([], 16, 1, 268, 0, 0, 0, 238), eD, eD, ([], 4, 0, 0, 0, 0, 0, 239), ([], 19, 12, 7, 104, 0, 0, 242)],
  [eD, eD, ([], 2, 1, 0, 0, 0, 0, 243), ([], 0, 1, 0, 0, 0, 47, 245), eD, ([], 9, 0, 0, 0, 0, 0, 246), ([], 22, 1, 13824, 0, 0, 0, 247), ([], 0, 0, 0, 0, 0, 1, 248), ([], 16, 1, 268, 0, 0, 0, 251), eD, eD, ([], 4, 0, 0, 0, 0, 0, 252), ([], 19, 12, 7, 104, 0, 0, 255), eD, eD, ([], 2, 1, 0, 0, 0, 0, 256)],
  [([], 0, 1, 0, 0, 0, 48, 258), eD, ([], 9, 0, 0, 0, 0, 0, 259), ([], 22, 1, 13824, 0, 0, 0, 260), ([], 0, 0, 0, 0, 0, 1, 261), ([], 16, 1, 268, 0, 0, 0, 264), eD, eD, ([], 0, 0, 0, 0, 0, 1, 265), ([], 17, 0, 269, 0, 0, 0, 268), eD, eD, ([], 0, 0, 0, 0, 0, 0, 269), ([true, true, false, false, false, false, false, false, false, false], 9, 3, 0, 0, 0, 0, 270), ([], 5, 4, 1, 0, 0, 0, 272), eD],
  [([], 4, 0, 0, 0, 0, 0, 273), ([], 19, 12, 7, 104, 0, 0, 276), eD, eD, ([], 2, 1, 0, 0, 0, 0, 277), ([], 0, 1, 0, 0, 0, 49, 279), eD, ([], 9, 0, 0, 0, 0, 0, 280), ([], 0, 0, 0, 0, 0, 1, 281), ([], 28, 167, 3, 254, 0, 0, 284), eD, eD, ([], 6, 5, 1, 0, 0, 0, 286), eD, ([], 2, 4, 1, 0, 0, 0, 288), eD],
  [([], 3, 5, 1, 0, 0, 0, 290), eD, ([], 1, 2, 0, 7, 0, 100, 293), eD, eD, ([], 18, 5, 306, 0, 0, 0, 297), eD, eD, eD, ([], 3, 5, 1, 0, 0, 0, 299), eD, ([], 1, 2, 0, 21, 0, 255, 302), eD, eD, ([], 18, 1, 357, 0, 0, 0, 306), eD],
  [eD, eD, ([true, true, false, false, false, false, false, false, false, false], 4, 0, 0, 0, 0, 0, 307), ([], 2, 1, 0, 0, 0, 0, 308), ([], 0, 1, 0, 0, 0, 50, 310), eD, ([], 9, 0, 0, 0, 0, 0, 311), ([], 2, 1, 0, 0, 0, 0, 312), ([], 0, 1, 0, 0, 0, 62, 314), eD, ([], 9, 0, 0, 0, 0, 0, 315), ([], 27, 190, 2, 255, 12, 0, 318), eD, eD, ([], 15, 0, 357, 0, 0, 0, 321), eD],
  [eD, ([], 4, 0, 0, 0, 0, 0, 322), ([], 2, 1, 0, 0, 0, 0, 323), ([], 0, 1, 0, 0, 0, 64, 325), eD, ([], 9, 0, 0, 0, 0, 0, 326), ([], 2, 1, 0, 0, 0, 0, 327), ([], 0, 1, 0, 0, 0, 126, 329), eD, ([], 9, 0, 0, 0, 0, 0, 330), ([], 27, 190, 2, 255, 12, 0, 333), eD, eD, ([], 15, 0, 357, 0, 0, 0, 336), eD, eD],
  [([], 4, 0, 0, 0, 0, 0, 337), ([], 2, 1, 0, 0, 0, 0, 338), ([], 0, 2, 0, 0, 0, 128, 341), eD, eD, ([], 9, 0, 0, 0, 0, 0, 342), ([], 2, 1, 0, 0, 0, 0, 343), ([], 0, 2, 0, 0, 0, 190, 346), eD, eD, ([], 9, 0, 0, 0, 0, 0, 347), ([], 27, 190, 2, 255, 12, 0, 350), eD, eD, ([], 15, 0, 357, 0, 0, 0, 353), eD],
  [eD, ([], 0, 0, 0, 0, 0, 1, 354), ([], 17, 0, 358, 0, 0, 0, 357), eD, eD, ([], 0, 0, 0, 0, 0, 0, 358), ([], 9, 3, 0, 0, 0, 0, 359), ([], 5, 4, 1, 0, 0, 0, 361), eD, ([], 0, 0, 0, 0, 0, 0, 362), ([], 5, 7, 1, 0, 0, 0, 364), eD, ([true, true, false, false, true, false, false, true, false, false], 2, 7, 1, 0, 0, 0, 366), eD, ([], 0, 0, 0, 0, 0, 3, 367), ([], 16, 3, 426, 0, 0, 0, 370)],
  [eD, eD, ([], 2, 4, 1, 0, 0, 0, 372), eD, ([], 4, 0, 0, 0, 0, 0, 373), ([], 19, 12, 7, 104, 0, 0, 376), eD, eD, ([], 2, 1, 0, 0, 0, 0, 377), ([], 0, 1, 0, 0, 0, 64, 379), eD, ([], 2, 7, 1, 0, 0, 0, 381), eD, ([], 9, 2, 0, 0, 0, 0, 382), ([], 9, 0, 0, 0, 0, 0, 383), ([], 0, 1, 0, 0, 0, 62, 385)],
  [eD, ([], 9, 0, 0, 0, 0, 0, 386), ([], 22, 1, 13824, 0, 0, 0, 387), ([], 0, 1, 0, 0, 0, 85, 389), eD, ([], 16, 1, 416, 0, 0, 0, 392), eD, eD, ([], 4, 0, 0, 0, 0, 0, 393), ([], 19, 12, 7, 104, 0, 0, 396), eD, eD, ([], 2, 1, 0, 0, 0, 0, 397), ([], 0, 1, 0, 0, 0, 64, 399), eD, ([], 2, 7, 1, 0, 0, 0, 401)],
  [eD, ([], 9, 2, 0, 0, 0, 0, 402), ([], 9, 0, 0, 0, 0, 0, 403), ([], 0, 1, 0, 0, 0, 63, 405), eD, ([], 9, 0, 0, 0, 0, 0, 406), ([], 22, 1, 13824, 0, 0, 0, 407), ([], 0, 1, 0, 0, 0, -86, 409), eD, ([], 16, 1, 416, 0, 0, 0, 412), eD, eD, ([], 0, 0, 0, 0, 0, 1, 413), ([], 17, 0, 417, 0, 0, 0, 416), eD, eD],
  [([], 0, 0, 0, 0, 0, 0, 417), ([], 9, 3, 0, 0, 0, 0, 418), ([], 5, 4, 1, 0, 0, 0, 420), eD, ([], 8, 7, 0, 0, 0, 1, 423), eD, eD, ([], 17, 0, 364, 0, 0, 0, 426), eD, eD, ([], 4, 0, 0, 0, 0, 0, 427), ([], 19, 12, 7, 104, 0, 0, 430), eD, eD, ([], 2, 1, 0, 0, 0, 0, 431), ([], 0, 2, 0, 0, 0, 192, 434)],
  [eD, eD, ([], 0, 0, 0, 0, 0, 1, 435), ([], 28, 176, 4, 247, 0, 0, 438), eD, eD, ([], 6, 7, 1, 0, 0, 0, 440), eD, ([], 0, 0, 0, 0, 0, 0, 441), ([], 5, 9, 1, 0, 0, 0, 443), eD, ([true, true, false, false, true, false, false, true, false, true], 2, 9, 1, 0, 0, 0, 445), eD, ([], 0, 1, 0, 0, 0, 16, 447), eD, ([], 16, 3, 490, 0, 0, 0, 450)],
  [eD, eD, ([], 2, 4, 1, 0, 0, 0, 452), eD, ([], 4, 0, 0, 0, 0, 0, 453), ([], 19, 12, 7, 104, 0, 0, 456), eD, eD, ([], 2, 1, 0, 0, 0, 0, 457), ([], 0, 2, 0, 0, 0, 192, 460), eD, eD, ([], 9, 0, 0, 0, 0, 0, 461), ([], 0, 0, 0, 0, 0, 4, 462), ([], 2, 9, 1, 0, 0, 0, 464), eD],
  [([], 9, 2, 0, 0, 0, 0, 465), ([], 9, 0, 0, 0, 0, 0, 466), ([], 0, 0, 0, 0, 0, 4, 467), ([], 28, 167, 3, 254, 0, 0, 470), eD, eD, ([], 3, 7, 1, 0, 0, 0, 472), eD, ([], 18, 1, 480, 0, 0, 0, 476), eD, eD, eD, ([], 0, 0, 0, 0, 0, 1, 477), ([], 17, 0, 481, 0, 0, 0, 480), eD, eD],
  [([], 0, 0, 0, 0, 0, 0, 481), ([], 9, 3, 0, 0, 0, 0, 482), ([], 5, 4, 1, 0, 0, 0, 484), eD, ([], 8, 9, 0, 0, 0, 1, 487), eD, eD, ([], 17, 0, 443, 0, 0, 0, 490), eD, eD, ([], 2, 4, 1, 0, 0, 0, 492), eD, ([], 29, 0, 0, 0, 1, 0, 493)]]
set_option maxRecDepth 100000 in
theorem ok191 : okM 191 cd191 = true := by decide +kernel
def cd192 : List (List EM) := [[([], 4, 0, 0, 0, 0, 0, 1), ([], 4, 0, 0, 0, 0, 0, 2), ([], 0, 0, 0, 0, 0, 0, 3), ([], 27, 191, 1, 253, 12, 0, 6), eD, eD, ([], 15, 1, 13, 0, 0, 0, 9), eD, eD, ([], 0, 0, 0, 0, 0, 1, 10), ([], 17, 0, 14, 0, 0, 0, 13), eD, eD, ([], 0, 0, 0, 0, 0, 0, 14), ([], 20, 12, 12, 109, 0, 0, 17), eD],
  [eD, ([], 4, 0, 0, 0, 0, 0, 18), ([], 19, 12, 12, 109, 0, 0, 21), eD, eD, ([], 15, 0, 30, 0, 0, 0, 24), eD, eD, ([], 0, 2, 0, 0, 0, 256, 27), eD, eD, ([], 17, 0, 31, 0, 0, 0, 30), eD, eD, ([], 0, 0, 0, 0, 0, 0, 31), ([true, false, false, false, false], 5, 1, 0, 0, 0, 0, 32)],
  [([], 4, 0, 0, 0, 0, 0, 33), ([], 19, 12, 12, 109, 0, 0, 36), eD, eD, ([], 15, 0, 57, 0, 0, 0, 39), eD, eD, ([], 4, 0, 0, 0, 0, 0, 40), ([], 0, 2, 0, 0, 0, 256, 43), eD, eD, ([], 27, 191, 1, 253, 12, 0, 46), eD, eD, ([], 15, 1, 57, 0, 0, 0, 49), eD],
  [eD, ([], 4, 0, 0, 0, 0, 0, 50), ([], 0, 0, 0, 0, 0, 1, 51), ([], 0, 0, 0, 0, 0, 0, 52), ([], 0, 0, 0, 0, 0, 0, 53), ([], 27, 188, 3, 256, 12, 0, 56), eD, eD, ([], 29, 0, 0, 0, 1, 0, 57), ([true, true, false, false, false], 4, 0, 0, 0, 0, 0, 58), ([], 4, 0, 0, 0, 0, 0, 59), ([], 19, 12, 7, 104, 0, 0, 62), eD, eD, ([], 2, 1, 0, 0, 0, 0, 63), ([], 0, 1, 0, 0, 0, 32, 65)],
  [eD, ([], 9, 0, 0, 0, 0, 0, 66), ([], 0, 0, 0, 0, 0, 4, 67), ([], 28, 167, 3, 254, 0, 0, 70), eD, eD, ([], 14, 1, 0, 0, 0, 0, 71), ([], 20, 12, 0, 97, 0, 0, 74), eD, eD, ([], 4, 0, 0, 0, 0, 0, 75), ([], 4, 0, 0, 0, 0, 0, 76), ([], 19, 12, 7, 104, 0, 0, 79), eD, eD, ([], 2, 1, 0, 0, 0, 0, 80)],
  [([], 0, 1, 0, 0, 0, 36, 82), eD, ([], 9, 0, 0, 0, 0, 0, 83), ([], 0, 0, 0, 0, 0, 4, 84), ([], 28, 167, 3, 254, 0, 0, 87), eD, eD, ([], 14, 1, 0, 0, 0, 0, 88), ([], 20, 12, 1, 98, 0, 0, 91), eD, eD, ([], 4, 0, 0, 0, 0, 0, 92), ([], 19, 12, 7, 104, 0, 0, 95), eD, eD, ([], 0, 2, 0, 0, 0, 512, 98)],
  [eD, eD, ([], 0, 0, 0, 0, 0, 4, 99), ([], 28, 167, 3, 254, 0, 0, 102), eD, eD, ([], 1, 2, 0, 15, 0, 4294967288, 105), eD, eD, ([], 18, 1, 127, 0, 0, 0, 109), eD, eD, eD, ([], 4, 0, 0, 0, 0, 0, 110), ([], 19, 12, 7, 104, 0, 0, 113), eD],
  [eD, ([], 0, 2, 0, 0, 0, 516, 116), eD, eD, ([], 0, 0, 0, 0, 0, 4, 117), ([], 28, 167, 3, 254, 0, 0, 120), eD, eD, ([], 1, 2, 0, 13, 0, 4294967295, 123), eD, eD, ([], 18, 0, 157, 0, 0, 0, 127), eD, eD, eD, ([true, false, false, false, false], 4, 0, 0, 0, 0, 0, 128)],
  [([], 0, 0, 0, 0, 0, 2, 129), ([], 4, 0, 0, 0, 0, 0, 130), ([], 19, 12, 7, 104, 0, 0, 133), eD, eD, ([], 0, 2, 0, 0, 0, 512, 136), eD, eD, ([], 0, 0, 0, 0, 0, 4, 137), ([], 28, 167, 3, 254, 0, 0, 140), eD, eD, ([], 1, 2, 0, 15, 0, 4294967288, 143), eD, eD, ([], 18, 0, 151, 0, 0, 0, 147)],
  [eD, eD, eD, ([], 0, 0, 0, 0, 0, 0, 148), ([], 17, 0, 152, 0, 0, 0, 151), eD, eD, ([], 0, 0, 0, 0, 0, 1, 152), ([], 0, 0, 0, 0, 0, 0, 153), ([], 27, 188, 3, 256, 12, 0, 156), eD, eD, ([], 29, 0, 0, 0, 1, 0, 157), ([], 0, 0, 0, 0, 0, 0, 158), ([], 5, 2, 0, 0, 0, 0, 159), ([true, false, true, false, false], 2, 2, 0, 0, 0, 0, 160)],
  [([], 0, 1, 0, 0, 0, 102, 162), eD, ([], 16, 3, 178, 0, 0, 0, 165), eD, eD, ([], 4, 0, 0, 0, 0, 0, 166), ([], 19, 12, 13, 110, 0, 0, 169), eD, eD, ([], 2, 2, 0, 0, 0, 0, 170), ([], 0, 0, 0, 0, 0, 0, 171), ([], 23, 1, 102, 0, 0, 0, 172), ([], 8, 2, 0, 0, 0, 1, 175), eD, eD, ([], 17, 0, 159, 0, 0, 0, 178)],
  [eD, eD, ([], 4, 0, 0, 0, 0, 0, 179), ([], 19, 12, 1, 98, 0, 0, 182), eD, eD, ([], 5, 2, 0, 0, 0, 0, 183), ([], 4, 0, 0, 0, 0, 0, 184), ([], 19, 12, 13, 110, 0, 0, 187), eD, eD, ([], 2, 2, 0, 0, 0, 0, 188), ([], 0, 0, 0, 0, 0, 1, 189), ([], 23, 1, 102, 0, 0, 0, 190), ([true, false, true, false, false], 4, 0, 0, 0, 0, 0, 191), ([], 4, 0, 0, 0, 0, 0, 192)],
  [([], 19, 12, 7, 104, 0, 0, 195), eD, eD, ([], 2, 2, 0, 0, 0, 0, 196), ([], 27, 171, 2, 257, 12, 0, 199), eD, eD, ([], 1, 2, 0, 13, 0, 4294967295, 202), eD, eD, ([], 18, 0, 255, 0, 0, 0, 206), eD, eD, eD, ([], 4, 0, 0, 0, 0, 0, 207), ([], 4, 0, 0, 0, 0, 0, 208)],
  [([], 19, 12, 7, 104, 0, 0, 211), eD, eD, ([], 2, 2, 0, 0, 0, 0, 212), ([], 27, 171, 2, 257, 12, 0, 215), eD, eD, ([], 6, 3, 0, 0, 0, 0, 216), ([], 4, 0, 0, 0, 0, 0, 217), ([], 3, 3, 0, 0, 0, 0, 218), ([], 27, 170, 1, 258, 12, 0, 221), eD, eD, ([], 15, 0, 234, 0, 0, 0, 224), eD, eD],
  [([], 4, 0, 0, 0, 0, 0, 225), ([], 19, 12, 13, 110, 0, 0, 228), eD, eD, ([], 3, 3, 0, 0, 0, 0, 229), ([], 14, 1, 0, 0, 0, 0, 230), ([], 22, 1, 102, 0, 0, 0, 231), ([], 15, 0, 242, 0, 0, 0, 234), eD, eD, ([], 4, 0, 0, 0, 0, 0, 235), ([], 0, 0, 0, 0, 0, 3, 236), ([], 2, 2, 0, 0, 0, 0, 237), ([], 0, 0, 0, 0, 0, 0, 238), ([], 27, 188, 3, 256, 12, 0, 241), eD],
  [eD, ([], 29, 0, 0, 0, 1, 0, 242), ([], 3, 3, 0, 0, 0, 0, 243), ([], 14, 1, 0, 0, 0, 0, 244), ([], 5, 2, 0, 0, 0, 0, 245), ([], 4, 0, 0, 0, 0, 0, 246), ([], 19, 12, 13, 110, 0, 0, 249), eD, eD, ([], 2, 2, 0, 0, 0, 0, 250), ([], 0, 0, 0, 0, 0, 1, 251), ([], 23, 1, 102, 0, 0, 0, 252), ([], 17, 0, 190, 0, 0, 0, 255), eD, eD, ([], 4, 0, 0, 0, 0, 0, 256)],
  [([], 27, 194, 0, 259, 12, 0, 259), eD, eD, ([], 15, 0, 273, 0, 0, 0, 262), eD, eD, ([], 4, 0, 0, 0, 0, 0, 263), ([], 27, 195, 0, 261, 12, 0, 266), eD, eD, ([], 15, 0, 273, 0, 0, 0, 269), eD, eD, ([], 0, 0, 0, 0, 0, 1, 270), ([], 17, 0, 274, 0, 0, 0, 273), eD],
  [eD, ([], 0, 0, 0, 0, 0, 0, 274), ([], 29, 0, 0, 0, 1, 0, 275)]]
set_option maxRecDepth 100000 in
theorem ok192 : okM 192 cd192 = true := by decide +kernel
def cd193 : List (List EM) := [[([], 4, 0, 0, 0, 0, 0, 1), ([], 19, 12, 7, 104, 0, 0, 4), eD, eD, ([], 2, 1, 0, 0, 0, 0, 5), ([], 0, 1, 0, 0, 0, 20, 7), eD, ([], 9, 0, 0, 0, 0, 0, 8), ([], 0, 0, 0, 0, 0, 4, 9), ([], 28, 167, 3, 254, 0, 0, 12), eD, eD, ([], 6, 2, 0, 0, 0, 0, 13), ([], 4, 0, 0, 0, 0, 0, 14), ([], 3, 2, 0, 0, 0, 0, 15), ([], 27, 170, 1, 258, 12, 0, 18)],
  [eD, eD, ([], 15, 0, 52, 0, 0, 0, 21), eD, eD, ([], 4, 0, 0, 0, 0, 0, 22), ([], 19, 12, 13, 110, 0, 0, 25), eD, eD, ([], 3, 2, 0, 0, 0, 0, 26), ([], 14, 1, 0, 0, 0, 0, 27), ([], 22, 1, 102, 0, 0, 0, 28), ([], 15, 1, 52, 0, 0, 0, 31), eD, eD, ([], 4, 0, 0, 0, 0, 0, 32)],
  [([], 4, 0, 0, 0, 0, 0, 33), ([], 19, 12, 7, 104, 0, 0, 36), eD, eD, ([], 3, 2, 0, 0, 0, 0, 37), ([], 14, 1, 0, 0, 0, 0, 38), ([], 27, 171, 2, 257, 12, 0, 41), eD, eD, ([], 1, 2, 0, 13, 0, 4294967295, 44), eD, eD, ([], 18, 1, 52, 0, 0, 0, 48), eD, eD, eD],
  [([], 0, 0, 0, 0, 0, 1, 49), ([], 17, 0, 53, 0, 0, 0, 52), eD, eD, ([], 0, 0, 0, 0, 0, 0, 53), ([], 29, 0, 0, 0, 1, 0, 54)]]
set_option maxRecDepth 100000 in
theorem ok193 : okM 193 cd193 = true := by decide +kernel
def cd194 : List (List EM) := [[([], 4, 0, 0, 0, 0, 0, 1), ([], 19, 12, 1, 98, 0, 0, 4), eD, eD, ([], 28, 169, 1, 249, 0, 0, 7), eD, eD, ([], 5, 1, 0, 0, 0, 0, 8), ([], 4, 0, 0, 0, 0, 0, 9), ([], 19, 12, 7, 104, 0, 0, 12), eD, eD, ([], 2, 1, 0, 0, 0, 0, 13), ([], 22, 1, 13824, 0, 0, 0, 14), ([], 0, 1, 0, 0, 0, -127, 16), eD],
  [([], 16, 1, 73, 0, 0, 0, 19), eD, eD, ([], 4, 0, 0, 0, 0, 0, 20), ([], 2, 1, 0, 0, 0, 0, 21), ([], 0, 0, 0, 0, 0, 1, 22), ([], 9, 0, 0, 0, 0, 0, 23), ([], 2, 1, 0, 0, 0, 0, 24), ([], 0, 1, 0, 0, 0, 20, 26), eD, ([], 9, 0, 0, 0, 0, 0, 27), ([], 27, 190, 2, 255, 12, 0, 30), eD, eD, ([], 15, 0, 73, 0, 0, 0, 33), eD],
  [eD, ([], 4, 0, 0, 0, 0, 0, 34), ([], 2, 1, 0, 0, 0, 0, 35), ([], 27, 193, 1, 260, 12, 0, 38), eD, eD, ([], 15, 0, 73, 0, 0, 0, 41), eD, eD, ([], 4, 0, 0, 0, 0, 0, 42), ([], 19, 12, 7, 104, 0, 0, 45), eD, eD, ([], 2, 1, 0, 0, 0, 0, 46), ([], 0, 1, 0, 0, 0, 24, 48), eD],
  [([], 9, 0, 0, 0, 0, 0, 49), ([], 0, 1, 0, 0, 0, 8, 51), eD, ([], 28, 167, 3, 254, 0, 0, 54), eD, eD, ([], 4, 0, 0, 0, 0, 0, 55), ([], 19, 12, 0, 97, 0, 0, 58), eD, eD, ([], 0, 1, 0, 0, 0, 7, 60), eD, ([], 9, 0, 0, 0, 0, 0, 61), ([], 0, 1, 0, 0, 0, 8, 63), eD, ([], 10, 0, 0, 0, 0, 0, 64)],
  [([], 14, 0, 0, 0, 0, 0, 65), ([], 18, 1, 73, 0, 0, 0, 69), eD, eD, eD, ([], 0, 0, 0, 0, 0, 1, 70), ([], 17, 0, 74, 0, 0, 0, 73), eD, eD, ([], 0, 0, 0, 0, 0, 0, 74), ([true, true, false], 5, 2, 0, 0, 0, 0, 75), ([], 2, 2, 0, 0, 0, 0, 76), ([], 15, 1, 90, 0, 0, 0, 79), eD, eD, ([], 4, 0, 0, 0, 0, 0, 80)],
  [([], 0, 0, 0, 0, 0, 4, 81), ([], 4, 0, 0, 0, 0, 0, 82), ([], 19, 12, 1, 98, 0, 0, 85), eD, eD, ([], 0, 0, 0, 0, 0, 0, 86), ([], 27, 188, 3, 256, 12, 0, 89), eD, eD, ([], 29, 0, 0, 0, 1, 0, 90), ([], 4, 0, 0, 0, 0, 0, 91), ([], 4, 0, 0, 0, 0, 0, 92), ([], 19, 12, 7, 104, 0, 0, 95), eD, eD, ([], 2, 1, 0, 0, 0, 0, 96)],
  [([], 0, 1, 0, 0, 0, 20, 98), eD, ([], 9, 0, 0, 0, 0, 0, 99), ([], 0, 0, 0, 0, 0, 4, 100), ([], 28, 167, 3, 254, 0, 0, 103), eD, eD, ([], 14, 1, 0, 0, 0, 0, 104), ([], 20, 12, 2, 99, 0, 0, 107), eD, eD, ([], 4, 0, 0, 0, 0, 0, 108), ([], 19, 12, 13, 110, 0, 0, 111), eD, eD, ([], 4, 0, 0, 0, 0, 0, 112)],
  [([], 19, 12, 2, 99, 0, 0, 115), eD, eD, ([], 0, 0, 0, 0, 0, 1, 116), ([], 23, 1, 102, 0, 0, 0, 117), ([], 0, 0, 0, 0, 0, 1, 118), ([], 29, 0, 0, 0, 1, 0, 119)]]
set_option maxRecDepth 100000 in
theorem ok194 : okM 194 cd194 = true := by decide +kernel
def cd195 : List (List EM) := [[([], 4, 0, 0, 0, 0, 0, 1), ([], 19, 12, 1, 98, 0, 0, 4), eD, eD, ([], 28, 169, 1, 249, 0, 0, 7), eD, eD, ([], 0, 1, 0, 0, 0, 32, 9), eD, ([], 9, 0, 0, 0, 0, 0, 10), ([], 5, 1, 0, 0, 0, 0, 11), ([], 4, 0, 0, 0, 0, 0, 12), ([], 19, 12, 7, 104, 0, 0, 15), eD, eD, ([], 2, 1, 0, 0, 0, 0, 16)],
  [([], 0, 1, 0, 0, 0, 24, 18), eD, ([], 9, 0, 0, 0, 0, 0, 19), ([], 0, 1, 0, 0, 0, 8, 21), eD, ([], 28, 167, 3, 254, 0, 0, 24), eD, eD, ([], 6, 2, 0, 0, 0, 0, 25), ([], 4, 0, 0, 0, 0, 0, 26), ([], 19, 12, 7, 104, 0, 0, 29), eD, eD, ([], 2, 1, 0, 0, 0, 0, 30), ([], 22, 1, 13824, 0, 0, 0, 31), ([], 0, 1, 0, 0, 0, -126, 33)],
  [eD, ([], 16, 1, 99, 0, 0, 0, 36), eD, eD, ([], 4, 0, 0, 0, 0, 0, 37), ([], 2, 1, 0, 0, 0, 0, 38), ([], 0, 0, 0, 0, 0, 1, 39), ([], 9, 0, 0, 0, 0, 0, 40), ([], 2, 1, 0, 0, 0, 0, 41), ([], 0, 0, 0, 0, 0, 4, 42), ([], 9, 0, 0, 0, 0, 0, 43), ([], 27, 190, 2, 255, 12, 0, 46), eD, eD, ([], 15, 0, 99, 0, 0, 0, 49), eD],
  [eD, ([], 4, 0, 0, 0, 0, 0, 50), ([], 2, 1, 0, 0, 0, 0, 51), ([], 0, 1, 0, 0, 0, 8, 53), eD, ([], 9, 0, 0, 0, 0, 0, 54), ([], 2, 1, 0, 0, 0, 0, 55), ([], 0, 1, 0, 0, 0, 20, 57), eD, ([], 9, 0, 0, 0, 0, 0, 58), ([], 27, 190, 2, 255, 12, 0, 61), eD, eD, ([], 15, 0, 99, 0, 0, 0, 64), eD, eD],
  [([], 4, 0, 0, 0, 0, 0, 65), ([], 2, 1, 0, 0, 0, 0, 66), ([], 27, 193, 1, 260, 12, 0, 69), eD, eD, ([], 15, 0, 99, 0, 0, 0, 72), eD, eD, ([], 3, 2, 0, 0, 0, 0, 73), ([], 1, 2, 0, 14, 0, 2, 76), eD, eD, ([], 1, 2, 0, 18, 0, 128, 79), eD, eD, ([], 28, 166, 3, 243, 0, 0, 82)],
  [eD, eD, ([], 15, 0, 99, 0, 0, 0, 85), eD, eD, ([], 3, 2, 0, 0, 0, 0, 86), ([], 1, 2, 0, 14, 0, 2, 89), eD, eD, ([], 12, 1, 0, 0, 0, 0, 90), ([], 1, 0, 0, 0, 0, 0, 91), ([], 18, 1, 99, 0, 0, 0, 95), eD, eD, eD, ([], 0, 0, 0, 0, 0, 1, 96)],
  [([], 17, 0, 100, 0, 0, 0, 99), eD, eD, ([], 0, 0, 0, 0, 0, 0, 100), ([true, true, true, false, false], 5, 4, 1, 0, 0, 0, 102), eD, ([], 2, 4, 1, 0, 0, 0, 104), eD, ([], 15, 1, 118, 0, 0, 0, 107), eD, eD, ([], 4, 0, 0, 0, 0, 0, 108), ([], 0, 0, 0, 0, 0, 4, 109), ([], 4, 0, 0, 0, 0, 0, 110), ([], 19, 12, 1, 98, 0, 0, 113), eD],
  [eD, ([], 0, 0, 0, 0, 0, 1, 114), ([], 27, 188, 3, 256, 12, 0, 117), eD, eD, ([], 29, 0, 0, 0, 1, 0, 118), ([], 4, 0, 0, 0, 0, 0, 119), ([], 4, 0, 0, 0, 0, 0, 120), ([], 19, 12, 7, 104, 0, 0, 123), eD, eD, ([], 2, 1, 0, 0, 0, 0, 124), ([], 0, 1, 0, 0, 0, 20, 126), eD, ([], 9, 0, 0, 0, 0, 0, 127), ([], 0, 0, 0, 0, 0, 4, 128)],
  [([], 28, 167, 3, 254, 0, 0, 131), eD, eD, ([], 14, 1, 0, 0, 0, 0, 132), ([], 20, 12, 15, 112, 0, 0, 135), eD, eD, ([], 4, 0, 0, 0, 0, 0, 136), ([], 19, 12, 7, 104, 0, 0, 139), eD, eD, ([], 2, 1, 0, 0, 0, 0, 140), ([], 0, 0, 0, 0, 0, 4, 141), ([], 9, 0, 0, 0, 0, 0, 142), ([], 0, 0, 0, 0, 0, 4, 143), ([], 28, 167, 3, 254, 0, 0, 146)],
  [eD, eD, ([], 4, 0, 0, 0, 0, 0, 147), ([], 19, 12, 7, 104, 0, 0, 150), eD, eD, ([], 4, 0, 0, 0, 0, 0, 151), ([], 19, 12, 15, 112, 0, 0, 154), eD, eD, ([], 28, 169, 1, 249, 0, 0, 157), eD, eD, ([], 3, 2, 0, 0, 0, 0, 158), ([], 14, 1, 0, 0, 0, 0, 159), ([], 0, 0, 0, 0, 0, 0, 160)],
  [([], 28, 176, 4, 247, 0, 0, 163), eD, eD, ([], 18, 1, 183, 0, 0, 0, 167), eD, eD, eD, ([], 4, 0, 0, 0, 0, 0, 168), ([], 4, 0, 0, 0, 0, 0, 169), ([], 19, 12, 15, 112, 0, 0, 172), eD, eD, ([], 28, 169, 1, 249, 0, 0, 175), eD, eD, ([], 3, 2, 0, 0, 0, 0, 176)],
  [([], 14, 1, 0, 0, 0, 0, 177), ([], 27, 196, 2, 262, 12, 0, 180), eD, eD, ([], 15, 1, 194, 0, 0, 0, 183), eD, eD, ([], 4, 0, 0, 0, 0, 0, 184), ([], 0, 0, 0, 0, 0, 4, 185), ([], 4, 0, 0, 0, 0, 0, 186), ([], 19, 12, 1, 98, 0, 0, 189), eD, eD, ([], 0, 0, 0, 0, 0, 1, 190), ([], 27, 188, 3, 256, 12, 0, 193), eD],
  [eD, ([], 29, 0, 0, 0, 1, 0, 194), ([], 4, 0, 0, 0, 0, 0, 195), ([], 19, 12, 13, 110, 0, 0, 198), eD, eD, ([], 4, 0, 0, 0, 0, 0, 199), ([], 19, 12, 15, 112, 0, 0, 202), eD, eD, ([], 0, 0, 0, 0, 0, 1, 203), ([], 23, 1, 102, 0, 0, 0, 204), ([], 0, 0, 0, 0, 0, 1, 205), ([], 29, 0, 0, 0, 1, 0, 206)]]
set_option maxRecDepth 100000 in
theorem ok195 : okM 195 cd195 = true := by decide +kernel
def cd196 : List (List EM) := [[([], 0, 0, 0, 0, 0, 0, 1), ([], 5, 3, 0, 0, 0, 0, 2), ([true, true, true, true, false, false, false, false], 2, 3, 0, 0, 0, 0, 3), ([], 0, 2, 0, 0, 0, 256, 6), eD, eD, ([], 16, 3, 22, 0, 0, 0, 9), eD, eD, ([], 4, 0, 0, 0, 0, 0, 10), ([], 19, 12, 14, 111, 0, 0, 13), eD, eD, ([], 2, 3, 0, 0, 0, 0, 14), ([], 2, 3, 0, 0, 0, 0, 15), ([], 23, 0, 256, 0, 0, 0, 16)],
  [([], 8, 3, 0, 0, 0, 1, 19), eD, eD, ([], 17, 0, 2, 0, 0, 0, 22), eD, eD, ([], 1, 0, 0, 0, 0, 0, 23), ([], 6, 3, 0, 0, 0, 0, 24), ([], 0, 0, 0, 0, 0, 0, 25), ([], 5, 5, 1, 0, 0, 0, 27), eD, ([true, true, true, true, false, true, false, false], 2, 5, 1, 0, 0, 0, 29), eD, ([], 2, 2, 0, 0, 0, 0, 30), ([], 16, 3, 134, 0, 0, 0, 33), eD],
  [eD, ([], 4, 0, 0, 0, 0, 0, 34), ([], 19, 12, 7, 104, 0, 0, 37), eD, eD, ([], 2, 1, 0, 0, 0, 0, 38), ([], 2, 5, 1, 0, 0, 0, 40), eD, ([], 9, 0, 0, 0, 0, 0, 41), ([], 0, 0, 0, 0, 0, 2, 42), ([], 28, 167, 3, 254, 0, 0, 45), eD, eD, ([], 6, 6, 1, 0, 0, 0, 47), eD, ([], 8, 5, 0, 0, 0, 2, 50)],
  [eD, eD, ([], 3, 6, 1, 0, 0, 0, 52), eD, ([], 1, 2, 0, 16, 0, 65535, 55), eD, eD, ([], 18, 1, 88, 0, 0, 0, 59), eD, eD, eD, ([], 2, 5, 1, 0, 0, 0, 61), eD, ([], 2, 2, 0, 0, 0, 0, 62), ([], 16, 1, 67, 0, 0, 0, 65), eD],
  [eD, ([], 0, 0, 0, 0, 0, 0, 66), ([], 29, 0, 0, 0, 1, 0, 67), ([], 3, 3, 0, 0, 0, 0, 68), ([], 4, 0, 0, 0, 0, 0, 69), ([], 19, 12, 7, 104, 0, 0, 72), eD, eD, ([], 2, 1, 0, 0, 0, 0, 73), ([], 2, 5, 1, 0, 0, 0, 75), eD, ([], 9, 0, 0, 0, 0, 0, 76), ([], 0, 0, 0, 0, 0, 2, 77), ([], 28, 167, 3, 254, 0, 0, 80), eD, eD],
  [([], 11, 0, 0, 0, 0, 0, 81), ([], 6, 3, 0, 0, 0, 0, 82), ([], 8, 5, 0, 0, 0, 2, 85), eD, eD, ([], 17, 0, 121, 0, 0, 0, 88), eD, eD, ([], 3, 3, 0, 0, 0, 0, 89), ([], 1, 2, 0, 21, 0, 255, 92), eD, eD, ([], 18, 4, 105, 0, 0, 0, 96), eD, eD, eD],
  [([], 3, 6, 1, 0, 0, 0, 98), eD, ([], 1, 2, 0, 21, 0, 255, 101), eD, eD, ([], 18, 5, 107, 0, 0, 0, 105), eD, eD, eD, ([], 0, 0, 0, 0, 0, 0, 106), ([], 29, 0, 0, 0, 1, 0, 107), ([], 4, 0, 0, 0, 0, 0, 108), ([], 19, 12, 14, 111, 0, 0, 111), eD, eD, ([], 3, 3, 0, 0, 0, 0, 112)],
  [([], 14, 1, 0, 0, 0, 0, 113), ([], 3, 6, 1, 0, 0, 0, 115), eD, ([], 14, 1, 0, 0, 0, 0, 116), ([], 23, 0, 256, 0, 0, 0, 117), ([], 3, 3, 0, 0, 0, 0, 118), ([], 1, 1, 0, 0, 0, 1, 119), ([], 11, 0, 0, 0, 0, 0, 120), ([], 6, 3, 0, 0, 0, 0, 121), ([], 3, 3, 0, 0, 0, 0, 122), ([], 1, 2, 0, 25, 0, 256, 125), eD, eD, ([], 18, 5, 131, 0, 0, 0, 129), eD, eD],
  [eD, ([], 0, 0, 0, 0, 0, 0, 130), ([], 29, 0, 0, 0, 1, 0, 131), ([], 17, 0, 27, 0, 0, 0, 134), eD, eD, ([], 0, 0, 0, 0, 0, 0, 135), ([], 5, 6, 1, 0, 0, 0, 137), eD, ([true, false, false, false, false, false, true, false], 2, 6, 1, 0, 0, 0, 139), eD, ([], 0, 2, 0, 0, 0, 256, 142), eD, eD, ([], 16, 3, 175, 0, 0, 0, 145), eD],
  [eD, ([], 4, 0, 0, 0, 0, 0, 146), ([], 19, 12, 14, 111, 0, 0, 149), eD, eD, ([], 4, 0, 0, 0, 0, 0, 150), ([], 19, 12, 14, 111, 0, 0, 153), eD, eD, ([], 2, 6, 1, 0, 0, 0, 155), eD, ([], 22, 0, 256, 0, 0, 0, 156), ([], 22, 0, 256, 0, 0, 0, 157), ([], 4, 0, 0, 0, 0, 0, 158), ([], 19, 12, 14, 111, 0, 0, 161), eD],
  [eD, ([], 2, 6, 1, 0, 0, 0, 163), eD, ([], 22, 0, 256, 0, 0, 0, 164), ([], 16, 0, 169, 0, 0, 0, 167), eD, eD, ([], 0, 0, 0, 0, 0, 0, 168), ([], 29, 0, 0, 0, 1, 0, 169), ([], 8, 6, 0, 0, 0, 1, 172), eD, eD, ([], 17, 0, 137, 0, 0, 0, 175), eD, eD, ([], 0, 0, 0, 0, 0, 1, 176)],
  [([], 29, 0, 0, 0, 1, 0, 177)]]
set_option maxRecDepth 100000 in
theorem ok196 : okM 196 cd196 = true := by decide +kernel
end
section
/-! code tables, by program out of the printed bytecode, and their checks -/
def cd197 : List (List EM) := [[([], 4, 0, 0, 0, 0, 0, 1), ([], 19, 12, 16, 113, 0, 0, 4), eD, eD, ([], 2, 1, 0, 0, 0, 0, 5), ([], 0, 0, 0, 0, 0, 4, 6), ([], 10, 0, 0, 0, 0, 0, 7), ([], 22, 0, 102, 0, 0, 0, 8), ([], 28, 169, 1, 249, 0, 0, 11), eD, eD, ([], 0, 1, 0, 0, 0, 32, 13), eD, ([], 2, 1, 0, 0, 0, 0, 14), ([], 0, 0, 0, 0, 0, 4, 15), ([], 10, 1, 0, 0, 0, 0, 16)],
  [([], 9, 2, 0, 0, 0, 0, 17), ([], 9, 0, 0, 0, 0, 0, 18), ([], 29, 0, 0, 0, 0, 0, 19)]]
set_option maxRecDepth 100000 in
theorem ok197 : okM 197 cd197 = true := by decide +kernel
def cd198 : List (List EM) := [[([], 4, 0, 0, 0, 0, 0, 1), ([], 19, 12, 7, 104, 0, 0, 4), eD, eD, ([], 4, 0, 0, 0, 0, 0, 5), ([], 2, 1, 0, 0, 0, 0, 6), ([], 27, 197, 1, 270, 12, 0, 9), eD, eD, ([], 22, 1, 13824, 0, 0, 0, 10), ([], 0, 2, 0, 0, 0, 255, 13), eD, eD, ([], 9, 3, 0, 0, 0, 0, 14), ([], 29, 0, 0, 0, 0, 0, 15)]]
set_option maxRecDepth 100000 in
theorem ok198 : okM 198 cd198 = true := by decide +kernel
def cd199 : List (List EM) := [[([], 0, 0, 0, 0, 0, 4, 1), ([], 4, 0, 0, 0, 0, 0, 2), ([], 19, 12, 17, 114, 0, 0, 5), eD, eD, ([], 9, 2, 0, 0, 0, 0, 6), ([], 29, 0, 0, 0, 0, 0, 7)]]
set_option maxRecDepth 100000 in
theorem ok199 : okM 199 cd199 = true := by decide +kernel
def cd200 : List (List EM) := [[([], 4, 0, 0, 0, 0, 0, 1), ([], 0, 0, 0, 0, 0, 0, 2), ([], 20, 12, 17, 114, 0, 0, 5), eD, eD, ([], 4, 0, 0, 0, 0, 0, 6), ([], 19, 12, 1, 98, 0, 0, 9), eD, eD, ([], 14, 0, 0, 0, 0, 0, 10), ([], 6, 1, 0, 0, 0, 0, 11), ([true, true, false], 3, 1, 0, 0, 0, 0, 12), ([], 1, 2, 0, 13, 0, 4294967295, 15), eD, eD, ([], 18, 0, 54, 0, 0, 0, 19)],
  [eD, eD, eD, ([], 4, 0, 0, 0, 0, 0, 20), ([], 19, 12, 16, 113, 0, 0, 23), eD, eD, ([], 4, 0, 0, 0, 0, 0, 24), ([], 19, 12, 17, 114, 0, 0, 27), eD, eD, ([], 3, 1, 0, 0, 0, 0, 28), ([], 14, 1, 0, 0, 0, 0, 29), ([], 23, 0, 102, 0, 0, 0, 30), ([], 4, 0, 0, 0, 0, 0, 31), ([], 24, 0, 0, 0, 0, 0, 32)],
  [([], 19, 12, 17, 114, 0, 0, 35), eD, eD, ([], 0, 0, 0, 0, 0, 1, 36), ([], 9, 0, 0, 0, 0, 0, 37), ([], 20, 12, 17, 114, 0, 0, 40), eD, eD, ([], 4, 0, 0, 0, 0, 0, 41), ([], 4, 0, 0, 0, 0, 0, 42), ([], 19, 12, 7, 104, 0, 0, 45), eD, eD, ([], 3, 1, 0, 0, 0, 0, 46), ([], 14, 1, 0, 0, 0, 0, 47), ([], 27, 171, 2, 257, 12, 0, 50)],
  [eD, eD, ([], 6, 1, 0, 0, 0, 0, 51), ([], 17, 0, 11, 0, 0, 0, 54), eD, eD, ([], 31, 0, 0, 0, 0, 0, 55)]]
set_option maxRecDepth 100000 in
theorem ok200 : okM 200 cd200 = true := by decide +kernel
def cd201 : List (List EM) := [[([], 2, 0, 0, 0, 0, 0, 1), ([], 0, 1, 0, 0, 0, 34, 3), eD, ([], 16, 0, 54, 0, 0, 0, 6), eD, eD, ([], 2, 0, 0, 0, 0, 0, 7), ([], 0, 1, 0, 0, 0, 42, 9), eD, ([], 16, 0, 54, 0, 0, 0, 12), eD, eD, ([], 2, 0, 0, 0, 0, 0, 13), ([], 0, 1, 0, 0, 0, 47, 15), eD, ([], 16, 0, 54, 0, 0, 0, 18)],
  [eD, eD, ([], 2, 0, 0, 0, 0, 0, 19), ([], 0, 1, 0, 0, 0, 58, 21), eD, ([], 16, 0, 54, 0, 0, 0, 24), eD, eD, ([], 2, 0, 0, 0, 0, 0, 25), ([], 0, 1, 0, 0, 0, 60, 27), eD, ([], 16, 0, 54, 0, 0, 0, 30), eD, eD, ([], 2, 0, 0, 0, 0, 0, 31), ([], 0, 1, 0, 0, 0, 62, 33)],
  [eD, ([], 16, 0, 54, 0, 0, 0, 36), eD, eD, ([], 2, 0, 0, 0, 0, 0, 37), ([], 0, 1, 0, 0, 0, 63, 39), eD, ([], 16, 0, 54, 0, 0, 0, 42), eD, eD, ([], 2, 0, 0, 0, 0, 0, 43), ([], 0, 1, 0, 0, 0, 92, 45), eD, ([], 16, 0, 54, 0, 0, 0, 48), eD, eD],
  [([], 2, 0, 0, 0, 0, 0, 49), ([], 0, 1, 0, 0, 0, 124, 51), eD, ([], 16, 1, 58, 0, 0, 0, 54), eD, eD, ([], 0, 0, 0, 0, 0, 1, 55), ([], 17, 0, 59, 0, 0, 0, 58), eD, eD, ([], 0, 0, 0, 0, 0, 0, 59), ([true, false], 5, 1, 0, 0, 0, 0, 60), ([], 2, 0, 0, 0, 0, 0, 61), ([], 14, 0, 0, 0, 0, 0, 62), ([], 1, 2, 0, 28, 0, 32, 65), eD],
  [eD, ([], 1, 2, 0, 29, 0, 126, 68), eD, eD, ([], 28, 166, 3, 243, 0, 0, 71), eD, eD, ([], 15, 0, 78, 0, 0, 0, 74), eD, eD, ([], 2, 1, 0, 0, 0, 0, 75), ([], 15, 0, 92, 0, 0, 0, 78), eD, eD, ([], 2, 0, 0, 0, 0, 0, 79), ([], 14, 0, 0, 0, 0, 0, 80)],
  [([], 1, 2, 0, 30, 0, 160, 83), eD, eD, ([], 1, 2, 0, 21, 0, 255, 86), eD, eD, ([], 28, 166, 3, 243, 0, 0, 89), eD, eD, ([], 15, 0, 96, 0, 0, 0, 92), eD, eD, ([], 0, 0, 0, 0, 0, 1, 93), ([], 17, 0, 97, 0, 0, 0, 96), eD, eD],
  [([], 0, 0, 0, 0, 0, 0, 97), ([], 29, 0, 0, 0, 1, 0, 98)]]
set_option maxRecDepth 100000 in
theorem ok201 : okM 201 cd201 = true := by decide +kernel
def cd202 : List (List EM) := [[([], 2, 1, 0, 0, 0, 0, 1), ([], 14, 0, 0, 0, 0, 0, 2), ([], 1, 1, 0, 0, 0, 1, 3), ([], 1, 2, 0, 27, 0, 30, 6), eD, eD, ([], 28, 166, 3, 243, 0, 0, 9), eD, eD, ([], 5, 2, 0, 0, 0, 0, 10), ([], 0, 0, 0, 0, 0, 0, 11), ([], 5, 3, 0, 0, 0, 0, 12), ([true, true, true, true], 2, 3, 0, 0, 0, 0, 13), ([], 2, 1, 0, 0, 0, 0, 14), ([], 16, 3, 34, 0, 0, 0, 17), eD],
  [eD, ([], 2, 2, 0, 0, 0, 0, 18), ([], 15, 0, 34, 0, 0, 0, 21), eD, eD, ([], 4, 0, 0, 0, 0, 0, 22), ([], 2, 3, 0, 0, 0, 0, 23), ([], 22, 0, 30, 0, 0, 0, 24), ([], 28, 201, 1, 276, 0, 0, 27), eD, eD, ([], 5, 2, 0, 0, 0, 0, 28), ([], 8, 3, 0, 0, 0, 1, 31), eD, eD, ([], 17, 0, 12, 0, 0, 0, 34)],
  [eD, eD, ([true, true, true, false], 2, 2, 0, 0, 0, 0, 35), ([], 15, 0, 62, 0, 0, 0, 38), eD, eD, ([], 4, 0, 0, 0, 0, 0, 39), ([], 2, 1, 0, 0, 0, 0, 40), ([], 0, 0, 0, 0, 0, 1, 41), ([], 9, 1, 0, 0, 0, 0, 42), ([], 22, 0, 30, 0, 0, 0, 43), ([], 0, 1, 0, 0, 0, 32, 45), eD, ([], 16, 0, 62, 0, 0, 0, 48), eD, eD],
  [([], 4, 0, 0, 0, 0, 0, 49), ([], 2, 1, 0, 0, 0, 0, 50), ([], 0, 0, 0, 0, 0, 1, 51), ([], 9, 1, 0, 0, 0, 0, 52), ([], 22, 0, 30, 0, 0, 0, 53), ([], 0, 1, 0, 0, 0, 46, 55), eD, ([], 16, 0, 62, 0, 0, 0, 58), eD, eD, ([], 0, 0, 0, 0, 0, 1, 59), ([], 17, 0, 63, 0, 0, 0, 62), eD, eD, ([], 0, 0, 0, 0, 0, 0, 63), ([], 29, 0, 0, 0, 1, 0, 64)]]
set_option maxRecDepth 100000 in
theorem ok202 : okM 202 cd202 = true := by decide +kernel
def cd203 : List (List EM) := [[([], 1, 0, 0, 0, 0, 0, 1), ([], 6, 3, 0, 0, 0, 0, 2), ([], 0, 0, 0, 0, 0, 0, 3), ([], 5, 5, 1, 0, 0, 0, 5), eD, ([true, true, true, true, false, true, false], 2, 5, 1, 0, 0, 0, 7), eD, ([], 2, 2, 0, 0, 0, 0, 8), ([], 16, 3, 61, 0, 0, 0, 11), eD, eD, ([], 4, 0, 0, 0, 0, 0, 12), ([], 19, 12, 14, 111, 0, 0, 15), eD, eD, ([], 4, 1, 0, 0, 0, 0, 16)],
  [([], 2, 5, 1, 0, 0, 0, 18), eD, ([], 22, 0, 30, 0, 0, 0, 19), ([], 22, 0, 256, 0, 0, 0, 20), ([], 5, 6, 1, 0, 0, 0, 22), eD, ([], 3, 3, 0, 0, 0, 0, 23), ([], 2, 6, 1, 0, 0, 0, 25), eD, ([], 0, 2, 0, 0, 0, 255, 28), eD, eD, ([], 9, 3, 0, 0, 0, 0, 29), ([], 1, 2, 0, 31, 0, 32768, 32), eD, eD],
  [([], 1, 2, 0, 16, 0, 65535, 35), eD, eD, ([], 28, 175, 4, 248, 0, 0, 38), eD, eD, ([], 6, 3, 0, 0, 0, 0, 39), ([], 3, 3, 0, 0, 0, 0, 40), ([], 2, 6, 1, 0, 0, 0, 42), eD, ([], 0, 1, 0, 0, 0, 8, 44), eD, ([], 9, 7, 0, 0, 0, 0, 45), ([], 1, 2, 0, 31, 0, 32768, 48), eD, eD],
  [([], 1, 2, 0, 16, 0, 65535, 51), eD, eD, ([], 28, 175, 4, 248, 0, 0, 54), eD, eD, ([], 6, 3, 0, 0, 0, 0, 55), ([], 8, 5, 0, 0, 0, 1, 58), eD, eD, ([], 17, 0, 5, 0, 0, 0, 61), eD, eD, ([], 3, 3, 0, 0, 0, 0, 62), ([], 14, 1, 0, 0, 0, 0, 63), ([], 29, 0, 0, 0, 0, 0, 64)]]
set_option maxRecDepth 100000 in
theorem ok203 : okM 203 cd203 = true := by decide +kernel
def cd204 : List (List EM) := [[([], 1, 0, 0, 0, 0, 0, 1), ([], 6, 4, 1, 0, 0, 0, 3), eD, ([], 0, 0, 0, 0, 0, 0, 4), ([], 5, 6, 1, 0, 0, 0, 6), eD, ([true, true, true, true, true, false, true, false], 2, 6, 1, 0, 0, 0, 8), eD, ([], 2, 3, 0, 0, 0, 0, 9), ([], 16, 3, 81, 0, 0, 0, 12), eD, eD, ([], 0, 0, 0, 0, 0, 0, 13), ([], 5, 7, 1, 0, 0, 0, 15), eD, ([true, true, true, true, true, false, true, true], 2, 7, 1, 0, 0, 0, 17)],
  [eD, ([], 0, 1, 0, 0, 0, 32, 19), eD, ([], 16, 3, 75, 0, 0, 0, 22), eD, eD, ([], 2, 6, 1, 0, 0, 0, 24), eD, ([], 15, 4, 39, 0, 0, 0, 27), eD, eD, ([], 2, 7, 1, 0, 0, 0, 29), eD, ([], 0, 0, 0, 0, 0, 2, 30), ([], 16, 0, 69, 0, 0, 0, 33), eD],
  [eD, ([], 2, 7, 1, 0, 0, 0, 35), eD, ([], 0, 0, 0, 0, 0, 3, 36), ([], 16, 0, 69, 0, 0, 0, 39), eD, eD, ([true, true, true, true, true, false, true, true], 3, 4, 1, 0, 0, 0, 41), eD, ([], 4, 1, 0, 0, 0, 0, 42), ([], 4, 0, 0, 0, 0, 0, 43), ([], 2, 2, 0, 0, 0, 0, 44), ([], 2, 6, 1, 0, 0, 0, 46), eD, ([], 9, 0, 0, 0, 0, 0, 47), ([], 27, 197, 1, 270, 12, 0, 50)],
  [eD, eD, ([], 2, 7, 1, 0, 0, 0, 52), eD, ([], 9, 0, 0, 0, 0, 0, 53), ([], 22, 1, 13824, 0, 0, 0, 54), ([], 0, 2, 0, 0, 0, 255, 57), eD, eD, ([], 9, 3, 0, 0, 0, 0, 58), ([], 1, 2, 0, 31, 0, 32768, 61), eD, eD, ([], 1, 2, 0, 16, 0, 65535, 64), eD, eD],
  [([], 28, 175, 4, 248, 0, 0, 67), eD, eD, ([], 6, 4, 1, 0, 0, 0, 69), eD, ([], 8, 7, 0, 0, 0, 1, 72), eD, eD, ([], 17, 0, 15, 0, 0, 0, 75), eD, eD, ([], 8, 6, 0, 0, 0, 1, 78), eD, eD, ([], 17, 0, 6, 0, 0, 0, 81), eD],
  [eD, ([], 3, 4, 1, 0, 0, 0, 83), eD, ([], 14, 1, 0, 0, 0, 0, 84), ([], 29, 0, 0, 0, 0, 0, 85)]]
set_option maxRecDepth 100000 in
theorem ok204 : okM 204 cd204 = true := by decide +kernel
def cd205 : List (List EM) := [[([], 4, 0, 0, 0, 0, 0, 1), ([], 2, 1, 0, 0, 0, 0, 2), ([], 27, 197, 1, 270, 12, 0, 5), eD, eD, ([], 5, 2, 0, 0, 0, 0, 6), ([], 4, 0, 0, 0, 0, 0, 7), ([], 19, 12, 7, 104, 0, 0, 10), eD, eD, ([], 2, 2, 0, 0, 0, 0, 11), ([], 0, 0, 0, 0, 0, 1, 12), ([], 9, 0, 0, 0, 0, 0, 13), ([], 22, 1, 13824, 0, 0, 0, 14), ([], 0, 2, 0, 0, 0, 255, 17), eD],
  [eD, ([], 9, 3, 0, 0, 0, 0, 18), ([], 5, 3, 0, 0, 0, 0, 19), ([], 2, 1, 0, 0, 0, 0, 20), ([], 0, 0, 0, 0, 0, 2, 21), ([], 10, 1, 0, 0, 0, 0, 22), ([], 0, 0, 0, 0, 0, 1, 23), ([], 16, 0, 74, 0, 0, 0, 26), eD, eD, ([], 4, 0, 0, 0, 0, 0, 27), ([], 2, 1, 0, 0, 0, 0, 28), ([], 27, 198, 1, 269, 12, 0, 31), eD, eD, ([], 0, 2, 0, 0, 0, 133, 34)],
  [eD, eD, ([], 16, 1, 74, 0, 0, 0, 37), eD, eD, ([], 2, 3, 0, 0, 0, 0, 38), ([], 14, 0, 0, 0, 0, 0, 39), ([], 1, 2, 0, 14, 0, 2, 42), eD, eD, ([], 1, 2, 0, 17, 0, 3, 45), eD, eD, ([], 28, 166, 3, 243, 0, 0, 48), eD, eD],
  [([], 15, 0, 74, 0, 0, 0, 51), eD, eD, ([], 2, 1, 0, 0, 0, 0, 52), ([], 2, 3, 0, 0, 0, 0, 53), ([], 9, 0, 0, 0, 0, 0, 54), ([], 4, 0, 0, 0, 0, 0, 55), ([], 27, 199, 0, 268, 12, 0, 58), eD, eD, ([], 16, 3, 74, 0, 0, 0, 61), eD, eD, ([], 4, 0, 0, 0, 0, 0, 62), ([], 2, 1, 0, 0, 0, 0, 63), ([], 0, 0, 0, 0, 0, 1, 64)],
  [([], 9, 0, 0, 0, 0, 0, 65), ([], 27, 198, 1, 269, 12, 0, 68), eD, eD, ([], 0, 2, 0, 0, 0, 192, 71), eD, eD, ([], 16, 0, 76, 0, 0, 0, 74), eD, eD, ([], 0, 0, 0, 0, 0, 0, 75), ([], 29, 0, 0, 0, 1, 0, 76), ([], 4, 0, 0, 0, 0, 0, 77), ([], 2, 3, 0, 0, 0, 0, 78), ([], 0, 0, 0, 0, 0, 1, 79), ([], 9, 0, 0, 0, 0, 0, 80)],
  [([], 20, 12, 18, 115, 0, 0, 83), eD, eD, ([], 4, 0, 0, 0, 0, 0, 84), ([], 4, 0, 0, 0, 0, 0, 85), ([], 19, 12, 7, 104, 0, 0, 88), eD, eD, ([], 2, 2, 0, 0, 0, 0, 89), ([], 0, 0, 0, 0, 0, 4, 90), ([], 9, 0, 0, 0, 0, 0, 91), ([], 0, 0, 0, 0, 0, 2, 92), ([], 28, 167, 3, 254, 0, 0, 95), eD, eD, ([], 14, 1, 0, 0, 0, 0, 96)],
  [([], 20, 12, 24, 121, 0, 0, 99), eD, eD, ([], 4, 0, 0, 0, 0, 0, 100), ([], 19, 12, 24, 121, 0, 0, 103), eD, eD, ([], 0, 1, 0, 0, 0, -18, 105), eD, ([], 9, 3, 0, 0, 0, 0, 106), ([], 15, 1, 139, 0, 0, 0, 109), eD, eD, ([], 4, 0, 0, 0, 0, 0, 110), ([], 2, 2, 0, 0, 0, 0, 111), ([], 0, 1, 0, 0, 0, 6, 113)],
  [eD, ([], 9, 0, 0, 0, 0, 0, 114), ([], 2, 2, 0, 0, 0, 0, 115), ([], 0, 1, 0, 0, 0, 8, 117), eD, ([], 9, 0, 0, 0, 0, 0, 118), ([], 27, 190, 2, 255, 12, 0, 121), eD, eD, ([], 15, 0, 139, 0, 0, 0, 124), eD, eD, ([], 4, 0, 0, 0, 0, 0, 125), ([], 2, 2, 0, 0, 0, 0, 126), ([], 0, 1, 0, 0, 0, 16, 128), eD],
  [([], 9, 0, 0, 0, 0, 0, 129), ([], 2, 2, 0, 0, 0, 0, 130), ([], 0, 1, 0, 0, 0, 32, 132), eD, ([], 9, 0, 0, 0, 0, 0, 133), ([], 27, 190, 2, 255, 12, 0, 136), eD, eD, ([], 15, 1, 141, 0, 0, 0, 139), eD, eD, ([], 0, 0, 0, 0, 0, 0, 140), ([], 29, 0, 0, 0, 1, 0, 141), ([], 4, 0, 0, 0, 0, 0, 142), ([], 4, 0, 0, 0, 0, 0, 143), ([], 2, 1, 0, 0, 0, 0, 144)],
  [([], 0, 0, 0, 0, 0, 1, 145), ([], 9, 0, 0, 0, 0, 0, 146), ([], 27, 197, 1, 270, 12, 0, 149), eD, eD, ([], 27, 206, 1, 273, 12, 0, 152), eD, eD, ([], 15, 0, 230, 0, 0, 0, 155), eD, eD, ([], 4, 0, 0, 0, 0, 0, 156), ([], 2, 1, 0, 0, 0, 0, 157), ([], 27, 207, 1, 274, 12, 0, 160), eD, eD],
  [([], 15, 0, 230, 0, 0, 0, 163), eD, eD, ([], 4, 0, 0, 0, 0, 0, 164), ([], 19, 12, 7, 104, 0, 0, 167), eD, eD, ([], 2, 2, 0, 0, 0, 0, 168), ([], 0, 0, 0, 0, 0, 2, 169), ([], 9, 0, 0, 0, 0, 0, 170), ([], 0, 0, 0, 0, 0, 2, 171), ([], 28, 167, 3, 254, 0, 0, 174), eD, eD, ([], 4, 0, 0, 0, 0, 0, 175), ([], 4, 0, 0, 0, 0, 0, 176)],
  [([], 19, 12, 7, 104, 0, 0, 179), eD, eD, ([], 2, 1, 0, 0, 0, 0, 180), ([], 4, 0, 0, 0, 0, 0, 181), ([], 19, 12, 18, 115, 0, 0, 184), eD, eD, ([], 27, 204, 3, 277, 12, 0, 187), eD, eD, ([], 14, 0, 0, 0, 0, 0, 188), ([], 18, 1, 230, 0, 0, 0, 192), eD, eD, eD],
  [([], 4, 0, 0, 0, 0, 0, 193), ([], 19, 12, 7, 104, 0, 0, 196), eD, eD, ([], 4, 0, 0, 0, 0, 0, 197), ([], 2, 1, 0, 0, 0, 0, 198), ([], 0, 0, 0, 0, 0, 1, 199), ([], 9, 0, 0, 0, 0, 0, 200), ([], 27, 197, 1, 270, 12, 0, 203), eD, eD, ([], 0, 0, 0, 0, 0, 4, 204), ([], 9, 0, 0, 0, 0, 0, 205), ([], 0, 0, 0, 0, 0, 2, 206), ([], 28, 167, 3, 254, 0, 0, 209), eD],
  [eD, ([], 4, 0, 0, 0, 0, 0, 210), ([], 4, 0, 0, 0, 0, 0, 211), ([], 19, 12, 20, 117, 0, 0, 214), eD, eD, ([], 4, 0, 0, 0, 0, 0, 215), ([], 19, 12, 19, 116, 0, 0, 218), eD, eD, ([], 27, 203, 2, 278, 12, 0, 221), eD, eD, ([], 14, 0, 0, 0, 0, 0, 222), ([], 18, 1, 230, 0, 0, 0, 226), eD],
  [eD, eD, ([], 0, 0, 0, 0, 0, 1, 227), ([], 17, 0, 231, 0, 0, 0, 230), eD, eD, ([], 0, 0, 0, 0, 0, 0, 231), ([], 29, 0, 0, 0, 1, 0, 232)]]
set_option maxRecDepth 100000 in
theorem ok205 : okM 205 cd205 = true := by decide +kernel
def cd206 : List (List EM) := [[([], 4, 0, 0, 0, 0, 0, 1), ([], 19, 12, 7, 104, 0, 0, 4), eD, eD, ([], 2, 1, 0, 0, 0, 0, 5), ([], 0, 0, 0, 0, 0, 1, 6), ([], 9, 0, 0, 0, 0, 0, 7), ([], 22, 1, 13824, 0, 0, 0, 8), ([], 5, 2, 0, 0, 0, 0, 9), ([], 4, 0, 0, 0, 0, 0, 10), ([], 4, 0, 0, 0, 0, 0, 11), ([], 19, 12, 7, 104, 0, 0, 14), eD, eD, ([], 2, 1, 0, 0, 0, 0, 15), ([], 0, 0, 0, 0, 0, 3, 16)],
  [([], 9, 0, 0, 0, 0, 0, 17), ([], 22, 1, 13824, 0, 0, 0, 18), ([], 0, 2, 0, 0, 0, 255, 21), eD, eD, ([], 9, 3, 0, 0, 0, 0, 22), ([], 20, 12, 19, 116, 0, 0, 25), eD, eD, ([], 4, 0, 0, 0, 0, 0, 26), ([], 4, 0, 0, 0, 0, 0, 27), ([], 19, 12, 7, 104, 0, 0, 30), eD, eD, ([], 2, 1, 0, 0, 0, 0, 31), ([], 0, 1, 0, 0, 0, 24, 33)],
  [eD, ([], 9, 0, 0, 0, 0, 0, 34), ([], 0, 1, 0, 0, 0, 8, 36), eD, ([], 28, 167, 3, 254, 0, 0, 39), eD, eD, ([], 20, 12, 21, 118, 0, 0, 42), eD, eD, ([], 4, 0, 0, 0, 0, 0, 43), ([], 4, 0, 0, 0, 0, 0, 44), ([], 19, 12, 7, 104, 0, 0, 47), eD, eD, ([], 2, 1, 0, 0, 0, 0, 48)],
  [([], 0, 1, 0, 0, 0, 20, 50), eD, ([], 9, 0, 0, 0, 0, 0, 51), ([], 0, 0, 0, 0, 0, 4, 52), ([], 28, 167, 3, 254, 0, 0, 55), eD, eD, ([], 20, 12, 22, 119, 0, 0, 58), eD, eD, ([], 4, 0, 0, 0, 0, 0, 59), ([], 2, 2, 0, 0, 0, 0, 60), ([], 0, 0, 0, 0, 0, 3, 61), ([], 16, 1, 68, 0, 0, 0, 64), eD, eD],
  [([], 0, 0, 0, 0, 0, 1, 65), ([], 17, 0, 69, 0, 0, 0, 68), eD, eD, ([], 0, 0, 0, 0, 0, 0, 69), ([true, true, true, false], 20, 12, 23, 120, 0, 0, 72), eD, eD, ([], 2, 2, 0, 0, 0, 0, 73), ([], 0, 0, 0, 0, 0, 1, 74), ([], 16, 0, 82, 0, 0, 0, 77), eD, eD, ([], 2, 2, 0, 0, 0, 0, 78), ([], 0, 0, 0, 0, 0, 3, 79), ([], 16, 1, 148, 0, 0, 0, 82)],
  [eD, eD, ([true, true, true, false], 4, 0, 0, 0, 0, 0, 83), ([], 19, 12, 7, 104, 0, 0, 86), eD, eD, ([], 2, 1, 0, 0, 0, 0, 87), ([], 0, 0, 0, 0, 0, 2, 88), ([], 9, 0, 0, 0, 0, 0, 89), ([], 22, 1, 13824, 0, 0, 0, 90), ([], 15, 1, 148, 0, 0, 0, 93), eD, eD, ([], 4, 0, 0, 0, 0, 0, 94), ([], 2, 1, 0, 0, 0, 0, 95), ([], 0, 1, 0, 0, 0, 6, 97)],
  [eD, ([], 9, 0, 0, 0, 0, 0, 98), ([], 2, 1, 0, 0, 0, 0, 99), ([], 0, 1, 0, 0, 0, 8, 101), eD, ([], 9, 0, 0, 0, 0, 0, 102), ([], 27, 190, 2, 255, 12, 0, 105), eD, eD, ([], 15, 0, 148, 0, 0, 0, 108), eD, eD, ([], 4, 0, 0, 0, 0, 0, 109), ([], 2, 1, 0, 0, 0, 0, 110), ([], 0, 1, 0, 0, 0, 16, 112), eD],
  [([], 9, 0, 0, 0, 0, 0, 113), ([], 2, 1, 0, 0, 0, 0, 114), ([], 0, 1, 0, 0, 0, 20, 116), eD, ([], 9, 0, 0, 0, 0, 0, 117), ([], 27, 190, 2, 255, 12, 0, 120), eD, eD, ([], 15, 0, 148, 0, 0, 0, 123), eD, eD, ([], 4, 0, 0, 0, 0, 0, 124), ([], 19, 12, 7, 104, 0, 0, 127), eD, eD, ([], 2, 1, 0, 0, 0, 0, 128)],
  [([], 0, 1, 0, 0, 0, 8, 130), eD, ([], 9, 0, 0, 0, 0, 0, 131), ([], 0, 1, 0, 0, 0, 8, 133), eD, ([], 28, 167, 3, 254, 0, 0, 136), eD, eD, ([], 4, 0, 0, 0, 0, 0, 137), ([], 19, 12, 21, 118, 0, 0, 140), eD, eD, ([], 18, 1, 148, 0, 0, 0, 144), eD, eD, eD],
  [([], 0, 0, 0, 0, 0, 1, 145), ([], 17, 0, 149, 0, 0, 0, 148), eD, eD, ([], 0, 0, 0, 0, 0, 0, 149), ([true, false, true, false], 5, 3, 0, 0, 0, 0, 150), ([], 2, 3, 0, 0, 0, 0, 151), ([], 4, 0, 0, 0, 0, 0, 152), ([], 19, 12, 19, 116, 0, 0, 155), eD, eD, ([], 14, 0, 0, 0, 0, 0, 156), ([], 1, 1, 0, 0, 0, 1, 157), ([], 1, 2, 0, 27, 0, 30, 160), eD, eD],
  [([], 28, 166, 3, 243, 0, 0, 163), eD, eD, ([], 15, 0, 213, 0, 0, 0, 166), eD, eD, ([], 4, 0, 0, 0, 0, 0, 167), ([], 19, 12, 21, 118, 0, 0, 170), eD, eD, ([], 1, 0, 0, 0, 0, 0, 171), ([], 1, 2, 0, 18, 0, 128, 174), eD, eD, ([], 4, 0, 0, 0, 0, 0, 175), ([], 19, 12, 0, 97, 0, 0, 178)],
  [eD, eD, ([], 14, 0, 0, 0, 0, 0, 179), ([], 11, 2, 0, 0, 0, 0, 180), ([], 28, 166, 3, 243, 0, 0, 183), eD, eD, ([], 15, 0, 213, 0, 0, 0, 186), eD, eD, ([], 4, 0, 0, 0, 0, 0, 187), ([], 19, 12, 18, 115, 0, 0, 190), eD, eD, ([], 0, 0, 0, 0, 0, 3, 191), ([], 4, 0, 0, 0, 0, 0, 192)],
  [([], 19, 12, 19, 116, 0, 0, 195), eD, eD, ([], 0, 1, 0, 0, 0, 15, 197), eD, ([], 16, 5, 204, 0, 0, 0, 200), eD, eD, ([], 0, 0, 0, 0, 0, 1, 201), ([], 17, 0, 205, 0, 0, 0, 204), eD, eD, ([], 0, 0, 0, 0, 0, 0, 205), ([], 9, 0, 0, 0, 0, 0, 206), ([], 16, 1, 213, 0, 0, 0, 209), eD],
  [eD, ([], 0, 0, 0, 0, 0, 1, 210), ([], 17, 0, 214, 0, 0, 0, 213), eD, eD, ([], 0, 0, 0, 0, 0, 0, 214), ([true, false, true, false], 9, 3, 0, 0, 0, 0, 215), ([], 5, 3, 0, 0, 0, 0, 216), ([], 2, 3, 0, 0, 0, 0, 217), ([], 4, 0, 0, 0, 0, 0, 218), ([], 19, 12, 21, 118, 0, 0, 221), eD, eD, ([], 1, 0, 0, 0, 0, 0, 222), ([], 18, 1, 248, 0, 0, 0, 226), eD],
  [eD, eD, ([], 2, 2, 0, 0, 0, 0, 227), ([], 0, 0, 0, 0, 0, 1, 228), ([], 16, 1, 244, 0, 0, 0, 231), eD, eD, ([], 4, 0, 0, 0, 0, 0, 232), ([], 19, 12, 22, 119, 0, 0, 235), eD, eD, ([], 1, 0, 0, 0, 0, 0, 236), ([], 18, 1, 244, 0, 0, 0, 240), eD, eD, eD],
  [([], 0, 0, 0, 0, 0, 1, 241), ([], 17, 0, 256, 0, 0, 0, 244), eD, eD, ([], 0, 0, 0, 0, 0, 0, 245), ([], 17, 0, 256, 0, 0, 0, 248), eD, eD, ([], 4, 0, 0, 0, 0, 0, 249), ([], 4, 0, 0, 0, 0, 0, 250), ([], 19, 12, 22, 119, 0, 0, 253), eD, eD, ([], 27, 170, 1, 258, 12, 0, 256), eD, eD],
  [([true, false, false, false], 9, 3, 0, 0, 0, 0, 257), ([], 5, 3, 0, 0, 0, 0, 258), ([], 2, 3, 0, 0, 0, 0, 259), ([], 15, 0, 298, 0, 0, 0, 262), eD, eD, ([], 4, 0, 0, 0, 0, 0, 263), ([], 19, 12, 24, 121, 0, 0, 266), eD, eD, ([], 0, 1, 0, 0, 0, 16, 268), eD, ([], 9, 3, 0, 0, 0, 0, 269), ([], 15, 0, 294, 0, 0, 0, 272), eD, eD],
  [([], 4, 0, 0, 0, 0, 0, 273), ([], 19, 12, 21, 118, 0, 0, 276), eD, eD, ([], 1, 0, 0, 0, 0, 0, 277), ([], 18, 5, 298, 0, 0, 0, 281), eD, eD, eD, ([], 4, 0, 0, 0, 0, 0, 282), ([], 19, 12, 21, 118, 0, 0, 285), eD, eD, ([], 1, 2, 0, 18, 0, 128, 288), eD, eD],
  [([], 12, 1, 0, 0, 0, 0, 289), ([], 1, 0, 0, 0, 0, 0, 290), ([], 18, 1, 298, 0, 0, 0, 294), eD, eD, eD, ([], 0, 0, 0, 0, 0, 1, 295), ([], 17, 0, 299, 0, 0, 0, 298), eD, eD, ([], 0, 0, 0, 0, 0, 0, 299), ([], 29, 0, 0, 0, 1, 0, 300)]]
set_option maxRecDepth 100000 in
theorem ok206 : okM 206 cd206 = true := by decide +kernel
def cd207 : List (List EM) := [[([], 0, 0, 0, 0, 0, 0, 1), ([], 5, 2, 0, 0, 0, 0, 2), ([true, true, true, false, false], 2, 2, 0, 0, 0, 0, 3), ([], 0, 1, 0, 0, 0, 15, 5), eD, ([], 4, 0, 0, 0, 0, 0, 6), ([], 19, 12, 18, 115, 0, 0, 9), eD, eD, ([], 0, 0, 0, 0, 0, 2, 10), ([], 9, 1, 0, 0, 0, 0, 11), ([], 9, 2, 0, 0, 0, 0, 12), ([], 16, 3, 112, 0, 0, 0, 15), eD, eD, ([], 4, 0, 0, 0, 0, 0, 16)],
  [([], 2, 1, 0, 0, 0, 0, 17), ([], 0, 0, 0, 0, 0, 2, 18), ([], 9, 0, 0, 0, 0, 0, 19), ([], 2, 2, 0, 0, 0, 0, 20), ([], 0, 1, 0, 0, 0, 15, 22), eD, ([], 10, 0, 0, 0, 0, 0, 23), ([], 9, 0, 0, 0, 0, 0, 24), ([], 27, 197, 1, 270, 12, 0, 27), eD, eD, ([], 5, 3, 0, 0, 0, 0, 28), ([], 4, 0, 0, 0, 0, 0, 29), ([], 2, 1, 0, 0, 0, 0, 30), ([], 0, 0, 0, 0, 0, 2, 31), ([], 9, 0, 0, 0, 0, 0, 32)],
  [([], 2, 2, 0, 0, 0, 0, 33), ([], 0, 1, 0, 0, 0, 15, 35), eD, ([], 10, 0, 0, 0, 0, 0, 36), ([], 9, 0, 0, 0, 0, 0, 37), ([], 27, 198, 1, 269, 12, 0, 40), eD, eD, ([], 0, 2, 0, 0, 0, 193, 43), eD, eD, ([], 16, 1, 57, 0, 0, 0, 46), eD, eD, ([], 4, 0, 0, 0, 0, 0, 47), ([], 19, 12, 7, 104, 0, 0, 50)],
  [eD, eD, ([], 2, 3, 0, 0, 0, 0, 51), ([], 0, 0, 0, 0, 0, 1, 52), ([], 9, 0, 0, 0, 0, 0, 53), ([], 22, 1, 13824, 0, 0, 0, 54), ([], 15, 0, 59, 0, 0, 0, 57), eD, eD, ([], 0, 0, 0, 0, 0, 0, 58), ([], 29, 0, 0, 0, 1, 0, 59), ([], 4, 0, 0, 0, 0, 0, 60), ([], 19, 12, 7, 104, 0, 0, 63), eD, eD, ([], 2, 3, 0, 0, 0, 0, 64)],
  [([], 0, 0, 0, 0, 0, 2, 65), ([], 9, 0, 0, 0, 0, 0, 66), ([], 0, 0, 0, 0, 0, 2, 67), ([], 2, 2, 0, 0, 0, 0, 68), ([], 0, 1, 0, 0, 0, 15, 70), eD, ([], 10, 1, 0, 0, 0, 0, 71), ([], 9, 2, 0, 0, 0, 0, 72), ([], 9, 0, 0, 0, 0, 0, 73), ([], 0, 0, 0, 0, 0, 2, 74), ([], 28, 167, 3, 254, 0, 0, 77), eD, eD, ([], 14, 1, 0, 0, 0, 0, 78), ([], 5, 4, 1, 0, 0, 0, 80), eD],
  [([], 2, 2, 0, 0, 0, 0, 81), ([], 4, 0, 0, 0, 0, 0, 82), ([], 19, 12, 19, 116, 0, 0, 85), eD, eD, ([], 16, 3, 99, 0, 0, 0, 88), eD, eD, ([], 4, 0, 0, 0, 0, 0, 89), ([], 19, 12, 20, 117, 0, 0, 92), eD, eD, ([], 2, 2, 0, 0, 0, 0, 93), ([], 2, 4, 1, 0, 0, 0, 95), eD, ([], 23, 0, 30, 0, 0, 0, 96)],
  [([], 17, 0, 106, 0, 0, 0, 99), eD, eD, ([], 2, 4, 1, 0, 0, 0, 101), eD, ([], 15, 0, 106, 0, 0, 0, 104), eD, eD, ([], 0, 0, 0, 0, 0, 0, 105), ([], 29, 0, 0, 0, 1, 0, 106), ([], 8, 2, 0, 0, 0, 1, 109), eD, eD, ([], 17, 0, 2, 0, 0, 0, 112), eD, eD],
  [([], 4, 0, 0, 0, 0, 0, 113), ([], 19, 12, 20, 117, 0, 0, 116), eD, eD, ([], 4, 0, 0, 0, 0, 0, 117), ([], 19, 12, 19, 116, 0, 0, 120), eD, eD, ([], 28, 202, 2, 275, 0, 0, 123), eD, eD, ([], 29, 0, 0, 0, 1, 0, 124)]]
set_option maxRecDepth 100000 in
theorem ok207 : okM 207 cd207 = true := by decide +kernel
def cd208 : List (List EM) := [[([], 4, 0, 0, 0, 0, 0, 1), ([], 19, 12, 25, 122, 0, 0, 4), eD, eD, ([], 4, 0, 0, 0, 0, 0, 5), ([], 19, 12, 34, 131, 0, 0, 8), eD, eD, ([], 0, 0, 0, 0, 0, 4, 9), ([], 4, 0, 0, 0, 0, 0, 10), ([], 19, 12, 16, 113, 0, 0, 13), eD, eD, ([], 2, 2, 0, 0, 0, 0, 14), ([], 0, 0, 0, 0, 0, 4, 15), ([], 10, 0, 0, 0, 0, 0, 16)],
  [([], 22, 0, 102, 0, 0, 0, 17), ([], 9, 2, 0, 0, 0, 0, 18), ([], 2, 2, 0, 0, 0, 0, 19), ([], 0, 0, 0, 0, 0, 4, 20), ([], 10, 1, 0, 0, 0, 0, 21), ([], 9, 0, 0, 0, 0, 0, 22), ([], 23, 0, 200, 0, 0, 0, 23), ([], 4, 0, 0, 0, 0, 0, 24), ([], 19, 12, 26, 123, 0, 0, 27), eD, eD, ([], 4, 0, 0, 0, 0, 0, 28), ([], 19, 12, 34, 131, 0, 0, 31), eD, eD, ([], 2, 1, 0, 0, 0, 0, 32)],
  [([], 23, 0, 200, 0, 0, 0, 33), ([], 4, 0, 0, 0, 0, 0, 34), ([], 19, 12, 27, 124, 0, 0, 37), eD, eD, ([], 4, 0, 0, 0, 0, 0, 38), ([], 19, 12, 34, 131, 0, 0, 41), eD, eD, ([], 2, 2, 0, 0, 0, 0, 42), ([], 23, 0, 200, 0, 0, 0, 43), ([], 4, 0, 0, 0, 0, 0, 44), ([], 19, 12, 28, 125, 0, 0, 47), eD, eD, ([], 4, 0, 0, 0, 0, 0, 48)],
  [([], 19, 12, 34, 131, 0, 0, 51), eD, eD, ([], 4, 0, 0, 0, 0, 0, 52), ([], 19, 12, 18, 115, 0, 0, 55), eD, eD, ([], 23, 0, 200, 0, 0, 0, 56), ([], 4, 0, 0, 0, 0, 0, 57), ([], 19, 12, 29, 126, 0, 0, 60), eD, eD, ([], 4, 0, 0, 0, 0, 0, 61), ([], 19, 12, 34, 131, 0, 0, 64), eD, eD],
  [([], 4, 0, 0, 0, 0, 0, 65), ([], 19, 12, 24, 121, 0, 0, 68), eD, eD, ([], 0, 1, 0, 0, 0, 16, 70), eD, ([], 9, 3, 0, 0, 0, 0, 71), ([], 15, 0, 78, 0, 0, 0, 74), eD, eD, ([], 0, 0, 0, 0, 0, 1, 75), ([], 17, 0, 79, 0, 0, 0, 78), eD, eD, ([], 0, 0, 0, 0, 0, 0, 79), ([true, false, false], 23, 1, 200, 0, 0, 0, 80)],
  [([], 4, 0, 0, 0, 0, 0, 81), ([], 19, 12, 30, 127, 0, 0, 84), eD, eD, ([], 4, 0, 0, 0, 0, 0, 85), ([], 19, 12, 34, 131, 0, 0, 88), eD, eD, ([], 4, 0, 0, 0, 0, 0, 89), ([], 19, 12, 23, 120, 0, 0, 92), eD, eD, ([], 23, 1, 200, 0, 0, 0, 93), ([], 4, 0, 0, 0, 0, 0, 94), ([], 19, 12, 31, 128, 0, 0, 97), eD],
  [eD, ([], 4, 0, 0, 0, 0, 0, 98), ([], 19, 12, 34, 131, 0, 0, 101), eD, eD, ([], 4, 0, 0, 0, 0, 0, 102), ([], 19, 12, 21, 118, 0, 0, 105), eD, eD, ([], 23, 2, 200, 0, 0, 0, 106), ([], 4, 0, 0, 0, 0, 0, 107), ([], 19, 12, 32, 129, 0, 0, 110), eD, eD, ([], 4, 0, 0, 0, 0, 0, 111), ([], 19, 12, 34, 131, 0, 0, 114)],
  [eD, eD, ([], 4, 0, 0, 0, 0, 0, 115), ([], 19, 12, 22, 119, 0, 0, 118), eD, eD, ([], 14, 1, 0, 0, 0, 0, 119), ([], 23, 0, 200, 0, 0, 0, 120), ([], 4, 0, 0, 0, 0, 0, 121), ([], 19, 12, 33, 130, 0, 0, 124), eD, eD, ([], 4, 0, 0, 0, 0, 0, 125), ([], 19, 12, 34, 131, 0, 0, 128), eD, eD],
  [([], 4, 0, 0, 0, 0, 0, 129), ([], 19, 12, 24, 121, 0, 0, 132), eD, eD, ([], 23, 0, 200, 0, 0, 0, 133), ([], 4, 0, 0, 0, 0, 0, 134), ([], 24, 0, 0, 0, 0, 0, 135), ([], 19, 12, 34, 131, 0, 0, 138), eD, eD, ([], 0, 0, 0, 0, 0, 1, 139), ([], 9, 0, 0, 0, 0, 0, 140), ([], 20, 12, 34, 131, 0, 0, 143), eD, eD, ([], 31, 0, 0, 0, 0, 0, 144)]]
set_option maxRecDepth 100000 in
theorem ok208 : okM 208 cd208 = true := by decide +kernel
def cd209 : List (List EM) := [[([], 4, 0, 0, 0, 0, 0, 1), ([], 0, 0, 0, 0, 0, 1, 2), ([], 20, 12, 34, 131, 0, 0, 5), eD, eD, ([], 4, 0, 0, 0, 0, 0, 6), ([], 19, 12, 25, 122, 0, 0, 9), eD, eD, ([], 0, 0, 0, 0, 0, 0, 10), ([], 0, 0, 0, 0, 0, 0, 11), ([], 23, 0, 200, 0, 0, 0, 12), ([], 4, 0, 0, 0, 0, 0, 13), ([], 19, 12, 26, 123, 0, 0, 16), eD, eD],
  [([], 0, 0, 0, 0, 0, 0, 17), ([], 0, 1, 0, 0, 0, -9, 19), eD, ([], 23, 0, 200, 0, 0, 0, 20), ([], 4, 0, 0, 0, 0, 0, 21), ([], 19, 12, 29, 126, 0, 0, 24), eD, eD, ([], 0, 0, 0, 0, 0, 0, 25), ([], 0, 0, 0, 0, 0, 1, 26), ([], 23, 1, 200, 0, 0, 0, 27), ([], 4, 0, 0, 0, 0, 0, 28), ([], 19, 12, 30, 127, 0, 0, 31), eD, eD, ([], 0, 0, 0, 0, 0, 0, 32)],
  [([], 0, 0, 0, 0, 0, 0, 33), ([], 23, 1, 200, 0, 0, 0, 34), ([], 4, 0, 0, 0, 0, 0, 35), ([], 19, 12, 32, 129, 0, 0, 38), eD, eD, ([], 0, 0, 0, 0, 0, 0, 39), ([], 4, 0, 0, 0, 0, 0, 40), ([], 19, 12, 1, 98, 0, 0, 43), eD, eD, ([], 23, 0, 200, 0, 0, 0, 44), ([], 4, 0, 0, 0, 0, 0, 45), ([], 19, 12, 33, 130, 0, 0, 48), eD, eD],
  [([], 0, 0, 0, 0, 0, 0, 49), ([], 0, 1, 0, 0, 0, 16, 51), eD, ([], 23, 0, 200, 0, 0, 0, 52), ([], 31, 0, 0, 0, 0, 0, 53)]]
set_option maxRecDepth 100000 in
theorem ok209 : okM 209 cd209 = true := by decide +kernel
def cd210 : List (List EM) := [[([], 2, 1, 0, 0, 0, 0, 1), ([], 15, 1, 9, 0, 0, 0, 4), eD, eD, ([], 4, 0, 0, 0, 0, 0, 5), ([], 27, 200, 0, 267, 12, 0, 8), eD, eD, ([], 31, 0, 0, 0, 0, 0, 9), ([], 4, 0, 0, 0, 0, 0, 10), ([], 19, 12, 31, 128, 0, 0, 13), eD, eD, ([], 2, 1, 0, 0, 0, 0, 14), ([], 22, 2, 200, 0, 0, 0, 15), ([], 1, 2, 0, 26, 0, 127, 18)],
  [eD, eD, ([], 11, 0, 0, 0, 0, 0, 19), ([], 1, 2, 0, 18, 0, 128, 22), eD, eD, ([], 12, 0, 0, 0, 0, 0, 23), ([], 14, 1, 0, 0, 0, 0, 24), ([], 5, 2, 0, 0, 0, 0, 25), ([], 4, 0, 0, 0, 0, 0, 26), ([], 2, 2, 0, 0, 0, 0, 27), ([], 20, 12, 17, 114, 0, 0, 30), eD, eD, ([], 4, 0, 0, 0, 0, 0, 31), ([], 19, 12, 32, 129, 0, 0, 34)],
  [eD, eD, ([], 2, 1, 0, 0, 0, 0, 35), ([], 22, 0, 200, 0, 0, 0, 36), ([], 14, 0, 0, 0, 0, 0, 37), ([], 6, 3, 0, 0, 0, 0, 38), ([], 0, 0, 0, 0, 0, 0, 39), ([], 5, 5, 1, 0, 0, 0, 41), eD, ([true, true, true, true, false, true], 2, 5, 1, 0, 0, 0, 43), eD, ([], 2, 2, 0, 0, 0, 0, 44), ([], 16, 3, 88, 0, 0, 0, 47), eD, eD, ([], 4, 0, 0, 0, 0, 0, 48)],
  [([], 19, 12, 16, 113, 0, 0, 51), eD, eD, ([], 2, 5, 1, 0, 0, 0, 53), eD, ([], 3, 3, 0, 0, 0, 0, 54), ([], 14, 1, 0, 0, 0, 0, 55), ([], 23, 0, 102, 0, 0, 0, 56), ([], 4, 0, 0, 0, 0, 0, 57), ([], 19, 12, 30, 127, 0, 0, 60), eD, eD, ([], 2, 1, 0, 0, 0, 0, 61), ([], 22, 1, 200, 0, 0, 0, 62), ([], 15, 0, 71, 0, 0, 0, 65), eD],
  [eD, ([], 3, 3, 0, 0, 0, 0, 66), ([], 1, 1, 0, 0, 0, 1, 67), ([], 11, 0, 0, 0, 0, 0, 68), ([], 17, 0, 81, 0, 0, 0, 71), eD, eD, ([], 4, 0, 0, 0, 0, 0, 72), ([], 4, 0, 0, 0, 0, 0, 73), ([], 19, 12, 7, 104, 0, 0, 76), eD, eD, ([], 3, 3, 0, 0, 0, 0, 77), ([], 14, 1, 0, 0, 0, 0, 78), ([], 27, 171, 2, 257, 12, 0, 81), eD],
  [eD, ([], 6, 3, 0, 0, 0, 0, 82), ([], 8, 5, 0, 0, 0, 1, 85), eD, eD, ([], 17, 0, 41, 0, 0, 0, 88), eD, eD, ([], 31, 0, 0, 0, 0, 0, 89)]]
set_option maxRecDepth 100000 in
theorem ok210 : okM 210 cd210 = true := by decide +kernel
def cd211 : List (List EM) := [[([], 4, 0, 0, 0, 0, 0, 1), ([], 27, 209, 0, 264, 12, 0, 4), eD, eD, ([], 0, 0, 0, 0, 0, 0, 5), ([], 5, 1, 0, 0, 0, 0, 6), ([true, true, false, false], 2, 1, 0, 0, 0, 0, 7), ([], 4, 0, 0, 0, 0, 0, 8), ([], 19, 12, 34, 131, 0, 0, 11), eD, eD, ([], 16, 3, 105, 0, 0, 0, 14), eD, eD, ([], 4, 0, 0, 0, 0, 0, 15), ([], 19, 12, 29, 126, 0, 0, 18)],
  [eD, eD, ([], 2, 1, 0, 0, 0, 0, 19), ([], 22, 1, 200, 0, 0, 0, 20), ([], 15, 0, 99, 0, 0, 0, 23), eD, eD, ([], 4, 0, 0, 0, 0, 0, 24), ([], 2, 1, 0, 0, 0, 0, 25), ([], 27, 210, 1, 266, 12, 0, 28), eD, eD, ([], 2, 1, 0, 0, 0, 0, 29), ([], 15, 1, 36, 0, 0, 0, 32), eD, eD],
  [([], 0, 0, 0, 0, 0, 2, 33), ([], 17, 0, 37, 0, 0, 0, 36), eD, eD, ([], 0, 0, 0, 0, 0, 0, 37), ([], 5, 2, 0, 0, 0, 0, 38), ([true, true, true, false], 2, 2, 0, 0, 0, 0, 39), ([], 4, 0, 0, 0, 0, 0, 40), ([], 27, 199, 0, 268, 12, 0, 43), eD, eD, ([], 16, 3, 99, 0, 0, 0, 46), eD, eD, ([], 4, 0, 0, 0, 0, 0, 47), ([], 2, 2, 0, 0, 0, 0, 48)],
  [([], 27, 198, 1, 269, 12, 0, 51), eD, eD, ([], 0, 2, 0, 0, 0, 133, 54), eD, eD, ([], 16, 1, 69, 0, 0, 0, 57), eD, eD, ([], 4, 0, 0, 0, 0, 0, 58), ([], 2, 2, 0, 0, 0, 0, 59), ([], 27, 205, 1, 272, 12, 0, 62), eD, eD, ([], 15, 0, 69, 0, 0, 0, 65), eD],
  [eD, ([], 0, 0, 0, 0, 0, 1, 66), ([], 17, 0, 70, 0, 0, 0, 69), eD, eD, ([], 0, 0, 0, 0, 0, 0, 70), ([true, true, true, false], 5, 3, 0, 0, 0, 0, 71), ([], 2, 3, 0, 0, 0, 0, 72), ([], 15, 0, 81, 0, 0, 0, 75), eD, eD, ([], 4, 0, 0, 0, 0, 0, 76), ([], 2, 1, 0, 0, 0, 0, 77), ([], 2, 2, 0, 0, 0, 0, 78), ([], 27, 208, 2, 287, 12, 0, 81), eD],
  [eD, ([], 2, 2, 0, 0, 0, 0, 82), ([], 2, 3, 0, 0, 0, 0, 83), ([], 15, 0, 93, 0, 0, 0, 86), eD, eD, ([], 4, 0, 0, 0, 0, 0, 87), ([], 19, 12, 18, 115, 0, 0, 90), eD, eD, ([], 17, 0, 94, 0, 0, 0, 93), eD, eD, ([], 0, 0, 0, 0, 0, 1, 94), ([], 9, 0, 0, 0, 0, 0, 95), ([], 5, 2, 0, 0, 0, 0, 96)],
  [([], 17, 0, 38, 0, 0, 0, 99), eD, eD, ([], 8, 1, 0, 0, 0, 1, 102), eD, eD, ([], 17, 0, 6, 0, 0, 0, 105), eD, eD, ([], 31, 0, 0, 0, 0, 0, 106)]]
set_option maxRecDepth 100000 in
theorem ok211 : okM 211 cd211 = true := by decide +kernel
def cd212 : List (List EM) := [[([], 4, 0, 0, 0, 0, 0, 1), ([], 27, 211, 0, 297, 12, 0, 4), eD, eD, ([], 0, 0, 0, 0, 0, 0, 5), ([], 5, 2, 0, 0, 0, 0, 6), ([true, true, true], 2, 2, 0, 0, 0, 0, 7), ([], 4, 0, 0, 0, 0, 0, 8), ([], 19, 12, 34, 131, 0, 0, 11), eD, eD, ([], 16, 3, 32, 0, 0, 0, 14), eD, eD, ([], 4, 0, 0, 0, 0, 0, 15), ([], 19, 12, 25, 122, 0, 0, 18)],
  [eD, eD, ([], 2, 2, 0, 0, 0, 0, 19), ([], 22, 0, 200, 0, 0, 0, 20), ([], 2, 1, 0, 0, 0, 0, 21), ([], 16, 1, 26, 0, 0, 0, 24), eD, eD, ([], 2, 2, 0, 0, 0, 0, 25), ([], 29, 0, 0, 0, 0, 0, 26), ([], 8, 2, 0, 0, 0, 1, 29), eD, eD, ([], 17, 0, 6, 0, 0, 0, 32), eD, eD],
  [([], 0, 1, 0, 0, 0, -9, 34), eD, ([], 29, 0, 0, 0, 0, 0, 35)]]
set_option maxRecDepth 100000 in
theorem ok212 : okM 212 cd212 = true := by decide +kernel
def cd213 : List (List EM) := [[([], 4, 0, 0, 0, 0, 0, 1), ([], 2, 1, 0, 0, 0, 0, 2), ([], 27, 212, 1, 296, 12, 0, 5), eD, eD, ([], 5, 2, 0, 0, 0, 0, 6), ([], 2, 2, 0, 0, 0, 0, 7), ([], 0, 1, 0, 0, 0, -9, 9), eD, ([], 16, 0, 25, 0, 0, 0, 12), eD, eD, ([], 4, 0, 0, 0, 0, 0, 13), ([], 19, 12, 29, 126, 0, 0, 16), eD, eD],
  [([], 2, 2, 0, 0, 0, 0, 17), ([], 22, 1, 200, 0, 0, 0, 18), ([], 15, 0, 25, 0, 0, 0, 21), eD, eD, ([], 2, 2, 0, 0, 0, 0, 22), ([], 17, 0, 27, 0, 0, 0, 25), eD, eD, ([], 0, 1, 0, 0, 0, -9, 27), eD, ([], 29, 0, 0, 0, 0, 0, 28)]]
set_option maxRecDepth 100000 in
theorem ok213 : okM 213 cd213 = true := by decide +kernel
def cd214 : List (List EM) := [[([], 4, 0, 0, 0, 0, 0, 1), ([], 2, 1, 0, 0, 0, 0, 2), ([], 27, 212, 1, 296, 12, 0, 5), eD, eD, ([], 5, 2, 0, 0, 0, 0, 6), ([], 2, 2, 0, 0, 0, 0, 7), ([], 0, 1, 0, 0, 0, -9, 9), eD, ([], 16, 0, 25, 0, 0, 0, 12), eD, eD, ([], 4, 0, 0, 0, 0, 0, 13), ([], 19, 12, 29, 126, 0, 0, 16), eD, eD],
  [([], 2, 2, 0, 0, 0, 0, 17), ([], 22, 1, 200, 0, 0, 0, 18), ([], 15, 1, 25, 0, 0, 0, 21), eD, eD, ([], 2, 2, 0, 0, 0, 0, 22), ([], 17, 0, 27, 0, 0, 0, 25), eD, eD, ([], 0, 1, 0, 0, 0, -9, 27), eD, ([], 29, 0, 0, 0, 0, 0, 28)]]
set_option maxRecDepth 100000 in
theorem ok214 : okM 214 cd214 = true := by decide +kernel
def cd215 : List (List EM) := [[([], 4, 0, 0, 0, 0, 0, 1), ([], 19, 12, 21, 118, 0, 0, 4), eD, eD, ([], 1, 2, 0, 26, 0, 127, 7), eD, eD, ([], 11, 0, 0, 0, 0, 0, 8), ([], 1, 2, 0, 18, 0, 128, 11), eD, eD, ([], 12, 0, 0, 0, 0, 0, 12), ([], 14, 1, 0, 0, 0, 0, 13), ([], 5, 1, 0, 0, 0, 0, 14), ([], 4, 0, 0, 0, 0, 0, 15), ([], 19, 12, 23, 120, 0, 0, 18)],
  [eD, eD, ([], 15, 0, 44, 0, 0, 0, 21), eD, eD, ([], 4, 0, 0, 0, 0, 0, 22), ([], 19, 12, 22, 119, 0, 0, 25), eD, eD, ([], 2, 1, 0, 0, 0, 0, 26), ([], 14, 0, 0, 0, 0, 0, 27), ([], 11, 0, 0, 0, 0, 0, 28), ([], 1, 1, 0, 0, 0, 1, 29), ([], 11, 1, 0, 0, 0, 0, 30), ([], 4, 0, 0, 0, 0, 0, 31), ([], 19, 12, 0, 97, 0, 0, 34)],
  [eD, eD, ([], 0, 0, 0, 0, 0, 1, 35), ([], 9, 0, 0, 0, 0, 0, 36), ([], 14, 0, 0, 0, 0, 0, 37), ([], 18, 5, 44, 0, 0, 0, 41), eD, eD, eD, ([], 0, 1, 0, 0, 0, 6, 43), eD, ([], 29, 0, 0, 0, 0, 0, 44), ([], 4, 0, 0, 0, 0, 0, 45), ([], 19, 12, 22, 119, 0, 0, 48), eD, eD],
  [([], 6, 2, 0, 0, 0, 0, 49), ([], 0, 0, 0, 0, 0, 0, 50), ([], 5, 4, 1, 0, 0, 0, 52), eD, ([true, true, true, false, true], 2, 4, 1, 0, 0, 0, 54), eD, ([], 2, 1, 0, 0, 0, 0, 55), ([], 16, 3, 93, 0, 0, 0, 58), eD, eD, ([], 4, 0, 0, 0, 0, 0, 59), ([], 19, 12, 23, 120, 0, 0, 62), eD, eD, ([], 15, 1, 93, 0, 0, 0, 65), eD],
  [eD, ([], 4, 0, 0, 0, 0, 0, 66), ([], 3, 2, 0, 0, 0, 0, 67), ([], 27, 170, 1, 258, 12, 0, 70), eD, eD, ([], 15, 1, 76, 0, 0, 0, 73), eD, eD, ([], 0, 1, 0, 0, 0, 6, 75), eD, ([], 29, 0, 0, 0, 0, 0, 76), ([], 4, 0, 0, 0, 0, 0, 77), ([], 4, 0, 0, 0, 0, 0, 78), ([], 19, 12, 7, 104, 0, 0, 81), eD],
  [eD, ([], 3, 2, 0, 0, 0, 0, 82), ([], 14, 1, 0, 0, 0, 0, 83), ([], 27, 171, 2, 257, 12, 0, 86), eD, eD, ([], 6, 2, 0, 0, 0, 0, 87), ([], 8, 4, 0, 0, 0, 1, 90), eD, eD, ([], 17, 0, 52, 0, 0, 0, 93), eD, eD, ([true, true, true, false, false], 4, 0, 0, 0, 0, 0, 94), ([], 19, 12, 23, 120, 0, 0, 97), eD],
  [eD, ([], 15, 1, 130, 0, 0, 0, 100), eD, eD, ([], 2, 1, 0, 0, 0, 0, 101), ([], 15, 5, 130, 0, 0, 0, 104), eD, eD, ([], 3, 2, 0, 0, 0, 0, 105), ([], 1, 2, 0, 13, 0, 4294967295, 108), eD, eD, ([], 18, 0, 130, 0, 0, 0, 112), eD, eD, eD],
  [([], 4, 0, 0, 0, 0, 0, 113), ([], 19, 12, 35, 132, 0, 0, 116), eD, eD, ([], 15, 0, 127, 0, 0, 0, 119), eD, eD, ([], 4, 0, 0, 0, 0, 0, 120), ([], 2, 1, 0, 0, 0, 0, 121), ([], 27, 216, 1, 281, 12, 0, 124), eD, eD, ([], 17, 0, 129, 0, 0, 0, 127), eD, eD, ([], 0, 1, 0, 0, 0, 6, 129)],
  [eD, ([], 29, 0, 0, 0, 0, 0, 130), ([], 4, 0, 0, 0, 0, 0, 131), ([], 19, 12, 22, 119, 0, 0, 134), eD, eD, ([], 6, 2, 0, 0, 0, 0, 135), ([], 0, 0, 0, 0, 0, 0, 136), ([], 5, 4, 1, 0, 0, 0, 138), eD, ([true, true, true, false, true], 2, 4, 1, 0, 0, 0, 140), eD, ([], 2, 1, 0, 0, 0, 0, 141), ([], 16, 3, 187, 0, 0, 0, 144), eD, eD],
  [([], 4, 0, 0, 0, 0, 0, 145), ([], 19, 12, 13, 110, 0, 0, 148), eD, eD, ([], 3, 2, 0, 0, 0, 0, 149), ([], 14, 1, 0, 0, 0, 0, 150), ([], 22, 1, 102, 0, 0, 0, 151), ([], 15, 0, 157, 0, 0, 0, 154), eD, eD, ([], 0, 1, 0, 0, 0, 7, 156), eD, ([], 29, 0, 0, 0, 0, 0, 157), ([], 4, 0, 0, 0, 0, 0, 158), ([], 19, 12, 23, 120, 0, 0, 161), eD],
  [eD, ([], 15, 0, 170, 0, 0, 0, 164), eD, eD, ([], 3, 2, 0, 0, 0, 0, 165), ([], 1, 1, 0, 0, 0, 1, 166), ([], 11, 0, 0, 0, 0, 0, 167), ([], 17, 0, 180, 0, 0, 0, 170), eD, eD, ([], 4, 0, 0, 0, 0, 0, 171), ([], 4, 0, 0, 0, 0, 0, 172), ([], 19, 12, 7, 104, 0, 0, 175), eD, eD, ([], 3, 2, 0, 0, 0, 0, 176)],
  [([], 14, 1, 0, 0, 0, 0, 177), ([], 27, 171, 2, 257, 12, 0, 180), eD, eD, ([], 6, 2, 0, 0, 0, 0, 181), ([], 8, 4, 0, 0, 0, 1, 184), eD, eD, ([], 17, 0, 138, 0, 0, 0, 187), eD, eD, ([], 0, 0, 0, 0, 0, 0, 188), ([], 29, 0, 0, 0, 0, 0, 189)]]
set_option maxRecDepth 100000 in
theorem ok215 : okM 215 cd215 = true := by decide +kernel
def cd216 : List (List EM) := [[([], 4, 0, 0, 0, 0, 0, 1), ([], 19, 12, 22, 119, 0, 0, 4), eD, eD, ([], 6, 2, 0, 0, 0, 0, 5), ([], 0, 0, 0, 0, 0, 0, 6), ([], 5, 4, 1, 0, 0, 0, 8), eD, ([true, true, true, false, true, false, false], 2, 4, 1, 0, 0, 0, 10), eD, ([], 2, 1, 0, 0, 0, 0, 11), ([], 16, 3, 95, 0, 0, 0, 14), eD, eD, ([], 4, 0, 0, 0, 0, 0, 15), ([], 19, 12, 13, 110, 0, 0, 18)],
  [eD, eD, ([], 3, 2, 0, 0, 0, 0, 19), ([], 14, 1, 0, 0, 0, 0, 20), ([], 22, 1, 102, 0, 0, 0, 21), ([], 5, 5, 1, 0, 0, 0, 23), eD, ([], 0, 0, 0, 0, 0, 0, 24), ([], 5, 6, 1, 0, 0, 0, 26), eD, ([true, true, true, false, true, true, true], 2, 6, 1, 0, 0, 0, 28), eD, ([], 2, 4, 1, 0, 0, 0, 30), eD, ([], 16, 3, 61, 0, 0, 0, 33), eD],
  [eD, ([], 2, 5, 1, 0, 0, 0, 35), eD, ([], 4, 0, 0, 0, 0, 0, 36), ([], 19, 12, 39, 136, 0, 0, 39), eD, eD, ([], 2, 6, 1, 0, 0, 0, 41), eD, ([], 22, 0, 102, 0, 0, 0, 42), ([], 3, 2, 0, 0, 0, 0, 43), ([], 14, 1, 0, 0, 0, 0, 44), ([], 16, 1, 51, 0, 0, 0, 47), eD, eD, ([], 0, 0, 0, 0, 0, 1, 48)],
  [([], 17, 0, 52, 0, 0, 0, 51), eD, eD, ([], 0, 0, 0, 0, 0, 0, 52), ([], 9, 4, 0, 0, 0, 0, 53), ([], 5, 5, 1, 0, 0, 0, 55), eD, ([], 8, 6, 0, 0, 0, 1, 58), eD, eD, ([], 17, 0, 26, 0, 0, 0, 61), eD, eD, ([], 2, 5, 1, 0, 0, 0, 63), eD, ([], 15, 0, 69, 0, 0, 0, 66)],
  [eD, eD, ([], 0, 1, 0, 0, 0, 7, 68), eD, ([], 29, 0, 0, 0, 0, 0, 69), ([], 4, 0, 0, 0, 0, 0, 70), ([], 19, 12, 39, 136, 0, 0, 73), eD, eD, ([], 2, 4, 1, 0, 0, 0, 75), eD, ([], 3, 2, 0, 0, 0, 0, 76), ([], 14, 1, 0, 0, 0, 0, 77), ([], 23, 0, 102, 0, 0, 0, 78), ([], 4, 0, 0, 0, 0, 0, 79), ([], 4, 0, 0, 0, 0, 0, 80)],
  [([], 19, 12, 7, 104, 0, 0, 83), eD, eD, ([], 3, 2, 0, 0, 0, 0, 84), ([], 14, 1, 0, 0, 0, 0, 85), ([], 27, 171, 2, 257, 12, 0, 88), eD, eD, ([], 6, 2, 0, 0, 0, 0, 89), ([], 8, 4, 0, 0, 0, 1, 92), eD, eD, ([], 17, 0, 8, 0, 0, 0, 95), eD, eD, ([], 0, 1, 0, 0, 0, 66, 97)],
  [eD, ([], 29, 0, 0, 0, 0, 0, 98)]]
set_option maxRecDepth 100000 in
theorem ok216 : okM 216 cd216 = true := by decide +kernel
def cd217 : List (List EM) := [[([], 4, 0, 0, 0, 0, 0, 1), ([], 19, 12, 21, 118, 0, 0, 4), eD, eD, ([], 1, 2, 0, 26, 0, 127, 7), eD, eD, ([], 11, 0, 0, 0, 0, 0, 8), ([], 1, 2, 0, 18, 0, 128, 11), eD, eD, ([], 12, 0, 0, 0, 0, 0, 12), ([], 14, 1, 0, 0, 0, 0, 13), ([], 5, 1, 0, 0, 0, 0, 14), ([], 4, 0, 0, 0, 0, 0, 15), ([], 19, 12, 22, 119, 0, 0, 18)],
  [eD, eD, ([], 6, 2, 0, 0, 0, 0, 19), ([], 0, 0, 0, 0, 0, 0, 20), ([], 5, 4, 1, 0, 0, 0, 22), eD, ([true, true, true, false, true], 2, 4, 1, 0, 0, 0, 24), eD, ([], 2, 1, 0, 0, 0, 0, 25), ([], 16, 3, 66, 0, 0, 0, 28), eD, eD, ([], 4, 0, 0, 0, 0, 0, 29), ([], 19, 12, 13, 110, 0, 0, 32), eD, eD],
  [([], 3, 2, 0, 0, 0, 0, 33), ([], 14, 1, 0, 0, 0, 0, 34), ([], 0, 0, 0, 0, 0, 1, 35), ([], 23, 1, 102, 0, 0, 0, 36), ([], 4, 0, 0, 0, 0, 0, 37), ([], 19, 12, 23, 120, 0, 0, 40), eD, eD, ([], 15, 0, 49, 0, 0, 0, 43), eD, eD, ([], 3, 2, 0, 0, 0, 0, 44), ([], 1, 1, 0, 0, 0, 1, 45), ([], 11, 0, 0, 0, 0, 0, 46), ([], 17, 0, 59, 0, 0, 0, 49), eD],
  [eD, ([], 4, 0, 0, 0, 0, 0, 50), ([], 4, 0, 0, 0, 0, 0, 51), ([], 19, 12, 7, 104, 0, 0, 54), eD, eD, ([], 3, 2, 0, 0, 0, 0, 55), ([], 14, 1, 0, 0, 0, 0, 56), ([], 27, 171, 2, 257, 12, 0, 59), eD, eD, ([], 6, 2, 0, 0, 0, 0, 60), ([], 8, 4, 0, 0, 0, 1, 63), eD, eD, ([], 17, 0, 22, 0, 0, 0, 66)],
  [eD, eD, ([], 31, 0, 0, 0, 0, 0, 67)]]
set_option maxRecDepth 100000 in
theorem ok217 : okM 217 cd217 = true := by decide +kernel
def cd218 : List (List EM) := [[([], 4, 0, 0, 0, 0, 0, 1), ([], 4, 0, 0, 0, 0, 0, 2), ([], 19, 12, 19, 116, 0, 0, 5), eD, eD, ([], 20, 12, 38, 135, 0, 0, 8), eD, eD, ([], 0, 0, 0, 0, 0, 0, 9), ([], 5, 1, 0, 0, 0, 0, 10), ([true, true], 2, 1, 0, 0, 0, 0, 11), ([], 4, 0, 0, 0, 0, 0, 12), ([], 19, 12, 19, 116, 0, 0, 15), eD, eD, ([], 16, 3, 36, 0, 0, 0, 18)],
  [eD, eD, ([], 4, 0, 0, 0, 0, 0, 19), ([], 19, 12, 37, 134, 0, 0, 22), eD, eD, ([], 2, 1, 0, 0, 0, 0, 23), ([], 4, 0, 0, 0, 0, 0, 24), ([], 19, 12, 20, 117, 0, 0, 27), eD, eD, ([], 2, 1, 0, 0, 0, 0, 28), ([], 22, 0, 30, 0, 0, 0, 29), ([], 23, 0, 30, 0, 0, 0, 30), ([], 8, 1, 0, 0, 0, 1, 33), eD],
  [eD, ([], 17, 0, 10, 0, 0, 0, 36), eD, eD, ([], 31, 0, 0, 0, 0, 0, 37)]]
set_option maxRecDepth 100000 in
theorem ok218 : okM 218 cd218 = true := by decide +kernel
def cd219 : List (List EM) := [[([], 4, 0, 0, 0, 0, 0, 1), ([], 2, 1, 0, 0, 0, 0, 2), ([], 27, 205, 1, 272, 12, 0, 5), eD, eD, ([], 15, 0, 23, 0, 0, 0, 8), eD, eD, ([], 4, 0, 0, 0, 0, 0, 9), ([], 19, 12, 19, 116, 0, 0, 12), eD, eD, ([], 4, 0, 0, 0, 0, 0, 13), ([], 19, 12, 38, 135, 0, 0, 16), eD, eD],
  [([], 16, 1, 23, 0, 0, 0, 19), eD, eD, ([], 0, 0, 0, 0, 0, 1, 20), ([], 17, 0, 24, 0, 0, 0, 23), eD, eD, ([], 0, 0, 0, 0, 0, 0, 24), ([], 5, 2, 0, 0, 0, 0, 25), ([], 0, 0, 0, 0, 0, 0, 26), ([], 5, 3, 0, 0, 0, 0, 27), ([true, false, true, true], 2, 3, 0, 0, 0, 0, 28), ([], 4, 0, 0, 0, 0, 0, 29), ([], 19, 12, 38, 135, 0, 0, 32), eD, eD],
  [([], 16, 3, 76, 0, 0, 0, 35), eD, eD, ([], 2, 2, 0, 0, 0, 0, 36), ([], 15, 0, 76, 0, 0, 0, 39), eD, eD, ([], 4, 0, 0, 0, 0, 0, 40), ([], 19, 12, 14, 111, 0, 0, 43), eD, eD, ([], 4, 0, 0, 0, 0, 0, 44), ([], 19, 12, 20, 117, 0, 0, 47), eD, eD, ([], 2, 3, 0, 0, 0, 0, 48)],
  [([], 22, 0, 30, 0, 0, 0, 49), ([], 22, 0, 256, 0, 0, 0, 50), ([], 4, 0, 0, 0, 0, 0, 51), ([], 19, 12, 14, 111, 0, 0, 54), eD, eD, ([], 4, 0, 0, 0, 0, 0, 55), ([], 19, 12, 37, 134, 0, 0, 58), eD, eD, ([], 2, 3, 0, 0, 0, 0, 59), ([], 22, 0, 30, 0, 0, 0, 60), ([], 22, 0, 256, 0, 0, 0, 61), ([], 16, 1, 68, 0, 0, 0, 64), eD, eD],
  [([], 0, 0, 0, 0, 0, 1, 65), ([], 17, 0, 69, 0, 0, 0, 68), eD, eD, ([], 0, 0, 0, 0, 0, 0, 69), ([], 5, 2, 0, 0, 0, 0, 70), ([], 8, 3, 0, 0, 0, 1, 73), eD, eD, ([], 17, 0, 27, 0, 0, 0, 76), eD, eD, ([], 2, 2, 0, 0, 0, 0, 77), ([], 29, 0, 0, 0, 1, 0, 78)]]
set_option maxRecDepth 100000 in
theorem ok219 : okM 219 cd219 = true := by decide +kernel
def cd220 : List (List EM) := [[([], 4, 0, 0, 0, 0, 0, 1), ([], 27, 218, 0, 283, 12, 0, 4), eD, eD, ([], 0, 0, 0, 0, 0, 0, 5), ([], 5, 3, 0, 0, 0, 0, 6), ([], 0, 0, 0, 0, 0, 1, 7), ([], 5, 4, 1, 0, 0, 0, 9), eD, ([true, true, true, true, true], 2, 4, 1, 0, 0, 0, 11), eD, ([], 4, 0, 0, 0, 0, 0, 12), ([], 19, 12, 34, 131, 0, 0, 15), eD, eD, ([], 16, 3, 57, 0, 0, 0, 18)],
  [eD, eD, ([], 2, 3, 0, 0, 0, 0, 19), ([], 4, 0, 0, 0, 0, 0, 20), ([], 19, 12, 26, 123, 0, 0, 23), eD, eD, ([], 2, 4, 1, 0, 0, 0, 25), eD, ([], 22, 0, 200, 0, 0, 0, 26), ([], 2, 1, 0, 0, 0, 0, 27), ([], 16, 1, 48, 0, 0, 0, 30), eD, eD, ([], 4, 0, 0, 0, 0, 0, 31), ([], 4, 0, 0, 0, 0, 0, 32)],
  [([], 19, 12, 27, 124, 0, 0, 35), eD, eD, ([], 2, 4, 1, 0, 0, 0, 37), eD, ([], 22, 0, 200, 0, 0, 0, 38), ([], 27, 219, 1, 284, 12, 0, 41), eD, eD, ([], 15, 0, 48, 0, 0, 0, 44), eD, eD, ([], 0, 0, 0, 0, 0, 1, 45), ([], 17, 0, 49, 0, 0, 0, 48), eD, eD],
  [([], 0, 0, 0, 0, 0, 0, 49), ([], 9, 4, 0, 0, 0, 0, 50), ([], 5, 3, 0, 0, 0, 0, 51), ([], 8, 4, 0, 0, 0, 1, 54), eD, eD, ([], 17, 0, 9, 0, 0, 0, 57), eD, eD, ([], 4, 0, 0, 0, 0, 0, 58), ([], 2, 2, 0, 0, 0, 0, 59), ([], 27, 205, 1, 272, 12, 0, 62), eD, eD, ([], 5, 4, 1, 0, 0, 0, 64), eD],
  [([], 2, 3, 0, 0, 0, 0, 65), ([], 29, 0, 0, 0, 1, 0, 66)]]
set_option maxRecDepth 100000 in
theorem ok220 : okM 220 cd220 = true := by decide +kernel
def cd221 : List (List EM) := [[([], 4, 0, 0, 0, 0, 0, 1), ([], 19, 12, 8, 105, 0, 0, 4), eD, eD, ([], 4, 0, 0, 0, 0, 0, 5), ([], 2, 1, 0, 0, 0, 0, 6), ([], 27, 197, 1, 270, 12, 0, 9), eD, eD, ([], 2, 2, 0, 0, 0, 0, 10), ([], 14, 2, 0, 0, 0, 0, 11), ([], 23, 1, 13824, 0, 0, 0, 12), ([], 31, 0, 0, 0, 0, 0, 13)]]
set_option maxRecDepth 100000 in
theorem ok221 : okM 221 cd221 = true := by decide +kernel
def cd222 : List (List EM) := [[([], 4, 0, 0, 0, 0, 0, 1), ([], 19, 12, 35, 132, 0, 0, 4), eD, eD, ([], 15, 1, 24, 0, 0, 0, 7), eD, eD, ([], 4, 0, 0, 0, 0, 0, 8), ([], 2, 1, 0, 0, 0, 0, 9), ([], 4, 0, 0, 0, 0, 0, 10), ([], 19, 12, 16, 113, 0, 0, 13), eD, eD, ([], 2, 2, 0, 0, 0, 0, 14), ([], 0, 0, 0, 0, 0, 4, 15), ([], 10, 0, 0, 0, 0, 0, 16)],
  [([], 22, 0, 102, 0, 0, 0, 17), ([], 2, 2, 0, 0, 0, 0, 18), ([], 0, 0, 0, 0, 0, 4, 19), ([], 10, 1, 0, 0, 0, 0, 20), ([], 27, 188, 3, 256, 12, 0, 23), eD, eD, ([], 29, 0, 0, 0, 1, 0, 24), ([], 4, 0, 0, 0, 0, 0, 25), ([], 24, 0, 0, 0, 0, 0, 26), ([], 19, 12, 36, 133, 0, 0, 29), eD, eD, ([], 0, 0, 0, 0, 0, 1, 30), ([], 9, 0, 0, 0, 0, 0, 31), ([], 20, 12, 36, 133, 0, 0, 34)],
  [eD, eD, ([], 0, 0, 0, 0, 0, 0, 35), ([], 5, 4, 1, 0, 0, 0, 37), eD, ([true, false, true, true, true, false], 2, 4, 1, 0, 0, 0, 39), eD, ([], 2, 3, 0, 0, 0, 0, 40), ([], 16, 3, 82, 0, 0, 0, 43), eD, eD, ([], 4, 0, 0, 0, 0, 0, 44), ([], 2, 2, 0, 0, 0, 0, 45), ([], 2, 4, 1, 0, 0, 0, 47), eD, ([], 9, 0, 0, 0, 0, 0, 48)],
  [([], 27, 198, 1, 269, 12, 0, 51), eD, eD, ([], 0, 2, 0, 0, 0, 128, 54), eD, eD, ([], 9, 1, 0, 0, 0, 0, 55), ([], 5, 5, 1, 0, 0, 0, 57), eD, ([], 4, 0, 0, 0, 0, 0, 58), ([], 2, 2, 0, 0, 0, 0, 59), ([], 2, 4, 1, 0, 0, 0, 61), eD, ([], 9, 0, 0, 0, 0, 0, 62), ([], 2, 5, 1, 0, 0, 0, 64), eD],
  [([], 15, 1, 71, 0, 0, 0, 67), eD, eD, ([], 0, 0, 0, 0, 0, 1, 68), ([], 17, 0, 73, 0, 0, 0, 71), eD, eD, ([], 2, 5, 1, 0, 0, 0, 73), eD, ([], 27, 221, 2, 271, 12, 0, 76), eD, eD, ([], 8, 4, 0, 0, 0, 1, 79), eD, eD, ([], 17, 0, 37, 0, 0, 0, 82)],
  [eD, eD, ([], 0, 0, 0, 0, 0, 1, 83), ([], 29, 0, 0, 0, 1, 0, 84)]]
set_option maxRecDepth 100000 in
theorem ok222 : okM 222 cd222 = true := by decide +kernel
def cd223 : List (List EM) := [[([], 4, 0, 0, 0, 0, 0, 1), ([], 2, 1, 0, 0, 0, 0, 2), ([], 27, 210, 1, 266, 12, 0, 5), eD, eD, ([], 0, 0, 0, 0, 0, 0, 6), ([], 5, 2, 0, 0, 0, 0, 7), ([], 2, 1, 0, 0, 0, 0, 8), ([], 15, 1, 15, 0, 0, 0, 11), eD, eD, ([], 0, 0, 0, 0, 0, 2, 12), ([], 17, 0, 16, 0, 0, 0, 15), eD, eD, ([], 0, 0, 0, 0, 0, 0, 16)],
  [([], 5, 3, 0, 0, 0, 0, 17), ([true, true, true, true, false, false, false, false], 2, 3, 0, 0, 0, 0, 18), ([], 4, 0, 0, 0, 0, 0, 19), ([], 27, 199, 0, 268, 12, 0, 22), eD, eD, ([], 16, 3, 270, 0, 0, 0, 25), eD, eD, ([], 4, 0, 0, 0, 0, 0, 26), ([], 2, 3, 0, 0, 0, 0, 27), ([], 27, 198, 1, 269, 12, 0, 30), eD, eD, ([], 5, 4, 1, 0, 0, 0, 32), eD],
  [([], 0, 0, 0, 0, 0, 1, 33), ([], 5, 5, 1, 0, 0, 0, 35), eD, ([], 2, 2, 0, 0, 0, 0, 36), ([], 15, 0, 87, 0, 0, 0, 39), eD, eD, ([], 2, 4, 1, 0, 0, 0, 41), eD, ([], 15, 0, 87, 0, 0, 0, 44), eD, eD, ([], 4, 0, 0, 0, 0, 0, 45), ([], 19, 12, 35, 132, 0, 0, 48), eD, eD],
  [([], 15, 1, 68, 0, 0, 0, 51), eD, eD, ([], 4, 0, 0, 0, 0, 0, 52), ([], 0, 0, 0, 0, 0, 5, 53), ([], 4, 0, 0, 0, 0, 0, 54), ([], 19, 12, 16, 113, 0, 0, 57), eD, eD, ([], 2, 3, 0, 0, 0, 0, 58), ([], 0, 0, 0, 0, 0, 4, 59), ([], 10, 0, 0, 0, 0, 0, 60), ([], 22, 0, 102, 0, 0, 0, 61), ([], 2, 3, 0, 0, 0, 0, 62), ([], 0, 0, 0, 0, 0, 4, 63), ([], 10, 1, 0, 0, 0, 0, 64)],
  [([], 27, 188, 3, 256, 12, 0, 67), eD, eD, ([], 29, 0, 0, 0, 1, 0, 68), ([], 4, 0, 0, 0, 0, 0, 69), ([], 24, 0, 0, 0, 0, 0, 70), ([], 19, 12, 36, 133, 0, 0, 73), eD, eD, ([], 0, 0, 0, 0, 0, 1, 74), ([], 9, 0, 0, 0, 0, 0, 75), ([], 20, 12, 36, 133, 0, 0, 78), eD, eD, ([], 4, 0, 0, 0, 0, 0, 79), ([], 2, 3, 0, 0, 0, 0, 80)],
  [([], 0, 0, 0, 0, 0, 0, 81), ([], 27, 221, 2, 271, 12, 0, 84), eD, eD, ([], 17, 0, 249, 0, 0, 0, 87), eD, eD, ([true, true, true, true, true, true, false, false], 2, 4, 1, 0, 0, 0, 89), eD, ([], 0, 2, 0, 0, 0, 128, 92), eD, eD, ([], 16, 2, 249, 0, 0, 0, 95), eD, eD, ([], 4, 0, 0, 0, 0, 0, 96)],
  [([], 2, 3, 0, 0, 0, 0, 97), ([], 27, 205, 1, 272, 12, 0, 100), eD, eD, ([], 15, 1, 115, 0, 0, 0, 103), eD, eD, ([], 4, 0, 0, 0, 0, 0, 104), ([], 0, 0, 0, 0, 0, 5, 105), ([], 2, 3, 0, 0, 0, 0, 106), ([], 0, 0, 0, 0, 0, 1, 107), ([], 27, 222, 3, 279, 12, 0, 110), eD, eD, ([], 15, 1, 249, 0, 0, 0, 113), eD],
  [eD, ([], 0, 0, 0, 0, 0, 0, 114), ([], 29, 0, 0, 0, 1, 0, 115), ([], 4, 0, 0, 0, 0, 0, 116), ([], 19, 12, 18, 115, 0, 0, 119), eD, eD, ([], 5, 5, 1, 0, 0, 0, 121), eD, ([], 4, 0, 0, 0, 0, 0, 122), ([], 27, 215, 0, 280, 12, 0, 125), eD, eD, ([], 5, 6, 1, 0, 0, 0, 127), eD, ([], 2, 6, 1, 0, 0, 0, 129)],
  [eD, ([], 0, 1, 0, 0, 0, 66, 131), eD, ([], 16, 1, 138, 0, 0, 0, 134), eD, eD, ([], 0, 0, 0, 0, 0, 1, 135), ([], 17, 0, 139, 0, 0, 0, 138), eD, eD, ([], 0, 0, 0, 0, 0, 0, 139), ([true, true, true, true, true, true, true, false], 5, 7, 1, 0, 0, 0, 141), eD, ([], 2, 6, 1, 0, 0, 0, 143), eD, ([], 15, 0, 151, 0, 0, 0, 146)],
  [eD, eD, ([], 2, 7, 1, 0, 0, 0, 148), eD, ([], 15, 0, 165, 0, 0, 0, 151), eD, eD, ([true, true, true, true, true, true, true, true], 4, 0, 0, 0, 0, 0, 152), ([], 2, 1, 0, 0, 0, 0, 153), ([], 2, 3, 0, 0, 0, 0, 154), ([], 27, 220, 2, 282, 12, 0, 157), eD, eD, ([], 15, 0, 165, 0, 0, 0, 160), eD, eD],
  [([], 0, 1, 0, 0, 0, 8, 162), eD, ([], 17, 0, 176, 0, 0, 0, 165), eD, eD, ([], 2, 7, 1, 0, 0, 0, 167), eD, ([], 15, 0, 174, 0, 0, 0, 170), eD, eD, ([], 0, 0, 0, 0, 0, 0, 171), ([], 17, 0, 176, 0, 0, 0, 174), eD, eD, ([], 2, 6, 1, 0, 0, 0, 176), eD],
  [([true, true, true, true, true, true, false, true], 5, 6, 1, 0, 0, 0, 178), eD, ([], 2, 6, 1, 0, 0, 0, 180), eD, ([], 15, 5, 197, 0, 0, 0, 183), eD, eD, ([], 4, 0, 0, 0, 0, 0, 184), ([], 2, 6, 1, 0, 0, 0, 186), eD, ([], 2, 3, 0, 0, 0, 0, 187), ([], 2, 5, 1, 0, 0, 0, 189), eD, ([], 27, 222, 3, 279, 12, 0, 192), eD, eD],
  [([], 15, 1, 249, 0, 0, 0, 195), eD, eD, ([], 0, 0, 0, 0, 0, 0, 196), ([], 29, 0, 0, 0, 1, 0, 197), ([], 2, 7, 1, 0, 0, 0, 199), eD, ([], 15, 0, 239, 0, 0, 0, 202), eD, eD, ([], 4, 0, 0, 0, 0, 0, 203), ([], 24, 0, 0, 0, 0, 0, 204), ([], 19, 12, 36, 133, 0, 0, 207), eD, eD, ([], 0, 0, 0, 0, 0, 1, 208)],
  [([], 9, 0, 0, 0, 0, 0, 209), ([], 20, 12, 36, 133, 0, 0, 212), eD, eD, ([], 4, 0, 0, 0, 0, 0, 213), ([], 4, 0, 0, 0, 0, 0, 214), ([], 19, 12, 39, 136, 0, 0, 217), eD, eD, ([], 4, 0, 0, 0, 0, 0, 218), ([], 19, 12, 21, 118, 0, 0, 221), eD, eD, ([], 1, 2, 0, 26, 0, 127, 224), eD, eD],
  [([], 11, 0, 0, 0, 0, 0, 225), ([], 1, 2, 0, 18, 0, 128, 228), eD, eD, ([], 12, 0, 0, 0, 0, 0, 229), ([], 14, 1, 0, 0, 0, 0, 230), ([], 0, 0, 0, 0, 0, 1, 231), ([], 9, 1, 0, 0, 0, 0, 232), ([], 22, 0, 102, 0, 0, 0, 233), ([], 1, 2, 0, 13, 0, 4294967295, 236), eD, eD, ([], 27, 172, 2, 285, 12, 0, 239), eD, eD, ([true, true, true, true, true, true, false, false], 4, 0, 0, 0, 0, 0, 240)],
  [([], 27, 217, 0, 286, 12, 0, 243), eD, eD, ([], 4, 0, 0, 0, 0, 0, 244), ([], 2, 1, 0, 0, 0, 0, 245), ([], 2, 3, 0, 0, 0, 0, 246), ([], 27, 208, 2, 287, 12, 0, 249), eD, eD, ([], 2, 2, 0, 0, 0, 0, 250), ([], 2, 4, 1, 0, 0, 0, 252), eD, ([], 15, 1, 259, 0, 0, 0, 255), eD, eD, ([], 0, 0, 0, 0, 0, 1, 256)],
  [([], 17, 0, 260, 0, 0, 0, 259), eD, eD, ([], 0, 0, 0, 0, 0, 0, 260), ([], 9, 4, 0, 0, 0, 0, 261), ([], 5, 2, 0, 0, 0, 0, 262), ([], 2, 3, 0, 0, 0, 0, 263), ([], 2, 5, 1, 0, 0, 0, 265), eD, ([], 9, 0, 0, 0, 0, 0, 266), ([], 5, 3, 0, 0, 0, 0, 267), ([], 17, 0, 17, 0, 0, 0, 270), eD, eD, ([], 0, 0, 0, 0, 0, 1, 271), ([], 29, 0, 0, 0, 1, 0, 272)]]
set_option maxRecDepth 100000 in
theorem ok223 : okM 223 cd223 = true := by decide +kernel
def cd224 : List (List EM) := [[([], 4, 0, 0, 0, 0, 0, 1), ([], 27, 209, 0, 264, 12, 0, 4), eD, eD, ([], 0, 0, 0, 0, 0, 0, 5), ([], 5, 1, 0, 0, 0, 0, 6), ([true, true], 2, 1, 0, 0, 0, 0, 7), ([], 4, 0, 0, 0, 0, 0, 8), ([], 19, 12, 34, 131, 0, 0, 11), eD, eD, ([], 16, 3, 39, 0, 0, 0, 14), eD, eD, ([], 4, 0, 0, 0, 0, 0, 15), ([], 19, 12, 29, 126, 0, 0, 18)],
  [eD, eD, ([], 2, 1, 0, 0, 0, 0, 19), ([], 22, 1, 200, 0, 0, 0, 20), ([], 15, 0, 33, 0, 0, 0, 23), eD, eD, ([], 4, 0, 0, 0, 0, 0, 24), ([], 2, 1, 0, 0, 0, 0, 25), ([], 27, 223, 1, 265, 12, 0, 28), eD, eD, ([], 15, 1, 33, 0, 0, 0, 31), eD, eD, ([], 0, 0, 0, 0, 0, 0, 32)],
  [([], 29, 0, 0, 0, 1, 0, 33), ([], 8, 1, 0, 0, 0, 1, 36), eD, eD, ([], 17, 0, 6, 0, 0, 0, 39), eD, eD, ([], 0, 0, 0, 0, 0, 1, 40), ([], 29, 0, 0, 0, 1, 0, 41)]]
set_option maxRecDepth 100000 in
theorem ok224 : okM 224 cd224 = true := by decide +kernel
end
section
/-! code tables, by program out of the printed bytecode, and their checks -/
def cd225 : List (List EM) := [[([], 0, 0, 0, 0, 0, 0, 1), ([], 5, 2, 0, 0, 0, 0, 2), ([], 0, 0, 0, 0, 0, 0, 3), ([], 5, 3, 0, 0, 0, 0, 4), ([true, true, true, true, false], 2, 3, 0, 0, 0, 0, 5), ([], 0, 1, 0, 0, 0, 8, 7), eD, ([], 16, 3, 57, 0, 0, 0, 10), eD, eD, ([], 0, 1, 0, 0, 0, 8, 12), eD, ([], 2, 1, 0, 0, 0, 0, 13), ([], 9, 2, 0, 0, 0, 0, 14), ([], 2, 3, 0, 0, 0, 0, 15), ([], 9, 0, 0, 0, 0, 0, 16)],
  [([], 0, 0, 0, 0, 0, 2, 17), ([], 9, 0, 0, 0, 0, 0, 18), ([], 5, 4, 1, 0, 0, 0, 20), eD, ([], 2, 2, 0, 0, 0, 0, 21), ([], 2, 4, 1, 0, 0, 0, 23), eD, ([], 4, 0, 0, 0, 0, 0, 24), ([], 19, 12, 0, 97, 0, 0, 27), eD, eD, ([], 0, 0, 0, 0, 0, 1, 28), ([], 9, 0, 0, 0, 0, 0, 29), ([], 16, 4, 48, 0, 0, 0, 32), eD, eD],
  [([], 4, 0, 0, 0, 0, 0, 33), ([], 19, 12, 13, 110, 0, 0, 36), eD, eD, ([], 2, 4, 1, 0, 0, 0, 38), eD, ([], 22, 1, 102, 0, 0, 0, 39), ([], 15, 0, 48, 0, 0, 0, 42), eD, eD, ([], 0, 0, 0, 0, 0, 1, 43), ([], 2, 3, 0, 0, 0, 0, 44), ([], 9, 6, 0, 0, 0, 0, 45), ([], 17, 0, 49, 0, 0, 0, 48), eD, eD],
  [([], 0, 0, 0, 0, 0, 0, 49), ([], 9, 4, 0, 0, 0, 0, 50), ([], 5, 2, 0, 0, 0, 0, 51), ([], 8, 3, 0, 0, 0, 1, 54), eD, eD, ([], 17, 0, 4, 0, 0, 0, 57), eD, eD, ([], 2, 2, 0, 0, 0, 0, 58), ([], 29, 0, 0, 0, 0, 0, 59)]]
set_option maxRecDepth 100000 in
theorem ok225 : okM 225 cd225 = true := by decide +kernel
def cd226 : List (List EM) := [[([], 0, 0, 0, 0, 0, 1, 1), ([], 5, 1, 0, 0, 0, 0, 2), ([], 0, 0, 0, 0, 0, 0, 3), ([], 5, 2, 0, 0, 0, 0, 4), ([true, true, true], 2, 2, 0, 0, 0, 0, 5), ([], 4, 0, 0, 0, 0, 0, 6), ([], 19, 12, 0, 97, 0, 0, 9), eD, eD, ([], 0, 1, 0, 0, 0, 7, 11), eD, ([], 9, 0, 0, 0, 0, 0, 12), ([], 0, 1, 0, 0, 0, 8, 14), eD, ([], 10, 0, 0, 0, 0, 0, 15), ([], 16, 3, 58, 0, 0, 0, 18)],
  [eD, eD, ([], 2, 1, 0, 0, 0, 0, 19), ([], 4, 0, 0, 0, 0, 0, 20), ([], 19, 12, 7, 104, 0, 0, 23), eD, eD, ([], 4, 0, 0, 0, 0, 0, 24), ([], 19, 12, 2, 99, 0, 0, 27), eD, eD, ([], 28, 169, 1, 249, 0, 0, 30), eD, eD, ([], 2, 2, 0, 0, 0, 0, 31), ([], 9, 0, 0, 0, 0, 0, 32)],
  [([], 22, 1, 13824, 0, 0, 0, 33), ([], 0, 2, 0, 0, 0, 255, 36), eD, eD, ([], 9, 3, 0, 0, 0, 0, 37), ([], 4, 0, 0, 0, 0, 0, 38), ([], 2, 2, 0, 0, 0, 0, 39), ([], 27, 225, 1, 289, 12, 0, 42), eD, eD, ([], 16, 1, 49, 0, 0, 0, 45), eD, eD, ([], 0, 0, 0, 0, 0, 1, 46), ([], 17, 0, 50, 0, 0, 0, 49), eD],
  [eD, ([], 0, 0, 0, 0, 0, 0, 50), ([], 9, 3, 0, 0, 0, 0, 51), ([], 5, 1, 0, 0, 0, 0, 52), ([], 8, 2, 0, 0, 0, 1, 55), eD, eD, ([], 17, 0, 4, 0, 0, 0, 58), eD, eD, ([], 2, 1, 0, 0, 0, 0, 59), ([], 29, 0, 0, 0, 1, 0, 60)]]
set_option maxRecDepth 100000 in
theorem ok226 : okM 226 cd226 = true := by decide +kernel
def cd227 : List (List EM) := [[([], 4, 0, 0, 0, 0, 0, 1), ([], 19, 12, 3, 100, 0, 0, 4), eD, eD, ([], 15, 0, 10, 0, 0, 0, 7), eD, eD, ([], 0, 1, 0, 0, 0, -2, 9), eD, ([], 29, 0, 0, 0, 0, 0, 10), ([], 4, 0, 0, 0, 0, 0, 11), ([], 0, 0, 0, 0, 0, 0, 12), ([], 20, 12, 35, 132, 0, 0, 15), eD, eD, ([], 4, 0, 0, 0, 0, 0, 16)],
  [([], 27, 192, 0, 252, 12, 0, 19), eD, eD, ([], 15, 0, 33, 0, 0, 0, 22), eD, eD, ([], 4, 0, 0, 0, 0, 0, 23), ([], 27, 224, 0, 263, 12, 0, 26), eD, eD, ([], 15, 0, 33, 0, 0, 0, 29), eD, eD, ([], 0, 0, 0, 0, 0, 1, 30), ([], 17, 0, 34, 0, 0, 0, 33), eD],
  [eD, ([], 0, 0, 0, 0, 0, 0, 34), ([true, false], 5, 1, 0, 0, 0, 0, 35), ([], 2, 1, 0, 0, 0, 0, 36), ([], 15, 0, 55, 0, 0, 0, 39), eD, eD, ([], 4, 0, 0, 0, 0, 0, 40), ([], 27, 226, 0, 288, 12, 0, 43), eD, eD, ([], 15, 1, 55, 0, 0, 0, 46), eD, eD, ([], 4, 0, 0, 0, 0, 0, 47), ([], 0, 1, 0, 0, 0, 9, 49)],
  [eD, ([], 0, 0, 0, 0, 0, 0, 50), ([], 0, 0, 0, 0, 0, 0, 51), ([], 27, 188, 3, 256, 12, 0, 54), eD, eD, ([], 5, 1, 0, 0, 0, 0, 55), ([], 4, 0, 0, 0, 0, 0, 56), ([], 2, 1, 0, 0, 0, 0, 57), ([], 20, 12, 3, 100, 0, 0, 60), eD, eD, ([], 2, 1, 0, 0, 0, 0, 61), ([], 15, 0, 79, 0, 0, 0, 64), eD, eD],
  [([], 4, 0, 0, 0, 0, 0, 65), ([], 19, 12, 12, 109, 0, 0, 68), eD, eD, ([], 15, 0, 75, 0, 0, 0, 71), eD, eD, ([], 0, 0, 0, 0, 0, 2, 72), ([], 17, 0, 86, 0, 0, 0, 75), eD, eD, ([], 0, 0, 0, 0, 0, 1, 76), ([], 17, 0, 86, 0, 0, 0, 79), eD, eD, ([], 0, 1, 0, 0, 0, -10, 81)],
  [eD, ([], 4, 0, 0, 0, 0, 0, 82), ([], 19, 12, 9, 106, 0, 0, 85), eD, eD, ([], 9, 1, 0, 0, 0, 0, 86), ([], 29, 0, 0, 0, 0, 0, 87)]]
set_option maxRecDepth 100000 in
theorem ok227 : okM 227 cd227 = true := by decide +kernel
def cd228 : List (List EM) := [[([], 4, 0, 0, 0, 0, 0, 1), ([], 19, 12, 3, 100, 0, 0, 4), eD, eD, ([], 15, 1, 10, 0, 0, 0, 7), eD, eD, ([], 0, 1, 0, 0, 0, -2, 9), eD, ([], 29, 0, 0, 0, 0, 0, 10), ([], 4, 0, 0, 0, 0, 0, 11), ([], 19, 12, 0, 97, 0, 0, 14), eD, eD, ([], 4, 0, 0, 0, 0, 0, 15), ([], 27, 238, 0, 290, 12, 0, 18)],
  [eD, eD, ([], 9, 1, 0, 0, 0, 0, 19), ([], 5, 1, 0, 0, 0, 0, 20), ([], 4, 0, 0, 0, 0, 0, 21), ([], 27, 177, 0, 292, 12, 0, 24), eD, eD, ([], 4, 0, 0, 0, 0, 0, 25), ([], 19, 12, 8, 105, 0, 0, 28), eD, eD, ([], 0, 1, 0, 0, 0, 44, 30), eD, ([], 4, 0, 0, 0, 0, 0, 31), ([], 19, 12, 8, 105, 0, 0, 34)],
  [eD, eD, ([], 0, 1, 0, 0, 0, 44, 36), eD, ([], 22, 1, 13824, 0, 0, 0, 37), ([], 0, 1, 0, 0, 0, -3, 39), eD, ([], 9, 3, 0, 0, 0, 0, 40), ([], 14, 2, 0, 0, 0, 0, 41), ([], 23, 1, 13824, 0, 0, 0, 42), ([], 4, 0, 0, 0, 0, 0, 43), ([], 19, 12, 8, 105, 0, 0, 46), eD, eD, ([], 0, 1, 0, 0, 0, 49, 48), eD],
  [([], 0, 1, 0, 0, 0, 100, 50), eD, ([], 2, 1, 0, 0, 0, 0, 51), ([], 9, 2, 0, 0, 0, 0, 52), ([], 4, 0, 0, 0, 0, 0, 53), ([], 19, 12, 0, 97, 0, 0, 56), eD, eD, ([], 10, 0, 0, 0, 0, 0, 57), ([], 14, 2, 0, 0, 0, 0, 58), ([], 23, 1, 13824, 0, 0, 0, 59), ([], 4, 0, 0, 0, 0, 0, 60), ([], 27, 178, 0, 293, 12, 0, 63), eD, eD, ([], 5, 2, 0, 0, 0, 0, 64)],
  [([], 4, 0, 0, 0, 0, 0, 65), ([], 0, 0, 0, 0, 0, 0, 66), ([], 20, 12, 3, 100, 0, 0, 69), eD, eD, ([], 2, 2, 0, 0, 0, 0, 70), ([], 15, 0, 77, 0, 0, 0, 73), eD, eD, ([], 0, 0, 0, 0, 0, 1, 74), ([], 17, 0, 79, 0, 0, 0, 77), eD, eD, ([], 0, 1, 0, 0, 0, -7, 79), eD, ([], 29, 0, 0, 0, 0, 0, 80)]]
set_option maxRecDepth 100000 in
theorem ok228 : okM 228 cd228 = true := by decide +kernel
def cd229 : List (List EM) := [[([], 4, 0, 0, 0, 0, 0, 1), ([], 19, 12, 3, 100, 0, 0, 4), eD, eD, ([], 15, 0, 10, 0, 0, 0, 7), eD, eD, ([], 0, 1, 0, 0, 0, -2, 9), eD, ([], 29, 0, 0, 0, 0, 0, 10), ([], 4, 0, 0, 0, 0, 0, 11), ([], 0, 0, 0, 0, 0, 1, 12), ([], 20, 12, 35, 132, 0, 0, 15), eD, eD, ([], 4, 0, 0, 0, 0, 0, 16)],
  [([], 0, 0, 0, 0, 0, 0, 17), ([], 20, 12, 36, 133, 0, 0, 20), eD, eD, ([], 4, 0, 0, 0, 0, 0, 21), ([], 27, 192, 0, 252, 12, 0, 24), eD, eD, ([], 15, 1, 35, 0, 0, 0, 27), eD, eD, ([], 0, 1, 0, 0, 0, -10, 29), eD, ([], 4, 0, 0, 0, 0, 0, 30), ([], 19, 12, 9, 106, 0, 0, 33), eD],
  [eD, ([], 9, 1, 0, 0, 0, 0, 34), ([], 29, 0, 0, 0, 0, 0, 35), ([], 4, 0, 0, 0, 0, 0, 36), ([], 27, 177, 0, 292, 12, 0, 39), eD, eD, ([], 4, 0, 0, 0, 0, 0, 40), ([], 19, 12, 12, 109, 0, 0, 43), eD, eD, ([], 15, 0, 87, 0, 0, 0, 46), eD, eD, ([], 0, 0, 0, 0, 0, 0, 47), ([], 5, 1, 0, 0, 0, 0, 48)],
  [([true, true, false, false], 2, 1, 0, 0, 0, 0, 49), ([], 0, 2, 0, 0, 0, 256, 52), eD, eD, ([], 16, 3, 77, 0, 0, 0, 55), eD, eD, ([], 4, 0, 0, 0, 0, 0, 56), ([], 19, 12, 8, 105, 0, 0, 59), eD, eD, ([], 2, 1, 0, 0, 0, 0, 60), ([], 4, 0, 0, 0, 0, 0, 61), ([], 19, 12, 7, 104, 0, 0, 64), eD, eD],
  [([], 0, 2, 0, 0, 0, 256, 67), eD, eD, ([], 2, 1, 0, 0, 0, 0, 68), ([], 9, 0, 0, 0, 0, 0, 69), ([], 22, 1, 13824, 0, 0, 0, 70), ([], 23, 1, 13824, 0, 0, 0, 71), ([], 8, 1, 0, 0, 0, 1, 74), eD, eD, ([], 17, 0, 48, 0, 0, 0, 77), eD, eD, ([], 4, 0, 0, 0, 0, 0, 78), ([], 27, 178, 0, 293, 12, 0, 81), eD],
  [eD, ([], 15, 1, 87, 0, 0, 0, 84), eD, eD, ([], 0, 1, 0, 0, 0, -7, 86), eD, ([], 29, 0, 0, 0, 0, 0, 87), ([true, false, false, false], 4, 0, 0, 0, 0, 0, 88), ([], 27, 224, 0, 263, 12, 0, 91), eD, eD, ([], 5, 1, 0, 0, 0, 0, 92), ([], 4, 0, 0, 0, 0, 0, 93), ([], 27, 178, 0, 293, 12, 0, 96), eD, eD],
  [([], 15, 1, 102, 0, 0, 0, 99), eD, eD, ([], 0, 1, 0, 0, 0, -7, 101), eD, ([], 29, 0, 0, 0, 0, 0, 102), ([], 4, 0, 0, 0, 0, 0, 103), ([], 27, 226, 0, 288, 12, 0, 106), eD, eD, ([], 15, 0, 113, 0, 0, 0, 109), eD, eD, ([], 0, 0, 0, 0, 0, 0, 110), ([], 17, 0, 114, 0, 0, 0, 113), eD],
  [eD, ([], 0, 0, 0, 0, 0, 1, 114), ([], 5, 2, 0, 0, 0, 0, 115), ([], 0, 0, 0, 0, 0, 0, 116), ([], 5, 3, 0, 0, 0, 0, 117), ([true, false, true, true], 2, 3, 0, 0, 0, 0, 118), ([], 4, 0, 0, 0, 0, 0, 119), ([], 19, 12, 0, 97, 0, 0, 122), eD, eD, ([], 0, 1, 0, 0, 0, 7, 124), eD, ([], 9, 0, 0, 0, 0, 0, 125), ([], 0, 1, 0, 0, 0, 8, 127), eD, ([], 10, 0, 0, 0, 0, 0, 128)],
  [([], 16, 3, 157, 0, 0, 0, 131), eD, eD, ([], 4, 0, 0, 0, 0, 0, 132), ([], 19, 12, 8, 105, 0, 0, 135), eD, eD, ([], 4, 0, 0, 0, 0, 0, 136), ([], 19, 12, 2, 99, 0, 0, 139), eD, eD, ([], 28, 169, 1, 249, 0, 0, 142), eD, eD, ([], 2, 3, 0, 0, 0, 0, 143), ([], 9, 0, 0, 0, 0, 0, 144)],
  [([], 4, 0, 0, 0, 0, 0, 145), ([], 2, 3, 0, 0, 0, 0, 146), ([], 27, 225, 1, 289, 12, 0, 149), eD, eD, ([], 14, 2, 0, 0, 0, 0, 150), ([], 23, 1, 13824, 0, 0, 0, 151), ([], 8, 3, 0, 0, 0, 1, 154), eD, eD, ([], 17, 0, 117, 0, 0, 0, 157), eD, eD, ([], 4, 0, 0, 0, 0, 0, 158), ([], 27, 178, 0, 293, 12, 0, 161), eD],
  [eD, ([], 15, 0, 173, 0, 0, 0, 164), eD, eD, ([], 4, 0, 0, 0, 0, 0, 165), ([], 19, 12, 36, 133, 0, 0, 168), eD, eD, ([], 2, 2, 0, 0, 0, 0, 169), ([], 9, 0, 0, 0, 0, 0, 170), ([], 17, 0, 175, 0, 0, 0, 173), eD, eD, ([], 0, 1, 0, 0, 0, -7, 175), eD, ([], 29, 0, 0, 0, 0, 0, 176)]]
set_option maxRecDepth 100000 in
theorem ok229 : okM 229 cd229 = true := by decide +kernel
def cd230 : List (List EM) := [[([], 0, 0, 0, 0, 0, 0, 1), ([], 5, 3, 0, 0, 0, 0, 2), ([], 0, 0, 0, 0, 0, 0, 3), ([], 5, 4, 1, 0, 0, 0, 5), eD, ([true, true, false, true, true, false], 2, 4, 1, 0, 0, 0, 7), eD, ([], 0, 0, 0, 0, 0, 4, 8), ([], 16, 3, 41, 0, 0, 0, 11), eD, eD, ([], 2, 3, 0, 0, 0, 0, 12), ([], 3, 1, 0, 0, 0, 0, 13), ([], 0, 1, 0, 0, 0, 16, 15), eD, ([], 2, 4, 1, 0, 0, 0, 17)],
  [eD, ([], 9, 2, 0, 0, 0, 0, 18), ([], 13, 1, 0, 0, 0, 0, 19), ([], 1, 2, 0, 16, 0, 65535, 22), eD, eD, ([], 11, 3, 0, 0, 0, 0, 23), ([], 1, 0, 0, 0, 0, 0, 24), ([], 18, 0, 32, 0, 0, 0, 28), eD, eD, eD, ([], 0, 0, 0, 0, 0, 1, 29), ([], 17, 0, 33, 0, 0, 0, 32), eD, eD],
  [([], 0, 0, 0, 0, 0, 0, 33), ([], 9, 0, 0, 0, 0, 0, 34), ([], 5, 3, 0, 0, 0, 0, 35), ([], 8, 4, 0, 0, 0, 1, 38), eD, eD, ([], 17, 0, 5, 0, 0, 0, 41), eD, eD, ([], 4, 0, 0, 0, 0, 0, 42), ([], 19, 12, 41, 138, 0, 0, 45), eD, eD, ([], 2, 3, 0, 0, 0, 0, 46), ([], 9, 0, 0, 0, 0, 0, 47), ([], 0, 1, 0, 0, 0, 30, 49)],
  [eD, ([], 16, 5, 54, 0, 0, 0, 52), eD, eD, ([], 0, 0, 0, 0, 0, -1, 53), ([], 29, 0, 0, 0, 0, 0, 54), ([], 0, 0, 0, 0, 0, 0, 55), ([], 5, 4, 1, 0, 0, 0, 57), eD, ([true, true, false, false, true, false], 2, 4, 1, 0, 0, 0, 59), eD, ([], 0, 0, 0, 0, 0, 4, 60), ([], 16, 3, 109, 0, 0, 0, 63), eD, eD, ([], 3, 1, 0, 0, 0, 0, 64)],
  [([], 0, 1, 0, 0, 0, 16, 66), eD, ([], 2, 4, 1, 0, 0, 0, 68), eD, ([], 9, 2, 0, 0, 0, 0, 69), ([], 13, 1, 0, 0, 0, 0, 70), ([], 1, 2, 0, 16, 0, 65535, 73), eD, eD, ([], 11, 3, 0, 0, 0, 0, 74), ([], 14, 1, 0, 0, 0, 0, 75), ([], 5, 5, 1, 0, 0, 0, 77), eD, ([], 2, 5, 1, 0, 0, 0, 79), eD, ([], 15, 0, 103, 0, 0, 0, 82)],
  [eD, eD, ([], 4, 0, 0, 0, 0, 0, 83), ([], 19, 12, 40, 137, 0, 0, 86), eD, eD, ([], 4, 0, 0, 0, 0, 0, 87), ([], 19, 12, 41, 138, 0, 0, 90), eD, eD, ([], 2, 5, 1, 0, 0, 0, 92), eD, ([], 23, 0, 30, 0, 0, 0, 93), ([], 4, 0, 0, 0, 0, 0, 94), ([], 24, 0, 0, 0, 0, 0, 95), ([], 19, 12, 41, 138, 0, 0, 98)],
  [eD, eD, ([], 0, 0, 0, 0, 0, 1, 99), ([], 9, 0, 0, 0, 0, 0, 100), ([], 20, 12, 41, 138, 0, 0, 103), eD, eD, ([], 8, 4, 0, 0, 0, 1, 106), eD, eD, ([], 17, 0, 57, 0, 0, 0, 109), eD, eD, ([], 4, 0, 0, 0, 0, 0, 110), ([], 19, 12, 41, 138, 0, 0, 113), eD],
  [eD, ([], 29, 0, 0, 0, 0, 0, 114)]]
set_option maxRecDepth 100000 in
theorem ok230 : okM 230 cd230 = true := by decide +kernel
def cd231 : List (List EM) := [[([], 4, 0, 0, 0, 0, 0, 1), ([], 19, 12, 41, 138, 0, 0, 4), eD, eD, ([], 5, 1, 0, 0, 0, 0, 5), ([], 4, 0, 0, 0, 0, 0, 6), ([], 0, 0, 0, 0, 0, 0, 7), ([], 20, 12, 41, 138, 0, 0, 10), eD, eD, ([], 2, 1, 0, 0, 0, 0, 11), ([], 29, 0, 0, 0, 0, 0, 12)]]
set_option maxRecDepth 100000 in
theorem ok231 : okM 231 cd231 = true := by decide +kernel
def cd232 : List (List EM) := [[([], 4, 0, 0, 0, 0, 0, 1), ([], 2, 1, 0, 0, 0, 0, 2), ([], 20, 12, 4, 101, 0, 0, 5), eD, eD, ([], 31, 0, 0, 0, 0, 0, 6)]]
set_option maxRecDepth 100000 in
theorem ok232 : okM 232 cd232 = true := by decide +kernel
def cd233 : List (List EM) := [[([], 4, 0, 0, 0, 0, 0, 1), ([], 19, 12, 41, 138, 0, 0, 4), eD, eD, ([], 5, 1, 0, 0, 0, 0, 5), ([], 4, 0, 0, 0, 0, 0, 6), ([], 0, 0, 0, 0, 0, 0, 7), ([], 20, 12, 41, 138, 0, 0, 10), eD, eD, ([], 2, 1, 0, 0, 0, 0, 11), ([], 29, 0, 0, 0, 0, 0, 12)]]
set_option maxRecDepth 100000 in
theorem ok233 : okM 233 cd233 = true := by decide +kernel
def cd234 : List (List EM) := [[([], 4, 0, 0, 0, 0, 0, 1), ([], 2, 2, 0, 0, 0, 0, 2), ([], 20, 12, 38, 135, 0, 0, 5), eD, eD, ([], 0, 0, 0, 0, 0, 0, 6), ([], 5, 3, 0, 0, 0, 0, 7), ([true, true, true, true], 2, 3, 0, 0, 0, 0, 8), ([], 2, 2, 0, 0, 0, 0, 9), ([], 16, 3, 30, 0, 0, 0, 12), eD, eD, ([], 4, 0, 0, 0, 0, 0, 13), ([], 19, 12, 37, 134, 0, 0, 16), eD, eD],
  [([], 2, 3, 0, 0, 0, 0, 17), ([], 4, 0, 0, 0, 0, 0, 18), ([], 19, 12, 40, 137, 0, 0, 21), eD, eD, ([], 2, 3, 0, 0, 0, 0, 22), ([], 22, 0, 30, 0, 0, 0, 23), ([], 23, 0, 30, 0, 0, 0, 24), ([], 8, 3, 0, 0, 0, 1, 27), eD, eD, ([], 17, 0, 7, 0, 0, 0, 30), eD, eD, ([], 4, 0, 0, 0, 0, 0, 31), ([], 2, 1, 0, 0, 0, 0, 32)],
  [([], 27, 210, 1, 266, 12, 0, 35), eD, eD, ([], 0, 0, 0, 0, 0, 1, 36), ([], 5, 3, 0, 0, 0, 0, 37), ([true, true, false, true], 2, 3, 0, 0, 0, 0, 38), ([], 4, 0, 0, 0, 0, 0, 39), ([], 19, 12, 34, 131, 0, 0, 42), eD, eD, ([], 16, 3, 76, 0, 0, 0, 45), eD, eD, ([], 4, 0, 0, 0, 0, 0, 46), ([], 19, 12, 26, 123, 0, 0, 49), eD],
  [eD, ([], 2, 3, 0, 0, 0, 0, 50), ([], 22, 0, 200, 0, 0, 0, 51), ([], 2, 1, 0, 0, 0, 0, 52), ([], 16, 1, 70, 0, 0, 0, 55), eD, eD, ([], 4, 0, 0, 0, 0, 0, 56), ([], 4, 0, 0, 0, 0, 0, 57), ([], 19, 12, 27, 124, 0, 0, 60), eD, eD, ([], 2, 3, 0, 0, 0, 0, 61), ([], 22, 0, 200, 0, 0, 0, 62), ([], 27, 219, 1, 284, 12, 0, 65), eD],
  [eD, ([], 15, 0, 70, 0, 0, 0, 68), eD, eD, ([], 2, 3, 0, 0, 0, 0, 69), ([], 29, 0, 0, 0, 0, 0, 70), ([], 8, 3, 0, 0, 0, 1, 73), eD, eD, ([], 17, 0, 37, 0, 0, 0, 76), eD, eD, ([], 0, 1, 0, 0, 0, -9, 78), eD, ([], 29, 0, 0, 0, 0, 0, 79)]]
set_option maxRecDepth 100000 in
theorem ok234 : okM 234 cd234 = true := by decide +kernel
def cd235 : List (List EM) := [[([], 4, 0, 0, 0, 0, 0, 1), ([], 27, 233, 0, 294, 12, 0, 4), eD, eD, ([], 5, 2, 0, 0, 0, 0, 5), ([], 4, 0, 0, 0, 0, 0, 6), ([], 19, 12, 3, 100, 0, 0, 9), eD, eD, ([], 15, 1, 15, 0, 0, 0, 12), eD, eD, ([], 0, 1, 0, 0, 0, -2, 14), eD, ([], 29, 0, 0, 0, 0, 0, 15), ([], 4, 0, 0, 0, 0, 0, 16)],
  [([], 2, 1, 0, 0, 0, 0, 17), ([], 27, 213, 1, 295, 12, 0, 20), eD, eD, ([], 5, 3, 0, 0, 0, 0, 21), ([], 2, 3, 0, 0, 0, 0, 22), ([], 0, 1, 0, 0, 0, -9, 24), eD, ([], 16, 1, 29, 0, 0, 0, 27), eD, eD, ([], 0, 0, 0, 0, 0, -1, 28), ([], 29, 0, 0, 0, 0, 0, 29), ([], 4, 0, 0, 0, 0, 0, 30), ([], 19, 12, 40, 137, 0, 0, 33), eD],
  [eD, ([], 2, 2, 0, 0, 0, 0, 34), ([], 28, 202, 2, 275, 0, 0, 37), eD, eD, ([], 15, 1, 43, 0, 0, 0, 40), eD, eD, ([], 0, 1, 0, 0, 0, -3, 42), eD, ([], 29, 0, 0, 0, 0, 0, 43), ([], 4, 0, 0, 0, 0, 0, 44), ([], 2, 3, 0, 0, 0, 0, 45), ([], 2, 2, 0, 0, 0, 0, 46), ([], 27, 234, 2, 298, 12, 0, 49), eD],
  [eD, ([], 5, 4, 1, 0, 0, 0, 51), eD, ([], 2, 4, 1, 0, 0, 0, 53), eD, ([], 0, 1, 0, 0, 0, -9, 55), eD, ([], 16, 1, 63, 0, 0, 0, 58), eD, eD, ([], 0, 1, 0, 0, 0, -9, 60), eD, ([], 17, 0, 70, 0, 0, 0, 63), eD, eD, ([], 4, 0, 0, 0, 0, 0, 64)],
  [([], 19, 12, 25, 122, 0, 0, 67), eD, eD, ([], 2, 4, 1, 0, 0, 0, 69), eD, ([], 22, 0, 200, 0, 0, 0, 70), ([], 29, 0, 0, 0, 0, 0, 71)]]
set_option maxRecDepth 100000 in
theorem ok235 : okM 235 cd235 = true := by decide +kernel
def cd236 : List (List EM) := [[([], 4, 0, 0, 0, 0, 0, 1), ([], 19, 12, 3, 100, 0, 0, 4), eD, eD, ([], 15, 1, 10, 0, 0, 0, 7), eD, eD, ([], 0, 1, 0, 0, 0, -2, 9), eD, ([], 29, 0, 0, 0, 0, 0, 10), ([], 4, 0, 0, 0, 0, 0, 11), ([], 2, 1, 0, 0, 0, 0, 12), ([], 27, 213, 1, 295, 12, 0, 15), eD, eD, ([], 5, 3, 0, 0, 0, 0, 16)],
  [([], 2, 3, 0, 0, 0, 0, 17), ([], 0, 1, 0, 0, 0, -9, 19), eD, ([], 16, 1, 24, 0, 0, 0, 22), eD, eD, ([], 0, 0, 0, 0, 0, -1, 23), ([], 29, 0, 0, 0, 0, 0, 24), ([], 2, 2, 0, 0, 0, 0, 25), ([], 5, 4, 1, 0, 0, 0, 27), eD, ([], 0, 0, 0, 0, 0, 1, 28), ([], 5, 5, 1, 0, 0, 0, 30), eD, ([true, false, false, true, true, true], 2, 5, 1, 0, 0, 0, 32), eD],
  [([], 4, 0, 0, 0, 0, 0, 33), ([], 19, 12, 34, 131, 0, 0, 36), eD, eD, ([], 16, 3, 77, 0, 0, 0, 39), eD, eD, ([], 2, 4, 1, 0, 0, 0, 41), eD, ([], 15, 2, 77, 0, 0, 0, 44), eD, eD, ([], 4, 0, 0, 0, 0, 0, 45), ([], 19, 12, 26, 123, 0, 0, 48), eD, eD],
  [([], 2, 5, 1, 0, 0, 0, 50), eD, ([], 22, 0, 200, 0, 0, 0, 51), ([], 2, 3, 0, 0, 0, 0, 52), ([], 16, 1, 71, 0, 0, 0, 55), eD, eD, ([], 2, 4, 1, 0, 0, 0, 57), eD, ([], 15, 1, 68, 0, 0, 0, 60), eD, eD, ([], 4, 0, 0, 0, 0, 0, 61), ([], 19, 12, 25, 122, 0, 0, 64), eD, eD],
  [([], 2, 5, 1, 0, 0, 0, 66), eD, ([], 22, 0, 200, 0, 0, 0, 67), ([], 29, 0, 0, 0, 0, 0, 68), ([], 8, 4, 0, 0, 0, -1, 71), eD, eD, ([], 8, 5, 0, 0, 0, 1, 74), eD, eD, ([], 17, 0, 30, 0, 0, 0, 77), eD, eD, ([], 0, 1, 0, 0, 0, -9, 79), eD, ([], 29, 0, 0, 0, 0, 0, 80)]]
set_option maxRecDepth 100000 in
theorem ok236 : okM 236 cd236 = true := by decide +kernel
def cd237 : List (List EM) := [[([], 2, 1, 0, 0, 0, 0, 1), ([], 14, 0, 0, 0, 0, 0, 2), ([], 1, 2, 0, 14, 0, 2, 5), eD, eD, ([], 4, 0, 0, 0, 0, 0, 6), ([], 19, 12, 0, 97, 0, 0, 9), eD, eD, ([], 0, 0, 0, 0, 0, 1, 10), ([], 9, 0, 0, 0, 0, 0, 11), ([], 14, 0, 0, 0, 0, 0, 12), ([], 28, 166, 3, 243, 0, 0, 15), eD, eD, ([], 15, 0, 43, 0, 0, 0, 18)],
  [eD, eD, ([], 4, 0, 0, 0, 0, 0, 19), ([], 4, 0, 0, 0, 0, 0, 20), ([], 19, 12, 7, 104, 0, 0, 23), eD, eD, ([], 2, 1, 0, 0, 0, 0, 24), ([], 27, 173, 2, 291, 12, 0, 27), eD, eD, ([], 15, 1, 43, 0, 0, 0, 30), eD, eD, ([], 4, 0, 0, 0, 0, 0, 31), ([], 19, 12, 48, 145, 0, 0, 34)],
  [eD, eD, ([], 2, 1, 0, 0, 0, 0, 35), ([], 22, 1, 102, 0, 0, 0, 36), ([], 15, 1, 43, 0, 0, 0, 39), eD, eD, ([], 0, 0, 0, 0, 0, 1, 40), ([], 17, 0, 44, 0, 0, 0, 43), eD, eD, ([], 0, 0, 0, 0, 0, 0, 44), ([], 29, 0, 0, 0, 1, 0, 45)]]
set_option maxRecDepth 100000 in
theorem ok237 : okM 237 cd237 = true := by decide +kernel
def cd238 : List (List EM) := [[([], 0, 0, 0, 0, 0, 0, 1), ([], 5, 1, 0, 0, 0, 0, 2), ([], 0, 0, 0, 0, 0, 2, 3), ([], 5, 2, 0, 0, 0, 0, 4), ([true, true, true], 2, 2, 0, 0, 0, 0, 5), ([], 4, 0, 0, 0, 0, 0, 6), ([], 19, 12, 0, 97, 0, 0, 9), eD, eD, ([], 0, 0, 0, 0, 0, 1, 10), ([], 9, 0, 0, 0, 0, 0, 11), ([], 16, 4, 40, 0, 0, 0, 14), eD, eD, ([], 2, 1, 0, 0, 0, 0, 15), ([], 4, 0, 0, 0, 0, 0, 16)],
  [([], 4, 0, 0, 0, 0, 0, 17), ([], 19, 12, 7, 104, 0, 0, 20), eD, eD, ([], 2, 2, 0, 0, 0, 0, 21), ([], 27, 173, 2, 291, 12, 0, 24), eD, eD, ([], 15, 0, 31, 0, 0, 0, 27), eD, eD, ([], 0, 0, 0, 0, 0, 0, 28), ([], 17, 0, 32, 0, 0, 0, 31), eD, eD, ([], 0, 0, 0, 0, 0, 1, 32)],
  [([], 9, 0, 0, 0, 0, 0, 33), ([], 5, 1, 0, 0, 0, 0, 34), ([], 8, 2, 0, 0, 0, 1, 37), eD, eD, ([], 17, 0, 4, 0, 0, 0, 40), eD, eD, ([], 2, 1, 0, 0, 0, 0, 41), ([], 29, 0, 0, 0, 0, 0, 42)]]
set_option maxRecDepth 100000 in
theorem ok238 : okM 238 cd238 = true := by decide +kernel
def cd239 : List (List EM) := [[([], 0, 0, 0, 0, 0, 0, 1), ([], 5, 1, 0, 0, 0, 0, 2), ([true, true], 2, 1, 0, 0, 0, 0, 3), ([], 0, 1, 0, 0, 0, 102, 5), eD, ([], 16, 3, 21, 0, 0, 0, 8), eD, eD, ([], 4, 0, 0, 0, 0, 0, 9), ([], 19, 12, 48, 145, 0, 0, 12), eD, eD, ([], 2, 1, 0, 0, 0, 0, 13), ([], 0, 0, 0, 0, 0, 0, 14), ([], 23, 1, 102, 0, 0, 0, 15), ([], 8, 1, 0, 0, 0, 1, 18)],
  [eD, eD, ([], 17, 0, 2, 0, 0, 0, 21), eD, eD, ([], 0, 0, 0, 0, 0, 0, 22), ([], 5, 1, 0, 0, 0, 0, 23), ([true, true], 2, 1, 0, 0, 0, 0, 24), ([], 0, 0, 0, 0, 0, 2, 25), ([], 16, 3, 62, 0, 0, 0, 28), eD, eD, ([], 4, 0, 0, 0, 0, 0, 29), ([], 19, 12, 43, 140, 0, 0, 32), eD, eD],
  [([], 2, 1, 0, 0, 0, 0, 33), ([], 0, 0, 0, 0, 0, 0, 34), ([], 23, 0, 2, 0, 0, 0, 35), ([], 4, 0, 0, 0, 0, 0, 36), ([], 19, 12, 45, 142, 0, 0, 39), eD, eD, ([], 2, 1, 0, 0, 0, 0, 40), ([], 0, 0, 0, 0, 0, 0, 41), ([], 23, 0, 2, 0, 0, 0, 42), ([], 4, 0, 0, 0, 0, 0, 43), ([], 19, 12, 46, 143, 0, 0, 46), eD, eD, ([], 2, 1, 0, 0, 0, 0, 47), ([], 0, 0, 0, 0, 0, 0, 48)],
  [([], 23, 1, 2, 0, 0, 0, 49), ([], 4, 0, 0, 0, 0, 0, 50), ([], 19, 12, 47, 144, 0, 0, 53), eD, eD, ([], 2, 1, 0, 0, 0, 0, 54), ([], 0, 0, 0, 0, 0, 0, 55), ([], 23, 1, 2, 0, 0, 0, 56), ([], 8, 1, 0, 0, 0, 1, 59), eD, eD, ([], 17, 0, 23, 0, 0, 0, 62), eD, eD, ([], 31, 0, 0, 0, 0, 0, 63)]]
set_option maxRecDepth 100000 in
theorem ok239 : okM 239 cd239 = true := by decide +kernel
def cd240 : List (List EM) := [[([], 4, 0, 0, 0, 0, 0, 1), ([], 2, 2, 0, 0, 0, 0, 2), ([], 27, 210, 1, 266, 12, 0, 5), eD, eD, ([], 4, 0, 0, 0, 0, 0, 6), ([], 19, 12, 43, 140, 0, 0, 9), eD, eD, ([], 2, 1, 0, 0, 0, 0, 10), ([], 4, 0, 0, 0, 0, 0, 11), ([], 19, 12, 17, 114, 0, 0, 14), eD, eD, ([], 23, 0, 2, 0, 0, 0, 15), ([], 0, 0, 0, 0, 0, 0, 16)],
  [([], 5, 3, 0, 0, 0, 0, 17), ([true, true, true, true], 2, 3, 0, 0, 0, 0, 18), ([], 4, 0, 0, 0, 0, 0, 19), ([], 19, 12, 17, 114, 0, 0, 22), eD, eD, ([], 16, 3, 48, 0, 0, 0, 25), eD, eD, ([], 4, 0, 0, 0, 0, 0, 26), ([], 19, 12, 42, 139, 0, 0, 29), eD, eD, ([], 0, 1, 0, 0, 0, 102, 31), eD, ([], 2, 1, 0, 0, 0, 0, 32)],
  [([], 9, 2, 0, 0, 0, 0, 33), ([], 2, 3, 0, 0, 0, 0, 34), ([], 9, 0, 0, 0, 0, 0, 35), ([], 4, 0, 0, 0, 0, 0, 36), ([], 19, 12, 16, 113, 0, 0, 39), eD, eD, ([], 2, 3, 0, 0, 0, 0, 40), ([], 22, 0, 102, 0, 0, 0, 41), ([], 23, 0, 204, 0, 0, 0, 42), ([], 8, 3, 0, 0, 0, 1, 45), eD, eD, ([], 17, 0, 17, 0, 0, 0, 48), eD, eD],
  [([], 4, 0, 0, 0, 0, 0, 49), ([], 19, 12, 46, 143, 0, 0, 52), eD, eD, ([], 2, 1, 0, 0, 0, 0, 53), ([], 4, 0, 0, 0, 0, 0, 54), ([], 19, 12, 30, 127, 0, 0, 57), eD, eD, ([], 2, 2, 0, 0, 0, 0, 58), ([], 22, 1, 200, 0, 0, 0, 59), ([], 23, 1, 2, 0, 0, 0, 60), ([], 4, 0, 0, 0, 0, 0, 61), ([], 19, 12, 47, 144, 0, 0, 64), eD, eD],
  [([], 2, 1, 0, 0, 0, 0, 65), ([], 4, 0, 0, 0, 0, 0, 66), ([], 19, 12, 30, 127, 0, 0, 69), eD, eD, ([], 2, 2, 0, 0, 0, 0, 70), ([], 22, 1, 200, 0, 0, 0, 71), ([], 23, 1, 2, 0, 0, 0, 72), ([], 31, 0, 0, 0, 0, 0, 73)]]
set_option maxRecDepth 100000 in
theorem ok240 : okM 240 cd240 = true := by decide +kernel
def cd241 : List (List EM) := [[([], 4, 0, 0, 0, 0, 0, 1), ([], 19, 12, 44, 141, 0, 0, 4), eD, eD, ([], 0, 1, 0, 0, 0, 102, 6), eD, ([], 2, 1, 0, 0, 0, 0, 7), ([], 9, 2, 0, 0, 0, 0, 8), ([], 4, 0, 0, 0, 0, 0, 9), ([], 19, 12, 45, 142, 0, 0, 12), eD, eD, ([], 2, 1, 0, 0, 0, 0, 13), ([], 22, 0, 2, 0, 0, 0, 14), ([], 9, 0, 0, 0, 0, 0, 15), ([], 2, 2, 0, 0, 0, 0, 16)],
  [([], 23, 0, 204, 0, 0, 0, 17), ([], 4, 0, 0, 0, 0, 0, 18), ([], 19, 12, 45, 142, 0, 0, 21), eD, eD, ([], 2, 1, 0, 0, 0, 0, 22), ([], 35, 0, 0, 0, 0, 0, 23), ([], 22, 0, 2, 0, 0, 0, 24), ([], 0, 0, 0, 0, 0, 1, 25), ([], 9, 0, 0, 0, 0, 0, 26), ([], 23, 0, 2, 0, 0, 0, 27), ([], 4, 0, 0, 0, 0, 0, 28), ([], 19, 12, 48, 145, 0, 0, 31), eD, eD, ([], 2, 2, 0, 0, 0, 0, 32)],
  [([], 0, 0, 0, 0, 0, 1, 33), ([], 23, 1, 102, 0, 0, 0, 34), ([], 31, 0, 0, 0, 0, 0, 35)]]
set_option maxRecDepth 100000 in
theorem ok241 : okM 241 cd241 = true := by decide +kernel
def cd242 : List (List EM) := [[([], 0, 0, 0, 0, 0, 1, 1), ([], 5, 3, 0, 0, 0, 0, 2), ([], 0, 0, 0, 0, 0, 0, 3), ([], 5, 4, 1, 0, 0, 0, 5), eD, ([true, true, true, true, true], 2, 4, 1, 0, 0, 0, 7), eD, ([], 2, 2, 0, 0, 0, 0, 8), ([], 16, 3, 30, 0, 0, 0, 11), eD, eD, ([], 2, 3, 0, 0, 0, 0, 12), ([], 15, 0, 30, 0, 0, 0, 15), eD, eD, ([], 4, 0, 0, 0, 0, 0, 16)],
  [([], 2, 1, 0, 0, 0, 0, 17), ([], 2, 4, 1, 0, 0, 0, 19), eD, ([], 9, 0, 0, 0, 0, 0, 20), ([], 27, 237, 1, 301, 12, 0, 23), eD, eD, ([], 5, 3, 0, 0, 0, 0, 24), ([], 8, 4, 0, 0, 0, 1, 27), eD, eD, ([], 17, 0, 5, 0, 0, 0, 30), eD, eD, ([], 2, 3, 0, 0, 0, 0, 31), ([], 29, 0, 0, 0, 1, 0, 32)]]
set_option maxRecDepth 100000 in
theorem ok242 : okM 242 cd242 = true := by decide +kernel
def cd243 : List (List EM) := [[([], 0, 0, 0, 0, 0, 0, 1), ([], 5, 3, 0, 0, 0, 0, 2), ([], 0, 0, 0, 0, 0, 2, 3), ([], 5, 4, 1, 0, 0, 0, 5), eD, ([true, true, true, true, true, false, false], 2, 4, 1, 0, 0, 0, 7), eD, ([], 4, 0, 0, 0, 0, 0, 8), ([], 19, 12, 0, 97, 0, 0, 11), eD, eD, ([], 0, 0, 0, 0, 0, 1, 12), ([], 9, 0, 0, 0, 0, 0, 13), ([], 16, 4, 39, 0, 0, 0, 16), eD, eD],
  [([], 2, 3, 0, 0, 0, 0, 17), ([], 4, 0, 0, 0, 0, 0, 18), ([], 2, 4, 1, 0, 0, 0, 20), eD, ([], 27, 237, 1, 301, 12, 0, 23), eD, eD, ([], 15, 0, 30, 0, 0, 0, 26), eD, eD, ([], 0, 0, 0, 0, 0, 1, 27), ([], 17, 0, 31, 0, 0, 0, 30), eD, eD, ([], 0, 0, 0, 0, 0, 0, 31), ([], 9, 0, 0, 0, 0, 0, 32)],
  [([], 5, 3, 0, 0, 0, 0, 33), ([], 8, 4, 0, 0, 0, 1, 36), eD, eD, ([], 17, 0, 5, 0, 0, 0, 39), eD, eD, ([], 2, 3, 0, 0, 0, 0, 40), ([], 2, 2, 0, 0, 0, 0, 41), ([], 16, 3, 46, 0, 0, 0, 44), eD, eD, ([], 0, 0, 0, 0, 0, 0, 45), ([], 29, 0, 0, 0, 1, 0, 46), ([], 0, 1, 0, 0, 0, -9, 48), eD],
  [([], 5, 4, 1, 0, 0, 0, 50), eD, ([], 4, 0, 0, 0, 0, 0, 51), ([], 19, 12, 43, 140, 0, 0, 54), eD, eD, ([], 2, 1, 0, 0, 0, 0, 55), ([], 22, 0, 2, 0, 0, 0, 56), ([], 15, 1, 101, 0, 0, 0, 59), eD, eD, ([], 4, 0, 0, 0, 0, 0, 60), ([], 19, 12, 0, 97, 0, 0, 63), eD, eD, ([], 0, 0, 0, 0, 0, 1, 64)],
  [([], 9, 0, 0, 0, 0, 0, 65), ([], 5, 5, 1, 0, 0, 0, 67), eD, ([true, true, true, false, true, true, false], 2, 5, 1, 0, 0, 0, 69), eD, ([], 0, 0, 0, 0, 0, 2, 70), ([], 16, 2, 98, 0, 0, 0, 73), eD, eD, ([], 4, 0, 0, 0, 0, 0, 74), ([], 2, 5, 1, 0, 0, 0, 76), eD, ([], 2, 2, 0, 0, 0, 0, 77), ([], 27, 242, 2, 302, 12, 0, 80), eD, eD],
  [([], 15, 0, 88, 0, 0, 0, 83), eD, eD, ([], 2, 5, 1, 0, 0, 0, 85), eD, ([], 17, 0, 90, 0, 0, 0, 88), eD, eD, ([], 2, 4, 1, 0, 0, 0, 90), eD, ([], 5, 4, 1, 0, 0, 0, 92), eD, ([], 8, 5, 0, 0, 0, -1, 95), eD, eD, ([], 17, 0, 67, 0, 0, 0, 98)],
  [eD, eD, ([], 17, 0, 160, 0, 0, 0, 101), eD, eD, ([], 4, 0, 0, 0, 0, 0, 102), ([], 19, 12, 46, 143, 0, 0, 105), eD, eD, ([], 2, 1, 0, 0, 0, 0, 106), ([], 22, 1, 2, 0, 0, 0, 107), ([], 15, 0, 160, 0, 0, 0, 110), eD, eD, ([], 4, 0, 0, 0, 0, 0, 111), ([], 4, 0, 0, 0, 0, 0, 112)],
  [([], 19, 12, 42, 139, 0, 0, 115), eD, eD, ([], 0, 1, 0, 0, 0, 102, 117), eD, ([], 2, 1, 0, 0, 0, 0, 118), ([], 9, 2, 0, 0, 0, 0, 119), ([], 4, 0, 0, 0, 0, 0, 120), ([], 19, 12, 43, 140, 0, 0, 123), eD, eD, ([], 2, 1, 0, 0, 0, 0, 124), ([], 22, 0, 2, 0, 0, 0, 125), ([], 9, 0, 0, 0, 0, 0, 126), ([], 0, 0, 0, 0, 0, 1, 127), ([], 9, 1, 0, 0, 0, 0, 128)],
  [([], 22, 0, 204, 0, 0, 0, 129), ([], 0, 0, 0, 0, 0, 1, 130), ([], 9, 0, 0, 0, 0, 0, 131), ([], 2, 2, 0, 0, 0, 0, 132), ([], 27, 242, 2, 302, 12, 0, 135), eD, eD, ([], 15, 0, 160, 0, 0, 0, 138), eD, eD, ([], 4, 0, 0, 0, 0, 0, 139), ([], 19, 12, 42, 139, 0, 0, 142), eD, eD, ([], 0, 1, 0, 0, 0, 102, 144), eD],
  [([], 2, 1, 0, 0, 0, 0, 145), ([], 9, 2, 0, 0, 0, 0, 146), ([], 4, 0, 0, 0, 0, 0, 147), ([], 19, 12, 43, 140, 0, 0, 150), eD, eD, ([], 2, 1, 0, 0, 0, 0, 151), ([], 22, 0, 2, 0, 0, 0, 152), ([], 9, 0, 0, 0, 0, 0, 153), ([], 0, 0, 0, 0, 0, 1, 154), ([], 9, 1, 0, 0, 0, 0, 155), ([], 22, 0, 204, 0, 0, 0, 156), ([], 0, 0, 0, 0, 0, 1, 157), ([], 9, 0, 0, 0, 0, 0, 158), ([], 5, 4, 1, 0, 0, 0, 160), eD],
  [([true, true, true, false, true, false, false], 4, 0, 0, 0, 0, 0, 161), ([], 19, 12, 47, 144, 0, 0, 164), eD, eD, ([], 2, 1, 0, 0, 0, 0, 165), ([], 2, 4, 1, 0, 0, 0, 167), eD, ([], 0, 1, 0, 0, 0, -9, 169), eD, ([], 16, 0, 176, 0, 0, 0, 172), eD, eD, ([], 0, 0, 0, 0, 0, 1, 173), ([], 17, 0, 177, 0, 0, 0, 176), eD, eD],
  [([], 0, 0, 0, 0, 0, 0, 177), ([], 23, 1, 2, 0, 0, 0, 178), ([], 0, 0, 0, 0, 0, 0, 179), ([], 5, 5, 1, 0, 0, 0, 181), eD, ([true, true, true, false, true, true, false], 2, 5, 1, 0, 0, 0, 183), eD, ([], 2, 2, 0, 0, 0, 0, 184), ([], 16, 3, 232, 0, 0, 0, 187), eD, eD, ([], 2, 4, 1, 0, 0, 0, 189), eD, ([], 2, 5, 1, 0, 0, 0, 191), eD, ([], 9, 0, 0, 0, 0, 0, 192)],
  [([], 5, 6, 1, 0, 0, 0, 194), eD, ([], 2, 4, 1, 0, 0, 0, 196), eD, ([], 0, 1, 0, 0, 0, -9, 198), eD, ([], 16, 1, 219, 0, 0, 0, 201), eD, eD, ([], 0, 0, 0, 0, 0, 2, 202), ([], 5, 6, 1, 0, 0, 0, 204), eD, ([true, true, true, false, true, true, true], 4, 0, 0, 0, 0, 0, 205), ([], 2, 6, 1, 0, 0, 0, 207), eD, ([], 27, 237, 1, 301, 12, 0, 210)],
  [eD, eD, ([], 15, 1, 219, 0, 0, 0, 213), eD, eD, ([], 8, 6, 0, 0, 0, 1, 216), eD, eD, ([], 17, 0, 204, 0, 0, 0, 219), eD, eD, ([], 4, 0, 0, 0, 0, 0, 220), ([], 2, 1, 0, 0, 0, 0, 221), ([], 2, 6, 1, 0, 0, 0, 223), eD, ([], 27, 241, 2, 303, 12, 0, 226)],
  [eD, eD, ([], 8, 5, 0, 0, 0, 1, 229), eD, eD, ([], 17, 0, 181, 0, 0, 0, 232), eD, eD, ([], 0, 0, 0, 0, 0, 1, 233), ([], 29, 0, 0, 0, 1, 0, 234)]]
set_option maxRecDepth 100000 in
theorem ok243 : okM 243 cd243 = true := by decide +kernel
def cd244 : List (List EM) := [[([], 4, 0, 0, 0, 0, 0, 1), ([], 19, 12, 45, 142, 0, 0, 4), eD, eD, ([], 2, 1, 0, 0, 0, 0, 5), ([], 22, 0, 2, 0, 0, 0, 6), ([], 15, 0, 18, 0, 0, 0, 9), eD, eD, ([], 4, 0, 0, 0, 0, 0, 10), ([], 19, 12, 47, 144, 0, 0, 13), eD, eD, ([], 2, 1, 0, 0, 0, 0, 14), ([], 22, 1, 2, 0, 0, 0, 15), ([], 15, 0, 19, 0, 0, 0, 18)],
  [eD, eD, ([], 31, 0, 0, 0, 0, 0, 19), ([], 0, 0, 0, 0, 0, 0, 20), ([], 5, 2, 0, 0, 0, 0, 21), ([true, true, true], 2, 2, 0, 0, 0, 0, 22), ([], 0, 0, 0, 0, 0, 1, 23), ([], 9, 0, 0, 0, 0, 0, 24), ([], 4, 0, 0, 0, 0, 0, 25), ([], 19, 12, 43, 140, 0, 0, 28), eD, eD, ([], 2, 1, 0, 0, 0, 0, 29), ([], 22, 0, 2, 0, 0, 0, 30), ([], 16, 3, 77, 0, 0, 0, 33), eD],
  [eD, ([], 4, 0, 0, 0, 0, 0, 34), ([], 19, 12, 46, 143, 0, 0, 37), eD, eD, ([], 2, 1, 0, 0, 0, 0, 38), ([], 22, 1, 2, 0, 0, 0, 39), ([], 15, 0, 77, 0, 0, 0, 42), eD, eD, ([], 4, 0, 0, 0, 0, 0, 43), ([], 4, 0, 0, 0, 0, 0, 44), ([], 19, 12, 42, 139, 0, 0, 47), eD, eD, ([], 0, 1, 0, 0, 0, 102, 49)],
  [eD, ([], 2, 1, 0, 0, 0, 0, 50), ([], 9, 2, 0, 0, 0, 0, 51), ([], 2, 2, 0, 0, 0, 0, 52), ([], 9, 0, 0, 0, 0, 0, 53), ([], 22, 0, 204, 0, 0, 0, 54), ([], 4, 0, 0, 0, 0, 0, 55), ([], 19, 12, 42, 139, 0, 0, 58), eD, eD, ([], 0, 1, 0, 0, 0, 102, 60), eD, ([], 2, 1, 0, 0, 0, 0, 61), ([], 9, 2, 0, 0, 0, 0, 62), ([], 2, 2, 0, 0, 0, 0, 63), ([], 9, 0, 0, 0, 0, 0, 64)],
  [([], 0, 0, 0, 0, 0, 1, 65), ([], 9, 0, 0, 0, 0, 0, 66), ([], 22, 0, 204, 0, 0, 0, 67), ([], 14, 0, 0, 0, 0, 0, 68), ([], 27, 172, 2, 285, 12, 0, 71), eD, eD, ([], 8, 2, 0, 0, 0, 1, 74), eD, eD, ([], 17, 0, 21, 0, 0, 0, 77), eD, eD, ([], 0, 0, 0, 0, 0, 0, 78), ([], 5, 2, 0, 0, 0, 0, 79), ([true, true, true], 2, 2, 0, 0, 0, 0, 80)],
  [([], 4, 0, 0, 0, 0, 0, 81), ([], 19, 12, 45, 142, 0, 0, 84), eD, eD, ([], 2, 1, 0, 0, 0, 0, 85), ([], 22, 0, 2, 0, 0, 0, 86), ([], 16, 3, 142, 0, 0, 0, 89), eD, eD, ([], 4, 0, 0, 0, 0, 0, 90), ([], 4, 0, 0, 0, 0, 0, 91), ([], 19, 12, 44, 141, 0, 0, 94), eD, eD, ([], 0, 1, 0, 0, 0, 102, 96), eD],
  [([], 2, 1, 0, 0, 0, 0, 97), ([], 9, 2, 0, 0, 0, 0, 98), ([], 2, 2, 0, 0, 0, 0, 99), ([], 9, 0, 0, 0, 0, 0, 100), ([], 22, 0, 204, 0, 0, 0, 101), ([], 2, 2, 0, 0, 0, 0, 102), ([], 0, 0, 0, 0, 0, 1, 103), ([], 9, 0, 0, 0, 0, 0, 104), ([], 4, 0, 0, 0, 0, 0, 105), ([], 19, 12, 45, 142, 0, 0, 108), eD, eD, ([], 2, 1, 0, 0, 0, 0, 109), ([], 22, 0, 2, 0, 0, 0, 110), ([], 16, 3, 130, 0, 0, 0, 113), eD],
  [eD, ([], 4, 0, 0, 0, 0, 0, 114), ([], 19, 12, 44, 141, 0, 0, 117), eD, eD, ([], 0, 1, 0, 0, 0, 102, 119), eD, ([], 2, 1, 0, 0, 0, 0, 120), ([], 9, 2, 0, 0, 0, 0, 121), ([], 2, 2, 0, 0, 0, 0, 122), ([], 9, 0, 0, 0, 0, 0, 123), ([], 0, 0, 0, 0, 0, 1, 124), ([], 9, 0, 0, 0, 0, 0, 125), ([], 22, 0, 204, 0, 0, 0, 126), ([], 14, 0, 0, 0, 0, 0, 127), ([], 17, 0, 133, 0, 0, 0, 130)],
  [eD, eD, ([], 1, 2, 0, 13, 0, 4294967295, 133), eD, eD, ([], 27, 172, 2, 285, 12, 0, 136), eD, eD, ([], 8, 2, 0, 0, 0, 1, 139), eD, eD, ([], 17, 0, 79, 0, 0, 0, 142), eD, eD, ([], 31, 0, 0, 0, 0, 0, 143)]]
set_option maxRecDepth 100000 in
theorem ok244 : okM 244 cd244 = true := by decide +kernel
def cd245 : List (List EM) := [[([], 4, 0, 0, 0, 0, 0, 1), ([], 19, 12, 45, 142, 0, 0, 4), eD, eD, ([], 2, 1, 0, 0, 0, 0, 5), ([], 22, 0, 2, 0, 0, 0, 6), ([], 15, 5, 59, 0, 0, 0, 9), eD, eD, ([], 4, 0, 0, 0, 0, 0, 10), ([], 19, 12, 43, 140, 0, 0, 13), eD, eD, ([], 2, 1, 0, 0, 0, 0, 14), ([], 22, 0, 2, 0, 0, 0, 15), ([], 15, 5, 59, 0, 0, 0, 18)],
  [eD, eD, ([], 4, 0, 0, 0, 0, 0, 19), ([], 19, 12, 47, 144, 0, 0, 22), eD, eD, ([], 2, 1, 0, 0, 0, 0, 23), ([], 22, 1, 2, 0, 0, 0, 24), ([], 15, 1, 59, 0, 0, 0, 27), eD, eD, ([], 4, 0, 0, 0, 0, 0, 28), ([], 4, 0, 0, 0, 0, 0, 29), ([], 19, 12, 42, 139, 0, 0, 32), eD, eD],
  [([], 0, 1, 0, 0, 0, 102, 34), eD, ([], 2, 1, 0, 0, 0, 0, 35), ([], 9, 2, 0, 0, 0, 0, 36), ([], 4, 0, 0, 0, 0, 0, 37), ([], 19, 12, 43, 140, 0, 0, 40), eD, eD, ([], 2, 1, 0, 0, 0, 0, 41), ([], 22, 0, 2, 0, 0, 0, 42), ([], 9, 0, 0, 0, 0, 0, 43), ([], 0, 0, 0, 0, 0, 1, 44), ([], 9, 1, 0, 0, 0, 0, 45), ([], 22, 0, 204, 0, 0, 0, 46), ([], 4, 0, 0, 0, 0, 0, 47), ([], 19, 12, 44, 141, 0, 0, 50)],
  [eD, eD, ([], 0, 1, 0, 0, 0, 102, 52), eD, ([], 2, 1, 0, 0, 0, 0, 53), ([], 9, 2, 0, 0, 0, 0, 54), ([], 22, 0, 204, 0, 0, 0, 55), ([], 14, 0, 0, 0, 0, 0, 56), ([], 27, 172, 2, 285, 12, 0, 59), eD, eD, ([], 31, 0, 0, 0, 0, 0, 60)]]
set_option maxRecDepth 100000 in
theorem ok245 : okM 245 cd245 = true := by decide +kernel
def cd246 : List (List EM) := [[([], 4, 0, 0, 0, 0, 0, 1), ([], 0, 0, 0, 0, 0, 0, 2), ([], 27, 244, 1, 317, 12, 0, 5), eD, eD, ([], 4, 0, 0, 0, 0, 0, 6), ([], 0, 0, 0, 0, 0, 1, 7), ([], 27, 244, 1, 317, 12, 0, 10), eD, eD, ([], 4, 0, 0, 0, 0, 0, 11), ([], 27, 178, 0, 293, 12, 0, 14), eD, eD, ([], 15, 1, 19, 0, 0, 0, 17), eD],
  [eD, ([], 0, 0, 0, 0, 0, 0, 18), ([], 29, 0, 0, 0, 1, 0, 19), ([], 4, 0, 0, 0, 0, 0, 20), ([], 0, 0, 0, 0, 0, 0, 21), ([], 27, 245, 1, 318, 12, 0, 24), eD, eD, ([], 4, 0, 0, 0, 0, 0, 25), ([], 0, 0, 0, 0, 0, 1, 26), ([], 27, 245, 1, 318, 12, 0, 29), eD, eD, ([], 4, 0, 0, 0, 0, 0, 30), ([], 27, 178, 0, 293, 12, 0, 33), eD],
  [eD, ([], 29, 0, 0, 0, 1, 0, 34)]]
set_option maxRecDepth 100000 in
theorem ok246 : okM 246 cd246 = true := by decide +kernel
def cd247 : List (List EM) := [[([], 0, 0, 0, 0, 0, 0, 1), ([], 5, 2, 0, 0, 0, 0, 2), ([true, true, true], 2, 2, 0, 0, 0, 0, 3), ([], 4, 0, 0, 0, 0, 0, 4), ([], 19, 12, 45, 142, 0, 0, 7), eD, eD, ([], 2, 1, 0, 0, 0, 0, 8), ([], 22, 0, 2, 0, 0, 0, 9), ([], 16, 3, 34, 0, 0, 0, 12), eD, eD, ([], 4, 0, 0, 0, 0, 0, 13), ([], 4, 0, 0, 0, 0, 0, 14), ([], 19, 12, 44, 141, 0, 0, 17), eD],
  [eD, ([], 0, 1, 0, 0, 0, 102, 19), eD, ([], 2, 1, 0, 0, 0, 0, 20), ([], 9, 2, 0, 0, 0, 0, 21), ([], 2, 2, 0, 0, 0, 0, 22), ([], 9, 0, 0, 0, 0, 0, 23), ([], 22, 0, 204, 0, 0, 0, 24), ([], 0, 0, 0, 0, 0, 1, 25), ([], 27, 174, 2, 320, 12, 0, 28), eD, eD, ([], 8, 2, 0, 0, 0, 1, 31), eD, eD, ([], 17, 0, 2, 0, 0, 0, 34)],
  [eD, eD, ([], 31, 0, 0, 0, 0, 0, 35)]]
set_option maxRecDepth 100000 in
theorem ok247 : okM 247 cd247 = true := by decide +kernel
def cd248 : List (List EM) := [[([], 2, 2, 0, 0, 0, 0, 1), ([], 4, 0, 0, 0, 0, 0, 2), ([], 19, 12, 43, 140, 0, 0, 5), eD, eD, ([], 2, 1, 0, 0, 0, 0, 6), ([], 22, 0, 2, 0, 0, 0, 7), ([], 16, 3, 24, 0, 0, 0, 10), eD, eD, ([], 4, 0, 0, 0, 0, 0, 11), ([], 19, 12, 42, 139, 0, 0, 14), eD, eD, ([], 0, 1, 0, 0, 0, 102, 16), eD],
  [([], 2, 1, 0, 0, 0, 0, 17), ([], 9, 2, 0, 0, 0, 0, 18), ([], 2, 2, 0, 0, 0, 0, 19), ([], 9, 0, 0, 0, 0, 0, 20), ([], 22, 0, 204, 0, 0, 0, 21), ([], 17, 0, 42, 0, 0, 0, 24), eD, eD, ([], 4, 0, 0, 0, 0, 0, 25), ([], 19, 12, 44, 141, 0, 0, 28), eD, eD, ([], 0, 1, 0, 0, 0, 102, 30), eD, ([], 2, 1, 0, 0, 0, 0, 31), ([], 9, 2, 0, 0, 0, 0, 32)],
  [([], 2, 2, 0, 0, 0, 0, 33), ([], 9, 0, 0, 0, 0, 0, 34), ([], 4, 0, 0, 0, 0, 0, 35), ([], 19, 12, 43, 140, 0, 0, 38), eD, eD, ([], 2, 1, 0, 0, 0, 0, 39), ([], 22, 0, 2, 0, 0, 0, 40), ([], 9, 1, 0, 0, 0, 0, 41), ([], 22, 0, 204, 0, 0, 0, 42), ([], 29, 0, 0, 0, 0, 0, 43)]]
set_option maxRecDepth 100000 in
theorem ok248 : okM 248 cd248 = true := by decide +kernel
def cd249 : List (List EM) := [[([], 0, 0, 0, 0, 0, 0, 1), ([], 5, 2, 0, 0, 0, 0, 2), ([true, true, true, false], 2, 2, 0, 0, 0, 0, 3), ([], 4, 0, 0, 0, 0, 0, 4), ([], 19, 12, 45, 142, 0, 0, 7), eD, eD, ([], 2, 1, 0, 0, 0, 0, 8), ([], 22, 0, 2, 0, 0, 0, 9), ([], 16, 3, 55, 0, 0, 0, 12), eD, eD, ([], 0, 0, 0, 0, 0, 0, 13), ([], 5, 3, 0, 0, 0, 0, 14), ([true, true, true, true], 2, 3, 0, 0, 0, 0, 15), ([], 0, 2, 0, 0, 0, 128, 18)],
  [eD, eD, ([], 16, 3, 49, 0, 0, 0, 21), eD, eD, ([], 4, 0, 0, 0, 0, 0, 22), ([], 19, 12, 8, 105, 0, 0, 25), eD, eD, ([], 4, 0, 0, 0, 0, 0, 26), ([], 19, 12, 44, 141, 0, 0, 29), eD, eD, ([], 0, 1, 0, 0, 0, 102, 31), eD, ([], 2, 1, 0, 0, 0, 0, 32)],
  [([], 9, 2, 0, 0, 0, 0, 33), ([], 2, 2, 0, 0, 0, 0, 34), ([], 9, 0, 0, 0, 0, 0, 35), ([], 22, 0, 204, 0, 0, 0, 36), ([], 28, 169, 1, 249, 0, 0, 39), eD, eD, ([], 2, 3, 0, 0, 0, 0, 40), ([], 9, 0, 0, 0, 0, 0, 41), ([], 0, 0, 0, 0, 0, 0, 42), ([], 23, 1, 13824, 0, 0, 0, 43), ([], 8, 3, 0, 0, 0, 1, 46), eD, eD, ([], 17, 0, 14, 0, 0, 0, 49), eD],
  [eD, ([], 8, 2, 0, 0, 0, 1, 52), eD, eD, ([], 17, 0, 2, 0, 0, 0, 55), eD, eD, ([], 31, 0, 0, 0, 0, 0, 56)]]
set_option maxRecDepth 100000 in
theorem ok249 : okM 249 cd249 = true := by decide +kernel
def cd250 : List (List EM) := [[([], 4, 0, 0, 0, 0, 0, 1), ([], 4, 0, 0, 0, 0, 0, 2), ([], 19, 12, 43, 140, 0, 0, 5), eD, eD, ([], 2, 1, 0, 0, 0, 0, 6), ([], 22, 0, 2, 0, 0, 0, 7), ([], 4, 0, 0, 0, 0, 0, 8), ([], 19, 12, 45, 142, 0, 0, 11), eD, eD, ([], 2, 1, 0, 0, 0, 0, 12), ([], 22, 0, 2, 0, 0, 0, 13), ([], 9, 0, 0, 0, 0, 0, 14), ([], 20, 12, 17, 114, 0, 0, 17), eD],
  [eD, ([], 0, 0, 0, 0, 0, 0, 18), ([], 5, 2, 0, 0, 0, 0, 19), ([true, true, true], 2, 2, 0, 0, 0, 0, 20), ([], 4, 0, 0, 0, 0, 0, 21), ([], 19, 12, 17, 114, 0, 0, 24), eD, eD, ([], 16, 3, 45, 0, 0, 0, 27), eD, eD, ([], 4, 0, 0, 0, 0, 0, 28), ([], 19, 12, 16, 113, 0, 0, 31), eD, eD, ([], 2, 2, 0, 0, 0, 0, 32)],
  [([], 4, 0, 0, 0, 0, 0, 33), ([], 2, 1, 0, 0, 0, 0, 34), ([], 2, 2, 0, 0, 0, 0, 35), ([], 27, 248, 2, 307, 12, 0, 38), eD, eD, ([], 23, 0, 102, 0, 0, 0, 39), ([], 8, 2, 0, 0, 0, 1, 42), eD, eD, ([], 17, 0, 19, 0, 0, 0, 45), eD, eD, ([], 31, 0, 0, 0, 0, 0, 46)]]
set_option maxRecDepth 100000 in
theorem ok250 : okM 250 cd250 = true := by decide +kernel
def cd251 : List (List EM) := [[([], 4, 0, 0, 0, 0, 0, 1), ([], 19, 12, 8, 105, 0, 0, 4), eD, eD, ([], 4, 0, 0, 0, 0, 0, 5), ([], 2, 1, 0, 0, 0, 0, 6), ([], 27, 197, 1, 270, 12, 0, 9), eD, eD, ([], 22, 1, 13824, 0, 0, 0, 10), ([], 0, 2, 0, 0, 0, 255, 13), eD, eD, ([], 9, 3, 0, 0, 0, 0, 14), ([], 29, 0, 0, 0, 0, 0, 15)]]
set_option maxRecDepth 100000 in
theorem ok251 : okM 251 cd251 = true := by decide +kernel
def cd252 : List (List EM) := [[([], 0, 0, 0, 0, 0, 0, 1), ([], 5, 2, 0, 0, 0, 0, 2), ([true, true, true, false, false], 2, 2, 0, 0, 0, 0, 3), ([], 2, 1, 0, 0, 0, 0, 4), ([], 9, 0, 0, 0, 0, 0, 5), ([], 4, 0, 0, 0, 0, 0, 6), ([], 27, 199, 0, 268, 12, 0, 9), eD, eD, ([], 16, 4, 63, 0, 0, 0, 12), eD, eD, ([], 0, 0, 0, 0, 0, 1, 13), ([], 5, 3, 0, 0, 0, 0, 14), ([], 0, 0, 0, 0, 0, 0, 15), ([], 5, 4, 1, 0, 0, 0, 17)],
  [eD, ([true, true, true, true, true], 2, 4, 1, 0, 0, 0, 19), eD, ([], 2, 1, 0, 0, 0, 0, 20), ([], 16, 3, 51, 0, 0, 0, 23), eD, eD, ([], 2, 3, 0, 0, 0, 0, 24), ([], 4, 0, 0, 0, 0, 0, 25), ([], 2, 2, 0, 0, 0, 0, 26), ([], 2, 4, 1, 0, 0, 0, 28), eD, ([], 9, 0, 0, 0, 0, 0, 29), ([], 27, 251, 1, 309, 12, 0, 32), eD, eD],
  [([], 0, 2, 0, 0, 0, 128, 35), eD, eD, ([], 16, 3, 42, 0, 0, 0, 38), eD, eD, ([], 0, 0, 0, 0, 0, 1, 39), ([], 17, 0, 43, 0, 0, 0, 42), eD, eD, ([], 0, 0, 0, 0, 0, 0, 43), ([], 9, 3, 0, 0, 0, 0, 44), ([], 5, 3, 0, 0, 0, 0, 45), ([], 8, 4, 0, 0, 0, 1, 48), eD, eD],
  [([], 17, 0, 17, 0, 0, 0, 51), eD, eD, ([], 2, 3, 0, 0, 0, 0, 52), ([], 15, 0, 57, 0, 0, 0, 55), eD, eD, ([], 2, 2, 0, 0, 0, 0, 56), ([], 29, 0, 0, 0, 0, 0, 57), ([], 8, 2, 0, 0, 0, 2, 60), eD, eD, ([], 17, 0, 2, 0, 0, 0, 63), eD, eD, ([], 0, 1, 0, 0, 0, -9, 65)],
  [eD, ([], 29, 0, 0, 0, 0, 0, 66)]]
set_option maxRecDepth 100000 in
theorem ok252 : okM 252 cd252 = true := by decide +kernel
def cd253 : List (List EM) := [[([], 4, 0, 0, 0, 0, 0, 1), ([], 19, 12, 8, 105, 0, 0, 4), eD, eD, ([], 4, 0, 0, 0, 0, 0, 5), ([], 2, 1, 0, 0, 0, 0, 6), ([], 27, 197, 1, 270, 12, 0, 9), eD, eD, ([], 0, 0, 0, 0, 0, 2, 10), ([], 9, 0, 0, 0, 0, 0, 11), ([], 0, 0, 0, 0, 0, 2, 12), ([], 4, 0, 0, 0, 0, 0, 13), ([], 4, 0, 0, 0, 0, 0, 14), ([], 19, 12, 8, 105, 0, 0, 17), eD],
  [eD, ([], 2, 1, 0, 0, 0, 0, 18), ([], 2, 2, 0, 0, 0, 0, 19), ([], 27, 204, 3, 277, 12, 0, 22), eD, eD, ([], 14, 0, 0, 0, 0, 0, 23), ([], 28, 168, 4, 246, 0, 0, 26), eD, eD, ([], 31, 0, 0, 0, 0, 0, 27)]]
set_option maxRecDepth 100000 in
theorem ok253 : okM 253 cd253 = true := by decide +kernel
def cd254 : List (List EM) := [[([], 0, 0, 0, 0, 0, 0, 1), ([], 5, 12, 1, 0, 0, 0, 3), eD, ([true, true, true, true, true, false, true, false, true, false, true, true, true, false, false, false], 2, 12, 1, 0, 0, 0, 5), eD, ([], 2, 1, 0, 0, 0, 0, 6), ([], 16, 3, 40, 0, 0, 0, 9), eD, eD, ([], 4, 0, 0, 0, 0, 0, 10), ([], 2, 12, 1, 0, 0, 0, 12), eD, ([], 4, 0, 0, 0, 0, 0, 13), ([], 2, 12, 1, 0, 0, 0, 15), eD, ([], 27, 251, 1, 309, 12, 0, 18)],
  [eD, eD, ([], 15, 1, 25, 0, 0, 0, 21), eD, eD, ([], 0, 0, 0, 0, 0, 1, 22), ([], 17, 0, 31, 0, 0, 0, 25), eD, eD, ([], 4, 0, 0, 0, 0, 0, 26), ([], 2, 12, 1, 0, 0, 0, 28), eD, ([], 27, 251, 1, 309, 12, 0, 31), eD, eD, ([], 27, 221, 2, 271, 12, 0, 34)],
  [eD, eD, ([], 8, 12, 0, 0, 0, 1, 37), eD, eD, ([], 17, 0, 3, 0, 0, 0, 40), eD, eD, ([], 2, 2, 0, 0, 0, 0, 41), ([], 0, 1, 0, 0, 0, 15, 43), eD, ([], 16, 5, 50, 0, 0, 0, 46), eD, eD, ([], 0, 0, 0, 0, 0, 4, 47), ([], 17, 0, 51, 0, 0, 0, 50)],
  [eD, eD, ([], 0, 0, 0, 0, 0, 3, 51), ([], 5, 12, 1, 0, 0, 0, 53), eD, ([], 0, 0, 0, 0, 0, 0, 54), ([], 5, 13, 1, 0, 0, 0, 56), eD, ([true, true, true, true, true, false, true, false, true, false, true, true, true, true, false, false], 2, 13, 1, 0, 0, 0, 58), eD, ([], 2, 12, 1, 0, 0, 0, 60), eD, ([], 16, 3, 102, 0, 0, 0, 63), eD, eD, ([], 0, 0, 0, 0, 0, 0, 64)],
  [([], 5, 14, 1, 0, 0, 0, 66), eD, ([true, true, true, true, true, false, true, false, true, false, true, true, true, true, true, false], 2, 14, 1, 0, 0, 0, 68), eD, ([], 0, 1, 0, 0, 0, 32, 70), eD, ([], 16, 3, 96, 0, 0, 0, 73), eD, eD, ([], 4, 0, 0, 0, 0, 0, 74), ([], 19, 12, 8, 105, 0, 0, 77), eD, eD, ([], 4, 0, 0, 0, 0, 0, 78), ([], 2, 1, 0, 0, 0, 0, 79), ([], 2, 13, 1, 0, 0, 0, 81)],
  [eD, ([], 9, 0, 0, 0, 0, 0, 82), ([], 27, 197, 1, 270, 12, 0, 85), eD, eD, ([], 2, 14, 1, 0, 0, 0, 87), eD, ([], 9, 0, 0, 0, 0, 0, 88), ([], 0, 0, 0, 0, 0, 0, 89), ([], 23, 1, 13824, 0, 0, 0, 90), ([], 8, 14, 0, 0, 0, 1, 93), eD, eD, ([], 17, 0, 66, 0, 0, 0, 96), eD, eD],
  [([], 8, 13, 0, 0, 0, 1, 99), eD, eD, ([], 17, 0, 56, 0, 0, 0, 102), eD, eD, ([], 4, 0, 0, 0, 0, 0, 103), ([], 2, 1, 0, 0, 0, 0, 104), ([], 27, 197, 1, 270, 12, 0, 107), eD, eD, ([], 5, 13, 1, 0, 0, 0, 109), eD, ([], 4, 0, 0, 0, 0, 0, 110), ([], 19, 12, 8, 105, 0, 0, 113), eD],
  [eD, ([], 2, 13, 1, 0, 0, 0, 115), eD, ([], 0, 1, 0, 0, 0, -123, 117), eD, ([], 23, 1, 13824, 0, 0, 0, 118), ([], 4, 0, 0, 0, 0, 0, 119), ([], 19, 12, 8, 105, 0, 0, 122), eD, eD, ([], 2, 13, 1, 0, 0, 0, 124), eD, ([], 0, 0, 0, 0, 0, 1, 125), ([], 9, 0, 0, 0, 0, 0, 126), ([], 2, 12, 1, 0, 0, 0, 128), eD],
  [([], 0, 0, 0, 0, 0, 1, 129), ([], 9, 1, 0, 0, 0, 0, 130), ([], 14, 2, 0, 0, 0, 0, 131), ([], 23, 1, 13824, 0, 0, 0, 132), ([], 4, 0, 0, 0, 0, 0, 133), ([], 19, 12, 8, 105, 0, 0, 136), eD, eD, ([], 2, 13, 1, 0, 0, 0, 138), eD, ([], 0, 0, 0, 0, 0, 4, 139), ([], 9, 0, 0, 0, 0, 0, 140), ([], 0, 0, 0, 0, 0, 2, 141), ([], 2, 3, 0, 0, 0, 0, 142), ([], 14, 0, 0, 0, 0, 0, 143), ([], 28, 168, 4, 246, 0, 0, 146)],
  [eD, eD, ([], 4, 0, 0, 0, 0, 0, 147), ([], 19, 12, 8, 105, 0, 0, 150), eD, eD, ([], 2, 13, 1, 0, 0, 0, 152), eD, ([], 0, 1, 0, 0, 0, 8, 154), eD, ([], 9, 0, 0, 0, 0, 0, 155), ([], 0, 0, 0, 0, 0, 4, 156), ([], 3, 4, 1, 0, 0, 0, 158), eD, ([], 28, 168, 4, 246, 0, 0, 161), eD],
  [eD, ([], 4, 0, 0, 0, 0, 0, 162), ([], 19, 12, 8, 105, 0, 0, 165), eD, eD, ([], 2, 13, 1, 0, 0, 0, 167), eD, ([], 0, 1, 0, 0, 0, 12, 169), eD, ([], 9, 0, 0, 0, 0, 0, 170), ([], 0, 0, 0, 0, 0, 4, 171), ([], 3, 6, 1, 0, 0, 0, 173), eD, ([], 28, 168, 4, 246, 0, 0, 176), eD, eD],
  [([], 4, 0, 0, 0, 0, 0, 177), ([], 2, 1, 0, 0, 0, 0, 178), ([], 0, 0, 0, 0, 0, 1, 179), ([], 9, 0, 0, 0, 0, 0, 180), ([], 27, 197, 1, 270, 12, 0, 183), eD, eD, ([], 5, 14, 1, 0, 0, 0, 185), eD, ([], 4, 0, 0, 0, 0, 0, 186), ([], 19, 12, 8, 105, 0, 0, 189), eD, eD, ([], 2, 14, 1, 0, 0, 0, 191), eD, ([], 0, 1, 0, 0, 0, -64, 193)],
  [eD, ([], 23, 1, 13824, 0, 0, 0, 194), ([], 4, 0, 0, 0, 0, 0, 195), ([], 19, 12, 8, 105, 0, 0, 198), eD, eD, ([], 2, 14, 1, 0, 0, 0, 200), eD, ([], 0, 0, 0, 0, 0, 3, 201), ([], 9, 0, 0, 0, 0, 0, 202), ([], 2, 2, 0, 0, 0, 0, 203), ([], 14, 2, 0, 0, 0, 0, 204), ([], 23, 1, 13824, 0, 0, 0, 205), ([], 4, 0, 0, 0, 0, 0, 206), ([], 19, 12, 8, 105, 0, 0, 209), eD],
  [eD, ([], 2, 14, 1, 0, 0, 0, 211), eD, ([], 0, 0, 0, 0, 0, 4, 212), ([], 9, 0, 0, 0, 0, 0, 213), ([], 0, 0, 0, 0, 0, 2, 214), ([], 4, 0, 0, 0, 0, 0, 215), ([], 4, 0, 0, 0, 0, 0, 216), ([], 19, 12, 40, 137, 0, 0, 219), eD, eD, ([], 2, 2, 0, 0, 0, 0, 220), ([], 27, 203, 2, 278, 12, 0, 223), eD, eD, ([], 14, 0, 0, 0, 0, 0, 224)],
  [([], 28, 168, 4, 246, 0, 0, 227), eD, eD, ([], 4, 0, 0, 0, 0, 0, 228), ([], 2, 14, 1, 0, 0, 0, 230), eD, ([], 3, 8, 1, 0, 0, 0, 232), eD, ([], 2, 10, 1, 0, 0, 0, 234), eD, ([], 2, 11, 1, 0, 0, 0, 236), eD, ([], 27, 255, 4, 323, 12, 0, 239), eD, eD, ([], 0, 0, 0, 0, 0, 0, 240)],
  [([], 5, 15, 1, 0, 0, 0, 242), eD, ([true, true, true, false, false, false, false, false, false, false, false, false, true, false, false, true], 2, 15, 1, 0, 0, 0, 244), eD, ([], 2, 2, 0, 0, 0, 0, 245), ([], 16, 3, 293, 0, 0, 0, 248), eD, eD, ([], 4, 0, 0, 0, 0, 0, 249), ([], 19, 12, 8, 105, 0, 0, 252), eD, eD, ([], 4, 0, 0, 0, 0, 0, 253), ([], 2, 1, 0, 0, 0, 0, 254), ([], 0, 0, 0, 0, 0, 2, 255), ([], 9, 0, 0, 0, 0, 0, 256)],
  [([], 2, 15, 1, 0, 0, 0, 258), eD, ([], 0, 1, 0, 0, 0, 15, 260), eD, ([], 10, 0, 0, 0, 0, 0, 261), ([], 9, 0, 0, 0, 0, 0, 262), ([], 27, 197, 1, 270, 12, 0, 265), eD, eD, ([], 0, 0, 0, 0, 0, 2, 266), ([], 9, 0, 0, 0, 0, 0, 267), ([], 0, 0, 0, 0, 0, 2, 268), ([], 2, 15, 1, 0, 0, 0, 270), eD, ([], 0, 1, 0, 0, 0, 15, 272), eD],
  [([], 10, 1, 0, 0, 0, 0, 273), ([], 9, 2, 0, 0, 0, 0, 274), ([], 9, 0, 0, 0, 0, 0, 275), ([], 0, 0, 0, 0, 0, 2, 276), ([], 4, 0, 0, 0, 0, 0, 277), ([], 19, 12, 40, 137, 0, 0, 280), eD, eD, ([], 2, 15, 1, 0, 0, 0, 282), eD, ([], 22, 0, 30, 0, 0, 0, 283), ([], 14, 0, 0, 0, 0, 0, 284), ([], 28, 168, 4, 246, 0, 0, 287), eD, eD, ([], 8, 15, 0, 0, 0, 1, 290)],
  [eD, eD, ([], 17, 0, 242, 0, 0, 0, 293), eD, eD, ([], 0, 0, 0, 0, 0, 2, 294), ([], 5, 15, 1, 0, 0, 0, 296), eD, ([true, true, false, false, false, false, false, false, false, false, false, false, true, false, false, true], 2, 15, 1, 0, 0, 0, 298), eD, ([], 2, 12, 1, 0, 0, 0, 300), eD, ([], 16, 3, 324, 0, 0, 0, 303), eD, eD, ([], 4, 0, 0, 0, 0, 0, 304)],
  [([], 19, 12, 8, 105, 0, 0, 307), eD, eD, ([], 4, 0, 0, 0, 0, 0, 308), ([], 2, 1, 0, 0, 0, 0, 309), ([], 2, 15, 1, 0, 0, 0, 311), eD, ([], 9, 0, 0, 0, 0, 0, 312), ([], 27, 197, 1, 270, 12, 0, 315), eD, eD, ([], 0, 1, 0, 0, 0, -63, 317), eD, ([], 23, 1, 13824, 0, 0, 0, 318), ([], 8, 15, 0, 0, 0, 1, 321), eD],
  [eD, ([], 17, 0, 296, 0, 0, 0, 324), eD, eD, ([], 4, 0, 0, 0, 0, 0, 325), ([], 2, 1, 0, 0, 0, 0, 326), ([], 2, 12, 1, 0, 0, 0, 328), eD, ([], 27, 253, 2, 324, 12, 0, 331), eD, eD, ([], 31, 0, 0, 0, 0, 0, 332)]]
set_option maxRecDepth 100000 in
theorem ok254 : okM 254 cd254 = true := by decide +kernel
def cd255 : List (List EM) := [[([], 4, 0, 0, 0, 0, 0, 1), ([], 19, 12, 8, 105, 0, 0, 4), eD, eD, ([], 2, 1, 0, 0, 0, 0, 5), ([], 0, 0, 0, 0, 0, 1, 6), ([], 9, 0, 0, 0, 0, 0, 7), ([], 2, 5, 1, 0, 0, 0, 9), eD, ([], 15, 0, 16, 0, 0, 0, 12), eD, eD, ([], 0, 0, 0, 0, 0, 3, 13), ([], 17, 0, 17, 0, 0, 0, 16), eD, eD],
  [([], 0, 0, 0, 0, 0, 1, 17), ([true, true, true, false, true, false], 14, 2, 0, 0, 0, 0, 18), ([], 23, 1, 13824, 0, 0, 0, 19), ([], 4, 0, 0, 0, 0, 0, 20), ([], 19, 12, 8, 105, 0, 0, 23), eD, eD, ([], 2, 1, 0, 0, 0, 0, 24), ([], 0, 1, 0, 0, 0, 8, 26), eD, ([], 9, 0, 0, 0, 0, 0, 27), ([], 0, 1, 0, 0, 0, 8, 29), eD, ([], 3, 2, 0, 0, 0, 0, 30), ([], 28, 168, 4, 246, 0, 0, 33), eD],
  [eD, ([], 4, 0, 0, 0, 0, 0, 34), ([], 19, 12, 8, 105, 0, 0, 37), eD, eD, ([], 2, 1, 0, 0, 0, 0, 38), ([], 0, 1, 0, 0, 0, 20, 40), eD, ([], 9, 0, 0, 0, 0, 0, 41), ([], 0, 0, 0, 0, 0, 4, 42), ([], 2, 4, 1, 0, 0, 0, 44), eD, ([], 14, 0, 0, 0, 0, 0, 45), ([], 28, 168, 4, 246, 0, 0, 48), eD, eD],
  [([], 4, 0, 0, 0, 0, 0, 49), ([], 19, 12, 8, 105, 0, 0, 52), eD, eD, ([], 2, 1, 0, 0, 0, 0, 53), ([], 0, 1, 0, 0, 0, 24, 55), eD, ([], 9, 0, 0, 0, 0, 0, 56), ([], 0, 1, 0, 0, 0, 8, 58), eD, ([], 3, 2, 0, 0, 0, 0, 59), ([], 28, 168, 4, 246, 0, 0, 62), eD, eD, ([], 31, 0, 0, 0, 0, 0, 63)]]
set_option maxRecDepth 100000 in
theorem ok255 : okM 255 cd255 = true := by decide +kernel
def cd256 : List (List EM) := [[([], 4, 0, 0, 0, 0, 0, 1), ([], 4, 0, 0, 0, 0, 0, 2), ([], 19, 12, 26, 123, 0, 0, 5), eD, eD, ([], 2, 1, 0, 0, 0, 0, 6), ([], 22, 0, 200, 0, 0, 0, 7), ([], 27, 210, 1, 266, 12, 0, 10), eD, eD, ([], 4, 0, 0, 0, 0, 0, 11), ([], 19, 12, 27, 124, 0, 0, 14), eD, eD, ([], 2, 1, 0, 0, 0, 0, 15), ([], 22, 0, 200, 0, 0, 0, 16)],
  [([], 5, 6, 1, 0, 0, 0, 18), eD, ([], 4, 0, 0, 0, 0, 0, 19), ([], 19, 12, 8, 105, 0, 0, 22), eD, eD, ([], 4, 0, 0, 0, 0, 0, 23), ([], 2, 6, 1, 0, 0, 0, 25), eD, ([], 27, 197, 1, 270, 12, 0, 28), eD, eD, ([], 0, 1, 0, 0, 0, 12, 30), eD, ([], 9, 0, 0, 0, 0, 0, 31), ([], 0, 0, 0, 0, 0, 4, 32)],
  [([], 4, 0, 0, 0, 0, 0, 33), ([], 19, 12, 4, 101, 0, 0, 36), eD, eD, ([], 14, 0, 0, 0, 0, 0, 37), ([], 28, 168, 4, 246, 0, 0, 40), eD, eD, ([], 4, 0, 0, 0, 0, 0, 41), ([], 4, 0, 0, 0, 0, 0, 42), ([], 2, 6, 1, 0, 0, 0, 44), eD, ([], 0, 0, 0, 0, 0, 1, 45), ([], 9, 0, 0, 0, 0, 0, 46), ([], 27, 197, 1, 270, 12, 0, 49), eD],
  [eD, ([], 3, 2, 0, 0, 0, 0, 50), ([], 2, 4, 1, 0, 0, 0, 52), eD, ([], 2, 5, 1, 0, 0, 0, 54), eD, ([], 27, 255, 4, 323, 12, 0, 57), eD, eD, ([], 4, 0, 0, 0, 0, 0, 58), ([], 2, 6, 1, 0, 0, 0, 60), eD, ([], 4, 0, 0, 0, 0, 0, 61), ([], 19, 12, 28, 125, 0, 0, 64), eD, eD],
  [([], 2, 1, 0, 0, 0, 0, 65), ([], 22, 0, 200, 0, 0, 0, 66), ([], 27, 253, 2, 324, 12, 0, 69), eD, eD, ([], 31, 0, 0, 0, 0, 0, 70)]]
set_option maxRecDepth 100000 in
theorem ok256 : okM 256 cd256 = true := by decide +kernel
def cd257 : List (List EM) := [[([], 4, 0, 0, 0, 0, 0, 1), ([], 4, 0, 0, 0, 0, 0, 2), ([], 19, 12, 26, 123, 0, 0, 5), eD, eD, ([], 2, 1, 0, 0, 0, 0, 6), ([], 22, 0, 200, 0, 0, 0, 7), ([], 27, 210, 1, 266, 12, 0, 10), eD, eD, ([], 0, 0, 0, 0, 0, 0, 11), ([], 5, 2, 0, 0, 0, 0, 12), ([true, true, true], 2, 2, 0, 0, 0, 0, 13), ([], 4, 0, 0, 0, 0, 0, 14), ([], 19, 12, 28, 125, 0, 0, 17), eD],
  [eD, ([], 2, 1, 0, 0, 0, 0, 18), ([], 22, 0, 200, 0, 0, 0, 19), ([], 16, 3, 55, 0, 0, 0, 22), eD, eD, ([], 4, 0, 0, 0, 0, 0, 23), ([], 4, 0, 0, 0, 0, 0, 24), ([], 19, 12, 27, 124, 0, 0, 27), eD, eD, ([], 2, 1, 0, 0, 0, 0, 28), ([], 22, 0, 200, 0, 0, 0, 29), ([], 2, 2, 0, 0, 0, 0, 30), ([], 9, 0, 0, 0, 0, 0, 31), ([], 4, 0, 0, 0, 0, 0, 32)],
  [([], 4, 0, 0, 0, 0, 0, 33), ([], 19, 12, 27, 124, 0, 0, 36), eD, eD, ([], 2, 1, 0, 0, 0, 0, 37), ([], 22, 0, 200, 0, 0, 0, 38), ([], 2, 2, 0, 0, 0, 0, 39), ([], 9, 0, 0, 0, 0, 0, 40), ([], 27, 251, 1, 309, 12, 0, 43), eD, eD, ([], 0, 1, 0, 0, 0, 127, 45), eD, ([], 9, 3, 0, 0, 0, 0, 46), ([], 27, 221, 2, 271, 12, 0, 49), eD],
  [eD, ([], 8, 2, 0, 0, 0, 1, 52), eD, eD, ([], 17, 0, 12, 0, 0, 0, 55), eD, eD, ([], 31, 0, 0, 0, 0, 0, 56)]]
set_option maxRecDepth 100000 in
theorem ok257 : okM 257 cd257 = true := by decide +kernel
end
section
/-! code tables, by program out of the printed bytecode, and their checks -/
def cd258 : List (List EM) := [[([], 4, 0, 0, 0, 0, 0, 1), ([], 0, 0, 0, 0, 0, 1, 2), ([], 2, 1, 0, 0, 0, 0, 3), ([], 27, 240, 2, 305, 12, 0, 6), eD, eD, ([], 4, 0, 0, 0, 0, 0, 7), ([], 0, 0, 0, 0, 0, 1, 8), ([], 27, 250, 1, 306, 12, 0, 11), eD, eD, ([], 4, 0, 0, 0, 0, 0, 12), ([], 2, 2, 0, 0, 0, 0, 13), ([], 27, 252, 1, 308, 12, 0, 16), eD, eD],
  [([], 5, 3, 0, 0, 0, 0, 17), ([], 2, 3, 0, 0, 0, 0, 18), ([], 0, 1, 0, 0, 0, -9, 20), eD, ([], 16, 0, 25, 0, 0, 0, 23), eD, eD, ([], 2, 3, 0, 0, 0, 0, 24), ([], 29, 0, 0, 0, 0, 0, 25), ([], 4, 0, 0, 0, 0, 0, 26), ([], 0, 0, 0, 0, 0, 1, 27), ([], 0, 0, 0, 0, 0, 1, 28), ([], 27, 243, 2, 300, 12, 0, 31), eD, eD, ([], 15, 1, 37, 0, 0, 0, 34)],
  [eD, eD, ([], 0, 1, 0, 0, 0, -6, 36), eD, ([], 29, 0, 0, 0, 0, 0, 37), ([], 4, 0, 0, 0, 0, 0, 38), ([], 0, 0, 0, 0, 0, 1, 39), ([], 27, 250, 1, 306, 12, 0, 42), eD, eD, ([], 4, 0, 0, 0, 0, 0, 43), ([], 2, 2, 0, 0, 0, 0, 44), ([], 27, 260, 1, 310, 12, 0, 47), eD, eD, ([], 29, 0, 0, 0, 0, 0, 48)]]
set_option maxRecDepth 100000 in
theorem ok258 : okM 258 cd258 = true := by decide +kernel
def cd259 : List (List EM) := [[([], 0, 0, 0, 0, 0, 1, 1), ([], 5, 3, 0, 0, 0, 0, 2), ([], 2, 1, 0, 0, 0, 0, 3), ([], 5, 4, 1, 0, 0, 0, 5), eD, ([true, false, true, true, true], 2, 4, 1, 0, 0, 0, 7), eD, ([], 2, 2, 0, 0, 0, 0, 8), ([], 16, 3, 37, 0, 0, 0, 11), eD, eD, ([], 2, 3, 0, 0, 0, 0, 12), ([], 4, 0, 0, 0, 0, 0, 13), ([], 2, 4, 1, 0, 0, 0, 15), eD, ([], 27, 251, 1, 309, 12, 0, 18)],
  [eD, eD, ([], 0, 2, 0, 0, 0, 128, 21), eD, eD, ([], 16, 3, 28, 0, 0, 0, 24), eD, eD, ([], 0, 0, 0, 0, 0, 1, 25), ([], 17, 0, 29, 0, 0, 0, 28), eD, eD, ([], 0, 0, 0, 0, 0, 0, 29), ([], 9, 3, 0, 0, 0, 0, 30), ([], 5, 3, 0, 0, 0, 0, 31), ([], 8, 4, 0, 0, 0, 1, 34)],
  [eD, eD, ([], 17, 0, 5, 0, 0, 0, 37), eD, eD, ([], 2, 3, 0, 0, 0, 0, 38), ([], 29, 0, 0, 0, 1, 0, 39)]]
set_option maxRecDepth 100000 in
theorem ok259 : okM 259 cd259 = true := by decide +kernel
def cd260 : List (List EM) := [[([], 0, 0, 0, 0, 0, 0, 1), ([], 5, 2, 0, 0, 0, 0, 2), ([true, true, true], 4, 0, 0, 0, 0, 0, 3), ([], 2, 2, 0, 0, 0, 0, 4), ([], 2, 2, 0, 0, 0, 0, 5), ([], 2, 1, 0, 0, 0, 0, 6), ([], 9, 0, 0, 0, 0, 0, 7), ([], 0, 0, 0, 0, 0, 4, 8), ([], 4, 0, 0, 0, 0, 0, 9), ([], 19, 12, 43, 140, 0, 0, 12), eD, eD, ([], 0, 0, 0, 0, 0, 1, 13), ([], 22, 0, 2, 0, 0, 0, 14), ([], 9, 2, 0, 0, 0, 0, 15), ([], 28, 164, 2, 311, 0, 0, 18)],
  [eD, eD, ([], 27, 259, 2, 312, 12, 0, 21), eD, eD, ([], 15, 1, 30, 0, 0, 0, 24), eD, eD, ([], 8, 2, 0, 0, 0, 2, 27), eD, eD, ([], 17, 0, 2, 0, 0, 0, 30), eD, eD, ([], 2, 2, 0, 0, 0, 0, 31), ([], 29, 0, 0, 0, 0, 0, 32)]]
set_option maxRecDepth 100000 in
theorem ok260 : okM 260 cd260 = true := by decide +kernel
def cd261 : List (List EM) := [[([], 4, 0, 0, 0, 0, 0, 1), ([], 0, 0, 0, 0, 0, 1, 2), ([], 27, 249, 1, 315, 12, 0, 5), eD, eD, ([], 2, 1, 0, 0, 0, 0, 6), ([], 15, 0, 14, 0, 0, 0, 9), eD, eD, ([], 4, 0, 0, 0, 0, 0, 10), ([], 0, 0, 0, 0, 0, 0, 11), ([], 27, 249, 1, 315, 12, 0, 14), eD, eD, ([true, false], 4, 0, 0, 0, 0, 0, 15), ([], 27, 178, 0, 293, 12, 0, 18)],
  [eD, eD, ([], 15, 1, 23, 0, 0, 0, 21), eD, eD, ([], 0, 0, 0, 0, 0, 0, 22), ([], 29, 0, 0, 0, 1, 0, 23), ([], 4, 0, 0, 0, 0, 0, 24), ([], 27, 246, 0, 316, 12, 0, 27), eD, eD, ([], 15, 1, 32, 0, 0, 0, 30), eD, eD, ([], 0, 0, 0, 0, 0, 0, 31), ([], 29, 0, 0, 0, 1, 0, 32)],
  [([], 4, 0, 0, 0, 0, 0, 33), ([], 0, 0, 0, 0, 0, 0, 34), ([], 27, 247, 1, 319, 12, 0, 37), eD, eD, ([], 4, 0, 0, 0, 0, 0, 38), ([], 0, 0, 0, 0, 0, 1, 39), ([], 27, 247, 1, 319, 12, 0, 42), eD, eD, ([], 4, 0, 0, 0, 0, 0, 43), ([], 27, 178, 0, 293, 12, 0, 46), eD, eD, ([], 29, 0, 0, 0, 1, 0, 47)]]
set_option maxRecDepth 100000 in
theorem ok261 : okM 261 cd261 = true := by decide +kernel
def cd262 : List (List EM) := [[([], 4, 0, 0, 0, 0, 0, 1), ([], 19, 12, 45, 142, 0, 0, 4), eD, eD, ([], 0, 0, 0, 0, 0, 1, 5), ([], 22, 0, 2, 0, 0, 0, 6), ([], 15, 5, 48, 0, 0, 0, 9), eD, eD, ([], 2, 1, 0, 0, 0, 0, 10), ([], 15, 5, 48, 0, 0, 0, 13), eD, eD, ([], 4, 0, 0, 0, 0, 0, 14), ([], 2, 1, 0, 0, 0, 0, 15), ([], 1, 2, 0, 18, 0, 128, 18)],
  [eD, eD, ([], 4, 0, 0, 0, 0, 0, 19), ([], 19, 12, 43, 140, 0, 0, 22), eD, eD, ([], 0, 0, 0, 0, 0, 1, 23), ([], 22, 0, 2, 0, 0, 0, 24), ([], 4, 0, 0, 0, 0, 0, 25), ([], 19, 12, 45, 142, 0, 0, 28), eD, eD, ([], 0, 0, 0, 0, 0, 1, 29), ([], 22, 0, 2, 0, 0, 0, 30), ([], 9, 0, 0, 0, 0, 0, 31), ([], 14, 0, 0, 0, 0, 0, 32)],
  [([], 11, 2, 0, 0, 0, 0, 33), ([], 4, 0, 0, 0, 0, 0, 34), ([], 0, 0, 0, 0, 0, 1, 35), ([], 0, 0, 0, 0, 0, 0, 36), ([], 27, 248, 2, 307, 12, 0, 39), eD, eD, ([], 4, 0, 0, 0, 0, 0, 40), ([], 19, 12, 47, 144, 0, 0, 43), eD, eD, ([], 0, 0, 0, 0, 0, 1, 44), ([], 22, 1, 2, 0, 0, 0, 45), ([], 27, 256, 4, 322, 12, 0, 48), eD, eD],
  [([], 31, 0, 0, 0, 0, 0, 49)]]
set_option maxRecDepth 100000 in
theorem ok262 : okM 262 cd262 = true := by decide +kernel
def cd263 : List (List EM) := [[([], 4, 0, 0, 0, 0, 0, 1), ([], 27, 233, 0, 294, 12, 0, 4), eD, eD, ([], 5, 3, 0, 0, 0, 0, 5), ([], 4, 0, 0, 0, 0, 0, 6), ([], 19, 12, 3, 100, 0, 0, 9), eD, eD, ([], 15, 1, 15, 0, 0, 0, 12), eD, eD, ([], 0, 1, 0, 0, 0, -2, 14), eD, ([], 29, 0, 0, 0, 0, 0, 15), ([], 4, 0, 0, 0, 0, 0, 16)],
  [([], 2, 1, 0, 0, 0, 0, 17), ([], 27, 213, 1, 295, 12, 0, 20), eD, eD, ([], 5, 4, 1, 0, 0, 0, 22), eD, ([], 2, 4, 1, 0, 0, 0, 24), eD, ([], 0, 1, 0, 0, 0, -9, 26), eD, ([], 16, 1, 31, 0, 0, 0, 29), eD, eD, ([], 0, 0, 0, 0, 0, -1, 30), ([], 29, 0, 0, 0, 0, 0, 31), ([], 4, 0, 0, 0, 0, 0, 32)],
  [([], 19, 12, 40, 137, 0, 0, 35), eD, eD, ([], 2, 3, 0, 0, 0, 0, 36), ([], 28, 202, 2, 275, 0, 0, 39), eD, eD, ([], 15, 1, 45, 0, 0, 0, 42), eD, eD, ([], 0, 1, 0, 0, 0, -3, 44), eD, ([], 29, 0, 0, 0, 0, 0, 45), ([], 4, 0, 0, 0, 0, 0, 46), ([], 2, 4, 1, 0, 0, 0, 48), eD],
  [([], 2, 3, 0, 0, 0, 0, 49), ([], 27, 234, 2, 298, 12, 0, 52), eD, eD, ([], 0, 1, 0, 0, 0, -9, 54), eD, ([], 16, 0, 60, 0, 0, 0, 57), eD, eD, ([], 0, 1, 0, 0, 0, -4, 59), eD, ([], 29, 0, 0, 0, 0, 0, 60), ([], 4, 0, 0, 0, 0, 0, 61), ([], 27, 239, 0, 299, 12, 0, 64), eD, eD],
  [([], 4, 0, 0, 0, 0, 0, 65), ([], 27, 177, 0, 292, 12, 0, 68), eD, eD, ([], 2, 2, 0, 0, 0, 0, 69), ([], 15, 0, 84, 0, 0, 0, 72), eD, eD, ([], 4, 0, 0, 0, 0, 0, 73), ([], 0, 0, 0, 0, 0, 0, 74), ([], 0, 0, 0, 0, 0, 1, 75), ([], 27, 243, 2, 300, 12, 0, 78), eD, eD, ([], 15, 1, 84, 0, 0, 0, 81), eD],
  [eD, ([], 0, 1, 0, 0, 0, -6, 83), eD, ([], 29, 0, 0, 0, 0, 0, 84), ([], 4, 0, 0, 0, 0, 0, 85), ([], 2, 4, 1, 0, 0, 0, 87), eD, ([], 2, 3, 0, 0, 0, 0, 88), ([], 0, 1, 0, 0, 0, 15, 90), eD, ([], 16, 5, 97, 0, 0, 0, 93), eD, eD, ([], 0, 0, 0, 0, 0, 4, 94), ([], 17, 0, 98, 0, 0, 0, 97), eD],
  [eD, ([], 0, 0, 0, 0, 0, 3, 98), ([true, false, true, true, true, false, false], 27, 258, 2, 304, 12, 0, 101), eD, eD, ([], 5, 5, 1, 0, 0, 0, 103), eD, ([], 2, 5, 1, 0, 0, 0, 105), eD, ([], 0, 1, 0, 0, 0, -6, 107), eD, ([], 16, 1, 113, 0, 0, 0, 110), eD, eD, ([], 0, 1, 0, 0, 0, -6, 112), eD],
  [([], 29, 0, 0, 0, 0, 0, 113), ([], 4, 0, 0, 0, 0, 0, 114), ([], 27, 179, 0, 313, 12, 0, 117), eD, eD, ([], 15, 0, 128, 0, 0, 0, 120), eD, eD, ([], 4, 0, 0, 0, 0, 0, 121), ([], 2, 2, 0, 0, 0, 0, 122), ([], 27, 261, 1, 314, 12, 0, 125), eD, eD, ([], 15, 1, 131, 0, 0, 0, 128), eD, eD],
  [([], 0, 1, 0, 0, 0, -7, 130), eD, ([], 29, 0, 0, 0, 0, 0, 131), ([], 4, 0, 0, 0, 0, 0, 132), ([], 2, 4, 1, 0, 0, 0, 134), eD, ([], 27, 262, 1, 321, 12, 0, 137), eD, eD, ([], 4, 0, 0, 0, 0, 0, 138), ([], 0, 0, 0, 0, 0, 1, 139), ([], 27, 250, 1, 306, 12, 0, 142), eD, eD, ([], 0, 0, 0, 0, 0, 4, 143), ([], 4, 0, 0, 0, 0, 0, 144)],
  [([], 19, 12, 16, 113, 0, 0, 147), eD, eD, ([], 2, 5, 1, 0, 0, 0, 149), eD, ([], 0, 0, 0, 0, 0, 4, 150), ([], 10, 0, 0, 0, 0, 0, 151), ([], 22, 0, 102, 0, 0, 0, 152), ([], 9, 2, 0, 0, 0, 0, 153), ([], 2, 5, 1, 0, 0, 0, 155), eD, ([], 0, 0, 0, 0, 0, 4, 156), ([], 10, 1, 0, 0, 0, 0, 157), ([], 9, 0, 0, 0, 0, 0, 158), ([], 5, 6, 1, 0, 0, 0, 160), eD],
  [([], 4, 0, 0, 0, 0, 0, 161), ([], 2, 5, 1, 0, 0, 0, 163), eD, ([], 2, 3, 0, 0, 0, 0, 164), ([], 2, 2, 0, 0, 0, 0, 165), ([], 15, 0, 173, 0, 0, 0, 168), eD, eD, ([], 0, 1, 0, 0, 0, 16, 170), eD, ([], 17, 0, 174, 0, 0, 0, 173), eD, eD, ([], 0, 0, 0, 0, 0, 0, 174), ([], 4, 0, 0, 0, 0, 0, 175), ([], 19, 12, 4, 101, 0, 0, 178)],
  [eD, eD, ([], 14, 0, 0, 0, 0, 0, 179), ([], 4, 0, 0, 0, 0, 0, 180), ([], 19, 12, 4, 101, 0, 0, 183), eD, eD, ([], 14, 0, 0, 0, 0, 0, 184), ([], 2, 2, 0, 0, 0, 0, 185), ([], 15, 0, 194, 0, 0, 0, 188), eD, eD, ([], 1, 2, 0, 18, 0, 128, 191), eD, eD, ([], 17, 0, 195, 0, 0, 0, 194)],
  [eD, eD, ([], 1, 0, 0, 0, 0, 0, 195), ([true, false, true, false, false, false, true], 2, 2, 0, 0, 0, 0, 196), ([], 15, 0, 208, 0, 0, 0, 199), eD, eD, ([], 4, 0, 0, 0, 0, 0, 200), ([], 19, 12, 44, 141, 0, 0, 203), eD, eD, ([], 0, 0, 0, 0, 0, 0, 204), ([], 22, 0, 204, 0, 0, 0, 205), ([], 17, 0, 209, 0, 0, 0, 208), eD, eD],
  [([], 0, 0, 0, 0, 0, 0, 209), ([], 2, 2, 0, 0, 0, 0, 210), ([], 27, 254, 8, 325, 12, 0, 213), eD, eD, ([], 4, 0, 0, 0, 0, 0, 214), ([], 27, 178, 0, 293, 12, 0, 217), eD, eD, ([], 15, 0, 225, 0, 0, 0, 220), eD, eD, ([], 2, 6, 1, 0, 0, 0, 222), eD, ([], 17, 0, 227, 0, 0, 0, 225), eD],
  [eD, ([], 0, 1, 0, 0, 0, -7, 227), eD, ([], 29, 0, 0, 0, 0, 0, 228)]]
set_option maxRecDepth 100000 in
theorem ok263 : okM 263 cd263 = true := by decide +kernel
def cd264 : List (List EM) := [[([], 4, 0, 0, 0, 0, 0, 1), ([], 19, 12, 3, 100, 0, 0, 4), eD, eD, ([], 15, 1, 10, 0, 0, 0, 7), eD, eD, ([], 0, 1, 0, 0, 0, -2, 9), eD, ([], 29, 0, 0, 0, 0, 0, 10), ([], 4, 0, 0, 0, 0, 0, 11), ([], 2, 1, 0, 0, 0, 0, 12), ([], 27, 214, 1, 326, 12, 0, 15), eD, eD, ([], 5, 5, 1, 0, 0, 0, 17)],
  [eD, ([], 2, 5, 1, 0, 0, 0, 19), eD, ([], 0, 1, 0, 0, 0, -9, 21), eD, ([], 16, 0, 52, 0, 0, 0, 24), eD, eD, ([], 2, 2, 0, 0, 0, 0, 25), ([], 14, 0, 0, 0, 0, 0, 26), ([], 1, 0, 0, 0, 0, 0, 27), ([], 4, 0, 0, 0, 0, 0, 28), ([], 19, 12, 31, 128, 0, 0, 31), eD, eD, ([], 2, 5, 1, 0, 0, 0, 33)],
  [eD, ([], 22, 2, 200, 0, 0, 0, 34), ([], 28, 166, 3, 243, 0, 0, 37), eD, eD, ([], 15, 0, 52, 0, 0, 0, 40), eD, eD, ([], 2, 3, 0, 0, 0, 0, 41), ([], 14, 0, 0, 0, 0, 0, 42), ([], 1, 1, 0, 0, 0, 1, 43), ([], 1, 2, 0, 32, 0, 1024, 46), eD, eD, ([], 28, 166, 3, 243, 0, 0, 49), eD],
  [eD, ([], 15, 1, 54, 0, 0, 0, 52), eD, eD, ([], 0, 0, 0, 0, 0, -1, 53), ([], 29, 0, 0, 0, 0, 0, 54), ([], 4, 0, 0, 0, 0, 0, 55), ([], 19, 12, 33, 130, 0, 0, 58), eD, eD, ([], 2, 5, 1, 0, 0, 0, 60), eD, ([], 22, 0, 200, 0, 0, 0, 61), ([], 0, 0, 0, 0, 0, 1, 62), ([], 9, 3, 0, 0, 0, 0, 63), ([], 15, 0, 69, 0, 0, 0, 66)],
  [eD, eD, ([], 0, 1, 0, 0, 0, -5, 68), eD, ([], 29, 0, 0, 0, 0, 0, 69), ([], 4, 0, 0, 0, 0, 0, 70), ([], 27, 239, 0, 299, 12, 0, 73), eD, eD, ([], 4, 0, 0, 0, 0, 0, 74), ([], 27, 177, 0, 292, 12, 0, 77), eD, eD, ([], 4, 0, 0, 0, 0, 0, 78), ([], 0, 0, 0, 0, 0, 0, 79), ([], 2, 5, 1, 0, 0, 0, 81)],
  [eD, ([], 27, 240, 2, 305, 12, 0, 84), eD, eD, ([], 4, 0, 0, 0, 0, 0, 85), ([], 19, 12, 31, 128, 0, 0, 88), eD, eD, ([], 2, 5, 1, 0, 0, 0, 90), eD, ([], 22, 2, 200, 0, 0, 0, 91), ([], 2, 2, 0, 0, 0, 0, 92), ([], 14, 0, 0, 0, 0, 0, 93), ([], 2, 3, 0, 0, 0, 0, 94), ([], 14, 0, 0, 0, 0, 0, 95), ([], 11, 0, 0, 0, 0, 0, 96)],
  [([], 28, 165, 2, 327, 0, 0, 99), eD, eD, ([], 6, 6, 1, 0, 0, 0, 101), eD, ([], 3, 6, 1, 0, 0, 0, 103), eD, ([], 1, 2, 0, 26, 0, 127, 106), eD, eD, ([], 11, 0, 0, 0, 0, 0, 107), ([], 1, 2, 0, 18, 0, 128, 110), eD, eD, ([], 12, 0, 0, 0, 0, 0, 111), ([], 14, 1, 0, 0, 0, 0, 112)],
  [([], 4, 0, 0, 0, 0, 0, 113), ([], 19, 12, 43, 140, 0, 0, 116), eD, eD, ([], 0, 0, 0, 0, 0, 0, 117), ([], 22, 0, 2, 0, 0, 0, 118), ([], 9, 1, 0, 0, 0, 0, 119), ([], 5, 8, 1, 0, 0, 0, 121), eD, ([], 2, 8, 1, 0, 0, 0, 123), eD, ([], 15, 5, 139, 0, 0, 0, 126), eD, eD, ([], 4, 0, 0, 0, 0, 0, 127), ([], 0, 0, 0, 0, 0, 0, 128)],
  [([], 2, 8, 1, 0, 0, 0, 130), eD, ([], 27, 243, 2, 300, 12, 0, 133), eD, eD, ([], 15, 1, 139, 0, 0, 0, 136), eD, eD, ([], 0, 1, 0, 0, 0, -6, 138), eD, ([], 29, 0, 0, 0, 0, 0, 139), ([], 4, 0, 0, 0, 0, 0, 140), ([], 27, 179, 0, 313, 12, 0, 143), eD, eD, ([], 15, 1, 149, 0, 0, 0, 146)],
  [eD, eD, ([], 0, 1, 0, 0, 0, -7, 148), eD, ([], 29, 0, 0, 0, 0, 0, 149), ([], 0, 0, 0, 0, 0, 0, 150), ([], 5, 9, 1, 0, 0, 0, 152), eD, ([true, false, true, true, true, true, true, false, false, true], 2, 9, 1, 0, 0, 0, 154), eD, ([], 2, 3, 0, 0, 0, 0, 155), ([], 16, 3, 200, 0, 0, 0, 158), eD, eD, ([], 4, 0, 0, 0, 0, 0, 159), ([], 19, 12, 8, 105, 0, 0, 162)],
  [eD, eD, ([], 4, 0, 0, 0, 0, 0, 163), ([], 0, 0, 0, 0, 0, 0, 164), ([], 2, 2, 0, 0, 0, 0, 165), ([], 2, 9, 1, 0, 0, 0, 167), eD, ([], 9, 0, 0, 0, 0, 0, 168), ([], 0, 2, 0, 0, 0, 128, 171), eD, eD, ([], 10, 0, 0, 0, 0, 0, 172), ([], 27, 248, 2, 307, 12, 0, 175), eD, eD, ([], 28, 169, 1, 249, 0, 0, 178)],
  [eD, eD, ([], 2, 2, 0, 0, 0, 0, 179), ([], 2, 9, 1, 0, 0, 0, 181), eD, ([], 9, 0, 0, 0, 0, 0, 182), ([], 0, 2, 0, 0, 0, 128, 185), eD, eD, ([], 10, 1, 0, 0, 0, 0, 186), ([], 9, 0, 0, 0, 0, 0, 187), ([], 2, 4, 1, 0, 0, 0, 189), eD, ([], 2, 9, 1, 0, 0, 0, 191), eD, ([], 9, 0, 0, 0, 0, 0, 192)],
  [([], 14, 2, 0, 0, 0, 0, 193), ([], 23, 1, 13824, 0, 0, 0, 194), ([], 8, 9, 0, 0, 0, 1, 197), eD, eD, ([], 17, 0, 152, 0, 0, 0, 200), eD, eD, ([], 4, 0, 0, 0, 0, 0, 201), ([], 27, 178, 0, 293, 12, 0, 204), eD, eD, ([], 15, 1, 210, 0, 0, 0, 207), eD, eD, ([], 0, 1, 0, 0, 0, -7, 209)],
  [eD, ([], 29, 0, 0, 0, 0, 0, 210), ([], 4, 0, 0, 0, 0, 0, 211), ([], 27, 246, 0, 316, 12, 0, 214), eD, eD, ([], 15, 1, 220, 0, 0, 0, 217), eD, eD, ([], 0, 1, 0, 0, 0, -7, 219), eD, ([], 29, 0, 0, 0, 0, 0, 220), ([], 4, 0, 0, 0, 0, 0, 221), ([], 0, 0, 0, 0, 0, 0, 222), ([], 27, 247, 1, 319, 12, 0, 225), eD],
  [eD, ([], 4, 0, 0, 0, 0, 0, 226), ([], 27, 178, 0, 293, 12, 0, 229), eD, eD, ([], 15, 1, 235, 0, 0, 0, 232), eD, eD, ([], 0, 1, 0, 0, 0, -7, 234), eD, ([], 29, 0, 0, 0, 0, 0, 235), ([], 4, 0, 0, 0, 0, 0, 236), ([], 2, 5, 1, 0, 0, 0, 238), eD, ([], 3, 6, 1, 0, 0, 0, 240), eD],
  [([], 4, 0, 0, 0, 0, 0, 241), ([], 0, 0, 0, 0, 0, 0, 242), ([], 0, 0, 0, 0, 0, 0, 243), ([], 27, 248, 2, 307, 12, 0, 246), eD, eD, ([], 4, 0, 0, 0, 0, 0, 247), ([], 19, 12, 47, 144, 0, 0, 250), eD, eD, ([], 0, 0, 0, 0, 0, 0, 251), ([], 22, 1, 2, 0, 0, 0, 252), ([], 27, 256, 4, 322, 12, 0, 255), eD, eD, ([], 4, 0, 0, 0, 0, 0, 256)],
  [([], 27, 178, 0, 293, 12, 0, 259), eD, eD, ([], 15, 0, 268, 0, 0, 0, 262), eD, eD, ([], 3, 6, 1, 0, 0, 0, 264), eD, ([], 14, 1, 0, 0, 0, 0, 265), ([], 17, 0, 270, 0, 0, 0, 268), eD, eD, ([], 0, 1, 0, 0, 0, -7, 270), eD, ([], 29, 0, 0, 0, 0, 0, 271)]]
set_option maxRecDepth 100000 in
theorem ok264 : okM 264 cd264 = true := by decide +kernel
def cd265 : List (List EM) := [[([], 4, 0, 0, 0, 0, 0, 1), ([], 19, 12, 43, 140, 0, 0, 4), eD, eD, ([], 0, 0, 0, 0, 0, 0, 5), ([], 22, 0, 2, 0, 0, 0, 6), ([], 5, 2, 0, 0, 0, 0, 7), ([], 2, 1, 0, 0, 0, 0, 8), ([], 5, 3, 0, 0, 0, 0, 9), ([true, true, true, true], 2, 3, 0, 0, 0, 0, 10), ([], 2, 2, 0, 0, 0, 0, 11), ([], 16, 3, 40, 0, 0, 0, 14), eD, eD, ([], 4, 0, 0, 0, 0, 0, 15), ([], 19, 12, 46, 143, 0, 0, 18)],
  [eD, eD, ([], 0, 0, 0, 0, 0, 0, 19), ([], 22, 1, 2, 0, 0, 0, 20), ([], 15, 1, 40, 0, 0, 0, 23), eD, eD, ([], 4, 0, 0, 0, 0, 0, 24), ([], 4, 0, 0, 0, 0, 0, 25), ([], 19, 12, 42, 139, 0, 0, 28), eD, eD, ([], 2, 3, 0, 0, 0, 0, 29), ([], 22, 0, 204, 0, 0, 0, 30), ([], 1, 0, 0, 0, 0, 0, 31), ([], 27, 172, 2, 285, 12, 0, 34)],
  [eD, eD, ([], 8, 3, 0, 0, 0, 1, 37), eD, eD, ([], 17, 0, 9, 0, 0, 0, 40), eD, eD, ([true, true, true, false], 2, 1, 0, 0, 0, 0, 41), ([], 15, 5, 73, 0, 0, 0, 44), eD, eD, ([], 2, 1, 0, 0, 0, 0, 45), ([], 2, 2, 0, 0, 0, 0, 46), ([], 16, 3, 73, 0, 0, 0, 49), eD],
  [eD, ([], 4, 0, 0, 0, 0, 0, 50), ([], 19, 12, 46, 143, 0, 0, 53), eD, eD, ([], 0, 0, 0, 0, 0, 0, 54), ([], 22, 1, 2, 0, 0, 0, 55), ([], 15, 1, 73, 0, 0, 0, 58), eD, eD, ([], 4, 0, 0, 0, 0, 0, 59), ([], 4, 0, 0, 0, 0, 0, 60), ([], 19, 12, 42, 139, 0, 0, 63), eD, eD, ([], 2, 1, 0, 0, 0, 0, 64)],
  [([], 0, 0, 0, 0, 0, 1, 65), ([], 9, 1, 0, 0, 0, 0, 66), ([], 22, 0, 204, 0, 0, 0, 67), ([], 1, 2, 0, 13, 0, 4294967295, 70), eD, eD, ([], 27, 172, 2, 285, 12, 0, 73), eD, eD, ([], 4, 0, 0, 0, 0, 0, 74), ([], 27, 178, 0, 293, 12, 0, 77), eD, eD, ([], 15, 1, 82, 0, 0, 0, 80), eD, eD],
  [([], 0, 0, 0, 0, 0, 0, 81), ([], 29, 0, 0, 0, 1, 0, 82), ([], 2, 1, 0, 0, 0, 0, 83), ([], 5, 3, 0, 0, 0, 0, 84), ([true, false, true, true], 2, 3, 0, 0, 0, 0, 85), ([], 2, 2, 0, 0, 0, 0, 86), ([], 16, 3, 106, 0, 0, 0, 89), eD, eD, ([], 4, 0, 0, 0, 0, 0, 90), ([], 4, 0, 0, 0, 0, 0, 91), ([], 19, 12, 42, 139, 0, 0, 94), eD, eD, ([], 2, 3, 0, 0, 0, 0, 95), ([], 22, 0, 204, 0, 0, 0, 96)],
  [([], 0, 0, 0, 0, 0, 0, 97), ([], 27, 174, 2, 320, 12, 0, 100), eD, eD, ([], 8, 3, 0, 0, 0, 1, 103), eD, eD, ([], 17, 0, 84, 0, 0, 0, 106), eD, eD, ([], 4, 0, 0, 0, 0, 0, 107), ([], 27, 178, 0, 293, 12, 0, 110), eD, eD, ([], 29, 0, 0, 0, 1, 0, 111)]]
set_option maxRecDepth 100000 in
theorem ok265 : okM 265 cd265 = true := by decide +kernel
def cd266 : List (List EM) := [[([], 4, 0, 0, 0, 0, 0, 1), ([], 19, 12, 3, 100, 0, 0, 4), eD, eD, ([], 15, 1, 10, 0, 0, 0, 7), eD, eD, ([], 0, 1, 0, 0, 0, -2, 9), eD, ([], 29, 0, 0, 0, 0, 0, 10), ([], 4, 0, 0, 0, 0, 0, 11), ([], 2, 1, 0, 0, 0, 0, 12), ([], 27, 214, 1, 326, 12, 0, 15), eD, eD, ([], 5, 3, 0, 0, 0, 0, 16)],
  [([], 2, 3, 0, 0, 0, 0, 17), ([], 0, 1, 0, 0, 0, -9, 19), eD, ([], 16, 0, 37, 0, 0, 0, 22), eD, eD, ([], 2, 2, 0, 0, 0, 0, 23), ([], 14, 0, 0, 0, 0, 0, 24), ([], 1, 0, 0, 0, 0, 0, 25), ([], 4, 0, 0, 0, 0, 0, 26), ([], 19, 12, 31, 128, 0, 0, 29), eD, eD, ([], 2, 3, 0, 0, 0, 0, 30), ([], 22, 2, 200, 0, 0, 0, 31), ([], 28, 166, 3, 243, 0, 0, 34)],
  [eD, eD, ([], 15, 1, 39, 0, 0, 0, 37), eD, eD, ([], 0, 0, 0, 0, 0, -1, 38), ([], 29, 0, 0, 0, 0, 0, 39), ([], 4, 0, 0, 0, 0, 0, 40), ([], 19, 12, 33, 130, 0, 0, 43), eD, eD, ([], 2, 3, 0, 0, 0, 0, 44), ([], 22, 0, 200, 0, 0, 0, 45), ([], 0, 0, 0, 0, 0, 1, 46), ([], 9, 3, 0, 0, 0, 0, 47), ([], 15, 0, 53, 0, 0, 0, 50)],
  [eD, eD, ([], 0, 1, 0, 0, 0, -5, 52), eD, ([], 29, 0, 0, 0, 0, 0, 53), ([], 4, 0, 0, 0, 0, 0, 54), ([], 27, 239, 0, 299, 12, 0, 57), eD, eD, ([], 4, 0, 0, 0, 0, 0, 58), ([], 27, 177, 0, 292, 12, 0, 61), eD, eD, ([], 4, 0, 0, 0, 0, 0, 62), ([], 0, 0, 0, 0, 0, 0, 63), ([], 2, 3, 0, 0, 0, 0, 64)],
  [([], 27, 240, 2, 305, 12, 0, 67), eD, eD, ([], 2, 2, 0, 0, 0, 0, 68), ([], 0, 1, 0, 0, 0, 127, 70), eD, ([], 9, 0, 0, 0, 0, 0, 71), ([], 0, 2, 0, 0, 0, 128, 74), eD, eD, ([], 10, 0, 0, 0, 0, 0, 75), ([], 5, 4, 1, 0, 0, 0, 77), eD, ([], 4, 0, 0, 0, 0, 0, 78), ([], 19, 12, 43, 140, 0, 0, 81), eD],
  [eD, ([], 0, 0, 0, 0, 0, 0, 82), ([], 22, 0, 2, 0, 0, 0, 83), ([], 2, 4, 1, 0, 0, 0, 85), eD, ([], 9, 1, 0, 0, 0, 0, 86), ([], 5, 5, 1, 0, 0, 0, 88), eD, ([], 4, 0, 0, 0, 0, 0, 89), ([], 27, 179, 0, 313, 12, 0, 92), eD, eD, ([], 15, 1, 98, 0, 0, 0, 95), eD, eD, ([], 0, 1, 0, 0, 0, -7, 97)],
  [eD, ([], 29, 0, 0, 0, 0, 0, 98), ([], 4, 0, 0, 0, 0, 0, 99), ([], 2, 3, 0, 0, 0, 0, 100), ([], 2, 2, 0, 0, 0, 0, 101), ([], 14, 0, 0, 0, 0, 0, 102), ([], 2, 4, 1, 0, 0, 0, 104), eD, ([], 15, 1, 111, 0, 0, 0, 107), eD, eD, ([], 0, 0, 0, 0, 0, 0, 108), ([], 17, 0, 117, 0, 0, 0, 111), eD, eD, ([], 4, 0, 0, 0, 0, 0, 112)],
  [([], 19, 12, 42, 139, 0, 0, 115), eD, eD, ([], 0, 0, 0, 0, 0, 0, 116), ([], 22, 0, 204, 0, 0, 0, 117), ([true, false, false, false, true, true], 2, 4, 1, 0, 0, 0, 119), eD, ([], 15, 5, 135, 0, 0, 0, 122), eD, eD, ([], 4, 0, 0, 0, 0, 0, 123), ([], 19, 12, 46, 143, 0, 0, 126), eD, eD, ([], 0, 0, 0, 0, 0, 0, 127), ([], 22, 1, 2, 0, 0, 0, 128)],
  [([], 15, 0, 135, 0, 0, 0, 131), eD, eD, ([], 0, 0, 0, 0, 0, 1, 132), ([], 17, 0, 136, 0, 0, 0, 135), eD, eD, ([], 0, 0, 0, 0, 0, 0, 136), ([true, false, false, false, true, true], 27, 256, 4, 322, 12, 0, 139), eD, eD, ([], 4, 0, 0, 0, 0, 0, 140), ([], 27, 178, 0, 293, 12, 0, 143), eD, eD, ([], 15, 0, 160, 0, 0, 0, 146)],
  [eD, eD, ([], 4, 0, 0, 0, 0, 0, 147), ([], 2, 4, 1, 0, 0, 0, 149), eD, ([], 27, 265, 1, 328, 12, 0, 152), eD, eD, ([], 15, 0, 160, 0, 0, 0, 155), eD, eD, ([], 2, 5, 1, 0, 0, 0, 157), eD, ([], 17, 0, 162, 0, 0, 0, 160), eD, eD],
  [([], 0, 1, 0, 0, 0, -7, 162), eD, ([], 29, 0, 0, 0, 0, 0, 163)]]
set_option maxRecDepth 100000 in
theorem ok266 : okM 266 cd266 = true := by decide +kernel
def cd267 : List (List EM) := [[([], 4, 0, 0, 0, 0, 0, 1), ([], 19, 12, 3, 100, 0, 0, 4), eD, eD, ([], 15, 1, 10, 0, 0, 0, 7), eD, eD, ([], 0, 1, 0, 0, 0, -2, 9), eD, ([], 29, 0, 0, 0, 0, 0, 10), ([], 4, 0, 0, 0, 0, 0, 11), ([], 2, 1, 0, 0, 0, 0, 12), ([], 27, 212, 1, 296, 12, 0, 15), eD, eD, ([], 5, 2, 0, 0, 0, 0, 16)],
  [([], 2, 2, 0, 0, 0, 0, 17), ([], 0, 1, 0, 0, 0, -9, 19), eD, ([], 16, 0, 26, 0, 0, 0, 22), eD, eD, ([], 2, 2, 0, 0, 0, 0, 23), ([], 15, 1, 28, 0, 0, 0, 26), eD, eD, ([], 0, 0, 0, 0, 0, -1, 27), ([], 29, 0, 0, 0, 0, 0, 28), ([], 0, 0, 0, 0, 0, 1, 29), ([], 5, 3, 0, 0, 0, 0, 30), ([true, false, true, true], 2, 3, 0, 0, 0, 0, 31), ([], 4, 0, 0, 0, 0, 0, 32)],
  [([], 19, 12, 34, 131, 0, 0, 35), eD, eD, ([], 16, 3, 56, 0, 0, 0, 38), eD, eD, ([], 4, 0, 0, 0, 0, 0, 39), ([], 19, 12, 26, 123, 0, 0, 42), eD, eD, ([], 2, 3, 0, 0, 0, 0, 43), ([], 22, 0, 200, 0, 0, 0, 44), ([], 2, 2, 0, 0, 0, 0, 45), ([], 16, 1, 50, 0, 0, 0, 48), eD, eD],
  [([], 0, 0, 0, 0, 0, -1, 49), ([], 29, 0, 0, 0, 0, 0, 50), ([], 8, 3, 0, 0, 0, 1, 53), eD, eD, ([], 17, 0, 30, 0, 0, 0, 56), eD, eD, ([], 4, 0, 0, 0, 0, 0, 57), ([], 19, 12, 33, 130, 0, 0, 60), eD, eD, ([], 2, 2, 0, 0, 0, 0, 61), ([], 22, 0, 200, 0, 0, 0, 62), ([], 0, 0, 0, 0, 0, 1, 63), ([], 9, 3, 0, 0, 0, 0, 64)],
  [([], 15, 0, 70, 0, 0, 0, 67), eD, eD, ([], 0, 1, 0, 0, 0, -5, 69), eD, ([], 29, 0, 0, 0, 0, 0, 70), ([], 4, 0, 0, 0, 0, 0, 71), ([], 27, 239, 0, 299, 12, 0, 74), eD, eD, ([], 4, 0, 0, 0, 0, 0, 75), ([], 27, 177, 0, 292, 12, 0, 78), eD, eD, ([], 4, 0, 0, 0, 0, 0, 79), ([], 0, 0, 0, 0, 0, 0, 80)],
  [([], 2, 2, 0, 0, 0, 0, 81), ([], 27, 240, 2, 305, 12, 0, 84), eD, eD, ([], 4, 0, 0, 0, 0, 0, 85), ([], 27, 179, 0, 313, 12, 0, 88), eD, eD, ([], 15, 1, 94, 0, 0, 0, 91), eD, eD, ([], 0, 1, 0, 0, 0, -7, 93), eD, ([], 29, 0, 0, 0, 0, 0, 94), ([], 4, 0, 0, 0, 0, 0, 95), ([], 2, 2, 0, 0, 0, 0, 96)],
  [([], 27, 257, 1, 329, 12, 0, 99), eD, eD, ([], 4, 0, 0, 0, 0, 0, 100), ([], 27, 178, 0, 293, 12, 0, 103), eD, eD, ([], 15, 0, 123, 0, 0, 0, 106), eD, eD, ([], 4, 0, 0, 0, 0, 0, 107), ([], 0, 0, 0, 0, 0, 0, 108), ([], 27, 265, 1, 328, 12, 0, 111), eD, eD, ([], 15, 0, 123, 0, 0, 0, 114)],
  [eD, eD, ([], 4, 0, 0, 0, 0, 0, 115), ([], 19, 12, 43, 140, 0, 0, 118), eD, eD, ([], 0, 0, 0, 0, 0, 0, 119), ([], 22, 0, 2, 0, 0, 0, 120), ([], 17, 0, 125, 0, 0, 0, 123), eD, eD, ([], 0, 1, 0, 0, 0, -7, 125), eD, ([], 29, 0, 0, 0, 0, 0, 126)]]
set_option maxRecDepth 100000 in
theorem ok267 : okM 267 cd267 = true := by decide +kernel
def cd268 : List (List EM) := [[([], 2, 2, 0, 0, 0, 0, 1), ([], 5, 3, 0, 0, 0, 0, 2), ([true, true, false, true], 2, 3, 0, 0, 0, 0, 3), ([], 0, 1, 0, 0, 0, -9, 5), eD, ([], 16, 0, 23, 0, 0, 0, 8), eD, eD, ([], 2, 3, 0, 0, 0, 0, 9), ([], 2, 1, 0, 0, 0, 0, 10), ([], 16, 0, 23, 0, 0, 0, 13), eD, eD, ([], 4, 0, 0, 0, 0, 0, 14), ([], 19, 12, 26, 123, 0, 0, 17), eD],
  [eD, ([], 2, 3, 0, 0, 0, 0, 18), ([], 22, 0, 200, 0, 0, 0, 19), ([], 5, 3, 0, 0, 0, 0, 20), ([], 17, 0, 2, 0, 0, 0, 23), eD, eD, ([], 2, 3, 0, 0, 0, 0, 24), ([], 2, 1, 0, 0, 0, 0, 25), ([], 16, 1, 32, 0, 0, 0, 28), eD, eD, ([], 0, 0, 0, 0, 0, 1, 29), ([], 17, 0, 33, 0, 0, 0, 32), eD, eD],
  [([], 0, 0, 0, 0, 0, 0, 33), ([], 29, 0, 0, 0, 1, 0, 34)]]
set_option maxRecDepth 100000 in
theorem ok268 : okM 268 cd268 = true := by decide +kernel
def cd269 : List (List EM) := [[([], 4, 0, 0, 0, 0, 0, 1), ([], 27, 233, 0, 294, 12, 0, 4), eD, eD, ([], 5, 3, 0, 0, 0, 0, 5), ([], 4, 0, 0, 0, 0, 0, 6), ([], 19, 12, 3, 100, 0, 0, 9), eD, eD, ([], 15, 1, 15, 0, 0, 0, 12), eD, eD, ([], 0, 1, 0, 0, 0, -2, 14), eD, ([], 29, 0, 0, 0, 0, 0, 15), ([], 4, 0, 0, 0, 0, 0, 16)],
  [([], 2, 1, 0, 0, 0, 0, 17), ([], 27, 212, 1, 296, 12, 0, 20), eD, eD, ([], 5, 4, 1, 0, 0, 0, 22), eD, ([], 4, 0, 0, 0, 0, 0, 23), ([], 2, 2, 0, 0, 0, 0, 24), ([], 27, 213, 1, 295, 12, 0, 27), eD, eD, ([], 5, 5, 1, 0, 0, 0, 29), eD, ([], 2, 4, 1, 0, 0, 0, 31), eD, ([], 0, 1, 0, 0, 0, -9, 33)],
  [eD, ([], 16, 0, 59, 0, 0, 0, 36), eD, eD, ([], 2, 4, 1, 0, 0, 0, 38), eD, ([], 15, 0, 59, 0, 0, 0, 41), eD, eD, ([], 2, 5, 1, 0, 0, 0, 43), eD, ([], 0, 1, 0, 0, 0, -9, 45), eD, ([], 16, 0, 59, 0, 0, 0, 48), eD, eD],
  [([], 4, 0, 0, 0, 0, 0, 49), ([], 2, 4, 1, 0, 0, 0, 51), eD, ([], 2, 5, 1, 0, 0, 0, 53), eD, ([], 27, 268, 2, 330, 12, 0, 56), eD, eD, ([], 15, 0, 61, 0, 0, 0, 59), eD, eD, ([], 0, 0, 0, 0, 0, -1, 60), ([], 29, 0, 0, 0, 0, 0, 61), ([], 4, 0, 0, 0, 0, 0, 62), ([], 19, 12, 40, 137, 0, 0, 65), eD],
  [eD, ([], 2, 3, 0, 0, 0, 0, 66), ([], 28, 202, 2, 275, 0, 0, 69), eD, eD, ([], 15, 1, 75, 0, 0, 0, 72), eD, eD, ([], 0, 1, 0, 0, 0, -3, 74), eD, ([], 29, 0, 0, 0, 0, 0, 75), ([], 4, 0, 0, 0, 0, 0, 76), ([], 2, 5, 1, 0, 0, 0, 78), eD, ([], 2, 3, 0, 0, 0, 0, 79), ([], 27, 234, 2, 298, 12, 0, 82)],
  [eD, eD, ([], 5, 6, 1, 0, 0, 0, 84), eD, ([], 2, 6, 1, 0, 0, 0, 86), eD, ([], 0, 1, 0, 0, 0, -9, 88), eD, ([], 16, 0, 101, 0, 0, 0, 91), eD, eD, ([], 2, 6, 1, 0, 0, 0, 93), eD, ([], 2, 4, 1, 0, 0, 0, 95), eD, ([], 16, 0, 101, 0, 0, 0, 98)],
  [eD, eD, ([], 0, 1, 0, 0, 0, -4, 100), eD, ([], 29, 0, 0, 0, 0, 0, 101), ([true, false, false, true, true, true, false, false, false, false, false, false, false], 4, 0, 0, 0, 0, 0, 102), ([], 19, 12, 33, 130, 0, 0, 105), eD, eD, ([], 2, 4, 1, 0, 0, 0, 107), eD, ([], 22, 0, 200, 0, 0, 0, 108), ([], 0, 0, 0, 0, 0, 1, 109), ([], 9, 3, 0, 0, 0, 0, 110), ([], 15, 0, 116, 0, 0, 0, 113), eD],
  [eD, ([], 0, 1, 0, 0, 0, -5, 115), eD, ([], 29, 0, 0, 0, 0, 0, 116), ([], 4, 0, 0, 0, 0, 0, 117), ([], 27, 239, 0, 299, 12, 0, 120), eD, eD, ([], 4, 0, 0, 0, 0, 0, 121), ([], 27, 177, 0, 292, 12, 0, 124), eD, eD, ([], 4, 0, 0, 0, 0, 0, 125), ([], 2, 5, 1, 0, 0, 0, 127), eD, ([], 2, 3, 0, 0, 0, 0, 128)],
  [([], 0, 1, 0, 0, 0, 15, 130), eD, ([], 16, 5, 137, 0, 0, 0, 133), eD, eD, ([], 0, 0, 0, 0, 0, 4, 134), ([], 17, 0, 138, 0, 0, 0, 137), eD, eD, ([], 0, 0, 0, 0, 0, 3, 138), ([true, false, false, true, true, true, false, false, false, false, false, false, false], 27, 258, 2, 304, 12, 0, 141), eD, eD, ([], 5, 7, 1, 0, 0, 0, 143), eD, ([], 2, 7, 1, 0, 0, 0, 145)],
  [eD, ([], 0, 1, 0, 0, 0, -6, 147), eD, ([], 16, 1, 153, 0, 0, 0, 150), eD, eD, ([], 0, 1, 0, 0, 0, -6, 152), eD, ([], 29, 0, 0, 0, 0, 0, 153), ([], 4, 0, 0, 0, 0, 0, 154), ([], 4, 0, 0, 0, 0, 0, 155), ([], 19, 12, 26, 123, 0, 0, 158), eD, eD, ([], 2, 4, 1, 0, 0, 0, 160), eD],
  [([], 22, 0, 200, 0, 0, 0, 161), ([], 27, 210, 1, 266, 12, 0, 164), eD, eD, ([], 4, 0, 0, 0, 0, 0, 165), ([], 19, 12, 7, 104, 0, 0, 168), eD, eD, ([], 4, 0, 0, 0, 0, 0, 169), ([], 4, 0, 0, 0, 0, 0, 170), ([], 19, 12, 27, 124, 0, 0, 173), eD, eD, ([], 2, 4, 1, 0, 0, 0, 175), eD, ([], 22, 0, 200, 0, 0, 0, 176)],
  [([], 27, 197, 1, 270, 12, 0, 179), eD, eD, ([], 0, 1, 0, 0, 0, 8, 181), eD, ([], 9, 0, 0, 0, 0, 0, 182), ([], 0, 0, 0, 0, 0, 4, 183), ([], 28, 167, 3, 254, 0, 0, 186), eD, eD, ([], 6, 8, 1, 0, 0, 0, 188), eD, ([], 4, 0, 0, 0, 0, 0, 189), ([], 19, 12, 7, 104, 0, 0, 192), eD, eD],
  [([], 4, 0, 0, 0, 0, 0, 193), ([], 4, 0, 0, 0, 0, 0, 194), ([], 19, 12, 27, 124, 0, 0, 197), eD, eD, ([], 2, 4, 1, 0, 0, 0, 199), eD, ([], 22, 0, 200, 0, 0, 0, 200), ([], 27, 197, 1, 270, 12, 0, 203), eD, eD, ([], 0, 1, 0, 0, 0, 12, 205), eD, ([], 9, 0, 0, 0, 0, 0, 206), ([], 0, 0, 0, 0, 0, 4, 207), ([], 28, 167, 3, 254, 0, 0, 210)],
  [eD, eD, ([], 6, 10, 1, 0, 0, 0, 212), eD, ([], 4, 0, 0, 0, 0, 0, 213), ([], 27, 179, 0, 313, 12, 0, 216), eD, eD, ([], 15, 0, 227, 0, 0, 0, 219), eD, eD, ([], 4, 0, 0, 0, 0, 0, 220), ([], 0, 0, 0, 0, 0, 0, 221), ([], 27, 261, 1, 314, 12, 0, 224), eD, eD],
  [([], 15, 1, 230, 0, 0, 0, 227), eD, eD, ([], 0, 1, 0, 0, 0, -7, 229), eD, ([], 29, 0, 0, 0, 0, 0, 230), ([], 4, 0, 0, 0, 0, 0, 231), ([], 2, 5, 1, 0, 0, 0, 233), eD, ([], 27, 262, 1, 321, 12, 0, 236), eD, eD, ([], 4, 0, 0, 0, 0, 0, 237), ([], 0, 0, 0, 0, 0, 1, 238), ([], 27, 250, 1, 306, 12, 0, 241), eD],
  [eD, ([], 0, 0, 0, 0, 0, 4, 242), ([], 4, 0, 0, 0, 0, 0, 243), ([], 19, 12, 16, 113, 0, 0, 246), eD, eD, ([], 2, 7, 1, 0, 0, 0, 248), eD, ([], 0, 0, 0, 0, 0, 4, 249), ([], 10, 0, 0, 0, 0, 0, 250), ([], 22, 0, 102, 0, 0, 0, 251), ([], 9, 2, 0, 0, 0, 0, 252), ([], 2, 7, 1, 0, 0, 0, 254), eD, ([], 0, 0, 0, 0, 0, 4, 255), ([], 10, 1, 0, 0, 0, 0, 256)],
  [([], 9, 0, 0, 0, 0, 0, 257), ([], 5, 12, 1, 0, 0, 0, 259), eD, ([], 4, 0, 0, 0, 0, 0, 260), ([], 2, 7, 1, 0, 0, 0, 262), eD, ([], 2, 3, 0, 0, 0, 0, 263), ([], 4, 0, 0, 0, 0, 0, 264), ([], 19, 12, 33, 130, 0, 0, 267), eD, eD, ([], 2, 4, 1, 0, 0, 0, 269), eD, ([], 22, 0, 200, 0, 0, 0, 270), ([], 3, 8, 1, 0, 0, 0, 272), eD],
  [([], 3, 10, 1, 0, 0, 0, 274), eD, ([], 4, 0, 0, 0, 0, 0, 275), ([], 19, 12, 31, 128, 0, 0, 278), eD, eD, ([], 2, 4, 1, 0, 0, 0, 280), eD, ([], 22, 2, 200, 0, 0, 0, 281), ([], 4, 0, 0, 0, 0, 0, 282), ([], 19, 12, 32, 129, 0, 0, 285), eD, eD, ([], 2, 4, 1, 0, 0, 0, 287), eD, ([], 22, 0, 200, 0, 0, 0, 288)],
  [([], 4, 0, 0, 0, 0, 0, 289), ([], 19, 12, 30, 127, 0, 0, 292), eD, eD, ([], 2, 4, 1, 0, 0, 0, 294), eD, ([], 22, 1, 200, 0, 0, 0, 295), ([], 27, 254, 8, 325, 12, 0, 298), eD, eD, ([], 4, 0, 0, 0, 0, 0, 299), ([], 27, 178, 0, 293, 12, 0, 302), eD, eD, ([], 15, 1, 308, 0, 0, 0, 305), eD],
  [eD, ([], 0, 1, 0, 0, 0, -7, 307), eD, ([], 29, 0, 0, 0, 0, 0, 308), ([], 4, 0, 0, 0, 0, 0, 309), ([], 2, 4, 1, 0, 0, 0, 311), eD, ([], 27, 257, 1, 329, 12, 0, 314), eD, eD, ([], 4, 0, 0, 0, 0, 0, 315), ([], 27, 178, 0, 293, 12, 0, 318), eD, eD, ([], 15, 0, 326, 0, 0, 0, 321), eD],
  [eD, ([], 2, 12, 1, 0, 0, 0, 323), eD, ([], 17, 0, 328, 0, 0, 0, 326), eD, eD, ([], 0, 1, 0, 0, 0, -7, 328), eD, ([], 29, 0, 0, 0, 0, 0, 329)]]
set_option maxRecDepth 100000 in
theorem ok269 : okM 269 cd269 = true := by decide +kernel
def cd270 : List (List EM) := [[([], 4, 0, 0, 0, 0, 0, 1), ([], 19, 12, 3, 100, 0, 0, 4), eD, eD, ([], 15, 1, 10, 0, 0, 0, 7), eD, eD, ([], 0, 1, 0, 0, 0, -2, 9), eD, ([], 29, 0, 0, 0, 0, 0, 10), ([], 4, 0, 0, 0, 0, 0, 11), ([], 2, 1, 0, 0, 0, 0, 12), ([], 27, 212, 1, 296, 12, 0, 15), eD, eD, ([], 5, 3, 0, 0, 0, 0, 16)],
  [([], 2, 3, 0, 0, 0, 0, 17), ([], 0, 1, 0, 0, 0, -9, 19), eD, ([], 16, 0, 26, 0, 0, 0, 22), eD, eD, ([], 2, 3, 0, 0, 0, 0, 23), ([], 15, 1, 28, 0, 0, 0, 26), eD, eD, ([], 0, 0, 0, 0, 0, -1, 27), ([], 29, 0, 0, 0, 0, 0, 28), ([], 4, 0, 0, 0, 0, 0, 29), ([], 27, 177, 0, 292, 12, 0, 32), eD, eD],
  [([], 4, 0, 0, 0, 0, 0, 33), ([], 27, 179, 0, 313, 12, 0, 36), eD, eD, ([], 15, 1, 42, 0, 0, 0, 39), eD, eD, ([], 0, 1, 0, 0, 0, -7, 41), eD, ([], 29, 0, 0, 0, 0, 0, 42), ([], 4, 0, 0, 0, 0, 0, 43), ([], 4, 0, 0, 0, 0, 0, 44), ([], 19, 12, 26, 123, 0, 0, 47), eD, eD, ([], 2, 3, 0, 0, 0, 0, 48)],
  [([], 22, 0, 200, 0, 0, 0, 49), ([], 27, 210, 1, 266, 12, 0, 52), eD, eD, ([], 4, 0, 0, 0, 0, 0, 53), ([], 19, 12, 27, 124, 0, 0, 56), eD, eD, ([], 2, 3, 0, 0, 0, 0, 57), ([], 22, 0, 200, 0, 0, 0, 58), ([], 5, 4, 1, 0, 0, 0, 60), eD, ([], 4, 0, 0, 0, 0, 0, 61), ([], 19, 12, 8, 105, 0, 0, 64), eD, eD],
  [([], 4, 0, 0, 0, 0, 0, 65), ([], 2, 4, 1, 0, 0, 0, 67), eD, ([], 27, 197, 1, 270, 12, 0, 70), eD, eD, ([], 0, 0, 0, 0, 0, 4, 71), ([], 9, 0, 0, 0, 0, 0, 72), ([], 0, 0, 0, 0, 0, 2, 73), ([], 2, 2, 0, 0, 0, 0, 74), ([], 15, 0, 89, 0, 0, 0, 77), eD, eD, ([], 4, 0, 0, 0, 0, 0, 78), ([], 19, 12, 33, 130, 0, 0, 81), eD],
  [eD, ([], 2, 3, 0, 0, 0, 0, 82), ([], 22, 0, 200, 0, 0, 0, 83), ([], 0, 0, 0, 0, 0, 1, 84), ([], 9, 4, 0, 0, 0, 0, 85), ([], 14, 0, 0, 0, 0, 0, 86), ([], 17, 0, 99, 0, 0, 0, 89), eD, eD, ([], 4, 0, 0, 0, 0, 0, 90), ([], 19, 12, 33, 130, 0, 0, 93), eD, eD, ([], 2, 3, 0, 0, 0, 0, 94), ([], 22, 0, 200, 0, 0, 0, 95), ([], 0, 1, 0, 0, 0, -2, 97)],
  [eD, ([], 9, 3, 0, 0, 0, 0, 98), ([], 14, 0, 0, 0, 0, 0, 99), ([true, false, false, true, true], 28, 168, 4, 246, 0, 0, 102), eD, eD, ([], 4, 0, 0, 0, 0, 0, 103), ([], 2, 4, 1, 0, 0, 0, 105), eD, ([], 4, 0, 0, 0, 0, 0, 106), ([], 19, 12, 28, 125, 0, 0, 109), eD, eD, ([], 2, 3, 0, 0, 0, 0, 110), ([], 22, 0, 200, 0, 0, 0, 111), ([], 27, 253, 2, 324, 12, 0, 114)],
  [eD, eD, ([], 4, 0, 0, 0, 0, 0, 115), ([], 27, 178, 0, 293, 12, 0, 118), eD, eD, ([], 15, 0, 132, 0, 0, 0, 121), eD, eD, ([], 4, 0, 0, 0, 0, 0, 122), ([], 19, 12, 33, 130, 0, 0, 125), eD, eD, ([], 2, 3, 0, 0, 0, 0, 126), ([], 22, 0, 200, 0, 0, 0, 127), ([], 0, 0, 0, 0, 0, 1, 128)],
  [([], 9, 3, 0, 0, 0, 0, 129), ([], 17, 0, 134, 0, 0, 0, 132), eD, eD, ([], 0, 1, 0, 0, 0, -7, 134), eD, ([], 29, 0, 0, 0, 0, 0, 135)]]
set_option maxRecDepth 100000 in
theorem ok270 : okM 270 cd270 = true := by decide +kernel
def cd271 : List (List EM) := [[([], 4, 0, 0, 0, 0, 0, 1), ([], 19, 12, 3, 100, 0, 0, 4), eD, eD, ([], 15, 0, 15, 0, 0, 0, 7), eD, eD, ([], 4, 0, 0, 0, 0, 0, 8), ([], 2, 1, 0, 0, 0, 0, 9), ([], 27, 214, 1, 326, 12, 0, 12), eD, eD, ([], 17, 0, 17, 0, 0, 0, 15), eD, eD, ([], 0, 1, 0, 0, 0, -9, 17)],
  [eD, ([true, false, true, false, false, false, false, false, false], 5, 3, 0, 0, 0, 0, 18), ([], 2, 3, 0, 0, 0, 0, 19), ([], 0, 1, 0, 0, 0, -9, 21), eD, ([], 16, 0, 28, 0, 0, 0, 24), eD, eD, ([], 2, 2, 0, 0, 0, 0, 25), ([], 15, 3, 30, 0, 0, 0, 28), eD, eD, ([], 1, 0, 0, 0, 0, 0, 29), ([], 30, 0, 0, 0, 0, 0, 30), ([], 4, 0, 0, 0, 0, 0, 31), ([], 2, 3, 0, 0, 0, 0, 32)],
  [([], 27, 210, 1, 266, 12, 0, 35), eD, eD, ([], 1, 0, 0, 0, 0, 0, 36), ([], 6, 4, 1, 0, 0, 0, 38), eD, ([], 0, 1, 0, 0, 0, 7, 40), eD, ([], 5, 6, 1, 0, 0, 0, 42), eD, ([true, false, true, true, true, false, true, false, false], 2, 6, 1, 0, 0, 0, 44), eD, ([], 15, 2, 118, 0, 0, 0, 47), eD, eD, ([], 2, 2, 0, 0, 0, 0, 48)],
  [([], 14, 0, 0, 0, 0, 0, 49), ([], 2, 6, 1, 0, 0, 0, 51), eD, ([], 14, 0, 0, 0, 0, 0, 52), ([], 11, 0, 0, 0, 0, 0, 53), ([], 6, 7, 1, 0, 0, 0, 55), eD, ([], 3, 4, 1, 0, 0, 0, 57), eD, ([], 0, 1, 0, 0, 0, 8, 59), eD, ([], 13, 0, 0, 0, 0, 0, 60), ([], 3, 7, 1, 0, 0, 0, 62), eD, ([], 4, 0, 0, 0, 0, 0, 63), ([], 19, 12, 31, 128, 0, 0, 66)],
  [eD, eD, ([], 2, 3, 0, 0, 0, 0, 67), ([], 22, 2, 200, 0, 0, 0, 68), ([], 18, 3, 107, 0, 0, 0, 72), eD, eD, eD, ([], 4, 0, 0, 0, 0, 0, 73), ([], 19, 12, 7, 104, 0, 0, 76), eD, eD, ([], 4, 0, 0, 0, 0, 0, 77), ([], 19, 12, 16, 113, 0, 0, 80), eD, eD],
  [([], 3, 7, 1, 0, 0, 0, 82), eD, ([], 1, 2, 0, 18, 0, 128, 85), eD, eD, ([], 12, 0, 0, 0, 0, 0, 86), ([], 14, 1, 0, 0, 0, 0, 87), ([], 22, 0, 102, 0, 0, 0, 88), ([], 28, 169, 1, 249, 0, 0, 91), eD, eD, ([], 3, 7, 1, 0, 0, 0, 93), eD, ([], 1, 2, 0, 18, 0, 128, 96), eD, eD],
  [([], 12, 1, 0, 0, 0, 0, 97), ([], 14, 1, 0, 0, 0, 0, 98), ([], 9, 0, 0, 0, 0, 0, 99), ([], 22, 1, 13824, 0, 0, 0, 100), ([], 0, 2, 0, 0, 0, 255, 103), eD, eD, ([], 9, 3, 0, 0, 0, 0, 104), ([], 17, 0, 108, 0, 0, 0, 107), eD, eD, ([], 0, 0, 0, 0, 0, 0, 108), ([], 14, 0, 0, 0, 0, 0, 109), ([], 11, 4, 0, 0, 0, 0, 110), ([], 6, 4, 1, 0, 0, 0, 112), eD],
  [([], 8, 6, 0, 0, 0, -1, 115), eD, eD, ([], 17, 0, 42, 0, 0, 0, 118), eD, eD, ([], 3, 4, 1, 0, 0, 0, 120), eD, ([], 30, 0, 0, 0, 0, 0, 121)]]
set_option maxRecDepth 100000 in
theorem ok271 : okM 271 cd271 = true := by decide +kernel
def cd272 : List (List EM) := [[([], 4, 0, 0, 0, 0, 0, 1), ([], 19, 12, 3, 100, 0, 0, 4), eD, eD, ([], 15, 1, 10, 0, 0, 0, 7), eD, eD, ([], 0, 1, 0, 0, 0, -2, 9), eD, ([], 29, 0, 0, 0, 0, 0, 10), ([], 4, 0, 0, 0, 0, 0, 11), ([], 2, 1, 0, 0, 0, 0, 12), ([], 27, 212, 1, 296, 12, 0, 15), eD, eD, ([], 5, 3, 0, 0, 0, 0, 16)],
  [([], 2, 3, 0, 0, 0, 0, 17), ([], 0, 1, 0, 0, 0, -9, 19), eD, ([], 16, 0, 34, 0, 0, 0, 22), eD, eD, ([], 2, 2, 0, 0, 0, 0, 23), ([], 14, 0, 0, 0, 0, 0, 24), ([], 1, 0, 0, 0, 0, 0, 25), ([], 1, 2, 0, 9, 0, 8, 28), eD, eD, ([], 28, 166, 3, 243, 0, 0, 31), eD, eD, ([], 15, 1, 36, 0, 0, 0, 34)],
  [eD, eD, ([], 0, 0, 0, 0, 0, -1, 35), ([], 29, 0, 0, 0, 0, 0, 36), ([], 2, 3, 0, 0, 0, 0, 37), ([], 15, 1, 83, 0, 0, 0, 40), eD, eD, ([], 4, 0, 0, 0, 0, 0, 41), ([], 27, 200, 0, 267, 12, 0, 44), eD, eD, ([], 2, 2, 0, 0, 0, 0, 45), ([], 15, 1, 53, 0, 0, 0, 48), eD, eD],
  [([], 0, 1, 0, 0, 0, 16, 50), eD, ([], 17, 0, 82, 0, 0, 0, 53), eD, eD, ([], 2, 2, 0, 0, 0, 0, 54), ([], 0, 0, 0, 0, 0, 1, 55), ([], 16, 1, 69, 0, 0, 0, 58), eD, eD, ([], 0, 2, 0, 0, 0, 128, 61), eD, eD, ([], 4, 0, 0, 0, 0, 0, 62), ([], 19, 12, 17, 114, 0, 0, 65), eD],
  [eD, ([], 9, 2, 0, 0, 0, 0, 66), ([], 17, 0, 82, 0, 0, 0, 69), eD, eD, ([], 2, 2, 0, 0, 0, 0, 70), ([], 0, 0, 0, 0, 0, 2, 71), ([], 16, 1, 81, 0, 0, 0, 74), eD, eD, ([], 4, 0, 0, 0, 0, 0, 75), ([], 19, 12, 1, 98, 0, 0, 78), eD, eD, ([], 17, 0, 82, 0, 0, 0, 81), eD],
  [eD, ([], 0, 0, 0, 0, 0, 0, 82), ([], 29, 0, 0, 0, 0, 0, 83), ([], 4, 0, 0, 0, 0, 0, 84), ([], 4, 0, 0, 0, 0, 0, 85), ([], 19, 12, 26, 123, 0, 0, 88), eD, eD, ([], 2, 3, 0, 0, 0, 0, 89), ([], 22, 0, 200, 0, 0, 0, 90), ([], 27, 210, 1, 266, 12, 0, 93), eD, eD, ([], 4, 0, 0, 0, 0, 0, 94), ([], 4, 0, 0, 0, 0, 0, 95), ([], 19, 12, 27, 124, 0, 0, 98)],
  [eD, eD, ([], 2, 3, 0, 0, 0, 0, 99), ([], 22, 0, 200, 0, 0, 0, 100), ([], 27, 197, 1, 270, 12, 0, 103), eD, eD, ([], 5, 4, 1, 0, 0, 0, 105), eD, ([], 4, 0, 0, 0, 0, 0, 106), ([], 4, 0, 0, 0, 0, 0, 107), ([], 19, 12, 27, 124, 0, 0, 110), eD, eD, ([], 2, 3, 0, 0, 0, 0, 111), ([], 22, 0, 200, 0, 0, 0, 112)],
  [([], 0, 0, 0, 0, 0, 1, 113), ([], 9, 0, 0, 0, 0, 0, 114), ([], 27, 197, 1, 270, 12, 0, 117), eD, eD, ([], 5, 5, 1, 0, 0, 0, 119), eD, ([], 2, 2, 0, 0, 0, 0, 120), ([], 32, 0, 0, 5, 0, 0, 168), eD, eD, eD, eD, eD, eD, eD],
  [eD, eD, eD, eD, eD, eD, eD, eD, eD, eD, eD, eD, eD, eD, eD, eD],
  [eD, eD, eD, eD, eD, eD, eD, eD, eD, eD, eD, eD, eD, eD, eD, eD],
  [eD, eD, eD, eD, eD, eD, eD, eD, ([], 4, 0, 0, 0, 0, 0, 169), ([], 19, 12, 33, 130, 0, 0, 172), eD, eD, ([], 2, 3, 0, 0, 0, 0, 173), ([], 22, 0, 200, 0, 0, 0, 174), ([], 29, 0, 0, 0, 0, 0, 175), ([], 4, 0, 0, 0, 0, 0, 176)],
  [([], 19, 12, 31, 128, 0, 0, 179), eD, eD, ([], 2, 3, 0, 0, 0, 0, 180), ([], 22, 2, 200, 0, 0, 0, 181), ([], 14, 1, 0, 0, 0, 0, 182), ([], 29, 0, 0, 0, 0, 0, 183), ([], 4, 0, 0, 0, 0, 0, 184), ([], 19, 12, 32, 129, 0, 0, 187), eD, eD, ([], 2, 3, 0, 0, 0, 0, 188), ([], 22, 0, 200, 0, 0, 0, 189), ([], 29, 0, 0, 0, 0, 0, 190), ([], 4, 0, 0, 0, 0, 0, 191), ([], 19, 12, 30, 127, 0, 0, 194)],
  [eD, eD, ([], 2, 3, 0, 0, 0, 0, 195), ([], 22, 1, 200, 0, 0, 0, 196), ([], 15, 0, 203, 0, 0, 0, 199), eD, eD, ([], 0, 0, 0, 0, 0, 1, 200), ([], 17, 0, 204, 0, 0, 0, 203), eD, eD, ([], 0, 0, 0, 0, 0, 0, 204), ([], 29, 0, 0, 0, 0, 0, 205), ([], 4, 0, 0, 0, 0, 0, 206), ([], 19, 12, 7, 104, 0, 0, 209), eD],
  [eD, ([], 2, 5, 1, 0, 0, 0, 211), eD, ([], 0, 0, 0, 0, 0, 3, 212), ([], 9, 0, 0, 0, 0, 0, 213), ([], 22, 1, 13824, 0, 0, 0, 214), ([], 0, 2, 0, 0, 0, 255, 217), eD, eD, ([], 9, 3, 0, 0, 0, 0, 218), ([], 29, 0, 0, 0, 0, 0, 219), ([], 4, 0, 0, 0, 0, 0, 220), ([], 19, 12, 7, 104, 0, 0, 223), eD, eD, ([], 2, 5, 1, 0, 0, 0, 225)],
  [eD, ([], 0, 0, 0, 0, 0, 4, 226), ([], 9, 0, 0, 0, 0, 0, 227), ([], 0, 0, 0, 0, 0, 2, 228), ([], 28, 167, 3, 254, 0, 0, 231), eD, eD, ([], 14, 1, 0, 0, 0, 0, 232), ([], 29, 0, 0, 0, 0, 0, 233), ([], 4, 0, 0, 0, 0, 0, 234), ([], 19, 12, 7, 104, 0, 0, 237), eD, eD, ([], 2, 4, 1, 0, 0, 0, 239), eD, ([], 0, 0, 0, 0, 0, 2, 240)],
  [([], 9, 0, 0, 0, 0, 0, 241), ([], 0, 0, 0, 0, 0, 2, 242), ([], 28, 167, 3, 254, 0, 0, 245), eD, eD, ([], 14, 1, 0, 0, 0, 0, 246), ([], 29, 0, 0, 0, 0, 0, 247), ([], 4, 0, 0, 0, 0, 0, 248), ([], 19, 12, 7, 104, 0, 0, 251), eD, eD, ([], 2, 4, 1, 0, 0, 0, 253), eD, ([], 0, 1, 0, 0, 0, 8, 255), eD, ([], 9, 0, 0, 0, 0, 0, 256)],
  [([], 0, 0, 0, 0, 0, 4, 257), ([], 28, 167, 3, 254, 0, 0, 260), eD, eD, ([], 14, 1, 0, 0, 0, 0, 261), ([], 29, 0, 0, 0, 0, 0, 262), ([], 4, 0, 0, 0, 0, 0, 263), ([], 19, 12, 7, 104, 0, 0, 266), eD, eD, ([], 2, 4, 1, 0, 0, 0, 268), eD, ([], 0, 1, 0, 0, 0, 12, 270), eD, ([], 9, 0, 0, 0, 0, 0, 271), ([], 0, 0, 0, 0, 0, 4, 272)],
  [([], 28, 167, 3, 254, 0, 0, 275), eD, eD, ([], 14, 1, 0, 0, 0, 0, 276), ([], 29, 0, 0, 0, 0, 0, 277)]]
set_option maxRecDepth 100000 in
theorem ok272 : okM 272 cd272 = true := by decide +kernel
def cd273 : List (List EM) := [[([], 4, 0, 0, 0, 0, 0, 1), ([], 19, 12, 3, 100, 0, 0, 4), eD, eD, ([], 15, 1, 10, 0, 0, 0, 7), eD, eD, ([], 0, 1, 0, 0, 0, -2, 9), eD, ([], 29, 0, 0, 0, 0, 0, 10), ([], 4, 0, 0, 0, 0, 0, 11), ([], 2, 1, 0, 0, 0, 0, 12), ([], 27, 212, 1, 296, 12, 0, 15), eD, eD, ([], 5, 3, 0, 0, 0, 0, 16)],
  [([], 2, 3, 0, 0, 0, 0, 17), ([], 0, 1, 0, 0, 0, -9, 19), eD, ([], 16, 0, 26, 0, 0, 0, 22), eD, eD, ([], 2, 3, 0, 0, 0, 0, 23), ([], 15, 1, 28, 0, 0, 0, 26), eD, eD, ([], 0, 0, 0, 0, 0, -1, 27), ([], 29, 0, 0, 0, 0, 0, 28), ([], 4, 0, 0, 0, 0, 0, 29), ([], 4, 0, 0, 0, 0, 0, 30), ([], 19, 12, 26, 123, 0, 0, 33), eD],
  [eD, ([], 2, 3, 0, 0, 0, 0, 34), ([], 22, 0, 200, 0, 0, 0, 35), ([], 27, 210, 1, 266, 12, 0, 38), eD, eD, ([], 4, 0, 0, 0, 0, 0, 39), ([], 4, 0, 0, 0, 0, 0, 40), ([], 19, 12, 27, 124, 0, 0, 43), eD, eD, ([], 2, 3, 0, 0, 0, 0, 44), ([], 22, 0, 200, 0, 0, 0, 45), ([], 27, 205, 1, 272, 12, 0, 48), eD, eD],
  [([], 5, 4, 1, 0, 0, 0, 50), eD, ([], 2, 2, 0, 0, 0, 0, 51), ([], 14, 0, 0, 0, 0, 0, 52), ([], 1, 0, 0, 0, 0, 0, 53), ([], 4, 0, 0, 0, 0, 0, 54), ([], 19, 12, 19, 116, 0, 0, 57), eD, eD, ([], 0, 0, 0, 0, 0, 1, 58), ([], 9, 1, 0, 0, 0, 0, 59), ([], 14, 0, 0, 0, 0, 0, 60), ([], 28, 166, 3, 243, 0, 0, 63), eD, eD, ([], 15, 0, 75, 0, 0, 0, 66)],
  [eD, eD, ([], 4, 0, 0, 0, 0, 0, 67), ([], 19, 12, 20, 117, 0, 0, 70), eD, eD, ([], 2, 2, 0, 0, 0, 0, 71), ([], 22, 0, 30, 0, 0, 0, 72), ([], 17, 0, 76, 0, 0, 0, 75), eD, eD, ([], 0, 0, 0, 0, 0, -1, 76), ([], 29, 0, 0, 0, 0, 0, 77)]]
set_option maxRecDepth 100000 in
theorem ok273 : okM 273 cd273 = true := by decide +kernel
def cd274 : List (List EM) := [[([], 4, 0, 0, 0, 0, 0, 1), ([], 19, 12, 3, 100, 0, 0, 4), eD, eD, ([], 15, 1, 10, 0, 0, 0, 7), eD, eD, ([], 0, 1, 0, 0, 0, -2, 9), eD, ([], 29, 0, 0, 0, 0, 0, 10), ([], 4, 0, 0, 0, 0, 0, 11), ([], 2, 1, 0, 0, 0, 0, 12), ([], 27, 212, 1, 296, 12, 0, 15), eD, eD, ([], 5, 3, 0, 0, 0, 0, 16)],
  [([], 2, 3, 0, 0, 0, 0, 17), ([], 0, 1, 0, 0, 0, -9, 19), eD, ([], 16, 1, 24, 0, 0, 0, 22), eD, eD, ([], 0, 0, 0, 0, 0, -1, 23), ([], 29, 0, 0, 0, 0, 0, 24), ([], 4, 0, 0, 0, 0, 0, 25), ([], 2, 3, 0, 0, 0, 0, 26), ([], 27, 210, 1, 266, 12, 0, 29), eD, eD, ([], 2, 2, 0, 0, 0, 0, 30), ([], 14, 0, 0, 0, 0, 0, 31), ([], 1, 0, 0, 0, 0, 0, 32)],
  [([], 4, 0, 0, 0, 0, 0, 33), ([], 19, 12, 17, 114, 0, 0, 36), eD, eD, ([], 0, 0, 0, 0, 0, 1, 37), ([], 9, 1, 0, 0, 0, 0, 38), ([], 14, 0, 0, 0, 0, 0, 39), ([], 28, 166, 3, 243, 0, 0, 42), eD, eD, ([], 15, 0, 54, 0, 0, 0, 45), eD, eD, ([], 4, 0, 0, 0, 0, 0, 46), ([], 19, 12, 16, 113, 0, 0, 49), eD],
  [eD, ([], 2, 2, 0, 0, 0, 0, 50), ([], 22, 0, 102, 0, 0, 0, 51), ([], 17, 0, 56, 0, 0, 0, 54), eD, eD, ([], 0, 1, 0, 0, 0, -9, 56), eD, ([], 29, 0, 0, 0, 0, 0, 57)]]
set_option maxRecDepth 100000 in
theorem ok274 : okM 274 cd274 = true := by decide +kernel
def cd275 : List (List EM) := [[([], 0, 0, 0, 0, 0, 0, 1), ([], 5, 1, 0, 0, 0, 0, 2), ([], 0, 0, 0, 0, 0, 0, 3), ([], 5, 2, 0, 0, 0, 0, 4), ([], 0, 0, 0, 0, 0, 2, 5), ([], 5, 3, 0, 0, 0, 0, 6), ([true, true, true, true], 2, 3, 0, 0, 0, 0, 7), ([], 4, 0, 0, 0, 0, 0, 8), ([], 19, 12, 0, 97, 0, 0, 11), eD, eD, ([], 0, 0, 0, 0, 0, 1, 12), ([], 9, 0, 0, 0, 0, 0, 13), ([], 16, 4, 53, 0, 0, 0, 16), eD, eD],
  [([], 4, 0, 0, 0, 0, 0, 17), ([], 4, 0, 0, 0, 0, 0, 18), ([], 19, 12, 7, 104, 0, 0, 21), eD, eD, ([], 2, 3, 0, 0, 0, 0, 22), ([], 27, 173, 2, 291, 12, 0, 25), eD, eD, ([], 15, 0, 32, 0, 0, 0, 28), eD, eD, ([], 0, 0, 0, 0, 0, 0, 29), ([], 17, 0, 35, 0, 0, 0, 32), eD, eD],
  [([], 2, 2, 0, 0, 0, 0, 33), ([], 0, 0, 0, 0, 0, 1, 34), ([], 9, 0, 0, 0, 0, 0, 35), ([], 5, 2, 0, 0, 0, 0, 36), ([], 2, 2, 0, 0, 0, 0, 37), ([], 2, 1, 0, 0, 0, 0, 38), ([], 16, 5, 45, 0, 0, 0, 41), eD, eD, ([], 2, 2, 0, 0, 0, 0, 42), ([], 17, 0, 46, 0, 0, 0, 45), eD, eD, ([], 2, 1, 0, 0, 0, 0, 46), ([], 5, 1, 0, 0, 0, 0, 47), ([], 8, 3, 0, 0, 0, 1, 50)],
  [eD, eD, ([], 17, 0, 6, 0, 0, 0, 53), eD, eD, ([], 2, 1, 0, 0, 0, 0, 54), ([], 29, 0, 0, 0, 0, 0, 55)]]
set_option maxRecDepth 100000 in
theorem ok275 : okM 275 cd275 = true := by decide +kernel
def cd276 : List (List EM) := [[([], 2, 1, 0, 0, 0, 0, 1), ([], 14, 0, 0, 0, 0, 0, 2), ([], 1, 0, 0, 0, 0, 0, 3), ([], 1, 2, 0, 33, 0, 5, 6), eD, eD, ([], 28, 166, 3, 243, 0, 0, 9), eD, eD, ([], 15, 1, 14, 0, 0, 0, 12), eD, eD, ([], 0, 0, 0, 0, 0, -1, 13), ([], 29, 0, 0, 0, 0, 0, 14), ([], 2, 1, 0, 0, 0, 0, 15), ([], 0, 0, 0, 0, 0, 3, 16)],
  [([], 16, 5, 44, 0, 0, 0, 19), eD, eD, ([], 2, 1, 0, 0, 0, 0, 20), ([], 0, 0, 0, 0, 0, 4, 21), ([], 16, 1, 31, 0, 0, 0, 24), eD, eD, ([], 4, 0, 0, 0, 0, 0, 25), ([], 19, 12, 6, 103, 0, 0, 28), eD, eD, ([], 17, 0, 43, 0, 0, 0, 31), eD, eD, ([], 4, 0, 0, 0, 0, 0, 32)],
  [([], 19, 12, 3, 100, 0, 0, 35), eD, eD, ([], 15, 0, 42, 0, 0, 0, 38), eD, eD, ([], 0, 0, 0, 0, 0, 1, 39), ([], 17, 0, 43, 0, 0, 0, 42), eD, eD, ([], 0, 0, 0, 0, 0, 0, 43), ([], 29, 0, 0, 0, 0, 0, 44), ([], 4, 0, 0, 0, 0, 0, 45), ([], 19, 12, 3, 100, 0, 0, 48), eD, eD],
  [([], 15, 1, 54, 0, 0, 0, 51), eD, eD, ([], 0, 1, 0, 0, 0, -2, 53), eD, ([], 29, 0, 0, 0, 0, 0, 54), ([], 2, 1, 0, 0, 0, 0, 55), ([], 15, 1, 65, 0, 0, 0, 58), eD, eD, ([], 4, 0, 0, 0, 0, 0, 59), ([], 19, 12, 0, 97, 0, 0, 62), eD, eD, ([], 17, 0, 100, 0, 0, 0, 65), eD],
  [eD, ([], 2, 1, 0, 0, 0, 0, 66), ([], 0, 0, 0, 0, 0, 1, 67), ([], 16, 1, 77, 0, 0, 0, 70), eD, eD, ([], 4, 0, 0, 0, 0, 0, 71), ([], 27, 238, 0, 290, 12, 0, 74), eD, eD, ([], 17, 0, 100, 0, 0, 0, 77), eD, eD, ([], 2, 1, 0, 0, 0, 0, 78), ([], 0, 0, 0, 0, 0, 2, 79), ([], 16, 1, 89, 0, 0, 0, 82)],
  [eD, eD, ([], 4, 0, 0, 0, 0, 0, 83), ([], 27, 275, 0, 331, 12, 0, 86), eD, eD, ([], 17, 0, 100, 0, 0, 0, 89), eD, eD, ([], 4, 0, 0, 0, 0, 0, 90), ([], 19, 12, 7, 104, 0, 0, 93), eD, eD, ([], 0, 1, 0, 0, 0, 44, 95), eD, ([], 22, 1, 13824, 0, 0, 0, 96)],
  [([], 0, 0, 0, 0, 0, 1, 97), ([], 9, 7, 0, 0, 0, 0, 98), ([], 0, 0, 0, 0, 0, 1, 99), ([], 9, 3, 0, 0, 0, 0, 100), ([], 29, 0, 0, 0, 0, 0, 101)]]
set_option maxRecDepth 100000 in
theorem ok276 : okM 276 cd276 = true := by decide +kernel
def cd277 : List (List EM) := [[([], 0, 0, 0, 0, 0, 0, 1), ([], 5, 2, 0, 0, 0, 0, 2), ([], 4, 0, 0, 0, 0, 0, 3), ([], 21, 0, 0, 0, 0, 0, 4), ([], 5, 3, 0, 0, 0, 0, 5), ([true, true, true, true], 2, 2, 0, 0, 0, 0, 6), ([], 2, 3, 0, 0, 0, 0, 7), ([], 16, 3, 20, 0, 0, 0, 10), eD, eD, ([], 4, 0, 0, 0, 0, 0, 11), ([], 2, 2, 0, 0, 0, 0, 12), ([], 2, 1, 0, 0, 0, 0, 13), ([], 23, 0, 0, 0, 0, 0, 14), ([], 8, 2, 0, 0, 0, 1, 17), eD],
  [eD, ([], 17, 0, 5, 0, 0, 0, 20), eD, eD, ([], 31, 0, 0, 0, 0, 0, 21)]]
set_option maxRecDepth 100000 in
theorem ok277 : okM 277 cd277 = true := by decide +kernel
end
section
/-! what is to be shown of each method, from its entry and from its cuts, by program out of the code tables -/
-- java/util/Arrays.fill([II)V  [3]
set_option maxRecDepth 100000 in
theorem q_J_fill_3 {G : GG} {P : AH → Prop} {x1 : Int} {h : AH}
  (H : Go G (pV P) 277 5 [some (vR 3), some (vI x1), some (vI 0), some (vI (ob_ln 3 : Int))] [] h) :
  RunsV G 277 [vR 3, vI x1] h P := runs_of (by decide) 2 rfl (go1 ok277 900 H)
set_option maxRecDepth 100000 in
theorem q_J_fill_3_c5 {G : GG} {P : AH → Prop} {x1 x2 x3 : Int} {h : AH}
  (H : ((wI x3 ≤ wI x2 →
    P h) ∧
    (¬ wI x3 ≤ wI x2 →
    ((0 ≤ wI x2 ∧ wI x2 < (ob_ln 3 : Int)) ∧
    Go G (pV P) 277 5 [some (vR 3), some (vI x1), some (vI (x2 + 1)), some (vI x3)] [] (hs h 3 (wI x2).toNat x1))))) :
  Go G (pV P) 277 5 [some (vR 3), some (vI x1), some (vI x2), some (vI x3)] [] h := go1 ok277 900 H
-- java/util/Arrays.fill([II)V  [6]
set_option maxRecDepth 100000 in
theorem q_J_fill_6 {G : GG} {P : AH → Prop} {x1 : Int} {h : AH}
  (H : Go G (pV P) 277 5 [some (vR 6), some (vI x1), some (vI 0), some (vI (ob_ln 6 : Int))] [] h) :
  RunsV G 277 [vR 6, vI x1] h P := runs_of (by decide) 2 rfl (go1 ok277 900 H)
set_option maxRecDepth 100000 in
theorem q_J_fill_6_c5 {G : GG} {P : AH → Prop} {x1 x2 x3 : Int} {h : AH}
  (H : ((wI x3 ≤ wI x2 →
    P h) ∧
    (¬ wI x3 ≤ wI x2 →
    ((0 ≤ wI x2 ∧ wI x2 < (ob_ln 6 : Int)) ∧
    Go G (pV P) 277 5 [some (vR 6), some (vI x1), some (vI (x2 + 1)), some (vI x3)] [] (hs h 6 (wI x2).toNat x1))))) :
  Go G (pV P) 277 5 [some (vR 6), some (vI x1), some (vI x2), some (vI x3)] [] h := go1 ok277 900 H
-- java/util/Arrays.fill([II)V  [12]
set_option maxRecDepth 100000 in
theorem q_J_fill_12 {G : GG} {P : AH → Prop} {x1 : Int} {h : AH}
  (H : Go G (pV P) 277 5 [some (vR 12), some (vI x1), some (vI 0), some (vI (ob_ln 12 : Int))] [] h) :
  RunsV G 277 [vR 12, vI x1] h P := runs_of (by decide) 2 rfl (go1 ok277 900 H)
set_option maxRecDepth 100000 in
theorem q_J_fill_12_c5 {G : GG} {P : AH → Prop} {x1 x2 x3 : Int} {h : AH}
  (H : ((wI x3 ≤ wI x2 →
    P h) ∧
    (¬ wI x3 ≤ wI x2 →
    ((0 ≤ wI x2 ∧ wI x2 < (ob_ln 12 : Int)) ∧
    Go G (pV P) 277 5 [some (vR 12), some (vI x1), some (vI (x2 + 1)), some (vI x3)] [] (hs h 12 (wI x2).toNat x1))))) :
  Go G (pV P) 277 5 [some (vR 12), some (vI x1), some (vI x2), some (vI x3)] [] h := go1 ok277 900 H
-- java/util/Arrays.fill([II)V  [13]
set_option maxRecDepth 100000 in
theorem q_J_fill_13 {G : GG} {P : AH → Prop} {x1 : Int} {h : AH}
  (H : Go G (pV P) 277 5 [some (vR 13), some (vI x1), some (vI 0), some (vI (ob_ln 13 : Int))] [] h) :
  RunsV G 277 [vR 13, vI x1] h P := runs_of (by decide) 2 rfl (go1 ok277 900 H)
set_option maxRecDepth 100000 in
theorem q_J_fill_13_c5 {G : GG} {P : AH → Prop} {x1 x2 x3 : Int} {h : AH}
  (H : ((wI x3 ≤ wI x2 →
    P h) ∧
    (¬ wI x3 ≤ wI x2 →
    ((0 ≤ wI x2 ∧ wI x2 < (ob_ln 13 : Int)) ∧
    Go G (pV P) 277 5 [some (vR 13), some (vI x1), some (vI (x2 + 1)), some (vI x3)] [] (hs h 13 (wI x2).toNat x1))))) :
  Go G (pV P) 277 5 [some (vR 13), some (vI x1), some (vI x2), some (vI x3)] [] h := go1 ok277 900 H
-- BitmapVolume$Disk.isOctet(II)Z  []
set_option maxRecDepth 100000 in
theorem q_D_isOctet {G : GG} {P : Int → AH → Prop} {x0 x1 : Int} {h : AH}
  (H : ((wI x0 < 0 →
    (((0 : Int) = 0 ∨ (0 : Int) = 1) ∧ P 0 h)) ∧
    (¬ wI x0 < 0 →
    (((216 : Int) ≤ wI x0 →
      (((0 : Int) = 0 ∨ (0 : Int) = 1) ∧ P 0 h)) ∧
      (¬ (216 : Int) ≤ wI x0 →
      ((wI x1 < 0 →
        (((0 : Int) = 0 ∨ (0 : Int) = 1) ∧ P 0 h)) ∧
        (¬ wI x1 < 0 →
        (((64 : Int) ≤ wI x1 →
          (((0 : Int) = 0 ∨ (0 : Int) = 1) ∧ P 0 h)) ∧
          (¬ (64 : Int) ≤ wI x1 →
          (((1 : Int) = 0 ∨ (1 : Int) = 1) ∧ P 1 h)))))))))) :
  RunsI G 53 [vI x0, vI x1] h P := runs_of (by decide) 0 rfl (go1 ok53 900 H)
-- BitmapVolume$Disk.get(I)I  [1]
set_option maxRecDepth 100000 in
theorem q_D_get {G : GG} {P : Int → AH → Prop} {x1 : Int} {h : AH}
  (H : ((wI x1 < 0 →
    P 0 h) ∧
    (¬ wI x1 < 0 →
    (((13824 : Int) ≤ wI x1 →
      P 0 h) ∧
      (¬ (13824 : Int) ≤ wI x1 →
      ((0 ≤ wI x1 ∧ wI x1 < 13824) ∧
      P (h 3 (wI x1).toNat) h)))))) :
  RunsI G 54 [vR 1, vI x1] h P := runs_of (by decide) 0 rfl (go1 ok54 900 H)
-- BitmapVolume$Disk.get2(I)I  [1]
set_option maxRecDepth 100000 in
theorem q_D_get2 {G : GG} {P : Int → AH → Prop} {x1 : Int} {h : AH}
  (H : ((wI x1 < 0 →
    P 0 h) ∧
    (¬ wI x1 < 0 →
    ((wI (13824 - 1) ≤ wI x1 →
      P 0 h) ∧
      (¬ wI (13824 - 1) ≤ wI x1 →
      ((0 ≤ wI x1 ∧ wI x1 < 13824) ∧
      ((0 ≤ wI (x1 + 1) ∧ wI (x1 + 1) < 13824) ∧
      P (bO (h 3 (wI x1).toNat) (sLI (h 3 (wI (x1 + 1)).toNat) 8)) h))))))) :
  RunsI G 55 [vR 1, vI x1] h P := runs_of (by decide) 0 rfl (go1 ok55 900 H)
-- BitmapVolume$Disk.get4(I)I  [1]
set_option maxRecDepth 100000 in
theorem q_D_get4 {G : GG} {P : Int → AH → Prop} {x1 : Int} {h : AH}
  (H : ((wI x1 < 0 →
    P 0 h) ∧
    (¬ wI x1 < 0 →
    ((wI x1 < wI (13824 - 3) →
      ((0 ≤ wI x1 ∧ wI x1 < 13824) ∧
      ((0 ≤ wI (x1 + 1) ∧ wI (x1 + 1) < 13824) ∧
      ((0 ≤ wI (x1 + 2) ∧ wI (x1 + 2) < 13824) ∧
      ((0 ≤ wI (x1 + 3) ∧ wI (x1 + 3) < 13824) ∧
      P (bO (bO (bO (h 3 (wI x1).toNat) (sLI (h 3 (wI (x1 + 1)).toNat) 8)) (sLI (h 3 (wI (x1 + 2)).toNat) 16)) (sLI (h 3 (wI (x1 + 3)).toNat) 24)) h))))) ∧
      (¬ wI x1 < wI (13824 - 3) →
      P 0 h))))) :
  RunsI G 56 [vR 1, vI x1] h P := runs_of (by decide) 0 rfl (go1 ok56 900 H)
-- BitmapVolume$Disk.put(II)V  [1]
set_option maxRecDepth 100000 in
theorem q_D_put {G : GG} {P : AH → Prop} {x1 x2 : Int} {h : AH}
  (H : ((wI x1 < 0 →
    P h) ∧
    (¬ wI x1 < 0 →
    (((13824 : Int) ≤ wI x1 →
      P h) ∧
      (¬ (13824 : Int) ≤ wI x1 →
      ((0 ≤ wI x1 ∧ wI x1 < 13824) ∧
      ((64 : Int) ≠ 0 ∧ ((0 ≤ wI (Int.tdiv (wI x1) 64) ∧ wI (Int.tdiv (wI x1) 64) < 216) ∧
      (((1 : Int) = 0 ∨ (1 : Int) = 1) ∧ P (hs (hs h 3 (wI x1).toNat (bA x2 255)) 4 (wI (Int.tdiv (wI x1) 64)).toNat 1)))))))))) :
  RunsV G 57 [vR 1, vI x1, vI x2] h P := runs_of (by decide) 0 rfl (go1 ok57 900 H)
-- BitmapVolume$Disk.put2(II)V  [1]
set_option maxRecDepth 100000 in
theorem q_D_put2 {G : GG} {P : AH → Prop} {x1 x2 : Int} {h : AH}
  (H : RunsV G 57 [vR 1, vI x1, vI x2] h (fun h1 =>
  RunsV G 57 [vR 1, vI (x1 + 1), vI (sUI x2 8)] h1 (fun h2 =>
  P h2))) :
  RunsV G 58 [vR 1, vI x1, vI x2] h P := runs_of (by decide) 0 rfl (go1 ok58 900 H)
-- BitmapVolume$Disk.put4(II)V  [1]
set_option maxRecDepth 100000 in
theorem q_D_put4 {G : GG} {P : AH → Prop} {x1 x2 : Int} {h : AH}
  (H : Go G (pV P) 59 2 [some (vR 1), some (vI x1), some (vI x2), some (vI 0)] [] h) :
  RunsV G 59 [vR 1, vI x1, vI x2] h P := runs_of (by decide) 1 rfl (go1 ok59 900 H)
set_option maxRecDepth 100000 in
theorem q_D_put4_c2 {G : GG} {P : AH → Prop} {x1 x2 x3 : Int} {h : AH}
  (H : (((4 : Int) ≤ wI x3 →
    P h) ∧
    (¬ (4 : Int) ≤ wI x3 →
    RunsV G 57 [vR 1, vI (x1 + x3), vI (sUI x2 (8 * x3))] h (fun h1 =>
    Go G (pV P) 59 2 [some (vR 1), some (vI x1), some (vI x2), some (vI (x3 + 1))] [] h1)))) :
  Go G (pV P) 59 2 [some (vR 1), some (vI x1), some (vI x2), some (vI x3)] [] h := go1 ok59 900 H
-- BitmapVolume$Disk.blank(II)V  [1]
set_option maxRecDepth 100000 in
theorem q_D_blank {G : GG} {P : AH → Prop} {x1 x2 : Int} {h : AH}
  (H : Go G (pV P) 60 2 [some (vR 1), some (vI x1), some (vI x2), some (vI 0)] [] h) :
  RunsV G 60 [vR 1, vI x1, vI x2] h P := runs_of (by decide) 1 rfl (go1 ok60 900 H)
set_option maxRecDepth 100000 in
theorem q_D_blank_c2 {G : GG} {P : AH → Prop} {x1 x2 x3 : Int} {h : AH}
  (H : ((wI x2 ≤ wI x3 →
    P h) ∧
    (¬ wI x2 ≤ wI x3 →
    RunsV G 57 [vR 1, vI (x1 + x3), vI 0] h (fun h1 =>
    Go G (pV P) 60 2 [some (vR 1), some (vI x1), some (vI x2), some (vI (x3 + 1))] [] h1)))) :
  Go G (pV P) 60 2 [some (vR 1), some (vI x1), some (vI x2), some (vI x3)] [] h := go1 ok60 900 H
-- BitmapVolume$Disk.isBlank(II)Z  [1]
set_option maxRecDepth 100000 in
theorem q_D_isBlank {G : GG} {P : Int → AH → Prop} {x1 x2 : Int} {h : AH}
  (H : Go G (pI P) 61 2 [some (vR 1), none, some (vI x2), some (vI x1)] [] h) :
  RunsI G 61 [vR 1, vI x1, vI x2] h P := runs_of (by decide) 1 rfl (go1 ok61 900 H)
set_option maxRecDepth 100000 in
theorem q_D_isBlank_c2 {G : GG} {P : Int → AH → Prop} {x2 x3 : Int} {h : AH}
  (H : ((wI x2 ≤ wI x3 →
    (((1 : Int) = 0 ∨ (1 : Int) = 1) ∧ P 1 h)) ∧
    (¬ wI x2 ≤ wI x3 →
    RunsI G 54 [vR 1, vI x3] h (fun r1 h1 =>
    ((wI r1 = 0 →
      Go G (pI P) 61 2 [some (vR 1), none, some (vI x2), some (vI (x3 + 1))] [] h1) ∧
      (¬ wI r1 = 0 →
      (((0 : Int) = 0 ∨ (0 : Int) = 1) ∧ P 0 h1))))))) :
  Go G (pI P) 61 2 [some (vR 1), none, some (vI x2), some (vI x3)] [] h := go1 ok61 900 H
-- BitmapVolume$Disk.wipe()V  [1]
set_option maxRecDepth 100000 in
theorem q_D_wipe {G : GG} {P : AH → Prop} {h : AH}
  (H : RunsV G 277 [vR 3, vI 0] h (fun h1 =>
  Go G (pV P) 62 10 [some (vR 1), some (vI 0)] [] h1)) :
  RunsV G 62 [vR 1] h P := runs_of (by decide) 1 rfl (go1 ok62 900 H)
set_option maxRecDepth 100000 in
theorem q_D_wipe_c10 {G : GG} {P : AH → Prop} {x1 : Int} {h : AH}
  (H : (((216 : Int) ≤ wI x1 →
    P h) ∧
    (¬ (216 : Int) ≤ wI x1 →
    ((0 ≤ wI x1 ∧ wI x1 < 216) ∧
    (((1 : Int) = 0 ∨ (1 : Int) = 1) ∧ Go G (pV P) 62 10 [some (vR 1), some (vI (x1 + 1))] [] (hs h 4 (wI x1).toNat 1)))))) :
  Go G (pV P) 62 10 [some (vR 1), some (vI x1)] [] h := go1 ok62 900 H
-- BitmapVolume$Disk.settle()V  [1]
set_option maxRecDepth 100000 in
theorem q_D_settle {G : GG} {P : AH → Prop} {h : AH}
  (H : Go G (pV P) 63 2 [some (vR 1), some (vI 0)] [] h) :
  RunsV G 63 [vR 1] h P := runs_of (by decide) 1 rfl (go1 ok63 900 H)
set_option maxRecDepth 100000 in
theorem q_D_settle_c2 {G : GG} {P : AH → Prop} {x1 : Int} {h : AH}
  (H : (((216 : Int) ≤ wI x1 →
    P h) ∧
    (¬ (216 : Int) ≤ wI x1 →
    ((0 ≤ wI x1 ∧ wI x1 < 216) ∧
    ((wI (h 4 (wI x1).toNat) = 0 →
      ((0 ≤ wI x1 ∧ wI x1 < 216) ∧
      (((0 : Int) = 0 ∨ (0 : Int) = 1) ∧ Go G (pV P) 63 2 [some (vR 1), some (vI (x1 + 1))] [] (hs h 4 (wI x1).toNat 0)))) ∧
      (¬ wI (h 4 (wI x1).toNat) = 0 →
      ((0 ≤ wI (x1 * 64) ∧ 0 ≤ wI (x1 * 64) ∧ 0 ≤ (64 : Int) ∧ wI (x1 * 64) + (64 : Int) ≤ 13824 ∧ wI (x1 * 64) + (64 : Int) ≤ 13824) ∧
      ((0 ≤ wI x1 ∧ wI x1 < 216) ∧
      (((0 : Int) = 0 ∨ (0 : Int) = 1) ∧ Go G (pV P) 63 2 [some (vR 1), some (vI (x1 + 1))] [] (hs (hcp h 3 2 (wI (x1 * 64)).toNat (wI (x1 * 64)).toNat 64) 4 (wI x1).toNat 0)))))))))) :
  Go G (pV P) 63 2 [some (vR 1), some (vI x1)] [] h := go1 ok63 900 H
-- BitmapVolume$Disk.flush()Z  [1]
set_option maxRecDepth 100000 in
theorem q_D_flush {G : GG} {P : Int → AH → Prop} {h : AH}
  (H : RunsI G 65 [vR 1, vI 0, vI 215] h (fun r1 h1 =>
  ((r1 = 0 ∨ r1 = 1) ∧ P r1 h1))) :
  RunsI G 64 [vR 1] h P := runs_of (by decide) 0 rfl (go1 ok64 900 H)
-- BitmapVolume$Disk.flush(II)Z  [1]
set_option maxRecDepth 100000 in
theorem q_D_flush2 {G : GG} {P : Int → AH → Prop} {x1 x2 : Int} {h : AH}
  (H : Go G (pI P) 65 6 [some (vR 1), none, some (vI x2), some (vI (mm 0 x1 0))] [] h) :
  RunsI G 65 [vR 1, vI x1, vI x2] h P := runs_of (by decide) 1 rfl (go1 ok65 900 H)
set_option maxRecDepth 100000 in
theorem q_D_flush2_c6 {G : GG} {P : Int → AH → Prop} {x2 x3 : Int} {h : AH}
  (H : ((wI x2 < wI x3 →
    (((1 : Int) = 0 ∨ (1 : Int) = 1) ∧ P 1 h)) ∧
    (¬ wI x2 < wI x3 →
    (((216 : Int) ≤ wI x3 →
      (((1 : Int) = 0 ∨ (1 : Int) = 1) ∧ P 1 h)) ∧
      (¬ (216 : Int) ≤ wI x3 →
      ((0 ≤ wI x3 ∧ wI x3 < 216) ∧
      ((wI (h 4 (wI x3).toNat) = 0 →
        ((0 ≤ wI x3 ∧ wI x3 < 216) ∧
        (((0 : Int) = 0 ∨ (0 : Int) = 1) ∧ Go G (pI P) 65 6 [some (vR 1), none, some (vI x2), some (vI (x3 + 1))] [] (hs h 4 (wI x3).toNat 0)))) ∧
        (¬ wI (h 4 (wI x3).toNat) = 0 →
        RunsI G 66 [vR 1, vI x3] h (fun r1 h1 =>
        ((wI r1 = 0 →
          ((0 ≤ wI x3 ∧ wI x3 < 216) ∧
          (((0 : Int) = 0 ∨ (0 : Int) = 1) ∧ Go G (pI P) 65 6 [some (vR 1), none, some (vI x2), some (vI (x3 + 1))] [] (hs h1 4 (wI x3).toNat 0)))) ∧
          (¬ wI r1 = 0 →
          ((wI (h1 1 3) = (1 : Int) →
            RunsV G 67 [vR 1] h1 (fun h2 =>
            (((0 : Int) = 0 ∨ (0 : Int) = 1) ∧ P 0 h2))) ∧
            (¬ wI (h1 1 3) = (1 : Int) →
            ((wI (h1 1 3) ≤ 0 →
              ((0 ≤ wI (x3 * 64) ∧ 0 ≤ wI (x3 * 64) ∧ 0 ≤ (64 : Int) ∧ wI (x3 * 64) + (64 : Int) ≤ 13824 ∧ wI (x3 * 64) + (64 : Int) ≤ 13824) ∧
              ((0 ≤ wI x3 ∧ wI x3 < 216) ∧
              (((0 : Int) = 0 ∨ (0 : Int) = 1) ∧ Go G (pI P) 65 6 [some (vR 1), none, some (vI x2), some (vI (x3 + 1))] [] (hs (hs (hcp h1 3 2 (wI (x3 * 64)).toNat (wI (x3 * 64)).toNat 64) 1 4 (((hcp h1 3 2 (wI (x3 * 64)).toNat (wI (x3 * 64)).toNat 64) 1 4) + 1)) 4 (wI x3).toNat 0))))) ∧
              (¬ wI (h1 1 3) ≤ 0 →
              ((0 ≤ wI (x3 * 64) ∧ 0 ≤ wI (x3 * 64) ∧ 0 ≤ (64 : Int) ∧ wI (x3 * 64) + (64 : Int) ≤ 13824 ∧ wI (x3 * 64) + (64 : Int) ≤ 13824) ∧
              ((0 ≤ wI x3 ∧ wI x3 < 216) ∧
              (((0 : Int) = 0 ∨ (0 : Int) = 1) ∧ Go G (pI P) 65 6 [some (vR 1), none, some (vI x2), some (vI (x3 + 1))] [] (hs (hs (hcp (hs h1 1 3 ((h1 1 3) - 1)) 3 2 (wI (x3 * 64)).toNat (wI (x3 * 64)).toNat 64) 1 4 (((hcp (hs h1 1 3 ((h1 1 3) - 1)) 3 2 (wI (x3 * 64)).toNat (wI (x3 * 64)).toNat 64) 1 4) + 1)) 4 (wI x3).toNat 0))))))))))))))))))) :
  Go G (pI P) 65 6 [some (vR 1), none, some (vI x2), some (vI x3)] [] h := go1 ok65 900 H
-- BitmapVolume$Disk.differs(I)Z  [1]
set_option maxRecDepth 100000 in
theorem q_D_differs {G : GG} {P : Int → AH → Prop} {x1 : Int} {h : AH}
  (H : Go G (pI P) 66 5 [some (vR 1), some (vI x1), some (vI (x1 * 64))] [] h) :
  RunsI G 66 [vR 1, vI x1] h P := runs_of (by decide) 1 rfl (go1 ok66 900 H)
set_option maxRecDepth 100000 in
theorem q_D_differs_c5 {G : GG} {P : Int → AH → Prop} {x1 x2 : Int} {h : AH}
  (H : ((wI ((x1 + 1) * 64) ≤ wI x2 →
    (((0 : Int) = 0 ∨ (0 : Int) = 1) ∧ P 0 h)) ∧
    (¬ wI ((x1 + 1) * 64) ≤ wI x2 →
    (((13824 : Int) ≤ wI x2 →
      (((0 : Int) = 0 ∨ (0 : Int) = 1) ∧ P 0 h)) ∧
      (¬ (13824 : Int) ≤ wI x2 →
      ((0 ≤ wI x2 ∧ wI x2 < 13824) ∧
      ((0 ≤ wI x2 ∧ wI x2 < 13824) ∧
      ((wI (h 3 (wI x2).toNat) = wI (h 2 (wI x2).toNat) →
        Go G (pI P) 66 5 [some (vR 1), some (vI x1), some (vI (x2 + 1))] [] h) ∧
        (¬ wI (h 3 (wI x2).toNat) = wI (h 2 (wI x2).toNat) →
        (((1 : Int) = 0 ∨ (1 : Int) = 1) ∧ P 1 h)))))))))) :
  Go G (pI P) 66 5 [some (vR 1), some (vI x1), some (vI x2)] [] h := go1 ok66 900 H
-- BitmapVolume$Disk.forget()V  [1]
set_option maxRecDepth 100000 in
theorem q_D_forget {G : GG} {P : AH → Prop} {h : AH}
  (H : Go G (pV P) 67 7 [some (vR 1), some (vI 0)] [] (hs h 1 3 0)) :
  RunsV G 67 [vR 1] h P := runs_of (by decide) 1 rfl (go1 ok67 900 H)
set_option maxRecDepth 100000 in
theorem q_D_forget_c7 {G : GG} {P : AH → Prop} {x1 : Int} {h : AH}
  (H : (((216 : Int) ≤ wI x1 →
    P h) ∧
    (¬ (216 : Int) ≤ wI x1 →
    ((0 ≤ wI x1 ∧ wI x1 < 216) ∧
    ((wI (h 4 (wI x1).toNat) = 0 →
      ((0 ≤ wI x1 ∧ wI x1 < 216) ∧
      (((0 : Int) = 0 ∨ (0 : Int) = 1) ∧ Go G (pV P) 67 7 [some (vR 1), some (vI (x1 + 1))] [] (hs h 4 (wI x1).toNat 0)))) ∧
      (¬ wI (h 4 (wI x1).toNat) = 0 →
      ((0 ≤ wI (x1 * 64) ∧ 0 ≤ wI (x1 * 64) ∧ 0 ≤ (64 : Int) ∧ wI (x1 * 64) + (64 : Int) ≤ 13824 ∧ wI (x1 * 64) + (64 : Int) ≤ 13824) ∧
      ((0 ≤ wI x1 ∧ wI x1 < 216) ∧
      (((0 : Int) = 0 ∨ (0 : Int) = 1) ∧ Go G (pV P) 67 7 [some (vR 1), some (vI (x1 + 1))] [] (hs (hcp h 2 3 (wI (x1 * 64)).toNat (wI (x1 * 64)).toNat 64) 4 (wI x1).toNat 0)))))))))) :
  Go G (pV P) 67 7 [some (vR 1), some (vI x1)] [] h := go1 ok67 900 H
-- BitmapVolume$Name.at(I)I  [22]
set_option maxRecDepth 100000 in
theorem q_N_at_22 {G : GG} {P : Int → AH → Prop} {x1 : Int} {h : AH}
  (H : ((wI x1 < 0 →
    P 0 h) ∧
    (¬ wI x1 < 0 →
    ((wI (h 22 1) ≤ wI x1 →
      P 0 h) ∧
      (¬ wI (h 22 1) ≤ wI x1 →
      (((30 : Int) ≤ wI x1 →
        P 0 h) ∧
        (¬ (30 : Int) ≤ wI x1 →
        ((0 ≤ wI x1 ∧ wI x1 < 30) ∧
        P (h 23 (wI x1).toNat) h)))))))) :
  RunsI G 74 [vR 22, vI x1] h P := runs_of (by decide) 0 rfl (go1 ok74 900 H)
-- BitmapVolume$Name.at(I)I  [32]
set_option maxRecDepth 100000 in
theorem q_N_at_32 {G : GG} {P : Int → AH → Prop} {x1 : Int} {h : AH}
  (H : ((wI x1 < 0 →
    P 0 h) ∧
    (¬ wI x1 < 0 →
    ((wI (h 32 1) ≤ wI x1 →
      P 0 h) ∧
      (¬ wI (h 32 1) ≤ wI x1 →
      (((30 : Int) ≤ wI x1 →
        P 0 h) ∧
        (¬ (30 : Int) ≤ wI x1 →
        ((0 ≤ wI x1 ∧ wI x1 < 30) ∧
        P (h 33 (wI x1).toNat) h)))))))) :
  RunsI G 74 [vR 32, vI x1] h P := runs_of (by decide) 0 rfl (go1 ok74 900 H)
-- BitmapVolume$Name.append(J)Z  [32]
set_option maxRecDepth 100000 in
theorem q_N_append {G : GG} {P : Int → AH → Prop} {y1 : Int} {h : AH}
  (H : Go G (pI P) 75 5 [some (vR 32), some (vL y1), none, some (vI 0), some (vI 0)] [] h) :
  RunsI G 75 [vR 32, vL y1] h P := runs_of (by decide) 2 rfl (go1 ok75 900 H)
set_option maxRecDepth 100000 in
theorem q_N_append_c5 {G : GG} {P : Int → AH → Prop} {y1 x3 x4 : Int} {h : AH}
  (H : (((4 : Int) ≤ wI x4 →
    ((wI ((h 32 1) + x3) ≤ (30 : Int) →
      Go G (pI P) 75 55 [some (vR 32), some (vL y1), none, none, some (vI 0)] [] h) ∧
      (¬ wI ((h 32 1) + x3) ≤ (30 : Int) →
      (((0 : Int) = 0 ∨ (0 : Int) = 1) ∧ P 0 h)))) ∧
    (¬ (4 : Int) ≤ wI x4 →
    ((wL (bAL (sUL y1 (16 * x4)) 65535) = (0 : Int) →
      Go G (pI P) 75 5 [some (vR 32), some (vL y1), none, some (vI x3), some (vI (x4 + 1))] [] h) ∧
      (¬ wL (bAL (sUL y1 (16 * x4)) 65535) = (0 : Int) →
      Go G (pI P) 75 5 [some (vR 32), some (vL y1), none, some (vI (x3 + 1)), some (vI (x4 + 1))] [] h))))) :
  Go G (pI P) 75 5 [some (vR 32), some (vL y1), none, some (vI x3), some (vI x4)] [] h := go1 ok75 900 H
set_option maxRecDepth 100000 in
theorem q_N_append_c55 {G : GG} {P : Int → AH → Prop} {y1 x4 : Int} {h : AH}
  (H : (((4 : Int) ≤ wI x4 →
    (((1 : Int) = 0 ∨ (1 : Int) = 1) ∧ P 1 h)) ∧
    (¬ (4 : Int) ≤ wI x4 →
    RunsV G 76 [vR 32, vI (bAL (sUL y1 (16 * x4)) 65535)] h (fun h1 =>
    Go G (pI P) 75 55 [some (vR 32), some (vL y1), none, none, some (vI (x4 + 1))] [] h1)))) :
  Go G (pI P) 75 55 [some (vR 32), some (vL y1), none, none, some (vI x4)] [] h := go1 ok75 900 H
-- BitmapVolume$Name.add(I)V  [32]
set_option maxRecDepth 100000 in
theorem q_N_add {G : GG} {P : AH → Prop} {x1 : Int} {h : AH}
  (H : ((wI x1 = 0 →
    P h) ∧
    (¬ wI x1 = 0 →
    (((30 : Int) ≤ wI (h 32 1) →
      P h) ∧
      (¬ (30 : Int) ≤ wI (h 32 1) →
      ((0 ≤ wI (h 32 1) ∧ wI (h 32 1) < 30) ∧
      P (hs (hs h 32 1 ((h 32 1) + 1)) 33 (wI (h 32 1)).toNat x1))))))) :
  RunsV G 76 [vR 32, vI x1] h P := runs_of (by decide) 0 rfl (go1 ok76 900 H)
-- BitmapVolume$Name.isRight()Z  [22]
set_option maxRecDepth 100000 in
theorem q_N_isRight_22 {G : GG} {P : Int → AH → Prop} {h : AH}
  (H : (((1 : Int) ≤ wI (h 22 1) →
    Go G (pI P) 77 12 [some (vR 22), some (vI 0)] [] h) ∧
    (¬ (1 : Int) ≤ wI (h 22 1) →
    (((0 : Int) = 0 ∨ (0 : Int) = 1) ∧ P 0 h)))) :
  RunsI G 77 [vR 22] h P := runs_of (by decide) 1 rfl (go1 ok77 900 H)
set_option maxRecDepth 100000 in
theorem q_N_isRight_22_c12 {G : GG} {P : Int → AH → Prop} {x1 : Int} {h : AH}
  (H : ((wI (h 22 1) ≤ wI x1 →
    RunsI G 74 [vR 22, vI ((h 22 1) - 1)] h (fun r1 h1 =>
    ((wI r1 = (32 : Int) →
      (((0 : Int) = 0 ∨ (0 : Int) = 1) ∧ P 0 h1)) ∧
      (¬ wI r1 = (32 : Int) →
      RunsI G 74 [vR 22, vI ((h1 22 1) - 1)] h1 (fun r2 h2 =>
      ((wI r2 = (46 : Int) →
        (((0 : Int) = 0 ∨ (0 : Int) = 1) ∧ P 0 h2)) ∧
        (¬ wI r2 = (46 : Int) →
        (((1 : Int) = 0 ∨ (1 : Int) = 1) ∧ P 1 h2)))))))) ∧
    (¬ wI (h 22 1) ≤ wI x1 →
    RunsI G 74 [vR 22, vI x1] h (fun r3 h3 =>
    RunsI G 78 [vI r3] h3 (fun r4 h4 =>
    ((wI r4 = 0 →
      (((0 : Int) = 0 ∨ (0 : Int) = 1) ∧ P 0 h4)) ∧
      (¬ wI r4 = 0 →
      Go G (pI P) 77 12 [some (vR 22), some (vI (x1 + 1))] [] h4))))))) :
  Go G (pI P) 77 12 [some (vR 22), some (vI x1)] [] h := go1 ok77 900 H
-- BitmapVolume$Name.isRight()Z  [32]
set_option maxRecDepth 100000 in
theorem q_N_isRight_32 {G : GG} {P : Int → AH → Prop} {h : AH}
  (H : (((1 : Int) ≤ wI (h 32 1) →
    Go G (pI P) 77 12 [some (vR 32), some (vI 0)] [] h) ∧
    (¬ (1 : Int) ≤ wI (h 32 1) →
    (((0 : Int) = 0 ∨ (0 : Int) = 1) ∧ P 0 h)))) :
  RunsI G 77 [vR 32] h P := runs_of (by decide) 1 rfl (go1 ok77 900 H)
set_option maxRecDepth 100000 in
theorem q_N_isRight_32_c12 {G : GG} {P : Int → AH → Prop} {x1 : Int} {h : AH}
  (H : ((wI (h 32 1) ≤ wI x1 →
    RunsI G 74 [vR 32, vI ((h 32 1) - 1)] h (fun r1 h1 =>
    ((wI r1 = (32 : Int) →
      (((0 : Int) = 0 ∨ (0 : Int) = 1) ∧ P 0 h1)) ∧
      (¬ wI r1 = (32 : Int) →
      RunsI G 74 [vR 32, vI ((h1 32 1) - 1)] h1 (fun r2 h2 =>
      ((wI r2 = (46 : Int) →
        (((0 : Int) = 0 ∨ (0 : Int) = 1) ∧ P 0 h2)) ∧
        (¬ wI r2 = (46 : Int) →
        (((1 : Int) = 0 ∨ (1 : Int) = 1) ∧ P 1 h2)))))))) ∧
    (¬ wI (h 32 1) ≤ wI x1 →
    RunsI G 74 [vR 32, vI x1] h (fun r3 h3 =>
    RunsI G 78 [vI r3] h3 (fun r4 h4 =>
    ((wI r4 = 0 →
      (((0 : Int) = 0 ∨ (0 : Int) = 1) ∧ P 0 h4)) ∧
      (¬ wI r4 = 0 →
      Go G (pI P) 77 12 [some (vR 32), some (vI (x1 + 1))] [] h4))))))) :
  Go G (pI P) 77 12 [some (vR 32), some (vI x1)] [] h := go1 ok77 900 H
-- BitmapVolume$Name.isLetter(I)Z  []
set_option maxRecDepth 100000 in
theorem q_N_isLetter {G : GG} {P : Int → AH → Prop} {x0 : Int} {h : AH}
  (H : ((wI x0 = 34 → (((0 : Int) = 0 ∨ (0 : Int) = 1) ∧ P 0 h)) ∧
    (¬ wI x0 = 34 → ((wI x0 = 42 → (((0 : Int) = 0 ∨ (0 : Int) = 1) ∧ P 0 h)) ∧
    (¬ wI x0 = 42 → ((wI x0 = 47 → (((0 : Int) = 0 ∨ (0 : Int) = 1) ∧ P 0 h)) ∧
    (¬ wI x0 = 47 → ((wI x0 = 58 → (((0 : Int) = 0 ∨ (0 : Int) = 1) ∧ P 0 h)) ∧
    (¬ wI x0 = 58 → ((wI x0 = 60 → (((0 : Int) = 0 ∨ (0 : Int) = 1) ∧ P 0 h)) ∧
    (¬ wI x0 = 60 → ((wI x0 = 62 → (((0 : Int) = 0 ∨ (0 : Int) = 1) ∧ P 0 h)) ∧
    (¬ wI x0 = 62 → ((wI x0 = 63 → (((0 : Int) = 0 ∨ (0 : Int) = 1) ∧ P 0 h)) ∧
    (¬ wI x0 = 63 → ((wI x0 = 92 → (((0 : Int) = 0 ∨ (0 : Int) = 1) ∧ P 0 h)) ∧
    (¬ wI x0 = 92 → ((wI x0 = 124 → (((0 : Int) = 0 ∨ (0 : Int) = 1) ∧ P 0 h)) ∧
    (¬ wI x0 = 124 → ((wI x0 < (32 : Int) →
      ((wI x0 < (160 : Int) →
        (((0 : Int) = 0 ∨ (0 : Int) = 1) ∧ P 0 h)) ∧
        (¬ wI x0 < (160 : Int) →
        (((255 : Int) < wI x0 →
          (((0 : Int) = 0 ∨ (0 : Int) = 1) ∧ P 0 h)) ∧
          (¬ (255 : Int) < wI x0 →
          (((1 : Int) = 0 ∨ (1 : Int) = 1) ∧ P 1 h)))))) ∧
      (¬ wI x0 < (32 : Int) →
      ((wI x0 ≤ (126 : Int) →
        (((1 : Int) = 0 ∨ (1 : Int) = 1) ∧ P 1 h)) ∧
        (¬ wI x0 ≤ (126 : Int) →
        ((wI x0 < (160 : Int) →
          (((0 : Int) = 0 ∨ (0 : Int) = 1) ∧ P 0 h)) ∧
          (¬ wI x0 < (160 : Int) →
          (((255 : Int) < wI x0 →
            (((0 : Int) = 0 ∨ (0 : Int) = 1) ∧ P 0 h)) ∧
            (¬ (255 : Int) < wI x0 →
            (((1 : Int) = 0 ∨ (1 : Int) = 1) ∧ P 1 h)))))))))))))))))))))))))))) :
  RunsI G 78 [vI x0] h P := runs_of (by decide) 0 rfl (go1 ok78 900 H)
-- BitmapVolume$Name.entriesOf(I)I  []
set_option maxRecDepth 100000 in
theorem q_N_entriesOf {G : GG} {P : Int → AH → Prop} {x0 : Int} {h : AH}
  (H : ((15 : Int) ≠ 0 ∧ P (2 + (Int.tdiv (wI (x0 + 14)) 15)) h)) :
  RunsI G 79 [vI x0] h P := runs_of (by decide) 0 rfl (go1 ok79 900 H)
-- BitmapVolume$Boot.draw(IIIII)V  [5]
set_option maxRecDepth 100000 in
theorem q_B_draw {G : GG} {P : AH → Prop} {x1 x2 x3 x4 x5 : Int} {h : AH}
  (H : RunsV G 277 [vR 6, vI 0] h (fun h1 =>
  Go G (pV P) 13 11 [some (vR 5), some (vI x1), some (vI x2), some (vI x3), some (vI x4), some (vI x5), some (vI 0), none] [] h1)) :
  RunsV G 13 [vR 5, vI x1, vI x2, vI x3, vI x4, vI x5] h P := runs_of (by decide) 2 rfl (go1 ok13 900 H)
set_option maxRecDepth 100000 in
theorem q_B_draw_c11 {G : GG} {P : AH → Prop} {x1 x2 x3 x4 x5 x6 : Int} {h : AH}
  (H : (((3 : Int) ≤ wI x6 →
    RunsV G 14 [vR 5, vI 0, vI 1167095531] h (fun h1 =>
    RunsV G 14 [vR 5, vI 4, vI 1413563992] h1 (fun h2 =>
    RunsV G 14 [vR 5, vI 8, vI 2105376] h2 (fun h3 =>
    RunsV G 14 [vR 5, vI 16, vI (16 + (2 * x1))] h3 (fun h4 =>
    RunsV G 14 [vR 5, vI 20, vI 8] h4 (fun h5 =>
    RunsV G 14 [vR 5, vI 24, vI 7] h5 (fun h6 =>
    RunsV G 14 [vR 5, vI 28, vI 16] h6 (fun h7 =>
    RunsV G 14 [vR 5, vI 32, vI x1] h7 (fun h8 =>
    RunsV G 14 [vR 5, vI 36, vI x2] h8 (fun h9 =>
    RunsV G 14 [vR 5, vI 40, vI x3] h9 (fun h10 =>
    ((0 ≤ (44 : Int) ∧ (44 : Int) < 256) ∧
    ((0 ≤ (46 : Int) ∧ (46 : Int) < 256) ∧
    ((0 ≤ (47 : Int) ∧ (47 : Int) < 256) ∧
    ((0 ≤ (48 : Int) ∧ (48 : Int) < 256) ∧
    ((0 ≤ (49 : Int) ∧ (49 : Int) < 256) ∧
    RunsI G 15 [vR 5] (hs (hs (hs (hs (hs h10 6 44 x4) 6 46 6) 6 47 1) 6 48 1) 6 49 x5) (fun r11 h11 =>
    Go G (pV P) 13 185 [some (vR 5), none, none, none, none, none, some (vI r11), some (vI 0)] [] h11))))))))))))))))) ∧
    (¬ (3 : Int) ≤ wI x6 →
    ((0 ≤ wI ((x6 * 64) + 62) ∧ wI ((x6 * 64) + 62) < 256) ∧
    ((0 ≤ wI ((x6 * 64) + 63) ∧ wI ((x6 * 64) + 63) < 256) ∧
    Go G (pV P) 13 11 [some (vR 5), some (vI x1), some (vI x2), some (vI x3), some (vI x4), some (vI x5), some (vI (x6 + 1)), none] [] (hs (hs h 6 (wI ((x6 * 64) + 62)).toNat 85) 6 (wI ((x6 * 64) + 63)).toNat 170)))))) :
  Go G (pV P) 13 11 [some (vR 5), some (vI x1), some (vI x2), some (vI x3), some (vI x4), some (vI x5), some (vI x6), none] [] h := go1 ok13 900 H
set_option maxRecDepth 100000 in
theorem q_B_draw_c185 {G : GG} {P : AH → Prop} {x6 x7 : Int} {h : AH}
  (H : (((64 : Int) ≤ wI x7 →
    P h) ∧
    (¬ (64 : Int) ≤ wI x7 →
    RunsV G 14 [vR 5, vI (192 + x7), vI x6] h (fun h1 =>
    Go G (pV P) 13 185 [some (vR 5), none, none, none, none, none, some (vI x6), some (vI (x7 + 4))] [] h1)))) :
  Go G (pV P) 13 185 [some (vR 5), none, none, none, none, none, some (vI x6), some (vI x7)] [] h := go1 ok13 900 H
-- BitmapVolume$Boot.draw4(II)V  [5]
set_option maxRecDepth 100000 in
theorem q_B_draw4 {G : GG} {P : AH → Prop} {x1 x2 : Int} {h : AH}
  (H : Go G (pV P) 14 2 [some (vR 5), some (vI x1), some (vI x2), some (vI 0)] [] h) :
  RunsV G 14 [vR 5, vI x1, vI x2] h P := runs_of (by decide) 1 rfl (go1 ok14 900 H)
set_option maxRecDepth 100000 in
theorem q_B_draw4_c2 {G : GG} {P : AH → Prop} {x1 x2 x3 : Int} {h : AH}
  (H : (((4 : Int) ≤ wI x3 →
    P h) ∧
    (¬ (4 : Int) ≤ wI x3 →
    (((256 : Int) ≤ wI (x1 + x3) →
      P h) ∧
      (¬ (256 : Int) ≤ wI (x1 + x3) →
      ((0 ≤ wI (x1 + x3) ∧ wI (x1 + x3) < 256) ∧
      Go G (pV P) 14 2 [some (vR 5), some (vI x1), some (vI x2), some (vI (x3 + 1))] [] (hs h 6 (wI (x1 + x3)).toNat (bA (sUI x2 (8 * x3)) 255)))))))) :
  Go G (pV P) 14 2 [some (vR 5), some (vI x1), some (vI x2), some (vI x3)] [] h := go1 ok14 900 H
-- BitmapVolume$Boot.sumOfThree()I  [5]
set_option maxRecDepth 100000 in
theorem q_B_sumOfThree {G : GG} {P : Int → AH → Prop} {h : AH}
  (H : Go G (pI P) 15 4 [some (vR 5), some (vI 0), some (vI 0)] [] h) :
  RunsI G 15 [vR 5] h P := runs_of (by decide) 2 rfl (go1 ok15 900 H)
set_option maxRecDepth 100000 in
theorem q_B_sumOfThree_c4 {G : GG} {P : Int → AH → Prop} {x1 x2 : Int} {h : AH}
  (H : (((192 : Int) ≤ wI x2 →
    P x1 h) ∧
    (¬ (192 : Int) ≤ wI x2 →
    ((wI x2 = (44 : Int) →
      Go G (pI P) 15 4 [some (vR 5), some (vI x1), some (vI (x2 + 1))] [] h) ∧
      (¬ wI x2 = (44 : Int) →
      ((wI x2 = (45 : Int) →
        Go G (pI P) 15 4 [some (vR 5), some (vI x1), some (vI (x2 + 1))] [] h) ∧
        (¬ wI x2 = (45 : Int) →
        ((wI x2 = (49 : Int) →
          Go G (pI P) 15 4 [some (vR 5), some (vI x1), some (vI (x2 + 1))] [] h) ∧
          (¬ wI x2 = (49 : Int) →
          ((0 ≤ wI x2 ∧ wI x2 < 256) ∧
          Go G (pI P) 15 4 [some (vR 5), some (vI ((bO (sUI x1 1) (sLI x1 31)) + (h 6 (wI x2).toNat))), some (vI (x2 + 1))] [] h)))))))))) :
  Go G (pI P) 15 4 [some (vR 5), some (vI x1), some (vI x2)] [] h := go1 ok15 900 H
-- BitmapVolume$Boot.lay(I)V  [5]
set_option maxRecDepth 100000 in
theorem q_B_lay {G : GG} {P : AH → Prop} {x1 : Int} {h : AH}
  (H : Go G (pV P) 16 2 [some (vR 5), some (vI x1), some (vI 0)] [] h) :
  RunsV G 16 [vR 5, vI x1] h P := runs_of (by decide) 1 rfl (go1 ok16 900 H)
set_option maxRecDepth 100000 in
theorem q_B_lay_c2 {G : GG} {P : AH → Prop} {x1 x2 : Int} {h : AH}
  (H : (((256 : Int) ≤ wI x2 →
    P h) ∧
    (¬ (256 : Int) ≤ wI x2 →
    ((0 ≤ wI x2 ∧ wI x2 < 256) ∧
    RunsV G 57 [vR 1, vI (x1 + x2), vI (h 6 (wI x2).toNat)] h (fun h1 =>
    Go G (pV P) 16 2 [some (vR 5), some (vI x1), some (vI (x2 + 1))] [] h1))))) :
  Go G (pV P) 16 2 [some (vR 5), some (vI x1), some (vI x2)] [] h := go1 ok16 900 H
-- BitmapVolume$Boot.isRight(I)Z  [5]
set_option maxRecDepth 100000 in
theorem q_B_isRight {G : GG} {P : Int → AH → Prop} {x1 : Int} {h : AH}
  (H : RunsI G 56 [vR 1, vI (x1 + 32)] h (fun r1 h1 =>
  ((wI r1 < (16 : Int) →
    (((0 : Int) = 0 ∨ (0 : Int) = 1) ∧ P 0 h1)) ∧
    (¬ wI r1 < (16 : Int) →
    ((wI r1 ≤ (100 : Int) →
      RunsI G 56 [vR 1, vI (x1 + 36)] h1 (fun r2 h2 =>
      ((wI r2 < (2 : Int) →
        (((0 : Int) = 0 ∨ (0 : Int) = 1) ∧ P 0 h2)) ∧
        (¬ wI r2 < (2 : Int) →
        ((wI r2 ≤ wI (r1 + 1) →
          RunsI G 55 [vR 1, vI (x1 + 44)] h2 (fun r3 h3 =>
          ((wI r3 = 0 →
            Go G (pI P) 17 78 [some (vR 5), some (vI x1), some (vI r1), some (vI r2), some (vI r3), none, none] [] h3) ∧
            (¬ wI r3 = 0 →
            ((wI r3 = (2 : Int) →
              Go G (pI P) 17 78 [some (vR 5), some (vI x1), some (vI r1), some (vI r2), some (vI r3), none, none] [] h3) ∧
              (¬ wI r3 = (2 : Int) →
              (((0 : Int) = 0 ∨ (0 : Int) = 1) ∧ P 0 h3))))))) ∧
          (¬ wI r2 ≤ wI (r1 + 1) →
          (((0 : Int) = 0 ∨ (0 : Int) = 1) ∧ P 0 h2))))))) ∧
      (¬ wI r1 ≤ (100 : Int) →
      (((0 : Int) = 0 ∨ (0 : Int) = 1) ∧ P 0 h1))))))) :
  RunsI G 17 [vR 5, vI x1] h P := runs_of (by decide) 5 rfl (go1 ok17 900 H)
set_option maxRecDepth 100000 in
theorem q_B_isRight_c78 {G : GG} {P : Int → AH → Prop} {x1 x2 x3 x4 : Int} {h : AH}
  (H : RunsI G 54 [vR 1, vI (x1 + 49)] h (fun r1 h1 =>
  ((wI r1 ≤ (100 : Int) →
    RunsI G 56 [vR 1, vI (x1 + 40)] h1 (fun r2 h2 =>
    RunsV G 13 [vR 5, vI x2, vI x3, vI r2, vI x4, vI r1] h2 (fun h3 =>
    Go G (pI P) 17 132 [some (vR 5), some (vI x1), none, none, none, none, some (vI 0)] [] h3))) ∧
    (¬ wI r1 ≤ (100 : Int) →
    ((wI r1 = (255 : Int) →
      RunsI G 56 [vR 1, vI (x1 + 40)] h1 (fun r4 h4 =>
      RunsV G 13 [vR 5, vI x2, vI x3, vI r4, vI x4, vI r1] h4 (fun h5 =>
      Go G (pI P) 17 132 [some (vR 5), some (vI x1), none, none, none, none, some (vI 0)] [] h5))) ∧
      (¬ wI r1 = (255 : Int) →
      (((0 : Int) = 0 ∨ (0 : Int) = 1) ∧ P 0 h1))))))) :
  Go G (pI P) 17 78 [some (vR 5), some (vI x1), some (vI x2), some (vI x3), some (vI x4), none, none] [] h := go1 ok17 900 H
set_option maxRecDepth 100000 in
theorem q_B_isRight_c132 {G : GG} {P : Int → AH → Prop} {x1 x6 : Int} {h : AH}
  (H : (((256 : Int) ≤ wI x6 →
    (((1 : Int) = 0 ∨ (1 : Int) = 1) ∧ P 1 h)) ∧
    (¬ (256 : Int) ≤ wI x6 →
    RunsI G 54 [vR 1, vI (x1 + x6)] h (fun r1 h1 =>
    ((0 ≤ wI x6 ∧ wI x6 < 256) ∧
    ((wI r1 = wI (h1 6 (wI x6).toNat) →
      Go G (pI P) 17 132 [some (vR 5), some (vI x1), none, none, none, none, some (vI (x6 + 1))] [] h1) ∧
      (¬ wI r1 = wI (h1 6 (wI x6).toNat) →
      (((0 : Int) = 0 ∨ (0 : Int) = 1) ∧ P 0 h1)))))))) :
  Go G (pI P) 17 132 [some (vR 5), some (vI x1), none, none, none, none, some (vI x6)] [] h := go1 ok17 900 H
-- BitmapVolume$Space.address(I)I  []
set_option maxRecDepth 100000 in
theorem q_S_address {G : GG} {P : Int → AH → Prop} {x0 : Int} {h : AH}
  (H : P (1024 + (128 * (x0 - 2))) h) :
  RunsI G 109 [vI x0] h P := runs_of (by decide) 0 rfl (go1 ok109 900 H)
-- BitmapVolume$Space.isCluster(I)Z  [7]
set_option maxRecDepth 100000 in
theorem q_S_isCluster {G : GG} {P : Int → AH → Prop} {x1 : Int} {h : AH}
  (H : ((wI x1 < (2 : Int) →
    (((0 : Int) = 0 ∨ (0 : Int) = 1) ∧ P 0 h)) ∧
    (¬ wI x1 < (2 : Int) →
    ((wI ((h 7 1) + 1) < wI x1 →
      (((0 : Int) = 0 ∨ (0 : Int) = 1) ∧ P 0 h)) ∧
      (¬ wI ((h 7 1) + 1) < wI x1 →
      (((1 : Int) = 0 ∨ (1 : Int) = 1) ∧ P 1 h)))))) :
  RunsI G 110 [vR 7, vI x1] h P := runs_of (by decide) 0 rfl (go1 ok110 900 H)
-- BitmapVolume$Space.fat(I)I  [7]
set_option maxRecDepth 100000 in
theorem q_S_fat {G : GG} {P : Int → AH → Prop} {x1 : Int} {h : AH}
  (H : RunsI G 56 [vR 1, vI (512 + (4 * x1))] h (fun r1 h1 =>
  P r1 h1)) :
  RunsI G 111 [vR 7, vI x1] h P := runs_of (by decide) 0 rfl (go1 ok111 900 H)
-- BitmapVolume$Space.setFat(II)V  [7]
set_option maxRecDepth 100000 in
theorem q_S_setFat {G : GG} {P : AH → Prop} {x1 x2 : Int} {h : AH}
  (H : RunsI G 110 [vR 7, vI x1] h (fun r1 h1 =>
  ((wI r1 = 0 →
    P h1) ∧
    (¬ wI r1 = 0 →
    RunsV G 59 [vR 1, vI (512 + (4 * x1)), vI x2] h1 (fun h2 =>
    P h2))))) :
  RunsV G 112 [vR 7, vI x1, vI x2] h P := runs_of (by decide) 0 rfl (go1 ok112 900 H)
-- BitmapVolume$Space.isTaken(I)Z  [7]
set_option maxRecDepth 100000 in
theorem q_S_isTaken {G : GG} {P : Int → AH → Prop} {x1 : Int} {h : AH}
  (H : RunsI G 109 [vI (h 7 3)] h (fun r1 h1 =>
  ((8 : Int) ≠ 0 ∧ RunsI G 54 [vR 1, vI (r1 + (Int.tdiv (wI (x1 - 2)) 8))] h1 (fun r2 h2 =>
  ((8 : Int) ≠ 0 ∧ ((wI (bA (sRI r2 (Int.tmod (wI (x1 - 2)) 8)) 1) = 0 →
    (((0 : Int) = 0 ∨ (0 : Int) = 1) ∧ P 0 h2)) ∧
    (¬ wI (bA (sRI r2 (Int.tmod (wI (x1 - 2)) 8)) 1) = 0 →
    (((1 : Int) = 0 ∨ (1 : Int) = 1) ∧ P 1 h2)))))))) :
  RunsI G 113 [vR 7, vI x1] h P := runs_of (by decide) 0 rfl (go1 ok113 900 H)
-- BitmapVolume$Space.setTaken(IZ)V  [7]
set_option maxRecDepth 100000 in
theorem q_S_setTaken {G : GG} {P : AH → Prop} {x1 x2 : Int} {h : AH}
  (H : RunsI G 110 [vR 7, vI x1] h (fun r1 h1 =>
  ((wI r1 = 0 →
    P h1) ∧
    (¬ wI r1 = 0 →
    RunsI G 109 [vI (h1 7 3)] h1 (fun r2 h2 =>
    ((8 : Int) ≠ 0 ∧ ((8 : Int) ≠ 0 ∧ ((wI x2 = 0 →
      RunsI G 54 [vR 1, vI (r2 + (Int.tdiv (wI (x1 - 2)) 8))] h2 (fun r3 h3 =>
      RunsV G 57 [vR 1, vI (r2 + (Int.tdiv (wI (x1 - 2)) 8)), vI (bA r3 (bX (sLI 1 (Int.tmod (wI (x1 - 2)) 8)) (-1)))] h3 (fun h4 =>
      P h4))) ∧
      (¬ wI x2 = 0 →
      RunsI G 54 [vR 1, vI (r2 + (Int.tdiv (wI (x1 - 2)) 8))] h2 (fun r5 h5 =>
      RunsV G 57 [vR 1, vI (r2 + (Int.tdiv (wI (x1 - 2)) 8)), vI (bO r5 (sLI 1 (Int.tmod (wI (x1 - 2)) 8)))] h5 (fun h6 =>
      P h6))))))))))) :
  RunsV G 114 [vR 7, vI x1, vI x2] h P := runs_of (by decide) 2 rfl (go1 ok114 900 H)
-- BitmapVolume$Space.isFree(I)Z  [7]
set_option maxRecDepth 100000 in
theorem q_S_isFree {G : GG} {P : Int → AH → Prop} {x1 : Int} {h : AH}
  (H : RunsI G 110 [vR 7, vI x1] h (fun r1 h1 =>
  ((wI r1 = 0 →
    (((0 : Int) = 0 ∨ (0 : Int) = 1) ∧ P 0 h1)) ∧
    (¬ wI r1 = 0 →
    ((wI x1 = wI (h1 7 4) →
      (((0 : Int) = 0 ∨ (0 : Int) = 1) ∧ P 0 h1)) ∧
      (¬ wI x1 = wI (h1 7 4) →
      RunsI G 113 [vR 7, vI x1] h1 (fun r2 h2 =>
      ((wI r2 = 0 →
        (((1 : Int) = 0 ∨ (1 : Int) = 1) ∧ P 1 h2)) ∧
        (¬ wI r2 = 0 →
        (((0 : Int) = 0 ∨ (0 : Int) = 1) ∧ P 0 h2)))))))))) :
  RunsI G 115 [vR 7, vI x1] h P := runs_of (by decide) 0 rfl (go1 ok115 900 H)
-- BitmapVolume$Space.firstFree()I  [7]
set_option maxRecDepth 100000 in
theorem q_S_firstFree {G : GG} {P : Int → AH → Prop} {h : AH}
  (H : RunsI G 118 [vR 7, vI 1] h (fun r1 h1 =>
  P r1 h1)) :
  RunsI G 116 [vR 7] h P := runs_of (by decide) 0 rfl (go1 ok116 900 H)
-- BitmapVolume$Space.isFreeRow(II)Z  [7]
set_option maxRecDepth 100000 in
theorem q_S_isFreeRow {G : GG} {P : Int → AH → Prop} {x1 x2 : Int} {h : AH}
  (H : Go G (pI P) 117 2 [some (vR 7), some (vI x1), some (vI x2), some (vI 0)] [] h) :
  RunsI G 117 [vR 7, vI x1, vI x2] h P := runs_of (by decide) 1 rfl (go1 ok117 900 H)
set_option maxRecDepth 100000 in
theorem q_S_isFreeRow_c2 {G : GG} {P : Int → AH → Prop} {x1 x2 x3 : Int} {h : AH}
  (H : ((wI x2 ≤ wI x3 →
    (((1 : Int) = 0 ∨ (1 : Int) = 1) ∧ P 1 h)) ∧
    (¬ wI x2 ≤ wI x3 →
    RunsI G 115 [vR 7, vI (x1 + x3)] h (fun r1 h1 =>
    ((wI r1 = 0 →
      (((0 : Int) = 0 ∨ (0 : Int) = 1) ∧ P 0 h1)) ∧
      (¬ wI r1 = 0 →
      Go G (pI P) 117 2 [some (vR 7), some (vI x1), some (vI x2), some (vI (x3 + 1))] [] h1)))))) :
  Go G (pI P) 117 2 [some (vR 7), some (vI x1), some (vI x2), some (vI x3)] [] h := go1 ok117 900 H
-- BitmapVolume$Space.firstRow(I)I  [7]
set_option maxRecDepth 100000 in
theorem q_S_firstRow {G : GG} {P : Int → AH → Prop} {x1 : Int} {h : AH}
  (H : Go G (pI P) 118 4 [some (vR 7), some (vI x1), some (vI 0), some (vI 2)] [] h) :
  RunsI G 118 [vR 7, vI x1] h P := runs_of (by decide) 2 rfl (go1 ok118 900 H)
set_option maxRecDepth 100000 in
theorem q_S_firstRow_c4 {G : GG} {P : Int → AH → Prop} {x1 x2 x3 : Int} {h : AH}
  (H : ((wI ((h 7 1) + 1) < wI x3 →
    P 0 h) ∧
    (¬ wI ((h 7 1) + 1) < wI x3 →
    RunsI G 115 [vR 7, vI x3] h (fun r1 h1 =>
    ((wI r1 = 0 →
      (((0 : Int) = wI x1 →
        P ((x3 - x1) + 1) h1) ∧
        (¬ (0 : Int) = wI x1 →
        Go G (pI P) 118 4 [some (vR 7), some (vI x1), some (vI 0), some (vI (x3 + 1))] [] h1))) ∧
      (¬ wI r1 = 0 →
      ((wI (x2 + 1) = wI x1 →
        P ((x3 - x1) + 1) h1) ∧
        (¬ wI (x2 + 1) = wI x1 →
        Go G (pI P) 118 4 [some (vR 7), some (vI x1), some (vI (x2 + 1)), some (vI (x3 + 1))] [] h1)))))))) :
  Go G (pI P) 118 4 [some (vR 7), some (vI x1), some (vI x2), some (vI x3)] [] h := go1 ok118 900 H
-- BitmapVolume$Space.freeOnes()I  [7]
set_option maxRecDepth 100000 in
theorem q_S_freeOnes {G : GG} {P : Int → AH → Prop} {h : AH}
  (H : Go G (pI P) 119 4 [some (vR 7), some (vI 0), some (vI 2)] [] h) :
  RunsI G 119 [vR 7] h P := runs_of (by decide) 2 rfl (go1 ok119 900 H)
set_option maxRecDepth 100000 in
theorem q_S_freeOnes_c4 {G : GG} {P : Int → AH → Prop} {x1 x2 : Int} {h : AH}
  (H : ((wI ((h 7 1) + 1) < wI x2 →
    P x1 h) ∧
    (¬ wI ((h 7 1) + 1) < wI x2 →
    RunsI G 113 [vR 7, vI x2] h (fun r1 h1 =>
    ((wI r1 = 0 →
      Go G (pI P) 119 4 [some (vR 7), some (vI (x1 + 1)), some (vI (x2 + 1))] [] h1) ∧
      (¬ wI r1 = 0 →
      Go G (pI P) 119 4 [some (vR 7), some (vI x1), some (vI (x2 + 1))] [] h1)))))) :
  Go G (pI P) 119 4 [some (vR 7), some (vI x1), some (vI x2)] [] h := go1 ok119 900 H
-- BitmapVolume$Space.longestRow()I  [7]
set_option maxRecDepth 100000 in
theorem q_S_longestRow {G : GG} {P : Int → AH → Prop} {h : AH}
  (H : Go G (pI P) 120 6 [some (vR 7), some (vI 0), some (vI 0), some (vI 2)] [] h) :
  RunsI G 120 [vR 7] h P := runs_of (by decide) 3 rfl (go1 ok120 900 H)
set_option maxRecDepth 100000 in
theorem q_S_longestRow_c6 {G : GG} {P : Int → AH → Prop} {x1 x2 x3 : Int} {h : AH}
  (H : ((wI ((h 7 1) + 1) < wI x3 →
    P x1 h) ∧
    (¬ wI ((h 7 1) + 1) < wI x3 →
    RunsI G 113 [vR 7, vI x3] h (fun r1 h1 =>
    ((wI r1 = 0 →
      Go G (pI P) 120 6 [some (vR 7), some (vI (mm 0 x1 (x2 + 1))), some (vI (x2 + 1)), some (vI (x3 + 1))] [] h1) ∧
      (¬ wI r1 = 0 →
      Go G (pI P) 120 6 [some (vR 7), some (vI (mm 0 x1 0)), some (vI 0), some (vI (x3 + 1))] [] h1)))))) :
  Go G (pI P) 120 6 [some (vR 7), some (vI x1), some (vI x2), some (vI x3)] [] h := go1 ok120 900 H
-- BitmapVolume$Space.percent()I  [7]
set_option maxRecDepth 100000 in
theorem q_S_percent {G : GG} {P : Int → AH → Prop} {h : AH}
  (H : ((wI (h 7 1) ≤ 0 →
    P 0 h) ∧
    (¬ wI (h 7 1) ≤ 0 →
    RunsI G 119 [vR 7] h (fun r1 h1 =>
    (wI (h1 7 1) ≠ 0 ∧ P (Int.tdiv (wI (100 * ((h 7 1) - r1))) (wI (h1 7 1))) h1))))) :
  RunsI G 121 [vR 7] h P := runs_of (by decide) 0 rfl (go1 ok121 900 H)
end
